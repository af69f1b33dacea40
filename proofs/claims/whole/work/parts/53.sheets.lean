/-! sheets: new rows, numbers put, cells, copies; a canal by a text -/
theorem sh_0 {k : Nat} (hk : k < 4) : q_noSheet (nI k) = 0 := by
  unfold q_noSheet
  rw [ite10]
  exact ⟨nI_pos' (by omega), nI_le (b := 3) (by omega) (by omega)⟩
theorem rSh.other {t : Nat} {sla sle : Int32} {sn sz sl sh sz' sl' sh' : Nat → Int32} (h : rSh t sla sle sn sz sl sh) (h1 : sz' t = sz t) (h2 : sl' t = sl t) (h3 : ∀ j, j < 60 → sh' (60 * t + j) = sh (60 * t + j)) : rSh t sla sle sn sz' sl' sh' := by
  rcases h with ⟨e1, e2, e3⟩ | ⟨L, M, e1, e2, e3, e4, e5, e6, e7⟩
  · exact Or.inl ⟨e1, e2, by rw [h1]; exact e3⟩
  · exact Or.inr ⟨L, M, e1, e2, e3, e4, by rw [h2]; exact e5, by rw [h1]; exact e6, fun j hj => by rw [h3 j (by omega)]; exact e7 j hj⟩
theorem lane_nI {lane : Int32} (h : m_laneOk lane) : ∃ L, L ≤ 2 ∧ lane = nI L := nI_of2 (n := 2) (M := 2) (by decide) (Int32.not_lt.mpr h.1) h.2
theorem sheet_ans {k : Nat} (hk : k < 4) (lane n : Int32) : x_nrR lane n = m_sheetR (nI k) lane n ∧ x_kf (m_sheetR (nI k) lane n) = m_sheetF (nI k) lane n ∧
    ((¬ x_nrOk lane n ∧ ¬ (m_shOk (nI k) lane n ∧ ¬ n < 0)) ∨ (x_nrOk lane n ∧ (m_shOk (nI k) lane n ∧ ¬ n < 0) ∧ ∀ (sn sz sl sh : Nat → Int32), rSh k lane n (s_fill 0 sn) (upd sz k n) (upd sl k lane) (m_sheetS (nI k) lane n sh) ∧ ∀ t, t < 4 → ¬ t = k → ∀ (sla sle : Int32) (sn : Nat → Int32), rSh t sla sle sn sz sl sh → rSh t sla sle sn (upd sz k n) (upd sl k lane) (m_sheetS (nI k) lane n sh))) := by
  unfold x_nrR m_sheetR m_sheetF
  rw [ifnn (sh_0 hk)]
  by_cases hl : m_laneOk lane ∧ n ≤ 60
  · have h1 : ¬ (s_in lane 0 2 = 0 ∨ 60 < n) := by
      rw [lane_iff]
      rintro (z | z)
      · exact z hl.1
      · exact Int32.not_lt.mpr hl.2 z
    have hok : m_shOk (nI k) lane n := ⟨sh_0 hk, hl⟩
    rw [if_neg h1, ifnn hl]
    by_cases hn : n < 0
    · have h2 : m_shOk (nI k) lane n ∧ n < 0 := ⟨hok, hn⟩
      rw [if_pos hn, if_pos h2]
      exact ⟨rfl, by decide, Or.inl ⟨fun z => z.2.2 hn, fun z => z.2 hn⟩⟩
    · have h2 : ¬ (m_shOk (nI k) lane n ∧ n < 0) := fun z => hn z.2
      have h3 : x_nrOk lane n := ⟨by rw [lane_iff]; exact fun z => z hl.1, Int32.not_lt.mpr hl.2, hn⟩
      have h4 : m_shOk (nI k) lane n ∧ ¬ n < 0 := ⟨hok, hn⟩
      rw [if_neg hn, if_neg h2]
      refine ⟨rfl, by decide, Or.inr ⟨h3, h4, fun sn sz sl sh => ?_⟩⟩
      obtain ⟨L, hL, rfl⟩ := lane_nI hl.1
      obtain ⟨N, hN, rfl⟩ := nI_of2 (n := 60) (M := 60) (by decide) hn hl.2
      have hS : m_sheetS (nI k) (nI L) (nI N) sh = fun q => if 60 * k ≤ q ∧ q < 60 * k + N then 0 else sh q := by
        unfold m_sheetS
        rw [if_pos h4, nI_clamp (by omega), nI_clamp (by omega)]
      rw [hS]
      refine ⟨Or.inr ⟨L, N, hL, hN, rfl, rfl, ?_, ?_, fun j hj => ?_⟩, fun t ht htk sla sle sn' h => h.other ?_ ?_ (fun j hj => ?_)⟩
      · unfold upd
        rw [if_pos rfl]
      · unfold upd
        rw [if_pos rfl]
      · show (if j < 60 then 0 else sn j) = if 60 * k ≤ 60 * k + j ∧ 60 * k + j < 60 * k + N then 0 else sh (60 * k + j)
        rw [if_pos (by omega), if_pos ⟨by omega, by omega⟩]
      · unfold upd
        rw [if_neg htk]
      · unfold upd
        rw [if_neg htk]
      · exact if_neg (fun z => by omega)
  · have h1 : s_in lane 0 2 = 0 ∨ 60 < n := by
      rw [lane_iff]
      by_cases z : m_laneOk lane
      · exact Or.inr (Int32.not_le.mp fun q => hl ⟨z, q⟩)
      · exact Or.inl z
    have h2 : ¬ (m_shOk (nI k) lane n ∧ n < 0) := fun z => hl z.1.2
    rw [if_pos h1, ifp0 hl, if_neg h2]
    exact ⟨rfl, by decide, Or.inl ⟨fun z => h1.elim z.1 z.2.1, fun z => hl z.1.2⟩⟩
theorem lose_ans {k : Nat} (hk : k < 4) {sla sle : Int32} {sn sz sl sh : Nat → Int32} (h : rSh k sla sle sn sz sl sh) : (if s_nothing sla = 0 then 1 else 0) = m_loseR sz (nI k) ∧ rSh k (-1) 0 sn (upd sz k (-1)) sl sh ∧ ∀ t, t < 4 → ¬ t = k → ∀ (sla sle : Int32) (sn : Nat → Int32), rSh t sla sle sn sz sl sh → rSh t sla sle sn (upd sz k (-1)) sl sh := by
  refine ⟨?_, Or.inl ⟨rfl, rfl, ?_⟩, fun t ht htk sla sle sn h => h.other ?_ rfl (fun j hj => rfl)⟩
  · unfold m_loseR s_nothing
    rw [ifnn (sh_0 hk), nI_clamp (by omega)]
    rcases h with ⟨rfl, -, e3⟩ | ⟨L, M, e1, e2, rfl, -, -, e6, -⟩
    · rw [e3]
      decide
    · rw [e6, if_neg (nI_ne_m1 (by omega)), if_neg (nI_pos (by omega)), if_pos rfl]
  · unfold upd
    rw [if_pos rfl]
  · unfold upd
    rw [if_neg htk]
/-- one cell of a sheet -/
theorem one_iff {M : Nat} (hM : M ≤ 60) (ii : Int32) : (s_shas (nI M) ii 1 = 0) = ¬ (0 ≤ ii ∧ ii < nI M) := by
  have z0 : (0 : Int32).toInt = 0 := by decide
  have z1 : (1 : Int32).toInt = 1 := by decide
  have eM := nI_toInt (n := M) (by omega)
  rw [shasI, Int32.le_iff_toInt_le, Int32.le_iff_toInt_le, Int32.le_iff_toInt_le, Int32.le_iff_toInt_le, Int32.lt_iff_toInt_lt, z0, z1, eM]
  by_cases hi : 0 ≤ ii.toInt ∧ ii.toInt ≤ M
  · rw [i32sub (by rw [eM]; omega) (by rw [eM]; omega), eM]
    apply propext
    omega
  · apply propext
    omega
theorem put_ans {k : Nat} (hk : k < 4) {sla sle : Int32} {sn sz sl sh : Nat → Int32} (h : rSh k sla sle sn sz sl sh) (ii v : Int32) : x_pnR sla sle ii = m_putR sz (nI k) ii ∧ x_kf (m_putR sz (nI k) ii) = m_putF sz (nI k) ii ∧
    rSh k sla sle (if x_pnOk sla sle ii then upd sn ii.toNatClampNeg (s_cut sla v) else sn) sz sl (m_putS sz sl sh (nI k) ii v) ∧ ∀ t, t < 4 → ¬ t = k → ∀ (sla sle : Int32) (sn : Nat → Int32), rSh t sla sle sn sz sl sh → rSh t sla sle sn sz sl (m_putS sz sl sh (nI k) ii v) := by
  unfold x_pnR m_putR m_putF m_putS
  rw [ifnn (sh_0 hk), if_pos (sh_0 hk)]
  have h0 := h
  rcases h with ⟨rfl, rfl, e3⟩ | ⟨L, M, hL, hM, rfl, rfl, e5, e6, e7⟩
  · have hc : q_noCell sz (nI k) ii = 1 := by
      unfold q_noCell
      rw [nI_clamp (by omega), e3, if_pos (by decide)]
    have h1 : ¬ q_noCell sz (nI k) ii = 0 := by rw [hc]; decide
    have h2 : ¬ s_nothing (-1) = 0 := by decide
    have h3 : ¬ x_pnOk (-1) 0 ii := fun z => h2 z.1
    have h4 : ¬ (q_noSheet (nI k) = 0 ∧ q_noCell sz (nI k) ii = 0) := fun z => h1 z.2
    rw [ifp0 h2, ifp0 h1, hc, if_neg h3]
    refine ⟨by decide, by decide, ?_, fun t ht htk sla sle sn h => ?_⟩
    · rw [if_neg (fun z => absurd z.2 (by decide))]
      exact h0
    · rw [if_neg (fun z => absurd z.2 (by decide))]
      exact h
  · have h2 : s_nothing (nI L) = 0 := if_neg (nI_ne_m1 (by omega))
    rw [ifnn h2]
    by_cases hi : 0 ≤ ii ∧ ii < nI M
    · have hc : q_noCell sz (nI k) ii = 0 := by
        unfold q_noCell
        rw [nI_clamp (by omega), e6, if_neg (nI_pos (by omega)), if_pos hi]
      have h1 : ¬ s_shas (nI M) ii 1 = 0 := by
        rw [one_iff hM]
        exact fun z => z hi
      have h3 : x_pnOk (nI L) (nI M) ii := ⟨h2, h1⟩
      have h4 : q_noSheet (nI k) = 0 ∧ q_noCell sz (nI k) ii = 0 := ⟨sh_0 hk, hc⟩
      rw [if_neg h1, ifnn hc, if_pos h3, if_pos h4, hc]
      obtain ⟨I, hI, rfl⟩ := vp_in_of (vpN (n := M) (N := nI M) (nI_toInt (by omega)) hi.1 hi.2) (by omega)
      have ei : ((60 : Int32) * nI k + nI I).toNatClampNeg = 60 * k + I := by rw [show (60 : Int32) = nI 60 from rfl, nI_mul, nI_add, nI_clamp (by omega)]
      rw [ei, nI_clamp (by omega), nI_clamp (by omega), e5]
      refine ⟨rfl, by decide, Or.inr ⟨L, M, hL, hM, rfl, rfl, e5, e6, fun j hj => ?_⟩, fun t ht htk sla sle sn h => h.other rfl rfl (fun j hj => ?_)⟩
      · unfold upd
        by_cases z : j = I
        · rw [if_pos z, if_pos (by omega)]
        · rw [if_neg z, if_neg (by omega)]
          exact e7 j hj
      · unfold upd
        exact if_neg (by omega)
    · have hc : q_noCell sz (nI k) ii = 3 := by
        unfold q_noCell
        rw [nI_clamp (by omega), e6, if_neg (nI_pos (by omega)), if_neg hi]
      have h1 : s_shas (nI M) ii 1 = 0 := by
        rw [one_iff hM]
        exact hi
      have h3 : ¬ x_pnOk (nI L) (nI M) ii := fun z => z.2 h1
      have h5 : ¬ q_noCell sz (nI k) ii = 0 := by rw [hc]; decide
      rw [if_pos h1, ifp0 h5, hc, if_neg h3]
      refine ⟨by decide, by decide, ?_, fun t ht htk sla sle sn h => ?_⟩
      · rw [if_neg (fun z => absurd z.2 (by decide))]
        exact h0
      · rw [if_neg (fun z => absurd z.2 (by decide))]
        exact h
theorem cell_ans {k : Nat} (hk : k < 4) {sla sle : Int32} {sn sz sl sh : Nat → Int32} (h : rSh k sla sle sn sz sl sh) (lane ii : Int32) : x_cellR sla sle sn lane ii = m_cellR sz sl sh (nI k) ii lane ∧ x_kf (x_rp sla sle lane ii 1) = m_cellF sz sl (nI k) ii lane := by
  unfold x_cellR m_cellR m_cellF x_rp
  by_cases hl : m_laneOk lane
  · have hq : q_noSheet (nI k) = 0 ∧ m_laneOk lane := ⟨sh_0 hk, hl⟩
    rw [ifnn hq, rl_ok hl, nI_clamp (by omega)]
    rcases h with ⟨rfl, rfl, e3⟩ | ⟨L, M, hL, hM, rfl, rfl, e5, e6, e7⟩
    · have hc : q_noCell sz (nI k) ii = 1 := by
        unfold q_noCell
        rw [nI_clamp (by omega), e3, if_pos (by decide)]
      have h1 : ¬ (0 ≤ sz k ∧ ¬ sl k = lane) := fun z => by
        rw [e3] at z
        exact absurd z.1 (by decide)
      rw [if_neg h1, hc, if_pos rfl, ifp0 n11, if_neg n11, if_neg (fun z => absurd z.2.2 (by decide))]
      exact ⟨rfl, by decide⟩
    · rw [if_neg (nI_ne_m1 (by omega))]
      by_cases hL2 : nI L = lane
      · have h1 : ¬ (0 ≤ sz k ∧ ¬ sl k = lane) := fun z => by
          rw [e5] at z
          exact z.2 hL2
        rw [if_neg h1, if_pos hL2, ifnn (show (0 : Int32) = 0 from rfl)]
        by_cases hi : 0 ≤ ii ∧ ii < nI M
        · have hc : q_noCell sz (nI k) ii = 0 := by
            unfold q_noCell
            rw [nI_clamp (by omega), e6, if_neg (nI_pos (by omega)), if_pos hi]
          have h2 : ¬ s_shas (nI M) ii 1 = 0 := by
            rw [one_iff hM]
            exact fun z => z hi
          rw [if_neg h2, if_pos rfl, hc, if_pos ⟨sh_0 hk, hl, rfl⟩]
          obtain ⟨I, hI, rfl⟩ := vp_in_of (vpN (n := M) (N := nI M) (nI_toInt (by omega)) hi.1 hi.2) (by omega)
          have ei : ((60 : Int32) * nI k + nI I).toNatClampNeg = 60 * k + I := by rw [show (60 : Int32) = nI 60 from rfl, nI_mul, nI_add, nI_clamp (by omega)]
          rw [ei, nI_clamp (by omega), e7 I hI]
          exact ⟨rfl, by decide⟩
        · have hc : q_noCell sz (nI k) ii = 3 := by
            unfold q_noCell
            rw [nI_clamp (by omega), e6, if_neg (nI_pos (by omega)), if_neg hi]
          have h2 : s_shas (nI M) ii 1 = 0 := by
            rw [one_iff hM]
            exact hi
          rw [if_pos h2, hc, if_neg n13, if_neg (fun z => absurd z.2.2 (by decide))]
          exact ⟨rfl, by decide⟩
      · have h1 : 0 ≤ sz k ∧ ¬ sl k = lane := ⟨by rw [e6]; exact nI_pos' (by omega), by rw [e5]; exact hL2⟩
        rw [if_pos h1, if_neg hL2, ifp0 n12, if_neg n12, if_neg (fun z => absurd z.2.2 (by decide))]
        exact ⟨rfl, by decide⟩
  · have hq : ¬ (q_noSheet (nI k) = 0 ∧ m_laneOk lane) := fun z => hl z.2
    have hq2 : ¬ (q_noSheet (nI k) = 0 ∧ m_laneOk lane ∧ (0 : Int32) = 0) := fun z => hl z.2.1
    rw [ifp0 hq, rl_not hl, ifp0 n2, if_neg n2, if_neg hq2]
    exact ⟨rfl, by decide⟩
theorem beyond_iff {M : Nat} (hM : M ≤ 60) (i n : Int32) : (s_shas (nI M) i n = 0) = ¬ (q_beyond i n.toInt64 (nI M) = 0) := by
  have z0 : (0 : Int32).toInt = 0 := by decide
  have zl : (0 : Int64).toInt = 0 := by decide
  have eM := nI_toInt (n := M) (by omega)
  have bi := i32b i
  have bn := i32b n
  unfold q_beyond
  rw [ite01, Classical.not_not, Int32.lt_iff_toInt_lt, z0, Int64.lt_iff_toInt_lt, Int64.lt_iff_toInt_lt, i64add (by rw [i64t, i64t]; omega) (by rw [i64t, i64t]; omega), i64t, i64t, i64t, eM, zl, shasI, Int32.le_iff_toInt_le, Int32.le_iff_toInt_le, Int32.le_iff_toInt_le, Int32.le_iff_toInt_le, z0, eM]
  by_cases hi : 0 ≤ i.toInt ∧ i.toInt ≤ M
  · rw [i32sub (by rw [eM]; omega) (by rw [eM]; omega), eM]
    apply propext
    omega
  · apply propext
    omega
theorem run_nI {M : Nat} (hM : M ≤ 60) {i n : Int32} (h : ¬ s_shas (nI M) i n = 0) : ∃ I N, i = nI I ∧ n = nI N ∧ I + N ≤ M := by
  have z0 : (0 : Int32).toInt = 0 := by decide
  have eM := nI_toInt (n := M) (by omega)
  rw [shasI, Classical.not_not, Int32.le_iff_toInt_le, Int32.le_iff_toInt_le, Int32.le_iff_toInt_le, Int32.le_iff_toInt_le, z0, eM] at h
  obtain ⟨⟨a1, a2⟩, a3, a4⟩ := h
  rw [i32sub (by rw [eM]; omega) (by rw [eM]; omega), eM] at a4
  obtain ⟨I, hI, rfl⟩ := nI_of (x := i) (by rw [Int32.lt_iff_toInt_lt, z0]; omega)
  obtain ⟨N, hN, rfl⟩ := nI_of (x := n) (by rw [Int32.lt_iff_toInt_lt, z0]; omega)
  rw [nI_toInt hI, nI_toInt hN] at a4
  exact ⟨I, N, rfl, rfl, by omega⟩
theorem copy_ans {k o : Nat} (hk : k < 4) (ho : o < 4) {sla sle ula ule : Int32} {sn un sz sl sh : Nat → Int32} (h : rSh k sla sle sn sz sl sh) (h' : rSh o ula ule un sz sl sh) (i j n : Int32) : x_cpR sla sle ula ule i j n = m_copyR sz sl (nI k) i (nI o) j n ∧ x_kf (m_copyR sz sl (nI k) i (nI o) j n) = m_copyF sz sl (nI k) i (nI o) j n ∧
    rSh o ula ule (x_cpS sla sle ula ule sn un i j n) sz sl (m_copyS sz sl sh (nI k) i (nI o) j n) ∧ ∀ t, t < 4 → ¬ t = o → ∀ (sla sle : Int32) (sn : Nat → Int32), rSh t sla sle sn sz sl sh → rSh t sla sle sn sz sl (m_copyS sz sl sh (nI k) i (nI o) j n) := by
  have hK : m_cpK (nI k) (nI o) := ⟨sh_0 hk, sh_0 ho⟩
  unfold x_cpR m_copyR m_copyF
  rw [ifnn hK, if_pos hK]
  have fail : ∀ c : Int32, ¬ c = 0 → m_cpBar sz sl (nI k) i (nI o) j n = c → m_copyS sz sl sh (nI k) i (nI o) j n = sh := fun c hc e => by
    unfold m_copyS
    exact if_neg (fun z => hc (by rw [← e]; exact z.2))
  have noS : ¬ x_cpOk sla sle ula ule i j n → x_cpS sla sle ula ule sn un i j n = un := fun z => if_neg z
  have hb : m_cpBar sz sl (nI k) i (nI o) j n = if sz k < 0 ∨ sz o < 0 then 1 else if ¬ sl k = sl o then 2 else if ¬ q_beyond i n.toInt64 (sz k) = 0 ∨ ¬ q_beyond j n.toInt64 (sz o) = 0 then 3 else 0 := by
    unfold m_cpBar
    rw [nI_clamp (by omega), nI_clamp (by omega)]
  by_cases hno : s_nothing sla = 0 ∧ s_nothing ula = 0
  · rcases h with ⟨rfl, -, -⟩ | ⟨L, M, hL, hM, rfl, rfl, e5, e6, e7⟩
    · exact absurd hno.1 (by decide)
    rcases h' with ⟨rfl, -, -⟩ | ⟨L', M', hL', hM', rfl, rfl, f5, f6, f7⟩
    · exact absurd hno.2 (by decide)
    have hself : rSh o (nI L') (nI M') un sz sl sh := Or.inr ⟨L', M', hL', hM', rfl, rfl, f5, f6, f7⟩
    have hneg : ¬ (sz k < 0 ∨ sz o < 0) := by
      rw [e6, f6]
      rintro (z | z) <;> exact nI_pos (by omega) z
    rw [ifnn hno]
    rw [if_neg hneg, e5, f5, e6, f6] at hb
    by_cases hla : nI L = nI L'
    · rw [ifnn hla] at hb
      rw [ifnn hla]
      by_cases hs : s_shas (nI M) i n = 0 ∨ s_shas (nI M') j n = 0
      · have hs2 : ¬ q_beyond i n.toInt64 (nI M) = 0 ∨ ¬ q_beyond j n.toInt64 (nI M') = 0 := by
          rw [← beyond_iff hM, ← beyond_iff hM']
          exact hs
        rw [if_pos hs2] at hb
        rw [if_pos hs, hb, fail 3 (by decide) hb, noS (fun z => hs.elim z.2.2.1 z.2.2.2), ifp0 (show ¬ (3 : Int32) = 0 by decide)]
        exact ⟨by decide, by decide, hself, fun t ht htk sla sle sn h => h⟩
      · have hs2 : ¬ (¬ q_beyond i n.toInt64 (nI M) = 0 ∨ ¬ q_beyond j n.toInt64 (nI M') = 0) := by
          rw [← beyond_iff hM, ← beyond_iff hM']
          exact hs
        rw [if_neg hs2] at hb
        obtain ⟨h1, h2⟩ := not_or.mp hs
        obtain ⟨I, N, rfl, rfl, hIN⟩ := run_nI hM h1
        obtain ⟨J, N', rfl, eN, hJN⟩ := run_nI hM' h2
        have e60 : ∀ x y : Nat, x < 4 → y ≤ 60 → ((60 : Int32) * nI x + nI y).toNatClampNeg = 60 * x + y := fun x y hx hy => by rw [show (60 : Int32) = nI 60 from rfl, nI_mul, nI_add, nI_clamp (by omega)]
        have hNN : N = N' := by
          have b1 := i32b (nI N)
          have hN0 : N < 2 ^ 31 := by omega
          rw [shasI, Classical.not_not] at h2
          have h23 := h2.2.2
          rw [Int32.le_iff_toInt_le, i32sub (by rw [nI_toInt (by omega), nI_toInt (by omega)]; omega) (by rw [nI_toInt (by omega), nI_toInt (by omega)]; omega), nI_toInt (by omega), nI_toInt (by omega), nI_toInt (by omega)] at h23
          have hN' : N' < 2 ^ 31 := by omega
          exact (nI_eq hN0 hN').mp eN
        subst hNN
        have hS : m_copyS sz sl sh (nI k) (nI I) (nI o) (nI J) (nI N) = fun q => if 60 * o + J ≤ q ∧ q < 60 * o + J + N then sh (60 * k + I + (q - (60 * o + J))) else sh q := by
          unfold m_copyS
          rw [if_pos ⟨hK, hb⟩, e60 o J ho (by omega), e60 k I hk (by omega), nI_clamp (by omega)]
        have hX : x_cpS (nI L) (nI M) (nI L') (nI M') sn un (nI I) (nI J) (nI N) = fun q => if J ≤ q ∧ q < J + N then sn (I + (q - J)) else un q := by
          unfold x_cpS va_cpy
          rw [if_pos ⟨hno, hla, h1, h2⟩, nI_clamp (by omega), nI_clamp (by omega), nI_clamp (by omega)]
        rw [if_neg hs, hb, ifnn (show (0 : Int32) = 0 from rfl), hS, hX]
        refine ⟨rfl, kf_pos (nI_pos (by omega)), Or.inr ⟨L', M', hL', hM', rfl, rfl, f5, f6, fun q hq => ?_⟩, fun t ht hto sla sle sn h => h.other rfl rfl (fun q hq => if_neg (fun z => by omega))⟩
        show (if J ≤ q ∧ q < J + N then sn (I + (q - J)) else un q) = if 60 * o + J ≤ 60 * o + q ∧ 60 * o + q < 60 * o + J + N then sh (60 * k + I + (60 * o + q - (60 * o + J))) else sh (60 * o + q)
        by_cases hq2 : J ≤ q ∧ q < J + N
        · rw [if_pos hq2, if_pos ⟨by omega, by omega⟩, e7 _ (by omega)]
          exact congrArg sh (by omega)
        · rw [if_neg hq2, if_neg (fun z => hq2 ⟨by omega, by omega⟩)]
          exact f7 q hq
    · rw [ifp0 hla] at hb
      rw [ifp0 hla, hb, fail 2 (by decide) hb, noS (fun z => hla z.2.1), ifp0 (show ¬ (2 : Int32) = 0 by decide)]
      exact ⟨by decide, by decide, hself, fun t ht htk sla sle sn h => h⟩
  · have hneg : sz k < 0 ∨ sz o < 0 := by
      rcases h with ⟨-, -, e⟩ | ⟨L, M, hL, hM, rfl, -⟩
      · exact Or.inl (by rw [e]; decide)
      · rcases h' with ⟨-, -, e⟩ | ⟨L', M', hL', hM', rfl, -⟩
        · exact Or.inr (by rw [e]; decide)
        · exact absurd ⟨if_neg (nI_ne_m1 (by omega)), if_neg (nI_ne_m1 (by omega))⟩ hno
    rw [if_pos hneg] at hb
    rw [ifp0 hno, hb, fail 1 (by decide) hb, noS (fun z => hno z.1), ifp0 (show ¬ (1 : Int32) = 0 by decide)]
    exact ⟨by decide, by decide, h', fun t ht htk sla sle sn h => h⟩
/-- a canal by a text -/
theorem canal_ans {k : Nat} (hk : k < 4) {sla sle : Int32} {sn sz sl sh : Nat → Int32} (h : rSh k sla sle sn sz sl sh) (lane i n : Int32) (xc jstr ek ewt rstr rk rw : Nat → Int32) :
    x_ttR sla sle lane i n sn xc jstr ek ewt = m_canalR sz sl sh rstr rk rw (nI k) lane i n ∧ x_kf (m_canalR sz sl sh rstr rk rw (nI k) lane i n) = m_canalF sz sl (nI k) lane i n ∧
    ((¬ x_ttOk sla sle lane i n sn xc jstr ek ewt ∧ ¬ m_cnOk sz sl sh rstr rk rw (nI k) lane i n) ∨
     (x_ttOk sla sle lane i n sn xc jstr ek ewt ∧ m_cnOk sz sl sh rstr rk rw (nI k) lane i n ∧ ∃ a b s f, 1 ≤ a ∧ gOk a b ∧ 1 ≤ s ∧ s ≤ 4 ∧ f ≤ 9 ∧ itHi n (s_cpT sn xc i n) (0, 0) = nI a ∧ itWi n (s_cpT sn xc i n) (0, 0) = nI b ∧ itFr n (s_cpT sn xc i n) (0, 0) = nI f ∧ (x_ttIce sn xc i n jstr).2.2 = fcM b a ∧ (x_ttCrew sn xc i n jstr ek ewt).2.2.2 = nI s ∧
        q_hi (60 * nI k + i) n sh = nI a ∧ q_wi (60 * nI k + i) n sh = nI b ∧ q_fr (60 * nI k + i) n sh = nI f ∧ (q_sk (60 * nI k + i) n sh rstr rk rw).2.2.2.1 = nI s ∧ rS (a * b) (x_ttIce sn xc i n jstr).2.1 (q_ce (60 * nI k + i) n sh rstr).2.1 ∧ rC s (x_ttCrew sn xc i n jstr ek ewt).2.1 (x_ttCrew sn xc i n jstr ek ewt).2.2.1 (q_sk (60 * nI k + i) n sh rstr rk rw).2.1 (q_sk (60 * nI k + i) n sh rstr rk rw).2.2.1)) := by
  by_cases hl : m_laneOk lane
  · have hq : q_noSheet (nI k) = 0 ∧ m_laneOk lane := ⟨sh_0 hk, hl⟩
    unfold x_ttR m_canalR m_canalF
    rw [ifnn (sh_0 hk), ifnn hl, if_pos hq]
    have bad : ∀ c : Int32, ¬ c = 0 → q_barred sz sl (nI k) lane i n.toInt64 = c → ¬ m_cnOk sz sl sh rstr rk rw (nI k) lane i n := fun c hc e z => hc (by rw [← e]; exact z.1.2.2)
    rcases bar_spec hk h hl i n with ⟨b1, b2⟩ | ⟨b1, b2⟩ | ⟨b1, b0, b2⟩ | ⟨b1, b0, b3, b2⟩ | ⟨b1, b0, b3, b2, I, N, rfl, rfl, hIN, hcp⟩
    · rw [b1, b2, ifp0 n11, ifp0 (show ¬ (1 : Int32) = 0 by decide)]
      exact ⟨by decide, by decide, Or.inl ⟨fun z => absurd z.1.1 (by rw [b1]; decide), bad 1 (by decide) b2⟩⟩
    · rw [b1, b2, ifp0 n12, ifp0 (show ¬ (2 : Int32) = 0 by decide)]
      exact ⟨by decide, by decide, Or.inl ⟨fun z => absurd z.1.1 (by rw [b1]; decide), bad 2 (by decide) b2⟩⟩
    · rw [b1, b2, ifnn (show (0 : Int32) = 0 from rfl), if_pos b0, ifp0 (show ¬ (4 : Int32) = 0 by decide)]
      exact ⟨by decide, by decide, Or.inl ⟨fun z => z.1.2.1 b0, bad 4 (by decide) b2⟩⟩
    · rw [b1, b2, ifnn (show (0 : Int32) = 0 from rfl), if_neg b0, if_pos b3, ifp0 (show ¬ (3 : Int32) = 0 by decide)]
      exact ⟨by decide, by decide, Or.inl ⟨fun z => z.1.2.2 b3, bad 3 (by decide) b2⟩⟩
    · have ei : (60 : Int32) * nI k + nI I = nI (60 * k + I) := by rw [show (60 : Int32) = nI 60 from rfl, nI_mul, nI_add]
      have hcode : ∀ j, j < N → s_cpT sn xc (nI I) (nI N) j = sh (60 * k + I + j) := fun j hj => by
        unfold s_cpT va_cpy
        rw [nI_clamp (by omega), nI_clamp (by omega), show (0 : Int32).toNatClampNeg = 0 by decide, if_pos ⟨by omega, by omega⟩, Nat.sub_zero]
        exact hcp j hj
      obtain ⟨T1, T2⟩ := text_ans (xc := s_cpT sn xc (nI I) (nI N)) (sh := sh) (N := N) (F := 60 * k + I) (by omega) (by omega) hcode jstr ek ewt rstr rk rw
      have hgo : x_ttGo sla sle lane (nI I) (nI N) := ⟨b1, b0, b3⟩
      have hgm : m_cnGo sz sl (nI k) lane (nI I) (nI N) := ⟨sh_0 hk, hl, b2⟩
      have T1' : txtR N (x_ttCrew sn xc (nI I) (nI N) jstr ek ewt) (q_sk (nI (60 * k + I)) (nI N) sh rstr rk rw) := T1
      rw [b1, b2, ifnn (show (0 : Int32) = 0 from rfl), if_neg b0, if_neg b3, ifnn (show (0 : Int32) = 0 from rfl), ei]
      rcases T1' with ⟨t1, t2, t3, r, hr, t4⟩ | ⟨t1, t2, s, hs2, hs4, t3, t4, t5⟩
      · have t2' : ¬ x_ttEnd sn xc (nI I) (nI N) jstr ek ewt = 0 := t2
        rw [ifp0 t2', if_pos t1, t3, t4]
        refine ⟨rfl, kf_100 hr, Or.inl ⟨fun z => t2' z.2, fun z => z.2 ?_⟩⟩
        rw [ei]
        exact t1
      · have t2' : x_ttEnd sn xc (nI I) (nI N) jstr ek ewt = 0 := t2
        obtain ⟨a, b, f, a1, a4, c2, c5, hf, u1, u2, u3, u4, u5, u6, u7, u8⟩ := T2 t1
        rw [ifnn t2', if_neg t1, t3, t4]
        refine ⟨rfl, kf_pos (nI_pos (by omega)), Or.inr ⟨⟨hgo, t2'⟩, ⟨hgm, by rw [ei]; exact t1⟩, a, b, s, f, a1, ⟨by omega, by omega, Or.inr ⟨a1, by omega⟩⟩, by omega, hs4, hf, u1, u2, u3, u7, rfl, u4, u5, u6, rfl, u8, t5⟩⟩
  · have hq : ¬ (q_noSheet (nI k) = 0 ∧ m_laneOk lane) := fun z => hl z.2
    have hx : ¬ x_rl sla lane = 0 := by
      rw [rl_not hl]
      decide
    unfold x_ttR m_canalR m_canalF
    rw [ifnn (sh_0 hk), ifp0 hl, if_neg hq, ifp0 hx, rl_not hl]
    exact ⟨rfl, by decide, Or.inl ⟨fun z => hx z.1.1, fun z => hl z.1.2.1⟩⟩
