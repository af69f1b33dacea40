theorem ok_X7_bond (l : Launch) (G : GT) (h_X7_beside : K_X7_beside l G) (h_X7_goBond : K_X7_goBond l G) (h_X7_in : K_X7_in l G) (h_X7_noPlace : K_X7_noPlace l G) (h_X7_noTwo : K_X7_noTwo l G) (h_X7_strokeBy : K_X7_strokeBy l G) : K_X7_bond l G := by
  intro m0 a4 a6 a7 a15 a16 a17 a21 a22 a24 a25 a26 a27 a28 a29 a30 f0 f1 f2 f3 f5 f8 f9 f10 f11 f12 f13 f14 f18 f19 f20 f23 f31 g4 g6 g7 g15 g16 g17 g21 g22 g24 g25 g26 g27 g28 g29 g30 a b fro to k p0 p1 p2
  refine wk_X7_bond l G m0 a4 a6 a7 a15 a16 a17 a21 a22 a24 a25 a26 a27 a28 a29 a30 f0 f1 f2 f3 f5 f8 f9 f10 f11 f12 f13 f14 f18 f19 f20 f23 f31 g4 g6 g7 g15 g16 g17 g21 g22 g24 g25 g26 g27 g28 g29 g30 a b fro to k (m_bondR f1 f2 f5 f8 f9 g4 g6 g7 g22 a b fro to k) (fun c x y z => m_bKnown f1 f2 f5 a b fro to ∧ (-1 ≤ k ∧ k ≤ 39) ∧ ¬ k < 0 ∧ ¬ q_bondL f1 f2 f8 f9 g4 g6 g7 g22 a b to fro.toNatClampNeg ≤ k ∧ z = q_bondL f1 f2 f8 f9 g4 g6 g7 g22 a b to ∧ ∃ m, m ≤ k.toNatClampNeg ∧ c = k.toNatClampNeg - m ∧ y = nI m ∧ x = q_walkN f1 f2 f8 f9 g4 g6 g7 (q_bondL f1 f2 f8 f9 g4 g6 g7 g22 a b to) a b fro m) h_X7_beside h_X7_goBond h_X7_in h_X7_noPlace h_X7_noTwo h_X7_strokeBy ?_ ?_
  · refine ⟨fun h => ?_, fun h1 => ⟨fun h => ?_, fun h2 => ⟨fun h3 => ⟨fun h4 => ?_, fun h4 => ?_⟩, fun h => ?_⟩⟩⟩
    · unfold m_bondR; rw [if_pos (fun z => h z.1)]
    · unfold m_bondR; rw [if_pos (fun z => h z.2.1)]
    · have hk := (vpTwo p1).resolve_left (fun z => z h1)
      have hf := (vpP p0).resolve_left (fun z => z h2)
      have hok : m_bKnown f1 f2 f5 a b fro to := ⟨h1, h2, h3⟩
      rw [q_inm39, Classical.not_not] at h4
      have hR : m_bondR f1 f2 f5 f8 f9 g4 g6 g7 g22 a b fro to k = m_bondA f1 f2 f8 f9 g4 g6 g7 (q_bondL f1 f2 f8 f9 g4 g6 g7 g22 a b to) a b fro k := by
        unfold m_bondR
        rw [if_neg (fun z => z hok), if_neg (fun z => z h4)]
      refine ⟨p0, hf.2, hk.1, hk.2, fun z hz => ?_⟩
      replace hz := hz.symm
      subst hz
      rw [hR]
      unfold m_bondA
      refine ⟨vp20_40 hf.1, fun h5 => ⟨fun h6 => absurd h5 (Int32.not_lt.mpr h6), fun h6 => ?_⟩, fun h5 => ⟨fun h6 => ?_, fun h6 => ⟨fun h7 => ?_, fun h7 => absurd (Int32.not_lt.mp h5) h7⟩⟩⟩
      · rw [if_pos h5]
      · exact ⟨k.toNatClampNeg, hok, h4, h5, Int32.not_le.mpr h6, rfl, 0, Nat.zero_le _, by omega, rfl, by rw [q_walkN]⟩
      · rw [if_neg h5, if_pos (Int32.not_lt.mp h6)]
    · rw [q_inm39] at h4
      unfold m_bondR
      rw [if_neg (fun z => z ⟨h1, h2, h3⟩), if_pos h4]
    · unfold m_bondR; rw [if_pos (fun z => h z.2.2)]
  · rintro c x y z ⟨hok, h4, h5, h6, rfl, m, hm, rfl, rfl, rfl⟩
    have hk := (vpTwo p1).resolve_left (fun z => z hok.1)
    have hf := (vpP p0).resolve_left (fun z => z hok.2.1)
    have hw := p2 hok h5 h6
    have hR : m_bondR f1 f2 f5 f8 f9 g4 g6 g7 g22 a b fro to k = m_bondA f1 f2 f8 f9 g4 g6 g7 (q_bondL f1 f2 f8 f9 g4 g6 g7 g22 a b to) a b fro k := by
      unfold m_bondR
      rw [if_neg (fun z => z hok), if_neg (fun z => z h4)]
    obtain ⟨K, hK, ek⟩ := nI_of h5
    have hc : k.toNatClampNeg = K := by rw [ek, nI_clamp hK]
    rw [hc] at hm hw ⊢
    refine ⟨fun h => ?_, fun h => ?_⟩
    · rw [ek] at h
      have e := lp_done hK hm h
      subst e
      refine ⟨p0, hf.2, hk.1, hk.2, hw m (Nat.le_refl _), ?_, ?_⟩
      · rw [ek, par_nI hK]
        exact par01 _
      · rw [hR]
        unfold m_bondA
        rw [if_neg h5, if_neg h6, hc]
        rw [show k - k / 2 * 2 = nI (m % 2) by rw [ek, par_nI hK]]
    · rw [ek] at h
      have hlt := lp_more hK hm h
      rw [par_nI (by omega)]
      exact ⟨p0, hf.2, hk.1, hk.2, hw m hm, par01 _, hf.2, K - (m + 1), by omega, hok, h4, h5, h6, rfl, m + 1, by omega, by omega, nI_1 m, by rw [q_walkN]⟩

theorem ok_X7_alone (l : Launch) (G : GT) (h_X7_bears : K_X7_bears l G) (h_X7_beside : K_X7_beside l G) (h_X7_cells : K_X7_cells l G) (h_X7_isIn : K_X7_isIn l G) (h_X7_noPlace : K_X7_noPlace l G) (h_X7_noSkater : K_X7_noSkater l G) : K_X7_alone l G := by
  intro m0 a4 a6 a7 a15 a16 a17 a21 a22 a24 a25 a26 a27 a28 a29 a30 f0 f1 f2 f3 f5 f8 f9 f10 f11 f12 f13 f14 f18 f19 f20 f23 f31 g4 g6 g7 g15 g16 g17 g21 g22 g24 g25 g26 g27 g28 g29 g30 a fro p0 p1
  obtain ⟨N, hN, e1, e2, -⟩ := p0.n
  refine wk_X7_alone l G m0 a4 a6 a7 a15 a16 a17 a21 a22 a24 a25 a26 a27 a28 a29 a30 f0 f1 f2 f3 f5 f8 f9 f10 f11 f12 f13 f14 f18 f19 f20 f23 f31 g4 g6 g7 g15 g16 g17 g21 g22 g24 g25 g26 g27 g28 g29 g30 a fro (m_aloneR f1 f2 f5 f8 f9 g4 g6 g7 a fro) (fun c x y => (q_noSk f5 a = 0 ∧ q_noPlace f1 f2 fro = 0) ∧ ∃ k, k ≤ N ∧ c = N - k ∧ y = nI k ∧ x = q_alR f1 f2 f8 f9 g4 g6 g7 a N k ((1 : Int32) <<< (fro &&& 31))) (fun n25 x25 y25 c x y z => y = y25 ∧ ¬ f1 * f2 ≤ y25 ∧ ∃ q, q ≤ 4 * N ∧ c = 4 * N - q ∧ z = nI q ∧ x = q_alN f1 f2 f8 f9 g4 g6 g7 a q x25) h_X7_bears h_X7_beside h_X7_cells h_X7_isIn h_X7_noPlace h_X7_noSkater ?_ ?_ ?_
  · refine ⟨fun h => ?_, fun h => ⟨fun h2 => ?_, fun h2 => ?_⟩⟩
    · unfold m_aloneR; rw [if_pos (fun z => h z.1)]
    · exact ⟨N, ⟨h, h2⟩, 0, Nat.zero_le _, by omega, rfl, (alR0 _ _ _ _ _ _ _ _ _ _).symm⟩
    · unfold m_aloneR; rw [if_pos (fun z => h2 z.2)]
  · rintro c x y ⟨hok, k, hk, rfl, rfl, rfl⟩
    refine ⟨fun h => ?_, fun h => ⟨4 * N, rfl, h, 0, Nat.zero_le _, by omega, rfl, (alN0 _ _ _ _ _ _ _ _ _).symm⟩⟩
    rw [e1] at h
    unfold m_aloneR
    rw [if_neg (fun z => z hok), e2, lp_done (by omega) hk h]
  · rintro c x y ⟨hok, k, hk, rfl, rfl, rfl⟩ n37 x4 x5 x6 ⟨rfl, h41, q, hq, rfl, rfl, rfl⟩
    have ha := (vpQ p1).resolve_left (fun z => z hok.1)
    have hf := (vpP p0).resolve_left (fun z => z hok.2)
    rw [e1] at h41
    have hk2 := lp_more (by omega) hk h41
    rw [e1, show (4 : Int32) * nI N = nI (4 * N) from nI_mul 4 N]
    refine ⟨fun h => ?_, fun h => ⟨hf.2, ⟨fun _ => trivial, fun _ => ⟨fun _ => trivial, fun h3 => ⟨besideIn p0 hf.2 (Int32.not_lt.mp h3), ha⟩⟩⟩, ?_⟩⟩
    · have e := lp_done (by omega) hq h
      subst e
      exact ⟨N - (k + 1), by omega, hok, k + 1, by omega, by omega, nI_1 k, by rw [alRS]⟩
    · have hlt := lp_more (by omega) hq h
      intro v ev
      replace ev := ev.symm
      subst ev
      refine ⟨4 * N - (q + 1), by omega, rfl, h41, q + 1, by omega, by omega, nI_1 q, ?_⟩
      rw [alNS, rem4 (by omega), div4 (by omega)]
      unfold q_alStep
      congr 1
      grind

theorem ok_X7_sheet (l : Launch) (G : GT) (h_X7_failed : K_X7_failed l G) (h_X7_in : K_X7_in l G) (h_X7_noSheet : K_X7_noSheet l G) (h_X7_refused : K_X7_refused l G) : K_X7_sheet l G := by
  intro m0 a4 a6 a7 a15 a16 a17 a21 a22 a24 a25 a26 a27 a28 a29 a30 f0 f1 f2 f3 f5 f8 f9 f10 f11 f12 f13 f14 f18 f19 f20 f23 f31 g4 g6 g7 g15 g16 g17 g21 g22 g24 g25 g26 g27 g28 g29 g30 k lane n
  refine wk_X7_sheet l G m0 a4 a6 a7 a15 a16 a17 a21 a22 a24 a25 a26 a27 a28 a29 a30 f0 f1 f2 f3 f5 f8 f9 f10 f11 f12 f13 f14 f18 f19 f20 f23 f31 g4 g6 g7 g15 g16 g17 g21 g22 g24 g25 g26 g27 g28 g29 g30 k lane n (m_sheetR k lane n) (m_sheetF k lane n) (if m_shOk k lane n ∧ ¬ n < 0 then upd g27 k.toNatClampNeg n else g27) (if m_shOk k lane n ∧ ¬ n < 0 then upd g28 k.toNatClampNeg lane else g28) (m_sheetS k lane n g29) (fun c x y => m_shOk k lane n ∧ ¬ n < 0 ∧ ∃ m N, n = nI N ∧ N ≤ 60 ∧ m ≤ N ∧ c = N - m ∧ x = nI m ∧ y = fun q => if 60 * k.toNatClampNeg ≤ q ∧ q < 60 * k.toNatClampNeg + m then 0 else g29 q) h_X7_failed h_X7_in h_X7_noSheet h_X7_refused ?_ ?_
  · refine ⟨fun h => ⟨fun h2 => ?_, fun h2 => ⟨fun h3 => ⟨fun h4 => ?_, fun h4 => ?_⟩, fun h3 => ?_⟩⟩, fun h => ?_⟩
    · rw [q_in02] at h2
      unfold m_sheetR m_sheetF m_sheetS
      grind
    · rw [q_in02, Classical.not_not] at h2
      have hk := vpK.resolve_left (fun z => z h)
      have hn : ¬ n < 0 := Int32.not_lt.mpr h4
      obtain ⟨N, hN, en⟩ := nI_of hn
      have h60 : N ≤ 60 := by
        rw [en] at h3
        exact (nI_leI (a := N) (b := 60) hN (by omega)).mp h3
      refine ⟨hk, hk, N, ⟨h, h2, h3⟩, hn, 0, N, en, h60, Nat.zero_le _, by omega, rfl, ?_⟩
      funext q
      grind
    · rw [q_in02, Classical.not_not] at h2
      unfold m_sheetR m_sheetF m_sheetS
      have : ¬ (0 : Int32) ≤ n := h4
      grind
    · rw [q_in02, Classical.not_not] at h2
      unfold m_sheetR m_sheetF m_sheetS
      grind
    · unfold m_sheetR m_sheetF m_sheetS
      grind
  · rintro c x y ⟨hok, hn, m, N, en, h60, hm, rfl, rfl, rfl⟩
    have hk := vpK.resolve_left (fun z => z hok.1)
    obtain ⟨K, hK, ek⟩ := vp_in_of hk (by omega)
    have hc : k.toNatClampNeg = K := by rw [ek, nI_clamp (by omega)]
    refine ⟨fun h => ?_, fun h => ?_⟩
    · rw [en] at h
      have e := lp_done (by omega) hm h
      unfold m_sheetR m_sheetF m_sheetS
      have e3 : n.toNatClampNeg = N := by rw [en, nI_clamp (by omega)]
      have h1 := hok.1
      have h2 := hok.2.1
      have h3 := hok.2.2
      refine ⟨?_, ?_, ?_, ?_, ?_⟩
      · rw [if_neg (fun z => z h1), if_neg (fun z => z ⟨h2, h3⟩), if_neg hn]
      · rw [if_neg (fun z => hn z.2)]
      · rw [if_pos ⟨hok, hn⟩]
      · rw [if_pos ⟨hok, hn⟩]
      · rw [if_pos ⟨hok, hn⟩, e3, e]
    · rw [en] at h
      have hlt := lp_more (by omega) hm h
      have e : 60 * k + nI m = nI (60 * K + m) := by rw [ek, show (60 : Int32) = nI 60 from rfl, nI_mul, nI_add]
      rw [e, nI_cl (by omega)]
      refine ⟨vp_in_nI (by omega) (by omega), N - (m + 1), by omega, hok, hn, m + 1, N, en, h60, hlt, rfl, nI_1 m, ?_⟩
      rw [hc]
      exact blk_run rfl

theorem ok_X6_bondsAsBreaking (l : Launch) (G : GT) (h_J6_bitCount_0f7a4 : K_J6_bitCount_0f7a4 l G) (h_X6_isBond : K_X6_isBond l G) : K_X6_bondsAsBreaking l G := by
  intro b0 c0 c1 c2 i0 i1 bs x0 d0 r0 j0 e0 lf tr cnt hi wi fr fc lc ck cwt str a b fro to set p0 p1 p2 p3 p4
  obtain ⟨B, hB, eB⟩ := nI_of p4
  have hB8 : B ≤ 8 := by
    rw [eB] at p3
    exact (nI_leI (a := B) (b := 8) hB (by omega)).mp p3
  obtain ⟨e1, h256⟩ := one_shl B hB8
  refine wk_X6_bondsAsBreaking l G b0 c0 c1 c2 i0 i1 bs x0 d0 r0 j0 e0 lf tr cnt hi wi fr fc lc ck cwt str a b fro to set (x_bonds hi wi fc lc str ck cwt a b fro to set) (fun c x y z => ∃ q, q ≤ 2 ^ B ∧ c = 2 ^ B - q ∧ z = nI q ∧ y = x_subN set q ∧ x = x_bondsN hi wi fc lc str ck cwt a b fro to set q) h_J6_bitCount_0f7a4 h_X6_isBond ?_ ?_
  · exact ⟨2 ^ B, 0, Nat.zero_le _, (Nat.sub_zero _).symm, rfl, by rw [x_subN], by rw [x_bondsN]⟩
  · rintro c x y z ⟨q, hq, rfl, rfl, rfl, rfl⟩
    rw [eB, e1]
    refine ⟨fun h => ?_, fun h => ⟨p0, p1, p2, fun v ev => ?_⟩⟩
    · unfold x_bonds
      rw [eB, e1, nI_cl (by omega), lp_done (by omega) hq h]
    · have hlt := lp_more (by omega) hq h
      rw [isBd01] at ev
      subst ev
      exact ⟨2 ^ B - (q + 1), by omega, q + 1, by omega, by omega, nI_1 q, by rw [x_subN]; rfl, by rw [x_bondsN]⟩

theorem ok_X6_odds (l : Launch) (G : GT) (h_J6_bitCount_0f7a4 : K_J6_bitCount_0f7a4 l G) (h_X2_all : K_X2_all l G) (h_X6_bondsAsBreaking : K_X6_bondsAsBreaking l G) (h_X6_isBondKnown : K_X6_isBondKnown l G) (h_X6_isWithin : K_X6_isWithin l G) : K_X6_odds l G := by
  intro b0 c0 c1 c2 i0 i1 bs x0 d0 r0 j0 e0 lf tr cnt hi wi fr fc lc ck cwt str a b fro to set which p0 p1
  refine wk_X6_odds l G b0 c0 c1 c2 i0 i1 bs x0 d0 r0 j0 e0 lf tr cnt hi wi fr fc lc ck cwt str a b fro to set which (x_oddsR hi wi fc lc cnt str ck cwt a b fro to set which) (fun c u d z => x_oddsOk hi wi cnt a b fro to set which ∧ ∃ q, q ≤ 8 ∧ c = 8 - q ∧ z = nI q ∧ x_halfN (8 - q) u d = x_half hi wi fc lc str ck cwt a b fro to set) h_J6_bitCount_0f7a4 h_X2_all h_X6_bondsAsBreaking h_X6_isBondKnown h_X6_isWithin ?_ ?_
  · refine ⟨fun h => ?_, fun h => ?_⟩
    · unfold x_bKn at h
      rw [ite01, Classical.not_not] at h
      have hp := (vpPair p1).resolve_left h.1
      intro v ev
      replace ev := ev.symm
      refine ⟨fun h2 => ?_, fun h2 => ⟨fun h3 => ?_, fun h3 => ?_⟩⟩
      · unfold x_oddsR
        rw [if_neg (by grind)]
      · have h4 : set &&& (s_all hi wi ^^^ (-1)) = 0 ∧ s_bitCount set ≤ 8 := by grind
        exact ⟨p0, hp.1, hp.2, h4.2, bc_nn set, 8, ⟨h, h4, h3⟩, 0, by omega, rfl, rfl, rfl⟩
      · unfold x_oddsR
        rw [if_neg (fun z => z.2.2 h3)]
    · unfold x_bKn at h
      rw [ite01] at h
      unfold x_oddsR
      rw [if_neg (fun z => h z.1)]
  · rintro c u d z ⟨hok, q, hq, rfl, rfl, he⟩
    have hH : (8 ≤ nI q ∨ d ≤ 1 ∨ ¬ (u - u / 2 * 2 = 0)) → x_half hi wi fc lc str ck cwt a b fro to set = (u, d) := by
      intro h
      rw [← he]
      rcases Nat.lt_or_ge q 8 with h8 | h8
      · rw [show 8 - q = (8 - (q + 1)) + 1 by omega, halfS, if_neg]
        rintro ⟨z1, z2⟩
        rcases h with h | h | h
        · have := (nI_leI (a := 8) (b := q) (by omega) (by omega)).mp h
          omega
        · exact Int32.not_le.mpr z1 h
        · exact h z2
      · rw [show 8 - q = 0 by omega, half0]
    have fin : x_half hi wi fc lc str ck cwt a b fro to set = (u, d) → (¬ which = 0 → d.toInt64 = x_oddsR hi wi fc lc cnt str ck cwt a b fro to set which) ∧ (which = 0 → u.toInt64 = x_oddsR hi wi fc lc cnt str ck cwt a b fro to set which) := by
      intro e
      unfold x_oddsR
      rw [if_pos hok, e]
      exact ⟨fun h => by rw [if_neg h], fun h => by rw [if_pos h]⟩
    refine ⟨fun h => fin (hH (Or.inl h)), fun h => ⟨fun h2 => fin (hH (Or.inr (Or.inl h2))), fun h2 => ⟨fun h3 => fin (hH (Or.inr (Or.inr h3))), fun h3 => ?_⟩⟩⟩
    have hlt := lp_more (N := 8) (by omega) hq h
    refine ⟨8 - (q + 1), by omega, hok, q + 1, hlt, rfl, nI_1 q, ?_⟩
    rw [← he, show 8 - q = (8 - (q + 1)) + 1 by omega, halfS, if_pos ⟨Int32.not_le.mp h2, h3⟩]
