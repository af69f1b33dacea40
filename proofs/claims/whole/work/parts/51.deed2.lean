/-! what deed and write answer -/
theorem n1 : ¬ (-1 : Int32) = 0 := by decide
theorem n2 : ¬ (-2 : Int32) = 0 := by decide
theorem n11 : ¬ (-11 : Int32) = 0 := by decide
theorem n12 : ¬ (-12 : Int32) = 0 := by decide
theorem n13 : ¬ (-13 : Int32) = 0 := by decide
section DW
variable {a b s : Nat} {ck cwt kd wt str str' : Nat → Int32}
theorem cp20_rS {n : Nat} (hn : n ≤ 20) (h : rS n str str') (d : Nat → Int32) : rS n (s_cp20 str d) str' := fun c hc => by
  unfold s_cp20
  rw [if_pos (show c < 20 by omega)]
  exact h c hc
theorem in03_nI {v : Int32} (h : ¬ s_in v 0 3 = 0) : ∃ st, st < 4 ∧ v = nI st := by
  rw [s_in0, Classical.not_not] at h
  obtain ⟨st, h1, h2⟩ := nI_of2 (n := 3) (M := 3) (by decide) (Int32.not_lt.mpr h.1) h.2
  exact ⟨st, by omega, h2⟩
theorem trial_ok (g : gOk a b) (hs4 : s ≤ 4) (hC : rC s ck cwt kd wt) (hS : rS (a * b) str str') (sn dstr : Nat → Int32) {A B ce i n sle : Int32} (hk : x_dK (nI a) (nI b) (nI s) A B ce) : okTrial (nI a) (nI b) (fcM b a) (lcM a b) ck cwt sn (s_cp20 str dstr) A B ce i n sle := by
  have hl := g.le
  obtain ⟨k1, k2⟩ := hk
  rw [pair_iff hs4] at k1
  rw [ce_iff g.dd] at k2
  unfold q_noTwo at k1
  rw [ite10] at k1
  obtain ⟨x, hx, rfl⟩ := sk_nI hs4 k1.1
  obtain ⟨y, hy, rfl⟩ := sk_nI hs4 k1.2.1
  obtain ⟨c, hc, rfl⟩ := ce_nI g k2
  intro z hz hr hst hfw
  obtain ⟨r1, r2, r3⟩ := hr
  obtain ⟨I, hI, rfl⟩ := nI_of r1
  obtain ⟨N, hN, rfl⟩ := nI_of r2
  rw [nI_clamp hI, nI_clamp hN] at r3
  rw [nI_clamp hN] at hz hst
  have hst2 : ∀ j, j < N → ∃ st, st < 4 ∧ sn (I + j) = nI st ∧ sn (I + j) = nI st := fun j hj => by
    have h1 := hst j hj
    rw [nI_add, nI_clamp (by omega)] at h1
    obtain ⟨st, h2, h3⟩ := in03_nI (show ¬ s_in (sn (I + j)) 0 3 = 0 by rw [h1]; decide)
    exact ⟨st, h2, h3, h3⟩
  obtain ⟨-, -, ⟨t, ht, e1, -⟩, -⟩ := deed_sim g hs4 hC (cp20_rS hl hS dstr) (sn := sn) (sh := sn) (I := I) (F := I) (n := N) hx hy hc (by omega) r3 (by omega) hst2 z (by omega)
  obtain ⟨st, h2, h3, -⟩ := hst2 z hz
  rw [e1, nI_add, nI_clamp (by omega), h3, g.sled ht h2]
  cases hg : gLed a b t st with
  | none => exact Or.inl rfl
  | some d => exact Or.inr (vp_in_nI (by have := (gled1 g ht h2 hg).1; omega) (by omega))
theorem dK_iff (g : gOk a b) (hs4 : s ≤ 4) {k : Nat} (hk : k < 4) (A B ce : Int32) : x_dK (nI a) (nI b) (nI s) A B ce = m_dKnown (nI a) (nI b) (nI s) A B ce (nI k) := by
  unfold x_dK m_dKnown
  have e : (q_noSheet (nI k) = 0) = True := by
    unfold q_noSheet
    rw [ite10]
    exact propext ⟨fun _ => trivial, fun _ => ⟨nI_pos' (by omega), nI_le (b := 3) (by omega) (by omega)⟩⟩
  rw [pair_iff hs4, ce_iff g.dd, e, and_true]
/-- how a deed goes -/
theorem td_ans (g : gOk a b) (hs4 : s ≤ 4) (hC : rC s ck cwt kd wt) (hS : rS (a * b) str str') {k : Nat} (hk : k < 4) {sla sle : Int32} {sn sz sl sh : Nat → Int32} (hSh : rSh k sla sle sn sz sl sh) (dstr : Nat → Int32) {A B ce lane i n : Int32} (hkn : m_dKnown (nI a) (nI b) (nI s) A B ce (nI k)) :
    (x_tdR (nI a) (nI b) (nI s) sla sle sn A B ce lane i n = -2 ∧ ¬ m_dIn lane n) ∨
    (m_dIn lane n ∧ x_tdR (nI a) (nI b) (nI s) sla sle sn A B ce lane i n = q_sbRes sz sl sh (nI k) lane i n ∧ ¬ q_sbRes sz sl sh (nI k) lane i n = 0 ∧ x_kf (q_sbRes sz sl sh (nI k) lane i n) = q_sbFault sz sl sh (nI k) lane i n) ∨
    (m_dIn lane n ∧ x_tdR (nI a) (nI b) (nI s) sla sle sn A B ce lane i n = 0 ∧ q_sbRes sz sl sh (nI k) lane i n = 0 ∧ q_sbFault sz sl sh (nI k) lane i n = 0 ∧ (∃ N, N ≤ 40 ∧ n = nI N) ∧
      dR (a * b) (x_tr (nI a) (nI b) (fcM b a) (lcM a b) ck cwt sn str dstr A B ce i n) (m_deedN (nI a) (nI b) 0 0 str' kd wt sh A B ce (nI k) i n)) := by
  have hl := g.le
  have hkx : x_dK (nI a) (nI b) (nI s) A B ce := by
    rw [dK_iff g hs4 hk]
    exact hkn
  unfold x_tdR
  rw [ifnn hkx]
  by_cases hn : 0 ≤ n ∧ n ≤ 40
  · have hn' : ¬ s_in n 0 40 = 0 := by
      rw [s_in0]
      exact fun z => z hn
    rw [if_neg hn']
    by_cases hla : m_laneOk lane
    · refine Or.inr ?_
      have hin : m_dIn lane n := ⟨hla, hn⟩
      unfold x_rp q_sbRes q_sbFault
      rcases bar_spec hk hSh hla i n with ⟨b1, b2⟩ | ⟨b1, b2⟩ | ⟨-, b1, -⟩ | ⟨b1, b2, b3, b4⟩ | ⟨b1, b2, b3, b4, I, N, rfl, rfl, hIN, hcp⟩
      · have b3 : ¬ q_barred sz sl (nI k) lane i n.toInt64 = 0 := by rw [b2]; decide
        refine Or.inl ⟨hin, ?_⟩
        rw [if_neg b3, if_neg b3, b1, b2, ifp0 n11, ifp0 n11]
        decide
      · have b3 : ¬ q_barred sz sl (nI k) lane i n.toInt64 = 0 := by rw [b2]; decide
        refine Or.inl ⟨hin, ?_⟩
        rw [if_neg b3, if_neg b3, b1, b2, ifp0 n12, ifp0 n12]
        decide
      · exact absurd b1 (Int32.not_lt.mpr hn.1)
      · have b5 : ¬ q_barred sz sl (nI k) lane i n.toInt64 = 0 := by rw [b4]; decide
        refine Or.inl ⟨hin, ?_⟩
        rw [if_neg b5, if_neg b5, b1, ifnn (show (0 : Int32) = 0 from rfl), if_pos b3, b4, ifp0 n13]
        decide
      · have hN40 : N ≤ 40 := (nI_leI (a := N) (b := 40) (by omega) (by omega)).mp hn.2
        have ei : (60 : Int32) * nI k + nI I = nI (60 * k + I) := by rw [show (60 : Int32) = nI 60 from rfl, nI_mul, nI_add]
        have hcond : (x_noSt sn (nI I) (nI N).toNatClampNeg = true) ↔ (q_sbBad sz sl sh (nI k) lane (nI I) (nI N) = true) := by
          unfold x_noSt q_sbBad q_noStroke
          rw [decide_eq_true_iff, decide_eq_true_iff, nI_clamp (by omega), ei]
          refine exists_congr fun x => and_congr_right fun hx => ?_
          rw [nI_add, nI_add, nI_clamp (by omega), nI_clamp (by omega), s_in0, hcp x hx]
        rw [if_pos b4, if_pos b4, b1, ifnn (show (0 : Int32) = 0 from rfl), if_neg b3, ifnn (show (0 : Int32) = 0 from rfl)]
        by_cases hb : q_sbBad sz sl sh (nI k) lane (nI I) (nI N) = true
        · refine Or.inl ⟨hin, ?_⟩
          rw [if_pos hb, if_pos (hcond.mpr hb)]
          decide
        · refine Or.inr ⟨hin, ?_, ?_, rfl, ⟨N, hN40, rfl⟩, ?_⟩
          · rw [if_neg (fun z => hb (hcond.mp z))]
          · rw [if_neg hb]
          · have hst : ∀ j, j < N → ∃ st, st < 4 ∧ sn (I + j) = nI st ∧ sh (60 * k + I + j) = nI st := fun j hj => by
              have h1 : ¬ s_in (sn (I + j)) 0 3 = 0 := fun z => hb (hcond.mp (by
                unfold x_noSt
                rw [decide_eq_true_iff, nI_clamp (by omega)]
                refine ⟨j, hj, ?_⟩
                rw [nI_add, nI_clamp (by omega)]
                exact z))
              obtain ⟨st, h2, h3⟩ := in03_nI h1
              exact ⟨st, h2, h3, by rw [← hcp j hj]; exact h3⟩
            obtain ⟨k1, k2, -⟩ := hkn
            unfold q_noTwo at k1
            rw [ite10] at k1
            obtain ⟨x, hx, rfl⟩ := sk_nI hs4 k1.1
            obtain ⟨y, hy, rfl⟩ := sk_nI hs4 k1.2.1
            obtain ⟨c, hc, rfl⟩ := ce_nI g k2
            unfold x_tr m_deedN
            rw [nI_clamp (by omega), ei]
            exact deed_sim g hs4 hC (cp20_rS hl hS dstr) hx hy hc (by omega) hIN (by omega) hst N (Nat.le_refl _)
    · refine Or.inl ⟨?_, fun z => hla z.1⟩
      have : x_rp sla sle lane i n = -2 := by
        unfold x_rp
        rw [rl_not hla, ifp0 n2]
      rw [this, ifp0 n2]
  · refine Or.inl ⟨?_, fun z => hn z.2⟩
    rw [if_pos (by rw [s_in0]; exact hn)]
theorem dR_back {n : Nat} {q : tS} {d : dS} (h : dR n q d) : (d.1 < 0) = (q.2.2.1 = -9) ∧ (0 ≤ d.1) = ¬ (q.2.2.1 = -9) := by
  have := fw_iff h.2.1
  rw [h.1]
  exact this
theorem kf_pos {v : Int32} (h : ¬ v < 0) : x_kf v = 0 := by
  unfold x_kf
  refine if_pos ?_
  rw [s_in0]
  have z1 : (-11 : Int32).toInt = -11 := by decide
  have z0 : (0 : Int32).toInt = 0 := by decide
  rw [Int32.lt_iff_toInt_lt, z0] at h
  rintro ⟨-, z⟩
  rw [Int32.le_iff_toInt_le, z1] at z
  omega
theorem kf_100 {y : Nat} (hy : y < 100) : x_kf (-100 - nI y) = 0 := (by decide +kernel : ∀ y, y < 100 → x_kf (-100 - nI y) = 0) y hy
theorem half_pos : ∀ N, N < 41 → ¬ ((nI N + 1) / 2 < 0) := by decide +kernel
theorem setIn_pos {n : Nat} (hn : n ≤ 20) {x : Int32} (h : setIn n x) : ¬ x < 0 := by
  obtain ⟨m, hm, rfl⟩ := set_nI hn h
  have : 2 ^ n ≤ 2 ^ 20 := Nat.pow_le_pow_right (by omega) hn
  exact nI_pos (by omega)
/-- what is told of a deed that was made -/
theorem of_ans (g : gOk a b) {q : tS} {d : dS} (h : dR (a * b) q d) {N : Nat} (hN : N ≤ 40) (what : Int32) : x_ofT q (nI N) what = m_deedA d (nI N) what ∧ x_kf (m_deedA d (nI N) what) = 0 := by
  have hl := g.le
  have hb := dR_back h
  obtain ⟨q1, q2, q3, q4⟩ := q
  obtain ⟨d1, d2, d3, d4⟩ := d
  obtain ⟨e1, e0, ⟨c, hc, e2, e3⟩, e4, e5, e6⟩ := h
  have e1' : d1 = q3 := e1
  have e2' : q1 = nI c := e2
  have e3' : d2 = nI c := e3
  have e4' : d3 = q2 := e4
  subst e1' e2' e3' e4'
  have e0' : d1 = -9 ∨ ∃ y, y < 100 ∧ d1 = nI y := e0
  have hb2 : (0 ≤ d1) = ¬ (d1 = -9) := hb.2
  obtain ⟨hq, m, hm, hqm⟩ := e6 c hc
  have hq' : q4 c = d4 c := hq
  have hqm' : q4 c = nI m := hqm
  unfold x_ofT m_deedA
  show (if what = 1 then d1 else if ¬ d1 = -9 then -100 - d1 else if what = 0 then nI c else if what = 2 then d3 else if what = 3 then q4 (nI c).toNatClampNeg else (nI N + 1) / 2) = (if what = 1 then d1 else if 0 ≤ d1 then -100 - d1 else if what = 0 then nI c else if what = 2 then d3 else if what = 3 then d4 (nI c).toNatClampNeg else (nI N + 1) / 2) ∧ x_kf (if what = 1 then d1 else if 0 ≤ d1 then -100 - d1 else if what = 0 then nI c else if what = 2 then d3 else if what = 3 then d4 (nI c).toNatClampNeg else (nI N + 1) / 2) = 0
  rw [nI_clamp (by omega)]
  by_cases w1 : what = 1
  · rw [if_pos w1, if_pos w1]
    refine ⟨rfl, ?_⟩
    rcases e0' with z | ⟨y, hy, z⟩
    · rw [z]; decide
    · rw [z]; exact kf_pos (nI_pos (by omega))
  rw [if_neg w1, if_neg w1]
  rcases e0' with z | ⟨y, hy, z⟩
  · have n1 : ¬ 0 ≤ d1 := by rw [hb2]; exact fun q => q z
    rw [ifnn z, if_neg n1]
    by_cases w0 : what = 0
    · rw [if_pos w0, if_pos w0]
      exact ⟨rfl, kf_pos (nI_pos (by omega))⟩
    rw [if_neg w0, if_neg w0]
    by_cases w2 : what = 2
    · rw [if_pos w2, if_pos w2]
      exact ⟨rfl, kf_pos (setIn_pos hl e5)⟩
    rw [if_neg w2, if_neg w2]
    by_cases w3 : what = 3
    · rw [if_pos w3, if_pos w3]
      exact ⟨hq', by rw [← hq', hqm']; exact kf_pos (nI_pos (by omega))⟩
    rw [if_neg w3, if_neg w3]
    exact ⟨rfl, kf_pos (half_pos N (by omega))⟩
  · have n1 : ¬ d1 = -9 := by rw [z]; exact fun q => m9nI (by omega) q.symm
    rw [ifp0 n1, if_pos (by rw [hb2]; exact n1), z]
    exact ⟨rfl, kf_100 hy⟩
theorem deed_ans (g : gOk a b) (hs4 : s ≤ 4) (hC : rC s ck cwt kd wt) (hS : rS (a * b) str str') {k : Nat} (hk : k < 4) {sla sle : Int32} {sn sz sl sh : Nat → Int32} (hSh : rSh k sla sle sn sz sl sh) (dstr : Nat → Int32) (A B ce lane i n what : Int32) :
    x_deedR (nI a) (nI b) (fcM b a) (lcM a b) (nI s) sla sle ck cwt sn str dstr A B ce lane i n what = m_deedR (nI a) (nI b) (nI s) 0 0 str' kd wt sz sl sh A B ce (nI k) lane i n what ∧ x_kf (m_deedR (nI a) (nI b) (nI s) 0 0 str' kd wt sz sl sh A B ce (nI k) lane i n what) = m_deedF (nI a) (nI b) (nI s) sz sl sh A B ce (nI k) lane i n what := by
  unfold x_deedR m_deedR m_deedF
  by_cases hkn : m_dKnown (nI a) (nI b) (nI s) A B ce (nI k)
  · have hkx : x_dK (nI a) (nI b) (nI s) A B ce := by
      rw [dK_iff g hs4 hk]
      exact hkn
    rw [if_pos hkx, ifnn hkn]
    by_cases hw : 0 ≤ what ∧ what ≤ 4
    · rw [if_neg (show ¬ s_in what 0 4 = 0 by rw [s_in0]; exact fun z => z hw)]
      rcases td_ans g hs4 hC hS hk hSh dstr (lane := lane) (i := i) (n := n) hkn with ⟨t1, t2⟩ | ⟨t1, t2, t3, t4⟩ | ⟨t1, t2, t3, t4, ⟨N, hN, rfl⟩, t5⟩
      · have hP : ¬ (m_dIn lane n ∧ 0 ≤ what ∧ what ≤ 4) := fun z => t2 z.1
        have hQ : ¬ (m_dKnown (nI a) (nI b) (nI s) A B ce (nI k) ∧ m_dIn lane n ∧ 0 ≤ what ∧ what ≤ 4) := fun z => t2 z.2.1
        rw [t1, ifp0 n2, ifp0 hP, if_neg hQ]
        exact ⟨rfl, by decide⟩
      · have hP : m_dIn lane n ∧ 0 ≤ what ∧ what ≤ 4 := ⟨t1, hw⟩
        have hQ : m_dKnown (nI a) (nI b) (nI s) A B ce (nI k) ∧ m_dIn lane n ∧ 0 ≤ what ∧ what ≤ 4 := ⟨hkn, hP⟩
        rw [t2, ifp0 t3, ifnn hP, ifp0 t3, if_pos hQ]
        exact ⟨rfl, t4⟩
      · have hP : m_dIn lane (nI N) ∧ 0 ≤ what ∧ what ≤ 4 := ⟨t1, hw⟩
        have hQ : m_dKnown (nI a) (nI b) (nI s) A B ce (nI k) ∧ m_dIn lane (nI N) ∧ 0 ≤ what ∧ what ≤ 4 := ⟨hkn, hP⟩
        rw [t2, ifnn (show (0 : Int32) = 0 from rfl), ifnn hP, ifnn t3, if_pos hQ, t4]
        exact of_ans g t5 hN what
    · have hP : ¬ (m_dIn lane n ∧ 0 ≤ what ∧ what ≤ 4) := fun z => hw z.2
      have hQ : ¬ (m_dKnown (nI a) (nI b) (nI s) A B ce (nI k) ∧ m_dIn lane n ∧ 0 ≤ what ∧ what ≤ 4) := fun z => hw z.2.2
      rw [if_pos (show s_in what 0 4 = 0 by rw [s_in0]; exact hw), ifp0 hP, if_neg hQ]
      exact ⟨rfl, by decide⟩
  · have hkx : ¬ x_dK (nI a) (nI b) (nI s) A B ce := by
      rw [dK_iff g hs4 hk]
      exact hkn
    have ht : x_tdR (nI a) (nI b) (nI s) sla sle sn A B ce lane i n = -1 := by
      unfold x_tdR
      rw [if_pos hkx]
    have hQ : ¬ (m_dKnown (nI a) (nI b) (nI s) A B ce (nI k) ∧ m_dIn lane n ∧ 0 ≤ what ∧ what ≤ 4) := fun z => hkn z.1
    rw [if_neg hkx, ifp0 hkn, ht, if_neg hQ, ifp0 n1]
    refine ⟨?_, by decide⟩
    split <;> rfl
theorem deed_str {hi wi sk br th : Int32} {str kd wt sz sl sh kept : Nat → Int32} {A B ce k lane i n what : Int32} {c : Nat} (hc : c < 20) : m_deedS4 hi wi sk br th str kd wt sz sl sh kept A B ce k lane i n what c = str c := by
  unfold m_deedS4
  split
  · unfold s_cp20
    rw [if_pos hc, if_pos hc]
  · rfl
theorem write_ans (g : gOk a b) (hs4 : s ≤ 4) (hC : rC s ck cwt kd wt) (hS : rS (a * b) str str') {k : Nat} (hk : k < 4) {sla sle : Int32} {sn sz sl sh : Nat → Int32} (hSh : rSh k sla sle sn sz sl sh) (dstr kept : Nat → Int32) (A B ce lane i n : Int32) :
    x_writeR (nI a) (nI b) (fcM b a) (lcM a b) (nI s) sla sle ck cwt sn str dstr A B ce lane i n = m_writeR (nI a) (nI b) (nI s) 0 0 str' kd wt sz sl sh A B ce (nI k) lane i n ∧ x_kf (m_writeR (nI a) (nI b) (nI s) 0 0 str' kd wt sz sl sh A B ce (nI k) lane i n) = m_writeF (nI a) (nI b) (nI s) sz sl sh A B ce (nI k) lane i n ∧
    rS (a * b) (x_writeS (nI a) (nI b) (fcM b a) (lcM a b) (nI s) sla sle ck cwt sn str dstr A B ce lane i n) (m_writeS4 (nI a) (nI b) (nI s) 0 0 str' kd wt sz sl sh kept A B ce (nI k) lane i n) := by
  have hl := g.le
  unfold x_writeR m_writeR m_writeF x_writeS m_writeS4 m_dDo
  by_cases hkn : m_dKnown (nI a) (nI b) (nI s) A B ce (nI k)
  · rw [ifnn hkn]
    rcases td_ans g hs4 hC hS hk hSh dstr (lane := lane) (i := i) (n := n) hkn with ⟨t1, t2⟩ | ⟨t1, t2, t3, t4⟩ | ⟨t1, t2, t3, t4, ⟨N, hN, rfl⟩, t5⟩
    · have q1 : ¬ (m_dKnown (nI a) (nI b) (nI s) A B ce (nI k) ∧ m_dIn lane n) := fun z => t2 z.2
      have q2 : ∀ P : Prop, ¬ ((-2 : Int32) = 0 ∧ P) := fun P z => absurd z.1 (by decide)
      have q3 : ¬ (m_dKnown (nI a) (nI b) (nI s) A B ce (nI k) ∧ m_dIn lane n ∧ q_sbRes sz sl sh (nI k) lane i n = 0) := fun z => t2 z.2.1
      rw [t1, ifp0 n2, ifp0 t2, if_neg q1, if_neg (q2 _), if_neg q3]
      exact ⟨rfl, by decide, hS⟩
    · have q1 : m_dKnown (nI a) (nI b) (nI s) A B ce (nI k) ∧ m_dIn lane n := ⟨hkn, t1⟩
      have q2 : ∀ P : Prop, ¬ (q_sbRes sz sl sh (nI k) lane i n = 0 ∧ P) := fun P z => t3 z.1
      have q3 : ¬ (m_dKnown (nI a) (nI b) (nI s) A B ce (nI k) ∧ m_dIn lane n ∧ q_sbRes sz sl sh (nI k) lane i n = 0) := fun z => t3 z.2.2
      rw [t2, ifp0 t3, ifnn t1, ifp0 t3, if_pos q1, if_neg (q2 _), if_neg q3]
      exact ⟨rfl, t4, hS⟩
    · have hb := dR_back t5
      have p1 : m_dKnown (nI a) (nI b) (nI s) A B ce (nI k) ∧ m_dIn lane (nI N) := ⟨hkn, t1⟩
      have p3 : m_dKnown (nI a) (nI b) (nI s) A B ce (nI k) ∧ m_dIn lane (nI N) ∧ q_sbRes sz sl sh (nI k) lane i (nI N) = 0 := ⟨hkn, t1, t3⟩
      rw [t2, ifnn (show (0 : Int32) = 0 from rfl), ifnn t1, ifnn t3, if_pos p1, t4, if_pos p3]
      by_cases hz : (x_tr (nI a) (nI b) (fcM b a) (lcM a b) ck cwt sn str dstr A B ce i (nI N)).2.2.1 = -9
      · have h1 : (m_deedN (nI a) (nI b) 0 0 str' kd wt sh A B ce (nI k) i (nI N)).1 < 0 := by rw [hb.1]; exact hz
        have h2 : ¬ 0 ≤ (m_deedN (nI a) (nI b) 0 0 str' kd wt sh A B ce (nI k) i (nI N)).1 := by rw [hb.2]; exact fun z => z hz
        have h3 : (0 : Int32) = 0 ∧ (x_tr (nI a) (nI b) (fcM b a) (lcM a b) ck cwt sn str dstr A B ce i (nI N)).2.2.1 = -9 := ⟨rfl, hz⟩
        rw [ifnn hz, if_neg h2, if_pos h3, if_pos h1]
        refine ⟨rfl, kf_pos (nI_pos (by omega)), fun c hc => ?_⟩
        unfold s_cp20
        rw [if_pos (show c < 20 by omega)]
        exact t5.2.2.2.2.2 c hc
      · have h1 : ¬ (m_deedN (nI a) (nI b) 0 0 str' kd wt sh A B ce (nI k) i (nI N)).1 < 0 := by rw [hb.1]; exact hz
        have h2 : 0 ≤ (m_deedN (nI a) (nI b) 0 0 str' kd wt sh A B ce (nI k) i (nI N)).1 := by rw [hb.2]; exact hz
        have h3 : ¬ ((0 : Int32) = 0 ∧ (x_tr (nI a) (nI b) (fcM b a) (lcM a b) ck cwt sn str dstr A B ce i (nI N)).2.2.1 = -9) := fun z => hz z.2
        rw [ifp0 hz, if_pos h2, if_neg h3, if_neg h1, t5.1]
        refine ⟨rfl, ?_, fun c hc => ?_⟩
        · rcases t5.2.1 with z | ⟨y, hy, z⟩
          · exact absurd z hz
          · rw [z]
            exact kf_100 hy
        · unfold s_cp20
          rw [if_pos (show c < 20 by omega), if_pos (show c < 20 by omega)]
          exact hS c hc
  · have hkx : ¬ x_dK (nI a) (nI b) (nI s) A B ce := by
      rw [dK_iff g hs4 hk]
      exact hkn
    have ht : x_tdR (nI a) (nI b) (nI s) sla sle sn A B ce lane i n = -1 := by
      unfold x_tdR
      rw [if_pos hkx]
    have q1 : ¬ (m_dKnown (nI a) (nI b) (nI s) A B ce (nI k) ∧ m_dIn lane n) := fun z => hkn z.1
    have q2 : ∀ P : Prop, ¬ ((-1 : Int32) = 0 ∧ P) := fun P z => absurd z.1 (by decide)
    have q3 : ¬ (m_dKnown (nI a) (nI b) (nI s) A B ce (nI k) ∧ m_dIn lane n ∧ q_sbRes sz sl sh (nI k) lane i n = 0) := fun z => hkn z.1
    rw [ht, ifp0 n1, ifp0 hkn, if_neg q1, if_neg (q2 _), if_neg q3]
    exact ⟨rfl, by decide, hS⟩
end DW
