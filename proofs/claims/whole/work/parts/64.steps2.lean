/-! one step a method -/
set_option maxHeartbeats 200000 in
theorem st_as (l : Launch) (G : GT) {xa ma : Nat} {W : va_W} (hI : INV G xa ma W) (a kind : Int32) : STEP Value.int l G xa ma yX6_as cX6_as 3 (some .int) rm_X6_as yX7_as cX7_as 3 rm_X7_as [.int a, .int kind] W := by
  obtain ⟨ad, sh, v, f, am, w, g, rfl, rfl, hsh, rfl, hR⟩ := hI
  have hR0 := hR
  obtain ⟨ga, gb, s, fr, rd, h0, hRI, ⟨w0, w31⟩, ⟨v8, w23⟩, hS, hC, hRd, hSh⟩ := hR
  obtain ⟨g0, hs, hz, hfr, hrd⟩ := id h0
  obtain ⟨v9, v10, v11, v12, v13, v14, w1, w2, w3, w5, w8, w9⟩ := id hRI
  have dX : okD (v 9) (v 10) := by rw [v9, v10]; exact g0.dd
  have dM : okD (w 1) (w 2) := by rw [w1, w2]; exact g0.dd
  have nX : okN (v 14) := by rw [v14]; exact ⟨s, hs, rfl⟩
  have nM : okN (w 5) := by rw [w5]; exact ⟨s, hs, rfl⟩
  have rX : okR (v 8) (f 2) (f 3) := by rw [v8]; exact (hRd.okR hrd hs g0.le).1
  have rM : okR (w 23) (g 24) (g 25) := by rw [w23]; exact (hRd.okR hrd hs g0.le).2
  have hq := as_ans hs hC a kind
  rw [← v14] at hq
  have er : x_asR (v 14) (f 6) a kind = m_asR (w 5) (g 6) a kind := by rw [w5, ← v14]; exact hq.1
  have ef : m_asF (w 5) (g 6) a kind = x_kf (x_asR (v 14) (f 6) a kind) := by rw [hq.1, hq.2, w5, ← v14]
  refine step_J ((cw_as l G ad sh v f a kind nX).toJ) ((mw_as l G am w g a kind nM).toJ) er rfl hsh ?_
  intro i9 j9
  exact hR0.sheet (by rw [upd_eq rfl, upd_eq rfl]; exact ef) (fun i hi => by rw [upd_ne (by omega)]) (fun i h1 h2 => rfl) (fun i h1 h2 => by rw [upd_ne (by omega)]) (fun i hi => rfl) (fun c hc => rfl) (hSh.keep (fun i hi => by rw [upd_ne (by omega)]) (fun i hi => rfl) (rfl) (rfl) (rfl))
set_option maxHeartbeats 200000 in
theorem st_sheet (l : Launch) (G : GT) {xa ma : Nat} {W : va_W} (hI : INV G xa ma W) (k lane n : Int32) : STEP Value.int l G xa ma yX6_sheet cX6_sheet 4 (some .int) rm_X6_sheet yX7_sheet cX7_sheet 5 rm_X7_sheet [.int k, .int lane, .int n] W := by
  obtain ⟨ad, sh, v, f, am, w, g, rfl, rfl, hsh, rfl, hR⟩ := hI
  have hR0 := hR
  obtain ⟨ga, gb, s, fr, rd, h0, hRI, ⟨w0, w31⟩, ⟨v8, w23⟩, hS, hC, hRd, hSh⟩ := hR
  obtain ⟨g0, hs, hz, hfr, hrd⟩ := id h0
  obtain ⟨v9, v10, v11, v12, v13, v14, w1, w2, w3, w5, w8, w9⟩ := id hRI
  have dX : okD (v 9) (v 10) := by rw [v9, v10]; exact g0.dd
  have dM : okD (w 1) (w 2) := by rw [w1, w2]; exact g0.dd
  have nX : okN (v 14) := by rw [v14]; exact ⟨s, hs, rfl⟩
  have nM : okN (w 5) := by rw [w5]; exact ⟨s, hs, rfl⟩
  have rX : okR (v 8) (f 2) (f 3) := by rw [v8]; exact (hRd.okR hrd hs g0.le).1
  have rM : okR (w 23) (g 24) (g 25) := by rw [w23]; exact (hRd.okR hrd hs g0.le).2
  by_cases hk : q_noSheet k = 0
  · obtain ⟨kk, hkk, rfl⟩ := sh_nI hk
    obtain ⟨p1, p2, p3⟩ := sheet_ans hkk lane n
    refine step_J ((cw_sheet l G ad sh v f hsh kk hkk lane n).toJ) ((mw_sheet l G am w g (nI kk) lane n).toJ) p1 rfl hsh ?_
    intro i9 j9
    have ef : m_sheetF (nI kk) lane n = x_kf (x_nrR lane n) := by rw [p1]; exact p2.symm
    rcases p3 with ⟨q1, q2⟩ | ⟨q1, q2, q3⟩
    · rw [if_neg q1, if_neg q1, if_neg q1, if_neg q2, if_neg q2]
      have e1 : m_sheetS (nI kk) lane n (g 29) = g 29 := by unfold m_sheetS; exact if_neg q2
      rw [e1]
      exact hR0.sheet (by rw [upd_eq rfl, upd_ne (by omega), upd_ne (by omega), upd_eq rfl]; exact ef) (fun i hi => by rw [upd_ne (by omega), upd_ne (by omega), upd_ne (by omega)]) (fun i h1 h2 => by rw [updF_ne (by omega)]) (fun i h1 h2 => by rw [upd_ne (by omega)]) (fun i hi => by rw [updF_ne (by omega), updF_ne (by omega), updF_ne (by omega)]) (fun c hc => rfl) (fun k h4 => by { by_cases z : k = kk; { subst z; rw [upd_ne (by omega), upd_eq rfl, upd_eq rfl, updF_eq rfl, updF_ne (by omega), updF_ne (by omega), updF_eq rfl, updF_ne (by omega), updF_eq rfl, updF_eq rfl]; exact hSh k h4 }; { rw [upd_ne (by omega), upd_ne (by omega), upd_ne (by omega), upd_ne (by omega), upd_ne (by omega), upd_ne (by omega), updF_ne (by omega), updF_ne (by omega), updF_ne (by omega), updF_eq rfl, updF_ne (by omega), updF_eq rfl, updF_eq rfl]; exact hSh k h4 } })
    · rw [if_pos q1, if_pos q1, if_pos q1, if_pos q2, if_pos q2, nI_clamp (by omega)]
      exact hR0.sheet (by rw [upd_eq rfl, upd_ne (by omega), upd_ne (by omega), upd_eq rfl]; exact ef) (fun i hi => by rw [upd_ne (by omega), upd_ne (by omega), upd_ne (by omega)]) (fun i h1 h2 => by rw [updF_ne (by omega)]) (fun i h1 h2 => by rw [upd_ne (by omega)]) (fun i hi => by rw [updF_ne (by omega), updF_ne (by omega), updF_ne (by omega)]) (fun c hc => rfl) (fun k h4 => by { by_cases z : k = kk; { subst z; rw [upd_ne (by omega), upd_eq rfl, upd_eq rfl, updF_eq rfl, updF_ne (by omega), updF_ne (by omega), updF_eq rfl, updF_ne (by omega), updF_eq rfl, updF_eq rfl]; exact (q3 (f (11 + k)) (g 27) (g 28) (g 29)).1 }; { rw [upd_ne (by omega), upd_ne (by omega), upd_ne (by omega), upd_ne (by omega), upd_ne (by omega), upd_ne (by omega), updF_ne (by omega), updF_ne (by omega), updF_ne (by omega), updF_eq rfl, updF_ne (by omega), updF_eq rfl, updF_eq rfl]; exact (q3 (f (11 + k)) (g 27) (g 28) (g 29)).2 k h4 z _ _ _ (hSh k h4) } })
  · obtain ⟨n1, n2⟩ := shAt_n (sh := sh) hk
    refine step_J ((cw_sheet_n l G ad sh v f k lane n n1 (Or.inl n2)).toJ) ((mw_sheet l G am w g k lane n).toJ) ?_ rfl hsh ?_
    · unfold m_sheetR; rw [if_pos hk]
    · intro i9 j9
      have e1 : m_sheetS k lane n (g 29) = g 29 := by unfold m_sheetS; exact if_neg (fun z => hk z.1.1)
      have e2 : m_sheetF k lane n = 0 := by unfold m_sheetF; exact if_neg (fun z => hk z.1.1)
      have e3 : ¬ (m_shOk k lane n ∧ ¬ n < 0) := fun z => hk z.1.1
      rw [e1, e2, if_neg e3, if_neg e3]
      exact hR0.sheet (by rw [upd_eq rfl, upd_eq rfl]) (fun i hi => by rw [upd_ne (by omega)]) (fun i h1 h2 => rfl) (fun i h1 h2 => by rw [upd_ne (by omega)]) (fun i hi => by rw [updF_ne (by omega), updF_ne (by omega), updF_ne (by omega)]) (fun c hc => rfl) (hSh.keep (fun i hi => by rw [upd_ne (by omega)]) (fun i hi => rfl) (by rw [updF_ne (by omega), updF_ne (by omega), updF_eq rfl]) (by rw [updF_ne (by omega), updF_eq rfl]) (updF_eq rfl))
set_option maxHeartbeats 200000 in
theorem st_lose (l : Launch) (G : GT) {xa ma : Nat} {W : va_W} (hI : INV G xa ma W) (k : Int32) : STEP Value.int l G xa ma yX6_lose cX6_lose 4 (some .int) rm_X6_lose yX7_lose cX7_lose 3 rm_X7_lose [.int k] W := by
  obtain ⟨ad, sh, v, f, am, w, g, rfl, rfl, hsh, rfl, hR⟩ := hI
  have hR0 := hR
  obtain ⟨ga, gb, s, fr, rd, h0, hRI, ⟨w0, w31⟩, ⟨v8, w23⟩, hS, hC, hRd, hSh⟩ := hR
  obtain ⟨g0, hs, hz, hfr, hrd⟩ := id h0
  obtain ⟨v9, v10, v11, v12, v13, v14, w1, w2, w3, w5, w8, w9⟩ := id hRI
  have dX : okD (v 9) (v 10) := by rw [v9, v10]; exact g0.dd
  have dM : okD (w 1) (w 2) := by rw [w1, w2]; exact g0.dd
  have nX : okN (v 14) := by rw [v14]; exact ⟨s, hs, rfl⟩
  have nM : okN (w 5) := by rw [w5]; exact ⟨s, hs, rfl⟩
  have rX : okR (v 8) (f 2) (f 3) := by rw [v8]; exact (hRd.okR hrd hs g0.le).1
  have rM : okR (w 23) (g 24) (g 25) := by rw [w23]; exact (hRd.okR hrd hs g0.le).2
  by_cases hk : q_noSheet k = 0
  · obtain ⟨kk, hkk, rfl⟩ := sh_nI hk
    obtain ⟨p1, p2, p3⟩ := lose_ans hkk (hSh kk hkk)
    refine step_J ((cw_lose l G ad sh v f hsh kk hkk).toJ) ((mw_lose l G am w g (nI kk)).toJ) p1 rfl hsh ?_
    intro i9 j9
    rw [if_pos hk, nI_clamp (by omega)]
    exact hR0.sheet (by rw [upd_ne (by omega), upd_ne (by omega)]; exact w0) (fun i hi => by rw [upd_ne (by omega), upd_ne (by omega)]) (fun i h1 h2 => rfl) (fun i h1 h2 => rfl) (fun i hi => by rw [updF_ne (by omega)]) (fun c hc => rfl) (fun k h4 => by { by_cases z : k = kk; { subst z; rw [upd_ne (by omega), upd_eq rfl, upd_eq rfl, updF_eq rfl, updF_ne (by omega), updF_ne (by omega)]; exact p2 }; { rw [upd_ne (by omega), upd_ne (by omega), upd_ne (by omega), upd_ne (by omega), updF_eq rfl, updF_ne (by omega), updF_ne (by omega)]; exact p3 k h4 z _ _ _ (hSh k h4) } })
  · obtain ⟨n1, n2⟩ := shAt_n (sh := sh) hk
    refine step_J ((cw_lose_n l G ad sh v f k n1 (Or.inl n2)).toJ) ((mw_lose l G am w g k).toJ) ?_ rfl hsh ?_
    · unfold m_loseR; rw [if_pos hk]
    · intro i9 j9
      rw [if_neg hk]
      exact hR0.sheet (w0) (fun i hi => rfl) (fun i h1 h2 => rfl) (fun i h1 h2 => rfl) (fun i hi => by rw [updF_ne (by omega)]) (fun c hc => rfl) (hSh.keep (fun i hi => rfl) (fun i hi => rfl) (updF_eq rfl) (updF_ne (by omega)) (updF_ne (by omega)))
set_option maxHeartbeats 200000 in
theorem st_put (l : Launch) (G : GT) {xa ma : Nat} {W : va_W} (hI : INV G xa ma W) (k ii vv : Int32) : STEP Value.int l G xa ma yX6_put cX6_put 4 (some .int) rm_X6_put yX7_put cX7_put 4 rm_X7_put [.int k, .int ii, .int vv] W := by
  obtain ⟨ad, sh, v, f, am, w, g, rfl, rfl, hsh, rfl, hR⟩ := hI
  have hR0 := hR
  obtain ⟨ga, gb, s, fr, rd, h0, hRI, ⟨w0, w31⟩, ⟨v8, w23⟩, hS, hC, hRd, hSh⟩ := hR
  obtain ⟨g0, hs, hz, hfr, hrd⟩ := id h0
  obtain ⟨v9, v10, v11, v12, v13, v14, w1, w2, w3, w5, w8, w9⟩ := id hRI
  have dX : okD (v 9) (v 10) := by rw [v9, v10]; exact g0.dd
  have dM : okD (w 1) (w 2) := by rw [w1, w2]; exact g0.dd
  have nX : okN (v 14) := by rw [v14]; exact ⟨s, hs, rfl⟩
  have nM : okN (w 5) := by rw [w5]; exact ⟨s, hs, rfl⟩
  have rX : okR (v 8) (f 2) (f 3) := by rw [v8]; exact (hRd.okR hrd hs g0.le).1
  have rM : okR (w 23) (g 24) (g 25) := by rw [w23]; exact (hRd.okR hrd hs g0.le).2
  by_cases hk : q_noSheet k = 0
  · obtain ⟨kk, hkk, rfl⟩ := sh_nI hk
    obtain ⟨p1, p2, p3, p4⟩ := put_ans hkk (hSh kk hkk) ii vv
    refine step_J ((cw_put l G ad sh v f hsh kk hkk ii vv (hSh kk hkk).le.1).toJ) ((mw_put l G am w g (nI kk) ii vv hSh.sz).toJ) p1 rfl hsh ?_
    intro i9 j9
    have ef : m_putF (g 27) (nI kk) ii = x_kf (x_pnR (v (21 + kk)) (v (25 + kk)) ii) := by rw [p1]; exact p2.symm
    exact hR0.sheet (by rw [upd_eq rfl, upd_eq rfl]; exact ef) (fun i hi => by rw [upd_ne (by omega)]) (fun i h1 h2 => by rw [updF_ne (by omega)]) (fun i h1 h2 => by rw [upd_ne (by omega)]) (fun i hi => by rw [updF_ne (by omega)]) (fun c hc => rfl) (fun k h4 => by { by_cases z : k = kk; { subst z; rw [upd_ne (by omega), upd_ne (by omega), updF_eq rfl, updF_ne (by omega), updF_ne (by omega), updF_eq rfl]; exact p3 }; { rw [upd_ne (by omega), upd_ne (by omega), updF_ne (by omega), updF_ne (by omega), updF_ne (by omega), updF_eq rfl]; exact p4 k h4 z _ _ _ (hSh k h4) } })
  · obtain ⟨n1, n2⟩ := shAt_n (sh := sh) hk
    refine step_J ((cw_put_n l G ad sh v f k ii vv n1 (Or.inl n2)).toJ) ((mw_put l G am w g k ii vv hSh.sz).toJ) ?_ rfl hsh ?_
    · unfold m_putR; rw [if_pos hk]
    · intro i9 j9
      have e1 : m_putS (g 27) (g 28) (g 29) k ii vv = g 29 := by unfold m_putS; exact if_neg (fun z => hk z.1)
      have e2 : m_putF (g 27) k ii = 0 := by unfold m_putF; exact if_neg hk
      rw [e1, e2]
      exact hR0.sheet (by rw [upd_eq rfl, upd_eq rfl]) (fun i hi => by rw [upd_ne (by omega)]) (fun i h1 h2 => rfl) (fun i h1 h2 => by rw [upd_ne (by omega)]) (fun i hi => by rw [updF_ne (by omega)]) (fun c hc => rfl) (hSh.keep (fun i hi => by rw [upd_ne (by omega)]) (fun i hi => rfl) (updF_ne (by omega)) (updF_ne (by omega)) (updF_eq rfl))
set_option maxHeartbeats 200000 in
theorem st_cell (l : Launch) (G : GT) {xa ma : Nat} {W : va_W} (hI : INV G xa ma W) (k ii lane : Int32) : STEP Value.long l G xa ma yX6_cell cX6_cell 6 (some .long) rm_X6_cell yX7_cell cX7_cell 4 rm_X7_cell [.int k, .int ii, .int lane] W := by
  obtain ⟨ad, sh, v, f, am, w, g, rfl, rfl, hsh, rfl, hR⟩ := hI
  have hR0 := hR
  obtain ⟨ga, gb, s, fr, rd, h0, hRI, ⟨w0, w31⟩, ⟨v8, w23⟩, hS, hC, hRd, hSh⟩ := hR
  obtain ⟨g0, hs, hz, hfr, hrd⟩ := id h0
  obtain ⟨v9, v10, v11, v12, v13, v14, w1, w2, w3, w5, w8, w9⟩ := id hRI
  have dX : okD (v 9) (v 10) := by rw [v9, v10]; exact g0.dd
  have dM : okD (w 1) (w 2) := by rw [w1, w2]; exact g0.dd
  have nX : okN (v 14) := by rw [v14]; exact ⟨s, hs, rfl⟩
  have nM : okN (w 5) := by rw [w5]; exact ⟨s, hs, rfl⟩
  have rX : okR (v 8) (f 2) (f 3) := by rw [v8]; exact (hRd.okR hrd hs g0.le).1
  have rM : okR (w 23) (g 24) (g 25) := by rw [w23]; exact (hRd.okR hrd hs g0.le).2
  by_cases hk : q_noSheet k = 0
  · obtain ⟨kk, hkk, rfl⟩ := sh_nI hk
    obtain ⟨p1, p2⟩ := cell_ans hkk (hSh kk hkk) lane ii
    refine step_J ((cw_cell l G ad sh v f hsh kk hkk ii lane (hSh kk hkk).le.1).toJ) ((mw_cell l G am w g (nI kk) ii lane hSh.sz).toJ) p1 rfl hsh ?_
    intro i9 j9
    exact hR0.sheet (by rw [upd_eq rfl, upd_eq rfl]; exact p2.symm) (fun i hi => by rw [upd_ne (by omega)]) (fun i h1 h2 => rfl) (fun i h1 h2 => by rw [upd_ne (by omega)]) (fun i hi => rfl) (fun c hc => rfl) (hSh.keep (fun i hi => by rw [upd_ne (by omega)]) (fun i hi => rfl) (rfl) (rfl) (rfl))
  · obtain ⟨n1, n2⟩ := shAt_n (sh := sh) hk
    refine step_J ((cw_cell_n l G ad sh v f k ii lane n1 (Or.inl n2)).toJ) ((mw_cell l G am w g k ii lane hSh.sz).toJ) ?_ rfl hsh ?_
    · unfold m_cellR; rw [if_neg (fun z => hk z.1)]
    · intro i9 j9
      have e2 : m_cellF (g 27) (g 28) k ii lane = 0 := by unfold m_cellF; exact if_pos (fun z => hk z.1)
      rw [e2]
      exact hR0.sheet (by rw [upd_eq rfl, upd_eq rfl]) (fun i hi => by rw [upd_ne (by omega)]) (fun i h1 h2 => rfl) (fun i h1 h2 => by rw [upd_ne (by omega)]) (fun i hi => rfl) (fun c hc => rfl) (hSh.keep (fun i hi => by rw [upd_ne (by omega)]) (fun i hi => rfl) (rfl) (rfl) (rfl))
set_option maxHeartbeats 200000 in
theorem st_copy (l : Launch) (G : GT) {xa ma : Nat} {W : va_W} (hI : INV G xa ma W) (k i other j n : Int32) : STEP Value.int l G xa ma yX6_copy cX6_copy 6 (some .int) rm_X6_copy yX7_copy cX7_copy 7 rm_X7_copy [.int k, .int i, .int other, .int j, .int n] W := by
  obtain ⟨ad, sh, v, f, am, w, g, rfl, rfl, hsh, rfl, hR⟩ := hI
  have hR0 := hR
  obtain ⟨ga, gb, s, fr, rd, h0, hRI, ⟨w0, w31⟩, ⟨v8, w23⟩, hS, hC, hRd, hSh⟩ := hR
  obtain ⟨g0, hs, hz, hfr, hrd⟩ := id h0
  obtain ⟨v9, v10, v11, v12, v13, v14, w1, w2, w3, w5, w8, w9⟩ := id hRI
  have dX : okD (v 9) (v 10) := by rw [v9, v10]; exact g0.dd
  have dM : okD (w 1) (w 2) := by rw [w1, w2]; exact g0.dd
  have nX : okN (v 14) := by rw [v14]; exact ⟨s, hs, rfl⟩
  have nM : okN (w 5) := by rw [w5]; exact ⟨s, hs, rfl⟩
  have rX : okR (v 8) (f 2) (f 3) := by rw [v8]; exact (hRd.okR hrd hs g0.le).1
  have rM : okR (w 23) (g 24) (g 25) := by rw [w23]; exact (hRd.okR hrd hs g0.le).2
  by_cases hk : q_noSheet k = 0
  · by_cases ho : q_noSheet other = 0
    · obtain ⟨kk, hkk, rfl⟩ := sh_nI hk
      obtain ⟨oo, hoo, rfl⟩ := sh_nI ho
      obtain ⟨p1, p2, p3, p4⟩ := copy_ans hkk hoo (hSh kk hkk) (hSh oo hoo) i j n
      have ef : m_copyF (g 27) (g 28) (nI kk) i (nI oo) j n = x_kf (x_cpR (v (21 + kk)) (v (25 + kk)) (v (21 + oo)) (v (25 + oo)) i j n) := by rw [p1]; exact p2.symm
      by_cases hne : kk = oo
      · subst hne
        refine step_J ((cw_copy_s l G ad sh v f hsh kk hkk i j n (hSh kk hkk).le.1).toJ) (mw_copy l G am w g (nI kk) i (nI kk) j n hSh.sz) p1 rfl hsh ?_
        intro i9 j9
        exact hR0.sheet (by rw [upd_eq rfl, upd_eq rfl]; exact ef) (fun i hi => by rw [upd_ne (by omega)]) (fun i h1 h2 => by rw [updF_ne (by omega)]) (fun i h1 h2 => by rw [upd_ne (by omega)]) (fun i hi => by rw [updF_ne (by omega), updF_ne (by omega)]) (fun c hc => rfl) (fun k h4 => by { by_cases z : k = kk; { subst z; rw [upd_ne (by omega), upd_ne (by omega), updF_eq rfl, updF_ne (by omega), updF_ne (by omega), updF_ne (by omega), updF_ne (by omega), updF_ne (by omega), updF_eq rfl]; exact p3 }; { rw [upd_ne (by omega), upd_ne (by omega), updF_ne (by omega), updF_ne (by omega), updF_ne (by omega), updF_ne (by omega), updF_ne (by omega), updF_ne (by omega), updF_eq rfl]; exact p4 k h4 z _ _ _ (hSh k h4) } })
      · refine step_J ((cw_copy l G ad sh v f hsh kk hkk oo hoo hne i j n (hSh kk hkk).le.1 (hSh oo hoo).le.1).toJ) (mw_copy l G am w g (nI kk) i (nI oo) j n hSh.sz) p1 rfl hsh ?_
        intro i9 j9
        exact hR0.sheet (by rw [upd_eq rfl, upd_eq rfl]; exact ef) (fun i hi => by rw [upd_ne (by omega)]) (fun i h1 h2 => by rw [updF_ne (by omega)]) (fun i h1 h2 => by rw [upd_ne (by omega)]) (fun i hi => by rw [updF_ne (by omega), updF_ne (by omega)]) (fun c hc => rfl) (fun k h4 => by { by_cases z : k = oo; { subst z; rw [upd_ne (by omega), upd_ne (by omega), updF_eq rfl, updF_ne (by omega), updF_ne (by omega), updF_ne (by omega), updF_ne (by omega), updF_ne (by omega), updF_eq rfl]; exact p3 }; { rw [upd_ne (by omega), upd_ne (by omega), updF_ne (by omega), updF_ne (by omega), updF_ne (by omega), updF_ne (by omega), updF_ne (by omega), updF_ne (by omega), updF_eq rfl]; exact p4 k h4 z _ _ _ (hSh k h4) } })
    · obtain ⟨kk, hkk, hkq⟩ := sh_nI hk
      obtain ⟨m1, m2⟩ := shAt_n (sh := sh) ho
      have hno : ¬ m_cpK k other := fun z => ho z.2
      refine step_J ((cw_copy_n2 l G ad sh v f k i other j n (ad (20 + 2 * kk)) (by rw [hkq]; exact shAt_k hsh hkk) m1 (Or.inr (by rw [hkq]; exact vp_in_nI (by omega) (by omega))) (Or.inl m2)).toJ) (mw_copy l G am w g k i other j n hSh.sz) ?_ rfl hsh ?_
      · unfold m_copyR; rw [if_pos hno]
      · intro i9 j9
        have e1 : m_copyS (g 27) (g 28) (g 29) k i other j n = g 29 := by unfold m_copyS; exact if_neg (fun z => hno z.1)
        have e2 : m_copyF (g 27) (g 28) k i other j n = 0 := by unfold m_copyF; exact if_neg hno
        rw [e1, e2]
        exact hR0.sheet (by rw [upd_eq rfl, upd_eq rfl]) (fun i hi => by rw [upd_ne (by omega)]) (fun i h1 h2 => rfl) (fun i h1 h2 => by rw [upd_ne (by omega)]) (fun i hi => by rw [updF_ne (by omega), updF_ne (by omega)]) (fun c hc => rfl) (hSh.keep (fun i hi => by rw [upd_ne (by omega)]) (fun i hi => rfl) (by rw [updF_ne (by omega), updF_ne (by omega)]) (by rw [updF_ne (by omega), updF_ne (by omega)]) (by rw [updF_ne (by omega), updF_eq rfl]))
  · obtain ⟨n1, n2⟩ := shAt_n (sh := sh) hk
    by_cases ho : q_noSheet other = 0
    · obtain ⟨oo, hoo, hoq⟩ := sh_nI ho
      have hno : ¬ m_cpK k other := fun z => hk z.1
      refine step_J ((cw_copy_n1 l G ad sh v f k i other j n (ad (20 + 2 * oo)) n1 (by rw [hoq]; exact shAt_k hsh hoo) (Or.inl n2) (Or.inr (by rw [hoq]; exact vp_in_nI (by omega) (by omega)))).toJ) (mw_copy l G am w g k i other j n hSh.sz) ?_ rfl hsh ?_
      · unfold m_copyR; rw [if_pos hno]
      · intro i9 j9
        have e1 : m_copyS (g 27) (g 28) (g 29) k i other j n = g 29 := by unfold m_copyS; exact if_neg (fun z => hno z.1)
        have e2 : m_copyF (g 27) (g 28) k i other j n = 0 := by unfold m_copyF; exact if_neg hno
        rw [e1, e2]
        exact hR0.sheet (by rw [upd_eq rfl, upd_eq rfl]) (fun i hi => by rw [upd_ne (by omega)]) (fun i h1 h2 => rfl) (fun i h1 h2 => by rw [upd_ne (by omega)]) (fun i hi => by rw [updF_ne (by omega), updF_ne (by omega)]) (fun c hc => rfl) (hSh.keep (fun i hi => by rw [upd_ne (by omega)]) (fun i hi => rfl) (by rw [updF_ne (by omega), updF_ne (by omega)]) (by rw [updF_ne (by omega), updF_ne (by omega)]) (by rw [updF_ne (by omega), updF_eq rfl]))
    · obtain ⟨m1, m2⟩ := shAt_n (sh := sh) ho
      have hno : ¬ m_cpK k other := fun z => hk z.1
      refine step_J ((cw_copy_n l G ad sh v f k i other j n n1 m1 (Or.inl n2) (Or.inl m2)).toJ) (mw_copy l G am w g k i other j n hSh.sz) ?_ rfl hsh ?_
      · unfold m_copyR; rw [if_pos hno]
      · intro i9 j9
        have e1 : m_copyS (g 27) (g 28) (g 29) k i other j n = g 29 := by unfold m_copyS; exact if_neg (fun z => hno z.1)
        have e2 : m_copyF (g 27) (g 28) k i other j n = 0 := by unfold m_copyF; exact if_neg hno
        rw [e1, e2]
        exact hR0.sheet (by rw [upd_eq rfl, upd_eq rfl]) (fun i hi => by rw [upd_ne (by omega)]) (fun i h1 h2 => rfl) (fun i h1 h2 => by rw [upd_ne (by omega)]) (fun i hi => by rw [updF_ne (by omega), updF_ne (by omega)]) (fun c hc => rfl) (hSh.keep (fun i hi => by rw [upd_ne (by omega)]) (fun i hi => rfl) (by rw [updF_ne (by omega), updF_ne (by omega)]) (by rw [updF_ne (by omega), updF_ne (by omega)]) (by rw [updF_ne (by omega), updF_eq rfl]))
set_option maxHeartbeats 200000 in
theorem st_deed (l : Launch) (G : GT) {xa ma : Nat} {W : va_W} (hI : INV G xa ma W) (a b ce sheet lane i n what : Int32) : STEP Value.int l G xa ma yX6_deed cX6_deed 10 (some .int) rm_X6_deed yX7_deed cX7_deed 11 rm_X7_deed [.int a, .int b, .int ce, .int sheet, .int lane, .int i, .int n, .int what] W := by
  obtain ⟨ad, sh, v, f, am, w, g, rfl, rfl, hsh, rfl, hR⟩ := hI
  have hR0 := hR
  obtain ⟨ga, gb, s, fr, rd, h0, hRI, ⟨w0, w31⟩, ⟨v8, w23⟩, hS, hC, hRd, hSh⟩ := hR
  obtain ⟨g0, hs, hz, hfr, hrd⟩ := id h0
  obtain ⟨v9, v10, v11, v12, v13, v14, w1, w2, w3, w5, w8, w9⟩ := id hRI
  have dX : okD (v 9) (v 10) := by rw [v9, v10]; exact g0.dd
  have dM : okD (w 1) (w 2) := by rw [w1, w2]; exact g0.dd
  have nX : okN (v 14) := by rw [v14]; exact ⟨s, hs, rfl⟩
  have nM : okN (w 5) := by rw [w5]; exact ⟨s, hs, rfl⟩
  have rX : okR (v 8) (f 2) (f 3) := by rw [v8]; exact (hRd.okR hrd hs g0.le).1
  have rM : okR (w 23) (g 24) (g 25) := by rw [w23]; exact (hRd.okR hrd hs g0.le).2
  have hl := g0.le
  by_cases hk : q_noSheet sheet = 0
  · obtain ⟨kk, hkk, rfl⟩ := sh_nI hk
    have hq := deed_ans g0 hs hC hS hkk (hSh kk hkk) (f 1) a b ce lane i n what
    rw [← v9, ← v10, ← v12, ← v13, ← v14] at hq
    have er : m_deedR (v 9) (v 10) (v 14) 0 0 (g 4) (g 6) (g 7) (g 27) (g 28) (g 29) a b ce (nI kk) lane i n what = m_deedR (w 1) (w 2) (w 5) (w 8) (w 9) (g 4) (g 6) (g 7) (g 27) (g 28) (g 29) a b ce (nI kk) lane i n what := by rw [v9, v10, v14, w1, w2, w5, w8, w9]
    have ef : m_deedF (w 1) (w 2) (w 5) (g 27) (g 28) (g 29) a b ce (nI kk) lane i n what = x_kf (x_deedR (v 9) (v 10) (v 12) (v 13) (v 14) (v (21 + kk)) (v (25 + kk)) (f 6) (f 7) (f (11 + kk)) (f 5) (f 1) a b ce lane i n what) := by rw [hq.1, hq.2, v9, v10, v14, w1, w2, w5]
    refine step_J (cw_deed l G ad sh v f hsh kk hkk a b ce lane i n what dX nX (hSh kk hkk).le.1 (by rw [v9, v10, v12, v13, v14]; exact trial_ok g0 hs hC hS _ _)) (mw_deed l G am w g a b ce (nI kk) lane i n what dM nM hSh.sz) (hq.1.trans er) rfl hsh ?_
    intro i9 j9
    exact hR0.sheet (by rw [upd_ne (by omega), upd_ne (by omega), upd_ne (by omega), upd_eq rfl, upd_ne (by omega), upd_ne (by omega), upd_ne (by omega), upd_eq rfl]; exact ef) (fun i hi => by rw [upd_ne (by omega), upd_ne (by omega), upd_ne (by omega), upd_ne (by omega)]) (fun i h1 h2 => by rw [updF_ne (by omega)]) (fun i h1 h2 => by rw [upd_ne (by omega), upd_ne (by omega), upd_ne (by omega), upd_ne (by omega)]) (fun i hi => by rw [updF_ne (by omega), updF_ne (by omega)]) (fun c hc => by rw [updF_ne (by omega), updF_eq rfl]; exact deed_str hc) (hSh.keep (fun i hi => by rw [upd_ne (by omega), upd_ne (by omega), upd_ne (by omega), upd_ne (by omega)]) (fun i hi => by rw [updF_ne (by omega)]) (by rw [updF_ne (by omega), updF_ne (by omega)]) (by rw [updF_ne (by omega), updF_ne (by omega)]) (by rw [updF_ne (by omega), updF_ne (by omega)]))
  · obtain ⟨n1, n2⟩ := shAt_n (sh := sh) hk
    have hno : ¬ m_dKnown (w 1) (w 2) (w 5) a b ce sheet := fun z => hk z.2.2
    have e2 : m_deedF (w 1) (w 2) (w 5) (g 27) (g 28) (g 29) a b ce sheet lane i n what = 0 := by unfold m_deedF; exact if_neg (fun z => hno z.1)
    refine step_J ((cw_deed_n l G ad sh v f a b ce sheet lane i n what n1 (Or.inl n2)).toJ) (mw_deed l G am w g a b ce sheet lane i n what dM nM hSh.sz) ?_ rfl hsh ?_
    · unfold m_deedR; rw [if_pos hno]
    · intro i9 j9
      rw [e2]
      exact hR0.sheet (by rw [upd_ne (by omega), upd_ne (by omega), upd_ne (by omega), upd_eq rfl, upd_eq rfl]) (fun i hi => by rw [upd_ne (by omega)]) (fun i h1 h2 => rfl) (fun i h1 h2 => by rw [upd_ne (by omega), upd_ne (by omega), upd_ne (by omega), upd_ne (by omega)]) (fun i hi => by rw [updF_ne (by omega), updF_ne (by omega)]) (fun c hc => by rw [updF_ne (by omega), updF_eq rfl]; exact deed_str hc) (hSh.keep (fun i hi => by rw [upd_ne (by omega)]) (fun i hi => rfl) (by rw [updF_ne (by omega), updF_ne (by omega)]) (by rw [updF_ne (by omega), updF_ne (by omega)]) (by rw [updF_ne (by omega), updF_ne (by omega)]))
set_option maxHeartbeats 200000 in
theorem st_write (l : Launch) (G : GT) {xa ma : Nat} {W : va_W} (hI : INV G xa ma W) (a b ce sheet lane i n : Int32) : STEP Value.int l G xa ma yX6_write cX6_write 9 (some .int) rm_X6_write yX7_write cX7_write 9 rm_X7_write [.int a, .int b, .int ce, .int sheet, .int lane, .int i, .int n] W := by
  obtain ⟨ad, sh, v, f, am, w, g, rfl, rfl, hsh, rfl, hR⟩ := hI
  have hR0 := hR
  obtain ⟨ga, gb, s, fr, rd, h0, hRI, ⟨w0, w31⟩, ⟨v8, w23⟩, hS, hC, hRd, hSh⟩ := hR
  obtain ⟨g0, hs, hz, hfr, hrd⟩ := id h0
  obtain ⟨v9, v10, v11, v12, v13, v14, w1, w2, w3, w5, w8, w9⟩ := id hRI
  have dX : okD (v 9) (v 10) := by rw [v9, v10]; exact g0.dd
  have dM : okD (w 1) (w 2) := by rw [w1, w2]; exact g0.dd
  have nX : okN (v 14) := by rw [v14]; exact ⟨s, hs, rfl⟩
  have nM : okN (w 5) := by rw [w5]; exact ⟨s, hs, rfl⟩
  have rX : okR (v 8) (f 2) (f 3) := by rw [v8]; exact (hRd.okR hrd hs g0.le).1
  have rM : okR (w 23) (g 24) (g 25) := by rw [w23]; exact (hRd.okR hrd hs g0.le).2
  have hl := g0.le
  by_cases hk : q_noSheet sheet = 0
  · obtain ⟨kk, hkk, rfl⟩ := sh_nI hk
    have hq := write_ans g0 hs hC hS hkk (hSh kk hkk) (f 1) (g 21) a b ce lane i n
    have er : x_writeR (v 9) (v 10) (v 12) (v 13) (v 14) (v (21 + kk)) (v (25 + kk)) (f 6) (f 7) (f (11 + kk)) (f 5) (f 1) a b ce lane i n = m_writeR (w 1) (w 2) (w 5) (w 8) (w 9) (g 4) (g 6) (g 7) (g 27) (g 28) (g 29) a b ce (nI kk) lane i n := by rw [v9, v10, v12, v13, v14, w1, w2, w5, w8, w9]; exact hq.1
    have ef : m_writeF (w 1) (w 2) (w 5) (g 27) (g 28) (g 29) a b ce (nI kk) lane i n = x_kf (x_writeR (v 9) (v 10) (v 12) (v 13) (v 14) (v (21 + kk)) (v (25 + kk)) (f 6) (f 7) (f (11 + kk)) (f 5) (f 1) a b ce lane i n) := by rw [er, w1, w2, w5, w8, w9]; exact hq.2.1.symm
    have hS2 : rS (ga * gb) (x_writeS (v 9) (v 10) (v 12) (v 13) (v 14) (v (21 + kk)) (v (25 + kk)) (f 6) (f 7) (f (11 + kk)) (f 5) (f 1) a b ce lane i n) (m_writeS4 (w 1) (w 2) (w 5) (w 8) (w 9) (g 4) (g 6) (g 7) (g 27) (g 28) (g 29) (g 21) a b ce (nI kk) lane i n) := by rw [v9, v10, v12, v13, v14, w1, w2, w5, w8, w9]; exact hq.2.2
    refine step_J (cw_write l G ad sh v f hsh kk hkk a b ce lane i n dX nX (hSh kk hkk).le.1 (by rw [v9, v10, v12, v13, v14]; exact trial_ok g0 hs hC hS _ _)) (mw_write l G am w g a b ce (nI kk) lane i n dM nM hSh.sz) er rfl hsh ?_
    intro i9 j9
    exact REL.str h0 hRI w31 v8 w23 hC hRd (by rw [upd_ne (by omega), upd_ne (by omega), upd_ne (by omega), upd_eq rfl, upd_ne (by omega), upd_ne (by omega), upd_ne (by omega), upd_eq rfl]; exact ef) (fun i hi => by rw [upd_ne (by omega), upd_ne (by omega), upd_ne (by omega), upd_ne (by omega)]) (fun i h1 h2 h3 => by rw [updF_ne (by omega), updF_ne (by omega)]) (fun i h1 h2 => by rw [upd_ne (by omega), upd_ne (by omega), upd_ne (by omega), upd_ne (by omega)]) (fun i hi => by rw [updF_ne (by omega), updF_ne (by omega)]) (by rw [updF_eq rfl, updF_ne (by omega), updF_eq rfl]; exact hS2) (hSh.keep (fun i hi => by rw [upd_ne (by omega), upd_ne (by omega), upd_ne (by omega), upd_ne (by omega)]) (fun i hi => by rw [updF_ne (by omega), updF_ne (by omega)]) (by rw [updF_ne (by omega), updF_ne (by omega)]) (by rw [updF_ne (by omega), updF_ne (by omega)]) (by rw [updF_ne (by omega), updF_ne (by omega)]))
  · obtain ⟨n1, n2⟩ := shAt_n (sh := sh) hk
    have hno : ¬ m_dKnown (w 1) (w 2) (w 5) a b ce sheet := fun z => hk z.2.2
    have e2 : m_writeF (w 1) (w 2) (w 5) (g 27) (g 28) (g 29) a b ce sheet lane i n = 0 := by unfold m_writeF; exact if_neg (fun z => hno z.1)
    have e1 : m_writeS4 (w 1) (w 2) (w 5) (w 8) (w 9) (g 4) (g 6) (g 7) (g 27) (g 28) (g 29) (g 21) a b ce sheet lane i n = g 4 := by unfold m_writeS4; exact if_neg (fun z => hno z.1)
    refine step_J ((cw_write_n l G ad sh v f a b ce sheet lane i n n1 (Or.inl n2)).toJ) (mw_write l G am w g a b ce sheet lane i n dM nM hSh.sz) ?_ rfl hsh ?_
    · unfold m_writeR; rw [if_pos hno]
    · intro i9 j9
      rw [e1, e2]
      exact hR0.sheet (by rw [upd_ne (by omega), upd_ne (by omega), upd_ne (by omega), upd_eq rfl, upd_eq rfl]) (fun i hi => by rw [upd_ne (by omega)]) (fun i h1 h2 => rfl) (fun i h1 h2 => by rw [upd_ne (by omega), upd_ne (by omega), upd_ne (by omega), upd_ne (by omega)]) (fun i hi => by rw [updF_ne (by omega), updF_ne (by omega)]) (fun c hc => by rw [updF_ne (by omega), updF_eq rfl]) (hSh.keep (fun i hi => by rw [upd_ne (by omega)]) (fun i hi => rfl) (by rw [updF_ne (by omega), updF_ne (by omega)]) (by rw [updF_ne (by omega), updF_ne (by omega)]) (by rw [updF_ne (by omega), updF_ne (by omega)]))
