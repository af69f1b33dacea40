theorem ok_X0_take (l : Launch) (G : GT) (h_X5_digit : K_X5_digit l G) (h_X5_goesOn : K_X5_goesOn l G) (h_X5_kind : K_X5_kind l G) (h_X5_sign : K_X5_sign l G) : K_X0_take l G := by
  intro c0 c1 c2 x0 x1 cnt xl xp xw ck cwt xc p0
  refine wk_X0_take l G c0 c1 c2 x0 x1 cnt xl xp xw ck cwt xc ((crwAll xl xc (xp, xw) ck cwt).2.2.2) ((crwAll xl xc (xp, xw) ck cwt).2.1) ((crwAll xl xc (xp, xw) ck cwt).2.2.1) ((crwAll xl xc (xp, xw) ck cwt).1.1) ((crwAll xl xc (xp, xw) ck cwt).1.2) (fun c x y ek ew p w => ∃ a, a ≤ 4 ∧ c = 4 - a ∧ x = nI a ∧ y = nI a ∧ okT xl p ∧ crwN xl xc (4 - a) a ((p, w), ek, ew, nI a) = crwAll xl xc (xp, xw) ck cwt) h_X5_digit h_X5_goesOn h_X5_kind h_X5_sign ?_ ?_
  · exact ⟨4, 0, by omega, rfl, rfl, rfl, p0, rfl⟩
  · rintro c x y ek ew p w ⟨a, ha, rfl, rfl, rfl, hp, he⟩
    have step : ¬ nI 4 ≤ nI a → (a < 2 ∨ s_go xl p w) → okT xl p ∧ okT xl (s_takeP xl p w xc 44 44) ∧ vp_in (nI a) 4 ∧ crwN xl xc (4 - (a + 1)) (a + 1) (crw xl xc a ((p, w), ek, ew, nI a)) = crwAll xl xc (xp, xw) ck cwt := by
      intro h h2
      have hlt := lp_more (N := 4) (by omega) ha h
      rw [show 4 - a = (4 - (a + 1)) + 1 by omega, crwNS, if_pos h2] at he
      exact ⟨hp, hp.step, vp_in_nI hlt (by omega), he⟩
    refine ⟨fun h => ?_, fun h => ⟨fun h2 => ?_, fun h2 => ⟨fun h3 => ?_, fun h3 => ?_⟩⟩⟩
    · rw [← he, show 4 - a = 0 by have := lp_done (N := 4) (by omega) ha h; omega, crwN0]
      exact ⟨rfl, rfl, rfl, rfl, rfl⟩
    · have h2' : a < 2 := (nI_ltI (a := a) (b := 2) (by omega) (by omega)).mp h2
      obtain ⟨q1, q2, q3, q4⟩ := step h (Or.inl h2')
      rw [nI_cl (k := a) (by omega), nI_1]
      refine ⟨q1, q2, q3, q2.step, q3, 4 - (a + 1), by omega, a + 1, by omega, rfl, rfl, rfl, q2.step.step, q4⟩
    · unfold s_goesOn at h3
      rw [ite01] at h3
      have h2' : ¬ a < 2 := fun z => h2 ((nI_ltI (a := a) (b := 2) (by omega) (by omega)).mpr z)
      have hlt := lp_more (N := 4) (by omega) ha h
      rw [show 4 - a = (4 - (a + 1)) + 1 by omega, crwNS, if_neg (fun z => z.elim h2' h3)] at he
      rw [← he]
      exact ⟨rfl, rfl, rfl, rfl, rfl⟩
    · unfold s_goesOn at h3
      rw [ite01, Classical.not_not] at h3
      have hlt := lp_more (N := 4) (by omega) ha h
      obtain ⟨q1, q2, q3, q4⟩ := step h (Or.inr h3)
      rw [nI_cl (k := a) (by omega), nI_1]
      refine ⟨q1, q2, q3, q2.step, q3, 4 - (a + 1), by omega, a + 1, by omega, rfl, rfl, rfl, q2.step.step, q4⟩

theorem ok_X7_copy (l : Launch) (G : GT) (h_X7_failed : K_X7_failed l G) (h_X7_isBeyond : K_X7_isBeyond l G) (h_X7_noSheet : K_X7_noSheet l G) (h_X7_refused : K_X7_refused l G) : K_X7_copy l G := by
  intro m0 a4 a6 a7 a15 a16 a17 a21 a22 a24 a25 a26 a27 a28 a29 a30 f0 f1 f2 f3 f5 f8 f9 f10 f11 f12 f13 f14 f18 f19 f20 f23 f31 g4 g6 g7 g15 g16 g17 g21 g22 g24 g25 g26 g27 g28 g29 g30 k i o j n p0
  refine wk_X7_copy l G m0 a4 a6 a7 a15 a16 a17 a21 a22 a24 a25 a26 a27 a28 a29 a30 f0 f1 f2 f3 f5 f8 f9 f10 f11 f12 f13 f14 f18 f19 f20 f23 f31 g4 g6 g7 g15 g16 g17 g21 g22 g24 g25 g26 g27 g28 g29 g30 k i o j n (m_copyR g27 g28 k i o j n) (m_copyF g27 g28 k i o j n) (m_copyS g27 g28 g29 k i o j n) (fun c x y => m_cpK k o ∧ m_cpBar g27 g28 k i o j n = 0 ∧ ∃ m N A B : Nat, 60 * k + i = nI A ∧ 60 * o + j = nI B ∧ A + N ≤ 240 ∧ B + N ≤ 240 ∧ N ≤ 60 ∧ n = nI N ∧ m ≤ N ∧ c = N - m ∧ x = nI m ∧ y = s_cpN m (fun q => g29 (A + q)) g30) (fun c x y z => m_cpK k o ∧ m_cpBar g27 g28 k i o j n = 0 ∧ ∃ m N A B : Nat, 60 * k + i = nI A ∧ 60 * o + j = nI B ∧ A + N ≤ 240 ∧ B + N ≤ 240 ∧ N ≤ 60 ∧ n = nI N ∧ m ≤ N ∧ c = N - m ∧ x = nI m ∧ z = s_cpN N (fun q => g29 (A + q)) g30 ∧ y = fun q => if B ≤ q ∧ q < B + m then (fun q => g29 (A + q)) (q - B) else g29 q) h_X7_failed h_X7_isBeyond h_X7_noSheet h_X7_refused ?_ ?_ ?_
  · refine ⟨fun h => ?_, fun h1 => ⟨fun h2 => ?_, fun h => ?_⟩⟩
    · unfold m_copyR m_copyF m_copyS
      rw [if_pos (fun z => h z.1), if_neg (fun z => h z.1), if_neg (fun z => h z.1.1)]
      exact ⟨rfl, rfl, rfl⟩
    · have hk := vpK.resolve_left (fun z => z h1)
      have ho := vpK.resolve_left (fun z => z h2)
      refine ⟨hk, fun h3 => ?_, fun h3 => ⟨ho, fun h4 => ⟨hk, ho, fun h5 => ⟨hk, fun h6 => ?_, fun h6 => ⟨ho, fun h7 => ?_, fun h7 => ?_⟩⟩, fun h5 => ?_⟩, fun h4 => ?_⟩⟩
      · exact cpFail ⟨h1, h2⟩ (by unfold m_cpBar; rw [if_pos (Or.inl h3)]) (by decide)
      · exact cpFail ⟨h1, h2⟩ (by unfold m_cpBar; rw [if_neg (fun z => z.elim h3 (Int32.not_lt.mpr h4)), if_neg (fun z => z h5), if_pos (Or.inl h6)]) (by decide)
      · obtain ⟨A, N, eA, en, h60, hA⟩ := rowAt hk p0 h6
        obtain ⟨B, N2, eB, en2, h602, hB⟩ := rowAt ho p0 h7
        have hNN : N2 = N := (nI_eq (by omega) (by omega)).mp (en2.symm.trans en)
        exact ⟨N, ⟨h1, h2⟩, cpBar0 h3 (Int32.not_lt.mpr h4) h5 h6 h7, 0, N, A, B, eA, eB, hA, by omega, h60, en, Nat.zero_le _, by omega, rfl, rfl⟩
      · exact cpFail ⟨h1, h2⟩ (by unfold m_cpBar; rw [if_neg (fun z => z.elim h3 (Int32.not_lt.mpr h4)), if_neg (fun z => z h5), if_pos (Or.inr h7)]) (by decide)
      · exact cpFail ⟨h1, h2⟩ (by unfold m_cpBar; rw [if_neg (fun z => z.elim h3 (Int32.not_lt.mpr h4)), if_pos h5]) (by decide)
      · exact cpFail ⟨h1, h2⟩ (by unfold m_cpBar; rw [if_pos (Or.inr (Int32.not_le.mp h4))]) (by decide)
    · unfold m_copyR m_copyF m_copyS
      rw [if_pos (fun z => h z.2), if_neg (fun z => h z.2), if_neg (fun z => h z.1.2)]
      exact ⟨rfl, rfl, rfl⟩
  · rintro c x y ⟨hk, hb, m, N, A, B, eA, eB, hA, hB, h60, en, hm, rfl, rfl, rfl⟩
    refine ⟨fun h => ?_, fun h => ?_⟩
    · rw [en] at h
      have e := lp_done (by omega) hm h
      subst e
      refine ⟨m, hk, hb, 0, m, A, B, eA, eB, hA, hB, h60, en, Nat.zero_le _, by omega, rfl, rfl, ?_⟩
      funext q
      rw [if_neg (by omega)]
    · rw [en] at h
      have hlt := lp_more (by omega) hm h
      rw [eA, nI_add, nI_cl (k := A + m) (by omega), nI_cl (k := m) (by omega)]
      exact ⟨vp_in_nI (by omega) (by omega), vp_in_nI (by omega) (by omega), N - (m + 1), by omega, hk, hb, m + 1, N, A, B, rfl, eB, hA, hB, h60, en, hlt, rfl, nI_1 m, upd_run rfl⟩
  · rintro c x y z ⟨hk, hb, m, N, A, B, eA, eB, hA, hB, h60, en, hm, rfl, rfl, rfl, rfl⟩
    refine ⟨fun h => ?_, fun h => ?_⟩
    · rw [en] at h
      have e := lp_done (by omega) hm h
      subst e
      unfold m_copyR m_copyF m_copyS
      rw [if_neg (fun z => z hk), if_neg (fun z => z hb), if_pos hk, if_pos ⟨hk, hb⟩, hb, eA, eB, en, nI_cl (k := A) (by omega), nI_cl (k := B) (by omega), nI_cl (k := m) (by omega)]
      exact ⟨rfl, rfl, rfl⟩
    · rw [en] at h
      have hlt := lp_more (by omega) hm h
      rw [eB, nI_add, nI_cl (k := B + m) (by omega), nI_cl (k := m) (by omega)]
      refine ⟨vp_in_nI (by omega) (by omega), vp_in_nI (by omega) (by omega), N - (m + 1), by omega, hk, hb, m + 1, N, A, B, eA, rfl, hA, hB, h60, en, hlt, rfl, nI_1 m, rfl, ?_⟩
      refine blk_run2 (f := fun q => g29 (A + q)) rfl ?_
      show (if m < N then g29 (A + m) else g30 m) = g29 (A + m)
      rw [if_pos hlt]
