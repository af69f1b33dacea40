theorem ok_X2_take (l : Launch) (G : GT) (h_X5_digit : K_X5_digit l G) (h_X5_sign : K_X5_sign l G) : K_X2_take l G := by
  intro i0 i1 x0 x1 hi wi fr fc lc xl xp xw str xc p0
  obtain ⟨H, hH1, hH, eH⟩ := hiV xl xc (xp, xw)
  obtain ⟨W, hW1, hW, eW⟩ := wiV xl xc (xp, xw)
  have eH2 := eH
  have eW2 := eW
  simp only [itHi, itWi, it2, it1, dgR, dgS, tkR, tkS] at eH2 eW2
  have cH : (itHi xl xc (xp, xw)).toNatClampNeg = H := by rw [eH, nI_clamp (by omega)]
  have cW : (itWi xl xc (xp, xw)).toNatClampNeg = W := by rw [eW, nI_clamp (by omega)]
  have eR : itRow xl xc (xp, xw) str = rowN xl xc W (it4 xl xc (xp, xw)) str H := by unfold itRow; rw [cH, cW]
  refine wk_X2_take l G i0 i1 x0 x1 hi wi fr fc lc xl xp xw str xc (itHi xl xc (xp, xw)) (itWi xl xc (xp, xw)) (itFr xl xc (xp, xw)) ((itRow xl xc (xp, xw) str).2.2) ((itRow xl xc (xp, xw) str).2.2 <<< ((itWi xl xc (xp, xw) - 1) &&& 31)) ((itRow xl xc (xp, xw) str).2.1) ((itRow xl xc (xp, xw) str).1.1) ((itRow xl xc (xp, xw) str).1.2) (fun c x y s p w => ∃ r, r ≤ H ∧ c = H - r ∧ x = nI r ∧ okT xl p ∧ rowN xl xc W (it4 xl xc (xp, xw)) str r = ((p, w), s, y)) (fun n44 x44 y44 s44 p44 w44 c x z y s p w => x = x44 ∧ ¬ nI H ≤ x44 ∧ ∃ q, q ≤ W ∧ c = W - q ∧ z = nI q ∧ okT xl p ∧ y = (y44 ||| ((1 : Int32) <<< ((x44 * nI W) &&& 31))) ∧ colN xl xc (x44.toNatClampNeg * W) (tkS xl xc 59 59 (p44, w44)) s44 q = ((p, w), s)) h_X5_digit h_X5_sign ?_ ?_ ?_
  · exact ⟨p0, p0.step, p0.step.step, p0.step.step.step, H, 0, Nat.zero_le _, by omega, rfl, p0.step.step.step.step, by rw [rowN]; rfl⟩
  · rintro c x y s p w ⟨r, hr, rfl, rfl, hp, he⟩
    rw [eH2, eW2]
    refine ⟨fun h => ?_, fun h => ⟨hp, W, rfl, h, 0, Nat.zero_le _, by omega, rfl, hp.step, rfl, by rw [colN]; rfl⟩⟩
    have e := lp_done (by omega) hr h
    rw [e] at he
    rw [eR, he, eH, eW]
    refine ⟨rfl, rfl, ?_, rfl, rfl, rfl, rfl, rfl⟩
    simp only [itFr, it3, it2, it1, dgR, dgS, tkR, tkS]
  · rintro c x y s p w ⟨r, hr, rfl, rfl, hp, he⟩ n77 x2 x3 y4 s4 p4 w4 ⟨rfl, h41, q, hq, rfl, rfl, hp4, rfl, hc⟩
    have hr2 := lp_more (by omega) hr h41
    rw [nI_cl (by omega)] at hc
    rw [eW2]
    refine ⟨fun h => ?_, fun h => ?_⟩
    · have e := lp_done (by omega) hq h
      subst e
      refine ⟨H - (r + 1), by omega, r + 1, by omega, by omega, nI_1 r, hp4, ?_⟩
      rw [rowNS, he, hc]
    · have hlt := lp_more (by omega) hq h
      have hb : r * W + q < 20 := by
        have h1 : (r + 1) * W ≤ 4 * 5 := Nat.mul_le_mul (by omega) hW
        rw [Nat.succ_mul] at h1
        omega
      rw [nI_mul, nI_add, nI_cl (by omega)]
      refine ⟨hp4, vp_in_nI hb (by omega), W - (q + 1), by omega, rfl, h41, q + 1, by omega, by omega, nI_1 q, hp4.step, rfl, ?_⟩
      rw [nI_cl (by omega), colNS, hc]
      rfl
