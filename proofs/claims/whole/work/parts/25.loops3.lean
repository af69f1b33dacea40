theorem ok_X7_bits (l : Launch) (G : GT) : K_X7_bits l G := by
  intro set
  refine wk_X7_bits l G set (q_bits set) (fun c n x => ∃ k, k ≤ 31 ∧ c = 31 - k ∧ q_bitsN (32 - k) n x = q_bitsN 32 0 set ∧ x.toInt < 2 ^ (31 - k)) ?_ ?_
  · exact ⟨31, 0, by omega, rfl, rfl, by have := (i32b set).2; simpa using this⟩
  · rintro c n x ⟨k, hk, rfl, he, hx⟩
    have z : (0 : Int32).toInt = 0 := by decide
    rw [show 32 - k = (31 - k) + 1 by omega, bitsS (31 - k) n x] at he
    refine ⟨fun h => ?_, fun h => ?_⟩
    · rw [if_neg (Int32.not_lt.mpr h)] at he
      unfold q_bits
      exact he
    · have h1 : 0 < x := Int32.not_le.mp h
      rw [if_pos h1] at he
      have h2 : 0 < x.toInt := by rw [Int32.lt_iff_toInt_lt, z] at h1; exact h1
      have hk2 : k < 31 := by
        rcases Nat.lt_or_ge k 31 with q | q
        · exact q
        · rw [show 31 - k = 0 by omega] at hx
          omega
      obtain ⟨j, hj, rfl⟩ := nI_of (x := x) (by rw [Int32.lt_iff_toInt_lt, z]; omega)
      refine ⟨31 - (k + 1), by omega, k + 1, by omega, rfl, ?_, ?_⟩
      · rw [show 32 - (k + 1) = 31 - k by omega]
        exact he
      · rw [pk_shrN hj (1 &&& 31) 1 (by decide), nI_toInt (by omega)]
        rw [nI_toInt hj, show 31 - k = (31 - (k + 1)) + 1 by omega, Int.pow_succ] at hx
        generalize (2 : Int) ^ (31 - (k + 1)) = w at hx ⊢
        omega

theorem ok_X7_share (l : Launch) (G : GT) : K_X7_share l G := by
  intro up down which p0
  obtain ⟨A, B, hA, hB, hB1, eA, eB⟩ := p0
  refine wk_X7_share l G up down which (q_share up down which) (fun c x y => ∃ i j f : Nat, i < 2 ^ 31 ∧ j ≤ 256 ∧ j < f ∧ x = lN i ∧ y = lN j ∧ (j = 0 → 1 ≤ i) ∧ c = j ∧ q_gcdN f x y = q_gcdN 257 up down) ?_ ?_
  · exact ⟨B, A, B, 257, by omega, hB, by omega, eA, eB, by omega, rfl, rfl⟩
  · rintro c x y ⟨i, j, f, hi, hj, hf, rfl, rfl, h0, hcj, he⟩
    obtain ⟨f, rfl⟩ : ∃ g, f = g + 1 := ⟨f - 1, by omega⟩
    have hz : (lN j = 0) = (j = 0) := propext (pk_lEQ (a := j) (b := 0) (by omega) (by omega))
    have hzi : (lN i = 0) = (i = 0) := propext (pk_lEQ (a := i) (b := 0) (by omega) (by omega))
    rw [gcdS f (lN i) (lN j)] at he
    rw [lge, hz]
    refine ⟨fun h => ?_, fun h => ⟨fun z => h (hz ▸ z), ?_⟩⟩
    · rintro v rfl
      rw [if_pos (hz ▸ h)] at he
      refine ⟨fun z => ?_, ?_⟩
      · rw [hzi] at z
        have := h0 h
        omega
      · unfold q_share
        rw [← he]
    · rw [if_neg (fun z => h (hz ▸ z))] at he
      have hm := Nat.mod_lt i (show 0 < j by omega)
      have er : lN i - lN i / lN j * lN j = lN (i % j) := pk_lRem (by omega) (by omega) (by omega)
      exact ⟨i % j, by omega, j, i % j, f, by omega, by omega, by omega, rfl, er, by omega, rfl, he⟩

theorem ok_X7_goDeed (l : Launch) (G : GT) (h_X7_bears : K_X7_bears l G) (h_X7_beside : K_X7_beside l G) : K_X7_goDeed l G := by
  intro m0 a4 a6 a7 a15 a16 a17 a21 a22 a24 a25 a26 a27 a28 a29 a30 f0 f1 f2 f3 f5 f8 f9 f10 f11 f12 f13 f14 f18 f19 f20 f23 f31 g4 g6 g7 g15 g16 g17 g21 g22 g24 g25 g26 g27 g28 g29 g30 a b ce fro n p0 p1 p2 p3 p4
  obtain ⟨fr, hfr, efr⟩ := nI_of p4.1
  obtain ⟨N, hN, en⟩ := nI_of p4.2.1
  have hl := p4.2.2
  rw [efr, en, nI_clamp hfr, nI_clamp hN] at hl
  have hc : n.toNatClampNeg = N := by rw [en, nI_clamp (by omega)]
  refine wk_X7_goDeed l G m0 a4 a6 a7 a15 a16 a17 a21 a22 a24 a25 a26 a27 a28 a29 a30 f0 f1 f2 f3 f5 f8 f9 f10 f11 f12 f13 f14 f18 f19 f20 f23 f31 g4 g6 g7 g15 g16 g17 g21 g22 g24 g25 g26 g27 g28 g29 g30 a b ce fro n ((q_deedN f1 f2 f8 f9 g6 g7 g29 fro a b ce g4 n.toNatClampNeg).1) ((q_deedN f1 f2 f8 f9 g6 g7 g29 fro a b ce g4 n.toNatClampNeg).2.1) ((q_deedN f1 f2 f8 f9 g6 g7 g29 fro a b ce g4 n.toNatClampNeg).2.2.1) ((q_deedN f1 f2 f8 f9 g6 g7 g29 fro a b ce g4 n.toNatClampNeg).2.2.2) (fun c x w18 w19 w20 w1 => ∃ m, m ≤ N ∧ c = N - m ∧ x = nI m ∧ q_deedN f1 f2 f8 f9 g6 g7 g29 fro a b ce g4 m = (w18, w19, w20, w1)) h_X7_bears h_X7_beside ?_ ?_
  · exact ⟨N, 0, by omega, rfl, rfl, by rw [q_deedN]⟩
  · rintro c x w18 w19 w20 w1 ⟨m, hm, rfl, rfl, hd⟩
    rw [hc]
    refine ⟨fun h => ?_, fun h => ⟨fun h2 => ?_, fun h2 => ⟨?_, p1, ⟨fun _ => trivial, fun h3 => ?_⟩, ?_⟩⟩⟩
    · rw [en] at h
      rw [← lp_done hN hm h, hd]
      exact ⟨rfl, rfl, rfl, rfl⟩
    · rw [show N = m + (N - m) by omega, deedStay (by rw [hd]; exact h2), hd]
      exact ⟨rfl, rfl, rfl, rfl⟩
    · rw [en] at h
      have hlt := lp_more hN hm h
      rw [efr, nI_add]
      exact vp_in_nI (by omega) (by omega)
    · have hb := besideIn p0 p1 (Int32.not_lt.mp h3)
      exact ⟨hb, vp_ite p2 p3, fun _ => ⟨hb, hb⟩, fun _ => trivial⟩
    · rw [en] at h
      have hlt := lp_more hN hm h
      rintro v18 v19 v20 v1 rfl rfl rfl rfl
      refine ⟨_, by omega, m + 1, hlt, rfl, nI_1 m, ?_⟩
      rw [deedS, hd, if_pos (Int32.not_le.mp h2)]
      simp only [ite_odd (show m < 2 ^ 31 by omega)]
      unfold q_dStep
      grind

theorem ok_X7_strokesBarred (l : Launch) (G : GT) (h_X7_cellsBarred : K_X7_cellsBarred l G) (h_X7_in : K_X7_in l G) (h_X7_refused : K_X7_refused l G) : K_X7_strokesBarred l G := by
  intro m0 a4 a6 a7 a15 a16 a17 a21 a22 a24 a25 a26 a27 a28 a29 a30 f0 f1 f2 f3 f5 f8 f9 f10 f11 f12 f13 f14 f18 f19 f20 f23 f31 g4 g6 g7 g15 g16 g17 g21 g22 g24 g25 g26 g27 g28 g29 g30 k lane i n p0 p1
  refine wk_X7_strokesBarred l G m0 a4 a6 a7 a15 a16 a17 a21 a22 a24 a25 a26 a27 a28 a29 a30 f0 f1 f2 f3 f5 f8 f9 f10 f11 f12 f13 f14 f18 f19 f20 f23 f31 g4 g6 g7 g15 g16 g17 g21 g22 g24 g25 g26 g27 g28 g29 g30 k lane i n (q_sbRes g27 g28 g29 k lane i n) (q_sbFault g27 g28 g29 k lane i n) (fun c x => ∃ m N, m ≤ N ∧ N ≤ 60 ∧ c = N - m ∧ x = nI m ∧ n = nI N ∧ q_barred g27 g28 k lane i n.toInt64 = 0 ∧ ∀ y, y < m → (0 ≤ g29 (((60 * k) + i) + nI y).toNatClampNeg ∧ g29 (((60 * k) + i) + nI y).toNatClampNeg ≤ 3)) h_X7_cellsBarred h_X7_in h_X7_refused ?_ ?_
  · refine ⟨p0, fun h => ?_, fun h => ?_⟩
    · rw [bResV] at h
      obtain ⟨K, I, N, hK, ek, ei, en, hN, e⟩ := barredOk p0 p1 h
      exact ⟨N, 0, N, Nat.zero_le _, by omega, rfl, rfl, en, h, fun y hy => absurd hy (Nat.not_lt_zero _)⟩
    · rw [bResV] at h
      unfold q_sbRes q_sbFault q_bRes q_bFault
      rw [if_neg h, if_neg h, if_neg h, if_neg h]
      exact ⟨rfl, rfl⟩
  · rintro c x ⟨m, N, hm, hN, rfl, rfl, en, hb, hy⟩
    obtain ⟨K, I, N2, hK, ek, ei, en2, hl, e⟩ := barredOk p0 p1 hb
    have hNN : N2 = N := (nI_eq (by omega) (by omega)).mp (en2.symm.trans en)
    have hc : n.toNatClampNeg = N := by rw [en, nI_clamp (by omega)]
    refine ⟨fun h => ?_, fun h => ?_⟩
    · rw [en] at h
      have hmN := lp_done (by omega) hm h
      unfold q_sbRes q_sbFault q_sbBad q_noStroke
      rw [if_pos hb, if_pos hb, hc, decide_eq_false (by rintro ⟨y, h1, h2⟩; exact h2 (hy y (by omega)))]
      exact ⟨rfl, rfl⟩
    · rw [en] at h
      have hlt := lp_more (by omega) hm h
      refine ⟨?_, fun h2 => ?_, fun h2 => ?_⟩
      · rw [e, nI_add]
        exact vp_in_nI (by omega) (by omega)
      · rw [q_in03, Classical.not_not] at h2
        refine ⟨_, by omega, m + 1, N, hlt, hN, rfl, nI_1 m, en, hb, fun y h3 => ?_⟩
        rcases Nat.lt_or_ge y m with q | q
        · exact hy y q
        · rw [show y = m by omega]
          exact h2
      · rw [q_in03] at h2
        unfold q_sbRes q_sbFault q_sbBad q_noStroke
        rw [if_pos hb, if_pos hb, hc, decide_eq_true ⟨m, hlt, h2⟩]
        exact ⟨rfl, rfl⟩

theorem ok_X7_leftBy (l : Launch) (G : GT) (h_X7_bears : K_X7_bears l G) (h_X7_beside : K_X7_beside l G) : K_X7_leftBy l G := by
  intro m0 a4 a6 a7 a15 a16 a17 a21 a22 a24 a25 a26 a27 a28 a29 a30 f0 f1 f2 f3 f5 f8 f9 f10 f11 f12 f13 f14 f18 f19 f20 f23 f31 g4 g6 g7 g15 g16 g17 g21 g22 g24 g25 g26 g27 g28 g29 g30 place a b p0 p1 p2 p3 p4
  refine wk_X7_leftBy l G m0 a4 a6 a7 a15 a16 a17 a21 a22 a24 a25 a26 a27 a28 a29 a30 f0 f1 f2 f3 f5 f8 f9 f10 f11 f12 f13 f14 f18 f19 f20 f23 f31 g4 g6 g7 g15 g16 g17 g21 g22 g24 g25 g26 g27 g28 g29 g30 place a b (q_leftBy f1 f2 f8 f9 g4 g6 g7 g22 a b place) (fun c x y => ∃ k, k ≤ 4 ∧ c = 4 - k ∧ y = nI k ∧ x = q_leftN f1 f2 f8 f9 g4 g6 g7 g22 a b (place - place / 20 * 20) (place / 20) k) h_X7_bears h_X7_beside ?_ ?_
  · exact ⟨4, 0, by omega, rfl, nI_0.symm, (left0 _ _ _ _ _ _ _ _ _ _ _ _).symm⟩
  · rintro c x y ⟨k, hk, rfl, rfl, rfl⟩
    obtain ⟨p, hp, ep⟩ := vp_in_of p4 (by omega)
    have ht := ep ▸ turnOf hp
    refine ⟨fun h => ?_, fun h => ⟨p1, ⟨fun _ => trivial, fun h2 => ⟨besideIn p0 p1 (Int32.not_lt.mp h2), vp_ite p2 p3⟩⟩, ?_⟩⟩
    · rw [lp_done (N := 4) (by omega) hk h]
      unfold q_leftBy
      rfl
    · have hlt := lp_more (N := 4) (by omega) hk h
      rintro v rfl
      refine ⟨⟨fun _ => trivial, fun h2 => idx40 (besideIn p0 p1 (by grind)) ht⟩, ?_⟩
      intro v91 e91 v121 e121
      replace e91 := e91.symm
      replace e121 := e121.symm
      subst e91 e121
      refine ⟨_, by omega, k + 1, hlt, rfl, nI_1 k, ?_⟩
      rw [leftS]
      unfold q_its q_best
      grind

theorem ok_X7_goBond (l : Launch) (G : GT) (h_X7_cells : K_X7_cells l G) (h_X7_leftBy : K_X7_leftBy l G) : K_X7_goBond l G := by
  intro m0 a4 a6 a7 a15 a16 a17 a21 a22 a24 a25 a26 a27 a28 a29 a30 f0 f1 f2 f3 f5 f8 f9 f10 f11 f12 f13 f14 f18 f19 f20 f23 f31 g4 g6 g7 g15 g16 g17 g21 g22 g24 g25 g26 g27 g28 g29 g30 a b to p0 p1 p2 p3
  refine wk_X7_goBond l G m0 a4 a6 a7 a15 a16 a17 a21 a22 a24 a25 a26 a27 a28 a29 a30 f0 f1 f2 f3 f5 f8 f9 f10 f11 f12 f13 f14 f18 f19 f20 f23 f31 g4 g6 g7 g15 g16 g17 g21 g22 g24 g25 g26 g27 g28 g29 g30 a b to (q_bondL f1 f2 f8 f9 g4 g6 g7 g22 a b to) (fun c x y => ∃ k, k ≤ 40 ∧ c = 40 - k ∧ x = nI k ∧ y = q_initN to g22 k) (fun c x y => ∃ k, k ≤ 40 ∧ c = 40 - k ∧ x = nI (k + 1) ∧ y = q_roundsN f1 f2 f8 f9 g4 g6 g7 a b (q_initN to g22 40) k) (fun n41 x41 y41 c x4 x5 y => x4 = x41 ∧ ¬ 41 ≤ x41 ∧ ∃ q, q ≤ 40 ∧ c = 40 - q ∧ x5 = nI q ∧ y = q_placesN f1 f2 f8 f9 g4 g6 g7 a b x41.toNatClampNeg y41 q) h_X7_cells h_X7_leftBy ?_ ?_ ?_ ?_
  · refine ⟨40, 0, by omega, rfl, rfl, ?_⟩
    funext j
    unfold q_initN
    rw [if_neg (Nat.not_lt_zero _)]
  · rintro c x y ⟨k, hk, rfl, rfl, rfl⟩
    refine ⟨fun h => ?_, fun h => ?_⟩
    · rw [lp_done (N := 40) (by omega) hk h]
      exact ⟨40, 0, by omega, rfl, rfl, (rounds0 _ _ _ _ _ _ _ _ _ _).symm⟩
    · have hlt := lp_more (N := 40) (by omega) hk h
      rintro v rfl
      refine ⟨vp_in_nI hlt (by omega), _, by omega, k + 1, hlt, rfl, nI_1 k, ?_⟩
      rw [nI_cl (by omega), rem20 (by omega)]
      exact init_run rfl
  · rintro c x y ⟨k, hk, rfl, rfl, rfl⟩
    refine ⟨fun h => ?_, fun h => ?_⟩
    · have := lp_done (k := k + 1) (N := 41) (by omega) (by omega) h
      rw [show k = 40 by omega]
      unfold q_bondL
      rfl
    · exact ⟨40, rfl, h, 0, by omega, rfl, rfl, (places0 _ _ _ _ _ _ _ _ _ _ _).symm⟩
  · rintro c x y ⟨k, hk, rfl, rfl, rfl⟩ n51 x4 x5 y8 ⟨rfl, h41, q, hq, rfl, rfl, rfl⟩
    have hk2 := lp_more (k := k + 1) (N := 41) (by omega) (by omega) h41
    rw [nI_cl (k := k + 1) (by omega)]
    refine ⟨fun h => ?_, fun h => ?_⟩
    · have e := lp_done (N := 40) (by omega) hq h
      subst e
      refine ⟨39 - k, by omega, k + 1, by omega, by omega, nI_1 _, ?_⟩
      rw [roundsS]
    · have hlt := lp_more (N := 40) (by omega) hq h
      have hv := vp_in_nI hlt (by omega)
      rw [rem20 (by omega)]
      refine ⟨⟨fun _ => trivial, fun _ => hv⟩, ?_⟩
      rintro v rfl
      refine ⟨⟨fun _ => trivial, fun _ => ⟨p0, p1, p2, p3, hv⟩⟩, ?_⟩
      rintro v2 rfl
      refine ⟨⟨fun _ => hv, fun _ => trivial⟩, ?_⟩
      rintro v3 rfl
      refine ⟨hv, 39 - q, by omega, rfl, h41, q + 1, hlt, by omega, nI_1 q, ?_⟩
      rw [nI_cl (k := q) (by omega), placesS]
      congr 1
      unfold q_one
      grind

theorem ok_X7_strokeBy (l : Launch) (G : GT) (h_X7_bears : K_X7_bears l G) (h_X7_beside : K_X7_beside l G) : K_X7_strokeBy l G := by
  intro m0 a4 a6 a7 a15 a16 a17 a21 a22 a24 a25 a26 a27 a28 a29 a30 f0 f1 f2 f3 f5 f8 f9 f10 f11 f12 f13 f14 f18 f19 f20 f23 f31 g4 g6 g7 g15 g16 g17 g21 g22 g24 g25 g26 g27 g28 g29 g30 a b ce turn p0 p1 p2 p3 p4 p5
  refine wk_X7_strokeBy l G m0 a4 a6 a7 a15 a16 a17 a21 a22 a24 a25 a26 a27 a28 a29 a30 f0 f1 f2 f3 f5 f8 f9 f10 f11 f12 f13 f14 f18 f19 f20 f23 f31 g4 g6 g7 g15 g16 g17 g21 g22 g24 g25 g26 g27 g28 g29 g30 a b ce turn (q_strokeBy f1 f2 f8 f9 g4 g6 g7 g22 a b ce turn) (fun c x y => ∃ k, k ≤ 4 ∧ c = 4 - k ∧ ((k = 4 ∧ y = -1) ∨ (k < 4 ∧ y = 3 - nI k)) ∧ x = q_strokeN f1 f2 f8 f9 g4 g6 g7 g22 a b ce turn k) h_X7_bears h_X7_beside ?_ ?_
  · exact ⟨idx40b p4 p5, 4, 0, by omega, rfl, Or.inr ⟨by omega, by decide⟩, (stroke0 _ _ _ _ _ _ _ _ _ _ _ _).symm⟩
  · rintro c x y ⟨k, hk, rfl, hy, rfl⟩
    refine ⟨fun h => ?_, fun h => ⟨p1, ⟨fun _ => trivial, fun h2 => ?_⟩, ?_⟩⟩
    · rcases hy with ⟨rfl, rfl⟩ | ⟨h1, rfl⟩
      · unfold q_strokeBy
        rfl
      · exact absurd h (st3 k h1).1
    · have hb := besideIn p0 p1 (Int32.not_lt.mp h2)
      exact ⟨hb, vp_ite p2 p3, fun _ => trivial, fun _ => idx40 hb p5⟩
    · rcases hy with ⟨rfl, rfl⟩ | ⟨h1, rfl⟩
      · exact absurd (by decide) h
      · intro v ev v2 ev2
        replace ev := ev.symm
        replace ev2 := ev2.symm
        subst ev ev2
        refine ⟨_, by omega, k + 1, h1, rfl, (st3 k h1).2, ?_⟩
        rw [strokeS]
        grind
