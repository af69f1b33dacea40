theorem ok_X7_isBond (l : Launch) (G : GT) (h_X7_goBond : K_X7_goBond l G) : K_X7_isBond l G := by
  intro m0 a4 a6 a7 a15 a16 a17 a21 a22 a24 a25 a26 a27 a28 a29 a30 f0 f1 f2 f3 f5 f8 f9 f10 f11 f12 f13 f14 f18 f19 f20 f23 f31 g4 g6 g7 g15 g16 g17 g21 g22 g24 g25 g26 g27 g28 g29 g30 a b fro to p0 p1 p2 p3 p4
  refine wk_X7_isBond l G m0 a4 a6 a7 a15 a16 a17 a21 a22 a24 a25 a26 a27 a28 a29 a30 f0 f1 f2 f3 f5 f8 f9 f10 f11 f12 f13 f14 f18 f19 f20 f23 f31 g4 g6 g7 g15 g16 g17 g21 g22 g24 g25 g26 g27 g28 g29 g30 a b fro to (q_isBond f1 f2 f8 f9 g4 g6 g7 a b fro to) h_X7_goBond ?_
  have hi := bondL_ind f1 f2 f8 f9 g4 g6 g7 g22 (fun _ => 0) a b to p0 (vpl p4)
  refine ⟨p0, p1, p2, p3, fun z hz => ⟨vp20_40 p4, ?_⟩⟩
  subst hz
  rw [hi]
  grind [q_isBond]

theorem ok_J7_fill_53178 (l : Launch) (G : GT) : K_J7_fill_53178 l G := by
  intro q0 v g
  refine wk_J7_fill_53178 l G q0 v g (s_fill v g) (fun n x y => ∃ k, k ≤ 60 ∧ n = 60 - k ∧ x = nI k ∧ y = s_cpN k (fun _ => v) g) ?_ ?_
  · exact ⟨60, 0, by omega, rfl, nI_0.symm, rfl⟩
  · rintro n x y ⟨k, hk, rfl, rfl, rfl⟩
    refine ⟨fun h => ?_, fun h => ?_⟩
    · rw [lp_done (N := 60) (by omega) hk h]; rfl
    · have hlt := lp_more (N := 60) (by omega) hk h
      refine ⟨vp_in_nI hlt (by omega), _, by omega, k + 1, hlt, rfl, nI_1 k, ?_⟩
      rw [nI_cl (by omega)]
      exact upd_run rfl

theorem ok_X2_strengthen (l : Launch) (G : GT) (h_X2_cells : K_X2_cells l G) : K_X2_strengthen l G := by
  intro i0 i1 hi wi fr fc lc more str p0
  obtain ⟨N, hN, e1, e2, -⟩ := p0.n
  refine wk_X2_strengthen l G i0 i1 hi wi fr fc lc more str (s_strengthen (hi * wi).toNatClampNeg more str) (fun n x y => ∃ k, k ≤ N ∧ n = N - k ∧ x = nI k ∧ y = s_strengthen k more str) h_X2_cells ?_ ?_
  · exact ⟨N, 0, Nat.zero_le _, rfl, nI_0.symm, rfl⟩
  · rintro n x y ⟨k, hk, rfl, rfl, rfl⟩
    rw [e2, e1]
    refine ⟨fun h => ?_, fun h => ?_⟩
    · rw [lp_done (by omega) hk h]
    · have hlt := lp_more (by omega) hk h
      refine ⟨vp_in_nI (by omega) (by omega), vp_in_nI (by omega) (by omega), _, by omega, k + 1, hlt, rfl, nI_1 k, ?_⟩
      rw [nI_cl (by omega), cl9]
      have e : s_strengthen k more str k = str k := if_neg (by omega)
      rw [e]
      exact upd_run (f := fun j => s_cl (str j + more)) (g := str) (k := k) rfl

theorem ok_X2_count (l : Launch) (G : GT) (h_X2_cells : K_X2_cells l G) : K_X2_count l G := by
  intro i0 i1 hi wi fr fc lc strong str p0
  obtain ⟨N, hN, e1, e2, -⟩ := p0.n
  refine wk_X2_count l G i0 i1 hi wi fr fc lc strong str (s_count str strong (hi * wi).toNatClampNeg) (fun n x y => ∃ k, k ≤ N ∧ n = N - k ∧ y = nI k ∧ x = s_count str strong k) h_X2_cells ?_ ?_
  · exact ⟨N, 0, Nat.zero_le _, rfl, nI_0.symm, rfl⟩
  · rintro n x y ⟨k, hk, rfl, rfl, rfl⟩
    rw [e2, e1]
    refine ⟨fun h => ?_, fun h => ?_⟩
    · rw [lp_done (by omega) hk h]
    · have hlt := lp_more (by omega) hk h
      refine ⟨vp_in_nI (by omega) (by omega), fun w hw => ⟨_, by omega, k + 1, hlt, rfl, nI_1 k, ?_⟩⟩
      rw [hw, nI_cl (by omega)]
      rfl

theorem ok_X2_bearing (l : Launch) (G : GT) (h_X2_cells : K_X2_cells l G) : K_X2_bearing l G := by
  intro i0 i1 hi wi fr fc lc load days str p0
  obtain ⟨N, hN, e1, e2, -⟩ := p0.n
  refine wk_X2_bearing l G i0 i1 hi wi fr fc lc load days str (s_bearing str load days (hi * wi).toNatClampNeg) (fun n x y => ∃ k, k ≤ N ∧ n = N - k ∧ y = nI k ∧ x = s_bearing str load days k) h_X2_cells ?_ ?_
  · exact ⟨N, 0, Nat.zero_le _, rfl, nI_0.symm, rfl⟩
  · rintro n x y ⟨k, hk, rfl, rfl, rfl⟩
    rw [e2, e1]
    refine ⟨fun h => ?_, fun h => ?_⟩
    · rw [lp_done (by omega) hk h]
    · have hlt := lp_more (by omega) hk h
      refine ⟨vp_in_nI (by omega) (by omega), fun w hw => ⟨_, by omega, k + 1, hlt, rfl, nI_1 k, ?_⟩⟩
      rw [hw, nI_cl (by omega)]
      show _ = s_bearing str load days k ||| (if load ≤ str k - days then (1 : Int32) <<< (nI k &&& 31) else 0)
      by_cases hc : str k - days < load
      · rw [if_pos hc, if_neg (Int32.not_le.mpr hc)]
      · rw [if_neg hc, if_pos (Int32.not_lt.mp hc)]

theorem ok_X2_reach (l : Launch) (G : GT) (h_X2_nextTo : K_X2_nextTo l G) : K_X2_reach l G := by
  intro i0 i1 hi wi fr fc lc fro bears
  refine wk_X2_reach l G i0 i1 hi wi fr fc lc fro bears (s_reach hi wi fc lc fro bears) (fun n x y => ∃ k, k ≤ 19 ∧ n = 19 - k ∧ y = nI (k + 1) ∧ s_reachN hi wi fc lc bears (19 - k) x = s_reach hi wi fc lc fro bears) h_X2_nextTo ?_ ?_
  · exact ⟨19, 0, by omega, rfl, rfl, rfl⟩
  · rintro n x y ⟨k, hk, rfl, rfl, hr⟩
    refine ⟨fun h => ?_, fun h => ?_⟩
    · have := lp_done (k := k + 1) (N := 20) (by omega) (by omega) h
      rw [← hr, show 19 - k = 0 by omega, s_reachN]
    · have hlt := lp_more (k := k + 1) (N := 20) (by omega) (by omega) h
      refine ⟨_, by omega, k + 1, by omega, rfl, nI_1 (k + 1), ?_⟩
      rw [← hr, show 19 - k = (19 - (k + 1)) + 1 by omega]
      conv => rhs; rw [s_reachN]

theorem ok_X2_shortest (l : Launch) (G : GT) (h_X2_nextTo : K_X2_nextTo l G) (h_X6_isIn : K_X6_isIn l G) : K_X2_shortest l G := by
  intro i0 i1 hi wi fr fc lc fro to bf bs
  refine wk_X2_shortest l G i0 i1 hi wi fr fc lc fro to bf bs (s_shortest hi wi fc lc fro to bf bs) (fun n x y z => ∃ k, k ≤ 20 ∧ n = 20 - k ∧ z = nI k ∧ s_shortN hi wi fc lc to bf bs (20 - k) k x y = s_shortest hi wi fc lc fro to bf bs) h_X2_nextTo h_X6_isIn ?_ ?_
  · exact ⟨20, 0, by omega, rfl, nI_0.symm, rfl⟩
  · rintro n x y z ⟨k, hk, rfl, rfl, hr⟩
    refine ⟨fun h => ?_, fun h => ?_⟩
    · have := lp_done (N := 20) (by omega) hk h
      rw [← hr, show 20 - k = 0 by omega, s_shortN]
    · have hlt := lp_more (N := 20) (by omega) hk h
      rw [show 20 - k = (20 - (k + 1)) + 1 by omega, s_shortN] at hr
      refine ⟨fun h1 => ?_, fun h1 => ⟨fun h2 w hw => ?_, fun h2 => ?_⟩⟩
      · rw [← hr, if_pos h1]
      · refine ⟨_, by omega, k + 1, hlt, rfl, nI_1 k, ?_⟩
        rw [ite_odd (by omega)] at hw
        rw [hw, ← hr, if_neg h1, if_pos h2]
      · rw [← hr, if_neg h1, if_neg h2]

theorem ok_X2_beginOfBond (l : Launch) (G : GT) (h_X2_led : K_X2_led l G) (h_X2_shortest : K_X2_shortest l G) (h_X6_isIn : K_X6_isIn l G) : K_X2_beginOfBond l G := by
  intro i0 i1 hi wi fr fc lc fro to bf bs
  refine wk_X2_beginOfBond l G i0 i1 hi wi fr fc lc fro to bf bs (s_begin hi wi fc lc fro to bf bs) (fun n x => ∃ k, k ≤ 4 ∧ n = 4 - k ∧ x = nI k ∧ ∀ j, j < k → ¬ s_isBegin hi wi fc lc fro to bf bs (nI j)) h_X2_led h_X2_shortest h_X6_isIn ?_ ?_
  · exact ⟨4, 0, by omega, rfl, nI_0.symm, fun j h => absurd h (Nat.not_lt_zero j)⟩
  · rintro n x ⟨k, hk, rfl, rfl, hr⟩
    have key : ∀ j, j < 4 → s_isBegin hi wi fc lc fro to bf bs (nI j) → (∀ i, i < j → ¬ s_isBegin hi wi fc lc fro to bf bs (nI i)) → nI j = s_begin hi wi fc lc fro to bf bs := by
      intro j hj hb hn
      unfold s_begin
      rcases (show j = 0 ∨ j = 1 ∨ j = 2 ∨ j = 3 by omega) with h | h | h | h <;> subst h
      · rw [if_pos (show s_isBegin hi wi fc lc fro to bf bs 0 from hb)]; rfl
      · rw [if_neg (show ¬ s_isBegin hi wi fc lc fro to bf bs 0 from hn 0 (by omega)), if_pos (show s_isBegin hi wi fc lc fro to bf bs 1 from hb)]; rfl
      · rw [if_neg (show ¬ s_isBegin hi wi fc lc fro to bf bs 0 from hn 0 (by omega)), if_neg (show ¬ s_isBegin hi wi fc lc fro to bf bs 1 from hn 1 (by omega)), if_pos (show s_isBegin hi wi fc lc fro to bf bs 2 from hb)]; rfl
      · rw [if_neg (show ¬ s_isBegin hi wi fc lc fro to bf bs 0 from hn 0 (by omega)), if_neg (show ¬ s_isBegin hi wi fc lc fro to bf bs 1 from hn 1 (by omega)), if_neg (show ¬ s_isBegin hi wi fc lc fro to bf bs 2 from hn 2 (by omega)), if_pos (show s_isBegin hi wi fc lc fro to bf bs 3 from hb)]; rfl
    have step : k < 4 → ¬ s_isBegin hi wi fc lc fro to bf bs (nI k) → ∃ k1 : Nat, k1 < 4 - k ∧ ∃ k2, k2 ≤ 4 ∧ k1 = 4 - k2 ∧ nI k + 1 = nI k2 ∧ ∀ j, j < k2 → ¬ s_isBegin hi wi fc lc fro to bf bs (nI j) := by
      intro hlt hn
      refine ⟨4 - (k + 1), by omega, k + 1, hlt, rfl, nI_1 k, fun j hj => ?_⟩
      rcases Nat.lt_or_ge j k with z | z
      · exact hr j z
      · rw [show j = k by omega]; exact hn
    refine ⟨fun h => ?_, fun h => ?_⟩
    · have hk4 : k = 4 := by
        have := (nI_ltI (a := 3) (b := k) (by omega) (by omega)).mp h
        omega
      subst hk4
      unfold s_begin
      rw [if_neg (show ¬ s_isBegin hi wi fc lc fro to bf bs 0 from hr 0 (by omega)), if_neg (show ¬ s_isBegin hi wi fc lc fro to bf bs 1 from hr 1 (by omega)), if_neg (show ¬ s_isBegin hi wi fc lc fro to bf bs 2 from hr 2 (by omega)), if_neg (show ¬ s_isBegin hi wi fc lc fro to bf bs 3 from hr 3 (by omega))]
    · have hlt : k < 4 := by
        rcases Nat.lt_or_ge k 4 with z | z
        · exact z
        · exact absurd (nI_lt (a := 3) (b := k) (by omega) (by omega)) h
      refine ⟨fun h1 => step hlt (fun z => z.1 h1), fun h1 => ⟨fun h2 => step hlt (fun z => z.2.1 h2), fun h2 => ⟨fun h3 => step hlt (fun z => h3 z.2.2), fun h3 => key k hlt ⟨h1, h2, h3⟩ hr⟩⟩⟩

theorem ok_X2_strokeOfBond (l : Launch) (G : GT) (h_X2_beginOfBond : K_X2_beginOfBond l G) (h_X2_led : K_X2_led l G) : K_X2_strokeOfBond l G := by
  intro i0 i1 hi wi fr fc lc k fro to bf bs p0
  refine wk_X2_strokeOfBond l G i0 i1 hi wi fr fc lc k fro to bf bs (s_strokeOf hi wi fc lc k fro to bf bs) (fun n x y z => ∃ t, t ≤ k.toNatClampNeg + 1 ∧ n = k.toNatClampNeg + 1 - t ∧ z = nI t ∧ s_strokeN hi wi fc lc to bf bs (k.toNatClampNeg + 1 - t) t x y = s_strokeOf hi wi fc lc k fro to bf bs) h_X2_beginOfBond h_X2_led ?_ ?_
  · exact ⟨_, 0, by omega, rfl, nI_0.symm, rfl⟩
  · rintro n x y z ⟨t, ht, rfl, rfl, hr⟩
    obtain ⟨K, hK, hk⟩ := vp_in_of p0 (by omega)
    have hc : k.toNatClampNeg = K := by rw [hk, nI_cl (by omega)]
    rw [hc] at ht hr ⊢
    refine ⟨fun h => ?_, fun h => ?_⟩
    · rw [hk] at h
      have := (nI_ltI (a := K) (b := t) (by omega) (by omega)).mp h
      rw [← hr, show K + 1 - t = 0 by omega]
      rfl
    · have hlt : t < K + 1 := by
        rcases Nat.lt_or_ge t (K + 1) with z | z
        · exact z
        · rw [hk] at h
          exact absurd (nI_lt (a := K) (b := t) (by omega) (by omega)) h
      rw [show K + 1 - t = (K + 1 - (t + 1)) + 1 by omega] at hr
      refine ⟨fun h1 => ?_, fun h1 u hu v hv w hw => ?_⟩
      · rw [← hr]
        show _ = (if x = -9 then y else _)
        rw [if_pos h1]
      · refine ⟨_, by omega, t + 1, by omega, rfl, nI_1 t, ?_⟩
        rw [← hr]
        rw [ite_odd (by omega)] at hu
        have e1 : v = if t % 2 = 0 then bf else bs := by
          rw [hv, hu]
          by_cases h2 : t % 2 = 0 <;> simp [h2]
        have e2 : w = if t % 2 = 0 then bs else bf := by
          rw [hw, hu]
          by_cases h2 : t % 2 = 0 <;> simp [h2]
        rw [e1, e2]
        show _ = (if x = -9 then y else _)
        rw [if_neg h1]

theorem ok_X3_areSo (l : Launch) (G : GT) (h_X0_load : K_X0_load l G) : K_X3_areSo l G := by
  intro r0 r1 r2 r3 i0 i1 c0 c1 c2 rc hi wi fr fc lc cnt rs rl rb str ck cwt p0
  obtain ⟨N, hN, hrc, hok⟩ := p0
  refine wk_X3_areSo l G r0 r1 r2 r3 i0 i1 c0 c1 c2 rc hi wi fr fc lc cnt rs rl rb str ck cwt (s_areSo rs rl rb str ck cwt rc.toNatClampNeg) (fun n x => ∃ k, k ≤ N ∧ n = N - k ∧ x = nI k ∧ ∀ j, j < k → (if s_load ck cwt (rs j) ≤ str (rl j).toNatClampNeg then (1 : Int32) else 0) = rb j) h_X0_load ?_ ?_
  · exact ⟨N, 0, by omega, rfl, nI_0.symm, fun j h => absurd h (Nat.not_lt_zero j)⟩
  · rintro n x ⟨k, hk, rfl, rfl, hr⟩
    rw [hrc, nI_cl (by omega)]
    refine ⟨fun h => ?_, fun h => ?_⟩
    · have := lp_done (by omega) hk h
      subst this
      unfold s_areSo
      rw [if_pos hr]
    · have hlt := lp_more (by omega) hk h
      rw [nI_cl (by omega)]
      refine ⟨vp_in_nI (by omega) (by omega), (hok k hlt).1, vp_in_nI (by omega) (by omega), (hok k hlt).2, fun w hw => ⟨vp_in_nI (by omega) (by omega), fun h1 => ?_, fun h1 => ?_⟩⟩
      · refine ⟨_, by omega, k + 1, hlt, rfl, nI_1 k, fun j hj => ?_⟩
        rcases Nat.lt_or_ge j k with z | z
        · exact hr j z
        · rw [show j = k by omega, ← h1, hw]
          grind
      · unfold s_areSo
        rw [if_neg]
        intro z
        apply h1
        rw [← z k hlt, hw]
        grind

theorem ok_X7_bearingOf (l : Launch) (G : GT) (h_X7_bears : K_X7_bears l G) (h_X7_cells : K_X7_cells l G) : K_X7_bearingOf l G := by
  intro m0 a4 a6 a7 a15 a16 a17 a21 a22 a24 a25 a26 a27 a28 a29 a30 f0 f1 f2 f3 f5 f8 f9 f10 f11 f12 f13 f14 f18 f19 f20 f23 f31 g4 g6 g7 g15 g16 g17 g21 g22 g24 g25 g26 g27 g28 g29 g30 a p0 p1
  obtain ⟨N, hN, e1, e2, -⟩ := p0.n
  refine wk_X7_bearingOf l G m0 a4 a6 a7 a15 a16 a17 a21 a22 a24 a25 a26 a27 a28 a29 a30 f0 f1 f2 f3 f5 f8 f9 f10 f11 f12 f13 f14 f18 f19 f20 f23 f31 g4 g6 g7 g15 g16 g17 g21 g22 g24 g25 g26 g27 g28 g29 g30 a (q_bearing f8 f9 g4 g6 g7 a (f1 * f2).toNatClampNeg) (fun n x y => ∃ k, k ≤ N ∧ n = N - k ∧ y = nI k ∧ x = q_bearing f8 f9 g4 g6 g7 a k) h_X7_bears h_X7_cells ?_ ?_
  · exact ⟨N, 0, Nat.zero_le _, rfl, nI_0.symm, rfl⟩
  · rintro n x y ⟨k, hk, rfl, rfl, rfl⟩
    rw [e2, e1]
    refine ⟨fun h => ?_, fun h => ?_⟩
    · rw [lp_done (by omega) hk h]
    · have hlt := lp_more (by omega) hk h
      refine ⟨vp_in_nI (by omega) (by omega), p1, fun w hw => ⟨_, by omega, k + 1, hlt, rfl, nI_1 k, ?_⟩⟩
      rw [hw]
      rfl

theorem ok_X7_keep (l : Launch) (G : GT) : K_X7_keep l G := by
  intro m0 a4 a6 a7 a15 a16 a17 a21 a22 a24 a25 a26 a27 a28 a29 a30 f0 f1 f2 f3 f5 f8 f9 f10 f11 f12 f13 f14 f18 f19 f20 f23 f31 g4 g6 g7 g15 g16 g17 g21 g22 g24 g25 g26 g27 g28 g29 g30
  refine wk_X7_keep l G m0 a4 a6 a7 a15 a16 a17 a21 a22 a24 a25 a26 a27 a28 a29 a30 f0 f1 f2 f3 f5 f8 f9 f10 f11 f12 f13 f14 f18 f19 f20 f23 f31 g4 g6 g7 g15 g16 g17 g21 g22 g24 g25 g26 g27 g28 g29 g30 (s_cp20 g4 g21) (fun n x y => ∃ k, k ≤ 20 ∧ n = 20 - k ∧ x = nI k ∧ y = s_cpN k g4 g21) ?_ ?_
  · exact ⟨20, 0, by omega, rfl, nI_0.symm, rfl⟩
  · rintro n x y ⟨k, hk, rfl, rfl, rfl⟩
    refine ⟨fun h => ?_, fun h => ?_⟩
    · rw [lp_done (N := 20) (by omega) hk h]; rfl
    · have hlt := lp_more (N := 20) (by omega) hk h
      refine ⟨vp_in_nI hlt (by omega), vp_in_nI hlt (by omega), _, by omega, k + 1, hlt, rfl, nI_1 k, ?_⟩
      rw [nI_cl (by omega)]
      exact upd_run rfl

theorem ok_X7_putBack (l : Launch) (G : GT) : K_X7_putBack l G := by
  intro m0 a4 a6 a7 a15 a16 a17 a21 a22 a24 a25 a26 a27 a28 a29 a30 f0 f1 f2 f3 f5 f8 f9 f10 f11 f12 f13 f14 f18 f19 f20 f23 f31 g4 g6 g7 g15 g16 g17 g21 g22 g24 g25 g26 g27 g28 g29 g30
  refine wk_X7_putBack l G m0 a4 a6 a7 a15 a16 a17 a21 a22 a24 a25 a26 a27 a28 a29 a30 f0 f1 f2 f3 f5 f8 f9 f10 f11 f12 f13 f14 f18 f19 f20 f23 f31 g4 g6 g7 g15 g16 g17 g21 g22 g24 g25 g26 g27 g28 g29 g30 (s_cp20 g21 g4) (fun n x y => ∃ k, k ≤ 20 ∧ n = 20 - k ∧ x = nI k ∧ y = s_cpN k g21 g4) ?_ ?_
  · exact ⟨20, 0, by omega, rfl, nI_0.symm, rfl⟩
  · rintro n x y ⟨k, hk, rfl, rfl, rfl⟩
    refine ⟨fun h => ?_, fun h => ?_⟩
    · rw [lp_done (N := 20) (by omega) hk h]; rfl
    · have hlt := lp_more (N := 20) (by omega) hk h
      refine ⟨vp_in_nI hlt (by omega), vp_in_nI hlt (by omega), _, by omega, k + 1, hlt, rfl, nI_1 k, ?_⟩
      rw [nI_cl (by omega)]
      exact upd_run rfl

theorem ok_X7_countOf (l : Launch) (G : GT) (h_X7_cells : K_X7_cells l G) : K_X7_countOf l G := by
  intro m0 a4 a6 a7 a15 a16 a17 a21 a22 a24 a25 a26 a27 a28 a29 a30 f0 f1 f2 f3 f5 f8 f9 f10 f11 f12 f13 f14 f18 f19 f20 f23 f31 g4 g6 g7 g15 g16 g17 g21 g22 g24 g25 g26 g27 g28 g29 g30 v p0
  obtain ⟨N, hN, e1, e2, -⟩ := p0.n
  refine wk_X7_countOf l G m0 a4 a6 a7 a15 a16 a17 a21 a22 a24 a25 a26 a27 a28 a29 a30 f0 f1 f2 f3 f5 f8 f9 f10 f11 f12 f13 f14 f18 f19 f20 f23 f31 g4 g6 g7 g15 g16 g17 g21 g22 g24 g25 g26 g27 g28 g29 g30 v (s_count g4 v (f1 * f2).toNatClampNeg) (fun n x y => ∃ k, k ≤ N ∧ n = N - k ∧ y = nI k ∧ x = s_count g4 v k) h_X7_cells ?_ ?_
  · exact ⟨N, 0, Nat.zero_le _, rfl, nI_0.symm, rfl⟩
  · rintro n x y ⟨k, hk, rfl, rfl, rfl⟩
    rw [e2, e1]
    refine ⟨fun h => ?_, fun h => ?_⟩
    · rw [lp_done (by omega) hk h]
    · have hlt := lp_more (by omega) hk h
      refine ⟨vp_in_nI (by omega) (by omega), fun w hw => ⟨_, by omega, k + 1, hlt, rfl, nI_1 k, ?_⟩⟩
      rw [hw, nI_cl (by omega)]
      rfl

theorem ok_X7_areSo (l : Launch) (G : GT) (h_X7_bears : K_X7_bears l G) : K_X7_areSo l G := by
  intro m0 a4 a6 a7 a15 a16 a17 a21 a22 a24 a25 a26 a27 a28 a29 a30 f0 f1 f2 f3 f5 f8 f9 f10 f11 f12 f13 f14 f18 f19 f20 f23 f31 g4 g6 g7 g15 g16 g17 g21 g22 g24 g25 g26 g27 g28 g29 g30 p0
  obtain ⟨N, hN, hrc, hok⟩ := p0
  refine wk_X7_areSo l G m0 a4 a6 a7 a15 a16 a17 a21 a22 a24 a25 a26 a27 a28 a29 a30 f0 f1 f2 f3 f5 f8 f9 f10 f11 f12 f13 f14 f18 f19 f20 f23 f31 g4 g6 g7 g15 g16 g17 g21 g22 g24 g25 g26 g27 g28 g29 g30 (q_areSo f8 f9 g4 g6 g7 g24 g25 g26 f23.toNatClampNeg) (fun n x y => ∃ k, k ≤ N ∧ n = N - k ∧ y = nI k ∧ x = q_areSo f8 f9 g4 g6 g7 g24 g25 g26 k) h_X7_bears ?_ ?_
  · refine ⟨N, 0, by omega, rfl, nI_0.symm, ?_⟩
    unfold q_areSo
    rw [if_pos (fun j h => absurd h (Nat.not_lt_zero j))]
  · rintro n x y ⟨k, hk, rfl, rfl, rfl⟩
    rw [hrc, nI_cl (k := N) (by omega)]
    refine ⟨fun h => ?_, fun h => ?_⟩
    · rw [lp_done (by omega) hk h]
      refine ⟨?_, rfl⟩
      unfold q_areSo
      split <;> simp
    · have hlt := lp_more (by omega) hk h
      have hv := vp_in_nI (n := k) (N := 8) (by omega) (by omega)
      rw [nI_cl (k := k) (by omega)]
      refine ⟨⟨fun _ => trivial, fun _ => ⟨hv, hv, (hok k hlt).2, (hok k hlt).1, hv⟩⟩, fun w hw => ⟨_, by omega, k + 1, hlt, rfl, nI_1 k, ?_⟩⟩
      rw [hw]
      unfold q_areSo
      by_cases ha : ∀ j, j < k → q_bears f8 f9 g4 g6 g7 (g25 j) (g24 j) = g26 j
      · rw [if_pos ha, if_neg (by decide)]
        by_cases hb : q_bears f8 f9 g4 g6 g7 (g25 k) (g24 k) = g26 k
        · rw [if_pos hb, if_pos]
          intro j hj
          rcases Nat.lt_or_ge j k with z | z
          · exact ha j z
          · rw [show j = k by omega]; exact hb
        · rw [if_neg hb, if_neg (fun z => hb (z k (by omega)))]
      · rw [if_neg ha, if_pos rfl, if_neg (fun z => ha (fun j hj => z j (by omega)))]
