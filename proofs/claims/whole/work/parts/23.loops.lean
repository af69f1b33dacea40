theorem ok_X7_isBond (l : Launch) (G : GT) (h_X7_goBond : K_X7_goBond l G) : K_X7_isBond l G := by
  intro m0 a4 a6 a7 a15 a16 a17 a21 a22 a24 a25 a26 a27 a28 a29 a30 f0 f1 f2 f3 f5 f8 f9 f10 f11 f12 f13 f14 f18 f19 f20 f23 f31 g4 g6 g7 g15 g16 g17 g21 g22 g24 g25 g26 g27 g28 g29 g30 a b fro to p0 p1 p2 p3 p4
  refine wk_X7_isBond l G m0 a4 a6 a7 a15 a16 a17 a21 a22 a24 a25 a26 a27 a28 a29 a30 f0 f1 f2 f3 f5 f8 f9 f10 f11 f12 f13 f14 f18 f19 f20 f23 f31 g4 g6 g7 g15 g16 g17 g21 g22 g24 g25 g26 g27 g28 g29 g30 a b fro to (q_isBond f1 f2 f8 f9 g4 g6 g7 a b fro to) h_X7_goBond ?_
  have hi := bondL_ind f1 f2 f8 f9 g4 g6 g7 g22 (fun _ => 0) a b to p0 (vpl p4)
  refine ⟨p0, p1, p2, p3, fun z hz => ⟨vp20_40 p4, ?_⟩⟩
  subst hz
  rw [hi]
  grind [q_isBond]

theorem ok_J7_fill_53178 (l : Launch) (G : GT) : K_J7_fill_53178 l G := by
  intro q0 v g
  refine wk_J7_fill_53178 l G q0 v g (s_fill v g) (fun n x y => ∃ k, k ≤ 60 ∧ n = 60 - k ∧ x = nI k ∧ y = s_cpN k (fun _ => v) g) ?_ ?_
  · exact ⟨60, 0, by omega, rfl, nI_0.symm, rfl⟩
  · rintro n x y ⟨k, hk, rfl, rfl, rfl⟩
    refine ⟨fun h => ?_, fun h => ?_⟩
    · rw [lp_done (N := 60) (by omega) hk h]; rfl
    · have hlt := lp_more (N := 60) (by omega) hk h
      refine ⟨vp_in_nI hlt (by omega), _, by omega, k + 1, hlt, rfl, nI_1 k, ?_⟩
      rw [nI_cl (by omega)]
      exact upd_run rfl

theorem ok_X2_strengthen (l : Launch) (G : GT) (h_X2_cells : K_X2_cells l G) : K_X2_strengthen l G := by
  intro i0 i1 hi wi fr fc lc more str p0
  obtain ⟨N, hN, e1, e2, -⟩ := p0.n
  refine wk_X2_strengthen l G i0 i1 hi wi fr fc lc more str (s_strengthen (hi * wi).toNatClampNeg more str) (fun n x y => ∃ k, k ≤ N ∧ n = N - k ∧ x = nI k ∧ y = s_strengthen k more str) h_X2_cells ?_ ?_
  · exact ⟨N, 0, Nat.zero_le _, rfl, nI_0.symm, rfl⟩
  · rintro n x y ⟨k, hk, rfl, rfl, rfl⟩
    rw [e2, e1]
    refine ⟨fun h => ?_, fun h => ?_⟩
    · rw [lp_done (by omega) hk h]
    · have hlt := lp_more (by omega) hk h
      refine ⟨vp_in_nI (by omega) (by omega), vp_in_nI (by omega) (by omega), _, by omega, k + 1, hlt, rfl, nI_1 k, ?_⟩
      rw [nI_cl (by omega), cl9]
      have e : s_strengthen k more str k = str k := if_neg (by omega)
      rw [e]
      exact upd_run (f := fun j => s_cl (str j + more)) (g := str) (k := k) rfl

theorem ok_X2_count (l : Launch) (G : GT) (h_X2_cells : K_X2_cells l G) : K_X2_count l G := by
  intro i0 i1 hi wi fr fc lc strong str p0
  obtain ⟨N, hN, e1, e2, -⟩ := p0.n
  refine wk_X2_count l G i0 i1 hi wi fr fc lc strong str (s_count str strong (hi * wi).toNatClampNeg) (fun n x y => ∃ k, k ≤ N ∧ n = N - k ∧ y = nI k ∧ x = s_count str strong k) h_X2_cells ?_ ?_
  · exact ⟨N, 0, Nat.zero_le _, rfl, nI_0.symm, rfl⟩
  · rintro n x y ⟨k, hk, rfl, rfl, rfl⟩
    rw [e2, e1]
    refine ⟨fun h => ?_, fun h => ?_⟩
    · rw [lp_done (by omega) hk h]
    · have hlt := lp_more (by omega) hk h
      refine ⟨vp_in_nI (by omega) (by omega), fun w hw => ⟨_, by omega, k + 1, hlt, rfl, nI_1 k, ?_⟩⟩
      rw [hw, nI_cl (by omega)]
      rfl

theorem ok_X2_bearing (l : Launch) (G : GT) (h_X2_cells : K_X2_cells l G) : K_X2_bearing l G := by
  intro i0 i1 hi wi fr fc lc load days str p0
  obtain ⟨N, hN, e1, e2, -⟩ := p0.n
  refine wk_X2_bearing l G i0 i1 hi wi fr fc lc load days str (s_bearing str load days (hi * wi).toNatClampNeg) (fun n x y => ∃ k, k ≤ N ∧ n = N - k ∧ y = nI k ∧ x = s_bearing str load days k) h_X2_cells ?_ ?_
  · exact ⟨N, 0, Nat.zero_le _, rfl, nI_0.symm, rfl⟩
  · rintro n x y ⟨k, hk, rfl, rfl, rfl⟩
    rw [e2, e1]
    refine ⟨fun h => ?_, fun h => ?_⟩
    · rw [lp_done (by omega) hk h]
    · have hlt := lp_more (by omega) hk h
      refine ⟨vp_in_nI (by omega) (by omega), fun w hw => ⟨_, by omega, k + 1, hlt, rfl, nI_1 k, ?_⟩⟩
      rw [hw, nI_cl (by omega)]
      show _ = s_bearing str load days k ||| (if load ≤ str k - days then (1 : Int32) <<< (nI k &&& 31) else 0)
      by_cases hc : str k - days < load
      · rw [if_pos hc, if_neg (Int32.not_le.mpr hc)]
      · rw [if_neg hc, if_pos (Int32.not_lt.mp hc)]

theorem ok_X2_reach (l : Launch) (G : GT) (h_X2_nextTo : K_X2_nextTo l G) : K_X2_reach l G := by
  intro i0 i1 hi wi fr fc lc fro bears
  refine wk_X2_reach l G i0 i1 hi wi fr fc lc fro bears (s_reach hi wi fc lc fro bears) (fun n x y => ∃ k, k ≤ 19 ∧ n = 19 - k ∧ y = nI (k + 1) ∧ s_reachN hi wi fc lc bears (19 - k) x = s_reach hi wi fc lc fro bears) h_X2_nextTo ?_ ?_
  · exact ⟨19, 0, by omega, rfl, rfl, rfl⟩
  · rintro n x y ⟨k, hk, rfl, rfl, hr⟩
    refine ⟨fun h => ?_, fun h => ?_⟩
    · have := lp_done (k := k + 1) (N := 20) (by omega) (by omega) h
      rw [← hr, show 19 - k = 0 by omega, s_reachN]
    · have hlt := lp_more (k := k + 1) (N := 20) (by omega) (by omega) h
      refine ⟨_, by omega, k + 1, by omega, rfl, nI_1 (k + 1), ?_⟩
      rw [← hr, show 19 - k = (19 - (k + 1)) + 1 by omega]
      conv => rhs; rw [s_reachN]

theorem ok_X2_shortest (l : Launch) (G : GT) (h_X2_nextTo : K_X2_nextTo l G) (h_X6_isIn : K_X6_isIn l G) : K_X2_shortest l G := by
  intro i0 i1 hi wi fr fc lc fro to bf bs
  refine wk_X2_shortest l G i0 i1 hi wi fr fc lc fro to bf bs (s_shortest hi wi fc lc fro to bf bs) (fun n x y z => ∃ k, k ≤ 20 ∧ n = 20 - k ∧ z = nI k ∧ s_shortN hi wi fc lc to bf bs (20 - k) k x y = s_shortest hi wi fc lc fro to bf bs) h_X2_nextTo h_X6_isIn ?_ ?_
  · exact ⟨20, 0, by omega, rfl, nI_0.symm, rfl⟩
  · rintro n x y z ⟨k, hk, rfl, rfl, hr⟩
    refine ⟨fun h => ?_, fun h => ?_⟩
    · have := lp_done (N := 20) (by omega) hk h
      rw [← hr, show 20 - k = 0 by omega, s_shortN]
    · have hlt := lp_more (N := 20) (by omega) hk h
      rw [show 20 - k = (20 - (k + 1)) + 1 by omega, s_shortN] at hr
      refine ⟨fun h1 => ?_, fun h1 => ⟨fun h2 w hw => ?_, fun h2 => ?_⟩⟩
      · rw [← hr, if_pos h1]
      · refine ⟨_, by omega, k + 1, hlt, rfl, nI_1 k, ?_⟩
        rw [ite_odd (by omega)] at hw
        rw [hw, ← hr, if_neg h1, if_pos h2]
      · rw [← hr, if_neg h1, if_neg h2]

theorem ok_X2_beginOfBond (l : Launch) (G : GT) (h_X2_led : K_X2_led l G) (h_X2_shortest : K_X2_shortest l G) (h_X6_isIn : K_X6_isIn l G) : K_X2_beginOfBond l G := by
  intro i0 i1 hi wi fr fc lc fro to bf bs
  refine wk_X2_beginOfBond l G i0 i1 hi wi fr fc lc fro to bf bs (s_begin hi wi fc lc fro to bf bs) (fun n x => ∃ k, k ≤ 4 ∧ n = 4 - k ∧ x = nI k ∧ ∀ j, j < k → ¬ s_isBegin hi wi fc lc fro to bf bs (nI j)) h_X2_led h_X2_shortest h_X6_isIn ?_ ?_
  · exact ⟨4, 0, by omega, rfl, nI_0.symm, fun j h => absurd h (Nat.not_lt_zero j)⟩
  · rintro n x ⟨k, hk, rfl, rfl, hr⟩
    have key : ∀ j, j < 4 → s_isBegin hi wi fc lc fro to bf bs (nI j) → (∀ i, i < j → ¬ s_isBegin hi wi fc lc fro to bf bs (nI i)) → nI j = s_begin hi wi fc lc fro to bf bs := by
      intro j hj hb hn
      unfold s_begin
      rcases (show j = 0 ∨ j = 1 ∨ j = 2 ∨ j = 3 by omega) with h | h | h | h <;> subst h
      · rw [if_pos (show s_isBegin hi wi fc lc fro to bf bs 0 from hb)]; rfl
      · rw [if_neg (show ¬ s_isBegin hi wi fc lc fro to bf bs 0 from hn 0 (by omega)), if_pos (show s_isBegin hi wi fc lc fro to bf bs 1 from hb)]; rfl
      · rw [if_neg (show ¬ s_isBegin hi wi fc lc fro to bf bs 0 from hn 0 (by omega)), if_neg (show ¬ s_isBegin hi wi fc lc fro to bf bs 1 from hn 1 (by omega)), if_pos (show s_isBegin hi wi fc lc fro to bf bs 2 from hb)]; rfl
      · rw [if_neg (show ¬ s_isBegin hi wi fc lc fro to bf bs 0 from hn 0 (by omega)), if_neg (show ¬ s_isBegin hi wi fc lc fro to bf bs 1 from hn 1 (by omega)), if_neg (show ¬ s_isBegin hi wi fc lc fro to bf bs 2 from hn 2 (by omega)), if_pos (show s_isBegin hi wi fc lc fro to bf bs 3 from hb)]; rfl
    have step : k < 4 → ¬ s_isBegin hi wi fc lc fro to bf bs (nI k) → ∃ k1 : Nat, k1 < 4 - k ∧ ∃ k2, k2 ≤ 4 ∧ k1 = 4 - k2 ∧ nI k + 1 = nI k2 ∧ ∀ j, j < k2 → ¬ s_isBegin hi wi fc lc fro to bf bs (nI j) := by
      intro hlt hn
      refine ⟨4 - (k + 1), by omega, k + 1, hlt, rfl, nI_1 k, fun j hj => ?_⟩
      rcases Nat.lt_or_ge j k with z | z
      · exact hr j z
      · rw [show j = k by omega]; exact hn
    refine ⟨fun h => ?_, fun h => ?_⟩
    · have hk4 : k = 4 := by
        have := (nI_ltI (a := 3) (b := k) (by omega) (by omega)).mp h
        omega
      subst hk4
      unfold s_begin
      rw [if_neg (show ¬ s_isBegin hi wi fc lc fro to bf bs 0 from hr 0 (by omega)), if_neg (show ¬ s_isBegin hi wi fc lc fro to bf bs 1 from hr 1 (by omega)), if_neg (show ¬ s_isBegin hi wi fc lc fro to bf bs 2 from hr 2 (by omega)), if_neg (show ¬ s_isBegin hi wi fc lc fro to bf bs 3 from hr 3 (by omega))]
    · have hlt : k < 4 := by
        rcases Nat.lt_or_ge k 4 with z | z
        · exact z
        · exact absurd (nI_lt (a := 3) (b := k) (by omega) (by omega)) h
      refine ⟨fun h1 => step hlt (fun z => z.1 h1), fun h1 => ⟨fun h2 => step hlt (fun z => z.2.1 h2), fun h2 => ⟨fun h3 => step hlt (fun z => h3 z.2.2), fun h3 => key k hlt ⟨h1, h2, h3⟩ hr⟩⟩⟩

theorem ok_X2_strokeOfBond (l : Launch) (G : GT) (h_X2_beginOfBond : K_X2_beginOfBond l G) (h_X2_led : K_X2_led l G) : K_X2_strokeOfBond l G := by
  intro i0 i1 hi wi fr fc lc k fro to bf bs p0
  refine wk_X2_strokeOfBond l G i0 i1 hi wi fr fc lc k fro to bf bs (s_strokeOf hi wi fc lc k fro to bf bs) (fun n x y z => ∃ t, t ≤ k.toNatClampNeg + 1 ∧ n = k.toNatClampNeg + 1 - t ∧ z = nI t ∧ s_strokeN hi wi fc lc to bf bs (k.toNatClampNeg + 1 - t) t x y = s_strokeOf hi wi fc lc k fro to bf bs) h_X2_beginOfBond h_X2_led ?_ ?_
  · exact ⟨_, 0, by omega, rfl, nI_0.symm, rfl⟩
  · rintro n x y z ⟨t, ht, rfl, rfl, hr⟩
    obtain ⟨K, hK, hk⟩ := vp_in_of p0 (by omega)
    have hc : k.toNatClampNeg = K := by rw [hk, nI_cl (by omega)]
    rw [hc] at ht hr ⊢
    refine ⟨fun h => ?_, fun h => ?_⟩
    · rw [hk] at h
      have := (nI_ltI (a := K) (b := t) (by omega) (by omega)).mp h
      rw [← hr, show K + 1 - t = 0 by omega]
      rfl
    · have hlt : t < K + 1 := by
        rcases Nat.lt_or_ge t (K + 1) with z | z
        · exact z
        · rw [hk] at h
          exact absurd (nI_lt (a := K) (b := t) (by omega) (by omega)) h
      rw [show K + 1 - t = (K + 1 - (t + 1)) + 1 by omega] at hr
      refine ⟨fun h1 => ?_, fun h1 u hu v hv w hw => ?_⟩
      · rw [← hr]
        show _ = (if x = -9 then y else _)
        rw [if_pos h1]
      · refine ⟨_, by omega, t + 1, by omega, rfl, nI_1 t, ?_⟩
        rw [← hr]
        rw [ite_odd (by omega)] at hu
        have e1 : v = if t % 2 = 0 then bf else bs := by
          rw [hv, hu]
          by_cases h2 : t % 2 = 0 <;> simp [h2]
        have e2 : w = if t % 2 = 0 then bs else bf := by
          rw [hw, hu]
          by_cases h2 : t % 2 = 0 <;> simp [h2]
        rw [e1, e2]
        show _ = (if x = -9 then y else _)
        rw [if_neg h1]

theorem ok_X3_areSo (l : Launch) (G : GT) (h_X0_load : K_X0_load l G) : K_X3_areSo l G := by
  intro r0 r1 r2 r3 i0 i1 c0 c1 c2 rc hi wi fr fc lc cnt rs rl rb str ck cwt p0
  obtain ⟨N, hN, hrc, hok⟩ := p0
  refine wk_X3_areSo l G r0 r1 r2 r3 i0 i1 c0 c1 c2 rc hi wi fr fc lc cnt rs rl rb str ck cwt (s_areSo rs rl rb str ck cwt rc.toNatClampNeg) (fun n x => ∃ k, k ≤ N ∧ n = N - k ∧ x = nI k ∧ ∀ j, j < k → (if s_load ck cwt (rs j) ≤ str (rl j).toNatClampNeg then (1 : Int32) else 0) = rb j) h_X0_load ?_ ?_
  · exact ⟨N, 0, by omega, rfl, nI_0.symm, fun j h => absurd h (Nat.not_lt_zero j)⟩
  · rintro n x ⟨k, hk, rfl, rfl, hr⟩
    rw [hrc, nI_cl (by omega)]
    refine ⟨fun h => ?_, fun h => ?_⟩
    · have := lp_done (by omega) hk h
      subst this
      unfold s_areSo
      rw [if_pos hr]
    · have hlt := lp_more (by omega) hk h
      rw [nI_cl (by omega)]
      refine ⟨vp_in_nI (by omega) (by omega), (hok k hlt).1, vp_in_nI (by omega) (by omega), (hok k hlt).2, fun w hw => ⟨vp_in_nI (by omega) (by omega), fun h1 => ?_, fun h1 => ?_⟩⟩
      · refine ⟨_, by omega, k + 1, hlt, rfl, nI_1 k, fun j hj => ?_⟩
        rcases Nat.lt_or_ge j k with z | z
        · exact hr j z
        · rw [show j = k by omega, ← h1, hw]
          grind
      · unfold s_areSo
        rw [if_neg]
        intro z
        apply h1
        rw [← z k hlt, hw]
        grind

theorem ok_X7_bearingOf (l : Launch) (G : GT) (h_X7_bears : K_X7_bears l G) (h_X7_cells : K_X7_cells l G) : K_X7_bearingOf l G := by
  intro m0 a4 a6 a7 a15 a16 a17 a21 a22 a24 a25 a26 a27 a28 a29 a30 f0 f1 f2 f3 f5 f8 f9 f10 f11 f12 f13 f14 f18 f19 f20 f23 f31 g4 g6 g7 g15 g16 g17 g21 g22 g24 g25 g26 g27 g28 g29 g30 a p0 p1
  obtain ⟨N, hN, e1, e2, -⟩ := p0.n
  refine wk_X7_bearingOf l G m0 a4 a6 a7 a15 a16 a17 a21 a22 a24 a25 a26 a27 a28 a29 a30 f0 f1 f2 f3 f5 f8 f9 f10 f11 f12 f13 f14 f18 f19 f20 f23 f31 g4 g6 g7 g15 g16 g17 g21 g22 g24 g25 g26 g27 g28 g29 g30 a (q_bearing f8 f9 g4 g6 g7 a (f1 * f2).toNatClampNeg) (fun n x y => ∃ k, k ≤ N ∧ n = N - k ∧ y = nI k ∧ x = q_bearing f8 f9 g4 g6 g7 a k) h_X7_bears h_X7_cells ?_ ?_
  · exact ⟨N, 0, Nat.zero_le _, rfl, nI_0.symm, rfl⟩
  · rintro n x y ⟨k, hk, rfl, rfl, rfl⟩
    rw [e2, e1]
    refine ⟨fun h => ?_, fun h => ?_⟩
    · rw [lp_done (by omega) hk h]
    · have hlt := lp_more (by omega) hk h
      refine ⟨vp_in_nI (by omega) (by omega), p1, fun w hw => ⟨_, by omega, k + 1, hlt, rfl, nI_1 k, ?_⟩⟩
      rw [hw]
      rfl

theorem ok_X7_keep (l : Launch) (G : GT) : K_X7_keep l G := by
  intro m0 a4 a6 a7 a15 a16 a17 a21 a22 a24 a25 a26 a27 a28 a29 a30 f0 f1 f2 f3 f5 f8 f9 f10 f11 f12 f13 f14 f18 f19 f20 f23 f31 g4 g6 g7 g15 g16 g17 g21 g22 g24 g25 g26 g27 g28 g29 g30
  refine wk_X7_keep l G m0 a4 a6 a7 a15 a16 a17 a21 a22 a24 a25 a26 a27 a28 a29 a30 f0 f1 f2 f3 f5 f8 f9 f10 f11 f12 f13 f14 f18 f19 f20 f23 f31 g4 g6 g7 g15 g16 g17 g21 g22 g24 g25 g26 g27 g28 g29 g30 (s_cp20 g4 g21) (fun n x y => ∃ k, k ≤ 20 ∧ n = 20 - k ∧ x = nI k ∧ y = s_cpN k g4 g21) ?_ ?_
  · exact ⟨20, 0, by omega, rfl, nI_0.symm, rfl⟩
  · rintro n x y ⟨k, hk, rfl, rfl, rfl⟩
    refine ⟨fun h => ?_, fun h => ?_⟩
    · rw [lp_done (N := 20) (by omega) hk h]; rfl
    · have hlt := lp_more (N := 20) (by omega) hk h
      refine ⟨vp_in_nI hlt (by omega), vp_in_nI hlt (by omega), _, by omega, k + 1, hlt, rfl, nI_1 k, ?_⟩
      rw [nI_cl (by omega)]
      exact upd_run rfl

theorem ok_X7_putBack (l : Launch) (G : GT) : K_X7_putBack l G := by
  intro m0 a4 a6 a7 a15 a16 a17 a21 a22 a24 a25 a26 a27 a28 a29 a30 f0 f1 f2 f3 f5 f8 f9 f10 f11 f12 f13 f14 f18 f19 f20 f23 f31 g4 g6 g7 g15 g16 g17 g21 g22 g24 g25 g26 g27 g28 g29 g30
  refine wk_X7_putBack l G m0 a4 a6 a7 a15 a16 a17 a21 a22 a24 a25 a26 a27 a28 a29 a30 f0 f1 f2 f3 f5 f8 f9 f10 f11 f12 f13 f14 f18 f19 f20 f23 f31 g4 g6 g7 g15 g16 g17 g21 g22 g24 g25 g26 g27 g28 g29 g30 (s_cp20 g21 g4) (fun n x y => ∃ k, k ≤ 20 ∧ n = 20 - k ∧ x = nI k ∧ y = s_cpN k g21 g4) ?_ ?_
  · exact ⟨20, 0, by omega, rfl, nI_0.symm, rfl⟩
  · rintro n x y ⟨k, hk, rfl, rfl, rfl⟩
    refine ⟨fun h => ?_, fun h => ?_⟩
    · rw [lp_done (N := 20) (by omega) hk h]; rfl
    · have hlt := lp_more (N := 20) (by omega) hk h
      refine ⟨vp_in_nI hlt (by omega), vp_in_nI hlt (by omega), _, by omega, k + 1, hlt, rfl, nI_1 k, ?_⟩
      rw [nI_cl (by omega)]
      exact upd_run rfl

theorem ok_X7_countOf (l : Launch) (G : GT) (h_X7_cells : K_X7_cells l G) : K_X7_countOf l G := by
  intro m0 a4 a6 a7 a15 a16 a17 a21 a22 a24 a25 a26 a27 a28 a29 a30 f0 f1 f2 f3 f5 f8 f9 f10 f11 f12 f13 f14 f18 f19 f20 f23 f31 g4 g6 g7 g15 g16 g17 g21 g22 g24 g25 g26 g27 g28 g29 g30 v p0
  obtain ⟨N, hN, e1, e2, -⟩ := p0.n
  refine wk_X7_countOf l G m0 a4 a6 a7 a15 a16 a17 a21 a22 a24 a25 a26 a27 a28 a29 a30 f0 f1 f2 f3 f5 f8 f9 f10 f11 f12 f13 f14 f18 f19 f20 f23 f31 g4 g6 g7 g15 g16 g17 g21 g22 g24 g25 g26 g27 g28 g29 g30 v (s_count g4 v (f1 * f2).toNatClampNeg) (fun n x y => ∃ k, k ≤ N ∧ n = N - k ∧ y = nI k ∧ x = s_count g4 v k) h_X7_cells ?_ ?_
  · exact ⟨N, 0, Nat.zero_le _, rfl, nI_0.symm, rfl⟩
  · rintro n x y ⟨k, hk, rfl, rfl, rfl⟩
    rw [e2, e1]
    refine ⟨fun h => ?_, fun h => ?_⟩
    · rw [lp_done (by omega) hk h]
    · have hlt := lp_more (by omega) hk h
      refine ⟨vp_in_nI (by omega) (by omega), fun w hw => ⟨_, by omega, k + 1, hlt, rfl, nI_1 k, ?_⟩⟩
      rw [hw, nI_cl (by omega)]
      rfl

theorem ok_X7_areSo (l : Launch) (G : GT) (h_X7_bears : K_X7_bears l G) : K_X7_areSo l G := by
  intro m0 a4 a6 a7 a15 a16 a17 a21 a22 a24 a25 a26 a27 a28 a29 a30 f0 f1 f2 f3 f5 f8 f9 f10 f11 f12 f13 f14 f18 f19 f20 f23 f31 g4 g6 g7 g15 g16 g17 g21 g22 g24 g25 g26 g27 g28 g29 g30 p0
  obtain ⟨N, hN, hrc, hok⟩ := p0
  refine wk_X7_areSo l G m0 a4 a6 a7 a15 a16 a17 a21 a22 a24 a25 a26 a27 a28 a29 a30 f0 f1 f2 f3 f5 f8 f9 f10 f11 f12 f13 f14 f18 f19 f20 f23 f31 g4 g6 g7 g15 g16 g17 g21 g22 g24 g25 g26 g27 g28 g29 g30 (q_areSo f8 f9 g4 g6 g7 g24 g25 g26 f23.toNatClampNeg) (fun n x y => ∃ k, k ≤ N ∧ n = N - k ∧ y = nI k ∧ x = q_areSo f8 f9 g4 g6 g7 g24 g25 g26 k) h_X7_bears ?_ ?_
  · refine ⟨N, 0, by omega, rfl, nI_0.symm, ?_⟩
    unfold q_areSo
    rw [if_pos (fun j h => absurd h (Nat.not_lt_zero j))]
  · rintro n x y ⟨k, hk, rfl, rfl, rfl⟩
    rw [hrc, nI_cl (k := N) (by omega)]
    refine ⟨fun h => ?_, fun h => ?_⟩
    · rw [lp_done (by omega) hk h]
      refine ⟨?_, rfl⟩
      unfold q_areSo
      split <;> simp
    · have hlt := lp_more (by omega) hk h
      have hv := vp_in_nI (n := k) (N := 8) (by omega) (by omega)
      rw [nI_cl (k := k) (by omega)]
      refine ⟨⟨fun _ => trivial, fun _ => ⟨hv, hv, (hok k hlt).2, (hok k hlt).1, hv⟩⟩, fun w hw => ⟨_, by omega, k + 1, hlt, rfl, nI_1 k, ?_⟩⟩
      rw [hw]
      unfold q_areSo
      by_cases ha : ∀ j, j < k → q_bears f8 f9 g4 g6 g7 (g25 j) (g24 j) = g26 j
      · rw [if_pos ha, if_neg (by decide)]
        by_cases hb : q_bears f8 f9 g4 g6 g7 (g25 k) (g24 k) = g26 k
        · rw [if_pos hb, if_pos]
          intro j hj
          rcases Nat.lt_or_ge j k with z | z
          · exact ha j z
          · rw [show j = k by omega]; exact hb
        · rw [if_neg hb, if_neg (fun z => hb (z k (by omega)))]
      · rw [if_neg ha, if_pos rfl, if_neg (fun z => ha (fun j hj => z j (by omega)))]

theorem ok_X7_nights (l : Launch) (G : GT) (h_X7_cells : K_X7_cells l G) (h_X7_countOf : K_X7_countOf l G) (h_X7_in : K_X7_in l G) : K_X7_nights l G := by
  intro m0 a4 a6 a7 a15 a16 a17 a21 a22 a24 a25 a26 a27 a28 a29 a30 f0 f1 f2 f3 f5 f8 f9 f10 f11 f12 f13 f14 f18 f19 f20 f23 f31 g4 g6 g7 g15 g16 g17 g21 g22 g24 g25 g26 g27 g28 g29 g30 n p0
  obtain ⟨N, hN, e1, e2, -⟩ := p0.n
  refine wk_X7_nights l G m0 a4 a6 a7 a15 a16 a17 a21 a22 a24 a25 a26 a27 a28 a29 a30 f0 f1 f2 f3 f5 f8 f9 f10 f11 f12 f13 f14 f18 f19 f20 f23 f31 g4 g6 g7 g15 g16 g17 g21 g22 g24 g25 g26 g27 g28 g29 g30 n (m_wx f5 n (s_count (m_nightS (f1 * f2).toNatClampNeg (n * f3) g4) 9 (f1 * f2).toNatClampNeg)) (if m_wxOk f5 n then m_nightS (f1 * f2).toNatClampNeg (n * f3) g4 else g4) (fun c x y => m_wxOk f5 n ∧ ∃ k, k ≤ N ∧ c = N - k ∧ x = nI k ∧ y = m_nightS k (n * f3) g4) h_X7_cells h_X7_countOf h_X7_in ?_ ?_
  · rw [q_in09]
    refine ⟨fun h => ⟨fun h2 => ⟨N, ⟨Classical.not_not.mp h, h2⟩, 0, by omega, rfl, nI_0.symm, rfl⟩, fun h2 => ⟨?_, ?_⟩⟩, fun h => ⟨?_, ?_⟩⟩
    · unfold m_wx
      rw [if_neg h, if_pos h2]
    · rw [if_neg (fun z => z.2 h2)]
    · unfold m_wx
      rw [if_pos h]
    · rw [if_neg (fun z => h z.1)]
  · rintro c x y ⟨hok, k, hk, rfl, rfl, rfl⟩
    rw [e2, e1, m_wx_ok hok, if_pos hok]
    refine ⟨fun h => ⟨p0, ?_, ?_⟩, fun h => ?_⟩
    · rw [lp_done (by omega) hk h]
    · rw [lp_done (by omega) hk h]
    · have hlt := lp_more (by omega) hk h
      refine ⟨vp_in_nI (by omega) (by omega), fun w hw => ⟨vp_in_nI (by omega) (by omega), _, by omega, hok, k + 1, hlt, rfl, nI_1 k, ?_⟩⟩
      rw [hw, nI_cl (by omega)]
      have e : m_nightS k (n * f3) g4 k = g4 k := if_neg (by omega)
      rw [e]
      exact upd_run (f := fun j => if 9 < g4 j + n * f3 then 9 else g4 j + n * f3) (g := g4) (k := k) (by grind)

theorem ok_X7_thaw (l : Launch) (G : GT) (h_X7_cells : K_X7_cells l G) (h_X7_countOf : K_X7_countOf l G) (h_X7_in : K_X7_in l G) : K_X7_thaw l G := by
  intro m0 a4 a6 a7 a15 a16 a17 a21 a22 a24 a25 a26 a27 a28 a29 a30 f0 f1 f2 f3 f5 f8 f9 f10 f11 f12 f13 f14 f18 f19 f20 f23 f31 g4 g6 g7 g15 g16 g17 g21 g22 g24 g25 g26 g27 g28 g29 g30 n p0
  obtain ⟨N, hN, e1, e2, -⟩ := p0.n
  refine wk_X7_thaw l G m0 a4 a6 a7 a15 a16 a17 a21 a22 a24 a25 a26 a27 a28 a29 a30 f0 f1 f2 f3 f5 f8 f9 f10 f11 f12 f13 f14 f18 f19 f20 f23 f31 g4 g6 g7 g15 g16 g17 g21 g22 g24 g25 g26 g27 g28 g29 g30 n (m_wx f5 n (s_count (m_thawS (f1 * f2).toNatClampNeg n g4) 0 (f1 * f2).toNatClampNeg)) (if m_wxOk f5 n then m_thawS (f1 * f2).toNatClampNeg n g4 else g4) (fun c x y => m_wxOk f5 n ∧ ∃ k, k ≤ N ∧ c = N - k ∧ x = nI k ∧ y = m_thawS k n g4) h_X7_cells h_X7_countOf h_X7_in ?_ ?_
  · rw [q_in09]
    refine ⟨fun h => ⟨fun h2 => ⟨N, ⟨Classical.not_not.mp h, h2⟩, 0, by omega, rfl, nI_0.symm, rfl⟩, fun h2 => ⟨?_, ?_⟩⟩, fun h => ⟨?_, ?_⟩⟩
    · unfold m_wx
      rw [if_neg h, if_pos h2]
    · rw [if_neg (fun z => z.2 h2)]
    · unfold m_wx
      rw [if_pos h]
    · rw [if_neg (fun z => h z.1)]
  · rintro c x y ⟨hok, k, hk, rfl, rfl, rfl⟩
    rw [e2, e1, m_wx_ok hok, if_pos hok]
    refine ⟨fun h => ⟨p0, ?_, ?_⟩, fun h => ?_⟩
    · rw [lp_done (by omega) hk h]
    · rw [lp_done (by omega) hk h]
    · have hlt := lp_more (by omega) hk h
      refine ⟨vp_in_nI (by omega) (by omega), fun w hw => ⟨vp_in_nI (by omega) (by omega), _, by omega, hok, k + 1, hlt, rfl, nI_1 k, ?_⟩⟩
      rw [hw, nI_cl (by omega)]
      have e : m_thawS k n g4 k = g4 k := if_neg (by omega)
      rw [e]
      exact upd_run (f := fun j => if g4 j - n < 0 then 0 else g4 j - n) (g := g4) (k := k) (by grind)

theorem ok_X7_holds (l : Launch) (G : GT) (h_X7_isBond : K_X7_isBond l G) (h_X7_noPlace : K_X7_noPlace l G) (h_X7_noTwo : K_X7_noTwo l G) : K_X7_holds l G := by
  intro m0 a4 a6 a7 a15 a16 a17 a21 a22 a24 a25 a26 a27 a28 a29 a30 f0 f1 f2 f3 f5 f8 f9 f10 f11 f12 f13 f14 f18 f19 f20 f23 f31 g4 g6 g7 g15 g16 g17 g21 g22 g24 g25 g26 g27 g28 g29 g30 a b fro to p0 p1
  refine wk_X7_holds l G m0 a4 a6 a7 a15 a16 a17 a21 a22 a24 a25 a26 a27 a28 a29 a30 f0 f1 f2 f3 f5 f8 f9 f10 f11 f12 f13 f14 f18 f19 f20 f23 f31 g4 g6 g7 g15 g16 g17 g21 g22 g24 g25 g26 g27 g28 g29 g30 a b fro to (m_holdsR f1 f2 f5 f8 g4 g6 g7 a b fro to) (if m_bKnown f1 f2 f5 a b fro to then 0 else f9) (fun c x d y9 y22 => m_bKnown f1 f2 f5 a b fro to ∧ ∃ k, k ≤ 10 ∧ c = 10 - k ∧ d = nI k ∧ x = m_holdsN f1 f2 f8 g4 g6 g7 a b fro to k) h_X7_isBond h_X7_noPlace h_X7_noTwo ?_ ?_
  · refine ⟨fun h => ⟨?_, ?_⟩, fun h => ⟨fun h2 => ⟨?_, ?_⟩, fun h2 => ⟨fun h3 => ⟨10, ⟨h, h2, h3⟩, 0, by omega, rfl, nI_0.symm, (mholds0 _ _ _ _ _ _ _ _ _ _).symm⟩, fun h3 => ⟨?_, ?_⟩⟩⟩⟩
    · unfold m_holdsR; rw [if_pos (fun z => h z.1)]
    · rw [if_neg (fun z => h z.1)]
    · unfold m_holdsR; rw [if_pos (fun z => h2 z.2.1)]
    · rw [if_neg (fun z => h2 z.2.1)]
    · unfold m_holdsR; rw [if_pos (fun z => h3 z.2.2)]
    · rw [if_neg (fun z => h3 z.2.2)]
  · rintro c x d y9 y22 ⟨hok, k, hk, rfl, rfl, rfl⟩
    have h2 := (vpTwo p1).resolve_left (fun z => z hok.1)
    have h3 := (vpP p0).resolve_left (fun z => z hok.2.1)
    refine ⟨fun h => ⟨?_, ?_⟩, fun h => ⟨p0, h3.2, h2.1, h2.2, h3.1, fun jk w hw => ?_⟩⟩
    · unfold m_holdsR
      rw [if_neg (fun z => z hok), lp_done (N := 10) (by omega) hk h]
    · rw [if_pos hok]
    · have hlt := lp_more (N := 10) (by omega) hk h
      refine ⟨_, by omega, hok, k + 1, hlt, rfl, nI_1 k, ?_⟩
      rw [hw, mholdsS]

theorem ok_X7_neck (l : Launch) (G : GT) (h_X7_cells : K_X7_cells l G) (h_X7_isBond : K_X7_isBond l G) (h_X7_noPlace : K_X7_noPlace l G) (h_X7_noTwo : K_X7_noTwo l G) : K_X7_neck l G := by
  intro m0 a4 a6 a7 a15 a16 a17 a21 a22 a24 a25 a26 a27 a28 a29 a30 f0 f1 f2 f3 f5 f8 f9 f10 f11 f12 f13 f14 f18 f19 f20 f23 f31 g4 g6 g7 g15 g16 g17 g21 g22 g24 g25 g26 g27 g28 g29 g30 a b fro to p0 p1
  obtain ⟨N, hN, e1, e2, -⟩ := p0.n
  refine wk_X7_neck l G m0 a4 a6 a7 a15 a16 a17 a21 a22 a24 a25 a26 a27 a28 a29 a30 f0 f1 f2 f3 f5 f8 f9 f10 f11 f12 f13 f14 f18 f19 f20 f23 f31 g4 g6 g7 g15 g16 g17 g21 g22 g24 g25 g26 g27 g28 g29 g30 a b fro to (m_neckR f1 f2 f5 f8 f9 g4 g6 g7 a b fro to) (if m_bKnown f1 f2 f5 a b fro to then 0 else f8) (fun c s x y8 y22 => (m_bKnown f1 f2 f5 a b fro to ∧ ¬ q_isBond f1 f2 f8 f9 g4 g6 g7 a b fro to = 0) ∧ ∃ k, k ≤ N ∧ c = N - k ∧ ((k = N ∧ x = -1) ∨ (k < N ∧ x = nI (N - 1 - k))) ∧ s = m_neckN f1 f2 f9 g4 g6 g7 a b fro to N k) h_X7_cells h_X7_isBond h_X7_noPlace h_X7_noTwo ?_ ?_
  · refine ⟨fun h => ⟨?_, ?_⟩, fun h => ⟨fun h2 => ⟨?_, ?_⟩, fun h2 => ⟨fun h3 => ?_, fun h3 => ⟨?_, ?_⟩⟩⟩⟩
    · unfold m_neckR; rw [if_pos (fun z => h z.1)]
    · rw [if_neg (fun z => h z.1)]
    · unfold m_neckR; rw [if_pos (fun z => h2 z.2.1)]
    · rw [if_neg (fun z => h2 z.2.1)]
    · have hok : m_bKnown f1 f2 f5 a b fro to := ⟨h, h2, h3⟩
      have h4 := (vpTwo p1).resolve_left (fun z => z h)
      have h5 := (vpP p0).resolve_left (fun z => z h2)
      refine ⟨p0, h5.2, h4.1, h4.2, h5.1, fun jk => ⟨fun h6 => ⟨?_, ?_⟩, fun h6 => ⟨N, ⟨hok, h6⟩, 0, by omega, rfl, ?_, (mneck0 _ _ _ _ _ _ _ _ _ _ _).symm⟩⟩⟩
      · unfold m_neckR
        rw [if_neg (fun z => z hok), if_pos h6]
      · rw [if_pos hok]
      · rw [e1]
        rcases Nat.eq_zero_or_pos N with z | z
        · subst z; exact Or.inl ⟨rfl, by decide⟩
        · obtain ⟨i, rfl⟩ : ∃ i, N = i + 1 := ⟨N - 1, by omega⟩
          exact Or.inr ⟨z, nI_pred i⟩
    · unfold m_neckR; rw [if_pos (fun z => h3 z.2.2)]
    · rw [if_neg (fun z => h3 z.2.2)]
  · rintro c s x y8 y22 ⟨hok, k, hk, rfl, hx, rfl⟩
    have h4 := (vpTwo p1).resolve_left (fun z => z hok.1.1)
    have h5 := (vpP p0).resolve_left (fun z => z hok.1.2.1)
    rcases hx with ⟨rfl, rfl⟩ | ⟨hlt, rfl⟩
    · refine ⟨fun _ => ⟨?_, ?_⟩, fun h => absurd (by decide) h⟩
      · unfold m_neckR
        rw [if_neg (fun z => z hok.1), if_neg hok.2, e2]
      · rw [if_pos hok.1]
    · refine ⟨fun h => absurd h (nI_pos (by omega)), fun _ => ?_⟩
      have hx2 : (k + 1 = N ∧ nI (N - 1 - k) + (-1) = -1) ∨ (k + 1 < N ∧ nI (N - 1 - k) + (-1) = nI (N - 1 - (k + 1))) := by
        rcases Nat.lt_or_ge (k + 1) N with z | z
        · refine Or.inr ⟨z, ?_⟩
          rw [show N - 1 - k = (N - 1 - (k + 1)) + 1 by omega]
          exact nI_m1 _
        · refine Or.inl ⟨by omega, ?_⟩
          rw [show N - 1 - k = 0 by omega]
          decide
      refine ⟨fun h1 => ⟨_, by omega, hok, k + 1, hlt, rfl, hx2, ?_⟩, fun h1 => ⟨fun h3 => ⟨_, by omega, hok, k + 1, hlt, rfl, hx2, ?_⟩, fun h3 => ⟨p0, h5.2, h4.1, h4.2, h5.1, fun jk => ⟨fun h6 => ⟨_, by omega, hok, k + 1, hlt, rfl, hx2, ?_⟩, fun h6 => ⟨_, by omega, hok, k + 1, hlt, rfl, hx2, ?_⟩⟩⟩⟩⟩
      · rw [mneckS, if_neg (fun z => z.1 h1)]
      · rw [mneckS, if_neg (fun z => z.2.1 h3)]
      · rw [mneckS, if_neg (fun z => h6 z.2.2)]
      · rw [mneckS, if_pos ⟨h1, h3, h6⟩]

theorem ok_X7_weights (l : Launch) (G : GT) (h_X7_areSo : K_X7_areSo l G) (h_X7_noSkater : K_X7_noSkater l G) : K_X7_weights l G := by
  intro m0 a4 a6 a7 a15 a16 a17 a21 a22 a24 a25 a26 a27 a28 a29 a30 f0 f1 f2 f3 f5 f8 f9 f10 f11 f12 f13 f14 f18 f19 f20 f23 f31 g4 g6 g7 g15 g16 g17 g21 g22 g24 g25 g26 g27 g28 g29 g30 a p0 p1
  refine wk_X7_weights l G m0 a4 a6 a7 a15 a16 a17 a21 a22 a24 a25 a26 a27 a28 a29 a30 f0 f1 f2 f3 f5 f8 f9 f10 f11 f12 f13 f14 f18 f19 f20 f23 f31 g4 g6 g7 g15 g16 g17 g21 g22 g24 g25 g26 g27 g28 g29 g30 a (m_weightsR f5 f8 f9 g4 g6 g7 g24 g25 g26 f23.toNatClampNeg a) (if q_noSk f5 a = 0 then upd (upd g7 a.toNatClampNeg 9) a.toNatClampNeg (g7 a.toNatClampNeg) else g7) (fun c s x y => q_noSk f5 a = 0 ∧ ∃ k, k ≤ 9 ∧ c = 9 - k ∧ x = nI (1 + k) ∧ s = m_setN (fun v => q_areSo f8 f9 g4 g6 (upd g7 a.toNatClampNeg v) g24 g25 g26 f23.toNatClampNeg) 1 k ∧ ((k = 0 ∧ y = g7) ∨ y = upd g7 a.toNatClampNeg (nI (1 + k - 1)))) h_X7_areSo h_X7_noSkater ?_ ?_
  · refine ⟨fun hk => ⟨((vpQ p0).resolve_left (fun z => z hk)), 9, hk, 0, by omega, rfl, rfl, (setN0 _ _).symm, Or.inl ⟨rfl, rfl⟩⟩, fun hk => ⟨?_, ?_⟩⟩
    · unfold m_weightsR
      rw [if_pos hk]
    · rw [if_neg hk]
  · rintro c s x y ⟨hk, k, hk2, rfl, rfl, rfl, hc0⟩
    have hv : vp_in a 4 := ((vpQ p0).resolve_left (fun z => z hk))
    refine ⟨fun h => ⟨hv, ?_, ?_⟩, fun h => ⟨hv, p1, fun w hw => ?_⟩⟩
    · have hN : k = 9 := by
        have := (nI_leI (a := 10) (b := 1 + k) (by omega) (by omega)).mp h
        omega
      unfold m_weightsR
      rw [if_neg (fun z => z hk), hN]
    · have hN : k = 9 := by
        have := (nI_leI (a := 10) (b := 1 + k) (by omega) (by omega)).mp h
        omega
      rw [if_pos hk]
      rcases hc0 with ⟨hk0, -⟩ | hc0
      · omega
      · rw [hc0, hN]
        rfl
    · have hlt : k < 9 := by
        rcases Nat.lt_or_ge k 9 with z | z
        · exact z
        · exact absurd (nI_le (a := 10) (b := 1 + k) (by omega) (by omega)) h
      have hy : ∀ v, upd y a.toNatClampNeg v = upd g7 a.toNatClampNeg v := fun v => by
        rcases hc0 with ⟨-, hc0⟩ | hc0 <;> rw [hc0]
        rw [upd_upd]
      refine ⟨9 - (k + 1), by omega, hk, k + 1, hlt, rfl, nI_1 _, ?_, Or.inr ?_⟩
      · rw [hw, hy, setNS]
      · rw [hy]
        rfl

theorem ok_X7_kinds (l : Launch) (G : GT) (h_X7_areSo : K_X7_areSo l G) (h_X7_noSkater : K_X7_noSkater l G) : K_X7_kinds l G := by
  intro m0 a4 a6 a7 a15 a16 a17 a21 a22 a24 a25 a26 a27 a28 a29 a30 f0 f1 f2 f3 f5 f8 f9 f10 f11 f12 f13 f14 f18 f19 f20 f23 f31 g4 g6 g7 g15 g16 g17 g21 g22 g24 g25 g26 g27 g28 g29 g30 a p0 p1
  refine wk_X7_kinds l G m0 a4 a6 a7 a15 a16 a17 a21 a22 a24 a25 a26 a27 a28 a29 a30 f0 f1 f2 f3 f5 f8 f9 f10 f11 f12 f13 f14 f18 f19 f20 f23 f31 g4 g6 g7 g15 g16 g17 g21 g22 g24 g25 g26 g27 g28 g29 g30 a (m_kindsR f5 f8 f9 g4 g6 g7 g24 g25 g26 f23.toNatClampNeg a) (if q_noSk f5 a = 0 then upd (upd g6 a.toNatClampNeg 2) a.toNatClampNeg (g6 a.toNatClampNeg) else g6) (fun c s x y => q_noSk f5 a = 0 ∧ ∃ k, k ≤ 3 ∧ c = 3 - k ∧ x = nI (0 + k) ∧ s = m_setN (fun v => q_areSo f8 f9 g4 (upd g6 a.toNatClampNeg v) g7 g24 g25 g26 f23.toNatClampNeg) 0 k ∧ ((k = 0 ∧ y = g6) ∨ y = upd g6 a.toNatClampNeg (nI (0 + k - 1)))) h_X7_areSo h_X7_noSkater ?_ ?_
  · refine ⟨fun hk => ⟨((vpQ p0).resolve_left (fun z => z hk)), 3, hk, 0, by omega, rfl, rfl, (setN0 _ _).symm, Or.inl ⟨rfl, rfl⟩⟩, fun hk => ⟨?_, ?_⟩⟩
    · unfold m_kindsR
      rw [if_pos hk]
    · rw [if_neg hk]
  · rintro c s x y ⟨hk, k, hk2, rfl, rfl, rfl, hc0⟩
    have hv : vp_in a 4 := ((vpQ p0).resolve_left (fun z => z hk))
    refine ⟨fun h => ⟨hv, ?_, ?_⟩, fun h => ⟨hv, p1, fun w hw => ?_⟩⟩
    · have hN : k = 3 := by
        have := (nI_leI (a := 3) (b := 0 + k) (by omega) (by omega)).mp h
        omega
      unfold m_kindsR
      rw [if_neg (fun z => z hk), hN]
    · have hN : k = 3 := by
        have := (nI_leI (a := 3) (b := 0 + k) (by omega) (by omega)).mp h
        omega
      rw [if_pos hk]
      rcases hc0 with ⟨hk0, -⟩ | hc0
      · omega
      · rw [hc0, hN]
        rfl
    · have hlt : k < 3 := by
        rcases Nat.lt_or_ge k 3 with z | z
        · exact z
        · exact absurd (nI_le (a := 3) (b := 0 + k) (by omega) (by omega)) h
      have hy : ∀ v, upd y a.toNatClampNeg v = upd g6 a.toNatClampNeg v := fun v => by
        rcases hc0 with ⟨-, hc0⟩ | hc0 <;> rw [hc0]
        rw [upd_upd]
      refine ⟨3 - (k + 1), by omega, hk, k + 1, hlt, rfl, nI_1 _, ?_, Or.inr ?_⟩
      · rw [hw, hy, setNS]
      · rw [hy]
        rfl

theorem ok_X7_strengths (l : Launch) (G : GT) (h_X7_areSo : K_X7_areSo l G) (h_X7_noPlace : K_X7_noPlace l G) : K_X7_strengths l G := by
  intro m0 a4 a6 a7 a15 a16 a17 a21 a22 a24 a25 a26 a27 a28 a29 a30 f0 f1 f2 f3 f5 f8 f9 f10 f11 f12 f13 f14 f18 f19 f20 f23 f31 g4 g6 g7 g15 g16 g17 g21 g22 g24 g25 g26 g27 g28 g29 g30 ce p0 p1
  refine wk_X7_strengths l G m0 a4 a6 a7 a15 a16 a17 a21 a22 a24 a25 a26 a27 a28 a29 a30 f0 f1 f2 f3 f5 f8 f9 f10 f11 f12 f13 f14 f18 f19 f20 f23 f31 g4 g6 g7 g15 g16 g17 g21 g22 g24 g25 g26 g27 g28 g29 g30 ce (m_strengthsR f1 f2 f8 f9 g4 g6 g7 g24 g25 g26 f23.toNatClampNeg ce) (if q_noPlace f1 f2 ce = 0 then upd (upd g4 ce.toNatClampNeg 9) ce.toNatClampNeg (g4 ce.toNatClampNeg) else g4) (fun c s x y => q_noPlace f1 f2 ce = 0 ∧ ∃ k, k ≤ 10 ∧ c = 10 - k ∧ x = nI (0 + k) ∧ s = m_setN (fun v => q_areSo f8 f9 (upd g4 ce.toNatClampNeg v) g6 g7 g24 g25 g26 f23.toNatClampNeg) 0 k ∧ ((k = 0 ∧ y = g4) ∨ y = upd g4 ce.toNatClampNeg (nI (0 + k - 1)))) h_X7_areSo h_X7_noPlace ?_ ?_
  · refine ⟨fun hk => ⟨((vpP p0).resolve_left (fun z => z hk)).1, 10, hk, 0, by omega, rfl, rfl, (setN0 _ _).symm, Or.inl ⟨rfl, rfl⟩⟩, fun hk => ⟨?_, ?_⟩⟩
    · unfold m_strengthsR
      rw [if_pos hk]
    · rw [if_neg hk]
  · rintro c s x y ⟨hk, k, hk2, rfl, rfl, rfl, hc0⟩
    have hv : vp_in ce 20 := ((vpP p0).resolve_left (fun z => z hk)).1
    refine ⟨fun h => ⟨hv, ?_, ?_⟩, fun h => ⟨hv, p1, fun w hw => ?_⟩⟩
    · have hN : k = 10 := by
        have := (nI_leI (a := 10) (b := 0 + k) (by omega) (by omega)).mp h
        omega
      unfold m_strengthsR
      rw [if_neg (fun z => z hk), hN]
    · have hN : k = 10 := by
        have := (nI_leI (a := 10) (b := 0 + k) (by omega) (by omega)).mp h
        omega
      rw [if_pos hk]
      rcases hc0 with ⟨hk0, -⟩ | hc0
      · omega
      · rw [hc0, hN]
        rfl
    · have hlt : k < 10 := by
        rcases Nat.lt_or_ge k 10 with z | z
        · exact z
        · exact absurd (nI_le (a := 10) (b := 0 + k) (by omega) (by omega)) h
      have hy : ∀ v, upd y ce.toNatClampNeg v = upd g4 ce.toNatClampNeg v := fun v => by
        rcases hc0 with ⟨-, hc0⟩ | hc0 <;> rw [hc0]
        rw [upd_upd]
      refine ⟨10 - (k + 1), by omega, hk, k + 1, hlt, rfl, nI_1 _, ?_, Or.inr ?_⟩
      · rw [hw, hy, setNS]
      · rw [hy]
        rfl

theorem ok_X6_holds (l : Launch) (G : GT) (h_X0_load : K_X0_load l G) (h_X2_bearing : K_X2_bearing l G) (h_X2_shortest : K_X2_shortest l G) (h_X6_isBondKnown : K_X6_isBondKnown l G) : K_X6_holds l G := by
  intro b0 c0 c1 c2 i0 i1 bs x0 d0 r0 j0 e0 lf tr cnt hi wi fr fc lc ck cwt str a b fro to p0 p1
  refine wk_X6_holds l G b0 c0 c1 c2 i0 i1 bs x0 d0 r0 j0 e0 lf tr cnt hi wi fr fc lc ck cwt str a b fro to (x_holdsR hi wi fc lc cnt str ck cwt a b fro to) (fun c d => x_bK hi wi cnt a b fro to ∧ ∃ k, k ≤ 10 ∧ c = k ∧ ((k = 0 ∧ d = -1) ∨ (∃ j, k = j + 1 ∧ d = nI j)) ∧ x_holdsN hi wi fc lc str ck cwt a b fro to k = x_holdsN hi wi fc lc str ck cwt a b fro to 10) h_X0_load h_X2_bearing h_X2_shortest h_X6_isBondKnown ?_ ?_
  · refine ⟨fun h => ⟨10, ?_, 10, by omega, rfl, Or.inr ⟨9, rfl, rfl⟩, rfl⟩, fun h => ?_⟩
    · unfold x_bKn at h
      rw [ite01, Classical.not_not] at h
      exact h
    · unfold x_bKn at h
      rw [ite01] at h
      unfold x_holdsR
      rw [if_pos h]
  · rintro c d ⟨hok, k, hk, rfl, hd, hr⟩
    have h2 := (vpPair p1).resolve_left hok.1
    unfold x_holdsR
    rw [if_neg (fun z => z hok), ← hr]
    rcases hd with ⟨rfl, rfl⟩ | ⟨j, rfl, rfl⟩
    · exact ⟨fun _ => (xholds0 _ _ _ _ _ _ _ _ _ _ _).symm, fun h => absurd (by decide) h⟩
    · refine ⟨fun h => absurd h (nI_pos (by omega)), fun _ => ⟨h2.1, p0, h2.2, p0, fun h3 => ?_, fun h3 => ?_⟩⟩
      · refine ⟨j, by omega, hok, j, by omega, rfl, ?_, ?_⟩
        · rcases Nat.eq_zero_or_pos j with z | z
          · subst z; exact Or.inl ⟨rfl, by decide⟩
          · obtain ⟨i, rfl⟩ : ∃ i, j = i + 1 := ⟨j - 1, by omega⟩
            exact Or.inr ⟨i, rfl, nI_m1 i⟩
        · rw [xholdsS]
          unfold x_brg
          rw [if_pos h3]
      · rw [xholdsS]
        unfold x_brg
        rw [if_neg h3]

theorem ok_X6_neck (l : Launch) (G : GT) (h_X2_cells : K_X2_cells l G) (h_X6_isBond : K_X6_isBond l G) (h_X6_isBondKnown : K_X6_isBondKnown l G) : K_X6_neck l G := by
  intro b0 c0 c1 c2 i0 i1 bs x0 d0 r0 j0 e0 lf tr cnt hi wi fr fc lc ck cwt str a b fro to p0 p1
  obtain ⟨N, hN, e1, e2, -⟩ := p0.n
  refine wk_X6_neck l G b0 c0 c1 c2 i0 i1 bs x0 d0 r0 j0 e0 lf tr cnt hi wi fr fc lc ck cwt str a b fro to (x_neckR hi wi fc lc cnt str ck cwt a b fro to) (fun c x => (x_bK hi wi cnt a b fro to ∧ ¬ x_isBd hi wi fc lc str ck cwt a b fro to 0 = 0) ∧ ∃ k, k ≤ N ∧ c = N - k ∧ x = nI k ∧ x_neckN hi wi fc lc str ck cwt a b fro to (N - k) k = x_neckN hi wi fc lc str ck cwt a b fro to N 0) h_X2_cells h_X6_isBond h_X6_isBondKnown ?_ ?_
  · refine ⟨fun h => ?_, fun h => ?_⟩
    · unfold x_bKn at h
      rw [ite01, Classical.not_not] at h
      have h2 := (vpPair p1).resolve_left h.1
      refine ⟨p0, h2.1, h2.2, fun h3 => ⟨N, ⟨h, h3⟩, 0, by omega, rfl, nI_0.symm, rfl⟩, fun h3 => ?_⟩
      unfold x_neckR
      rw [if_neg (fun z => z h), if_pos h3]
    · unfold x_bKn at h
      rw [ite01] at h
      unfold x_neckR
      rw [if_pos h]
  · rintro c x ⟨hok, k, hk, rfl, rfl, hr⟩
    have h2 := (vpPair p1).resolve_left hok.1.1
    unfold x_neckR
    rw [if_neg (fun z => z hok.1), if_neg hok.2, e2, e1]
    refine ⟨fun h => ?_, fun h => ?_⟩
    · rw [← hr, lp_done (by omega) hk h, Nat.sub_self]
      rfl
    · have hlt := lp_more (by omega) hk h
      have hs : x_neckN hi wi fc lc str ck cwt a b fro to (N - k) k = (if ¬ nI k = fro ∧ ¬ nI k = to ∧ x_isBd hi wi fc lc str ck cwt a b fro to ((1 : Int32) <<< (nI k &&& 31)) = 0 then nI k else x_neckN hi wi fc lc str ck cwt a b fro to (N - (k + 1)) (k + 1)) := by
        rw [show N - k = (N - (k + 1)) + 1 by omega]
        rfl
      have go : ¬ (¬ nI k = fro ∧ ¬ nI k = to ∧ x_isBd hi wi fc lc str ck cwt a b fro to ((1 : Int32) <<< (nI k &&& 31)) = 0) → ∃ k1 : Nat, k1 < N - k ∧ ((x_bK hi wi cnt a b fro to ∧ ¬ x_isBd hi wi fc lc str ck cwt a b fro to 0 = 0) ∧ ∃ k2, k2 ≤ N ∧ k1 = N - k2 ∧ nI k + 1 = nI k2 ∧ x_neckN hi wi fc lc str ck cwt a b fro to (N - k2) k2 = x_neckN hi wi fc lc str ck cwt a b fro to N 0) := fun hn => by
        refine ⟨_, by omega, hok, k + 1, hlt, rfl, nI_1 k, ?_⟩
        rw [← hr, hs, if_neg hn]
      refine ⟨fun h1 => go (fun z => z.1 h1), fun h1 => ⟨fun h3 => go (fun z => z.2.1 h3), fun h3 => ⟨p0, h2.1, h2.2, fun h4 => go (fun z => h4 z.2.2), fun h4 => ?_⟩⟩⟩
      rw [← hr, hs, if_pos ⟨h1, h3, h4⟩]

theorem ok_X6_weights (l : Launch) (G : GT) (h_X0_has : K_X0_has l G) (h_X3_areSo : K_X3_areSo l G) : K_X6_weights l G := by
  intro b0 c0 c1 c2 i0 i1 r0 r1 r2 r3 bs x0 d0 j0 e0 lf tr cnt hi wi fr fc lc rc ck cwt str rs rl rb a p0 p1
  refine wk_X6_weights l G b0 c0 c1 c2 i0 i1 r0 r1 r2 r3 bs x0 d0 j0 e0 lf tr cnt hi wi fr fc lc rc ck cwt str rs rl rb a (x_weightsR cnt rs rl rb str ck cwt rc.toNatClampNeg a) (if s_sk cnt a = 0 then cwt else upd (upd cwt a.toNatClampNeg 9) a.toNatClampNeg (cwt a.toNatClampNeg)) (fun c s x y => ¬ s_sk cnt a = 0 ∧ ∃ k, k ≤ 9 ∧ c = 9 - k ∧ x = nI (1 + k) ∧ s = m_setN (fun v => s_areSo rs rl rb str ck (upd cwt a.toNatClampNeg v) rc.toNatClampNeg) 1 k ∧ ((k = 0 ∧ y = cwt) ∨ y = upd cwt a.toNatClampNeg (nI (1 + k - 1)))) h_X0_has h_X3_areSo ?_ ?_
  · refine ⟨fun hk => ⟨(vpS p0).resolve_left hk, 9, hk, 0, by omega, rfl, rfl, (setN0 _ _).symm, Or.inl ⟨rfl, rfl⟩⟩, fun hk => ⟨?_, ?_⟩⟩
    · unfold x_weightsR
      rw [if_pos hk]
    · rw [if_pos hk]
  · rintro c s x y ⟨hk, k, hk2, rfl, rfl, rfl, hc0⟩
    have hv : vp_in a 4 := (vpS p0).resolve_left hk
    refine ⟨fun h => ⟨hv, ?_, ?_⟩, fun h => ⟨hv, p1, fun w hw => ?_⟩⟩
    · have hN : k = 9 := by
        have := (nI_ltI (a := 9) (b := 1 + k) (by omega) (by omega)).mp h
        omega
      unfold x_weightsR
      rw [if_neg hk, hN]
    · have hN : k = 9 := by
        have := (nI_ltI (a := 9) (b := 1 + k) (by omega) (by omega)).mp h
        omega
      rw [if_neg hk]
      rcases hc0 with ⟨hk0, -⟩ | hc0
      · omega
      · rw [hc0, hN]
        rfl
    · have hlt : k < 9 := by
        rcases Nat.lt_or_ge k 9 with z | z
        · exact z
        · exact absurd (nI_lt (a := 9) (b := 1 + k) (by omega) (by omega)) h
      have hy : ∀ v, upd y a.toNatClampNeg v = upd cwt a.toNatClampNeg v := fun v => by
        rcases hc0 with ⟨-, hc0⟩ | hc0 <;> rw [hc0]
        rw [upd_upd]
      refine ⟨9 - (k + 1), by omega, hk, k + 1, hlt, rfl, nI_1 _, ?_, Or.inr ?_⟩
      · rw [hw, hy, setNS]
      · rw [hy]
        rfl

theorem ok_X6_kinds (l : Launch) (G : GT) (h_X0_has : K_X0_has l G) (h_X3_areSo : K_X3_areSo l G) : K_X6_kinds l G := by
  intro b0 c0 c1 c2 i0 i1 r0 r1 r2 r3 bs x0 d0 j0 e0 lf tr cnt hi wi fr fc lc rc ck cwt str rs rl rb a p0 p1
  refine wk_X6_kinds l G b0 c0 c1 c2 i0 i1 r0 r1 r2 r3 bs x0 d0 j0 e0 lf tr cnt hi wi fr fc lc rc ck cwt str rs rl rb a (x_kindsR cnt rs rl rb str ck cwt rc.toNatClampNeg a) (if s_sk cnt a = 0 then ck else upd (upd ck a.toNatClampNeg 2) a.toNatClampNeg (ck a.toNatClampNeg)) (fun c s x y => ¬ s_sk cnt a = 0 ∧ ∃ k, k ≤ 3 ∧ c = 3 - k ∧ x = nI (0 + k) ∧ s = m_setN (fun v => s_areSo rs rl rb str (upd ck a.toNatClampNeg v) cwt rc.toNatClampNeg) 0 k ∧ ((k = 0 ∧ y = ck) ∨ y = upd ck a.toNatClampNeg (nI (0 + k - 1)))) h_X0_has h_X3_areSo ?_ ?_
  · refine ⟨fun hk => ⟨(vpS p0).resolve_left hk, 3, hk, 0, by omega, rfl, rfl, (setN0 _ _).symm, Or.inl ⟨rfl, rfl⟩⟩, fun hk => ⟨?_, ?_⟩⟩
    · unfold x_kindsR
      rw [if_pos hk]
    · rw [if_pos hk]
  · rintro c s x y ⟨hk, k, hk2, rfl, rfl, rfl, hc0⟩
    have hv : vp_in a 4 := (vpS p0).resolve_left hk
    refine ⟨fun h => ⟨hv, ?_, ?_⟩, fun h => ⟨hv, p1, fun w hw => ?_⟩⟩
    · have hN : k = 3 := by
        have := (nI_ltI (a := 2) (b := 0 + k) (by omega) (by omega)).mp h
        omega
      unfold x_kindsR
      rw [if_neg hk, hN]
    · have hN : k = 3 := by
        have := (nI_ltI (a := 2) (b := 0 + k) (by omega) (by omega)).mp h
        omega
      rw [if_neg hk]
      rcases hc0 with ⟨hk0, -⟩ | hc0
      · omega
      · rw [hc0, hN]
        rfl
    · have hlt : k < 3 := by
        rcases Nat.lt_or_ge k 3 with z | z
        · exact z
        · exact absurd (nI_lt (a := 2) (b := 0 + k) (by omega) (by omega)) h
      have hy : ∀ v, upd y a.toNatClampNeg v = upd ck a.toNatClampNeg v := fun v => by
        rcases hc0 with ⟨-, hc0⟩ | hc0 <;> rw [hc0]
        rw [upd_upd]
      refine ⟨3 - (k + 1), by omega, hk, k + 1, hlt, rfl, nI_1 _, ?_, Or.inr ?_⟩
      · rw [hw, hy, setNS]
      · rw [hy]
        rfl

theorem ok_X6_strengths (l : Launch) (G : GT) (h_X2_has : K_X2_has l G) (h_X3_areSo : K_X3_areSo l G) : K_X6_strengths l G := by
  intro b0 c0 c1 c2 i0 i1 r0 r1 r2 r3 bs x0 d0 j0 e0 lf tr cnt hi wi fr fc lc rc ck cwt str rs rl rb ce p0 p1
  refine wk_X6_strengths l G b0 c0 c1 c2 i0 i1 r0 r1 r2 r3 bs x0 d0 j0 e0 lf tr cnt hi wi fr fc lc rc ck cwt str rs rl rb ce (x_strengthsR hi wi rs rl rb str ck cwt rc.toNatClampNeg ce) (if s_ce hi wi ce = 0 then str else upd (upd str ce.toNatClampNeg 9) ce.toNatClampNeg (str ce.toNatClampNeg)) (fun c s x y => ¬ s_ce hi wi ce = 0 ∧ ∃ k, k ≤ 10 ∧ c = 10 - k ∧ x = nI (0 + k) ∧ s = m_setN (fun v => s_areSo rs rl rb (upd str ce.toNatClampNeg v) ck cwt rc.toNatClampNeg) 0 k ∧ ((k = 0 ∧ y = str) ∨ y = upd str ce.toNatClampNeg (nI (0 + k - 1)))) h_X2_has h_X3_areSo ?_ ?_
  · refine ⟨fun hk => ⟨(vpC p0).resolve_left hk, 10, hk, 0, by omega, rfl, rfl, (setN0 _ _).symm, Or.inl ⟨rfl, rfl⟩⟩, fun hk => ⟨?_, ?_⟩⟩
    · unfold x_strengthsR
      rw [if_pos hk]
    · rw [if_pos hk]
  · rintro c s x y ⟨hk, k, hk2, rfl, rfl, rfl, hc0⟩
    have hv : vp_in ce 20 := (vpC p0).resolve_left hk
    refine ⟨fun h => ⟨hv, ?_, ?_⟩, fun h => ⟨hv, p1, fun w hw => ?_⟩⟩
    · have hN : k = 10 := by
        have := (nI_ltI (a := 9) (b := 0 + k) (by omega) (by omega)).mp h
        omega
      unfold x_strengthsR
      rw [if_neg hk, hN]
    · have hN : k = 10 := by
        have := (nI_ltI (a := 9) (b := 0 + k) (by omega) (by omega)).mp h
        omega
      rw [if_neg hk]
      rcases hc0 with ⟨hk0, -⟩ | hc0
      · omega
      · rw [hc0, hN]
        rfl
    · have hlt : k < 10 := by
        rcases Nat.lt_or_ge k 10 with z | z
        · exact z
        · exact absurd (nI_lt (a := 9) (b := 0 + k) (by omega) (by omega)) h
      have hy : ∀ v, upd y ce.toNatClampNeg v = upd str ce.toNatClampNeg v := fun v => by
        rcases hc0 with ⟨-, hc0⟩ | hc0 <;> rw [hc0]
        rw [upd_upd]
      refine ⟨10 - (k + 1), by omega, hk, k + 1, hlt, rfl, nI_1 _, ?_, Or.inr ?_⟩
      · rw [hw, hy, setNS]
      · rw [hy]
        rfl
