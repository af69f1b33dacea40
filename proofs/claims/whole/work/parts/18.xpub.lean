set_option maxRecDepth 100000 in
set_option maxHeartbeats 4000000 in
theorem wk_X6_skaterGives (l : Launch) (G : GT) (b0 : Nat) (bs : Nat) (x0 : Nat) (d0 : Nat) (r0 : Nat) (i0 : Nat) (c0 : Nat) (j0 : Nat) (e0 : Nat) (lf : Int32) (tr : Int32) (w : Int32) (R : Int32) (t0_9 : Int32) (h_X6_leave : K_X6_leave l G)
    (hv : w = R ∧ (31 * tr + 1) = t0_9) :
    MF l G yX6_skaterGives cX6_skaterGives 2 (some .int) rm_X6_skaterGives [.ref b0, .int w] [(b0, .inr (6, [.ref bs, .ref x0, .ref d0, .ref r0, .ref i0, .ref c0, .ref j0, .ref e0, .int lf, .int tr]))] (some (.int R)) [(b0, .inr (6, [.ref bs, .ref x0, .ref d0, .ref r0, .ref i0, .ref c0, .ref j0, .ref e0, .int lf, .int t0_9]))] := by
  refine MF.of (by decide +kernel) (Nat.le_of_ble_eq_true rfl) ?_
  intro p e s m args below meth c A ls fx hh hl _
  have hx := fx.hx
  have hb := fx.hb
  have hl : lv_has ls 2 [(0, .ref b0), (1, .int w)] := hl
  obtain ⟨Q, hQ⟩ : ∃ Q, Q = ZZ G A (some (.int R)) [(b0, .inr (6, [.ref bs, .ref x0, .ref d0, .ref r0, .ref i0, .ref c0, .ref j0, .ref e0, .int lf, .int t0_9]))] below args s := ⟨_, rfl⟩
  rw [← hQ]
  refine lv_aload_n (pc := 0) hx hb (dOk_at dX6_skaterGives 0 rfl) rfl (lv_at hl 0 rfl) ?_
  refine lv_iconst (pc := 1) (v := 1) hx hb (dOk_at dX6_skaterGives 1 rfl) (by decide) ?_
  refine cl_V (pc := 2) (w' := [(b0, .inr (6, [.ref bs, .ref x0, .ref d0, .ref r0, .ref i0, .ref c0, .ref j0, .ref e0, .int lf, .int (31 * tr + 1)]))]) (wr := []) (rest := []) fx hh hl.1 (h_X6_leave b0 bs x0 d0 r0 i0 c0 j0 e0 lf tr 1) yV_X6_leave tMX6_215 ⟨rfl, rfl, Nat.le_of_ble_eq_true rfl, Nat.le_of_ble_eq_true rfl⟩ 0 6 rfl rfl rfl [0] [] [0] rfl rfl rfl (by decide) (by decide) rfl rfl (Nat.le_of_ble_eq_true rfl) ⟨Nat.le_of_ble_eq_true rfl, Nat.le_of_ble_eq_true rfl⟩ (dOk_at dX6_skaterGives 2 rfl) (fun H locs hh => ?_)
  refine lv_iload_n (pc := 5) hx hb (dOk_at dX6_skaterGives 3 rfl) rfl (lv_at hl 1 rfl) ?_
  obtain ⟨e0, e1⟩ := hv
  subst e0
  subst e1
  rw [hQ]
  exact r_iret (pc := 6) fx hh (dOk_at dX6_skaterGives 4 rfl)
set_option maxRecDepth 100000 in
set_option maxHeartbeats 4000000 in
theorem wk_X6_clerkGives (l : Launch) (G : GT) (b0 : Nat) (bs : Nat) (x0 : Nat) (d0 : Nat) (r0 : Nat) (i0 : Nat) (c0 : Nat) (j0 : Nat) (e0 : Nat) (lf : Int32) (tr : Int32) (w : Int32) (R : Int32) (t0_9 : Int32) (h_X6_leave : K_X6_leave l G) (h_X6_skaterGives : K_X6_skaterGives l G)
    (hv : (w + 100) = R ∧ (31 * (31 * tr + 2) + 1) = t0_9) :
    MF l G yX6_clerkGives cX6_clerkGives 2 (some .int) rm_X6_clerkGives [.ref b0, .int w] [(b0, .inr (6, [.ref bs, .ref x0, .ref d0, .ref r0, .ref i0, .ref c0, .ref j0, .ref e0, .int lf, .int tr]))] (some (.int R)) [(b0, .inr (6, [.ref bs, .ref x0, .ref d0, .ref r0, .ref i0, .ref c0, .ref j0, .ref e0, .int lf, .int t0_9]))] := by
  refine MF.of (by decide +kernel) (Nat.le_of_ble_eq_true rfl) ?_
  intro p e s m args below meth c A ls fx hh hl _
  have hx := fx.hx
  have hb := fx.hb
  have hl : lv_has ls 2 [(0, .ref b0), (1, .int w)] := hl
  obtain ⟨Q, hQ⟩ : ∃ Q, Q = ZZ G A (some (.int R)) [(b0, .inr (6, [.ref bs, .ref x0, .ref d0, .ref r0, .ref i0, .ref c0, .ref j0, .ref e0, .int lf, .int t0_9]))] below args s := ⟨_, rfl⟩
  rw [← hQ]
  refine lv_aload_n (pc := 0) hx hb (dOk_at dX6_clerkGives 0 rfl) rfl (lv_at hl 0 rfl) ?_
  refine lv_iconst (pc := 1) (v := 2) hx hb (dOk_at dX6_clerkGives 1 rfl) (by decide) ?_
  refine cl_V (pc := 2) (w' := [(b0, .inr (6, [.ref bs, .ref x0, .ref d0, .ref r0, .ref i0, .ref c0, .ref j0, .ref e0, .int lf, .int (31 * tr + 2)]))]) (wr := []) (rest := []) fx hh hl.1 (h_X6_leave b0 bs x0 d0 r0 i0 c0 j0 e0 lf tr 2) yV_X6_leave tMX6_215 ⟨rfl, rfl, Nat.le_of_ble_eq_true rfl, Nat.le_of_ble_eq_true rfl⟩ 0 6 rfl rfl rfl [0] [] [0] rfl rfl rfl (by decide) (by decide) rfl rfl (Nat.le_of_ble_eq_true rfl) ⟨Nat.le_of_ble_eq_true rfl, Nat.le_of_ble_eq_true rfl⟩ (dOk_at dX6_clerkGives 2 rfl) (fun H locs hh => ?_)
  refine lv_aload_n (pc := 5) hx hb (dOk_at dX6_clerkGives 3 rfl) rfl (lv_at hl 0 rfl) ?_
  refine lv_iload_n (pc := 6) hx hb (dOk_at dX6_clerkGives 4 rfl) rfl (lv_at hl 1 rfl) ?_
  refine cl_V (pc := 7) (w' := [(b0, .inr (6, [.ref bs, .ref x0, .ref d0, .ref r0, .ref i0, .ref c0, .ref j0, .ref e0, .int lf, .int (31 * (31 * tr + 2) + 1)]))]) (wr := []) (rest := []) fx hh hl.1 (h_X6_skaterGives b0 bs x0 d0 r0 i0 c0 j0 e0 lf (31 * tr + 2) w) yV_X6_skaterGives tMX6_212 ⟨rfl, rfl, Nat.le_of_ble_eq_true rfl, Nat.le_of_ble_eq_true rfl⟩ 0 6 rfl rfl rfl [0] [] [0] rfl rfl rfl (by decide) (by decide) rfl rfl (Nat.le_of_ble_eq_true rfl) ⟨Nat.le_of_ble_eq_true rfl, Nat.le_of_ble_eq_true rfl⟩ (dOk_at dX6_clerkGives 5 rfl) (fun H locs hh => ?_)
  refine lv_bipush (pc := 10) (v := 100) hx hb (dOk_at dX6_clerkGives 6 rfl) (by decide) ?_
  refine lv_iadd (pc := 12) hx hb (dOk_at dX6_clerkGives 7 rfl) ?_
  obtain ⟨e0, e1⟩ := hv
  subst e0
  subst e1
  rw [hQ]
  exact r_iret (pc := 13) fx hh (dOk_at dX6_clerkGives 8 rfl)
set_option maxRecDepth 100000 in
set_option maxHeartbeats 4000000 in
theorem wk_X6_bankerGives (l : Launch) (G : GT) (b0 : Nat) (bs : Nat) (x0 : Nat) (d0 : Nat) (r0 : Nat) (i0 : Nat) (c0 : Nat) (j0 : Nat) (e0 : Nat) (lf : Int32) (tr : Int32) (w : Int32) (R : Int32) (t0_9 : Int32) (h_X6_clerkGives : K_X6_clerkGives l G) (h_X6_leave : K_X6_leave l G) (h_X6_skaterGives : K_X6_skaterGives l G)
    (hv : ((w + 100) + w) = R ∧ (31 * (31 * (31 * (31 * tr + 3) + 2) + 1) + 1) = t0_9) :
    MF l G yX6_bankerGives cX6_bankerGives 3 (some .int) rm_X6_bankerGives [.ref b0, .int w] [(b0, .inr (6, [.ref bs, .ref x0, .ref d0, .ref r0, .ref i0, .ref c0, .ref j0, .ref e0, .int lf, .int tr]))] (some (.int R)) [(b0, .inr (6, [.ref bs, .ref x0, .ref d0, .ref r0, .ref i0, .ref c0, .ref j0, .ref e0, .int lf, .int t0_9]))] := by
  refine MF.of (by decide +kernel) (Nat.le_of_ble_eq_true rfl) ?_
  intro p e s m args below meth c A ls fx hh hl _
  have hx := fx.hx
  have hb := fx.hb
  have hl : lv_has ls 3 [(0, .ref b0), (1, .int w)] := hl
  obtain ⟨Q, hQ⟩ : ∃ Q, Q = ZZ G A (some (.int R)) [(b0, .inr (6, [.ref bs, .ref x0, .ref d0, .ref r0, .ref i0, .ref c0, .ref j0, .ref e0, .int lf, .int t0_9]))] below args s := ⟨_, rfl⟩
  rw [← hQ]
  refine lv_aload_n (pc := 0) hx hb (dOk_at dX6_bankerGives 0 rfl) rfl (lv_at hl 0 rfl) ?_
  refine lv_iconst (pc := 1) (v := 3) hx hb (dOk_at dX6_bankerGives 1 rfl) (by decide) ?_
  refine cl_V (pc := 2) (w' := [(b0, .inr (6, [.ref bs, .ref x0, .ref d0, .ref r0, .ref i0, .ref c0, .ref j0, .ref e0, .int lf, .int (31 * tr + 3)]))]) (wr := []) (rest := []) fx hh hl.1 (h_X6_leave b0 bs x0 d0 r0 i0 c0 j0 e0 lf tr 3) yV_X6_leave tMX6_215 ⟨rfl, rfl, Nat.le_of_ble_eq_true rfl, Nat.le_of_ble_eq_true rfl⟩ 0 6 rfl rfl rfl [0] [] [0] rfl rfl rfl (by decide) (by decide) rfl rfl (Nat.le_of_ble_eq_true rfl) ⟨Nat.le_of_ble_eq_true rfl, Nat.le_of_ble_eq_true rfl⟩ (dOk_at dX6_bankerGives 2 rfl) (fun H locs hh => ?_)
  refine lv_aload_n (pc := 5) hx hb (dOk_at dX6_bankerGives 3 rfl) rfl (lv_at hl 0 rfl) ?_
  refine lv_iload_n (pc := 6) hx hb (dOk_at dX6_bankerGives 4 rfl) rfl (lv_at hl 1 rfl) ?_
  refine cl_V (pc := 7) (w' := [(b0, .inr (6, [.ref bs, .ref x0, .ref d0, .ref r0, .ref i0, .ref c0, .ref j0, .ref e0, .int lf, .int (31 * (31 * (31 * tr + 3) + 2) + 1)]))]) (wr := []) (rest := []) fx hh hl.1 (h_X6_clerkGives b0 bs x0 d0 r0 i0 c0 j0 e0 lf (31 * tr + 3) w) yV_X6_clerkGives tMX6_209 ⟨rfl, rfl, Nat.le_of_ble_eq_true rfl, Nat.le_of_ble_eq_true rfl⟩ 0 6 rfl rfl rfl [0] [] [0] rfl rfl rfl (by decide) (by decide) rfl rfl (Nat.le_of_ble_eq_true rfl) ⟨Nat.le_of_ble_eq_true rfl, Nat.le_of_ble_eq_true rfl⟩ (dOk_at dX6_bankerGives 5 rfl) (fun H locs hh => ?_)
  refine lv_istore_n (pc := 10) (lv' := [(2, .int (w + 100)), (0, .ref b0), (1, .int w)]) hx hb (dOk_at dX6_bankerGives 6 rfl) rfl hl (by decide) rfl (fun ls hl => ?_)
  refine lv_iload_n (pc := 11) hx hb (dOk_at dX6_bankerGives 7 rfl) rfl (lv_at hl 0 rfl) ?_
  refine lv_aload_n (pc := 12) hx hb (dOk_at dX6_bankerGives 8 rfl) rfl (lv_at hl 1 rfl) ?_
  refine lv_iload_n (pc := 13) hx hb (dOk_at dX6_bankerGives 9 rfl) rfl (lv_at hl 2 rfl) ?_
  refine cl_V (pc := 14) (w' := [(b0, .inr (6, [.ref bs, .ref x0, .ref d0, .ref r0, .ref i0, .ref c0, .ref j0, .ref e0, .int lf, .int (31 * (31 * (31 * (31 * tr + 3) + 2) + 1) + 1)]))]) (wr := []) (rest := [.int (w + 100)]) fx hh hl.1 (h_X6_skaterGives b0 bs x0 d0 r0 i0 c0 j0 e0 lf (31 * (31 * (31 * tr + 3) + 2) + 1) w) yV_X6_skaterGives tMX6_212 ⟨rfl, rfl, Nat.le_of_ble_eq_true rfl, Nat.le_of_ble_eq_true rfl⟩ 0 6 rfl rfl rfl [0] [] [0] rfl rfl rfl (by decide) (by decide) rfl rfl (Nat.le_of_ble_eq_true rfl) ⟨Nat.le_of_ble_eq_true rfl, Nat.le_of_ble_eq_true rfl⟩ (dOk_at dX6_bankerGives 10 rfl) (fun H locs hh => ?_)
  refine lv_iadd (pc := 17) hx hb (dOk_at dX6_bankerGives 11 rfl) ?_
  obtain ⟨e0, e1⟩ := hv
  subst e0
  subst e1
  rw [hQ]
  exact r_iret (pc := 18) fx hh (dOk_at dX6_bankerGives 12 rfl)
set_option maxRecDepth 100000 in
set_option maxHeartbeats 4000000 in
theorem wk_X6_takeAs (l : Launch) (G : GT) (b0 : Nat) (c0 : Nat) (c1 : Nat) (c2 : Nat) (bs : Nat) (x0 : Nat) (d0 : Nat) (r0 : Nat) (i0 : Nat) (j0 : Nat) (e0 : Nat) (lf : Int32) (tr : Int32) (cnt : Int32) (ck : Nat → Int32) (cwt : Nat → Int32) (a : Int32) (kind : Int32) (R : Int32) (h_X0_has : K_X0_has l G) (h_X6_isWithin : K_X6_isWithin l G)
    (hv : (¬ (s_sk cnt a) = 0 → (¬ (s_in kind 0 2) = 0 → vp_in a 4 ∧ ((kind ≤ (ck a.toNatClampNeg) → (1 : Int32) = R) ∧ (¬ kind ≤ (ck a.toNatClampNeg) → (-12 : Int32) = R))) ∧ ((s_in kind 0 2) = 0 → (-2 : Int32) = R)) ∧ ((s_sk cnt a) = 0 → (-1 : Int32) = R)) :
    MF l G yX6_takeAs cX6_takeAs 3 (some .int) rm_X6_takeAs [.ref b0, .int a, .int kind] [(b0, .inr (6, [.ref bs, .ref x0, .ref d0, .ref r0, .ref i0, .ref c0, .ref j0, .ref e0, .int lf, .int tr])), (c0, .inr (0, [.ref c1, .ref c2, .int cnt])), (c1, .inl (G.2.1, 4, .inl ck)), (c2, .inl (G.2.1, 4, .inl cwt))] (some (.int R)) [(b0, .inr (6, [.ref bs, .ref x0, .ref d0, .ref r0, .ref i0, .ref c0, .ref j0, .ref e0, .int lf, .int tr])), (c0, .inr (0, [.ref c1, .ref c2, .int cnt])), (c1, .inl (G.2.1, 4, .inl ck)), (c2, .inl (G.2.1, 4, .inl cwt))] := by
  refine MF.of (by decide +kernel) (Nat.le_of_ble_eq_true rfl) ?_
  intro p e s m args below meth c A ls fx hh hl _
  have hx := fx.hx
  have hb := fx.hb
  have hl : lv_has ls 3 [(0, .ref b0), (1, .int a), (2, .int kind)] := hl
  obtain ⟨Q, hQ⟩ : ∃ Q, Q = ZZ G A (some (.int R)) [(b0, .inr (6, [.ref bs, .ref x0, .ref d0, .ref r0, .ref i0, .ref c0, .ref j0, .ref e0, .int lf, .int tr])), (c0, .inr (0, [.ref c1, .ref c2, .int cnt])), (c1, .inl (G.2.1, 4, .inl ck)), (c2, .inl (G.2.1, 4, .inl cwt))] below args s := ⟨_, rfl⟩
  rw [← hQ]
  refine lv_aload_n (pc := 0) hx hb (dOk_at dX6_takeAs 0 rfl) rfl (lv_at hl 0 rfl) ?_
  refine r_get (pc := 1) (ci := 6) fx hh inT6 rfl 5 (by decide) tFX6_48 rfl 0 rfl rfl (dOk_at dX6_takeAs 1 rfl) ?_
  refine lv_iload_n (pc := 4) hx hb (dOk_at dX6_takeAs 2 rfl) rfl (lv_at hl 1 rfl) ?_
  refine cl_VN (pc := 5) (w' := [(b0, .inr (6, [.ref bs, .ref x0, .ref d0, .ref r0, .ref i0, .ref c0, .ref j0, .ref e0, .int lf, .int tr])), (c0, .inr (0, [.ref c1, .ref c2, .int cnt])), (c1, .inl (G.2.1, 4, .inl ck)), (c2, .inl (G.2.1, 4, .inl cwt))]) (wr := [(b0, .inr (6, [.ref bs, .ref x0, .ref d0, .ref r0, .ref i0, .ref c0, .ref j0, .ref e0, .int lf, .int tr])), (c1, .inl (G.2.1, 4, .inl ck)), (c2, .inl (G.2.1, 4, .inl cwt))]) (rest := []) fx hh hl.1 (h_X0_has c0 c1 c2 cnt a) yV_X0_has nMX6_74 ⟨rfl, rfl, Nat.le_of_ble_eq_true rfl, Nat.le_of_ble_eq_true rfl⟩ 1 0 rfl rfl rfl [1] [0, 2, 3] [0, 3, 1, 2] rfl rfl rfl (by decide) (by decide) rfl rfl (Nat.le_of_ble_eq_true rfl) ⟨Nat.le_of_ble_eq_true rfl, Nat.le_of_ble_eq_true rfl⟩ (dOk_at dX6_takeAs 3 rfl) (fun H locs hh => ?_)
  refine lv_if_ne (pc := 8) (tgt := 13) hx hb (dOk_at dX6_takeAs 4 rfl) (by decide) (fun c8 => ?_) (fun c8 => ?_)
  · have hv := hv.1 c8
    refine lv_iload_n (pc := 13) hx hb (dOk_at dX6_takeAs 7 rfl) rfl (lv_at hl 2 rfl) ?_
    refine lv_iconst (pc := 14) (v := 0) hx hb (dOk_at dX6_takeAs 8 rfl) (by decide) ?_
    refine lv_iconst (pc := 15) (v := 2) hx hb (dOk_at dX6_takeAs 9 rfl) (by decide) ?_
    refine cl_S (pc := 16) (w' := [(b0, .inr (6, [.ref bs, .ref x0, .ref d0, .ref r0, .ref i0, .ref c0, .ref j0, .ref e0, .int lf, .int tr])), (c0, .inr (0, [.ref c1, .ref c2, .int cnt])), (c1, .inl (G.2.1, 4, .inl ck)), (c2, .inl (G.2.1, 4, .inl cwt))]) (wr := [(b0, .inr (6, [.ref bs, .ref x0, .ref d0, .ref r0, .ref i0, .ref c0, .ref j0, .ref e0, .int lf, .int tr])), (c0, .inr (0, [.ref c1, .ref c2, .int cnt])), (c1, .inl (G.2.1, 4, .inl ck)), (c2, .inl (G.2.1, 4, .inl cwt))]) (rest := []) fx hh hl.1 (h_X6_isWithin kind 0 2) yS_X6_isWithin tMX6_96 ⟨rfl, rfl, Nat.le_of_ble_eq_true rfl, Nat.le_of_ble_eq_true rfl⟩ [] [0, 1, 2, 3] [0, 1, 2, 3] rfl rfl rfl (by decide) (by decide) rfl rfl (Nat.le_of_ble_eq_true rfl) ⟨Nat.le_of_ble_eq_true rfl, Nat.le_of_ble_eq_true rfl⟩ (dOk_at dX6_takeAs 10 rfl) (fun H locs hh => ?_)
    refine lv_if_ne (pc := 19) (tgt := 25) hx hb (dOk_at dX6_takeAs 11 rfl) (by decide) (fun c19 => ?_) (fun c19 => ?_)
    · have hv := hv.1 c19
      refine lv_aload_n (pc := 25) hx hb (dOk_at dX6_takeAs 14 rfl) rfl (lv_at hl 0 rfl) ?_
      refine r_get (pc := 26) (ci := 6) fx hh inT6 rfl 5 (by decide) tFX6_48 rfl 0 rfl rfl (dOk_at dX6_takeAs 15 rfl) ?_
      refine r_getN (pc := 29) (ci := 0) fx hh inT0 rfl 0 (by decide) nFX6_78 rfl 1 rfl rfl (dOk_at dX6_takeAs 16 rfl) ?_
      refine lv_iload_n (pc := 32) hx hb (dOk_at dX6_takeAs 17 rfl) rfl (lv_at hl 1 rfl) ?_
      refine r_iald (pc := 33) fx hh 2 rfl hv.1 (dOk_at dX6_takeAs 18 rfl) ?_
      have hv := hv.2
      refine lv_iload_n (pc := 34) hx hb (dOk_at dX6_takeAs 19 rfl) rfl (lv_at hl 2 rfl) ?_
      refine lv_icmp_ge (pc := 35) (tgt := 43) hx hb (dOk_at dX6_takeAs 20 rfl) (by decide) (fun c35 => ?_) (fun c35 => ?_)
      · have hv := hv.1 c35
        refine lv_iconst (pc := 43) (v := 1) hx hb (dOk_at dX6_takeAs 23 rfl) (by decide) ?_
        have e0 := hv
        subst e0
        rw [hQ]
        exact r_iret (pc := 44) fx hh (dOk_at dX6_takeAs 24 rfl)
      · have hv := hv.2 c35
        refine lv_bipush (pc := 38) (v := (-12)) hx hb (dOk_at dX6_takeAs 21 rfl) (by decide) ?_
        refine lv_goto (pc := 40) (tgt := 44) hx hb (dOk_at dX6_takeAs 22 rfl) (by decide) ?_
        have e0 := hv
        subst e0
        rw [hQ]
        exact r_iret (pc := 44) fx hh (dOk_at dX6_takeAs 24 rfl)
    · have hv := hv.2 c19
      refine lv_bipush (pc := 22) (v := (-2)) hx hb (dOk_at dX6_takeAs 12 rfl) (by decide) ?_
      have e0 := hv
      subst e0
      rw [hQ]
      exact r_iret (pc := 24) fx hh (dOk_at dX6_takeAs 13 rfl)
  · have hv := hv.2 c8
    refine lv_iconst (pc := 11) (v := (-1)) hx hb (dOk_at dX6_takeAs 5 rfl) (by decide) ?_
    have e0 := hv
    subst e0
    rw [hQ]
    exact r_iret (pc := 12) fx hh (dOk_at dX6_takeAs 6 rfl)
set_option maxRecDepth 100000 in
set_option maxHeartbeats 4000000 in
theorem wk_X6_canal (l : Launch) (G : GT) (b0 : Nat) (bs : Nat) (s0 : Nat) (s1 : Nat) (x0 : Nat) (x1 : Nat) (j0 : Nat) (j1 : Nat) (e0 : Nat) (e1 : Nat) (e2 : Nat) (r0 : Nat) (d0 : Nat) (i0 : Nat) (c0 : Nat) (r1 : Nat) (r2 : Nat) (r3 : Nat) (lf : Int32) (tr : Int32) (sla : Int32) (sle : Int32) (xl : Int32) (xp : Int32) (xw : Int32) (jhi : Int32) (jwi : Int32) (jfr : Int32) (jfc : Int32) (jlc : Int32) (ecnt : Int32) (rc : Int32) (sn : Nat → Int32) (xc : Nat → Int32) (jstr : Nat → Int32) (ek : Nat → Int32) (ewt : Nat → Int32) (sh : Nat → Option Nat) (sheet : Int32) (lane : Int32) (i : Int32) (n : Int32) (R : Int32) (t0_4 : Nat) (t0_5 : Nat) (t0_6 : Nat) (t0_7 : Nat) (t0_8 : Int32) (t10 : Nat → Int32) (t11_3 : Int32) (t6_1 : Int32) (t6_2 : Int32) (t6_3 : Int32) (t6_4 : Int32) (t6_5 : Int32) (t7 : Nat → Int32) (t8_2 : Int32) (t9 : Nat → Int32) (h_X6_keepFault : K_X6_keepFault l G) (h_X6_takeText : K_X6_takeText l G)
    (hv : s_shAt sh sheet = some s0 ∧ (s_in sheet 0 3 = 0 ∨ vp_in sheet 4) ∧ ¬ 60 < sle ∧ (∀ jk7 : Int32 × Int32 × Int32 × (Nat → Int32), (x_ttR sla sle lane i n sn xc jstr ek ewt) = R ∧ (if x_ttOk sla sle lane i n sn xc jstr ek ewt then j0 else i0) = t0_4 ∧ (if x_ttOk sla sle lane i n sn xc jstr ek ewt then e0 else c0) = t0_5 ∧ (if x_ttOk sla sle lane i n sn xc jstr ek ewt then i0 else j0) = t0_6 ∧ (if x_ttOk sla sle lane i n sn xc jstr ek ewt then c0 else e0) = t0_7 ∧ (x_kf (x_ttR sla sle lane i n sn xc jstr ek ewt)) = t0_8 ∧ (if x_ttGo sla sle lane i n then (x_ttCrew sn xc i n jstr ek ewt).2.2.1 else ewt) = t10 ∧ (if x_ttOk sla sle lane i n sn xc jstr ek ewt then 0 else rc) = t11_3 ∧ (if x_ttGo sla sle lane i n then itHi n (s_cpT sn xc i n) (0, 0) else jhi) = t6_1 ∧ (if x_ttGo sla sle lane i n then itWi n (s_cpT sn xc i n) (0, 0) else jwi) = t6_2 ∧ (if x_ttGo sla sle lane i n then itFr n (s_cpT sn xc i n) (0, 0) else jfr) = t6_3 ∧ (if x_ttGo sla sle lane i n then (x_ttIce sn xc i n jstr).2.2 else jfc) = t6_4 ∧ (if x_ttGo sla sle lane i n then (x_ttIce sn xc i n jstr).2.2 <<< ((itWi n (s_cpT sn xc i n) (0, 0) - 1) &&& 31) else jlc) = t6_5 ∧ (if x_ttGo sla sle lane i n then (x_ttIce sn xc i n jstr).2.1 else jstr) = t7 ∧ (if x_ttGo sla sle lane i n then (x_ttCrew sn xc i n jstr ek ewt).2.2.2 else ecnt) = t8_2 ∧ (if x_ttGo sla sle lane i n then (x_ttCrew sn xc i n jstr ek ewt).2.1 else ek) = t9)) :
    MFJ l G yX6_canal cX6_canal 5 (some .int) rm_X6_canal [.ref b0, .int sheet, .int lane, .int i, .int n] [(b0, .inr (6, [.ref bs, .ref x0, .ref d0, .ref r0, .ref i0, .ref c0, .ref j0, .ref e0, .int lf, .int tr])), (bs, .inl (G.2.2.2, 4, .inr (.inr (.inr (.inr sh))))), (s0, .inr (4, [.ref s1, .int sla, .int sle])), (s1, .inl (G.2.1, 60, .inl sn)), (x0, .inr (5, [.ref x1, .int xl, .int xp, .int xw])), (x1, .inl (G.2.1, 60, .inl xc)), (j0, .inr (2, [.ref j1, .int jhi, .int jwi, .int jfr, .int jfc, .int jlc])), (j1, .inl (G.2.1, 20, .inl jstr)), (e0, .inr (0, [.ref e1, .ref e2, .int ecnt])), (e1, .inl (G.2.1, 4, .inl ek)), (e2, .inl (G.2.1, 4, .inl ewt)), (r0, .inr (3, [.ref r1, .ref r2, .ref r3, .int rc]))] (some (.int R)) (fun jj : Int32 × Int32 × Int32 × (Nat → Int32) => [(b0, .inr (6, [.ref bs, .ref x0, .ref d0, .ref r0, .ref t0_4, .ref t0_5, .ref t0_6, .ref t0_7, .int t0_8, .int tr])), (bs, .inl (G.2.2.2, 4, .inr (.inr (.inr (.inr sh))))), (s0, .inr (4, [.ref s1, .int sla, .int sle])), (s1, .inl (G.2.1, 60, .inl sn)), (x0, .inr (5, [.ref x1, .int jj.1, .int jj.2.1, .int jj.2.2.1])), (x1, .inl (G.2.1, 60, .inl jj.2.2.2)), (j0, .inr (2, [.ref j1, .int t6_1, .int t6_2, .int t6_3, .int t6_4, .int t6_5])), (j1, .inl (G.2.1, 20, .inl t7)), (e0, .inr (0, [.ref e1, .ref e2, .int t8_2])), (e1, .inl (G.2.1, 4, .inl t9)), (e2, .inl (G.2.1, 4, .inl t10)), (r0, .inr (3, [.ref r1, .ref r2, .ref r3, .int t11_3]))]) := by
  refine MFJ.of (by decide +kernel) (Nat.le_of_ble_eq_true rfl) ?_
  intro p e s m args below meth c A ls fx hh hl _
  have hx := fx.hx
  have hb := fx.hb
  have hl : lv_has ls 5 [(0, .ref b0), (1, .int sheet), (2, .int lane), (3, .int i), (4, .int n)] := hl
  obtain ⟨Q, hQ⟩ : ∃ Q, Q = ZJ G A (some (.int R)) (fun jj : Int32 × Int32 × Int32 × (Nat → Int32) => [(b0, .inr (6, [.ref bs, .ref x0, .ref d0, .ref r0, .ref t0_4, .ref t0_5, .ref t0_6, .ref t0_7, .int t0_8, .int tr])), (bs, .inl (G.2.2.2, 4, .inr (.inr (.inr (.inr sh))))), (s0, .inr (4, [.ref s1, .int sla, .int sle])), (s1, .inl (G.2.1, 60, .inl sn)), (x0, .inr (5, [.ref x1, .int jj.1, .int jj.2.1, .int jj.2.2.1])), (x1, .inl (G.2.1, 60, .inl jj.2.2.2)), (j0, .inr (2, [.ref j1, .int t6_1, .int t6_2, .int t6_3, .int t6_4, .int t6_5])), (j1, .inl (G.2.1, 20, .inl t7)), (e0, .inr (0, [.ref e1, .ref e2, .int t8_2])), (e1, .inl (G.2.1, 4, .inl t9)), (e2, .inl (G.2.1, 4, .inl t10)), (r0, .inr (3, [.ref r1, .ref r2, .ref r3, .int t11_3]))]) below args s := ⟨_, rfl⟩
  rw [← hQ]
  refine lv_aload_n (pc := 0) hx hb (dOk_at dX6_canal 0 rfl) rfl (lv_at hl 0 rfl) ?_
  refine lv_aload_n (pc := 1) hx hb (dOk_at dX6_canal 1 rfl) rfl (lv_at hl 0 rfl) ?_
  refine lv_iload_n (pc := 2) hx hb (dOk_at dX6_canal 2 rfl) rfl (lv_at hl 1 rfl) ?_
  refine lv_iload_n (pc := 3) hx hb (dOk_at dX6_canal 3 rfl) rfl (lv_at hl 2 rfl) ?_
  refine lv_iload_n (pc := 4) hx hb (dOk_at dX6_canal 4 rfl) rfl (lv_at hl 3 rfl) ?_
  refine lv_iload (pc := 5) hx hb (dOk_at dX6_canal 5 rfl) (lv_at hl 4 rfl) ?_
  refine cl_VJ (pc := 7) (w2 := fun jj : Int32 × Int32 × Int32 × (Nat → Int32) => [(b0, .inr (6, [.ref bs, .ref x0, .ref d0, .ref r0, .ref (if x_ttOk sla sle lane i n sn xc jstr ek ewt then j0 else i0), .ref (if x_ttOk sla sle lane i n sn xc jstr ek ewt then e0 else c0), .ref (if x_ttOk sla sle lane i n sn xc jstr ek ewt then i0 else j0), .ref (if x_ttOk sla sle lane i n sn xc jstr ek ewt then c0 else e0), .int lf, .int tr])), (bs, .inl (G.2.2.2, 4, .inr (.inr (.inr (.inr sh))))), (s0, .inr (4, [.ref s1, .int sla, .int sle])), (s1, .inl (G.2.1, 60, .inl sn)), (x0, .inr (5, [.ref x1, .int jj.1, .int jj.2.1, .int jj.2.2.1])), (x1, .inl (G.2.1, 60, .inl jj.2.2.2)), (j0, .inr (2, [.ref j1, .int (if x_ttGo sla sle lane i n then itHi n (s_cpT sn xc i n) (0, 0) else jhi), .int (if x_ttGo sla sle lane i n then itWi n (s_cpT sn xc i n) (0, 0) else jwi), .int (if x_ttGo sla sle lane i n then itFr n (s_cpT sn xc i n) (0, 0) else jfr), .int (if x_ttGo sla sle lane i n then (x_ttIce sn xc i n jstr).2.2 else jfc), .int (if x_ttGo sla sle lane i n then (x_ttIce sn xc i n jstr).2.2 <<< ((itWi n (s_cpT sn xc i n) (0, 0) - 1) &&& 31) else jlc)])), (j1, .inl (G.2.1, 20, .inl (if x_ttGo sla sle lane i n then (x_ttIce sn xc i n jstr).2.1 else jstr))), (e0, .inr (0, [.ref e1, .ref e2, .int (if x_ttGo sla sle lane i n then (x_ttCrew sn xc i n jstr ek ewt).2.2.2 else ecnt)])), (e1, .inl (G.2.1, 4, .inl (if x_ttGo sla sle lane i n then (x_ttCrew sn xc i n jstr ek ewt).2.1 else ek))), (e2, .inl (G.2.1, 4, .inl (if x_ttGo sla sle lane i n then (x_ttCrew sn xc i n jstr ek ewt).2.2.1 else ewt))), (r0, .inr (3, [.ref r1, .ref r2, .ref r3, .int (if x_ttOk sla sle lane i n sn xc jstr ek ewt then 0 else rc)]))]) (wr := []) (rest := [.ref b0]) fx hh hl.1 (h_X6_takeText b0 bs s0 s1 x0 x1 j0 j1 e0 e1 e2 r0 d0 i0 c0 r1 r2 r3 lf tr sla sle xl xp xw jhi jwi jfr jfc jlc ecnt rc sn xc jstr ek ewt sh sheet lane i n hv.1 hv.2.1 hv.2.2.1) yV_X6_takeText tMX6_66 ⟨rfl, rfl, Nat.le_of_ble_eq_true rfl, Nat.le_of_ble_eq_true rfl⟩ 0 6 rfl rfl rfl [0, 1, 2, 3, 4, 5, 6, 7, 8, 9, 10, 11] [] [0, 1, 2, 3, 4, 5, 6, 7, 8, 9, 10, 11] rfl rfl (fun _ => rfl) (by decide) (by decide) rfl rfl (Nat.le_of_ble_eq_true rfl) ⟨Nat.le_of_ble_eq_true rfl, Nat.le_of_ble_eq_true rfl⟩ (dOk_at dX6_canal 6 rfl) (fun jk7 H locs hh => ?_)
  have hv := hv.2.2.2 jk7
  refine cl_V (pc := 10) (w' := [(b0, .inr (6, [.ref bs, .ref x0, .ref d0, .ref r0, .ref (if x_ttOk sla sle lane i n sn xc jstr ek ewt then j0 else i0), .ref (if x_ttOk sla sle lane i n sn xc jstr ek ewt then e0 else c0), .ref (if x_ttOk sla sle lane i n sn xc jstr ek ewt then i0 else j0), .ref (if x_ttOk sla sle lane i n sn xc jstr ek ewt then c0 else e0), .int (x_kf (x_ttR sla sle lane i n sn xc jstr ek ewt)), .int tr])), (bs, .inl (G.2.2.2, 4, .inr (.inr (.inr (.inr sh))))), (s0, .inr (4, [.ref s1, .int sla, .int sle])), (s1, .inl (G.2.1, 60, .inl sn)), (x0, .inr (5, [.ref x1, .int jk7.1, .int jk7.2.1, .int jk7.2.2.1])), (x1, .inl (G.2.1, 60, .inl jk7.2.2.2)), (j0, .inr (2, [.ref j1, .int (if x_ttGo sla sle lane i n then itHi n (s_cpT sn xc i n) (0, 0) else jhi), .int (if x_ttGo sla sle lane i n then itWi n (s_cpT sn xc i n) (0, 0) else jwi), .int (if x_ttGo sla sle lane i n then itFr n (s_cpT sn xc i n) (0, 0) else jfr), .int (if x_ttGo sla sle lane i n then (x_ttIce sn xc i n jstr).2.2 else jfc), .int (if x_ttGo sla sle lane i n then (x_ttIce sn xc i n jstr).2.2 <<< ((itWi n (s_cpT sn xc i n) (0, 0) - 1) &&& 31) else jlc)])), (j1, .inl (G.2.1, 20, .inl (if x_ttGo sla sle lane i n then (x_ttIce sn xc i n jstr).2.1 else jstr))), (e0, .inr (0, [.ref e1, .ref e2, .int (if x_ttGo sla sle lane i n then (x_ttCrew sn xc i n jstr ek ewt).2.2.2 else ecnt)])), (e1, .inl (G.2.1, 4, .inl (if x_ttGo sla sle lane i n then (x_ttCrew sn xc i n jstr ek ewt).2.1 else ek))), (e2, .inl (G.2.1, 4, .inl (if x_ttGo sla sle lane i n then (x_ttCrew sn xc i n jstr ek ewt).2.2.1 else ewt))), (r0, .inr (3, [.ref r1, .ref r2, .ref r3, .int (if x_ttOk sla sle lane i n sn xc jstr ek ewt then 0 else rc)]))]) (wr := [(bs, .inl (G.2.2.2, 4, .inr (.inr (.inr (.inr sh))))), (s0, .inr (4, [.ref s1, .int sla, .int sle])), (s1, .inl (G.2.1, 60, .inl sn)), (x0, .inr (5, [.ref x1, .int jk7.1, .int jk7.2.1, .int jk7.2.2.1])), (x1, .inl (G.2.1, 60, .inl jk7.2.2.2)), (j0, .inr (2, [.ref j1, .int (if x_ttGo sla sle lane i n then itHi n (s_cpT sn xc i n) (0, 0) else jhi), .int (if x_ttGo sla sle lane i n then itWi n (s_cpT sn xc i n) (0, 0) else jwi), .int (if x_ttGo sla sle lane i n then itFr n (s_cpT sn xc i n) (0, 0) else jfr), .int (if x_ttGo sla sle lane i n then (x_ttIce sn xc i n jstr).2.2 else jfc), .int (if x_ttGo sla sle lane i n then (x_ttIce sn xc i n jstr).2.2 <<< ((itWi n (s_cpT sn xc i n) (0, 0) - 1) &&& 31) else jlc)])), (j1, .inl (G.2.1, 20, .inl (if x_ttGo sla sle lane i n then (x_ttIce sn xc i n jstr).2.1 else jstr))), (e0, .inr (0, [.ref e1, .ref e2, .int (if x_ttGo sla sle lane i n then (x_ttCrew sn xc i n jstr ek ewt).2.2.2 else ecnt)])), (e1, .inl (G.2.1, 4, .inl (if x_ttGo sla sle lane i n then (x_ttCrew sn xc i n jstr ek ewt).2.1 else ek))), (e2, .inl (G.2.1, 4, .inl (if x_ttGo sla sle lane i n then (x_ttCrew sn xc i n jstr ek ewt).2.2.1 else ewt))), (r0, .inr (3, [.ref r1, .ref r2, .ref r3, .int (if x_ttOk sla sle lane i n sn xc jstr ek ewt then 0 else rc)]))]) (rest := []) fx hh hl.1 (h_X6_keepFault b0 bs x0 d0 r0 (if x_ttOk sla sle lane i n sn xc jstr ek ewt then j0 else i0) (if x_ttOk sla sle lane i n sn xc jstr ek ewt then e0 else c0) (if x_ttOk sla sle lane i n sn xc jstr ek ewt then i0 else j0) (if x_ttOk sla sle lane i n sn xc jstr ek ewt then c0 else e0) lf tr (x_ttR sla sle lane i n sn xc jstr ek ewt)) yV_X6_keepFault tMX6_70 ⟨rfl, rfl, Nat.le_of_ble_eq_true rfl, Nat.le_of_ble_eq_true rfl⟩ 0 6 rfl rfl rfl [0] [1, 2, 3, 4, 5, 6, 7, 8, 9, 10, 11] [11, 0, 1, 2, 3, 4, 5, 6, 7, 8, 9, 10] rfl rfl rfl (by decide) (by decide) rfl rfl (Nat.le_of_ble_eq_true rfl) ⟨Nat.le_of_ble_eq_true rfl, Nat.le_of_ble_eq_true rfl⟩ (dOk_at dX6_canal 7 rfl) (fun H locs hh => ?_)
  obtain ⟨e0, e1, e2, e3, e4, e5, e6, e7, e8, e9, e10, e11, e12, e13, e14, e15⟩ := hv
  subst e0
  subst e1
  subst e2
  subst e3
  subst e4
  subst e5
  subst e6
  subst e7
  subst e8
  subst e9
  subst e10
  subst e11
  subst e12
  subst e13
  subst e14
  subst e15
  rw [hQ]
  exact r_iretJ (pc := 13) (jk7.1, jk7.2.1, jk7.2.2.1, jk7.2.2.2) fx hh (dOk_at dX6_canal 8 rfl)
set_option maxRecDepth 100000 in
set_option maxHeartbeats 4000000 in
theorem wk_X6_canal_n (l : Launch) (G : GT) (b0 : Nat) (bs : Nat) (x0 : Nat) (d0 : Nat) (r0 : Nat) (i0 : Nat) (c0 : Nat) (j0 : Nat) (e0 : Nat) (lf : Int32) (tr : Int32) (sh : Nat → Option Nat) (sheet : Int32) (lane : Int32) (i : Int32) (n : Int32) (R : Int32) (t0_8 : Int32) (h_X6_keepFault : K_X6_keepFault l G) (h_X6_takeText_n : K_X6_takeText_n l G)
    (hv : s_shAt sh sheet = none ∧ (s_in sheet 0 3 = 0 ∨ vp_in sheet 4) ∧ ((-1 : Int32) = R ∧ (x_kf (-1)) = t0_8)) :
    MF l G yX6_canal cX6_canal 5 (some .int) rm_X6_canal [.ref b0, .int sheet, .int lane, .int i, .int n] [(b0, .inr (6, [.ref bs, .ref x0, .ref d0, .ref r0, .ref i0, .ref c0, .ref j0, .ref e0, .int lf, .int tr])), (bs, .inl (G.2.2.2, 4, .inr (.inr (.inr (.inr sh)))))] (some (.int R)) [(b0, .inr (6, [.ref bs, .ref x0, .ref d0, .ref r0, .ref i0, .ref c0, .ref j0, .ref e0, .int t0_8, .int tr])), (bs, .inl (G.2.2.2, 4, .inr (.inr (.inr (.inr sh)))))] := by
  refine MF.of (by decide +kernel) (Nat.le_of_ble_eq_true rfl) ?_
  intro p e s m args below meth c A ls fx hh hl _
  have hx := fx.hx
  have hb := fx.hb
  have hl : lv_has ls 5 [(0, .ref b0), (1, .int sheet), (2, .int lane), (3, .int i), (4, .int n)] := hl
  obtain ⟨Q, hQ⟩ : ∃ Q, Q = ZZ G A (some (.int R)) [(b0, .inr (6, [.ref bs, .ref x0, .ref d0, .ref r0, .ref i0, .ref c0, .ref j0, .ref e0, .int t0_8, .int tr])), (bs, .inl (G.2.2.2, 4, .inr (.inr (.inr (.inr sh)))))] below args s := ⟨_, rfl⟩
  rw [← hQ]
  refine lv_aload_n (pc := 0) hx hb (dOk_at dX6_canal 0 rfl) rfl (lv_at hl 0 rfl) ?_
  refine lv_aload_n (pc := 1) hx hb (dOk_at dX6_canal 1 rfl) rfl (lv_at hl 0 rfl) ?_
  refine lv_iload_n (pc := 2) hx hb (dOk_at dX6_canal 2 rfl) rfl (lv_at hl 1 rfl) ?_
  refine lv_iload_n (pc := 3) hx hb (dOk_at dX6_canal 3 rfl) rfl (lv_at hl 2 rfl) ?_
  refine lv_iload_n (pc := 4) hx hb (dOk_at dX6_canal 4 rfl) rfl (lv_at hl 3 rfl) ?_
  refine lv_iload (pc := 5) hx hb (dOk_at dX6_canal 5 rfl) (lv_at hl 4 rfl) ?_
  refine cl_V (pc := 7) (w' := [(b0, .inr (6, [.ref bs, .ref x0, .ref d0, .ref r0, .ref i0, .ref c0, .ref j0, .ref e0, .int lf, .int tr])), (bs, .inl (G.2.2.2, 4, .inr (.inr (.inr (.inr sh)))))]) (wr := []) (rest := [.ref b0]) fx hh hl.1 (h_X6_takeText_n b0 bs x0 d0 r0 i0 c0 j0 e0 lf tr sh sheet lane i n hv.1 hv.2.1) yV_X6_takeText tMX6_66 ⟨rfl, rfl, Nat.le_of_ble_eq_true rfl, Nat.le_of_ble_eq_true rfl⟩ 0 6 rfl rfl rfl [0, 1] [] [0, 1] rfl rfl rfl (by decide) (by decide) rfl rfl (Nat.le_of_ble_eq_true rfl) ⟨Nat.le_of_ble_eq_true rfl, Nat.le_of_ble_eq_true rfl⟩ (dOk_at dX6_canal 6 rfl) (fun H locs hh => ?_)
  have hv := hv.2.2
  refine cl_V (pc := 10) (w' := [(b0, .inr (6, [.ref bs, .ref x0, .ref d0, .ref r0, .ref i0, .ref c0, .ref j0, .ref e0, .int (x_kf (-1)), .int tr])), (bs, .inl (G.2.2.2, 4, .inr (.inr (.inr (.inr sh)))))]) (wr := [(bs, .inl (G.2.2.2, 4, .inr (.inr (.inr (.inr sh)))))]) (rest := []) fx hh hl.1 (h_X6_keepFault b0 bs x0 d0 r0 i0 c0 j0 e0 lf tr (-1)) yV_X6_keepFault tMX6_70 ⟨rfl, rfl, Nat.le_of_ble_eq_true rfl, Nat.le_of_ble_eq_true rfl⟩ 0 6 rfl rfl rfl [0] [1] [1, 0] rfl rfl rfl (by decide) (by decide) rfl rfl (Nat.le_of_ble_eq_true rfl) ⟨Nat.le_of_ble_eq_true rfl, Nat.le_of_ble_eq_true rfl⟩ (dOk_at dX6_canal 7 rfl) (fun H locs hh => ?_)
  obtain ⟨e0, e1⟩ := hv
  subst e0
  subst e1
  rw [hQ]
  exact r_iret (pc := 13) fx hh (dOk_at dX6_canal 8 rfl)
set_option maxRecDepth 100000 in
set_option maxHeartbeats 4000000 in
theorem wk_X6_ofSkater (l : Launch) (G : GT) (b0 : Nat) (c0 : Nat) (c1 : Nat) (c2 : Nat) (i0 : Nat) (i1 : Nat) (bs : Nat) (x0 : Nat) (d0 : Nat) (r0 : Nat) (j0 : Nat) (e0 : Nat) (lf : Int32) (tr : Int32) (cnt : Int32) (hi : Int32) (wi : Int32) (fr : Int32) (fc : Int32) (lc : Int32) (ck : Nat → Int32) (cwt : Nat → Int32) (str : Nat → Int32) (a : Int32) (what : Int32) (R : Int32) (h_X0_has : K_X0_has l G) (h_X0_load : K_X0_load l G) (h_X2_bearing : K_X2_bearing l G)
    (hv : (¬ (s_sk cnt a) = 0 → (what = 0 → vp_in a 4 ∧ (ck a.toNatClampNeg) = R) ∧ (¬ what = 0 → (what = 1 → vp_in a 4 ∧ (cwt a.toNatClampNeg) = R) ∧ (¬ what = 1 → (what = 2 → vp_in a 4 ∧ (s_load ck cwt a) = R) ∧ (¬ what = 2 → (what = 3 → vp_in a 4 ∧ (okD hi wi ∧ (s_bearing str (s_load ck cwt a) 0 (hi * wi).toNatClampNeg) = R)) ∧ (¬ what = 3 → (-2 : Int32) = R))))) ∧ ((s_sk cnt a) = 0 → (-1 : Int32) = R)) :
    MF l G yX6_ofSkater cX6_ofSkater 3 (some .int) rm_X6_ofSkater [.ref b0, .int a, .int what] [(b0, .inr (6, [.ref bs, .ref x0, .ref d0, .ref r0, .ref i0, .ref c0, .ref j0, .ref e0, .int lf, .int tr])), (c0, .inr (0, [.ref c1, .ref c2, .int cnt])), (c1, .inl (G.2.1, 4, .inl ck)), (c2, .inl (G.2.1, 4, .inl cwt)), (i0, .inr (2, [.ref i1, .int hi, .int wi, .int fr, .int fc, .int lc])), (i1, .inl (G.2.1, 20, .inl str))] (some (.int R)) [(b0, .inr (6, [.ref bs, .ref x0, .ref d0, .ref r0, .ref i0, .ref c0, .ref j0, .ref e0, .int lf, .int tr])), (c0, .inr (0, [.ref c1, .ref c2, .int cnt])), (c1, .inl (G.2.1, 4, .inl ck)), (c2, .inl (G.2.1, 4, .inl cwt)), (i0, .inr (2, [.ref i1, .int hi, .int wi, .int fr, .int fc, .int lc])), (i1, .inl (G.2.1, 20, .inl str))] := by
  refine MF.of (by decide +kernel) (Nat.le_of_ble_eq_true rfl) ?_
  intro p e s m args below meth c A ls fx hh hl _
  have hx := fx.hx
  have hb := fx.hb
  have hl : lv_has ls 3 [(0, .ref b0), (1, .int a), (2, .int what)] := hl
  obtain ⟨Q, hQ⟩ : ∃ Q, Q = ZZ G A (some (.int R)) [(b0, .inr (6, [.ref bs, .ref x0, .ref d0, .ref r0, .ref i0, .ref c0, .ref j0, .ref e0, .int lf, .int tr])), (c0, .inr (0, [.ref c1, .ref c2, .int cnt])), (c1, .inl (G.2.1, 4, .inl ck)), (c2, .inl (G.2.1, 4, .inl cwt)), (i0, .inr (2, [.ref i1, .int hi, .int wi, .int fr, .int fc, .int lc])), (i1, .inl (G.2.1, 20, .inl str))] below args s := ⟨_, rfl⟩
  rw [← hQ]
  refine lv_aload_n (pc := 0) hx hb (dOk_at dX6_ofSkater 0 rfl) rfl (lv_at hl 0 rfl) ?_
  refine r_get (pc := 1) (ci := 6) fx hh inT6 rfl 5 (by decide) tFX6_48 rfl 0 rfl rfl (dOk_at dX6_ofSkater 1 rfl) ?_
  refine lv_iload_n (pc := 4) hx hb (dOk_at dX6_ofSkater 2 rfl) rfl (lv_at hl 1 rfl) ?_
  refine cl_VN (pc := 5) (w' := [(b0, .inr (6, [.ref bs, .ref x0, .ref d0, .ref r0, .ref i0, .ref c0, .ref j0, .ref e0, .int lf, .int tr])), (c0, .inr (0, [.ref c1, .ref c2, .int cnt])), (c1, .inl (G.2.1, 4, .inl ck)), (c2, .inl (G.2.1, 4, .inl cwt)), (i0, .inr (2, [.ref i1, .int hi, .int wi, .int fr, .int fc, .int lc])), (i1, .inl (G.2.1, 20, .inl str))]) (wr := [(b0, .inr (6, [.ref bs, .ref x0, .ref d0, .ref r0, .ref i0, .ref c0, .ref j0, .ref e0, .int lf, .int tr])), (c1, .inl (G.2.1, 4, .inl ck)), (c2, .inl (G.2.1, 4, .inl cwt)), (i0, .inr (2, [.ref i1, .int hi, .int wi, .int fr, .int fc, .int lc])), (i1, .inl (G.2.1, 20, .inl str))]) (rest := []) fx hh hl.1 (h_X0_has c0 c1 c2 cnt a) yV_X0_has nMX6_74 ⟨rfl, rfl, Nat.le_of_ble_eq_true rfl, Nat.le_of_ble_eq_true rfl⟩ 1 0 rfl rfl rfl [1] [0, 2, 3, 4, 5] [0, 5, 1, 2, 3, 4] rfl rfl rfl (by decide) (by decide) rfl rfl (Nat.le_of_ble_eq_true rfl) ⟨Nat.le_of_ble_eq_true rfl, Nat.le_of_ble_eq_true rfl⟩ (dOk_at dX6_ofSkater 3 rfl) (fun H locs hh => ?_)
  refine lv_if_ne (pc := 8) (tgt := 13) hx hb (dOk_at dX6_ofSkater 4 rfl) (by decide) (fun c8 => ?_) (fun c8 => ?_)
  · have hv := hv.1 c8
    refine lv_iload_n (pc := 13) hx hb (dOk_at dX6_ofSkater 7 rfl) rfl (lv_at hl 2 rfl) ?_
    by_cases c14_0 : what = 0
    · refine lv_tableIn (pc := 14) (tgt := 44) (off := 30) hx hb (dOk_at dX6_ofSkater 8 rfl) (by rw [c14_0]; decide) (by rw [c14_0]; decide) (by rw [c14_0]; rfl) (by decide) ?_
      have hv := hv.1 c14_0
      refine lv_aload_n (pc := 44) hx hb (dOk_at dX6_ofSkater 9 rfl) rfl (lv_at hl 0 rfl) ?_
      refine r_get (pc := 45) (ci := 6) fx hh inT6 rfl 5 (by decide) tFX6_48 rfl 0 rfl rfl (dOk_at dX6_ofSkater 10 rfl) ?_
      refine r_getN (pc := 48) (ci := 0) fx hh inT0 rfl 0 (by decide) nFX6_78 rfl 1 rfl rfl (dOk_at dX6_ofSkater 11 rfl) ?_
      refine lv_iload_n (pc := 51) hx hb (dOk_at dX6_ofSkater 12 rfl) rfl (lv_at hl 1 rfl) ?_
      refine r_iald (pc := 52) fx hh 2 rfl hv.1 (dOk_at dX6_ofSkater 13 rfl) ?_
      have hv := hv.2
      have e0 := hv
      subst e0
      rw [hQ]
      exact r_iret (pc := 53) fx hh (dOk_at dX6_ofSkater 14 rfl)
    · have hv := hv.2 c14_0
      by_cases c14_1 : what = 1
      · refine lv_tableIn (pc := 14) (tgt := 54) (off := 40) hx hb (dOk_at dX6_ofSkater 8 rfl) (by rw [c14_1]; decide) (by rw [c14_1]; decide) (by rw [c14_1]; rfl) (by decide) ?_
        have hv := hv.1 c14_1
        refine lv_aload_n (pc := 54) hx hb (dOk_at dX6_ofSkater 15 rfl) rfl (lv_at hl 0 rfl) ?_
        refine r_get (pc := 55) (ci := 6) fx hh inT6 rfl 5 (by decide) tFX6_48 rfl 0 rfl rfl (dOk_at dX6_ofSkater 16 rfl) ?_
        refine r_getN (pc := 58) (ci := 0) fx hh inT0 rfl 1 (by decide) nFX6_82 rfl 1 rfl rfl (dOk_at dX6_ofSkater 17 rfl) ?_
        refine lv_iload_n (pc := 61) hx hb (dOk_at dX6_ofSkater 18 rfl) rfl (lv_at hl 1 rfl) ?_
        refine r_iald (pc := 62) fx hh 3 rfl hv.1 (dOk_at dX6_ofSkater 19 rfl) ?_
        have hv := hv.2
        have e0 := hv
        subst e0
        rw [hQ]
        exact r_iret (pc := 63) fx hh (dOk_at dX6_ofSkater 20 rfl)
      · have hv := hv.2 c14_1
        by_cases c14_2 : what = 2
        · refine lv_tableIn (pc := 14) (tgt := 64) (off := 50) hx hb (dOk_at dX6_ofSkater 8 rfl) (by rw [c14_2]; decide) (by rw [c14_2]; decide) (by rw [c14_2]; rfl) (by decide) ?_
          have hv := hv.1 c14_2
          refine lv_aload_n (pc := 64) hx hb (dOk_at dX6_ofSkater 21 rfl) rfl (lv_at hl 0 rfl) ?_
          refine r_get (pc := 65) (ci := 6) fx hh inT6 rfl 5 (by decide) tFX6_48 rfl 0 rfl rfl (dOk_at dX6_ofSkater 22 rfl) ?_
          refine lv_iload_n (pc := 68) hx hb (dOk_at dX6_ofSkater 23 rfl) rfl (lv_at hl 1 rfl) ?_
          refine cl_VN (pc := 69) (w' := [(b0, .inr (6, [.ref bs, .ref x0, .ref d0, .ref r0, .ref i0, .ref c0, .ref j0, .ref e0, .int lf, .int tr])), (c0, .inr (0, [.ref c1, .ref c2, .int cnt])), (c1, .inl (G.2.1, 4, .inl ck)), (c2, .inl (G.2.1, 4, .inl cwt)), (i0, .inr (2, [.ref i1, .int hi, .int wi, .int fr, .int fc, .int lc])), (i1, .inl (G.2.1, 20, .inl str))]) (wr := [(b0, .inr (6, [.ref bs, .ref x0, .ref d0, .ref r0, .ref i0, .ref c0, .ref j0, .ref e0, .int lf, .int tr])), (i0, .inr (2, [.ref i1, .int hi, .int wi, .int fr, .int fc, .int lc])), (i1, .inl (G.2.1, 20, .inl str))]) (rest := []) fx hh hl.1 (h_X0_load c0 c1 c2 cnt a ck cwt hv.1) yV_X0_load nMX6_85 ⟨rfl, rfl, Nat.le_of_ble_eq_true rfl, Nat.le_of_ble_eq_true rfl⟩ 1 0 rfl rfl rfl [1, 2, 3] [0, 4, 5] [0, 3, 4, 5, 1, 2] rfl rfl rfl (by decide) (by decide) rfl rfl (Nat.le_of_ble_eq_true rfl) ⟨Nat.le_of_ble_eq_true rfl, Nat.le_of_ble_eq_true rfl⟩ (dOk_at dX6_ofSkater 24 rfl) (fun H locs hh => ?_)
          have hv := hv.2
          have e0 := hv
          subst e0
          rw [hQ]
          exact r_iret (pc := 72) fx hh (dOk_at dX6_ofSkater 25 rfl)
        · have hv := hv.2 c14_2
          by_cases c14_3 : what = 3
          · refine lv_tableIn (pc := 14) (tgt := 73) (off := 59) hx hb (dOk_at dX6_ofSkater 8 rfl) (by rw [c14_3]; decide) (by rw [c14_3]; decide) (by rw [c14_3]; rfl) (by decide) ?_
            have hv := hv.1 c14_3
            refine lv_aload_n (pc := 73) hx hb (dOk_at dX6_ofSkater 26 rfl) rfl (lv_at hl 0 rfl) ?_
            refine r_get (pc := 74) (ci := 6) fx hh inT6 rfl 4 (by decide) tFX6_41 rfl 0 rfl rfl (dOk_at dX6_ofSkater 27 rfl) ?_
            refine lv_aload_n (pc := 77) hx hb (dOk_at dX6_ofSkater 28 rfl) rfl (lv_at hl 0 rfl) ?_
            refine r_get (pc := 78) (ci := 6) fx hh inT6 rfl 5 (by decide) tFX6_48 rfl 0 rfl rfl (dOk_at dX6_ofSkater 29 rfl) ?_
            refine lv_iload_n (pc := 81) hx hb (dOk_at dX6_ofSkater 30 rfl) rfl (lv_at hl 1 rfl) ?_
            refine cl_VN (pc := 82) (w' := [(b0, .inr (6, [.ref bs, .ref x0, .ref d0, .ref r0, .ref i0, .ref c0, .ref j0, .ref e0, .int lf, .int tr])), (c0, .inr (0, [.ref c1, .ref c2, .int cnt])), (c1, .inl (G.2.1, 4, .inl ck)), (c2, .inl (G.2.1, 4, .inl cwt)), (i0, .inr (2, [.ref i1, .int hi, .int wi, .int fr, .int fc, .int lc])), (i1, .inl (G.2.1, 20, .inl str))]) (wr := [(b0, .inr (6, [.ref bs, .ref x0, .ref d0, .ref r0, .ref i0, .ref c0, .ref j0, .ref e0, .int lf, .int tr])), (i0, .inr (2, [.ref i1, .int hi, .int wi, .int fr, .int fc, .int lc])), (i1, .inl (G.2.1, 20, .inl str))]) (rest := [.ref i0]) fx hh hl.1 (h_X0_load c0 c1 c2 cnt a ck cwt hv.1) yV_X0_load nMX6_85 ⟨rfl, rfl, Nat.le_of_ble_eq_true rfl, Nat.le_of_ble_eq_true rfl⟩ 1 0 rfl rfl rfl [1, 2, 3] [0, 4, 5] [0, 3, 4, 5, 1, 2] rfl rfl rfl (by decide) (by decide) rfl rfl (Nat.le_of_ble_eq_true rfl) ⟨Nat.le_of_ble_eq_true rfl, Nat.le_of_ble_eq_true rfl⟩ (dOk_at dX6_ofSkater 31 rfl) (fun H locs hh => ?_)
            have hv := hv.2
            refine lv_iconst (pc := 85) (v := 0) hx hb (dOk_at dX6_ofSkater 32 rfl) (by decide) ?_
            refine cl_VN (pc := 86) (w' := [(b0, .inr (6, [.ref bs, .ref x0, .ref d0, .ref r0, .ref i0, .ref c0, .ref j0, .ref e0, .int lf, .int tr])), (c0, .inr (0, [.ref c1, .ref c2, .int cnt])), (c1, .inl (G.2.1, 4, .inl ck)), (c2, .inl (G.2.1, 4, .inl cwt)), (i0, .inr (2, [.ref i1, .int hi, .int wi, .int fr, .int fc, .int lc])), (i1, .inl (G.2.1, 20, .inl str))]) (wr := [(b0, .inr (6, [.ref bs, .ref x0, .ref d0, .ref r0, .ref i0, .ref c0, .ref j0, .ref e0, .int lf, .int tr])), (c0, .inr (0, [.ref c1, .ref c2, .int cnt])), (c1, .inl (G.2.1, 4, .inl ck)), (c2, .inl (G.2.1, 4, .inl cwt))]) (rest := []) fx hh hl.1 (h_X2_bearing i0 i1 hi wi fr fc lc (s_load ck cwt a) 0 str hv.1) yV_X2_bearing nMX6_88 ⟨rfl, rfl, Nat.le_of_ble_eq_true rfl, Nat.le_of_ble_eq_true rfl⟩ 4 2 rfl rfl rfl [4, 5] [0, 1, 2, 3] [0, 1, 2, 3, 4, 5] rfl rfl rfl (by decide) (by decide) rfl rfl (Nat.le_of_ble_eq_true rfl) ⟨Nat.le_of_ble_eq_true rfl, Nat.le_of_ble_eq_true rfl⟩ (dOk_at dX6_ofSkater 33 rfl) (fun H locs hh => ?_)
            have hv := hv.2
            have e0 := hv
            subst e0
            rw [hQ]
            exact r_iret (pc := 89) fx hh (dOk_at dX6_ofSkater 34 rfl)
          · have hv := hv.2 c14_3
            refine lv_tableOut (pc := 14) (tgt := 90) hx hb (dOk_at dX6_ofSkater 8 rfl) (by have w0 := sw_ne c14_0 (b := 0) (by decide); have w1 := sw_ne c14_1 (b := 1) (by decide); have w2 := sw_ne c14_2 (b := 2) (by decide); have w3 := sw_ne c14_3 (b := 3) (by decide); omega) (by decide) ?_
            refine lv_bipush (pc := 90) (v := (-2)) hx hb (dOk_at dX6_ofSkater 35 rfl) (by decide) ?_
            have e0 := hv
            subst e0
            rw [hQ]
            exact r_iret (pc := 92) fx hh (dOk_at dX6_ofSkater 36 rfl)
  · have hv := hv.2 c8
    refine lv_iconst (pc := 11) (v := (-1)) hx hb (dOk_at dX6_ofSkater 5 rfl) (by decide) ?_
    have e0 := hv
    subst e0
    rw [hQ]
    exact r_iret (pc := 12) fx hh (dOk_at dX6_ofSkater 6 rfl)
set_option maxRecDepth 100000 in
set_option maxHeartbeats 4000000 in
theorem wk_X6_strength (l : Launch) (G : GT) (b0 : Nat) (i0 : Nat) (i1 : Nat) (bs : Nat) (x0 : Nat) (d0 : Nat) (r0 : Nat) (c0 : Nat) (j0 : Nat) (e0 : Nat) (lf : Int32) (tr : Int32) (hi : Int32) (wi : Int32) (fr : Int32) (fc : Int32) (lc : Int32) (str : Nat → Int32) (ce : Int32) (R : Int32) (h_X2_has : K_X2_has l G)
    (hv : ((s_ce hi wi ce) = 0 → (-1 : Int32) = R) ∧ (¬ (s_ce hi wi ce) = 0 → vp_in ce 20 ∧ (str ce.toNatClampNeg) = R)) :
    MF l G yX6_strength cX6_strength 2 (some .int) rm_X6_strength [.ref b0, .int ce] [(b0, .inr (6, [.ref bs, .ref x0, .ref d0, .ref r0, .ref i0, .ref c0, .ref j0, .ref e0, .int lf, .int tr])), (i0, .inr (2, [.ref i1, .int hi, .int wi, .int fr, .int fc, .int lc])), (i1, .inl (G.2.1, 20, .inl str))] (some (.int R)) [(b0, .inr (6, [.ref bs, .ref x0, .ref d0, .ref r0, .ref i0, .ref c0, .ref j0, .ref e0, .int lf, .int tr])), (i0, .inr (2, [.ref i1, .int hi, .int wi, .int fr, .int fc, .int lc])), (i1, .inl (G.2.1, 20, .inl str))] := by
  refine MF.of (by decide +kernel) (Nat.le_of_ble_eq_true rfl) ?_
  intro p e s m args below meth c A ls fx hh hl _
  have hx := fx.hx
  have hb := fx.hb
  have hl : lv_has ls 2 [(0, .ref b0), (1, .int ce)] := hl
  obtain ⟨Q, hQ⟩ : ∃ Q, Q = ZZ G A (some (.int R)) [(b0, .inr (6, [.ref bs, .ref x0, .ref d0, .ref r0, .ref i0, .ref c0, .ref j0, .ref e0, .int lf, .int tr])), (i0, .inr (2, [.ref i1, .int hi, .int wi, .int fr, .int fc, .int lc])), (i1, .inl (G.2.1, 20, .inl str))] below args s := ⟨_, rfl⟩
  rw [← hQ]
  refine lv_aload_n (pc := 0) hx hb (dOk_at dX6_strength 0 rfl) rfl (lv_at hl 0 rfl) ?_
  refine r_get (pc := 1) (ci := 6) fx hh inT6 rfl 4 (by decide) tFX6_41 rfl 0 rfl rfl (dOk_at dX6_strength 1 rfl) ?_
  refine lv_iload_n (pc := 4) hx hb (dOk_at dX6_strength 2 rfl) rfl (lv_at hl 1 rfl) ?_
  refine cl_VN (pc := 5) (w' := [(b0, .inr (6, [.ref bs, .ref x0, .ref d0, .ref r0, .ref i0, .ref c0, .ref j0, .ref e0, .int lf, .int tr])), (i0, .inr (2, [.ref i1, .int hi, .int wi, .int fr, .int fc, .int lc])), (i1, .inl (G.2.1, 20, .inl str))]) (wr := [(b0, .inr (6, [.ref bs, .ref x0, .ref d0, .ref r0, .ref i0, .ref c0, .ref j0, .ref e0, .int lf, .int tr])), (i1, .inl (G.2.1, 20, .inl str))]) (rest := []) fx hh hl.1 (h_X2_has i0 i1 hi wi fr fc lc ce) yV_X2_has nMX6_92 ⟨rfl, rfl, Nat.le_of_ble_eq_true rfl, Nat.le_of_ble_eq_true rfl⟩ 1 2 rfl rfl rfl [1] [0, 2] [0, 2, 1] rfl rfl rfl (by decide) (by decide) rfl rfl (Nat.le_of_ble_eq_true rfl) ⟨Nat.le_of_ble_eq_true rfl, Nat.le_of_ble_eq_true rfl⟩ (dOk_at dX6_strength 3 rfl) (fun H locs hh => ?_)
  refine lv_if_eq (pc := 8) (tgt := 23) hx hb (dOk_at dX6_strength 4 rfl) (by decide) (fun c8 => ?_) (fun c8 => ?_)
  · have hv := hv.1 c8
    refine lv_iconst (pc := 23) (v := (-1)) hx hb (dOk_at dX6_strength 11 rfl) (by decide) ?_
    have e0 := hv
    subst e0
    rw [hQ]
    exact r_iret (pc := 24) fx hh (dOk_at dX6_strength 12 rfl)
  · have hv := hv.2 c8
    refine lv_aload_n (pc := 11) hx hb (dOk_at dX6_strength 5 rfl) rfl (lv_at hl 0 rfl) ?_
    refine r_get (pc := 12) (ci := 6) fx hh inT6 rfl 4 (by decide) tFX6_41 rfl 0 rfl rfl (dOk_at dX6_strength 6 rfl) ?_
    refine r_getN (pc := 15) (ci := 2) fx hh inT2 rfl 0 (by decide) nFX6_93 rfl 1 rfl rfl (dOk_at dX6_strength 7 rfl) ?_
    refine lv_iload_n (pc := 18) hx hb (dOk_at dX6_strength 8 rfl) rfl (lv_at hl 1 rfl) ?_
    refine r_iald (pc := 19) fx hh 2 rfl hv.1 (dOk_at dX6_strength 9 rfl) ?_
    have hv := hv.2
    refine lv_goto (pc := 20) (tgt := 24) hx hb (dOk_at dX6_strength 10 rfl) (by decide) ?_
    have e0 := hv
    subst e0
    rw [hQ]
    exact r_iret (pc := 24) fx hh (dOk_at dX6_strength 12 rfl)
set_option maxRecDepth 100000 in
set_option maxHeartbeats 4000000 in
theorem wk_X6_freeze (l : Launch) (G : GT) (b0 : Nat) (i0 : Nat) (i1 : Nat) (bs : Nat) (x0 : Nat) (d0 : Nat) (r0 : Nat) (c0 : Nat) (j0 : Nat) (e0 : Nat) (lf : Int32) (tr : Int32) (hi : Int32) (wi : Int32) (fr : Int32) (fc : Int32) (lc : Int32) (str : Nat → Int32) (ce : Int32) (v : Int32) (R : Int32) (t2 : Nat → Int32) (h_X2_has : K_X2_has l G) (h_X6_isWithin : K_X6_isWithin l G)
    (hv : (¬ (s_ce hi wi ce) = 0 → (¬ (s_in v 0 9) = 0 → vp_in ce 20 ∧ (vp_in ce 20 ∧ ((str ce.toNatClampNeg) = R ∧ (upd str ce.toNatClampNeg v) = t2))) ∧ ((s_in v 0 9) = 0 → (-2 : Int32) = R ∧ str = t2)) ∧ ((s_ce hi wi ce) = 0 → (-1 : Int32) = R ∧ str = t2)) :
    MF l G yX6_freeze cX6_freeze 4 (some .int) rm_X6_freeze [.ref b0, .int ce, .int v] [(b0, .inr (6, [.ref bs, .ref x0, .ref d0, .ref r0, .ref i0, .ref c0, .ref j0, .ref e0, .int lf, .int tr])), (i0, .inr (2, [.ref i1, .int hi, .int wi, .int fr, .int fc, .int lc])), (i1, .inl (G.2.1, 20, .inl str))] (some (.int R)) [(b0, .inr (6, [.ref bs, .ref x0, .ref d0, .ref r0, .ref i0, .ref c0, .ref j0, .ref e0, .int lf, .int tr])), (i0, .inr (2, [.ref i1, .int hi, .int wi, .int fr, .int fc, .int lc])), (i1, .inl (G.2.1, 20, .inl t2))] := by
  refine MF.of (by decide +kernel) (Nat.le_of_ble_eq_true rfl) ?_
  intro p e s m args below meth c A ls fx hh hl _
  have hx := fx.hx
  have hb := fx.hb
  have hl : lv_has ls 4 [(0, .ref b0), (1, .int ce), (2, .int v)] := hl
  obtain ⟨Q, hQ⟩ : ∃ Q, Q = ZZ G A (some (.int R)) [(b0, .inr (6, [.ref bs, .ref x0, .ref d0, .ref r0, .ref i0, .ref c0, .ref j0, .ref e0, .int lf, .int tr])), (i0, .inr (2, [.ref i1, .int hi, .int wi, .int fr, .int fc, .int lc])), (i1, .inl (G.2.1, 20, .inl t2))] below args s := ⟨_, rfl⟩
  rw [← hQ]
  refine lv_aload_n (pc := 0) hx hb (dOk_at dX6_freeze 0 rfl) rfl (lv_at hl 0 rfl) ?_
  refine r_get (pc := 1) (ci := 6) fx hh inT6 rfl 4 (by decide) tFX6_41 rfl 0 rfl rfl (dOk_at dX6_freeze 1 rfl) ?_
  refine lv_iload_n (pc := 4) hx hb (dOk_at dX6_freeze 2 rfl) rfl (lv_at hl 1 rfl) ?_
  refine cl_VN (pc := 5) (w' := [(b0, .inr (6, [.ref bs, .ref x0, .ref d0, .ref r0, .ref i0, .ref c0, .ref j0, .ref e0, .int lf, .int tr])), (i0, .inr (2, [.ref i1, .int hi, .int wi, .int fr, .int fc, .int lc])), (i1, .inl (G.2.1, 20, .inl str))]) (wr := [(b0, .inr (6, [.ref bs, .ref x0, .ref d0, .ref r0, .ref i0, .ref c0, .ref j0, .ref e0, .int lf, .int tr])), (i1, .inl (G.2.1, 20, .inl str))]) (rest := []) fx hh hl.1 (h_X2_has i0 i1 hi wi fr fc lc ce) yV_X2_has nMX6_92 ⟨rfl, rfl, Nat.le_of_ble_eq_true rfl, Nat.le_of_ble_eq_true rfl⟩ 1 2 rfl rfl rfl [1] [0, 2] [0, 2, 1] rfl rfl rfl (by decide) (by decide) rfl rfl (Nat.le_of_ble_eq_true rfl) ⟨Nat.le_of_ble_eq_true rfl, Nat.le_of_ble_eq_true rfl⟩ (dOk_at dX6_freeze 3 rfl) (fun H locs hh => ?_)
  refine lv_if_ne (pc := 8) (tgt := 13) hx hb (dOk_at dX6_freeze 4 rfl) (by decide) (fun c8 => ?_) (fun c8 => ?_)
  · have hv := hv.1 c8
    refine lv_iload_n (pc := 13) hx hb (dOk_at dX6_freeze 7 rfl) rfl (lv_at hl 2 rfl) ?_
    refine lv_iconst (pc := 14) (v := 0) hx hb (dOk_at dX6_freeze 8 rfl) (by decide) ?_
    refine lv_bipush (pc := 15) (v := 9) hx hb (dOk_at dX6_freeze 9 rfl) (by decide) ?_
    refine cl_S (pc := 17) (w' := [(b0, .inr (6, [.ref bs, .ref x0, .ref d0, .ref r0, .ref i0, .ref c0, .ref j0, .ref e0, .int lf, .int tr])), (i0, .inr (2, [.ref i1, .int hi, .int wi, .int fr, .int fc, .int lc])), (i1, .inl (G.2.1, 20, .inl str))]) (wr := [(b0, .inr (6, [.ref bs, .ref x0, .ref d0, .ref r0, .ref i0, .ref c0, .ref j0, .ref e0, .int lf, .int tr])), (i0, .inr (2, [.ref i1, .int hi, .int wi, .int fr, .int fc, .int lc])), (i1, .inl (G.2.1, 20, .inl str))]) (rest := []) fx hh hl.1 (h_X6_isWithin v 0 9) yS_X6_isWithin tMX6_96 ⟨rfl, rfl, Nat.le_of_ble_eq_true rfl, Nat.le_of_ble_eq_true rfl⟩ [] [0, 1, 2] [0, 1, 2] rfl rfl rfl (by decide) (by decide) rfl rfl (Nat.le_of_ble_eq_true rfl) ⟨Nat.le_of_ble_eq_true rfl, Nat.le_of_ble_eq_true rfl⟩ (dOk_at dX6_freeze 10 rfl) (fun H locs hh => ?_)
    refine lv_if_ne (pc := 20) (tgt := 26) hx hb (dOk_at dX6_freeze 11 rfl) (by decide) (fun c20 => ?_) (fun c20 => ?_)
    · have hv := hv.1 c20
      refine lv_aload_n (pc := 26) hx hb (dOk_at dX6_freeze 14 rfl) rfl (lv_at hl 0 rfl) ?_
      refine r_get (pc := 27) (ci := 6) fx hh inT6 rfl 4 (by decide) tFX6_41 rfl 0 rfl rfl (dOk_at dX6_freeze 15 rfl) ?_
      refine r_getN (pc := 30) (ci := 2) fx hh inT2 rfl 0 (by decide) nFX6_93 rfl 1 rfl rfl (dOk_at dX6_freeze 16 rfl) ?_
      refine lv_iload_n (pc := 33) hx hb (dOk_at dX6_freeze 17 rfl) rfl (lv_at hl 1 rfl) ?_
      refine r_iald (pc := 34) fx hh 2 rfl hv.1 (dOk_at dX6_freeze 18 rfl) ?_
      have hv := hv.2
      refine lv_istore_n (pc := 35) (lv' := [(3, .int (str ce.toNatClampNeg)), (0, .ref b0), (1, .int ce), (2, .int v)]) hx hb (dOk_at dX6_freeze 19 rfl) rfl hl (by decide) rfl (fun ls hl => ?_)
      refine lv_aload_n (pc := 36) hx hb (dOk_at dX6_freeze 20 rfl) rfl (lv_at hl 1 rfl) ?_
      refine r_get (pc := 37) (ci := 6) fx hh inT6 rfl 4 (by decide) tFX6_41 rfl 0 rfl rfl (dOk_at dX6_freeze 21 rfl) ?_
      refine r_getN (pc := 40) (ci := 2) fx hh inT2 rfl 0 (by decide) nFX6_93 rfl 1 rfl rfl (dOk_at dX6_freeze 22 rfl) ?_
      refine lv_iload_n (pc := 43) hx hb (dOk_at dX6_freeze 23 rfl) rfl (lv_at hl 2 rfl) ?_
      refine lv_iload_n (pc := 44) hx hb (dOk_at dX6_freeze 24 rfl) rfl (lv_at hl 3 rfl) ?_
      refine r_iast (pc := 45) (w' := [(b0, .inr (6, [.ref bs, .ref x0, .ref d0, .ref r0, .ref i0, .ref c0, .ref j0, .ref e0, .int lf, .int tr])), (i0, .inr (2, [.ref i1, .int hi, .int wi, .int fr, .int fc, .int lc])), (i1, .inl (G.2.1, 20, .inl (upd str ce.toNatClampNeg v)))]) fx hh 2 rfl hv.1 rfl (dOk_at dX6_freeze 25 rfl) (fun H locs hh => ?_)
      have hv := hv.2
      refine lv_iload_n (pc := 46) hx hb (dOk_at dX6_freeze 26 rfl) rfl (lv_at hl 0 rfl) ?_
      obtain ⟨e0, e1⟩ := hv
      subst e0
      subst e1
      rw [hQ]
      exact r_iret (pc := 47) fx hh (dOk_at dX6_freeze 27 rfl)
    · have hv := hv.2 c20
      refine lv_bipush (pc := 23) (v := (-2)) hx hb (dOk_at dX6_freeze 12 rfl) (by decide) ?_
      obtain ⟨e0, e1⟩ := hv
      subst e0
      subst e1
      rw [hQ]
      exact r_iret (pc := 25) fx hh (dOk_at dX6_freeze 13 rfl)
  · have hv := hv.2 c8
    refine lv_iconst (pc := 11) (v := (-1)) hx hb (dOk_at dX6_freeze 5 rfl) (by decide) ?_
    obtain ⟨e0, e1⟩ := hv
    subst e0
    subst e1
    rw [hQ]
    exact r_iret (pc := 12) fx hh (dOk_at dX6_freeze 6 rfl)
set_option maxRecDepth 100000 in
set_option maxHeartbeats 4000000 in
theorem wk_X6_frost (l : Launch) (G : GT) (b0 : Nat) (i0 : Nat) (bs : Nat) (x0 : Nat) (d0 : Nat) (r0 : Nat) (c0 : Nat) (j0 : Nat) (e0 : Nat) (i1 : Nat) (lf : Int32) (tr : Int32) (hi : Int32) (wi : Int32) (fr : Int32) (fc : Int32) (lc : Int32) (v : Int32) (R : Int32) (t1_3 : Int32) (h_X6_refusalOfWeather : K_X6_refusalOfWeather l G)
    (hv : ((x_rw hi wi v) = 0 → fr = R ∧ v = t1_3) ∧ (¬ (x_rw hi wi v) = 0 → (x_rw hi wi v) = R ∧ fr = t1_3)) :
    MF l G yX6_frost cX6_frost 4 (some .int) rm_X6_frost [.ref b0, .int v] [(b0, .inr (6, [.ref bs, .ref x0, .ref d0, .ref r0, .ref i0, .ref c0, .ref j0, .ref e0, .int lf, .int tr])), (i0, .inr (2, [.ref i1, .int hi, .int wi, .int fr, .int fc, .int lc]))] (some (.int R)) [(b0, .inr (6, [.ref bs, .ref x0, .ref d0, .ref r0, .ref i0, .ref c0, .ref j0, .ref e0, .int lf, .int tr])), (i0, .inr (2, [.ref i1, .int hi, .int wi, .int t1_3, .int fc, .int lc]))] := by
  refine MF.of (by decide +kernel) (Nat.le_of_ble_eq_true rfl) ?_
  intro p e s m args below meth c A ls fx hh hl _
  have hx := fx.hx
  have hb := fx.hb
  have hl : lv_has ls 4 [(0, .ref b0), (1, .int v)] := hl
  obtain ⟨Q, hQ⟩ : ∃ Q, Q = ZZ G A (some (.int R)) [(b0, .inr (6, [.ref bs, .ref x0, .ref d0, .ref r0, .ref i0, .ref c0, .ref j0, .ref e0, .int lf, .int tr])), (i0, .inr (2, [.ref i1, .int hi, .int wi, .int t1_3, .int fc, .int lc]))] below args s := ⟨_, rfl⟩
  rw [← hQ]
  refine lv_aload_n (pc := 0) hx hb (dOk_at dX6_frost 0 rfl) rfl (lv_at hl 0 rfl) ?_
  refine lv_iload_n (pc := 1) hx hb (dOk_at dX6_frost 1 rfl) rfl (lv_at hl 1 rfl) ?_
  refine cl_V (pc := 2) (w' := [(b0, .inr (6, [.ref bs, .ref x0, .ref d0, .ref r0, .ref i0, .ref c0, .ref j0, .ref e0, .int lf, .int tr])), (i0, .inr (2, [.ref i1, .int hi, .int wi, .int fr, .int fc, .int lc]))]) (wr := []) (rest := []) fx hh hl.1 (h_X6_refusalOfWeather b0 i0 bs x0 d0 r0 c0 j0 e0 i1 lf tr hi wi fr fc lc v) yV_X6_refusalOfWeather tMX6_100 ⟨rfl, rfl, Nat.le_of_ble_eq_true rfl, Nat.le_of_ble_eq_true rfl⟩ 0 6 rfl rfl rfl [0, 1] [] [0, 1] rfl rfl rfl (by decide) (by decide) rfl rfl (Nat.le_of_ble_eq_true rfl) ⟨Nat.le_of_ble_eq_true rfl, Nat.le_of_ble_eq_true rfl⟩ (dOk_at dX6_frost 2 rfl) (fun H locs hh => ?_)
  refine lv_istore_n (pc := 5) (lv' := [(2, .int (x_rw hi wi v)), (0, .ref b0), (1, .int v)]) hx hb (dOk_at dX6_frost 3 rfl) rfl hl (by decide) rfl (fun ls hl => ?_)
  refine lv_iload_n (pc := 6) hx hb (dOk_at dX6_frost 4 rfl) rfl (lv_at hl 0 rfl) ?_
  refine lv_if_eq (pc := 7) (tgt := 12) hx hb (dOk_at dX6_frost 5 rfl) (by decide) (fun c7 => ?_) (fun c7 => ?_)
  · have hv := hv.1 c7
    refine lv_aload_n (pc := 12) hx hb (dOk_at dX6_frost 8 rfl) rfl (lv_at hl 1 rfl) ?_
    refine r_get (pc := 13) (ci := 6) fx hh inT6 rfl 4 (by decide) tFX6_41 rfl 0 rfl rfl (dOk_at dX6_frost 9 rfl) ?_
    refine r_getN (pc := 16) (ci := 2) fx hh inT2 rfl 3 (by decide) nFX6_103 rfl 1 rfl rfl (dOk_at dX6_frost 10 rfl) ?_
    refine lv_istore_n (pc := 19) (lv' := [(3, .int fr), (2, .int (x_rw hi wi v)), (0, .ref b0), (1, .int v)]) hx hb (dOk_at dX6_frost 11 rfl) rfl hl (by decide) rfl (fun ls hl => ?_)
    refine lv_aload_n (pc := 20) hx hb (dOk_at dX6_frost 12 rfl) rfl (lv_at hl 2 rfl) ?_
    refine r_get (pc := 21) (ci := 6) fx hh inT6 rfl 4 (by decide) tFX6_41 rfl 0 rfl rfl (dOk_at dX6_frost 13 rfl) ?_
    refine lv_iload_n (pc := 24) hx hb (dOk_at dX6_frost 14 rfl) rfl (lv_at hl 3 rfl) ?_
    refine r_putN (pc := 25) (ci := 2) (w' := [(b0, .inr (6, [.ref bs, .ref x0, .ref d0, .ref r0, .ref i0, .ref c0, .ref j0, .ref e0, .int lf, .int tr])), (i0, .inr (2, [.ref i1, .int hi, .int wi, .int v, .int fc, .int lc]))]) fx hh inT2 tyX2 tyX2_ok nmX2 rfl 3 (by decide) nFX6_103 rfl rfl 1 rfl rfl rfl (Nat.le_of_ble_eq_true rfl) rfl (dOk_at dX6_frost 15 rfl) (fun H locs hh => ?_)
    refine lv_iload_n (pc := 28) hx hb (dOk_at dX6_frost 16 rfl) rfl (lv_at hl 0 rfl) ?_
    obtain ⟨e0, e1⟩ := hv
    subst e0
    subst e1
    rw [hQ]
    exact r_iret (pc := 29) fx hh (dOk_at dX6_frost 17 rfl)
  · have hv := hv.2 c7
    refine lv_iload_n (pc := 10) hx hb (dOk_at dX6_frost 6 rfl) rfl (lv_at hl 0 rfl) ?_
    obtain ⟨e0, e1⟩ := hv
    subst e0
    subst e1
    rw [hQ]
    exact r_iret (pc := 11) fx hh (dOk_at dX6_frost 7 rfl)
set_option maxRecDepth 100000 in
set_option maxHeartbeats 4000000 in
theorem wk_X6_deed (l : Launch) (G : GT) (b0 : Nat) (bs : Nat) (s0 : Nat) (s1 : Nat) (d0 : Nat) (d1 : Nat) (i0 : Nat) (i1 : Nat) (c0 : Nat) (c1 : Nat) (c2 : Nat) (x0 : Nat) (r0 : Nat) (j0 : Nat) (e0 : Nat) (lf : Int32) (tr : Int32) (sla : Int32) (sle : Int32) (dat : Int32) (dcut : Int32) (dfw : Int32) (hi : Int32) (wi : Int32) (fr : Int32) (fc : Int32) (lc : Int32) (cnt : Int32) (sn : Nat → Int32) (dstr : Nat → Int32) (str : Nat → Int32) (ck : Nat → Int32) (cwt : Nat → Int32) (sh : Nat → Option Nat) (a : Int32) (b : Int32) (ce : Int32) (sheet : Int32) (lane : Int32) (i : Int32) (n : Int32) (what : Int32) (R : Int32) (t0_8 : Int32) (h_X6_isDeedKnown : K_X6_isDeedKnown l G) (h_X6_isWithin : K_X6_isWithin l G) (h_X6_keepFault : K_X6_keepFault l G) (h_X6_ofTrial : K_X6_ofTrial l G) (h_X6_tryDeed : K_X6_tryDeed l G)
    (hv : (¬ (s_in what 0 4) = 0 → s_shAt sh sheet = some s0 ∧ (s_in sheet 0 3 = 0 ∨ vp_in sheet 4) ∧ okD hi wi ∧ okN cnt ∧ ¬ 60 < sle ∧ (x_dK hi wi cnt a b ce → okTrial hi wi fc lc ck cwt sn (s_cp20 str dstr) a b ce i n sle) ∧ (∀ (z45_0 : Int32) (z45_1 : Int32) (z45_2 : Int32) (z45_3 : Nat → Int32) (z45_r : Int32), z45_0 = (if x_tdR hi wi cnt sla sle sn a b ce lane i n = 0 then (x_tr hi wi fc lc ck cwt sn str dstr a b ce i n).1 else dat) → z45_1 = (if x_tdR hi wi cnt sla sle sn a b ce lane i n = 0 then (x_tr hi wi fc lc ck cwt sn str dstr a b ce i n).2.1 else dcut) → z45_2 = (if x_tdR hi wi cnt sla sle sn a b ce lane i n = 0 then (x_tr hi wi fc lc ck cwt sn str dstr a b ce i n).2.2.1 else dfw) → z45_3 = (if x_tdR hi wi cnt sla sle sn a b ce lane i n = 0 then (x_tr hi wi fc lc ck cwt sn str dstr a b ce i n).2.2.2 else dstr) → z45_r = (x_tdR hi wi cnt sla sle sn a b ce lane i n) → ((¬ z45_r = 0 → True) ∧ (z45_r = 0 → vp_in z45_0 20)) ∧ (∀ (v69 : Int32), v69 = (if z45_r = 0 then x_ofT (z45_0, z45_1, z45_2, z45_3) n what else z45_r) → v69 = R ∧ (x_kf v69) = t0_8))) ∧ ((s_in what 0 4) = 0 → s_shAt sh sheet = some s0 ∧ (s_in sheet 0 3 = 0 ∨ vp_in sheet 4) ∧ ((∀ (v29 : Int32), v29 = (if (x_dKn hi wi cnt a b ce) = 0 then (-1 : Int32) else (-2 : Int32)) → v29 = R ∧ (x_kf v29) = t0_8)))) :
    MFJ l G yX6_deed cX6_deed 10 (some .int) rm_X6_deed [.ref b0, .int a, .int b, .int ce, .int sheet, .int lane, .int i, .int n, .int what] [(b0, .inr (6, [.ref bs, .ref x0, .ref d0, .ref r0, .ref i0, .ref c0, .ref j0, .ref e0, .int lf, .int tr])), (bs, .inl (G.2.2.2, 4, .inr (.inr (.inr (.inr sh))))), (s0, .inr (4, [.ref s1, .int sla, .int sle])), (s1, .inl (G.2.1, 60, .inl sn)), (d0, .inr (1, [.ref d1, .int dat, .int dcut, .int dfw])), (d1, .inl (G.2.1, 20, .inl dstr)), (i0, .inr (2, [.ref i1, .int hi, .int wi, .int fr, .int fc, .int lc])), (i1, .inl (G.2.1, 20, .inl str)), (c0, .inr (0, [.ref c1, .ref c2, .int cnt])), (c1, .inl (G.2.1, 4, .inl ck)), (c2, .inl (G.2.1, 4, .inl cwt))] (some (.int R)) (fun jj : Int32 × Int32 × Int32 × (Nat → Int32) => [(b0, .inr (6, [.ref bs, .ref x0, .ref d0, .ref r0, .ref i0, .ref c0, .ref j0, .ref e0, .int t0_8, .int tr])), (bs, .inl (G.2.2.2, 4, .inr (.inr (.inr (.inr sh))))), (s0, .inr (4, [.ref s1, .int sla, .int sle])), (s1, .inl (G.2.1, 60, .inl sn)), (d0, .inr (1, [.ref d1, .int jj.1, .int jj.2.1, .int jj.2.2.1])), (d1, .inl (G.2.1, 20, .inl jj.2.2.2)), (i0, .inr (2, [.ref i1, .int hi, .int wi, .int fr, .int fc, .int lc])), (i1, .inl (G.2.1, 20, .inl str)), (c0, .inr (0, [.ref c1, .ref c2, .int cnt])), (c1, .inl (G.2.1, 4, .inl ck)), (c2, .inl (G.2.1, 4, .inl cwt))]) := by
  refine MFJ.of (by decide +kernel) (Nat.le_of_ble_eq_true rfl) ?_
  intro p e s m args below meth c A ls fx hh hl _
  have hx := fx.hx
  have hb := fx.hb
  have hl : lv_has ls 10 [(0, .ref b0), (1, .int a), (2, .int b), (3, .int ce), (4, .int sheet), (5, .int lane), (6, .int i), (7, .int n), (8, .int what)] := hl
  obtain ⟨Q, hQ⟩ : ∃ Q, Q = ZJ G A (some (.int R)) (fun jj : Int32 × Int32 × Int32 × (Nat → Int32) => [(b0, .inr (6, [.ref bs, .ref x0, .ref d0, .ref r0, .ref i0, .ref c0, .ref j0, .ref e0, .int t0_8, .int tr])), (bs, .inl (G.2.2.2, 4, .inr (.inr (.inr (.inr sh))))), (s0, .inr (4, [.ref s1, .int sla, .int sle])), (s1, .inl (G.2.1, 60, .inl sn)), (d0, .inr (1, [.ref d1, .int jj.1, .int jj.2.1, .int jj.2.2.1])), (d1, .inl (G.2.1, 20, .inl jj.2.2.2)), (i0, .inr (2, [.ref i1, .int hi, .int wi, .int fr, .int fc, .int lc])), (i1, .inl (G.2.1, 20, .inl str)), (c0, .inr (0, [.ref c1, .ref c2, .int cnt])), (c1, .inl (G.2.1, 4, .inl ck)), (c2, .inl (G.2.1, 4, .inl cwt))]) below args s := ⟨_, rfl⟩
  rw [← hQ]
  refine lv_iload (pc := 0) hx hb (dOk_at dX6_deed 0 rfl) (lv_at hl 8 rfl) ?_
  refine lv_iconst (pc := 2) (v := 0) hx hb (dOk_at dX6_deed 1 rfl) (by decide) ?_
  refine lv_iconst (pc := 3) (v := 4) hx hb (dOk_at dX6_deed 2 rfl) (by decide) ?_
  refine cl_S (pc := 4) (w' := [(b0, .inr (6, [.ref bs, .ref x0, .ref d0, .ref r0, .ref i0, .ref c0, .ref j0, .ref e0, .int lf, .int tr])), (bs, .inl (G.2.2.2, 4, .inr (.inr (.inr (.inr sh))))), (s0, .inr (4, [.ref s1, .int sla, .int sle])), (s1, .inl (G.2.1, 60, .inl sn)), (d0, .inr (1, [.ref d1, .int dat, .int dcut, .int dfw])), (d1, .inl (G.2.1, 20, .inl dstr)), (i0, .inr (2, [.ref i1, .int hi, .int wi, .int fr, .int fc, .int lc])), (i1, .inl (G.2.1, 20, .inl str)), (c0, .inr (0, [.ref c1, .ref c2, .int cnt])), (c1, .inl (G.2.1, 4, .inl ck)), (c2, .inl (G.2.1, 4, .inl cwt))]) (wr := [(b0, .inr (6, [.ref bs, .ref x0, .ref d0, .ref r0, .ref i0, .ref c0, .ref j0, .ref e0, .int lf, .int tr])), (bs, .inl (G.2.2.2, 4, .inr (.inr (.inr (.inr sh))))), (s0, .inr (4, [.ref s1, .int sla, .int sle])), (s1, .inl (G.2.1, 60, .inl sn)), (d0, .inr (1, [.ref d1, .int dat, .int dcut, .int dfw])), (d1, .inl (G.2.1, 20, .inl dstr)), (i0, .inr (2, [.ref i1, .int hi, .int wi, .int fr, .int fc, .int lc])), (i1, .inl (G.2.1, 20, .inl str)), (c0, .inr (0, [.ref c1, .ref c2, .int cnt])), (c1, .inl (G.2.1, 4, .inl ck)), (c2, .inl (G.2.1, 4, .inl cwt))]) (rest := []) fx hh hl.1 (h_X6_isWithin what 0 4) yS_X6_isWithin tMX6_96 ⟨rfl, rfl, Nat.le_of_ble_eq_true rfl, Nat.le_of_ble_eq_true rfl⟩ [] [0, 1, 2, 3, 4, 5, 6, 7, 8, 9, 10] [0, 1, 2, 3, 4, 5, 6, 7, 8, 9, 10] rfl rfl rfl (by decide) (by decide) rfl rfl (Nat.le_of_ble_eq_true rfl) ⟨Nat.le_of_ble_eq_true rfl, Nat.le_of_ble_eq_true rfl⟩ (dOk_at dX6_deed 3 rfl) (fun H locs hh => ?_)
  refine lv_if_ne (pc := 7) (tgt := 33) hx hb (dOk_at dX6_deed 4 rfl) (by decide) (fun c7 => ?_) (fun c7 => ?_)
  · have hv := hv.1 c7
    refine lv_aload_n (pc := 33) hx hb (dOk_at dX6_deed 18 rfl) rfl (lv_at hl 0 rfl) ?_
    refine lv_iload_n (pc := 34) hx hb (dOk_at dX6_deed 19 rfl) rfl (lv_at hl 1 rfl) ?_
    refine lv_iload_n (pc := 35) hx hb (dOk_at dX6_deed 20 rfl) rfl (lv_at hl 2 rfl) ?_
    refine lv_iload_n (pc := 36) hx hb (dOk_at dX6_deed 21 rfl) rfl (lv_at hl 3 rfl) ?_
    refine lv_iload (pc := 37) hx hb (dOk_at dX6_deed 22 rfl) (lv_at hl 4 rfl) ?_
    refine lv_iload (pc := 39) hx hb (dOk_at dX6_deed 23 rfl) (lv_at hl 5 rfl) ?_
    refine lv_iload (pc := 41) hx hb (dOk_at dX6_deed 24 rfl) (lv_at hl 6 rfl) ?_
    refine lv_iload (pc := 43) hx hb (dOk_at dX6_deed 25 rfl) (lv_at hl 7 rfl) ?_
    have key45 : ∀ (z45_0 : Int32) (z45_1 : Int32) (z45_2 : Int32) (z45_3 : Nat → Int32) (z45_r : Int32), z45_0 = (if x_tdR hi wi cnt sla sle sn a b ce lane i n = 0 then (x_tr hi wi fc lc ck cwt sn str dstr a b ce i n).1 else dat) → z45_1 = (if x_tdR hi wi cnt sla sle sn a b ce lane i n = 0 then (x_tr hi wi fc lc ck cwt sn str dstr a b ce i n).2.1 else dcut) → z45_2 = (if x_tdR hi wi cnt sla sle sn a b ce lane i n = 0 then (x_tr hi wi fc lc ck cwt sn str dstr a b ce i n).2.2.1 else dfw) → z45_3 = (if x_tdR hi wi cnt sla sle sn a b ce lane i n = 0 then (x_tr hi wi fc lc ck cwt sn str dstr a b ce i n).2.2.2 else dstr) → z45_r = (x_tdR hi wi cnt sla sle sn a b ce lane i n) → MF l G yX6_tryDeed cX6_tryDeed 11 (some .int) rm_X6_tryDeed [.ref b0, .int a, .int b, .int ce, .int sheet, .int lane, .int i, .int n] [(b0, .inr (6, [.ref bs, .ref x0, .ref d0, .ref r0, .ref i0, .ref c0, .ref j0, .ref e0, .int lf, .int tr])), (bs, .inl (G.2.2.2, 4, .inr (.inr (.inr (.inr sh))))), (s0, .inr (4, [.ref s1, .int sla, .int sle])), (s1, .inl (G.2.1, 60, .inl sn)), (d0, .inr (1, [.ref d1, .int dat, .int dcut, .int dfw])), (d1, .inl (G.2.1, 20, .inl dstr)), (i0, .inr (2, [.ref i1, .int hi, .int wi, .int fr, .int fc, .int lc])), (i1, .inl (G.2.1, 20, .inl str)), (c0, .inr (0, [.ref c1, .ref c2, .int cnt])), (c1, .inl (G.2.1, 4, .inl ck)), (c2, .inl (G.2.1, 4, .inl cwt))] (some (.int z45_r)) [(b0, .inr (6, [.ref bs, .ref x0, .ref d0, .ref r0, .ref i0, .ref c0, .ref j0, .ref e0, .int lf, .int tr])), (bs, .inl (G.2.2.2, 4, .inr (.inr (.inr (.inr sh))))), (s0, .inr (4, [.ref s1, .int sla, .int sle])), (s1, .inl (G.2.1, 60, .inl sn)), (d0, .inr (1, [.ref d1, .int z45_0, .int z45_1, .int z45_2])), (d1, .inl (G.2.1, 20, .inl z45_3)), (i0, .inr (2, [.ref i1, .int hi, .int wi, .int fr, .int fc, .int lc])), (i1, .inl (G.2.1, 20, .inl str)), (c0, .inr (0, [.ref c1, .ref c2, .int cnt])), (c1, .inl (G.2.1, 4, .inl ck)), (c2, .inl (G.2.1, 4, .inl cwt))] := by
      intro z45_0 z45_1 z45_2 z45_3 z45_r hz45_0 hz45_1 hz45_2 hz45_3 hz45_r
      subst hz45_0
      subst hz45_1
      subst hz45_2
      subst hz45_3
      subst hz45_r
      exact (h_X6_tryDeed b0 bs s0 s1 d0 d1 i0 i1 c0 c1 c2 x0 r0 j0 e0 lf tr sla sle dat dcut dfw hi wi fr fc lc cnt sn dstr str ck cwt sh a b ce sheet lane i n hv.1 hv.2.1 hv.2.2.1 hv.2.2.2.1 hv.2.2.2.2.1 hv.2.2.2.2.2.1)
    obtain ⟨z45_0, hz45_0⟩ : ∃ z : Int32, z = (if x_tdR hi wi cnt sla sle sn a b ce lane i n = 0 then (x_tr hi wi fc lc ck cwt sn str dstr a b ce i n).1 else dat) := ⟨_, rfl⟩
    obtain ⟨z45_1, hz45_1⟩ : ∃ z : Int32, z = (if x_tdR hi wi cnt sla sle sn a b ce lane i n = 0 then (x_tr hi wi fc lc ck cwt sn str dstr a b ce i n).2.1 else dcut) := ⟨_, rfl⟩
    obtain ⟨z45_2, hz45_2⟩ : ∃ z : Int32, z = (if x_tdR hi wi cnt sla sle sn a b ce lane i n = 0 then (x_tr hi wi fc lc ck cwt sn str dstr a b ce i n).2.2.1 else dfw) := ⟨_, rfl⟩
    obtain ⟨z45_3, hz45_3⟩ : ∃ z : Nat → Int32, z = (if x_tdR hi wi cnt sla sle sn a b ce lane i n = 0 then (x_tr hi wi fc lc ck cwt sn str dstr a b ce i n).2.2.2 else dstr) := ⟨_, rfl⟩
    obtain ⟨z45_r, hz45_r⟩ : ∃ z : Int32, z = (x_tdR hi wi cnt sla sle sn a b ce lane i n) := ⟨_, rfl⟩
    refine cl_V (pc := 45) (w' := [(b0, .inr (6, [.ref bs, .ref x0, .ref d0, .ref r0, .ref i0, .ref c0, .ref j0, .ref e0, .int lf, .int tr])), (bs, .inl (G.2.2.2, 4, .inr (.inr (.inr (.inr sh))))), (s0, .inr (4, [.ref s1, .int sla, .int sle])), (s1, .inl (G.2.1, 60, .inl sn)), (d0, .inr (1, [.ref d1, .int z45_0, .int z45_1, .int z45_2])), (d1, .inl (G.2.1, 20, .inl z45_3)), (i0, .inr (2, [.ref i1, .int hi, .int wi, .int fr, .int fc, .int lc])), (i1, .inl (G.2.1, 20, .inl str)), (c0, .inr (0, [.ref c1, .ref c2, .int cnt])), (c1, .inl (G.2.1, 4, .inl ck)), (c2, .inl (G.2.1, 4, .inl cwt))]) (wr := []) (rest := []) fx hh hl.1 (key45 z45_0 z45_1 z45_2 z45_3 z45_r hz45_0 hz45_1 hz45_2 hz45_3 hz45_r) yV_X6_tryDeed tMX6_110 ⟨rfl, rfl, Nat.le_of_ble_eq_true rfl, Nat.le_of_ble_eq_true rfl⟩ 0 6 rfl rfl rfl [0, 1, 2, 3, 4, 5, 6, 7, 8, 9, 10] [] [0, 1, 2, 3, 4, 5, 6, 7, 8, 9, 10] rfl rfl rfl (by decide) (by decide) rfl rfl (Nat.le_of_ble_eq_true rfl) ⟨Nat.le_of_ble_eq_true rfl, Nat.le_of_ble_eq_true rfl⟩ (dOk_at dX6_deed 26 rfl) (fun H locs hh => ?_)
    have hv := hv.2.2.2.2.2.2 z45_0 z45_1 z45_2 z45_3 z45_r hz45_0 hz45_1 hz45_2 hz45_3 hz45_r
    refine lv_istore (pc := 48) (lv' := [(9, .int z45_r), (0, .ref b0), (1, .int a), (2, .int b), (3, .int ce), (4, .int sheet), (5, .int lane), (6, .int i), (7, .int n), (8, .int what)]) hx hb (dOk_at dX6_deed 27 rfl) hl (by decide) rfl (fun ls hl => ?_)
    refine lv_aload_n (pc := 50) hx hb (dOk_at dX6_deed 28 rfl) rfl (lv_at hl 1 rfl) ?_
    refine lv_iload (pc := 51) hx hb (dOk_at dX6_deed 29 rfl) (lv_at hl 0 rfl) ?_
    have k69_53 : ∀ (v69 : Int32), v69 = (if z45_r = 0 then x_ofT (z45_0, z45_1, z45_2, z45_3) n what else z45_r) → ∀ (H : Heap) (locs : List Loc) (ls : Array Slot), HP G A [(b0, .inr (6, [.ref bs, .ref x0, .ref d0, .ref r0, .ref i0, .ref c0, .ref j0, .ref e0, .int lf, .int tr])), (bs, .inl (G.2.2.2, 4, .inr (.inr (.inr (.inr sh))))), (s0, .inr (4, [.ref s1, .int sla, .int sle])), (s1, .inl (G.2.1, 60, .inl sn)), (d0, .inr (1, [.ref d1, .int z45_0, .int z45_1, .int z45_2])), (d1, .inl (G.2.1, 20, .inl z45_3)), (i0, .inr (2, [.ref i1, .int hi, .int wi, .int fr, .int fc, .int lc])), (i1, .inl (G.2.1, 20, .inl str)), (c0, .inr (0, [.ref c1, .ref c2, .int cnt])), (c1, .inl (G.2.1, 4, .inl ck)), (c2, .inl (G.2.1, 4, .inl cwt))] s H locs → lv_has ls 10 [] → W p l e rm_X6_deed s m args below meth c H locs 0 0 Q (F0 m 69 ls [.int v69, .ref b0]) := by
      intro v69 e69_0 H locs ls hh hl
      have hv := hv.2 v69 e69_0
      refine cl_V (pc := 69) (w' := [(b0, .inr (6, [.ref bs, .ref x0, .ref d0, .ref r0, .ref i0, .ref c0, .ref j0, .ref e0, .int (x_kf v69), .int tr])), (bs, .inl (G.2.2.2, 4, .inr (.inr (.inr (.inr sh))))), (s0, .inr (4, [.ref s1, .int sla, .int sle])), (s1, .inl (G.2.1, 60, .inl sn)), (d0, .inr (1, [.ref d1, .int z45_0, .int z45_1, .int z45_2])), (d1, .inl (G.2.1, 20, .inl z45_3)), (i0, .inr (2, [.ref i1, .int hi, .int wi, .int fr, .int fc, .int lc])), (i1, .inl (G.2.1, 20, .inl str)), (c0, .inr (0, [.ref c1, .ref c2, .int cnt])), (c1, .inl (G.2.1, 4, .inl ck)), (c2, .inl (G.2.1, 4, .inl cwt))]) (wr := [(bs, .inl (G.2.2.2, 4, .inr (.inr (.inr (.inr sh))))), (s0, .inr (4, [.ref s1, .int sla, .int sle])), (s1, .inl (G.2.1, 60, .inl sn)), (d0, .inr (1, [.ref d1, .int z45_0, .int z45_1, .int z45_2])), (d1, .inl (G.2.1, 20, .inl z45_3)), (i0, .inr (2, [.ref i1, .int hi, .int wi, .int fr, .int fc, .int lc])), (i1, .inl (G.2.1, 20, .inl str)), (c0, .inr (0, [.ref c1, .ref c2, .int cnt])), (c1, .inl (G.2.1, 4, .inl ck)), (c2, .inl (G.2.1, 4, .inl cwt))]) (rest := []) fx hh hl.1 (h_X6_keepFault b0 bs x0 d0 r0 i0 c0 j0 e0 lf tr v69) yV_X6_keepFault tMX6_70 ⟨rfl, rfl, Nat.le_of_ble_eq_true rfl, Nat.le_of_ble_eq_true rfl⟩ 0 6 rfl rfl rfl [0] [1, 2, 3, 4, 5, 6, 7, 8, 9, 10] [10, 0, 1, 2, 3, 4, 5, 6, 7, 8, 9] rfl rfl rfl (by decide) (by decide) rfl rfl (Nat.le_of_ble_eq_true rfl) ⟨Nat.le_of_ble_eq_true rfl, Nat.le_of_ble_eq_true rfl⟩ (dOk_at dX6_deed 37 rfl) (fun H locs hh => ?_)
      obtain ⟨e0, e1⟩ := hv
      subst e0
      subst e1
      rw [hQ]
      exact r_iretJ (pc := 72) (z45_0, z45_1, z45_2, z45_3) fx hh (dOk_at dX6_deed 38 rfl)
    have hv := hv.1
    refine lv_if_ne (pc := 53) (tgt := 67) hx hb (dOk_at dX6_deed 30 rfl) (by decide) (fun c53 => ?_) (fun c53 => ?_)
    · have hv := hv.1 c53
      refine lv_iload (pc := 67) hx hb (dOk_at dX6_deed 36 rfl) (lv_at hl 0 rfl) ?_
      exact k69_53 _ (if_neg c53).symm _ _ _ hh (lv_sub hl [] rfl)
    · have hv := hv.2 c53
      refine lv_aload_n (pc := 56) hx hb (dOk_at dX6_deed 31 rfl) rfl (lv_at hl 1 rfl) ?_
      refine lv_iload (pc := 57) hx hb (dOk_at dX6_deed 32 rfl) (lv_at hl 8 rfl) ?_
      refine lv_iload (pc := 59) hx hb (dOk_at dX6_deed 33 rfl) (lv_at hl 9 rfl) ?_
      refine cl_V (pc := 61) (w' := [(b0, .inr (6, [.ref bs, .ref x0, .ref d0, .ref r0, .ref i0, .ref c0, .ref j0, .ref e0, .int lf, .int tr])), (bs, .inl (G.2.2.2, 4, .inr (.inr (.inr (.inr sh))))), (s0, .inr (4, [.ref s1, .int sla, .int sle])), (s1, .inl (G.2.1, 60, .inl sn)), (d0, .inr (1, [.ref d1, .int z45_0, .int z45_1, .int z45_2])), (d1, .inl (G.2.1, 20, .inl z45_3)), (i0, .inr (2, [.ref i1, .int hi, .int wi, .int fr, .int fc, .int lc])), (i1, .inl (G.2.1, 20, .inl str)), (c0, .inr (0, [.ref c1, .ref c2, .int cnt])), (c1, .inl (G.2.1, 4, .inl ck)), (c2, .inl (G.2.1, 4, .inl cwt))]) (wr := [(bs, .inl (G.2.2.2, 4, .inr (.inr (.inr (.inr sh))))), (s0, .inr (4, [.ref s1, .int sla, .int sle])), (s1, .inl (G.2.1, 60, .inl sn)), (i0, .inr (2, [.ref i1, .int hi, .int wi, .int fr, .int fc, .int lc])), (i1, .inl (G.2.1, 20, .inl str)), (c0, .inr (0, [.ref c1, .ref c2, .int cnt])), (c1, .inl (G.2.1, 4, .inl ck)), (c2, .inl (G.2.1, 4, .inl cwt))]) (rest := [.ref b0]) fx hh hl.1 (h_X6_ofTrial b0 d0 d1 bs x0 r0 i0 c0 j0 e0 lf tr z45_0 z45_1 z45_2 z45_3 n what hv) yV_X6_ofTrial tMX6_114 ⟨rfl, rfl, Nat.le_of_ble_eq_true rfl, Nat.le_of_ble_eq_true rfl⟩ 0 6 rfl rfl rfl [0, 4, 5] [1, 2, 3, 6, 7, 8, 9, 10] [8, 0, 1, 2, 9, 10, 3, 4, 5, 6, 7] rfl rfl rfl (by decide) (by decide) rfl rfl (Nat.le_of_ble_eq_true rfl) ⟨Nat.le_of_ble_eq_true rfl, Nat.le_of_ble_eq_true rfl⟩ (dOk_at dX6_deed 34 rfl) (fun H locs hh => ?_)
      refine lv_goto (pc := 64) (tgt := 69) hx hb (dOk_at dX6_deed 35 rfl) (by decide) ?_
      exact k69_53 _ (if_pos c53).symm _ _ _ hh (lv_sub hl [] rfl)
  · have hv := hv.2 c7
    refine lv_aload_n (pc := 10) hx hb (dOk_at dX6_deed 5 rfl) rfl (lv_at hl 0 rfl) ?_
    refine lv_aload_n (pc := 11) hx hb (dOk_at dX6_deed 6 rfl) rfl (lv_at hl 0 rfl) ?_
    refine lv_iload_n (pc := 12) hx hb (dOk_at dX6_deed 7 rfl) rfl (lv_at hl 1 rfl) ?_
    refine lv_iload_n (pc := 13) hx hb (dOk_at dX6_deed 8 rfl) rfl (lv_at hl 2 rfl) ?_
    refine lv_iload_n (pc := 14) hx hb (dOk_at dX6_deed 9 rfl) rfl (lv_at hl 3 rfl) ?_
    refine lv_iload (pc := 15) hx hb (dOk_at dX6_deed 10 rfl) (lv_at hl 4 rfl) ?_
    refine cl_V (pc := 17) (w' := [(b0, .inr (6, [.ref bs, .ref x0, .ref d0, .ref r0, .ref i0, .ref c0, .ref j0, .ref e0, .int lf, .int tr])), (bs, .inl (G.2.2.2, 4, .inr (.inr (.inr (.inr sh))))), (s0, .inr (4, [.ref s1, .int sla, .int sle])), (s1, .inl (G.2.1, 60, .inl sn)), (d0, .inr (1, [.ref d1, .int dat, .int dcut, .int dfw])), (d1, .inl (G.2.1, 20, .inl dstr)), (i0, .inr (2, [.ref i1, .int hi, .int wi, .int fr, .int fc, .int lc])), (i1, .inl (G.2.1, 20, .inl str)), (c0, .inr (0, [.ref c1, .ref c2, .int cnt])), (c1, .inl (G.2.1, 4, .inl ck)), (c2, .inl (G.2.1, 4, .inl cwt))]) (wr := [(s0, .inr (4, [.ref s1, .int sla, .int sle])), (s1, .inl (G.2.1, 60, .inl sn)), (d0, .inr (1, [.ref d1, .int dat, .int dcut, .int dfw])), (d1, .inl (G.2.1, 20, .inl dstr)), (i1, .inl (G.2.1, 20, .inl str)), (c1, .inl (G.2.1, 4, .inl ck)), (c2, .inl (G.2.1, 4, .inl cwt))]) (rest := [.ref b0]) fx hh hl.1 (h_X6_isDeedKnown b0 bs c0 i0 x0 d0 r0 j0 e0 c1 c2 i1 lf tr cnt hi wi fr fc lc sh a b ce sheet s0 hv.1 hv.2.1) yV_X6_isDeedKnown tMX6_106 ⟨rfl, rfl, Nat.le_of_ble_eq_true rfl, Nat.le_of_ble_eq_true rfl⟩ 0 6 rfl rfl rfl [0, 1, 8, 6] [2, 3, 4, 5, 7, 9, 10] [7, 8, 0, 1, 2, 3, 10, 4, 9, 5, 6] rfl rfl rfl (by decide) (by decide) rfl rfl (Nat.le_of_ble_eq_true rfl) ⟨Nat.le_of_ble_eq_true rfl, Nat.le_of_ble_eq_true rfl⟩ (dOk_at dX6_deed 11 rfl) (fun H locs hh => ?_)
    have hv := hv.2.2
    have k29_20 : ∀ (v29 : Int32), v29 = (if (x_dKn hi wi cnt a b ce) = 0 then (-1 : Int32) else (-2 : Int32)) → ∀ (H : Heap) (locs : List Loc) (ls : Array Slot), HP G A [(b0, .inr (6, [.ref bs, .ref x0, .ref d0, .ref r0, .ref i0, .ref c0, .ref j0, .ref e0, .int lf, .int tr])), (bs, .inl (G.2.2.2, 4, .inr (.inr (.inr (.inr sh))))), (s0, .inr (4, [.ref s1, .int sla, .int sle])), (s1, .inl (G.2.1, 60, .inl sn)), (d0, .inr (1, [.ref d1, .int dat, .int dcut, .int dfw])), (d1, .inl (G.2.1, 20, .inl dstr)), (i0, .inr (2, [.ref i1, .int hi, .int wi, .int fr, .int fc, .int lc])), (i1, .inl (G.2.1, 20, .inl str)), (c0, .inr (0, [.ref c1, .ref c2, .int cnt])), (c1, .inl (G.2.1, 4, .inl ck)), (c2, .inl (G.2.1, 4, .inl cwt))] s H locs → lv_has ls 10 [] → W p l e rm_X6_deed s m args below meth c H locs 0 0 Q (F0 m 29 ls [.int v29, .ref b0]) := by
      intro v29 e29_0 H locs ls hh hl
      have hv := hv v29 e29_0
      refine cl_V (pc := 29) (w' := [(b0, .inr (6, [.ref bs, .ref x0, .ref d0, .ref r0, .ref i0, .ref c0, .ref j0, .ref e0, .int (x_kf v29), .int tr])), (bs, .inl (G.2.2.2, 4, .inr (.inr (.inr (.inr sh))))), (s0, .inr (4, [.ref s1, .int sla, .int sle])), (s1, .inl (G.2.1, 60, .inl sn)), (d0, .inr (1, [.ref d1, .int dat, .int dcut, .int dfw])), (d1, .inl (G.2.1, 20, .inl dstr)), (i0, .inr (2, [.ref i1, .int hi, .int wi, .int fr, .int fc, .int lc])), (i1, .inl (G.2.1, 20, .inl str)), (c0, .inr (0, [.ref c1, .ref c2, .int cnt])), (c1, .inl (G.2.1, 4, .inl ck)), (c2, .inl (G.2.1, 4, .inl cwt))]) (wr := [(bs, .inl (G.2.2.2, 4, .inr (.inr (.inr (.inr sh))))), (s0, .inr (4, [.ref s1, .int sla, .int sle])), (s1, .inl (G.2.1, 60, .inl sn)), (d0, .inr (1, [.ref d1, .int dat, .int dcut, .int dfw])), (d1, .inl (G.2.1, 20, .inl dstr)), (i0, .inr (2, [.ref i1, .int hi, .int wi, .int fr, .int fc, .int lc])), (i1, .inl (G.2.1, 20, .inl str)), (c0, .inr (0, [.ref c1, .ref c2, .int cnt])), (c1, .inl (G.2.1, 4, .inl ck)), (c2, .inl (G.2.1, 4, .inl cwt))]) (rest := []) fx hh hl.1 (h_X6_keepFault b0 bs x0 d0 r0 i0 c0 j0 e0 lf tr v29) yV_X6_keepFault tMX6_70 ⟨rfl, rfl, Nat.le_of_ble_eq_true rfl, Nat.le_of_ble_eq_true rfl⟩ 0 6 rfl rfl rfl [0] [1, 2, 3, 4, 5, 6, 7, 8, 9, 10] [10, 0, 1, 2, 3, 4, 5, 6, 7, 8, 9] rfl rfl rfl (by decide) (by decide) rfl rfl (Nat.le_of_ble_eq_true rfl) ⟨Nat.le_of_ble_eq_true rfl, Nat.le_of_ble_eq_true rfl⟩ (dOk_at dX6_deed 16 rfl) (fun H locs hh => ?_)
      obtain ⟨e0, e1⟩ := hv
      subst e0
      subst e1
      rw [hQ]
      exact r_iretJ (pc := 32) (dat, dcut, dfw, dstr) fx hh (dOk_at dX6_deed 17 rfl)
    refine lv_if_eq (pc := 20) (tgt := 28) hx hb (dOk_at dX6_deed 12 rfl) (by decide) (fun c20 => ?_) (fun c20 => ?_)
    · refine lv_iconst (pc := 28) (v := (-1)) hx hb (dOk_at dX6_deed 15 rfl) (by decide) ?_
      exact k29_20 _ (if_pos c20).symm _ _ _ hh (lv_sub hl [] rfl)
    · refine lv_bipush (pc := 23) (v := (-2)) hx hb (dOk_at dX6_deed 13 rfl) (by decide) ?_
      refine lv_goto (pc := 25) (tgt := 29) hx hb (dOk_at dX6_deed 14 rfl) (by decide) ?_
      exact k29_20 _ (if_neg c20).symm _ _ _ hh (lv_sub hl [] rfl)
set_option maxRecDepth 100000 in
set_option maxHeartbeats 4000000 in
theorem wk_X6_deed_n (l : Launch) (G : GT) (b0 : Nat) (bs : Nat) (c0 : Nat) (i0 : Nat) (x0 : Nat) (d0 : Nat) (r0 : Nat) (j0 : Nat) (e0 : Nat) (c1 : Nat) (c2 : Nat) (i1 : Nat) (lf : Int32) (tr : Int32) (cnt : Int32) (hi : Int32) (wi : Int32) (fr : Int32) (fc : Int32) (lc : Int32) (sh : Nat → Option Nat) (a : Int32) (b : Int32) (ce : Int32) (sheet : Int32) (lane : Int32) (i : Int32) (n : Int32) (what : Int32) (R : Int32) (t0_8 : Int32) (h_X6_isDeedKnown_n : K_X6_isDeedKnown_n l G) (h_X6_isWithin : K_X6_isWithin l G) (h_X6_keepFault : K_X6_keepFault l G) (h_X6_tryDeed_n : K_X6_tryDeed_n l G)
    (hv : (¬ (s_in what 0 4) = 0 → s_shAt sh sheet = none ∧ (s_in sheet 0 3 = 0 ∨ vp_in sheet 4) ∧ ((-1 : Int32) = R ∧ (x_kf (-1)) = t0_8)) ∧ ((s_in what 0 4) = 0 → s_shAt sh sheet = none ∧ (s_in sheet 0 3 = 0 ∨ vp_in sheet 4) ∧ ((-1 : Int32) = R ∧ (x_kf (-1)) = t0_8))) :
    MF l G yX6_deed cX6_deed 10 (some .int) rm_X6_deed [.ref b0, .int a, .int b, .int ce, .int sheet, .int lane, .int i, .int n, .int what] [(b0, .inr (6, [.ref bs, .ref x0, .ref d0, .ref r0, .ref i0, .ref c0, .ref j0, .ref e0, .int lf, .int tr])), (bs, .inl (G.2.2.2, 4, .inr (.inr (.inr (.inr sh))))), (c0, .inr (0, [.ref c1, .ref c2, .int cnt])), (i0, .inr (2, [.ref i1, .int hi, .int wi, .int fr, .int fc, .int lc]))] (some (.int R)) [(b0, .inr (6, [.ref bs, .ref x0, .ref d0, .ref r0, .ref i0, .ref c0, .ref j0, .ref e0, .int t0_8, .int tr])), (bs, .inl (G.2.2.2, 4, .inr (.inr (.inr (.inr sh))))), (c0, .inr (0, [.ref c1, .ref c2, .int cnt])), (i0, .inr (2, [.ref i1, .int hi, .int wi, .int fr, .int fc, .int lc]))] := by
  refine MF.of (by decide +kernel) (Nat.le_of_ble_eq_true rfl) ?_
  intro p e s m args below meth c A ls fx hh hl _
  have hx := fx.hx
  have hb := fx.hb
  have hl : lv_has ls 10 [(0, .ref b0), (1, .int a), (2, .int b), (3, .int ce), (4, .int sheet), (5, .int lane), (6, .int i), (7, .int n), (8, .int what)] := hl
  obtain ⟨Q, hQ⟩ : ∃ Q, Q = ZZ G A (some (.int R)) [(b0, .inr (6, [.ref bs, .ref x0, .ref d0, .ref r0, .ref i0, .ref c0, .ref j0, .ref e0, .int t0_8, .int tr])), (bs, .inl (G.2.2.2, 4, .inr (.inr (.inr (.inr sh))))), (c0, .inr (0, [.ref c1, .ref c2, .int cnt])), (i0, .inr (2, [.ref i1, .int hi, .int wi, .int fr, .int fc, .int lc]))] below args s := ⟨_, rfl⟩
  rw [← hQ]
  refine lv_iload (pc := 0) hx hb (dOk_at dX6_deed 0 rfl) (lv_at hl 8 rfl) ?_
  refine lv_iconst (pc := 2) (v := 0) hx hb (dOk_at dX6_deed 1 rfl) (by decide) ?_
  refine lv_iconst (pc := 3) (v := 4) hx hb (dOk_at dX6_deed 2 rfl) (by decide) ?_
  refine cl_S (pc := 4) (w' := [(b0, .inr (6, [.ref bs, .ref x0, .ref d0, .ref r0, .ref i0, .ref c0, .ref j0, .ref e0, .int lf, .int tr])), (bs, .inl (G.2.2.2, 4, .inr (.inr (.inr (.inr sh))))), (c0, .inr (0, [.ref c1, .ref c2, .int cnt])), (i0, .inr (2, [.ref i1, .int hi, .int wi, .int fr, .int fc, .int lc]))]) (wr := [(b0, .inr (6, [.ref bs, .ref x0, .ref d0, .ref r0, .ref i0, .ref c0, .ref j0, .ref e0, .int lf, .int tr])), (bs, .inl (G.2.2.2, 4, .inr (.inr (.inr (.inr sh))))), (c0, .inr (0, [.ref c1, .ref c2, .int cnt])), (i0, .inr (2, [.ref i1, .int hi, .int wi, .int fr, .int fc, .int lc]))]) (rest := []) fx hh hl.1 (h_X6_isWithin what 0 4) yS_X6_isWithin tMX6_96 ⟨rfl, rfl, Nat.le_of_ble_eq_true rfl, Nat.le_of_ble_eq_true rfl⟩ [] [0, 1, 2, 3] [0, 1, 2, 3] rfl rfl rfl (by decide) (by decide) rfl rfl (Nat.le_of_ble_eq_true rfl) ⟨Nat.le_of_ble_eq_true rfl, Nat.le_of_ble_eq_true rfl⟩ (dOk_at dX6_deed 3 rfl) (fun H locs hh => ?_)
  refine lv_if_ne (pc := 7) (tgt := 33) hx hb (dOk_at dX6_deed 4 rfl) (by decide) (fun c7 => ?_) (fun c7 => ?_)
  · have hv := hv.1 c7
    refine lv_aload_n (pc := 33) hx hb (dOk_at dX6_deed 18 rfl) rfl (lv_at hl 0 rfl) ?_
    refine lv_iload_n (pc := 34) hx hb (dOk_at dX6_deed 19 rfl) rfl (lv_at hl 1 rfl) ?_
    refine lv_iload_n (pc := 35) hx hb (dOk_at dX6_deed 20 rfl) rfl (lv_at hl 2 rfl) ?_
    refine lv_iload_n (pc := 36) hx hb (dOk_at dX6_deed 21 rfl) rfl (lv_at hl 3 rfl) ?_
    refine lv_iload (pc := 37) hx hb (dOk_at dX6_deed 22 rfl) (lv_at hl 4 rfl) ?_
    refine lv_iload (pc := 39) hx hb (dOk_at dX6_deed 23 rfl) (lv_at hl 5 rfl) ?_
    refine lv_iload (pc := 41) hx hb (dOk_at dX6_deed 24 rfl) (lv_at hl 6 rfl) ?_
    refine lv_iload (pc := 43) hx hb (dOk_at dX6_deed 25 rfl) (lv_at hl 7 rfl) ?_
    refine cl_V (pc := 45) (w' := [(b0, .inr (6, [.ref bs, .ref x0, .ref d0, .ref r0, .ref i0, .ref c0, .ref j0, .ref e0, .int lf, .int tr])), (bs, .inl (G.2.2.2, 4, .inr (.inr (.inr (.inr sh))))), (c0, .inr (0, [.ref c1, .ref c2, .int cnt])), (i0, .inr (2, [.ref i1, .int hi, .int wi, .int fr, .int fc, .int lc]))]) (wr := [(c0, .inr (0, [.ref c1, .ref c2, .int cnt])), (i0, .inr (2, [.ref i1, .int hi, .int wi, .int fr, .int fc, .int lc]))]) (rest := []) fx hh hl.1 (h_X6_tryDeed_n b0 bs x0 d0 r0 i0 c0 j0 e0 lf tr sh a b ce sheet lane i n hv.1 hv.2.1) yV_X6_tryDeed tMX6_110 ⟨rfl, rfl, Nat.le_of_ble_eq_true rfl, Nat.le_of_ble_eq_true rfl⟩ 0 6 rfl rfl rfl [0, 1] [2, 3] [2, 3, 0, 1] rfl rfl rfl (by decide) (by decide) rfl rfl (Nat.le_of_ble_eq_true rfl) ⟨Nat.le_of_ble_eq_true rfl, Nat.le_of_ble_eq_true rfl⟩ (dOk_at dX6_deed 26 rfl) (fun H locs hh => ?_)
    have hv := hv.2.2
    refine lv_istore (pc := 48) (lv' := [(9, .int (-1)), (0, .ref b0), (1, .int a), (2, .int b), (3, .int ce), (4, .int sheet), (5, .int lane), (6, .int i), (7, .int n), (8, .int what)]) hx hb (dOk_at dX6_deed 27 rfl) hl (by decide) rfl (fun ls hl => ?_)
    refine lv_aload_n (pc := 50) hx hb (dOk_at dX6_deed 28 rfl) rfl (lv_at hl 1 rfl) ?_
    refine lv_iload (pc := 51) hx hb (dOk_at dX6_deed 29 rfl) (lv_at hl 0 rfl) ?_
    refine lv_if_ne (pc := 53) (tgt := 67) hx hb (dOk_at dX6_deed 30 rfl) (by decide) (fun c53 => ?_) (fun c53 => ?_)
    · refine lv_iload (pc := 67) hx hb (dOk_at dX6_deed 36 rfl) (lv_at hl 0 rfl) ?_
      refine cl_V (pc := 69) (w' := [(b0, .inr (6, [.ref bs, .ref x0, .ref d0, .ref r0, .ref i0, .ref c0, .ref j0, .ref e0, .int (x_kf (-1)), .int tr])), (bs, .inl (G.2.2.2, 4, .inr (.inr (.inr (.inr sh))))), (c0, .inr (0, [.ref c1, .ref c2, .int cnt])), (i0, .inr (2, [.ref i1, .int hi, .int wi, .int fr, .int fc, .int lc]))]) (wr := [(bs, .inl (G.2.2.2, 4, .inr (.inr (.inr (.inr sh))))), (c0, .inr (0, [.ref c1, .ref c2, .int cnt])), (i0, .inr (2, [.ref i1, .int hi, .int wi, .int fr, .int fc, .int lc]))]) (rest := []) fx hh hl.1 (h_X6_keepFault b0 bs x0 d0 r0 i0 c0 j0 e0 lf tr (-1)) yV_X6_keepFault tMX6_70 ⟨rfl, rfl, Nat.le_of_ble_eq_true rfl, Nat.le_of_ble_eq_true rfl⟩ 0 6 rfl rfl rfl [0] [1, 2, 3] [3, 0, 1, 2] rfl rfl rfl (by decide) (by decide) rfl rfl (Nat.le_of_ble_eq_true rfl) ⟨Nat.le_of_ble_eq_true rfl, Nat.le_of_ble_eq_true rfl⟩ (dOk_at dX6_deed 37 rfl) (fun H locs hh => ?_)
      obtain ⟨e0, e1⟩ := hv
      subst e0
      subst e1
      rw [hQ]
      exact r_iret (pc := 72) fx hh (dOk_at dX6_deed 38 rfl)
    · exact absurd c53 (by decide)
  · have hv := hv.2 c7
    refine lv_aload_n (pc := 10) hx hb (dOk_at dX6_deed 5 rfl) rfl (lv_at hl 0 rfl) ?_
    refine lv_aload_n (pc := 11) hx hb (dOk_at dX6_deed 6 rfl) rfl (lv_at hl 0 rfl) ?_
    refine lv_iload_n (pc := 12) hx hb (dOk_at dX6_deed 7 rfl) rfl (lv_at hl 1 rfl) ?_
    refine lv_iload_n (pc := 13) hx hb (dOk_at dX6_deed 8 rfl) rfl (lv_at hl 2 rfl) ?_
    refine lv_iload_n (pc := 14) hx hb (dOk_at dX6_deed 9 rfl) rfl (lv_at hl 3 rfl) ?_
    refine lv_iload (pc := 15) hx hb (dOk_at dX6_deed 10 rfl) (lv_at hl 4 rfl) ?_
    refine cl_V (pc := 17) (w' := [(b0, .inr (6, [.ref bs, .ref x0, .ref d0, .ref r0, .ref i0, .ref c0, .ref j0, .ref e0, .int lf, .int tr])), (bs, .inl (G.2.2.2, 4, .inr (.inr (.inr (.inr sh))))), (c0, .inr (0, [.ref c1, .ref c2, .int cnt])), (i0, .inr (2, [.ref i1, .int hi, .int wi, .int fr, .int fc, .int lc]))]) (wr := []) (rest := [.ref b0]) fx hh hl.1 (h_X6_isDeedKnown_n b0 bs c0 i0 x0 d0 r0 j0 e0 c1 c2 i1 lf tr cnt hi wi fr fc lc sh a b ce sheet hv.1 hv.2.1) yV_X6_isDeedKnown tMX6_106 ⟨rfl, rfl, Nat.le_of_ble_eq_true rfl, Nat.le_of_ble_eq_true rfl⟩ 0 6 rfl rfl rfl [0, 1, 2, 3] [] [0, 1, 2, 3] rfl rfl rfl (by decide) (by decide) rfl rfl (Nat.le_of_ble_eq_true rfl) ⟨Nat.le_of_ble_eq_true rfl, Nat.le_of_ble_eq_true rfl⟩ (dOk_at dX6_deed 11 rfl) (fun H locs hh => ?_)
    have hv := hv.2.2
    refine lv_if_eq (pc := 20) (tgt := 28) hx hb (dOk_at dX6_deed 12 rfl) (by decide) (fun c20 => ?_) (fun c20 => ?_)
    · refine lv_iconst (pc := 28) (v := (-1)) hx hb (dOk_at dX6_deed 15 rfl) (by decide) ?_
      refine cl_V (pc := 29) (w' := [(b0, .inr (6, [.ref bs, .ref x0, .ref d0, .ref r0, .ref i0, .ref c0, .ref j0, .ref e0, .int (x_kf (-1)), .int tr])), (bs, .inl (G.2.2.2, 4, .inr (.inr (.inr (.inr sh))))), (c0, .inr (0, [.ref c1, .ref c2, .int cnt])), (i0, .inr (2, [.ref i1, .int hi, .int wi, .int fr, .int fc, .int lc]))]) (wr := [(bs, .inl (G.2.2.2, 4, .inr (.inr (.inr (.inr sh))))), (c0, .inr (0, [.ref c1, .ref c2, .int cnt])), (i0, .inr (2, [.ref i1, .int hi, .int wi, .int fr, .int fc, .int lc]))]) (rest := []) fx hh hl.1 (h_X6_keepFault b0 bs x0 d0 r0 i0 c0 j0 e0 lf tr (-1)) yV_X6_keepFault tMX6_70 ⟨rfl, rfl, Nat.le_of_ble_eq_true rfl, Nat.le_of_ble_eq_true rfl⟩ 0 6 rfl rfl rfl [0] [1, 2, 3] [3, 0, 1, 2] rfl rfl rfl (by decide) (by decide) rfl rfl (Nat.le_of_ble_eq_true rfl) ⟨Nat.le_of_ble_eq_true rfl, Nat.le_of_ble_eq_true rfl⟩ (dOk_at dX6_deed 16 rfl) (fun H locs hh => ?_)
      obtain ⟨e0, e1⟩ := hv
      subst e0
      subst e1
      rw [hQ]
      exact r_iret (pc := 32) fx hh (dOk_at dX6_deed 17 rfl)
    · exact absurd c20 (by decide)
set_option maxRecDepth 100000 in
set_option maxHeartbeats 4000000 in
theorem wk_X6_write (l : Launch) (G : GT) (b0 : Nat) (bs : Nat) (s0 : Nat) (s1 : Nat) (d0 : Nat) (d1 : Nat) (i0 : Nat) (i1 : Nat) (c0 : Nat) (c1 : Nat) (c2 : Nat) (x0 : Nat) (r0 : Nat) (j0 : Nat) (e0 : Nat) (lf : Int32) (tr : Int32) (sla : Int32) (sle : Int32) (dat : Int32) (dcut : Int32) (dfw : Int32) (hi : Int32) (wi : Int32) (fr : Int32) (fc : Int32) (lc : Int32) (cnt : Int32) (sn : Nat → Int32) (dstr : Nat → Int32) (str : Nat → Int32) (ck : Nat → Int32) (cwt : Nat → Int32) (sh : Nat → Option Nat) (a : Int32) (b : Int32) (ce : Int32) (sheet : Int32) (lane : Int32) (i : Int32) (n : Int32) (R : Int32) (t0_8 : Int32) (t7 : Nat → Int32) (h_X6_keepFault : K_X6_keepFault l G) (h_X6_tryDeed : K_X6_tryDeed l G)
    (hv : s_shAt sh sheet = some s0 ∧ (s_in sheet 0 3 = 0 ∨ vp_in sheet 4) ∧ okD hi wi ∧ okN cnt ∧ ¬ 60 < sle ∧ (x_dK hi wi cnt a b ce → okTrial hi wi fc lc ck cwt sn (s_cp20 str dstr) a b ce i n sle) ∧ (∀ (z12_0 : Int32) (z12_1 : Int32) (z12_2 : Int32) (z12_3 : Nat → Int32) (z12_r : Int32), z12_0 = (if x_tdR hi wi cnt sla sle sn a b ce lane i n = 0 then (x_tr hi wi fc lc ck cwt sn str dstr a b ce i n).1 else dat) → z12_1 = (if x_tdR hi wi cnt sla sle sn a b ce lane i n = 0 then (x_tr hi wi fc lc ck cwt sn str dstr a b ce i n).2.1 else dcut) → z12_2 = (if x_tdR hi wi cnt sla sle sn a b ce lane i n = 0 then (x_tr hi wi fc lc ck cwt sn str dstr a b ce i n).2.2.1 else dfw) → z12_3 = (if x_tdR hi wi cnt sla sle sn a b ce lane i n = 0 then (x_tr hi wi fc lc ck cwt sn str dstr a b ce i n).2.2.2 else dstr) → z12_r = (x_tdR hi wi cnt sla sle sn a b ce lane i n) → (z12_r = 0 → (z12_2 = (-9) → ¬ (0 : Int32) < 0 ∧ ¬ (0 : Int32) < 0 ∧ ¬ (20 : Int32) < 0 ∧ (0 : Int32).toNatClampNeg + (20 : Int32).toNatClampNeg ≤ 20 ∧ (0 : Int32).toNatClampNeg + (20 : Int32).toNatClampNeg ≤ 20 ∧ (n = R ∧ (x_kf n) = t0_8 ∧ (va_cpy z12_3 str ((0 : Int32).toNatClampNeg) ((0 : Int32).toNatClampNeg) ((20 : Int32).toNatClampNeg)) = t7)) ∧ (¬ z12_2 = (-9) → ((-100) - z12_2) = R ∧ (x_kf ((-100) - z12_2)) = t0_8 ∧ str = t7)) ∧ (¬ z12_r = 0 → z12_r = R ∧ (x_kf z12_r) = t0_8 ∧ str = t7))) :
    MFJ l G yX6_write cX6_write 9 (some .int) rm_X6_write [.ref b0, .int a, .int b, .int ce, .int sheet, .int lane, .int i, .int n] [(b0, .inr (6, [.ref bs, .ref x0, .ref d0, .ref r0, .ref i0, .ref c0, .ref j0, .ref e0, .int lf, .int tr])), (bs, .inl (G.2.2.2, 4, .inr (.inr (.inr (.inr sh))))), (s0, .inr (4, [.ref s1, .int sla, .int sle])), (s1, .inl (G.2.1, 60, .inl sn)), (d0, .inr (1, [.ref d1, .int dat, .int dcut, .int dfw])), (d1, .inl (G.2.1, 20, .inl dstr)), (i0, .inr (2, [.ref i1, .int hi, .int wi, .int fr, .int fc, .int lc])), (i1, .inl (G.2.1, 20, .inl str)), (c0, .inr (0, [.ref c1, .ref c2, .int cnt])), (c1, .inl (G.2.1, 4, .inl ck)), (c2, .inl (G.2.1, 4, .inl cwt))] (some (.int R)) (fun jj : Int32 × Int32 × Int32 × (Nat → Int32) => [(b0, .inr (6, [.ref bs, .ref x0, .ref d0, .ref r0, .ref i0, .ref c0, .ref j0, .ref e0, .int t0_8, .int tr])), (bs, .inl (G.2.2.2, 4, .inr (.inr (.inr (.inr sh))))), (s0, .inr (4, [.ref s1, .int sla, .int sle])), (s1, .inl (G.2.1, 60, .inl sn)), (d0, .inr (1, [.ref d1, .int jj.1, .int jj.2.1, .int jj.2.2.1])), (d1, .inl (G.2.1, 20, .inl jj.2.2.2)), (i0, .inr (2, [.ref i1, .int hi, .int wi, .int fr, .int fc, .int lc])), (i1, .inl (G.2.1, 20, .inl t7)), (c0, .inr (0, [.ref c1, .ref c2, .int cnt])), (c1, .inl (G.2.1, 4, .inl ck)), (c2, .inl (G.2.1, 4, .inl cwt))]) := by
  refine MFJ.of (by decide +kernel) (Nat.le_of_ble_eq_true rfl) ?_
  intro p e s m args below meth c A ls fx hh hl _
  have hx := fx.hx
  have hb := fx.hb
  have hl : lv_has ls 9 [(0, .ref b0), (1, .int a), (2, .int b), (3, .int ce), (4, .int sheet), (5, .int lane), (6, .int i), (7, .int n)] := hl
  obtain ⟨Q, hQ⟩ : ∃ Q, Q = ZJ G A (some (.int R)) (fun jj : Int32 × Int32 × Int32 × (Nat → Int32) => [(b0, .inr (6, [.ref bs, .ref x0, .ref d0, .ref r0, .ref i0, .ref c0, .ref j0, .ref e0, .int t0_8, .int tr])), (bs, .inl (G.2.2.2, 4, .inr (.inr (.inr (.inr sh))))), (s0, .inr (4, [.ref s1, .int sla, .int sle])), (s1, .inl (G.2.1, 60, .inl sn)), (d0, .inr (1, [.ref d1, .int jj.1, .int jj.2.1, .int jj.2.2.1])), (d1, .inl (G.2.1, 20, .inl jj.2.2.2)), (i0, .inr (2, [.ref i1, .int hi, .int wi, .int fr, .int fc, .int lc])), (i1, .inl (G.2.1, 20, .inl t7)), (c0, .inr (0, [.ref c1, .ref c2, .int cnt])), (c1, .inl (G.2.1, 4, .inl ck)), (c2, .inl (G.2.1, 4, .inl cwt))]) below args s := ⟨_, rfl⟩
  rw [← hQ]
  refine lv_aload_n (pc := 0) hx hb (dOk_at dX6_write 0 rfl) rfl (lv_at hl 0 rfl) ?_
  refine lv_iload_n (pc := 1) hx hb (dOk_at dX6_write 1 rfl) rfl (lv_at hl 1 rfl) ?_
  refine lv_iload_n (pc := 2) hx hb (dOk_at dX6_write 2 rfl) rfl (lv_at hl 2 rfl) ?_
  refine lv_iload_n (pc := 3) hx hb (dOk_at dX6_write 3 rfl) rfl (lv_at hl 3 rfl) ?_
  refine lv_iload (pc := 4) hx hb (dOk_at dX6_write 4 rfl) (lv_at hl 4 rfl) ?_
  refine lv_iload (pc := 6) hx hb (dOk_at dX6_write 5 rfl) (lv_at hl 5 rfl) ?_
  refine lv_iload (pc := 8) hx hb (dOk_at dX6_write 6 rfl) (lv_at hl 6 rfl) ?_
  refine lv_iload (pc := 10) hx hb (dOk_at dX6_write 7 rfl) (lv_at hl 7 rfl) ?_
  have key12 : ∀ (z12_0 : Int32) (z12_1 : Int32) (z12_2 : Int32) (z12_3 : Nat → Int32) (z12_r : Int32), z12_0 = (if x_tdR hi wi cnt sla sle sn a b ce lane i n = 0 then (x_tr hi wi fc lc ck cwt sn str dstr a b ce i n).1 else dat) → z12_1 = (if x_tdR hi wi cnt sla sle sn a b ce lane i n = 0 then (x_tr hi wi fc lc ck cwt sn str dstr a b ce i n).2.1 else dcut) → z12_2 = (if x_tdR hi wi cnt sla sle sn a b ce lane i n = 0 then (x_tr hi wi fc lc ck cwt sn str dstr a b ce i n).2.2.1 else dfw) → z12_3 = (if x_tdR hi wi cnt sla sle sn a b ce lane i n = 0 then (x_tr hi wi fc lc ck cwt sn str dstr a b ce i n).2.2.2 else dstr) → z12_r = (x_tdR hi wi cnt sla sle sn a b ce lane i n) → MF l G yX6_tryDeed cX6_tryDeed 11 (some .int) rm_X6_tryDeed [.ref b0, .int a, .int b, .int ce, .int sheet, .int lane, .int i, .int n] [(b0, .inr (6, [.ref bs, .ref x0, .ref d0, .ref r0, .ref i0, .ref c0, .ref j0, .ref e0, .int lf, .int tr])), (bs, .inl (G.2.2.2, 4, .inr (.inr (.inr (.inr sh))))), (s0, .inr (4, [.ref s1, .int sla, .int sle])), (s1, .inl (G.2.1, 60, .inl sn)), (d0, .inr (1, [.ref d1, .int dat, .int dcut, .int dfw])), (d1, .inl (G.2.1, 20, .inl dstr)), (i0, .inr (2, [.ref i1, .int hi, .int wi, .int fr, .int fc, .int lc])), (i1, .inl (G.2.1, 20, .inl str)), (c0, .inr (0, [.ref c1, .ref c2, .int cnt])), (c1, .inl (G.2.1, 4, .inl ck)), (c2, .inl (G.2.1, 4, .inl cwt))] (some (.int z12_r)) [(b0, .inr (6, [.ref bs, .ref x0, .ref d0, .ref r0, .ref i0, .ref c0, .ref j0, .ref e0, .int lf, .int tr])), (bs, .inl (G.2.2.2, 4, .inr (.inr (.inr (.inr sh))))), (s0, .inr (4, [.ref s1, .int sla, .int sle])), (s1, .inl (G.2.1, 60, .inl sn)), (d0, .inr (1, [.ref d1, .int z12_0, .int z12_1, .int z12_2])), (d1, .inl (G.2.1, 20, .inl z12_3)), (i0, .inr (2, [.ref i1, .int hi, .int wi, .int fr, .int fc, .int lc])), (i1, .inl (G.2.1, 20, .inl str)), (c0, .inr (0, [.ref c1, .ref c2, .int cnt])), (c1, .inl (G.2.1, 4, .inl ck)), (c2, .inl (G.2.1, 4, .inl cwt))] := by
    intro z12_0 z12_1 z12_2 z12_3 z12_r hz12_0 hz12_1 hz12_2 hz12_3 hz12_r
    subst hz12_0
    subst hz12_1
    subst hz12_2
    subst hz12_3
    subst hz12_r
    exact (h_X6_tryDeed b0 bs s0 s1 d0 d1 i0 i1 c0 c1 c2 x0 r0 j0 e0 lf tr sla sle dat dcut dfw hi wi fr fc lc cnt sn dstr str ck cwt sh a b ce sheet lane i n hv.1 hv.2.1 hv.2.2.1 hv.2.2.2.1 hv.2.2.2.2.1 hv.2.2.2.2.2.1)
  obtain ⟨z12_0, hz12_0⟩ : ∃ z : Int32, z = (if x_tdR hi wi cnt sla sle sn a b ce lane i n = 0 then (x_tr hi wi fc lc ck cwt sn str dstr a b ce i n).1 else dat) := ⟨_, rfl⟩
  obtain ⟨z12_1, hz12_1⟩ : ∃ z : Int32, z = (if x_tdR hi wi cnt sla sle sn a b ce lane i n = 0 then (x_tr hi wi fc lc ck cwt sn str dstr a b ce i n).2.1 else dcut) := ⟨_, rfl⟩
  obtain ⟨z12_2, hz12_2⟩ : ∃ z : Int32, z = (if x_tdR hi wi cnt sla sle sn a b ce lane i n = 0 then (x_tr hi wi fc lc ck cwt sn str dstr a b ce i n).2.2.1 else dfw) := ⟨_, rfl⟩
  obtain ⟨z12_3, hz12_3⟩ : ∃ z : Nat → Int32, z = (if x_tdR hi wi cnt sla sle sn a b ce lane i n = 0 then (x_tr hi wi fc lc ck cwt sn str dstr a b ce i n).2.2.2 else dstr) := ⟨_, rfl⟩
  obtain ⟨z12_r, hz12_r⟩ : ∃ z : Int32, z = (x_tdR hi wi cnt sla sle sn a b ce lane i n) := ⟨_, rfl⟩
  refine cl_V (pc := 12) (w' := [(b0, .inr (6, [.ref bs, .ref x0, .ref d0, .ref r0, .ref i0, .ref c0, .ref j0, .ref e0, .int lf, .int tr])), (bs, .inl (G.2.2.2, 4, .inr (.inr (.inr (.inr sh))))), (s0, .inr (4, [.ref s1, .int sla, .int sle])), (s1, .inl (G.2.1, 60, .inl sn)), (d0, .inr (1, [.ref d1, .int z12_0, .int z12_1, .int z12_2])), (d1, .inl (G.2.1, 20, .inl z12_3)), (i0, .inr (2, [.ref i1, .int hi, .int wi, .int fr, .int fc, .int lc])), (i1, .inl (G.2.1, 20, .inl str)), (c0, .inr (0, [.ref c1, .ref c2, .int cnt])), (c1, .inl (G.2.1, 4, .inl ck)), (c2, .inl (G.2.1, 4, .inl cwt))]) (wr := []) (rest := []) fx hh hl.1 (key12 z12_0 z12_1 z12_2 z12_3 z12_r hz12_0 hz12_1 hz12_2 hz12_3 hz12_r) yV_X6_tryDeed tMX6_110 ⟨rfl, rfl, Nat.le_of_ble_eq_true rfl, Nat.le_of_ble_eq_true rfl⟩ 0 6 rfl rfl rfl [0, 1, 2, 3, 4, 5, 6, 7, 8, 9, 10] [] [0, 1, 2, 3, 4, 5, 6, 7, 8, 9, 10] rfl rfl rfl (by decide) (by decide) rfl rfl (Nat.le_of_ble_eq_true rfl) ⟨Nat.le_of_ble_eq_true rfl, Nat.le_of_ble_eq_true rfl⟩ (dOk_at dX6_write 8 rfl) (fun H locs hh => ?_)
  have hv := hv.2.2.2.2.2.2 z12_0 z12_1 z12_2 z12_3 z12_r hz12_0 hz12_1 hz12_2 hz12_3 hz12_r
  refine lv_istore (pc := 15) (lv' := [(8, .int z12_r), (0, .ref b0), (1, .int a), (2, .int b), (3, .int ce), (4, .int sheet), (5, .int lane), (6, .int i), (7, .int n)]) hx hb (dOk_at dX6_write 9 rfl) hl (by decide) rfl (fun ls hl => ?_)
  refine lv_iload (pc := 17) hx hb (dOk_at dX6_write 10 rfl) (lv_at hl 0 rfl) ?_
  refine lv_if_eq (pc := 19) (tgt := 29) hx hb (dOk_at dX6_write 11 rfl) (by decide) (fun c19 => ?_) (fun c19 => ?_)
  · have hv := hv.1 c19
    refine lv_aload_n (pc := 29) hx hb (dOk_at dX6_write 16 rfl) rfl (lv_at hl 1 rfl) ?_
    refine r_get (pc := 30) (ci := 6) fx hh inT6 rfl 2 (by decide) tFX6_27 rfl 0 rfl rfl (dOk_at dX6_write 17 rfl) ?_
    refine r_getN (pc := 33) (ci := 1) fx hh inT1 rfl 3 (by decide) nFX6_117 rfl 4 rfl rfl (dOk_at dX6_write 18 rfl) ?_
    refine lv_bipush (pc := 36) (v := (-9)) hx hb (dOk_at dX6_write 19 rfl) (by decide) ?_
    refine lv_icmp_eq (pc := 38) (tgt := 56) hx hb (dOk_at dX6_write 20 rfl) (by decide) (fun c38 => ?_) (fun c38 => ?_)
    · have hv := hv.1 c38
      refine lv_aload_n (pc := 56) hx hb (dOk_at dX6_write 29 rfl) rfl (lv_at hl 1 rfl) ?_
      refine r_get (pc := 57) (ci := 6) fx hh inT6 rfl 2 (by decide) tFX6_27 rfl 0 rfl rfl (dOk_at dX6_write 30 rfl) ?_
      refine r_getN (pc := 60) (ci := 1) fx hh inT1 rfl 0 (by decide) nFX6_120 rfl 4 rfl rfl (dOk_at dX6_write 31 rfl) ?_
      refine lv_iconst (pc := 63) (v := 0) hx hb (dOk_at dX6_write 32 rfl) (by decide) ?_
      refine lv_aload_n (pc := 64) hx hb (dOk_at dX6_write 33 rfl) rfl (lv_at hl 1 rfl) ?_
      refine r_get (pc := 65) (ci := 6) fx hh inT6 rfl 4 (by decide) tFX6_41 rfl 0 rfl rfl (dOk_at dX6_write 34 rfl) ?_
      refine r_getN (pc := 68) (ci := 2) fx hh inT2 rfl 0 (by decide) nFX6_93 rfl 6 rfl rfl (dOk_at dX6_write 35 rfl) ?_
      refine lv_iconst (pc := 71) (v := 0) hx hb (dOk_at dX6_write 36 rfl) (by decide) ?_
      refine lv_bipush (pc := 72) (v := 20) hx hb (dOk_at dX6_write 37 rfl) (by decide) ?_
      refine r_copyi (pc := 74) (w' := [(b0, .inr (6, [.ref bs, .ref x0, .ref d0, .ref r0, .ref i0, .ref c0, .ref j0, .ref e0, .int lf, .int tr])), (bs, .inl (G.2.2.2, 4, .inr (.inr (.inr (.inr sh))))), (s0, .inr (4, [.ref s1, .int sla, .int sle])), (s1, .inl (G.2.1, 60, .inl sn)), (d0, .inr (1, [.ref d1, .int z12_0, .int z12_1, .int z12_2])), (d1, .inl (G.2.1, 20, .inl z12_3)), (i0, .inr (2, [.ref i1, .int hi, .int wi, .int fr, .int fc, .int lc])), (i1, .inl (G.2.1, 20, .inl (va_cpy z12_3 str ((0 : Int32).toNatClampNeg) ((0 : Int32).toNatClampNeg) ((20 : Int32).toNatClampNeg)))), (c0, .inr (0, [.ref c1, .ref c2, .int cnt])), (c1, .inl (G.2.1, 4, .inl ck)), (c2, .inl (G.2.1, 4, .inl cwt))]) fx hh hl.1 tMX6_121 5 7 rfl rfl hv.1 hv.2.1 hv.2.2.1 hv.2.2.2.1 hv.2.2.2.2.1 rfl (Nat.le_of_ble_eq_true rfl) (Nat.le_of_ble_eq_true rfl) (dOk_at dX6_write 38 rfl) (fun H locs hh => ?_)
      have hv := hv.2.2.2.2.2
      refine lv_aload_n (pc := 77) hx hb (dOk_at dX6_write 39 rfl) rfl (lv_at hl 1 rfl) ?_
      refine lv_iload (pc := 78) hx hb (dOk_at dX6_write 40 rfl) (lv_at hl 8 rfl) ?_
      refine cl_V (pc := 80) (w' := [(b0, .inr (6, [.ref bs, .ref x0, .ref d0, .ref r0, .ref i0, .ref c0, .ref j0, .ref e0, .int (x_kf n), .int tr])), (bs, .inl (G.2.2.2, 4, .inr (.inr (.inr (.inr sh))))), (s0, .inr (4, [.ref s1, .int sla, .int sle])), (s1, .inl (G.2.1, 60, .inl sn)), (d0, .inr (1, [.ref d1, .int z12_0, .int z12_1, .int z12_2])), (d1, .inl (G.2.1, 20, .inl z12_3)), (i0, .inr (2, [.ref i1, .int hi, .int wi, .int fr, .int fc, .int lc])), (i1, .inl (G.2.1, 20, .inl (va_cpy z12_3 str ((0 : Int32).toNatClampNeg) ((0 : Int32).toNatClampNeg) ((20 : Int32).toNatClampNeg)))), (c0, .inr (0, [.ref c1, .ref c2, .int cnt])), (c1, .inl (G.2.1, 4, .inl ck)), (c2, .inl (G.2.1, 4, .inl cwt))]) (wr := [(bs, .inl (G.2.2.2, 4, .inr (.inr (.inr (.inr sh))))), (s0, .inr (4, [.ref s1, .int sla, .int sle])), (s1, .inl (G.2.1, 60, .inl sn)), (d0, .inr (1, [.ref d1, .int z12_0, .int z12_1, .int z12_2])), (d1, .inl (G.2.1, 20, .inl z12_3)), (i0, .inr (2, [.ref i1, .int hi, .int wi, .int fr, .int fc, .int lc])), (i1, .inl (G.2.1, 20, .inl (va_cpy z12_3 str ((0 : Int32).toNatClampNeg) ((0 : Int32).toNatClampNeg) ((20 : Int32).toNatClampNeg)))), (c0, .inr (0, [.ref c1, .ref c2, .int cnt])), (c1, .inl (G.2.1, 4, .inl ck)), (c2, .inl (G.2.1, 4, .inl cwt))]) (rest := []) fx hh hl.1 (h_X6_keepFault b0 bs x0 d0 r0 i0 c0 j0 e0 lf tr n) yV_X6_keepFault tMX6_70 ⟨rfl, rfl, Nat.le_of_ble_eq_true rfl, Nat.le_of_ble_eq_true rfl⟩ 0 6 rfl rfl rfl [0] [1, 2, 3, 4, 5, 6, 7, 8, 9, 10] [10, 0, 1, 2, 3, 4, 5, 6, 7, 8, 9] rfl rfl rfl (by decide) (by decide) rfl rfl (Nat.le_of_ble_eq_true rfl) ⟨Nat.le_of_ble_eq_true rfl, Nat.le_of_ble_eq_true rfl⟩ (dOk_at dX6_write 41 rfl) (fun H locs hh => ?_)
      obtain ⟨e0, e1, e2⟩ := hv
      subst e0
      subst e1
      subst e2
      rw [hQ]
      exact r_iretJ (pc := 83) (z12_0, z12_1, z12_2, z12_3) fx hh (dOk_at dX6_write 42 rfl)
    · have hv := hv.2 c38
      refine lv_aload_n (pc := 41) hx hb (dOk_at dX6_write 21 rfl) rfl (lv_at hl 1 rfl) ?_
      refine lv_bipush (pc := 42) (v := (-100)) hx hb (dOk_at dX6_write 22 rfl) (by decide) ?_
      refine lv_aload_n (pc := 44) hx hb (dOk_at dX6_write 23 rfl) rfl (lv_at hl 1 rfl) ?_
      refine r_get (pc := 45) (ci := 6) fx hh inT6 rfl 2 (by decide) tFX6_27 rfl 0 rfl rfl (dOk_at dX6_write 24 rfl) ?_
      refine r_getN (pc := 48) (ci := 1) fx hh inT1 rfl 3 (by decide) nFX6_117 rfl 4 rfl rfl (dOk_at dX6_write 25 rfl) ?_
      refine lv_isub (pc := 51) hx hb (dOk_at dX6_write 26 rfl) ?_
      refine cl_V (pc := 52) (w' := [(b0, .inr (6, [.ref bs, .ref x0, .ref d0, .ref r0, .ref i0, .ref c0, .ref j0, .ref e0, .int (x_kf ((-100) - z12_2)), .int tr])), (bs, .inl (G.2.2.2, 4, .inr (.inr (.inr (.inr sh))))), (s0, .inr (4, [.ref s1, .int sla, .int sle])), (s1, .inl (G.2.1, 60, .inl sn)), (d0, .inr (1, [.ref d1, .int z12_0, .int z12_1, .int z12_2])), (d1, .inl (G.2.1, 20, .inl z12_3)), (i0, .inr (2, [.ref i1, .int hi, .int wi, .int fr, .int fc, .int lc])), (i1, .inl (G.2.1, 20, .inl str)), (c0, .inr (0, [.ref c1, .ref c2, .int cnt])), (c1, .inl (G.2.1, 4, .inl ck)), (c2, .inl (G.2.1, 4, .inl cwt))]) (wr := [(bs, .inl (G.2.2.2, 4, .inr (.inr (.inr (.inr sh))))), (s0, .inr (4, [.ref s1, .int sla, .int sle])), (s1, .inl (G.2.1, 60, .inl sn)), (d0, .inr (1, [.ref d1, .int z12_0, .int z12_1, .int z12_2])), (d1, .inl (G.2.1, 20, .inl z12_3)), (i0, .inr (2, [.ref i1, .int hi, .int wi, .int fr, .int fc, .int lc])), (i1, .inl (G.2.1, 20, .inl str)), (c0, .inr (0, [.ref c1, .ref c2, .int cnt])), (c1, .inl (G.2.1, 4, .inl ck)), (c2, .inl (G.2.1, 4, .inl cwt))]) (rest := []) fx hh hl.1 (h_X6_keepFault b0 bs x0 d0 r0 i0 c0 j0 e0 lf tr ((-100) - z12_2)) yV_X6_keepFault tMX6_70 ⟨rfl, rfl, Nat.le_of_ble_eq_true rfl, Nat.le_of_ble_eq_true rfl⟩ 0 6 rfl rfl rfl [0] [1, 2, 3, 4, 5, 6, 7, 8, 9, 10] [10, 0, 1, 2, 3, 4, 5, 6, 7, 8, 9] rfl rfl rfl (by decide) (by decide) rfl rfl (Nat.le_of_ble_eq_true rfl) ⟨Nat.le_of_ble_eq_true rfl, Nat.le_of_ble_eq_true rfl⟩ (dOk_at dX6_write 27 rfl) (fun H locs hh => ?_)
      obtain ⟨e0, e1, e2⟩ := hv
      subst e0
      subst e1
      subst e2
      rw [hQ]
      exact r_iretJ (pc := 55) (z12_0, z12_1, z12_2, z12_3) fx hh (dOk_at dX6_write 28 rfl)
  · have hv := hv.2 c19
    refine lv_aload_n (pc := 22) hx hb (dOk_at dX6_write 12 rfl) rfl (lv_at hl 1 rfl) ?_
    refine lv_iload (pc := 23) hx hb (dOk_at dX6_write 13 rfl) (lv_at hl 0 rfl) ?_
    refine cl_V (pc := 25) (w' := [(b0, .inr (6, [.ref bs, .ref x0, .ref d0, .ref r0, .ref i0, .ref c0, .ref j0, .ref e0, .int (x_kf z12_r), .int tr])), (bs, .inl (G.2.2.2, 4, .inr (.inr (.inr (.inr sh))))), (s0, .inr (4, [.ref s1, .int sla, .int sle])), (s1, .inl (G.2.1, 60, .inl sn)), (d0, .inr (1, [.ref d1, .int z12_0, .int z12_1, .int z12_2])), (d1, .inl (G.2.1, 20, .inl z12_3)), (i0, .inr (2, [.ref i1, .int hi, .int wi, .int fr, .int fc, .int lc])), (i1, .inl (G.2.1, 20, .inl str)), (c0, .inr (0, [.ref c1, .ref c2, .int cnt])), (c1, .inl (G.2.1, 4, .inl ck)), (c2, .inl (G.2.1, 4, .inl cwt))]) (wr := [(bs, .inl (G.2.2.2, 4, .inr (.inr (.inr (.inr sh))))), (s0, .inr (4, [.ref s1, .int sla, .int sle])), (s1, .inl (G.2.1, 60, .inl sn)), (d0, .inr (1, [.ref d1, .int z12_0, .int z12_1, .int z12_2])), (d1, .inl (G.2.1, 20, .inl z12_3)), (i0, .inr (2, [.ref i1, .int hi, .int wi, .int fr, .int fc, .int lc])), (i1, .inl (G.2.1, 20, .inl str)), (c0, .inr (0, [.ref c1, .ref c2, .int cnt])), (c1, .inl (G.2.1, 4, .inl ck)), (c2, .inl (G.2.1, 4, .inl cwt))]) (rest := []) fx hh hl.1 (h_X6_keepFault b0 bs x0 d0 r0 i0 c0 j0 e0 lf tr z12_r) yV_X6_keepFault tMX6_70 ⟨rfl, rfl, Nat.le_of_ble_eq_true rfl, Nat.le_of_ble_eq_true rfl⟩ 0 6 rfl rfl rfl [0] [1, 2, 3, 4, 5, 6, 7, 8, 9, 10] [10, 0, 1, 2, 3, 4, 5, 6, 7, 8, 9] rfl rfl rfl (by decide) (by decide) rfl rfl (Nat.le_of_ble_eq_true rfl) ⟨Nat.le_of_ble_eq_true rfl, Nat.le_of_ble_eq_true rfl⟩ (dOk_at dX6_write 14 rfl) (fun H locs hh => ?_)
    obtain ⟨e0, e1, e2⟩ := hv
    subst e0
    subst e1
    subst e2
    rw [hQ]
    exact r_iretJ (pc := 28) (z12_0, z12_1, z12_2, z12_3) fx hh (dOk_at dX6_write 15 rfl)
set_option maxRecDepth 100000 in
set_option maxHeartbeats 4000000 in
theorem wk_X6_write_n (l : Launch) (G : GT) (b0 : Nat) (bs : Nat) (x0 : Nat) (d0 : Nat) (r0 : Nat) (i0 : Nat) (c0 : Nat) (j0 : Nat) (e0 : Nat) (lf : Int32) (tr : Int32) (sh : Nat → Option Nat) (a : Int32) (b : Int32) (ce : Int32) (sheet : Int32) (lane : Int32) (i : Int32) (n : Int32) (R : Int32) (t0_8 : Int32) (h_X6_keepFault : K_X6_keepFault l G) (h_X6_tryDeed_n : K_X6_tryDeed_n l G)
    (hv : s_shAt sh sheet = none ∧ (s_in sheet 0 3 = 0 ∨ vp_in sheet 4) ∧ ((-1 : Int32) = R ∧ (x_kf (-1)) = t0_8)) :
    MF l G yX6_write cX6_write 9 (some .int) rm_X6_write [.ref b0, .int a, .int b, .int ce, .int sheet, .int lane, .int i, .int n] [(b0, .inr (6, [.ref bs, .ref x0, .ref d0, .ref r0, .ref i0, .ref c0, .ref j0, .ref e0, .int lf, .int tr])), (bs, .inl (G.2.2.2, 4, .inr (.inr (.inr (.inr sh)))))] (some (.int R)) [(b0, .inr (6, [.ref bs, .ref x0, .ref d0, .ref r0, .ref i0, .ref c0, .ref j0, .ref e0, .int t0_8, .int tr])), (bs, .inl (G.2.2.2, 4, .inr (.inr (.inr (.inr sh)))))] := by
  refine MF.of (by decide +kernel) (Nat.le_of_ble_eq_true rfl) ?_
  intro p e s m args below meth c A ls fx hh hl _
  have hx := fx.hx
  have hb := fx.hb
  have hl : lv_has ls 9 [(0, .ref b0), (1, .int a), (2, .int b), (3, .int ce), (4, .int sheet), (5, .int lane), (6, .int i), (7, .int n)] := hl
  obtain ⟨Q, hQ⟩ : ∃ Q, Q = ZZ G A (some (.int R)) [(b0, .inr (6, [.ref bs, .ref x0, .ref d0, .ref r0, .ref i0, .ref c0, .ref j0, .ref e0, .int t0_8, .int tr])), (bs, .inl (G.2.2.2, 4, .inr (.inr (.inr (.inr sh)))))] below args s := ⟨_, rfl⟩
  rw [← hQ]
  refine lv_aload_n (pc := 0) hx hb (dOk_at dX6_write 0 rfl) rfl (lv_at hl 0 rfl) ?_
  refine lv_iload_n (pc := 1) hx hb (dOk_at dX6_write 1 rfl) rfl (lv_at hl 1 rfl) ?_
  refine lv_iload_n (pc := 2) hx hb (dOk_at dX6_write 2 rfl) rfl (lv_at hl 2 rfl) ?_
  refine lv_iload_n (pc := 3) hx hb (dOk_at dX6_write 3 rfl) rfl (lv_at hl 3 rfl) ?_
  refine lv_iload (pc := 4) hx hb (dOk_at dX6_write 4 rfl) (lv_at hl 4 rfl) ?_
  refine lv_iload (pc := 6) hx hb (dOk_at dX6_write 5 rfl) (lv_at hl 5 rfl) ?_
  refine lv_iload (pc := 8) hx hb (dOk_at dX6_write 6 rfl) (lv_at hl 6 rfl) ?_
  refine lv_iload (pc := 10) hx hb (dOk_at dX6_write 7 rfl) (lv_at hl 7 rfl) ?_
  refine cl_V (pc := 12) (w' := [(b0, .inr (6, [.ref bs, .ref x0, .ref d0, .ref r0, .ref i0, .ref c0, .ref j0, .ref e0, .int lf, .int tr])), (bs, .inl (G.2.2.2, 4, .inr (.inr (.inr (.inr sh)))))]) (wr := []) (rest := []) fx hh hl.1 (h_X6_tryDeed_n b0 bs x0 d0 r0 i0 c0 j0 e0 lf tr sh a b ce sheet lane i n hv.1 hv.2.1) yV_X6_tryDeed tMX6_110 ⟨rfl, rfl, Nat.le_of_ble_eq_true rfl, Nat.le_of_ble_eq_true rfl⟩ 0 6 rfl rfl rfl [0, 1] [] [0, 1] rfl rfl rfl (by decide) (by decide) rfl rfl (Nat.le_of_ble_eq_true rfl) ⟨Nat.le_of_ble_eq_true rfl, Nat.le_of_ble_eq_true rfl⟩ (dOk_at dX6_write 8 rfl) (fun H locs hh => ?_)
  have hv := hv.2.2
  refine lv_istore (pc := 15) (lv' := [(8, .int (-1)), (0, .ref b0), (1, .int a), (2, .int b), (3, .int ce), (4, .int sheet), (5, .int lane), (6, .int i), (7, .int n)]) hx hb (dOk_at dX6_write 9 rfl) hl (by decide) rfl (fun ls hl => ?_)
  refine lv_iload (pc := 17) hx hb (dOk_at dX6_write 10 rfl) (lv_at hl 0 rfl) ?_
  refine lv_if_eq (pc := 19) (tgt := 29) hx hb (dOk_at dX6_write 11 rfl) (by decide) (fun c19 => ?_) (fun c19 => ?_)
  · exact absurd c19 (by decide)
  · refine lv_aload_n (pc := 22) hx hb (dOk_at dX6_write 12 rfl) rfl (lv_at hl 1 rfl) ?_
    refine lv_iload (pc := 23) hx hb (dOk_at dX6_write 13 rfl) (lv_at hl 0 rfl) ?_
    refine cl_V (pc := 25) (w' := [(b0, .inr (6, [.ref bs, .ref x0, .ref d0, .ref r0, .ref i0, .ref c0, .ref j0, .ref e0, .int (x_kf (-1)), .int tr])), (bs, .inl (G.2.2.2, 4, .inr (.inr (.inr (.inr sh)))))]) (wr := [(bs, .inl (G.2.2.2, 4, .inr (.inr (.inr (.inr sh)))))]) (rest := []) fx hh hl.1 (h_X6_keepFault b0 bs x0 d0 r0 i0 c0 j0 e0 lf tr (-1)) yV_X6_keepFault tMX6_70 ⟨rfl, rfl, Nat.le_of_ble_eq_true rfl, Nat.le_of_ble_eq_true rfl⟩ 0 6 rfl rfl rfl [0] [1] [1, 0] rfl rfl rfl (by decide) (by decide) rfl rfl (Nat.le_of_ble_eq_true rfl) ⟨Nat.le_of_ble_eq_true rfl, Nat.le_of_ble_eq_true rfl⟩ (dOk_at dX6_write 14 rfl) (fun H locs hh => ?_)
    obtain ⟨e0, e1⟩ := hv
    subst e0
    subst e1
    rw [hQ]
    exact r_iret (pc := 28) fx hh (dOk_at dX6_write 15 rfl)
set_option maxRecDepth 100000 in
set_option maxHeartbeats 4000000 in
theorem wk_X6_nights (l : Launch) (G : GT) (b0 : Nat) (i0 : Nat) (i1 : Nat) (bs : Nat) (x0 : Nat) (d0 : Nat) (r0 : Nat) (c0 : Nat) (j0 : Nat) (e0 : Nat) (lf : Int32) (tr : Int32) (hi : Int32) (wi : Int32) (fr : Int32) (fc : Int32) (lc : Int32) (str : Nat → Int32) (n : Int32) (R : Int32) (t2 : Nat → Int32) (h_X2_count : K_X2_count l G) (h_X2_strengthen : K_X2_strengthen l G) (h_X6_refusalOfWeather : K_X6_refusalOfWeather l G)
    (hv : ((x_rw hi wi n) = 0 → okD hi wi ∧ (okD hi wi ∧ ((s_count (s_strengthen (hi * wi).toNatClampNeg (n * fr) str) 9 (hi * wi).toNatClampNeg) = R ∧ (s_strengthen (hi * wi).toNatClampNeg (n * fr) str) = t2))) ∧ (¬ (x_rw hi wi n) = 0 → (x_rw hi wi n) = R ∧ str = t2)) :
    MF l G yX6_nights cX6_nights 3 (some .int) rm_X6_nights [.ref b0, .int n] [(b0, .inr (6, [.ref bs, .ref x0, .ref d0, .ref r0, .ref i0, .ref c0, .ref j0, .ref e0, .int lf, .int tr])), (i0, .inr (2, [.ref i1, .int hi, .int wi, .int fr, .int fc, .int lc])), (i1, .inl (G.2.1, 20, .inl str))] (some (.int R)) [(b0, .inr (6, [.ref bs, .ref x0, .ref d0, .ref r0, .ref i0, .ref c0, .ref j0, .ref e0, .int lf, .int tr])), (i0, .inr (2, [.ref i1, .int hi, .int wi, .int fr, .int fc, .int lc])), (i1, .inl (G.2.1, 20, .inl t2))] := by
  refine MF.of (by decide +kernel) (Nat.le_of_ble_eq_true rfl) ?_
  intro p e s m args below meth c A ls fx hh hl _
  have hx := fx.hx
  have hb := fx.hb
  have hl : lv_has ls 3 [(0, .ref b0), (1, .int n)] := hl
  obtain ⟨Q, hQ⟩ : ∃ Q, Q = ZZ G A (some (.int R)) [(b0, .inr (6, [.ref bs, .ref x0, .ref d0, .ref r0, .ref i0, .ref c0, .ref j0, .ref e0, .int lf, .int tr])), (i0, .inr (2, [.ref i1, .int hi, .int wi, .int fr, .int fc, .int lc])), (i1, .inl (G.2.1, 20, .inl t2))] below args s := ⟨_, rfl⟩
  rw [← hQ]
  refine lv_aload_n (pc := 0) hx hb (dOk_at dX6_nights 0 rfl) rfl (lv_at hl 0 rfl) ?_
  refine lv_iload_n (pc := 1) hx hb (dOk_at dX6_nights 1 rfl) rfl (lv_at hl 1 rfl) ?_
  refine cl_V (pc := 2) (w' := [(b0, .inr (6, [.ref bs, .ref x0, .ref d0, .ref r0, .ref i0, .ref c0, .ref j0, .ref e0, .int lf, .int tr])), (i0, .inr (2, [.ref i1, .int hi, .int wi, .int fr, .int fc, .int lc])), (i1, .inl (G.2.1, 20, .inl str))]) (wr := [(i1, .inl (G.2.1, 20, .inl str))]) (rest := []) fx hh hl.1 (h_X6_refusalOfWeather b0 i0 bs x0 d0 r0 c0 j0 e0 i1 lf tr hi wi fr fc lc n) yV_X6_refusalOfWeather tMX6_100 ⟨rfl, rfl, Nat.le_of_ble_eq_true rfl, Nat.le_of_ble_eq_true rfl⟩ 0 6 rfl rfl rfl [0, 1] [2] [1, 2, 0] rfl rfl rfl (by decide) (by decide) rfl rfl (Nat.le_of_ble_eq_true rfl) ⟨Nat.le_of_ble_eq_true rfl, Nat.le_of_ble_eq_true rfl⟩ (dOk_at dX6_nights 2 rfl) (fun H locs hh => ?_)
  refine lv_istore_n (pc := 5) (lv' := [(2, .int (x_rw hi wi n)), (0, .ref b0), (1, .int n)]) hx hb (dOk_at dX6_nights 3 rfl) rfl hl (by decide) rfl (fun ls hl => ?_)
  refine lv_iload_n (pc := 6) hx hb (dOk_at dX6_nights 4 rfl) rfl (lv_at hl 0 rfl) ?_
  refine lv_if_eq (pc := 7) (tgt := 12) hx hb (dOk_at dX6_nights 5 rfl) (by decide) (fun c7 => ?_) (fun c7 => ?_)
  · have hv := hv.1 c7
    refine lv_aload_n (pc := 12) hx hb (dOk_at dX6_nights 8 rfl) rfl (lv_at hl 1 rfl) ?_
    refine r_get (pc := 13) (ci := 6) fx hh inT6 rfl 4 (by decide) tFX6_41 rfl 0 rfl rfl (dOk_at dX6_nights 9 rfl) ?_
    refine lv_iload_n (pc := 16) hx hb (dOk_at dX6_nights 10 rfl) rfl (lv_at hl 2 rfl) ?_
    refine lv_aload_n (pc := 17) hx hb (dOk_at dX6_nights 11 rfl) rfl (lv_at hl 1 rfl) ?_
    refine r_get (pc := 18) (ci := 6) fx hh inT6 rfl 4 (by decide) tFX6_41 rfl 0 rfl rfl (dOk_at dX6_nights 12 rfl) ?_
    refine r_getN (pc := 21) (ci := 2) fx hh inT2 rfl 3 (by decide) nFX6_103 rfl 1 rfl rfl (dOk_at dX6_nights 13 rfl) ?_
    refine lv_imul (pc := 24) hx hb (dOk_at dX6_nights 14 rfl) ?_
    refine cl_VN (pc := 25) (w' := [(b0, .inr (6, [.ref bs, .ref x0, .ref d0, .ref r0, .ref i0, .ref c0, .ref j0, .ref e0, .int lf, .int tr])), (i0, .inr (2, [.ref i1, .int hi, .int wi, .int fr, .int fc, .int lc])), (i1, .inl (G.2.1, 20, .inl (s_strengthen (hi * wi).toNatClampNeg (n * fr) str)))]) (wr := [(b0, .inr (6, [.ref bs, .ref x0, .ref d0, .ref r0, .ref i0, .ref c0, .ref j0, .ref e0, .int lf, .int tr]))]) (rest := []) fx hh hl.1 (h_X2_strengthen i0 i1 hi wi fr fc lc (n * fr) str hv.1) yV_X2_strengthen nMX6_127 ⟨rfl, rfl, Nat.le_of_ble_eq_true rfl, Nat.le_of_ble_eq_true rfl⟩ 1 2 rfl rfl rfl [1, 2] [0] [0, 1, 2] rfl rfl rfl (by decide) (by decide) rfl rfl (Nat.le_of_ble_eq_true rfl) ⟨Nat.le_of_ble_eq_true rfl, Nat.le_of_ble_eq_true rfl⟩ (dOk_at dX6_nights 15 rfl) (fun H locs hh => ?_)
    have hv := hv.2
    refine lv_aload_n (pc := 28) hx hb (dOk_at dX6_nights 16 rfl) rfl (lv_at hl 1 rfl) ?_
    refine r_get (pc := 29) (ci := 6) fx hh inT6 rfl 4 (by decide) tFX6_41 rfl 0 rfl rfl (dOk_at dX6_nights 17 rfl) ?_
    refine lv_bipush (pc := 32) (v := 9) hx hb (dOk_at dX6_nights 18 rfl) (by decide) ?_
    refine cl_VN (pc := 34) (w' := [(b0, .inr (6, [.ref bs, .ref x0, .ref d0, .ref r0, .ref i0, .ref c0, .ref j0, .ref e0, .int lf, .int tr])), (i0, .inr (2, [.ref i1, .int hi, .int wi, .int fr, .int fc, .int lc])), (i1, .inl (G.2.1, 20, .inl (s_strengthen (hi * wi).toNatClampNeg (n * fr) str)))]) (wr := [(b0, .inr (6, [.ref bs, .ref x0, .ref d0, .ref r0, .ref i0, .ref c0, .ref j0, .ref e0, .int lf, .int tr]))]) (rest := []) fx hh hl.1 (h_X2_count i0 i1 hi wi fr fc lc 9 (s_strengthen (hi * wi).toNatClampNeg (n * fr) str) hv.1) yV_X2_count nMX6_131 ⟨rfl, rfl, Nat.le_of_ble_eq_true rfl, Nat.le_of_ble_eq_true rfl⟩ 1 2 rfl rfl rfl [1, 2] [0] [0, 1, 2] rfl rfl rfl (by decide) (by decide) rfl rfl (Nat.le_of_ble_eq_true rfl) ⟨Nat.le_of_ble_eq_true rfl, Nat.le_of_ble_eq_true rfl⟩ (dOk_at dX6_nights 19 rfl) (fun H locs hh => ?_)
    have hv := hv.2
    obtain ⟨e0, e1⟩ := hv
    subst e0
    subst e1
    rw [hQ]
    exact r_iret (pc := 37) fx hh (dOk_at dX6_nights 20 rfl)
  · have hv := hv.2 c7
    refine lv_iload_n (pc := 10) hx hb (dOk_at dX6_nights 6 rfl) rfl (lv_at hl 0 rfl) ?_
    obtain ⟨e0, e1⟩ := hv
    subst e0
    subst e1
    rw [hQ]
    exact r_iret (pc := 11) fx hh (dOk_at dX6_nights 7 rfl)
set_option maxRecDepth 100000 in
set_option maxHeartbeats 4000000 in
theorem wk_X6_thaw (l : Launch) (G : GT) (b0 : Nat) (i0 : Nat) (i1 : Nat) (bs : Nat) (x0 : Nat) (d0 : Nat) (r0 : Nat) (c0 : Nat) (j0 : Nat) (e0 : Nat) (lf : Int32) (tr : Int32) (hi : Int32) (wi : Int32) (fr : Int32) (fc : Int32) (lc : Int32) (str : Nat → Int32) (n : Int32) (R : Int32) (t2 : Nat → Int32) (h_X2_count : K_X2_count l G) (h_X2_strengthen : K_X2_strengthen l G) (h_X6_refusalOfWeather : K_X6_refusalOfWeather l G)
    (hv : ((x_rw hi wi n) = 0 → okD hi wi ∧ (okD hi wi ∧ ((s_count (s_strengthen (hi * wi).toNatClampNeg (-n) str) 0 (hi * wi).toNatClampNeg) = R ∧ (s_strengthen (hi * wi).toNatClampNeg (-n) str) = t2))) ∧ (¬ (x_rw hi wi n) = 0 → (x_rw hi wi n) = R ∧ str = t2)) :
    MF l G yX6_thaw cX6_thaw 3 (some .int) rm_X6_thaw [.ref b0, .int n] [(b0, .inr (6, [.ref bs, .ref x0, .ref d0, .ref r0, .ref i0, .ref c0, .ref j0, .ref e0, .int lf, .int tr])), (i0, .inr (2, [.ref i1, .int hi, .int wi, .int fr, .int fc, .int lc])), (i1, .inl (G.2.1, 20, .inl str))] (some (.int R)) [(b0, .inr (6, [.ref bs, .ref x0, .ref d0, .ref r0, .ref i0, .ref c0, .ref j0, .ref e0, .int lf, .int tr])), (i0, .inr (2, [.ref i1, .int hi, .int wi, .int fr, .int fc, .int lc])), (i1, .inl (G.2.1, 20, .inl t2))] := by
  refine MF.of (by decide +kernel) (Nat.le_of_ble_eq_true rfl) ?_
  intro p e s m args below meth c A ls fx hh hl _
  have hx := fx.hx
  have hb := fx.hb
  have hl : lv_has ls 3 [(0, .ref b0), (1, .int n)] := hl
  obtain ⟨Q, hQ⟩ : ∃ Q, Q = ZZ G A (some (.int R)) [(b0, .inr (6, [.ref bs, .ref x0, .ref d0, .ref r0, .ref i0, .ref c0, .ref j0, .ref e0, .int lf, .int tr])), (i0, .inr (2, [.ref i1, .int hi, .int wi, .int fr, .int fc, .int lc])), (i1, .inl (G.2.1, 20, .inl t2))] below args s := ⟨_, rfl⟩
  rw [← hQ]
  refine lv_aload_n (pc := 0) hx hb (dOk_at dX6_thaw 0 rfl) rfl (lv_at hl 0 rfl) ?_
  refine lv_iload_n (pc := 1) hx hb (dOk_at dX6_thaw 1 rfl) rfl (lv_at hl 1 rfl) ?_
  refine cl_V (pc := 2) (w' := [(b0, .inr (6, [.ref bs, .ref x0, .ref d0, .ref r0, .ref i0, .ref c0, .ref j0, .ref e0, .int lf, .int tr])), (i0, .inr (2, [.ref i1, .int hi, .int wi, .int fr, .int fc, .int lc])), (i1, .inl (G.2.1, 20, .inl str))]) (wr := [(i1, .inl (G.2.1, 20, .inl str))]) (rest := []) fx hh hl.1 (h_X6_refusalOfWeather b0 i0 bs x0 d0 r0 c0 j0 e0 i1 lf tr hi wi fr fc lc n) yV_X6_refusalOfWeather tMX6_100 ⟨rfl, rfl, Nat.le_of_ble_eq_true rfl, Nat.le_of_ble_eq_true rfl⟩ 0 6 rfl rfl rfl [0, 1] [2] [1, 2, 0] rfl rfl rfl (by decide) (by decide) rfl rfl (Nat.le_of_ble_eq_true rfl) ⟨Nat.le_of_ble_eq_true rfl, Nat.le_of_ble_eq_true rfl⟩ (dOk_at dX6_thaw 2 rfl) (fun H locs hh => ?_)
  refine lv_istore_n (pc := 5) (lv' := [(2, .int (x_rw hi wi n)), (0, .ref b0), (1, .int n)]) hx hb (dOk_at dX6_thaw 3 rfl) rfl hl (by decide) rfl (fun ls hl => ?_)
  refine lv_iload_n (pc := 6) hx hb (dOk_at dX6_thaw 4 rfl) rfl (lv_at hl 0 rfl) ?_
  refine lv_if_eq (pc := 7) (tgt := 12) hx hb (dOk_at dX6_thaw 5 rfl) (by decide) (fun c7 => ?_) (fun c7 => ?_)
  · have hv := hv.1 c7
    refine lv_aload_n (pc := 12) hx hb (dOk_at dX6_thaw 8 rfl) rfl (lv_at hl 1 rfl) ?_
    refine r_get (pc := 13) (ci := 6) fx hh inT6 rfl 4 (by decide) tFX6_41 rfl 0 rfl rfl (dOk_at dX6_thaw 9 rfl) ?_
    refine lv_iload_n (pc := 16) hx hb (dOk_at dX6_thaw 10 rfl) rfl (lv_at hl 2 rfl) ?_
    refine lv_ineg (pc := 17) hx hb (dOk_at dX6_thaw 11 rfl) ?_
    refine cl_VN (pc := 18) (w' := [(b0, .inr (6, [.ref bs, .ref x0, .ref d0, .ref r0, .ref i0, .ref c0, .ref j0, .ref e0, .int lf, .int tr])), (i0, .inr (2, [.ref i1, .int hi, .int wi, .int fr, .int fc, .int lc])), (i1, .inl (G.2.1, 20, .inl (s_strengthen (hi * wi).toNatClampNeg (-n) str)))]) (wr := [(b0, .inr (6, [.ref bs, .ref x0, .ref d0, .ref r0, .ref i0, .ref c0, .ref j0, .ref e0, .int lf, .int tr]))]) (rest := []) fx hh hl.1 (h_X2_strengthen i0 i1 hi wi fr fc lc (-n) str hv.1) yV_X2_strengthen nMX6_127 ⟨rfl, rfl, Nat.le_of_ble_eq_true rfl, Nat.le_of_ble_eq_true rfl⟩ 1 2 rfl rfl rfl [1, 2] [0] [0, 1, 2] rfl rfl rfl (by decide) (by decide) rfl rfl (Nat.le_of_ble_eq_true rfl) ⟨Nat.le_of_ble_eq_true rfl, Nat.le_of_ble_eq_true rfl⟩ (dOk_at dX6_thaw 12 rfl) (fun H locs hh => ?_)
    have hv := hv.2
    refine lv_aload_n (pc := 21) hx hb (dOk_at dX6_thaw 13 rfl) rfl (lv_at hl 1 rfl) ?_
    refine r_get (pc := 22) (ci := 6) fx hh inT6 rfl 4 (by decide) tFX6_41 rfl 0 rfl rfl (dOk_at dX6_thaw 14 rfl) ?_
    refine lv_iconst (pc := 25) (v := 0) hx hb (dOk_at dX6_thaw 15 rfl) (by decide) ?_
    refine cl_VN (pc := 26) (w' := [(b0, .inr (6, [.ref bs, .ref x0, .ref d0, .ref r0, .ref i0, .ref c0, .ref j0, .ref e0, .int lf, .int tr])), (i0, .inr (2, [.ref i1, .int hi, .int wi, .int fr, .int fc, .int lc])), (i1, .inl (G.2.1, 20, .inl (s_strengthen (hi * wi).toNatClampNeg (-n) str)))]) (wr := [(b0, .inr (6, [.ref bs, .ref x0, .ref d0, .ref r0, .ref i0, .ref c0, .ref j0, .ref e0, .int lf, .int tr]))]) (rest := []) fx hh hl.1 (h_X2_count i0 i1 hi wi fr fc lc 0 (s_strengthen (hi * wi).toNatClampNeg (-n) str) hv.1) yV_X2_count nMX6_131 ⟨rfl, rfl, Nat.le_of_ble_eq_true rfl, Nat.le_of_ble_eq_true rfl⟩ 1 2 rfl rfl rfl [1, 2] [0] [0, 1, 2] rfl rfl rfl (by decide) (by decide) rfl rfl (Nat.le_of_ble_eq_true rfl) ⟨Nat.le_of_ble_eq_true rfl, Nat.le_of_ble_eq_true rfl⟩ (dOk_at dX6_thaw 16 rfl) (fun H locs hh => ?_)
    have hv := hv.2
    obtain ⟨e0, e1⟩ := hv
    subst e0
    subst e1
    rw [hQ]
    exact r_iret (pc := 29) fx hh (dOk_at dX6_thaw 17 rfl)
  · have hv := hv.2 c7
    refine lv_iload_n (pc := 10) hx hb (dOk_at dX6_thaw 6 rfl) rfl (lv_at hl 0 rfl) ?_
    obtain ⟨e0, e1⟩ := hv
    subst e0
    subst e1
    rw [hQ]
    exact r_iret (pc := 11) fx hh (dOk_at dX6_thaw 7 rfl)
set_option maxRecDepth 100000 in
set_option maxHeartbeats 4000000 in
theorem wk_X6_bond (l : Launch) (G : GT) (b0 : Nat) (c0 : Nat) (c1 : Nat) (c2 : Nat) (i0 : Nat) (i1 : Nat) (bs : Nat) (x0 : Nat) (d0 : Nat) (r0 : Nat) (j0 : Nat) (e0 : Nat) (lf : Int32) (tr : Int32) (cnt : Int32) (hi : Int32) (wi : Int32) (fr : Int32) (fc : Int32) (lc : Int32) (ck : Nat → Int32) (cwt : Nat → Int32) (str : Nat → Int32) (a : Int32) (b : Int32) (fro : Int32) (to : Int32) (k : Int32) (R : Int32) (h_X0_load : K_X0_load l G) (h_X2_bearing : K_X2_bearing l G) (h_X2_shortest : K_X2_shortest l G) (h_X2_strokeOfBond : K_X2_strokeOfBond l G) (h_X6_isBondKnown : K_X6_isBondKnown l G) (h_X6_isWithin : K_X6_isWithin l G)
    (hv : (¬ (x_bKn hi wi cnt a b fro to) = 0 → (¬ (s_in k (-1) 39) = 0 → vp_in a 4 ∧ (okD hi wi ∧ (vp_in b 4 ∧ (okD hi wi ∧ ((¬ k = (-1) → ((s_shortest hi wi fc lc fro to (s_bearing str (s_load ck cwt a) 0 (hi * wi).toNatClampNeg) (s_bearing str (s_load ck cwt b) 0 (hi * wi).toNatClampNeg)) ≤ k → (-9 : Int32) = R) ∧ (¬ (s_shortest hi wi fc lc fro to (s_bearing str (s_load ck cwt a) 0 (hi * wi).toNatClampNeg) (s_bearing str (s_load ck cwt b) 0 (hi * wi).toNatClampNeg)) ≤ k → vp_in k 40 ∧ (s_strokeOf hi wi fc lc k fro to (s_bearing str (s_load ck cwt a) 0 (hi * wi).toNatClampNeg) (s_bearing str (s_load ck cwt b) 0 (hi * wi).toNatClampNeg)) = R)) ∧ (k = (-1) → (s_shortest hi wi fc lc fro to (s_bearing str (s_load ck cwt a) 0 (hi * wi).toNatClampNeg) (s_bearing str (s_load ck cwt b) 0 (hi * wi).toNatClampNeg)) = R)))))) ∧ ((s_in k (-1) 39) = 0 → (-2 : Int32) = R)) ∧ ((x_bKn hi wi cnt a b fro to) = 0 → (-1 : Int32) = R)) :
    MF l G yX6_bond cX6_bond 9 (some .int) rm_X6_bond [.ref b0, .int a, .int b, .int fro, .int to, .int k] [(b0, .inr (6, [.ref bs, .ref x0, .ref d0, .ref r0, .ref i0, .ref c0, .ref j0, .ref e0, .int lf, .int tr])), (c0, .inr (0, [.ref c1, .ref c2, .int cnt])), (c1, .inl (G.2.1, 4, .inl ck)), (c2, .inl (G.2.1, 4, .inl cwt)), (i0, .inr (2, [.ref i1, .int hi, .int wi, .int fr, .int fc, .int lc])), (i1, .inl (G.2.1, 20, .inl str))] (some (.int R)) [(b0, .inr (6, [.ref bs, .ref x0, .ref d0, .ref r0, .ref i0, .ref c0, .ref j0, .ref e0, .int lf, .int tr])), (c0, .inr (0, [.ref c1, .ref c2, .int cnt])), (c1, .inl (G.2.1, 4, .inl ck)), (c2, .inl (G.2.1, 4, .inl cwt)), (i0, .inr (2, [.ref i1, .int hi, .int wi, .int fr, .int fc, .int lc])), (i1, .inl (G.2.1, 20, .inl str))] := by
  refine MF.of (by decide +kernel) (Nat.le_of_ble_eq_true rfl) ?_
  intro p e s m args below meth c A ls fx hh hl _
  have hx := fx.hx
  have hb := fx.hb
  have hl : lv_has ls 9 [(0, .ref b0), (1, .int a), (2, .int b), (3, .int fro), (4, .int to), (5, .int k)] := hl
  obtain ⟨Q, hQ⟩ : ∃ Q, Q = ZZ G A (some (.int R)) [(b0, .inr (6, [.ref bs, .ref x0, .ref d0, .ref r0, .ref i0, .ref c0, .ref j0, .ref e0, .int lf, .int tr])), (c0, .inr (0, [.ref c1, .ref c2, .int cnt])), (c1, .inl (G.2.1, 4, .inl ck)), (c2, .inl (G.2.1, 4, .inl cwt)), (i0, .inr (2, [.ref i1, .int hi, .int wi, .int fr, .int fc, .int lc])), (i1, .inl (G.2.1, 20, .inl str))] below args s := ⟨_, rfl⟩
  rw [← hQ]
  refine lv_aload_n (pc := 0) hx hb (dOk_at dX6_bond 0 rfl) rfl (lv_at hl 0 rfl) ?_
  refine lv_iload_n (pc := 1) hx hb (dOk_at dX6_bond 1 rfl) rfl (lv_at hl 1 rfl) ?_
  refine lv_iload_n (pc := 2) hx hb (dOk_at dX6_bond 2 rfl) rfl (lv_at hl 2 rfl) ?_
  refine lv_iload_n (pc := 3) hx hb (dOk_at dX6_bond 3 rfl) rfl (lv_at hl 3 rfl) ?_
  refine lv_iload (pc := 4) hx hb (dOk_at dX6_bond 4 rfl) (lv_at hl 4 rfl) ?_
  refine cl_V (pc := 6) (w' := [(b0, .inr (6, [.ref bs, .ref x0, .ref d0, .ref r0, .ref i0, .ref c0, .ref j0, .ref e0, .int lf, .int tr])), (c0, .inr (0, [.ref c1, .ref c2, .int cnt])), (c1, .inl (G.2.1, 4, .inl ck)), (c2, .inl (G.2.1, 4, .inl cwt)), (i0, .inr (2, [.ref i1, .int hi, .int wi, .int fr, .int fc, .int lc])), (i1, .inl (G.2.1, 20, .inl str))]) (wr := [(c1, .inl (G.2.1, 4, .inl ck)), (c2, .inl (G.2.1, 4, .inl cwt)), (i1, .inl (G.2.1, 20, .inl str))]) (rest := []) fx hh hl.1 (h_X6_isBondKnown b0 c0 i0 bs x0 d0 r0 j0 e0 c1 c2 i1 lf tr cnt hi wi fr fc lc a b fro to) yV_X6_isBondKnown tMX6_134 ⟨rfl, rfl, Nat.le_of_ble_eq_true rfl, Nat.le_of_ble_eq_true rfl⟩ 0 6 rfl rfl rfl [0, 1, 4] [2, 3, 5] [3, 4, 0, 1, 5, 2] rfl rfl rfl (by decide) (by decide) rfl rfl (Nat.le_of_ble_eq_true rfl) ⟨Nat.le_of_ble_eq_true rfl, Nat.le_of_ble_eq_true rfl⟩ (dOk_at dX6_bond 5 rfl) (fun H locs hh => ?_)
  refine lv_if_ne (pc := 9) (tgt := 14) hx hb (dOk_at dX6_bond 6 rfl) (by decide) (fun c9 => ?_) (fun c9 => ?_)
  · have hv := hv.1 c9
    refine lv_iload (pc := 14) hx hb (dOk_at dX6_bond 9 rfl) (lv_at hl 5 rfl) ?_
    refine lv_iconst (pc := 16) (v := (-1)) hx hb (dOk_at dX6_bond 10 rfl) (by decide) ?_
    refine lv_bipush (pc := 17) (v := 39) hx hb (dOk_at dX6_bond 11 rfl) (by decide) ?_
    refine cl_S (pc := 19) (w' := [(b0, .inr (6, [.ref bs, .ref x0, .ref d0, .ref r0, .ref i0, .ref c0, .ref j0, .ref e0, .int lf, .int tr])), (c0, .inr (0, [.ref c1, .ref c2, .int cnt])), (c1, .inl (G.2.1, 4, .inl ck)), (c2, .inl (G.2.1, 4, .inl cwt)), (i0, .inr (2, [.ref i1, .int hi, .int wi, .int fr, .int fc, .int lc])), (i1, .inl (G.2.1, 20, .inl str))]) (wr := [(b0, .inr (6, [.ref bs, .ref x0, .ref d0, .ref r0, .ref i0, .ref c0, .ref j0, .ref e0, .int lf, .int tr])), (c0, .inr (0, [.ref c1, .ref c2, .int cnt])), (c1, .inl (G.2.1, 4, .inl ck)), (c2, .inl (G.2.1, 4, .inl cwt)), (i0, .inr (2, [.ref i1, .int hi, .int wi, .int fr, .int fc, .int lc])), (i1, .inl (G.2.1, 20, .inl str))]) (rest := []) fx hh hl.1 (h_X6_isWithin k (-1) 39) yS_X6_isWithin tMX6_96 ⟨rfl, rfl, Nat.le_of_ble_eq_true rfl, Nat.le_of_ble_eq_true rfl⟩ [] [0, 1, 2, 3, 4, 5] [0, 1, 2, 3, 4, 5] rfl rfl rfl (by decide) (by decide) rfl rfl (Nat.le_of_ble_eq_true rfl) ⟨Nat.le_of_ble_eq_true rfl, Nat.le_of_ble_eq_true rfl⟩ (dOk_at dX6_bond 12 rfl) (fun H locs hh => ?_)
    refine lv_if_ne (pc := 22) (tgt := 28) hx hb (dOk_at dX6_bond 13 rfl) (by decide) (fun c22 => ?_) (fun c22 => ?_)
    · have hv := hv.1 c22
      refine lv_aload_n (pc := 28) hx hb (dOk_at dX6_bond 16 rfl) rfl (lv_at hl 0 rfl) ?_
      refine r_get (pc := 29) (ci := 6) fx hh inT6 rfl 4 (by decide) tFX6_41 rfl 0 rfl rfl (dOk_at dX6_bond 17 rfl) ?_
      refine lv_aload_n (pc := 32) hx hb (dOk_at dX6_bond 18 rfl) rfl (lv_at hl 0 rfl) ?_
      refine r_get (pc := 33) (ci := 6) fx hh inT6 rfl 5 (by decide) tFX6_48 rfl 0 rfl rfl (dOk_at dX6_bond 19 rfl) ?_
      refine lv_iload_n (pc := 36) hx hb (dOk_at dX6_bond 20 rfl) rfl (lv_at hl 1 rfl) ?_
      refine cl_VN (pc := 37) (w' := [(b0, .inr (6, [.ref bs, .ref x0, .ref d0, .ref r0, .ref i0, .ref c0, .ref j0, .ref e0, .int lf, .int tr])), (c0, .inr (0, [.ref c1, .ref c2, .int cnt])), (c1, .inl (G.2.1, 4, .inl ck)), (c2, .inl (G.2.1, 4, .inl cwt)), (i0, .inr (2, [.ref i1, .int hi, .int wi, .int fr, .int fc, .int lc])), (i1, .inl (G.2.1, 20, .inl str))]) (wr := [(b0, .inr (6, [.ref bs, .ref x0, .ref d0, .ref r0, .ref i0, .ref c0, .ref j0, .ref e0, .int lf, .int tr])), (i0, .inr (2, [.ref i1, .int hi, .int wi, .int fr, .int fc, .int lc])), (i1, .inl (G.2.1, 20, .inl str))]) (rest := [.ref i0]) fx hh hl.1 (h_X0_load c0 c1 c2 cnt a ck cwt hv.1) yV_X0_load nMX6_85 ⟨rfl, rfl, Nat.le_of_ble_eq_true rfl, Nat.le_of_ble_eq_true rfl⟩ 1 0 rfl rfl rfl [1, 2, 3] [0, 4, 5] [0, 3, 4, 5, 1, 2] rfl rfl rfl (by decide) (by decide) rfl rfl (Nat.le_of_ble_eq_true rfl) ⟨Nat.le_of_ble_eq_true rfl, Nat.le_of_ble_eq_true rfl⟩ (dOk_at dX6_bond 21 rfl) (fun H locs hh => ?_)
      have hv := hv.2
      refine lv_iconst (pc := 40) (v := 0) hx hb (dOk_at dX6_bond 22 rfl) (by decide) ?_
      refine cl_VN (pc := 41) (w' := [(b0, .inr (6, [.ref bs, .ref x0, .ref d0, .ref r0, .ref i0, .ref c0, .ref j0, .ref e0, .int lf, .int tr])), (c0, .inr (0, [.ref c1, .ref c2, .int cnt])), (c1, .inl (G.2.1, 4, .inl ck)), (c2, .inl (G.2.1, 4, .inl cwt)), (i0, .inr (2, [.ref i1, .int hi, .int wi, .int fr, .int fc, .int lc])), (i1, .inl (G.2.1, 20, .inl str))]) (wr := [(b0, .inr (6, [.ref bs, .ref x0, .ref d0, .ref r0, .ref i0, .ref c0, .ref j0, .ref e0, .int lf, .int tr])), (c0, .inr (0, [.ref c1, .ref c2, .int cnt])), (c1, .inl (G.2.1, 4, .inl ck)), (c2, .inl (G.2.1, 4, .inl cwt))]) (rest := []) fx hh hl.1 (h_X2_bearing i0 i1 hi wi fr fc lc (s_load ck cwt a) 0 str hv.1) yV_X2_bearing nMX6_88 ⟨rfl, rfl, Nat.le_of_ble_eq_true rfl, Nat.le_of_ble_eq_true rfl⟩ 4 2 rfl rfl rfl [4, 5] [0, 1, 2, 3] [0, 1, 2, 3, 4, 5] rfl rfl rfl (by decide) (by decide) rfl rfl (Nat.le_of_ble_eq_true rfl) ⟨Nat.le_of_ble_eq_true rfl, Nat.le_of_ble_eq_true rfl⟩ (dOk_at dX6_bond 23 rfl) (fun H locs hh => ?_)
      have hv := hv.2
      refine lv_istore (pc := 44) (lv' := [(6, .int (s_bearing str (s_load ck cwt a) 0 (hi * wi).toNatClampNeg)), (0, .ref b0), (1, .int a), (2, .int b), (3, .int fro), (4, .int to), (5, .int k)]) hx hb (dOk_at dX6_bond 24 rfl) hl (by decide) rfl (fun ls hl => ?_)
      refine lv_aload_n (pc := 46) hx hb (dOk_at dX6_bond 25 rfl) rfl (lv_at hl 1 rfl) ?_
      refine r_get (pc := 47) (ci := 6) fx hh inT6 rfl 4 (by decide) tFX6_41 rfl 0 rfl rfl (dOk_at dX6_bond 26 rfl) ?_
      refine lv_aload_n (pc := 50) hx hb (dOk_at dX6_bond 27 rfl) rfl (lv_at hl 1 rfl) ?_
      refine r_get (pc := 51) (ci := 6) fx hh inT6 rfl 5 (by decide) tFX6_48 rfl 0 rfl rfl (dOk_at dX6_bond 28 rfl) ?_
      refine lv_iload_n (pc := 54) hx hb (dOk_at dX6_bond 29 rfl) rfl (lv_at hl 3 rfl) ?_
      refine cl_VN (pc := 55) (w' := [(b0, .inr (6, [.ref bs, .ref x0, .ref d0, .ref r0, .ref i0, .ref c0, .ref j0, .ref e0, .int lf, .int tr])), (c0, .inr (0, [.ref c1, .ref c2, .int cnt])), (c1, .inl (G.2.1, 4, .inl ck)), (c2, .inl (G.2.1, 4, .inl cwt)), (i0, .inr (2, [.ref i1, .int hi, .int wi, .int fr, .int fc, .int lc])), (i1, .inl (G.2.1, 20, .inl str))]) (wr := [(b0, .inr (6, [.ref bs, .ref x0, .ref d0, .ref r0, .ref i0, .ref c0, .ref j0, .ref e0, .int lf, .int tr])), (i0, .inr (2, [.ref i1, .int hi, .int wi, .int fr, .int fc, .int lc])), (i1, .inl (G.2.1, 20, .inl str))]) (rest := [.ref i0]) fx hh hl.1 (h_X0_load c0 c1 c2 cnt b ck cwt hv.1) yV_X0_load nMX6_85 ⟨rfl, rfl, Nat.le_of_ble_eq_true rfl, Nat.le_of_ble_eq_true rfl⟩ 1 0 rfl rfl rfl [1, 2, 3] [0, 4, 5] [0, 3, 4, 5, 1, 2] rfl rfl rfl (by decide) (by decide) rfl rfl (Nat.le_of_ble_eq_true rfl) ⟨Nat.le_of_ble_eq_true rfl, Nat.le_of_ble_eq_true rfl⟩ (dOk_at dX6_bond 30 rfl) (fun H locs hh => ?_)
      have hv := hv.2
      refine lv_iconst (pc := 58) (v := 0) hx hb (dOk_at dX6_bond 31 rfl) (by decide) ?_
      refine cl_VN (pc := 59) (w' := [(b0, .inr (6, [.ref bs, .ref x0, .ref d0, .ref r0, .ref i0, .ref c0, .ref j0, .ref e0, .int lf, .int tr])), (c0, .inr (0, [.ref c1, .ref c2, .int cnt])), (c1, .inl (G.2.1, 4, .inl ck)), (c2, .inl (G.2.1, 4, .inl cwt)), (i0, .inr (2, [.ref i1, .int hi, .int wi, .int fr, .int fc, .int lc])), (i1, .inl (G.2.1, 20, .inl str))]) (wr := [(b0, .inr (6, [.ref bs, .ref x0, .ref d0, .ref r0, .ref i0, .ref c0, .ref j0, .ref e0, .int lf, .int tr])), (c0, .inr (0, [.ref c1, .ref c2, .int cnt])), (c1, .inl (G.2.1, 4, .inl ck)), (c2, .inl (G.2.1, 4, .inl cwt))]) (rest := []) fx hh hl.1 (h_X2_bearing i0 i1 hi wi fr fc lc (s_load ck cwt b) 0 str hv.1) yV_X2_bearing nMX6_88 ⟨rfl, rfl, Nat.le_of_ble_eq_true rfl, Nat.le_of_ble_eq_true rfl⟩ 4 2 rfl rfl rfl [4, 5] [0, 1, 2, 3] [0, 1, 2, 3, 4, 5] rfl rfl rfl (by decide) (by decide) rfl rfl (Nat.le_of_ble_eq_true rfl) ⟨Nat.le_of_ble_eq_true rfl, Nat.le_of_ble_eq_true rfl⟩ (dOk_at dX6_bond 32 rfl) (fun H locs hh => ?_)
      have hv := hv.2
      refine lv_istore (pc := 62) (lv' := [(7, .int (s_bearing str (s_load ck cwt b) 0 (hi * wi).toNatClampNeg)), (6, .int (s_bearing str (s_load ck cwt a) 0 (hi * wi).toNatClampNeg)), (0, .ref b0), (1, .int a), (2, .int b), (3, .int fro), (4, .int to), (5, .int k)]) hx hb (dOk_at dX6_bond 33 rfl) hl (by decide) rfl (fun ls hl => ?_)
      refine lv_aload_n (pc := 64) hx hb (dOk_at dX6_bond 34 rfl) rfl (lv_at hl 2 rfl) ?_
      refine r_get (pc := 65) (ci := 6) fx hh inT6 rfl 4 (by decide) tFX6_41 rfl 0 rfl rfl (dOk_at dX6_bond 35 rfl) ?_
      refine lv_iload_n (pc := 68) hx hb (dOk_at dX6_bond 36 rfl) rfl (lv_at hl 5 rfl) ?_
      refine lv_iload (pc := 69) hx hb (dOk_at dX6_bond 37 rfl) (lv_at hl 6 rfl) ?_
      refine lv_iload (pc := 71) hx hb (dOk_at dX6_bond 38 rfl) (lv_at hl 1 rfl) ?_
      refine lv_iload (pc := 73) hx hb (dOk_at dX6_bond 39 rfl) (lv_at hl 0 rfl) ?_
      refine cl_VN (pc := 75) (w' := [(b0, .inr (6, [.ref bs, .ref x0, .ref d0, .ref r0, .ref i0, .ref c0, .ref j0, .ref e0, .int lf, .int tr])), (c0, .inr (0, [.ref c1, .ref c2, .int cnt])), (c1, .inl (G.2.1, 4, .inl ck)), (c2, .inl (G.2.1, 4, .inl cwt)), (i0, .inr (2, [.ref i1, .int hi, .int wi, .int fr, .int fc, .int lc])), (i1, .inl (G.2.1, 20, .inl str))]) (wr := [(b0, .inr (6, [.ref bs, .ref x0, .ref d0, .ref r0, .ref i0, .ref c0, .ref j0, .ref e0, .int lf, .int tr])), (c0, .inr (0, [.ref c1, .ref c2, .int cnt])), (c1, .inl (G.2.1, 4, .inl ck)), (c2, .inl (G.2.1, 4, .inl cwt)), (i1, .inl (G.2.1, 20, .inl str))]) (rest := []) fx hh hl.1 (h_X2_shortest i0 i1 hi wi fr fc lc fro to (s_bearing str (s_load ck cwt a) 0 (hi * wi).toNatClampNeg) (s_bearing str (s_load ck cwt b) 0 (hi * wi).toNatClampNeg)) yV_X2_shortest nMX6_137 ⟨rfl, rfl, Nat.le_of_ble_eq_true rfl, Nat.le_of_ble_eq_true rfl⟩ 4 2 rfl rfl rfl [4] [0, 1, 2, 3, 5] [0, 1, 2, 3, 5, 4] rfl rfl rfl (by decide) (by decide) rfl rfl (Nat.le_of_ble_eq_true rfl) ⟨Nat.le_of_ble_eq_true rfl, Nat.le_of_ble_eq_true rfl⟩ (dOk_at dX6_bond 40 rfl) (fun H locs hh => ?_)
      refine lv_istore (pc := 78) (lv' := [(8, .int (s_shortest hi wi fc lc fro to (s_bearing str (s_load ck cwt a) 0 (hi * wi).toNatClampNeg) (s_bearing str (s_load ck cwt b) 0 (hi * wi).toNatClampNeg))), (7, .int (s_bearing str (s_load ck cwt b) 0 (hi * wi).toNatClampNeg)), (6, .int (s_bearing str (s_load ck cwt a) 0 (hi * wi).toNatClampNeg)), (0, .ref b0), (1, .int a), (2, .int b), (3, .int fro), (4, .int to), (5, .int k)]) hx hb (dOk_at dX6_bond 41 rfl) hl (by decide) rfl (fun ls hl => ?_)
      refine lv_iload (pc := 80) hx hb (dOk_at dX6_bond 42 rfl) (lv_at hl 8 rfl) ?_
      refine lv_iconst (pc := 82) (v := (-1)) hx hb (dOk_at dX6_bond 43 rfl) (by decide) ?_
      refine lv_icmp_ne (pc := 83) (tgt := 89) hx hb (dOk_at dX6_bond 44 rfl) (by decide) (fun c83 => ?_) (fun c83 => ?_)
      · have hv := hv.1 c83
        refine lv_iload (pc := 89) hx hb (dOk_at dX6_bond 47 rfl) (lv_at hl 8 rfl) ?_
        refine lv_iload (pc := 91) hx hb (dOk_at dX6_bond 48 rfl) (lv_at hl 0 rfl) ?_
        refine lv_icmp_ge (pc := 93) (tgt := 115) hx hb (dOk_at dX6_bond 49 rfl) (by decide) (fun c93 => ?_) (fun c93 => ?_)
        · have hv := hv.1 c93
          refine lv_bipush (pc := 115) (v := (-9)) hx hb (dOk_at dX6_bond 59 rfl) (by decide) ?_
          have e0 := hv
          subst e0
          rw [hQ]
          exact r_iret (pc := 117) fx hh (dOk_at dX6_bond 60 rfl)
        · have hv := hv.2 c93
          refine lv_aload_n (pc := 96) hx hb (dOk_at dX6_bond 50 rfl) rfl (lv_at hl 3 rfl) ?_
          refine r_get (pc := 97) (ci := 6) fx hh inT6 rfl 4 (by decide) tFX6_41 rfl 0 rfl rfl (dOk_at dX6_bond 51 rfl) ?_
          refine lv_iload (pc := 100) hx hb (dOk_at dX6_bond 52 rfl) (lv_at hl 8 rfl) ?_
          refine lv_iload_n (pc := 102) hx hb (dOk_at dX6_bond 53 rfl) rfl (lv_at hl 6 rfl) ?_
          refine lv_iload (pc := 103) hx hb (dOk_at dX6_bond 54 rfl) (lv_at hl 7 rfl) ?_
          refine lv_iload (pc := 105) hx hb (dOk_at dX6_bond 55 rfl) (lv_at hl 2 rfl) ?_
          refine lv_iload (pc := 107) hx hb (dOk_at dX6_bond 56 rfl) (lv_at hl 1 rfl) ?_
          refine cl_VN (pc := 109) (w' := [(b0, .inr (6, [.ref bs, .ref x0, .ref d0, .ref r0, .ref i0, .ref c0, .ref j0, .ref e0, .int lf, .int tr])), (c0, .inr (0, [.ref c1, .ref c2, .int cnt])), (c1, .inl (G.2.1, 4, .inl ck)), (c2, .inl (G.2.1, 4, .inl cwt)), (i0, .inr (2, [.ref i1, .int hi, .int wi, .int fr, .int fc, .int lc])), (i1, .inl (G.2.1, 20, .inl str))]) (wr := [(b0, .inr (6, [.ref bs, .ref x0, .ref d0, .ref r0, .ref i0, .ref c0, .ref j0, .ref e0, .int lf, .int tr])), (c0, .inr (0, [.ref c1, .ref c2, .int cnt])), (c1, .inl (G.2.1, 4, .inl ck)), (c2, .inl (G.2.1, 4, .inl cwt)), (i1, .inl (G.2.1, 20, .inl str))]) (rest := []) fx hh hl.1 (h_X2_strokeOfBond i0 i1 hi wi fr fc lc k fro to (s_bearing str (s_load ck cwt a) 0 (hi * wi).toNatClampNeg) (s_bearing str (s_load ck cwt b) 0 (hi * wi).toNatClampNeg) hv.1) yV_X2_strokeOfBond nMX6_140 ⟨rfl, rfl, Nat.le_of_ble_eq_true rfl, Nat.le_of_ble_eq_true rfl⟩ 4 2 rfl rfl rfl [4] [0, 1, 2, 3, 5] [0, 1, 2, 3, 5, 4] rfl rfl rfl (by decide) (by decide) rfl rfl (Nat.le_of_ble_eq_true rfl) ⟨Nat.le_of_ble_eq_true rfl, Nat.le_of_ble_eq_true rfl⟩ (dOk_at dX6_bond 57 rfl) (fun H locs hh => ?_)
          have hv := hv.2
          refine lv_goto (pc := 112) (tgt := 117) hx hb (dOk_at dX6_bond 58 rfl) (by decide) ?_
          have e0 := hv
          subst e0
          rw [hQ]
          exact r_iret (pc := 117) fx hh (dOk_at dX6_bond 60 rfl)
      · have hv := hv.2 c83
        refine lv_iload (pc := 86) hx hb (dOk_at dX6_bond 45 rfl) (lv_at hl 0 rfl) ?_
        have e0 := hv
        subst e0
        rw [hQ]
        exact r_iret (pc := 88) fx hh (dOk_at dX6_bond 46 rfl)
    · have hv := hv.2 c22
      refine lv_bipush (pc := 25) (v := (-2)) hx hb (dOk_at dX6_bond 14 rfl) (by decide) ?_
      have e0 := hv
      subst e0
      rw [hQ]
      exact r_iret (pc := 27) fx hh (dOk_at dX6_bond 15 rfl)
  · have hv := hv.2 c9
    refine lv_iconst (pc := 12) (v := (-1)) hx hb (dOk_at dX6_bond 7 rfl) (by decide) ?_
    have e0 := hv
    subst e0
    rw [hQ]
    exact r_iret (pc := 13) fx hh (dOk_at dX6_bond 8 rfl)
set_option maxRecDepth 100000 in
set_option maxHeartbeats 4000000 in
theorem wk_X6_holds (l : Launch) (G : GT) (b0 : Nat) (c0 : Nat) (c1 : Nat) (c2 : Nat) (i0 : Nat) (i1 : Nat) (bs : Nat) (x0 : Nat) (d0 : Nat) (r0 : Nat) (j0 : Nat) (e0 : Nat) (lf : Int32) (tr : Int32) (cnt : Int32) (hi : Int32) (wi : Int32) (fr : Int32) (fc : Int32) (lc : Int32) (ck : Nat → Int32) (cwt : Nat → Int32) (str : Nat → Int32) (a : Int32) (b : Int32) (fro : Int32) (to : Int32) (R : Int32) (J18 : Nat → Int32 → Prop) (h_X0_load : K_X0_load l G) (h_X2_bearing : K_X2_bearing l G) (h_X2_shortest : K_X2_shortest l G) (h_X6_isBondKnown : K_X6_isBondKnown l G)
    (hv : (¬ (x_bKn hi wi cnt a b fro to) = 0 → ∃ k2 : Nat, J18 k2 9) ∧ ((x_bKn hi wi cnt a b fro to) = 0 → (-1 : Int32) = R))
    (hv18 : ∀ (n18 : Nat) (x18_5 : Int32), J18 n18 x18_5 → (x18_5 < 0 → (-9 : Int32) = R) ∧ (¬ x18_5 < 0 → vp_in a 4 ∧ (okD hi wi ∧ (vp_in b 4 ∧ (okD hi wi ∧ (((s_shortest hi wi fc lc fro to (s_bearing str (s_load ck cwt a) x18_5 (hi * wi).toNatClampNeg) (s_bearing str (s_load ck cwt b) x18_5 (hi * wi).toNatClampNeg)) = (-9) → ∃ k1 : Nat, k1 < n18 ∧ J18 k1 (x18_5 + (-1))) ∧ (¬ (s_shortest hi wi fc lc fro to (s_bearing str (s_load ck cwt a) x18_5 (hi * wi).toNatClampNeg) (s_bearing str (s_load ck cwt b) x18_5 (hi * wi).toNatClampNeg)) = (-9) → x18_5 = R))))))) :
    MF l G yX6_holds cX6_holds 8 (some .int) rm_X6_holds [.ref b0, .int a, .int b, .int fro, .int to] [(b0, .inr (6, [.ref bs, .ref x0, .ref d0, .ref r0, .ref i0, .ref c0, .ref j0, .ref e0, .int lf, .int tr])), (c0, .inr (0, [.ref c1, .ref c2, .int cnt])), (c1, .inl (G.2.1, 4, .inl ck)), (c2, .inl (G.2.1, 4, .inl cwt)), (i0, .inr (2, [.ref i1, .int hi, .int wi, .int fr, .int fc, .int lc])), (i1, .inl (G.2.1, 20, .inl str))] (some (.int R)) [(b0, .inr (6, [.ref bs, .ref x0, .ref d0, .ref r0, .ref i0, .ref c0, .ref j0, .ref e0, .int lf, .int tr])), (c0, .inr (0, [.ref c1, .ref c2, .int cnt])), (c1, .inl (G.2.1, 4, .inl ck)), (c2, .inl (G.2.1, 4, .inl cwt)), (i0, .inr (2, [.ref i1, .int hi, .int wi, .int fr, .int fc, .int lc])), (i1, .inl (G.2.1, 20, .inl str))] := by
  refine MF.of (by decide +kernel) (Nat.le_of_ble_eq_true rfl) ?_
  intro p e s m args below meth c A ls fx hh hl _
  have hx := fx.hx
  have hb := fx.hb
  have hl : lv_has ls 8 [(0, .ref b0), (1, .int a), (2, .int b), (3, .int fro), (4, .int to)] := hl
  obtain ⟨Q, hQ⟩ : ∃ Q, Q = ZZ G A (some (.int R)) [(b0, .inr (6, [.ref bs, .ref x0, .ref d0, .ref r0, .ref i0, .ref c0, .ref j0, .ref e0, .int lf, .int tr])), (c0, .inr (0, [.ref c1, .ref c2, .int cnt])), (c1, .inl (G.2.1, 4, .inl ck)), (c2, .inl (G.2.1, 4, .inl cwt)), (i0, .inr (2, [.ref i1, .int hi, .int wi, .int fr, .int fc, .int lc])), (i1, .inl (G.2.1, 20, .inl str))] below args s := ⟨_, rfl⟩
  rw [← hQ]
  have lp18 : ∀ (n18 : Nat) (x18_5 : Int32), J18 n18 x18_5 → ∀ (H : Heap) (locs : List Loc) (ls : Array Slot), HP G A [(b0, .inr (6, [.ref bs, .ref x0, .ref d0, .ref r0, .ref i0, .ref c0, .ref j0, .ref e0, .int lf, .int tr])), (c0, .inr (0, [.ref c1, .ref c2, .int cnt])), (c1, .inl (G.2.1, 4, .inl ck)), (c2, .inl (G.2.1, 4, .inl cwt)), (i0, .inr (2, [.ref i1, .int hi, .int wi, .int fr, .int fc, .int lc])), (i1, .inl (G.2.1, 20, .inl str))] s H locs → lv_has ls 8 [(0, .ref b0), (1, .int a), (2, .int b), (3, .int fro), (4, .int to), (5, .int x18_5)] → W p l e rm_X6_holds s m args below meth c H locs 0 0 Q (F0 m 18 ls []) := by
    intro n18
    induction n18 using Nat.strongRecOn with
    | ind n18 ih18 =>
      intro x18_5 hj18 H locs ls hh hl
      have hv := hv18 n18 x18_5 hj18
      refine lv_iload (pc := 18) hx hb (dOk_at dX6_holds 11 rfl) (lv_at hl 5 rfl) ?_
      refine lv_if_lt (pc := 20) (tgt := 89) hx hb (dOk_at dX6_holds 12 rfl) (by decide) (fun c20 => ?_) (fun c20 => ?_)
      · have hv := hv.1 c20
        refine lv_bipush (pc := 89) (v := (-9)) hx hb (dOk_at dX6_holds 44 rfl) (by decide) ?_
        have e0 := hv
        subst e0
        rw [hQ]
        exact r_iret (pc := 91) fx hh (dOk_at dX6_holds 45 rfl)
      · have hv := hv.2 c20
        refine lv_aload_n (pc := 23) hx hb (dOk_at dX6_holds 13 rfl) rfl (lv_at hl 0 rfl) ?_
        refine r_get (pc := 24) (ci := 6) fx hh inT6 rfl 4 (by decide) tFX6_41 rfl 0 rfl rfl (dOk_at dX6_holds 14 rfl) ?_
        refine lv_aload_n (pc := 27) hx hb (dOk_at dX6_holds 15 rfl) rfl (lv_at hl 0 rfl) ?_
        refine r_get (pc := 28) (ci := 6) fx hh inT6 rfl 5 (by decide) tFX6_48 rfl 0 rfl rfl (dOk_at dX6_holds 16 rfl) ?_
        refine lv_iload_n (pc := 31) hx hb (dOk_at dX6_holds 17 rfl) rfl (lv_at hl 1 rfl) ?_
        refine cl_VN (pc := 32) (w' := [(b0, .inr (6, [.ref bs, .ref x0, .ref d0, .ref r0, .ref i0, .ref c0, .ref j0, .ref e0, .int lf, .int tr])), (c0, .inr (0, [.ref c1, .ref c2, .int cnt])), (c1, .inl (G.2.1, 4, .inl ck)), (c2, .inl (G.2.1, 4, .inl cwt)), (i0, .inr (2, [.ref i1, .int hi, .int wi, .int fr, .int fc, .int lc])), (i1, .inl (G.2.1, 20, .inl str))]) (wr := [(b0, .inr (6, [.ref bs, .ref x0, .ref d0, .ref r0, .ref i0, .ref c0, .ref j0, .ref e0, .int lf, .int tr])), (i0, .inr (2, [.ref i1, .int hi, .int wi, .int fr, .int fc, .int lc])), (i1, .inl (G.2.1, 20, .inl str))]) (rest := [.ref i0]) fx hh hl.1 (h_X0_load c0 c1 c2 cnt a ck cwt hv.1) yV_X0_load nMX6_85 ⟨rfl, rfl, Nat.le_of_ble_eq_true rfl, Nat.le_of_ble_eq_true rfl⟩ 1 0 rfl rfl rfl [1, 2, 3] [0, 4, 5] [0, 3, 4, 5, 1, 2] rfl rfl rfl (by decide) (by decide) rfl rfl (Nat.le_of_ble_eq_true rfl) ⟨Nat.le_of_ble_eq_true rfl, Nat.le_of_ble_eq_true rfl⟩ (dOk_at dX6_holds 18 rfl) (fun H locs hh => ?_)
        have hv := hv.2
        refine lv_iload (pc := 35) hx hb (dOk_at dX6_holds 19 rfl) (lv_at hl 5 rfl) ?_
        refine cl_VN (pc := 37) (w' := [(b0, .inr (6, [.ref bs, .ref x0, .ref d0, .ref r0, .ref i0, .ref c0, .ref j0, .ref e0, .int lf, .int tr])), (c0, .inr (0, [.ref c1, .ref c2, .int cnt])), (c1, .inl (G.2.1, 4, .inl ck)), (c2, .inl (G.2.1, 4, .inl cwt)), (i0, .inr (2, [.ref i1, .int hi, .int wi, .int fr, .int fc, .int lc])), (i1, .inl (G.2.1, 20, .inl str))]) (wr := [(b0, .inr (6, [.ref bs, .ref x0, .ref d0, .ref r0, .ref i0, .ref c0, .ref j0, .ref e0, .int lf, .int tr])), (c0, .inr (0, [.ref c1, .ref c2, .int cnt])), (c1, .inl (G.2.1, 4, .inl ck)), (c2, .inl (G.2.1, 4, .inl cwt))]) (rest := []) fx hh hl.1 (h_X2_bearing i0 i1 hi wi fr fc lc (s_load ck cwt a) x18_5 str hv.1) yV_X2_bearing nMX6_88 ⟨rfl, rfl, Nat.le_of_ble_eq_true rfl, Nat.le_of_ble_eq_true rfl⟩ 4 2 rfl rfl rfl [4, 5] [0, 1, 2, 3] [0, 1, 2, 3, 4, 5] rfl rfl rfl (by decide) (by decide) rfl rfl (Nat.le_of_ble_eq_true rfl) ⟨Nat.le_of_ble_eq_true rfl, Nat.le_of_ble_eq_true rfl⟩ (dOk_at dX6_holds 20 rfl) (fun H locs hh => ?_)
        have hv := hv.2
        refine lv_istore (pc := 40) (lv' := [(6, .int (s_bearing str (s_load ck cwt a) x18_5 (hi * wi).toNatClampNeg)), (0, .ref b0), (1, .int a), (2, .int b), (3, .int fro), (4, .int to), (5, .int x18_5)]) hx hb (dOk_at dX6_holds 21 rfl) hl (by decide) rfl (fun ls hl => ?_)
        refine lv_aload_n (pc := 42) hx hb (dOk_at dX6_holds 22 rfl) rfl (lv_at hl 1 rfl) ?_
        refine r_get (pc := 43) (ci := 6) fx hh inT6 rfl 4 (by decide) tFX6_41 rfl 0 rfl rfl (dOk_at dX6_holds 23 rfl) ?_
        refine lv_aload_n (pc := 46) hx hb (dOk_at dX6_holds 24 rfl) rfl (lv_at hl 1 rfl) ?_
        refine r_get (pc := 47) (ci := 6) fx hh inT6 rfl 5 (by decide) tFX6_48 rfl 0 rfl rfl (dOk_at dX6_holds 25 rfl) ?_
        refine lv_iload_n (pc := 50) hx hb (dOk_at dX6_holds 26 rfl) rfl (lv_at hl 3 rfl) ?_
        refine cl_VN (pc := 51) (w' := [(b0, .inr (6, [.ref bs, .ref x0, .ref d0, .ref r0, .ref i0, .ref c0, .ref j0, .ref e0, .int lf, .int tr])), (c0, .inr (0, [.ref c1, .ref c2, .int cnt])), (c1, .inl (G.2.1, 4, .inl ck)), (c2, .inl (G.2.1, 4, .inl cwt)), (i0, .inr (2, [.ref i1, .int hi, .int wi, .int fr, .int fc, .int lc])), (i1, .inl (G.2.1, 20, .inl str))]) (wr := [(b0, .inr (6, [.ref bs, .ref x0, .ref d0, .ref r0, .ref i0, .ref c0, .ref j0, .ref e0, .int lf, .int tr])), (i0, .inr (2, [.ref i1, .int hi, .int wi, .int fr, .int fc, .int lc])), (i1, .inl (G.2.1, 20, .inl str))]) (rest := [.ref i0]) fx hh hl.1 (h_X0_load c0 c1 c2 cnt b ck cwt hv.1) yV_X0_load nMX6_85 ⟨rfl, rfl, Nat.le_of_ble_eq_true rfl, Nat.le_of_ble_eq_true rfl⟩ 1 0 rfl rfl rfl [1, 2, 3] [0, 4, 5] [0, 3, 4, 5, 1, 2] rfl rfl rfl (by decide) (by decide) rfl rfl (Nat.le_of_ble_eq_true rfl) ⟨Nat.le_of_ble_eq_true rfl, Nat.le_of_ble_eq_true rfl⟩ (dOk_at dX6_holds 27 rfl) (fun H locs hh => ?_)
        have hv := hv.2
        refine lv_iload (pc := 54) hx hb (dOk_at dX6_holds 28 rfl) (lv_at hl 6 rfl) ?_
        refine cl_VN (pc := 56) (w' := [(b0, .inr (6, [.ref bs, .ref x0, .ref d0, .ref r0, .ref i0, .ref c0, .ref j0, .ref e0, .int lf, .int tr])), (c0, .inr (0, [.ref c1, .ref c2, .int cnt])), (c1, .inl (G.2.1, 4, .inl ck)), (c2, .inl (G.2.1, 4, .inl cwt)), (i0, .inr (2, [.ref i1, .int hi, .int wi, .int fr, .int fc, .int lc])), (i1, .inl (G.2.1, 20, .inl str))]) (wr := [(b0, .inr (6, [.ref bs, .ref x0, .ref d0, .ref r0, .ref i0, .ref c0, .ref j0, .ref e0, .int lf, .int tr])), (c0, .inr (0, [.ref c1, .ref c2, .int cnt])), (c1, .inl (G.2.1, 4, .inl ck)), (c2, .inl (G.2.1, 4, .inl cwt))]) (rest := []) fx hh hl.1 (h_X2_bearing i0 i1 hi wi fr fc lc (s_load ck cwt b) x18_5 str hv.1) yV_X2_bearing nMX6_88 ⟨rfl, rfl, Nat.le_of_ble_eq_true rfl, Nat.le_of_ble_eq_true rfl⟩ 4 2 rfl rfl rfl [4, 5] [0, 1, 2, 3] [0, 1, 2, 3, 4, 5] rfl rfl rfl (by decide) (by decide) rfl rfl (Nat.le_of_ble_eq_true rfl) ⟨Nat.le_of_ble_eq_true rfl, Nat.le_of_ble_eq_true rfl⟩ (dOk_at dX6_holds 29 rfl) (fun H locs hh => ?_)
        have hv := hv.2
        refine lv_istore (pc := 59) (lv' := [(7, .int (s_bearing str (s_load ck cwt b) x18_5 (hi * wi).toNatClampNeg)), (6, .int (s_bearing str (s_load ck cwt a) x18_5 (hi * wi).toNatClampNeg)), (0, .ref b0), (1, .int a), (2, .int b), (3, .int fro), (4, .int to), (5, .int x18_5)]) hx hb (dOk_at dX6_holds 30 rfl) hl (by decide) rfl (fun ls hl => ?_)
        refine lv_aload_n (pc := 61) hx hb (dOk_at dX6_holds 31 rfl) rfl (lv_at hl 2 rfl) ?_
        refine r_get (pc := 62) (ci := 6) fx hh inT6 rfl 4 (by decide) tFX6_41 rfl 0 rfl rfl (dOk_at dX6_holds 32 rfl) ?_
        refine lv_iload_n (pc := 65) hx hb (dOk_at dX6_holds 33 rfl) rfl (lv_at hl 5 rfl) ?_
        refine lv_iload (pc := 66) hx hb (dOk_at dX6_holds 34 rfl) (lv_at hl 6 rfl) ?_
        refine lv_iload (pc := 68) hx hb (dOk_at dX6_holds 35 rfl) (lv_at hl 1 rfl) ?_
        refine lv_iload (pc := 70) hx hb (dOk_at dX6_holds 36 rfl) (lv_at hl 0 rfl) ?_
        refine cl_VN (pc := 72) (w' := [(b0, .inr (6, [.ref bs, .ref x0, .ref d0, .ref r0, .ref i0, .ref c0, .ref j0, .ref e0, .int lf, .int tr])), (c0, .inr (0, [.ref c1, .ref c2, .int cnt])), (c1, .inl (G.2.1, 4, .inl ck)), (c2, .inl (G.2.1, 4, .inl cwt)), (i0, .inr (2, [.ref i1, .int hi, .int wi, .int fr, .int fc, .int lc])), (i1, .inl (G.2.1, 20, .inl str))]) (wr := [(b0, .inr (6, [.ref bs, .ref x0, .ref d0, .ref r0, .ref i0, .ref c0, .ref j0, .ref e0, .int lf, .int tr])), (c0, .inr (0, [.ref c1, .ref c2, .int cnt])), (c1, .inl (G.2.1, 4, .inl ck)), (c2, .inl (G.2.1, 4, .inl cwt)), (i1, .inl (G.2.1, 20, .inl str))]) (rest := []) fx hh hl.1 (h_X2_shortest i0 i1 hi wi fr fc lc fro to (s_bearing str (s_load ck cwt a) x18_5 (hi * wi).toNatClampNeg) (s_bearing str (s_load ck cwt b) x18_5 (hi * wi).toNatClampNeg)) yV_X2_shortest nMX6_137 ⟨rfl, rfl, Nat.le_of_ble_eq_true rfl, Nat.le_of_ble_eq_true rfl⟩ 4 2 rfl rfl rfl [4] [0, 1, 2, 3, 5] [0, 1, 2, 3, 5, 4] rfl rfl rfl (by decide) (by decide) rfl rfl (Nat.le_of_ble_eq_true rfl) ⟨Nat.le_of_ble_eq_true rfl, Nat.le_of_ble_eq_true rfl⟩ (dOk_at dX6_holds 37 rfl) (fun H locs hh => ?_)
        refine lv_bipush (pc := 75) (v := (-9)) hx hb (dOk_at dX6_holds 38 rfl) (by decide) ?_
        refine lv_icmp_eq (pc := 77) (tgt := 83) hx hb (dOk_at dX6_holds 39 rfl) (by decide) (fun c77 => ?_) (fun c77 => ?_)
        · have hv := hv.1 c77
          refine lv_iinc (pc := 83) (v := x18_5 + (-1)) (lv' := [(5, .int (x18_5 + (-1))), (7, .int (s_bearing str (s_load ck cwt b) x18_5 (hi * wi).toNatClampNeg)), (6, .int (s_bearing str (s_load ck cwt a) x18_5 (hi * wi).toNatClampNeg)), (0, .ref b0), (1, .int a), (2, .int b), (3, .int fro), (4, .int to)]) hx hb (dOk_at dX6_holds 42 rfl) hl (k := 7) rfl rfl (by decide) rfl (fun ls hl => ?_)
          refine lv_goto (pc := 86) (tgt := 18) hx hb (dOk_at dX6_holds 43 rfl) (by decide) ?_
          obtain ⟨k0, hk0, hj0⟩ := hv
          exact ih18 k0 hk0 (x18_5 + (-1)) hj0 _ _ _ hh (lv_sub hl [3, 4, 5, 6, 7, 0] rfl)
        · have hv := hv.2 c77
          refine lv_iload (pc := 80) hx hb (dOk_at dX6_holds 40 rfl) (lv_at hl 7 rfl) ?_
          have e0 := hv
          subst e0
          rw [hQ]
          exact r_iret (pc := 82) fx hh (dOk_at dX6_holds 41 rfl)
  refine lv_aload_n (pc := 0) hx hb (dOk_at dX6_holds 0 rfl) rfl (lv_at hl 0 rfl) ?_
  refine lv_iload_n (pc := 1) hx hb (dOk_at dX6_holds 1 rfl) rfl (lv_at hl 1 rfl) ?_
  refine lv_iload_n (pc := 2) hx hb (dOk_at dX6_holds 2 rfl) rfl (lv_at hl 2 rfl) ?_
  refine lv_iload_n (pc := 3) hx hb (dOk_at dX6_holds 3 rfl) rfl (lv_at hl 3 rfl) ?_
  refine lv_iload (pc := 4) hx hb (dOk_at dX6_holds 4 rfl) (lv_at hl 4 rfl) ?_
  refine cl_V (pc := 6) (w' := [(b0, .inr (6, [.ref bs, .ref x0, .ref d0, .ref r0, .ref i0, .ref c0, .ref j0, .ref e0, .int lf, .int tr])), (c0, .inr (0, [.ref c1, .ref c2, .int cnt])), (c1, .inl (G.2.1, 4, .inl ck)), (c2, .inl (G.2.1, 4, .inl cwt)), (i0, .inr (2, [.ref i1, .int hi, .int wi, .int fr, .int fc, .int lc])), (i1, .inl (G.2.1, 20, .inl str))]) (wr := [(c1, .inl (G.2.1, 4, .inl ck)), (c2, .inl (G.2.1, 4, .inl cwt)), (i1, .inl (G.2.1, 20, .inl str))]) (rest := []) fx hh hl.1 (h_X6_isBondKnown b0 c0 i0 bs x0 d0 r0 j0 e0 c1 c2 i1 lf tr cnt hi wi fr fc lc a b fro to) yV_X6_isBondKnown tMX6_134 ⟨rfl, rfl, Nat.le_of_ble_eq_true rfl, Nat.le_of_ble_eq_true rfl⟩ 0 6 rfl rfl rfl [0, 1, 4] [2, 3, 5] [3, 4, 0, 1, 5, 2] rfl rfl rfl (by decide) (by decide) rfl rfl (Nat.le_of_ble_eq_true rfl) ⟨Nat.le_of_ble_eq_true rfl, Nat.le_of_ble_eq_true rfl⟩ (dOk_at dX6_holds 5 rfl) (fun H locs hh => ?_)
  refine lv_if_ne (pc := 9) (tgt := 14) hx hb (dOk_at dX6_holds 6 rfl) (by decide) (fun c9 => ?_) (fun c9 => ?_)
  · have hv := hv.1 c9
    refine lv_bipush (pc := 14) (v := 9) hx hb (dOk_at dX6_holds 9 rfl) (by decide) ?_
    refine lv_istore (pc := 16) (lv' := [(5, .int 9), (0, .ref b0), (1, .int a), (2, .int b), (3, .int fro), (4, .int to)]) hx hb (dOk_at dX6_holds 10 rfl) hl (by decide) rfl (fun ls hl => ?_)
    obtain ⟨k0, hj0⟩ := hv
    exact lp18 k0 9 hj0 _ _ _ hh (lv_sub hl [1, 2, 3, 4, 5, 0] rfl)
  · have hv := hv.2 c9
    refine lv_iconst (pc := 12) (v := (-1)) hx hb (dOk_at dX6_holds 7 rfl) (by decide) ?_
    have e0 := hv
    subst e0
    rw [hQ]
    exact r_iret (pc := 13) fx hh (dOk_at dX6_holds 8 rfl)
set_option maxRecDepth 100000 in
set_option maxHeartbeats 4000000 in
theorem wk_X6_alone (l : Launch) (G : GT) (b0 : Nat) (c0 : Nat) (c1 : Nat) (c2 : Nat) (i0 : Nat) (i1 : Nat) (bs : Nat) (x0 : Nat) (d0 : Nat) (r0 : Nat) (j0 : Nat) (e0 : Nat) (lf : Int32) (tr : Int32) (cnt : Int32) (hi : Int32) (wi : Int32) (fr : Int32) (fc : Int32) (lc : Int32) (ck : Nat → Int32) (cwt : Nat → Int32) (str : Nat → Int32) (a : Int32) (fro : Int32) (R : Int32) (h_X0_has : K_X0_has l G) (h_X0_load : K_X0_load l G) (h_X2_bearing : K_X2_bearing l G) (h_X2_has : K_X2_has l G) (h_X2_reach : K_X2_reach l G)
    (hv : ((s_sk cnt a) = 0 → (-1 : Int32) = R) ∧ (¬ (s_sk cnt a) = 0 → (¬ (s_ce hi wi fro) = 0 → vp_in a 4 ∧ (okD hi wi ∧ (s_reach hi wi fc lc fro (s_bearing str (s_load ck cwt a) 0 (hi * wi).toNatClampNeg)) = R)) ∧ ((s_ce hi wi fro) = 0 → (-1 : Int32) = R))) :
    MF l G yX6_alone cX6_alone 3 (some .int) rm_X6_alone [.ref b0, .int a, .int fro] [(b0, .inr (6, [.ref bs, .ref x0, .ref d0, .ref r0, .ref i0, .ref c0, .ref j0, .ref e0, .int lf, .int tr])), (c0, .inr (0, [.ref c1, .ref c2, .int cnt])), (c1, .inl (G.2.1, 4, .inl ck)), (c2, .inl (G.2.1, 4, .inl cwt)), (i0, .inr (2, [.ref i1, .int hi, .int wi, .int fr, .int fc, .int lc])), (i1, .inl (G.2.1, 20, .inl str))] (some (.int R)) [(b0, .inr (6, [.ref bs, .ref x0, .ref d0, .ref r0, .ref i0, .ref c0, .ref j0, .ref e0, .int lf, .int tr])), (c0, .inr (0, [.ref c1, .ref c2, .int cnt])), (c1, .inl (G.2.1, 4, .inl ck)), (c2, .inl (G.2.1, 4, .inl cwt)), (i0, .inr (2, [.ref i1, .int hi, .int wi, .int fr, .int fc, .int lc])), (i1, .inl (G.2.1, 20, .inl str))] := by
  refine MF.of (by decide +kernel) (Nat.le_of_ble_eq_true rfl) ?_
  intro p e s m args below meth c A ls fx hh hl _
  have hx := fx.hx
  have hb := fx.hb
  have hl : lv_has ls 3 [(0, .ref b0), (1, .int a), (2, .int fro)] := hl
  obtain ⟨Q, hQ⟩ : ∃ Q, Q = ZZ G A (some (.int R)) [(b0, .inr (6, [.ref bs, .ref x0, .ref d0, .ref r0, .ref i0, .ref c0, .ref j0, .ref e0, .int lf, .int tr])), (c0, .inr (0, [.ref c1, .ref c2, .int cnt])), (c1, .inl (G.2.1, 4, .inl ck)), (c2, .inl (G.2.1, 4, .inl cwt)), (i0, .inr (2, [.ref i1, .int hi, .int wi, .int fr, .int fc, .int lc])), (i1, .inl (G.2.1, 20, .inl str))] below args s := ⟨_, rfl⟩
  rw [← hQ]
  refine lv_aload_n (pc := 0) hx hb (dOk_at dX6_alone 0 rfl) rfl (lv_at hl 0 rfl) ?_
  refine r_get (pc := 1) (ci := 6) fx hh inT6 rfl 5 (by decide) tFX6_48 rfl 0 rfl rfl (dOk_at dX6_alone 1 rfl) ?_
  refine lv_iload_n (pc := 4) hx hb (dOk_at dX6_alone 2 rfl) rfl (lv_at hl 1 rfl) ?_
  refine cl_VN (pc := 5) (w' := [(b0, .inr (6, [.ref bs, .ref x0, .ref d0, .ref r0, .ref i0, .ref c0, .ref j0, .ref e0, .int lf, .int tr])), (c0, .inr (0, [.ref c1, .ref c2, .int cnt])), (c1, .inl (G.2.1, 4, .inl ck)), (c2, .inl (G.2.1, 4, .inl cwt)), (i0, .inr (2, [.ref i1, .int hi, .int wi, .int fr, .int fc, .int lc])), (i1, .inl (G.2.1, 20, .inl str))]) (wr := [(b0, .inr (6, [.ref bs, .ref x0, .ref d0, .ref r0, .ref i0, .ref c0, .ref j0, .ref e0, .int lf, .int tr])), (c1, .inl (G.2.1, 4, .inl ck)), (c2, .inl (G.2.1, 4, .inl cwt)), (i0, .inr (2, [.ref i1, .int hi, .int wi, .int fr, .int fc, .int lc])), (i1, .inl (G.2.1, 20, .inl str))]) (rest := []) fx hh hl.1 (h_X0_has c0 c1 c2 cnt a) yV_X0_has nMX6_74 ⟨rfl, rfl, Nat.le_of_ble_eq_true rfl, Nat.le_of_ble_eq_true rfl⟩ 1 0 rfl rfl rfl [1] [0, 2, 3, 4, 5] [0, 5, 1, 2, 3, 4] rfl rfl rfl (by decide) (by decide) rfl rfl (Nat.le_of_ble_eq_true rfl) ⟨Nat.le_of_ble_eq_true rfl, Nat.le_of_ble_eq_true rfl⟩ (dOk_at dX6_alone 3 rfl) (fun H locs hh => ?_)
  refine lv_if_eq (pc := 8) (tgt := 22) hx hb (dOk_at dX6_alone 4 rfl) (by decide) (fun c8 => ?_) (fun c8 => ?_)
  · have hv := hv.1 c8
    refine lv_iconst (pc := 22) (v := (-1)) hx hb (dOk_at dX6_alone 10 rfl) (by decide) ?_
    have e0 := hv
    subst e0
    rw [hQ]
    exact r_iret (pc := 23) fx hh (dOk_at dX6_alone 11 rfl)
  · have hv := hv.2 c8
    refine lv_aload_n (pc := 11) hx hb (dOk_at dX6_alone 5 rfl) rfl (lv_at hl 0 rfl) ?_
    refine r_get (pc := 12) (ci := 6) fx hh inT6 rfl 4 (by decide) tFX6_41 rfl 0 rfl rfl (dOk_at dX6_alone 6 rfl) ?_
    refine lv_iload_n (pc := 15) hx hb (dOk_at dX6_alone 7 rfl) rfl (lv_at hl 2 rfl) ?_
    refine cl_VN (pc := 16) (w' := [(b0, .inr (6, [.ref bs, .ref x0, .ref d0, .ref r0, .ref i0, .ref c0, .ref j0, .ref e0, .int lf, .int tr])), (c0, .inr (0, [.ref c1, .ref c2, .int cnt])), (c1, .inl (G.2.1, 4, .inl ck)), (c2, .inl (G.2.1, 4, .inl cwt)), (i0, .inr (2, [.ref i1, .int hi, .int wi, .int fr, .int fc, .int lc])), (i1, .inl (G.2.1, 20, .inl str))]) (wr := [(b0, .inr (6, [.ref bs, .ref x0, .ref d0, .ref r0, .ref i0, .ref c0, .ref j0, .ref e0, .int lf, .int tr])), (c0, .inr (0, [.ref c1, .ref c2, .int cnt])), (c1, .inl (G.2.1, 4, .inl ck)), (c2, .inl (G.2.1, 4, .inl cwt)), (i1, .inl (G.2.1, 20, .inl str))]) (rest := []) fx hh hl.1 (h_X2_has i0 i1 hi wi fr fc lc fro) yV_X2_has nMX6_92 ⟨rfl, rfl, Nat.le_of_ble_eq_true rfl, Nat.le_of_ble_eq_true rfl⟩ 4 2 rfl rfl rfl [4] [0, 1, 2, 3, 5] [0, 1, 2, 3, 5, 4] rfl rfl rfl (by decide) (by decide) rfl rfl (Nat.le_of_ble_eq_true rfl) ⟨Nat.le_of_ble_eq_true rfl, Nat.le_of_ble_eq_true rfl⟩ (dOk_at dX6_alone 8 rfl) (fun H locs hh => ?_)
    refine lv_if_ne (pc := 19) (tgt := 24) hx hb (dOk_at dX6_alone 9 rfl) (by decide) (fun c19 => ?_) (fun c19 => ?_)
    · have hv := hv.1 c19
      refine lv_aload_n (pc := 24) hx hb (dOk_at dX6_alone 12 rfl) rfl (lv_at hl 0 rfl) ?_
      refine r_get (pc := 25) (ci := 6) fx hh inT6 rfl 4 (by decide) tFX6_41 rfl 0 rfl rfl (dOk_at dX6_alone 13 rfl) ?_
      refine lv_iload_n (pc := 28) hx hb (dOk_at dX6_alone 14 rfl) rfl (lv_at hl 2 rfl) ?_
      refine lv_aload_n (pc := 29) hx hb (dOk_at dX6_alone 15 rfl) rfl (lv_at hl 0 rfl) ?_
      refine r_get (pc := 30) (ci := 6) fx hh inT6 rfl 4 (by decide) tFX6_41 rfl 0 rfl rfl (dOk_at dX6_alone 16 rfl) ?_
      refine lv_aload_n (pc := 33) hx hb (dOk_at dX6_alone 17 rfl) rfl (lv_at hl 0 rfl) ?_
      refine r_get (pc := 34) (ci := 6) fx hh inT6 rfl 5 (by decide) tFX6_48 rfl 0 rfl rfl (dOk_at dX6_alone 18 rfl) ?_
      refine lv_iload_n (pc := 37) hx hb (dOk_at dX6_alone 19 rfl) rfl (lv_at hl 1 rfl) ?_
      refine cl_VN (pc := 38) (w' := [(b0, .inr (6, [.ref bs, .ref x0, .ref d0, .ref r0, .ref i0, .ref c0, .ref j0, .ref e0, .int lf, .int tr])), (c0, .inr (0, [.ref c1, .ref c2, .int cnt])), (c1, .inl (G.2.1, 4, .inl ck)), (c2, .inl (G.2.1, 4, .inl cwt)), (i0, .inr (2, [.ref i1, .int hi, .int wi, .int fr, .int fc, .int lc])), (i1, .inl (G.2.1, 20, .inl str))]) (wr := [(b0, .inr (6, [.ref bs, .ref x0, .ref d0, .ref r0, .ref i0, .ref c0, .ref j0, .ref e0, .int lf, .int tr])), (i0, .inr (2, [.ref i1, .int hi, .int wi, .int fr, .int fc, .int lc])), (i1, .inl (G.2.1, 20, .inl str))]) (rest := [.ref i0, .int fro, .ref i0]) fx hh hl.1 (h_X0_load c0 c1 c2 cnt a ck cwt hv.1) yV_X0_load nMX6_85 ⟨rfl, rfl, Nat.le_of_ble_eq_true rfl, Nat.le_of_ble_eq_true rfl⟩ 1 0 rfl rfl rfl [1, 2, 3] [0, 4, 5] [0, 3, 4, 5, 1, 2] rfl rfl rfl (by decide) (by decide) rfl rfl (Nat.le_of_ble_eq_true rfl) ⟨Nat.le_of_ble_eq_true rfl, Nat.le_of_ble_eq_true rfl⟩ (dOk_at dX6_alone 20 rfl) (fun H locs hh => ?_)
      have hv := hv.2
      refine lv_iconst (pc := 41) (v := 0) hx hb (dOk_at dX6_alone 21 rfl) (by decide) ?_
      refine cl_VN (pc := 42) (w' := [(b0, .inr (6, [.ref bs, .ref x0, .ref d0, .ref r0, .ref i0, .ref c0, .ref j0, .ref e0, .int lf, .int tr])), (c0, .inr (0, [.ref c1, .ref c2, .int cnt])), (c1, .inl (G.2.1, 4, .inl ck)), (c2, .inl (G.2.1, 4, .inl cwt)), (i0, .inr (2, [.ref i1, .int hi, .int wi, .int fr, .int fc, .int lc])), (i1, .inl (G.2.1, 20, .inl str))]) (wr := [(b0, .inr (6, [.ref bs, .ref x0, .ref d0, .ref r0, .ref i0, .ref c0, .ref j0, .ref e0, .int lf, .int tr])), (c0, .inr (0, [.ref c1, .ref c2, .int cnt])), (c1, .inl (G.2.1, 4, .inl ck)), (c2, .inl (G.2.1, 4, .inl cwt))]) (rest := [.int fro, .ref i0]) fx hh hl.1 (h_X2_bearing i0 i1 hi wi fr fc lc (s_load ck cwt a) 0 str hv.1) yV_X2_bearing nMX6_88 ⟨rfl, rfl, Nat.le_of_ble_eq_true rfl, Nat.le_of_ble_eq_true rfl⟩ 4 2 rfl rfl rfl [4, 5] [0, 1, 2, 3] [0, 1, 2, 3, 4, 5] rfl rfl rfl (by decide) (by decide) rfl rfl (Nat.le_of_ble_eq_true rfl) ⟨Nat.le_of_ble_eq_true rfl, Nat.le_of_ble_eq_true rfl⟩ (dOk_at dX6_alone 22 rfl) (fun H locs hh => ?_)
      have hv := hv.2
      refine cl_VN (pc := 45) (w' := [(b0, .inr (6, [.ref bs, .ref x0, .ref d0, .ref r0, .ref i0, .ref c0, .ref j0, .ref e0, .int lf, .int tr])), (c0, .inr (0, [.ref c1, .ref c2, .int cnt])), (c1, .inl (G.2.1, 4, .inl ck)), (c2, .inl (G.2.1, 4, .inl cwt)), (i0, .inr (2, [.ref i1, .int hi, .int wi, .int fr, .int fc, .int lc])), (i1, .inl (G.2.1, 20, .inl str))]) (wr := [(b0, .inr (6, [.ref bs, .ref x0, .ref d0, .ref r0, .ref i0, .ref c0, .ref j0, .ref e0, .int lf, .int tr])), (c0, .inr (0, [.ref c1, .ref c2, .int cnt])), (c1, .inl (G.2.1, 4, .inl ck)), (c2, .inl (G.2.1, 4, .inl cwt)), (i1, .inl (G.2.1, 20, .inl str))]) (rest := []) fx hh hl.1 (h_X2_reach i0 i1 hi wi fr fc lc fro (s_bearing str (s_load ck cwt a) 0 (hi * wi).toNatClampNeg)) yV_X2_reach nMX6_144 ⟨rfl, rfl, Nat.le_of_ble_eq_true rfl, Nat.le_of_ble_eq_true rfl⟩ 4 2 rfl rfl rfl [4] [0, 1, 2, 3, 5] [0, 1, 2, 3, 5, 4] rfl rfl rfl (by decide) (by decide) rfl rfl (Nat.le_of_ble_eq_true rfl) ⟨Nat.le_of_ble_eq_true rfl, Nat.le_of_ble_eq_true rfl⟩ (dOk_at dX6_alone 23 rfl) (fun H locs hh => ?_)
      have e0 := hv
      subst e0
      rw [hQ]
      exact r_iret (pc := 48) fx hh (dOk_at dX6_alone 24 rfl)
    · have hv := hv.2 c19
      refine lv_iconst (pc := 22) (v := (-1)) hx hb (dOk_at dX6_alone 10 rfl) (by decide) ?_
      have e0 := hv
      subst e0
      rw [hQ]
      exact r_iret (pc := 23) fx hh (dOk_at dX6_alone 11 rfl)
set_option maxRecDepth 100000 in
set_option maxHeartbeats 4000000 in
theorem wk_X6_neck (l : Launch) (G : GT) (b0 : Nat) (c0 : Nat) (c1 : Nat) (c2 : Nat) (i0 : Nat) (i1 : Nat) (bs : Nat) (x0 : Nat) (d0 : Nat) (r0 : Nat) (j0 : Nat) (e0 : Nat) (lf : Int32) (tr : Int32) (cnt : Int32) (hi : Int32) (wi : Int32) (fr : Int32) (fc : Int32) (lc : Int32) (ck : Nat → Int32) (cwt : Nat → Int32) (str : Nat → Int32) (a : Int32) (b : Int32) (fro : Int32) (to : Int32) (R : Int32) (J33 : Nat → Int32 → Prop) (h_X2_cells : K_X2_cells l G) (h_X6_isBond : K_X6_isBond l G) (h_X6_isBondKnown : K_X6_isBondKnown l G)
    (hv : (¬ (x_bKn hi wi cnt a b fro to) = 0 → okD hi wi ∧ vp_in a 4 ∧ vp_in b 4 ∧ ((¬ (x_isBd hi wi fc lc str ck cwt a b fro to 0) = 0 → ∃ k4 : Nat, J33 k4 0) ∧ ((x_isBd hi wi fc lc str ck cwt a b fro to 0) = 0 → (-9 : Int32) = R))) ∧ ((x_bKn hi wi cnt a b fro to) = 0 → (-1 : Int32) = R))
    (hv33 : ∀ (n33 : Nat) (x33_5 : Int32), J33 n33 x33_5 → ((hi * wi) ≤ x33_5 → (-9 : Int32) = R) ∧ (¬ (hi * wi) ≤ x33_5 → (x33_5 = fro → ∃ k1 : Nat, k1 < n33 ∧ J33 k1 (x33_5 + 1)) ∧ (¬ x33_5 = fro → (x33_5 = to → ∃ k2 : Nat, k2 < n33 ∧ J33 k2 (x33_5 + 1)) ∧ (¬ x33_5 = to → okD hi wi ∧ vp_in a 4 ∧ vp_in b 4 ∧ ((¬ (x_isBd hi wi fc lc str ck cwt a b fro to ((1 : Int32) <<< (x33_5 &&& 31))) = 0 → ∃ k3 : Nat, k3 < n33 ∧ J33 k3 (x33_5 + 1)) ∧ ((x_isBd hi wi fc lc str ck cwt a b fro to ((1 : Int32) <<< (x33_5 &&& 31))) = 0 → x33_5 = R)))))) :
    MF l G yX6_neck cX6_neck 6 (some .int) rm_X6_neck [.ref b0, .int a, .int b, .int fro, .int to] [(b0, .inr (6, [.ref bs, .ref x0, .ref d0, .ref r0, .ref i0, .ref c0, .ref j0, .ref e0, .int lf, .int tr])), (c0, .inr (0, [.ref c1, .ref c2, .int cnt])), (c1, .inl (G.2.1, 4, .inl ck)), (c2, .inl (G.2.1, 4, .inl cwt)), (i0, .inr (2, [.ref i1, .int hi, .int wi, .int fr, .int fc, .int lc])), (i1, .inl (G.2.1, 20, .inl str))] (some (.int R)) [(b0, .inr (6, [.ref bs, .ref x0, .ref d0, .ref r0, .ref i0, .ref c0, .ref j0, .ref e0, .int lf, .int tr])), (c0, .inr (0, [.ref c1, .ref c2, .int cnt])), (c1, .inl (G.2.1, 4, .inl ck)), (c2, .inl (G.2.1, 4, .inl cwt)), (i0, .inr (2, [.ref i1, .int hi, .int wi, .int fr, .int fc, .int lc])), (i1, .inl (G.2.1, 20, .inl str))] := by
  refine MF.of (by decide +kernel) (Nat.le_of_ble_eq_true rfl) ?_
  intro p e s m args below meth c A ls fx hh hl _
  have hx := fx.hx
  have hb := fx.hb
  have hl : lv_has ls 6 [(0, .ref b0), (1, .int a), (2, .int b), (3, .int fro), (4, .int to)] := hl
  obtain ⟨Q, hQ⟩ : ∃ Q, Q = ZZ G A (some (.int R)) [(b0, .inr (6, [.ref bs, .ref x0, .ref d0, .ref r0, .ref i0, .ref c0, .ref j0, .ref e0, .int lf, .int tr])), (c0, .inr (0, [.ref c1, .ref c2, .int cnt])), (c1, .inl (G.2.1, 4, .inl ck)), (c2, .inl (G.2.1, 4, .inl cwt)), (i0, .inr (2, [.ref i1, .int hi, .int wi, .int fr, .int fc, .int lc])), (i1, .inl (G.2.1, 20, .inl str))] below args s := ⟨_, rfl⟩
  rw [← hQ]
  have lp33 : ∀ (n33 : Nat) (x33_5 : Int32), J33 n33 x33_5 → ∀ (H : Heap) (locs : List Loc) (ls : Array Slot), HP G A [(b0, .inr (6, [.ref bs, .ref x0, .ref d0, .ref r0, .ref i0, .ref c0, .ref j0, .ref e0, .int lf, .int tr])), (c0, .inr (0, [.ref c1, .ref c2, .int cnt])), (c1, .inl (G.2.1, 4, .inl ck)), (c2, .inl (G.2.1, 4, .inl cwt)), (i0, .inr (2, [.ref i1, .int hi, .int wi, .int fr, .int fc, .int lc])), (i1, .inl (G.2.1, 20, .inl str))] s H locs → lv_has ls 6 [(0, .ref b0), (1, .int a), (2, .int b), (3, .int fro), (4, .int to), (5, .int x33_5)] → W p l e rm_X6_neck s m args below meth c H locs 0 0 Q (F0 m 33 ls []) := by
    intro n33
    induction n33 using Nat.strongRecOn with
    | ind n33 ih33 =>
      intro x33_5 hj33 H locs ls hh hl
      have hv := hv33 n33 x33_5 hj33
      refine lv_iload (pc := 33) hx hb (dOk_at dX6_neck 21 rfl) (lv_at hl 5 rfl) ?_
      refine lv_aload_n (pc := 35) hx hb (dOk_at dX6_neck 22 rfl) rfl (lv_at hl 0 rfl) ?_
      refine r_get (pc := 36) (ci := 6) fx hh inT6 rfl 4 (by decide) tFX6_41 rfl 0 rfl rfl (dOk_at dX6_neck 23 rfl) ?_
      refine cl_VN (pc := 39) (w' := [(b0, .inr (6, [.ref bs, .ref x0, .ref d0, .ref r0, .ref i0, .ref c0, .ref j0, .ref e0, .int lf, .int tr])), (c0, .inr (0, [.ref c1, .ref c2, .int cnt])), (c1, .inl (G.2.1, 4, .inl ck)), (c2, .inl (G.2.1, 4, .inl cwt)), (i0, .inr (2, [.ref i1, .int hi, .int wi, .int fr, .int fc, .int lc])), (i1, .inl (G.2.1, 20, .inl str))]) (wr := [(b0, .inr (6, [.ref bs, .ref x0, .ref d0, .ref r0, .ref i0, .ref c0, .ref j0, .ref e0, .int lf, .int tr])), (c0, .inr (0, [.ref c1, .ref c2, .int cnt])), (c1, .inl (G.2.1, 4, .inl ck)), (c2, .inl (G.2.1, 4, .inl cwt)), (i1, .inl (G.2.1, 20, .inl str))]) (rest := [.int x33_5]) fx hh hl.1 (h_X2_cells i0 i1 hi wi fr fc lc) yV_X2_cells nMX6_151 ⟨rfl, rfl, Nat.le_of_ble_eq_true rfl, Nat.le_of_ble_eq_true rfl⟩ 4 2 rfl rfl rfl [4] [0, 1, 2, 3, 5] [0, 1, 2, 3, 5, 4] rfl rfl rfl (by decide) (by decide) rfl rfl (Nat.le_of_ble_eq_true rfl) ⟨Nat.le_of_ble_eq_true rfl, Nat.le_of_ble_eq_true rfl⟩ (dOk_at dX6_neck 24 rfl) (fun H locs hh => ?_)
      refine lv_icmp_ge (pc := 42) (tgt := 83) hx hb (dOk_at dX6_neck 25 rfl) (by decide) (fun c42 => ?_) (fun c42 => ?_)
      · have hv := hv.1 c42
        refine lv_bipush (pc := 83) (v := (-9)) hx hb (dOk_at dX6_neck 46 rfl) (by decide) ?_
        have e0 := hv
        subst e0
        rw [hQ]
        exact r_iret (pc := 85) fx hh (dOk_at dX6_neck 47 rfl)
      · have hv := hv.2 c42
        refine lv_iload (pc := 45) hx hb (dOk_at dX6_neck 26 rfl) (lv_at hl 5 rfl) ?_
        refine lv_iload_n (pc := 47) hx hb (dOk_at dX6_neck 27 rfl) rfl (lv_at hl 3 rfl) ?_
        refine lv_icmp_eq (pc := 48) (tgt := 77) hx hb (dOk_at dX6_neck 28 rfl) (by decide) (fun c48 => ?_) (fun c48 => ?_)
        · have hv := hv.1 c48
          refine lv_iinc (pc := 77) (v := x33_5 + 1) (lv' := [(5, .int (x33_5 + 1)), (0, .ref b0), (1, .int a), (2, .int b), (3, .int fro), (4, .int to)]) hx hb (dOk_at dX6_neck 44 rfl) hl (k := 5) rfl rfl (by decide) rfl (fun ls hl => ?_)
          refine lv_goto (pc := 80) (tgt := 33) hx hb (dOk_at dX6_neck 45 rfl) (by decide) ?_
          obtain ⟨k0, hk0, hj0⟩ := hv
          exact ih33 k0 hk0 (x33_5 + 1) hj0 _ _ _ hh (lv_sub hl [1, 2, 3, 4, 5, 0] rfl)
        · have hv := hv.2 c48
          refine lv_iload (pc := 51) hx hb (dOk_at dX6_neck 29 rfl) (lv_at hl 5 rfl) ?_
          refine lv_iload (pc := 53) hx hb (dOk_at dX6_neck 30 rfl) (lv_at hl 4 rfl) ?_
          refine lv_icmp_eq (pc := 55) (tgt := 77) hx hb (dOk_at dX6_neck 31 rfl) (by decide) (fun c55 => ?_) (fun c55 => ?_)
          · have hv := hv.1 c55
            refine lv_iinc (pc := 77) (v := x33_5 + 1) (lv' := [(5, .int (x33_5 + 1)), (0, .ref b0), (1, .int a), (2, .int b), (3, .int fro), (4, .int to)]) hx hb (dOk_at dX6_neck 44 rfl) hl (k := 5) rfl rfl (by decide) rfl (fun ls hl => ?_)
            refine lv_goto (pc := 80) (tgt := 33) hx hb (dOk_at dX6_neck 45 rfl) (by decide) ?_
            obtain ⟨k0, hk0, hj0⟩ := hv
            exact ih33 k0 hk0 (x33_5 + 1) hj0 _ _ _ hh (lv_sub hl [1, 2, 3, 4, 5, 0] rfl)
          · have hv := hv.2 c55
            refine lv_aload_n (pc := 58) hx hb (dOk_at dX6_neck 32 rfl) rfl (lv_at hl 0 rfl) ?_
            refine lv_iload_n (pc := 59) hx hb (dOk_at dX6_neck 33 rfl) rfl (lv_at hl 1 rfl) ?_
            refine lv_iload_n (pc := 60) hx hb (dOk_at dX6_neck 34 rfl) rfl (lv_at hl 2 rfl) ?_
            refine lv_iload_n (pc := 61) hx hb (dOk_at dX6_neck 35 rfl) rfl (lv_at hl 3 rfl) ?_
            refine lv_iload (pc := 62) hx hb (dOk_at dX6_neck 36 rfl) (lv_at hl 4 rfl) ?_
            refine lv_iconst (pc := 64) (v := 1) hx hb (dOk_at dX6_neck 37 rfl) (by decide) ?_
            refine lv_iload (pc := 65) hx hb (dOk_at dX6_neck 38 rfl) (lv_at hl 5 rfl) ?_
            refine lv_ishl (pc := 67) hx hb (dOk_at dX6_neck 39 rfl) ?_
            refine cl_V (pc := 68) (w' := [(b0, .inr (6, [.ref bs, .ref x0, .ref d0, .ref r0, .ref i0, .ref c0, .ref j0, .ref e0, .int lf, .int tr])), (c0, .inr (0, [.ref c1, .ref c2, .int cnt])), (c1, .inl (G.2.1, 4, .inl ck)), (c2, .inl (G.2.1, 4, .inl cwt)), (i0, .inr (2, [.ref i1, .int hi, .int wi, .int fr, .int fc, .int lc])), (i1, .inl (G.2.1, 20, .inl str))]) (wr := []) (rest := []) fx hh hl.1 (h_X6_isBond b0 c0 c1 c2 i0 i1 bs x0 d0 r0 j0 e0 lf tr cnt hi wi fr fc lc ck cwt str a b fro to ((1 : Int32) <<< (x33_5 &&& 31)) hv.1 hv.2.1 hv.2.2.1) yV_X6_isBond tMX6_147 ⟨rfl, rfl, Nat.le_of_ble_eq_true rfl, Nat.le_of_ble_eq_true rfl⟩ 0 6 rfl rfl rfl [0, 1, 2, 3, 4, 5] [] [0, 1, 2, 3, 4, 5] rfl rfl rfl (by decide) (by decide) rfl rfl (Nat.le_of_ble_eq_true rfl) ⟨Nat.le_of_ble_eq_true rfl, Nat.le_of_ble_eq_true rfl⟩ (dOk_at dX6_neck 40 rfl) (fun H locs hh => ?_)
            have hv := hv.2.2.2
            refine lv_if_ne (pc := 71) (tgt := 77) hx hb (dOk_at dX6_neck 41 rfl) (by decide) (fun c71 => ?_) (fun c71 => ?_)
            · have hv := hv.1 c71
              refine lv_iinc (pc := 77) (v := x33_5 + 1) (lv' := [(5, .int (x33_5 + 1)), (0, .ref b0), (1, .int a), (2, .int b), (3, .int fro), (4, .int to)]) hx hb (dOk_at dX6_neck 44 rfl) hl (k := 5) rfl rfl (by decide) rfl (fun ls hl => ?_)
              refine lv_goto (pc := 80) (tgt := 33) hx hb (dOk_at dX6_neck 45 rfl) (by decide) ?_
              obtain ⟨k0, hk0, hj0⟩ := hv
              exact ih33 k0 hk0 (x33_5 + 1) hj0 _ _ _ hh (lv_sub hl [1, 2, 3, 4, 5, 0] rfl)
            · have hv := hv.2 c71
              refine lv_iload (pc := 74) hx hb (dOk_at dX6_neck 42 rfl) (lv_at hl 5 rfl) ?_
              have e0 := hv
              subst e0
              rw [hQ]
              exact r_iret (pc := 76) fx hh (dOk_at dX6_neck 43 rfl)
  refine lv_aload_n (pc := 0) hx hb (dOk_at dX6_neck 0 rfl) rfl (lv_at hl 0 rfl) ?_
  refine lv_iload_n (pc := 1) hx hb (dOk_at dX6_neck 1 rfl) rfl (lv_at hl 1 rfl) ?_
  refine lv_iload_n (pc := 2) hx hb (dOk_at dX6_neck 2 rfl) rfl (lv_at hl 2 rfl) ?_
  refine lv_iload_n (pc := 3) hx hb (dOk_at dX6_neck 3 rfl) rfl (lv_at hl 3 rfl) ?_
  refine lv_iload (pc := 4) hx hb (dOk_at dX6_neck 4 rfl) (lv_at hl 4 rfl) ?_
  refine cl_V (pc := 6) (w' := [(b0, .inr (6, [.ref bs, .ref x0, .ref d0, .ref r0, .ref i0, .ref c0, .ref j0, .ref e0, .int lf, .int tr])), (c0, .inr (0, [.ref c1, .ref c2, .int cnt])), (c1, .inl (G.2.1, 4, .inl ck)), (c2, .inl (G.2.1, 4, .inl cwt)), (i0, .inr (2, [.ref i1, .int hi, .int wi, .int fr, .int fc, .int lc])), (i1, .inl (G.2.1, 20, .inl str))]) (wr := [(c1, .inl (G.2.1, 4, .inl ck)), (c2, .inl (G.2.1, 4, .inl cwt)), (i1, .inl (G.2.1, 20, .inl str))]) (rest := []) fx hh hl.1 (h_X6_isBondKnown b0 c0 i0 bs x0 d0 r0 j0 e0 c1 c2 i1 lf tr cnt hi wi fr fc lc a b fro to) yV_X6_isBondKnown tMX6_134 ⟨rfl, rfl, Nat.le_of_ble_eq_true rfl, Nat.le_of_ble_eq_true rfl⟩ 0 6 rfl rfl rfl [0, 1, 4] [2, 3, 5] [3, 4, 0, 1, 5, 2] rfl rfl rfl (by decide) (by decide) rfl rfl (Nat.le_of_ble_eq_true rfl) ⟨Nat.le_of_ble_eq_true rfl, Nat.le_of_ble_eq_true rfl⟩ (dOk_at dX6_neck 5 rfl) (fun H locs hh => ?_)
  refine lv_if_ne (pc := 9) (tgt := 14) hx hb (dOk_at dX6_neck 6 rfl) (by decide) (fun c9 => ?_) (fun c9 => ?_)
  · have hv := hv.1 c9
    refine lv_aload_n (pc := 14) hx hb (dOk_at dX6_neck 9 rfl) rfl (lv_at hl 0 rfl) ?_
    refine lv_iload_n (pc := 15) hx hb (dOk_at dX6_neck 10 rfl) rfl (lv_at hl 1 rfl) ?_
    refine lv_iload_n (pc := 16) hx hb (dOk_at dX6_neck 11 rfl) rfl (lv_at hl 2 rfl) ?_
    refine lv_iload_n (pc := 17) hx hb (dOk_at dX6_neck 12 rfl) rfl (lv_at hl 3 rfl) ?_
    refine lv_iload (pc := 18) hx hb (dOk_at dX6_neck 13 rfl) (lv_at hl 4 rfl) ?_
    refine lv_iconst (pc := 20) (v := 0) hx hb (dOk_at dX6_neck 14 rfl) (by decide) ?_
    refine cl_V (pc := 21) (w' := [(b0, .inr (6, [.ref bs, .ref x0, .ref d0, .ref r0, .ref i0, .ref c0, .ref j0, .ref e0, .int lf, .int tr])), (c0, .inr (0, [.ref c1, .ref c2, .int cnt])), (c1, .inl (G.2.1, 4, .inl ck)), (c2, .inl (G.2.1, 4, .inl cwt)), (i0, .inr (2, [.ref i1, .int hi, .int wi, .int fr, .int fc, .int lc])), (i1, .inl (G.2.1, 20, .inl str))]) (wr := []) (rest := []) fx hh hl.1 (h_X6_isBond b0 c0 c1 c2 i0 i1 bs x0 d0 r0 j0 e0 lf tr cnt hi wi fr fc lc ck cwt str a b fro to 0 hv.1 hv.2.1 hv.2.2.1) yV_X6_isBond tMX6_147 ⟨rfl, rfl, Nat.le_of_ble_eq_true rfl, Nat.le_of_ble_eq_true rfl⟩ 0 6 rfl rfl rfl [0, 1, 2, 3, 4, 5] [] [0, 1, 2, 3, 4, 5] rfl rfl rfl (by decide) (by decide) rfl rfl (Nat.le_of_ble_eq_true rfl) ⟨Nat.le_of_ble_eq_true rfl, Nat.le_of_ble_eq_true rfl⟩ (dOk_at dX6_neck 15 rfl) (fun H locs hh => ?_)
    have hv := hv.2.2.2
    refine lv_if_ne (pc := 24) (tgt := 30) hx hb (dOk_at dX6_neck 16 rfl) (by decide) (fun c24 => ?_) (fun c24 => ?_)
    · have hv := hv.1 c24
      refine lv_iconst (pc := 30) (v := 0) hx hb (dOk_at dX6_neck 19 rfl) (by decide) ?_
      refine lv_istore (pc := 31) (lv' := [(5, .int 0), (0, .ref b0), (1, .int a), (2, .int b), (3, .int fro), (4, .int to)]) hx hb (dOk_at dX6_neck 20 rfl) hl (by decide) rfl (fun ls hl => ?_)
      obtain ⟨k0, hj0⟩ := hv
      exact lp33 k0 0 hj0 _ _ _ hh (lv_sub hl [1, 2, 3, 4, 5, 0] rfl)
    · have hv := hv.2 c24
      refine lv_bipush (pc := 27) (v := (-9)) hx hb (dOk_at dX6_neck 17 rfl) (by decide) ?_
      have e0 := hv
      subst e0
      rw [hQ]
      exact r_iret (pc := 29) fx hh (dOk_at dX6_neck 18 rfl)
  · have hv := hv.2 c9
    refine lv_iconst (pc := 12) (v := (-1)) hx hb (dOk_at dX6_neck 7 rfl) (by decide) ?_
    have e0 := hv
    subst e0
    rw [hQ]
    exact r_iret (pc := 13) fx hh (dOk_at dX6_neck 8 rfl)
set_option maxRecDepth 100000 in
set_option maxHeartbeats 4000000 in
theorem wk_X6_reading (l : Launch) (G : GT) (b0 : Nat) (c0 : Nat) (i0 : Nat) (r0 : Nat) (r1 : Nat) (r2 : Nat) (r3 : Nat) (bs : Nat) (x0 : Nat) (d0 : Nat) (j0 : Nat) (e0 : Nat) (c1 : Nat) (c2 : Nat) (i1 : Nat) (lf : Int32) (tr : Int32) (cnt : Int32) (hi : Int32) (wi : Int32) (fr : Int32) (fc : Int32) (lc : Int32) (rc : Int32) (rs : Nat → Int32) (rl : Nat → Int32) (rb : Nat → Int32) (a : Int32) (ce : Int32) (bore : Int32) (R : Int32) (t3_3 : Int32) (t4 : Nat → Int32) (t5 : Nat → Int32) (t6 : Nat → Int32) (h_X0_has : K_X0_has l G) (h_X2_has : K_X2_has l G) (h_X3_add : K_X3_add l G)
    (hv : ((s_sk cnt a) = 0 → (-1 : Int32) = R ∧ rc = t3_3 ∧ rs = t4 ∧ rl = t5 ∧ rb = t6) ∧ (¬ (s_sk cnt a) = 0 → (¬ (s_ce hi wi ce) = 0 → (rc < 8 → vp_in rc 8) ∧ ((s_addR rc) = R ∧ (s_addC rc) = t3_3 ∧ (s_addF rc rs a) = t4 ∧ (s_addF rc rl ce) = t5 ∧ (s_addF rc rb (vp_nar .boolean bore)) = t6)) ∧ ((s_ce hi wi ce) = 0 → (-1 : Int32) = R ∧ rc = t3_3 ∧ rs = t4 ∧ rl = t5 ∧ rb = t6))) :
    MF l G yX6_reading cX6_reading 4 (some .int) rm_X6_reading [.ref b0, .int a, .int ce, .int bore] [(b0, .inr (6, [.ref bs, .ref x0, .ref d0, .ref r0, .ref i0, .ref c0, .ref j0, .ref e0, .int lf, .int tr])), (c0, .inr (0, [.ref c1, .ref c2, .int cnt])), (i0, .inr (2, [.ref i1, .int hi, .int wi, .int fr, .int fc, .int lc])), (r0, .inr (3, [.ref r1, .ref r2, .ref r3, .int rc])), (r1, .inl (G.2.1, 8, .inl rs)), (r2, .inl (G.2.1, 8, .inl rl)), (r3, .inl (G.2.2.1, 8, .inl rb))] (some (.int R)) [(b0, .inr (6, [.ref bs, .ref x0, .ref d0, .ref r0, .ref i0, .ref c0, .ref j0, .ref e0, .int lf, .int tr])), (c0, .inr (0, [.ref c1, .ref c2, .int cnt])), (i0, .inr (2, [.ref i1, .int hi, .int wi, .int fr, .int fc, .int lc])), (r0, .inr (3, [.ref r1, .ref r2, .ref r3, .int t3_3])), (r1, .inl (G.2.1, 8, .inl t4)), (r2, .inl (G.2.1, 8, .inl t5)), (r3, .inl (G.2.2.1, 8, .inl t6))] := by
  refine MF.of (by decide +kernel) (Nat.le_of_ble_eq_true rfl) ?_
  intro p e s m args below meth c A ls fx hh hl _
  have hx := fx.hx
  have hb := fx.hb
  have hl : lv_has ls 4 [(0, .ref b0), (1, .int a), (2, .int ce), (3, .int bore)] := hl
  obtain ⟨Q, hQ⟩ : ∃ Q, Q = ZZ G A (some (.int R)) [(b0, .inr (6, [.ref bs, .ref x0, .ref d0, .ref r0, .ref i0, .ref c0, .ref j0, .ref e0, .int lf, .int tr])), (c0, .inr (0, [.ref c1, .ref c2, .int cnt])), (i0, .inr (2, [.ref i1, .int hi, .int wi, .int fr, .int fc, .int lc])), (r0, .inr (3, [.ref r1, .ref r2, .ref r3, .int t3_3])), (r1, .inl (G.2.1, 8, .inl t4)), (r2, .inl (G.2.1, 8, .inl t5)), (r3, .inl (G.2.2.1, 8, .inl t6))] below args s := ⟨_, rfl⟩
  rw [← hQ]
  refine lv_aload_n (pc := 0) hx hb (dOk_at dX6_reading 0 rfl) rfl (lv_at hl 0 rfl) ?_
  refine r_get (pc := 1) (ci := 6) fx hh inT6 rfl 5 (by decide) tFX6_48 rfl 0 rfl rfl (dOk_at dX6_reading 1 rfl) ?_
  refine lv_iload_n (pc := 4) hx hb (dOk_at dX6_reading 2 rfl) rfl (lv_at hl 1 rfl) ?_
  refine cl_VN (pc := 5) (w' := [(b0, .inr (6, [.ref bs, .ref x0, .ref d0, .ref r0, .ref i0, .ref c0, .ref j0, .ref e0, .int lf, .int tr])), (c0, .inr (0, [.ref c1, .ref c2, .int cnt])), (i0, .inr (2, [.ref i1, .int hi, .int wi, .int fr, .int fc, .int lc])), (r0, .inr (3, [.ref r1, .ref r2, .ref r3, .int rc])), (r1, .inl (G.2.1, 8, .inl rs)), (r2, .inl (G.2.1, 8, .inl rl)), (r3, .inl (G.2.2.1, 8, .inl rb))]) (wr := [(b0, .inr (6, [.ref bs, .ref x0, .ref d0, .ref r0, .ref i0, .ref c0, .ref j0, .ref e0, .int lf, .int tr])), (i0, .inr (2, [.ref i1, .int hi, .int wi, .int fr, .int fc, .int lc])), (r0, .inr (3, [.ref r1, .ref r2, .ref r3, .int rc])), (r1, .inl (G.2.1, 8, .inl rs)), (r2, .inl (G.2.1, 8, .inl rl)), (r3, .inl (G.2.2.1, 8, .inl rb))]) (rest := []) fx hh hl.1 (h_X0_has c0 c1 c2 cnt a) yV_X0_has nMX6_74 ⟨rfl, rfl, Nat.le_of_ble_eq_true rfl, Nat.le_of_ble_eq_true rfl⟩ 1 0 rfl rfl rfl [1] [0, 2, 3, 4, 5, 6] [0, 6, 1, 2, 3, 4, 5] rfl rfl rfl (by decide) (by decide) rfl rfl (Nat.le_of_ble_eq_true rfl) ⟨Nat.le_of_ble_eq_true rfl, Nat.le_of_ble_eq_true rfl⟩ (dOk_at dX6_reading 3 rfl) (fun H locs hh => ?_)
  refine lv_if_eq (pc := 8) (tgt := 22) hx hb (dOk_at dX6_reading 4 rfl) (by decide) (fun c8 => ?_) (fun c8 => ?_)
  · have hv := hv.1 c8
    refine lv_iconst (pc := 22) (v := (-1)) hx hb (dOk_at dX6_reading 10 rfl) (by decide) ?_
    obtain ⟨e0, e1, e2, e3, e4⟩ := hv
    subst e0
    subst e1
    subst e2
    subst e3
    subst e4
    rw [hQ]
    exact r_iret (pc := 23) fx hh (dOk_at dX6_reading 11 rfl)
  · have hv := hv.2 c8
    refine lv_aload_n (pc := 11) hx hb (dOk_at dX6_reading 5 rfl) rfl (lv_at hl 0 rfl) ?_
    refine r_get (pc := 12) (ci := 6) fx hh inT6 rfl 4 (by decide) tFX6_41 rfl 0 rfl rfl (dOk_at dX6_reading 6 rfl) ?_
    refine lv_iload_n (pc := 15) hx hb (dOk_at dX6_reading 7 rfl) rfl (lv_at hl 2 rfl) ?_
    refine cl_VN (pc := 16) (w' := [(b0, .inr (6, [.ref bs, .ref x0, .ref d0, .ref r0, .ref i0, .ref c0, .ref j0, .ref e0, .int lf, .int tr])), (c0, .inr (0, [.ref c1, .ref c2, .int cnt])), (i0, .inr (2, [.ref i1, .int hi, .int wi, .int fr, .int fc, .int lc])), (r0, .inr (3, [.ref r1, .ref r2, .ref r3, .int rc])), (r1, .inl (G.2.1, 8, .inl rs)), (r2, .inl (G.2.1, 8, .inl rl)), (r3, .inl (G.2.2.1, 8, .inl rb))]) (wr := [(b0, .inr (6, [.ref bs, .ref x0, .ref d0, .ref r0, .ref i0, .ref c0, .ref j0, .ref e0, .int lf, .int tr])), (c0, .inr (0, [.ref c1, .ref c2, .int cnt])), (r0, .inr (3, [.ref r1, .ref r2, .ref r3, .int rc])), (r1, .inl (G.2.1, 8, .inl rs)), (r2, .inl (G.2.1, 8, .inl rl)), (r3, .inl (G.2.2.1, 8, .inl rb))]) (rest := []) fx hh hl.1 (h_X2_has i0 i1 hi wi fr fc lc ce) yV_X2_has nMX6_92 ⟨rfl, rfl, Nat.le_of_ble_eq_true rfl, Nat.le_of_ble_eq_true rfl⟩ 2 2 rfl rfl rfl [2] [0, 1, 3, 4, 5, 6] [0, 1, 6, 2, 3, 4, 5] rfl rfl rfl (by decide) (by decide) rfl rfl (Nat.le_of_ble_eq_true rfl) ⟨Nat.le_of_ble_eq_true rfl, Nat.le_of_ble_eq_true rfl⟩ (dOk_at dX6_reading 8 rfl) (fun H locs hh => ?_)
    refine lv_if_ne (pc := 19) (tgt := 24) hx hb (dOk_at dX6_reading 9 rfl) (by decide) (fun c19 => ?_) (fun c19 => ?_)
    · have hv := hv.1 c19
      refine lv_aload_n (pc := 24) hx hb (dOk_at dX6_reading 12 rfl) rfl (lv_at hl 0 rfl) ?_
      refine r_get (pc := 25) (ci := 6) fx hh inT6 rfl 3 (by decide) tFX6_34 rfl 0 rfl rfl (dOk_at dX6_reading 13 rfl) ?_
      refine lv_iload_n (pc := 28) hx hb (dOk_at dX6_reading 14 rfl) rfl (lv_at hl 1 rfl) ?_
      refine lv_iload_n (pc := 29) hx hb (dOk_at dX6_reading 15 rfl) rfl (lv_at hl 2 rfl) ?_
      refine lv_iload_n (pc := 30) hx hb (dOk_at dX6_reading 16 rfl) rfl (lv_at hl 3 rfl) ?_
      refine cl_VN (pc := 31) (w' := [(b0, .inr (6, [.ref bs, .ref x0, .ref d0, .ref r0, .ref i0, .ref c0, .ref j0, .ref e0, .int lf, .int tr])), (c0, .inr (0, [.ref c1, .ref c2, .int cnt])), (i0, .inr (2, [.ref i1, .int hi, .int wi, .int fr, .int fc, .int lc])), (r0, .inr (3, [.ref r1, .ref r2, .ref r3, .int (s_addC rc)])), (r1, .inl (G.2.1, 8, .inl (s_addF rc rs a))), (r2, .inl (G.2.1, 8, .inl (s_addF rc rl ce))), (r3, .inl (G.2.2.1, 8, .inl (s_addF rc rb (vp_nar .boolean bore))))]) (wr := [(b0, .inr (6, [.ref bs, .ref x0, .ref d0, .ref r0, .ref i0, .ref c0, .ref j0, .ref e0, .int lf, .int tr])), (c0, .inr (0, [.ref c1, .ref c2, .int cnt])), (i0, .inr (2, [.ref i1, .int hi, .int wi, .int fr, .int fc, .int lc]))]) (rest := []) fx hh hl.1 (h_X3_add r0 r1 r2 r3 rc a ce bore rs rl rb hv.1) yV_X3_add nMX6_155 ⟨rfl, rfl, Nat.le_of_ble_eq_true rfl, Nat.le_of_ble_eq_true rfl⟩ 3 3 rfl rfl rfl [3, 4, 5, 6] [0, 1, 2] [0, 1, 2, 3, 4, 5, 6] rfl rfl rfl (by decide) (by decide) rfl rfl (Nat.le_of_ble_eq_true rfl) ⟨Nat.le_of_ble_eq_true rfl, Nat.le_of_ble_eq_true rfl⟩ (dOk_at dX6_reading 17 rfl) (fun H locs hh => ?_)
      have hv := hv.2
      obtain ⟨e0, e1, e2, e3, e4⟩ := hv
      subst e0
      subst e1
      subst e2
      subst e3
      subst e4
      rw [hQ]
      exact r_iret (pc := 34) fx hh (dOk_at dX6_reading 18 rfl)
    · have hv := hv.2 c19
      refine lv_iconst (pc := 22) (v := (-1)) hx hb (dOk_at dX6_reading 10 rfl) (by decide) ?_
      obtain ⟨e0, e1, e2, e3, e4⟩ := hv
      subst e0
      subst e1
      subst e2
      subst e3
      subst e4
      rw [hQ]
      exact r_iret (pc := 23) fx hh (dOk_at dX6_reading 11 rfl)
set_option maxRecDepth 100000 in
set_option maxHeartbeats 4000000 in
theorem wk_X6_back (l : Launch) (G : GT) (b0 : Nat) (r0 : Nat) (bs : Nat) (x0 : Nat) (d0 : Nat) (i0 : Nat) (c0 : Nat) (j0 : Nat) (e0 : Nat) (r1 : Nat) (r2 : Nat) (r3 : Nat) (lf : Int32) (tr : Int32) (rc : Int32) (k : Int32) (R : Int32) (t1_3 : Int32) (h_X6_isWithin : K_X6_isWithin l G)
    (hv : (¬ (s_in k 0 rc) = 0 → (rc - k) = R ∧ (rc - k) = t1_3) ∧ ((s_in k 0 rc) = 0 → (-2 : Int32) = R ∧ rc = t1_3)) :
    MF l G yX6_back cX6_back 2 (some .int) rm_X6_back [.ref b0, .int k] [(b0, .inr (6, [.ref bs, .ref x0, .ref d0, .ref r0, .ref i0, .ref c0, .ref j0, .ref e0, .int lf, .int tr])), (r0, .inr (3, [.ref r1, .ref r2, .ref r3, .int rc]))] (some (.int R)) [(b0, .inr (6, [.ref bs, .ref x0, .ref d0, .ref r0, .ref i0, .ref c0, .ref j0, .ref e0, .int lf, .int tr])), (r0, .inr (3, [.ref r1, .ref r2, .ref r3, .int t1_3]))] := by
  refine MF.of (by decide +kernel) (Nat.le_of_ble_eq_true rfl) ?_
  intro p e s m args below meth c A ls fx hh hl _
  have hx := fx.hx
  have hb := fx.hb
  have hl : lv_has ls 2 [(0, .ref b0), (1, .int k)] := hl
  obtain ⟨Q, hQ⟩ : ∃ Q, Q = ZZ G A (some (.int R)) [(b0, .inr (6, [.ref bs, .ref x0, .ref d0, .ref r0, .ref i0, .ref c0, .ref j0, .ref e0, .int lf, .int tr])), (r0, .inr (3, [.ref r1, .ref r2, .ref r3, .int t1_3]))] below args s := ⟨_, rfl⟩
  rw [← hQ]
  refine lv_iload_n (pc := 0) hx hb (dOk_at dX6_back 0 rfl) rfl (lv_at hl 1 rfl) ?_
  refine lv_iconst (pc := 1) (v := 0) hx hb (dOk_at dX6_back 1 rfl) (by decide) ?_
  refine lv_aload_n (pc := 2) hx hb (dOk_at dX6_back 2 rfl) rfl (lv_at hl 0 rfl) ?_
  refine r_get (pc := 3) (ci := 6) fx hh inT6 rfl 3 (by decide) tFX6_34 rfl 0 rfl rfl (dOk_at dX6_back 3 rfl) ?_
  refine r_getN (pc := 6) (ci := 3) fx hh inT3 rfl 3 (by decide) nFX6_159 rfl 1 rfl rfl (dOk_at dX6_back 4 rfl) ?_
  refine cl_S (pc := 9) (w' := [(b0, .inr (6, [.ref bs, .ref x0, .ref d0, .ref r0, .ref i0, .ref c0, .ref j0, .ref e0, .int lf, .int tr])), (r0, .inr (3, [.ref r1, .ref r2, .ref r3, .int rc]))]) (wr := [(b0, .inr (6, [.ref bs, .ref x0, .ref d0, .ref r0, .ref i0, .ref c0, .ref j0, .ref e0, .int lf, .int tr])), (r0, .inr (3, [.ref r1, .ref r2, .ref r3, .int rc]))]) (rest := []) fx hh hl.1 (h_X6_isWithin k 0 rc) yS_X6_isWithin tMX6_96 ⟨rfl, rfl, Nat.le_of_ble_eq_true rfl, Nat.le_of_ble_eq_true rfl⟩ [] [0, 1] [0, 1] rfl rfl rfl (by decide) (by decide) rfl rfl (Nat.le_of_ble_eq_true rfl) ⟨Nat.le_of_ble_eq_true rfl, Nat.le_of_ble_eq_true rfl⟩ (dOk_at dX6_back 5 rfl) (fun H locs hh => ?_)
  refine lv_if_ne (pc := 12) (tgt := 18) hx hb (dOk_at dX6_back 6 rfl) (by decide) (fun c12 => ?_) (fun c12 => ?_)
  · have hv := hv.1 c12
    refine lv_aload_n (pc := 18) hx hb (dOk_at dX6_back 9 rfl) rfl (lv_at hl 0 rfl) ?_
    refine r_get (pc := 19) (ci := 6) fx hh inT6 rfl 3 (by decide) tFX6_34 rfl 0 rfl rfl (dOk_at dX6_back 10 rfl) ?_
    refine lv_dup (pc := 22) hx hb (dOk_at dX6_back 11 rfl) rfl ?_
    refine r_getN (pc := 23) (ci := 3) fx hh inT3 rfl 3 (by decide) nFX6_159 rfl 1 rfl rfl (dOk_at dX6_back 12 rfl) ?_
    refine lv_iload_n (pc := 26) hx hb (dOk_at dX6_back 13 rfl) rfl (lv_at hl 1 rfl) ?_
    refine lv_isub (pc := 27) hx hb (dOk_at dX6_back 14 rfl) ?_
    refine r_putN (pc := 28) (ci := 3) (w' := [(b0, .inr (6, [.ref bs, .ref x0, .ref d0, .ref r0, .ref i0, .ref c0, .ref j0, .ref e0, .int lf, .int tr])), (r0, .inr (3, [.ref r1, .ref r2, .ref r3, .int (rc - k)]))]) fx hh inT3 tyX3 tyX3_ok nmX3 rfl 3 (by decide) nFX6_159 rfl rfl 1 rfl rfl rfl (Nat.le_of_ble_eq_true rfl) rfl (dOk_at dX6_back 15 rfl) (fun H locs hh => ?_)
    refine lv_aload_n (pc := 31) hx hb (dOk_at dX6_back 16 rfl) rfl (lv_at hl 0 rfl) ?_
    refine r_get (pc := 32) (ci := 6) fx hh inT6 rfl 3 (by decide) tFX6_34 rfl 0 rfl rfl (dOk_at dX6_back 17 rfl) ?_
    refine r_getN (pc := 35) (ci := 3) fx hh inT3 rfl 3 (by decide) nFX6_159 rfl 1 rfl rfl (dOk_at dX6_back 18 rfl) ?_
    obtain ⟨e0, e1⟩ := hv
    subst e0
    subst e1
    rw [hQ]
    exact r_iret (pc := 38) fx hh (dOk_at dX6_back 19 rfl)
  · have hv := hv.2 c12
    refine lv_bipush (pc := 15) (v := (-2)) hx hb (dOk_at dX6_back 7 rfl) (by decide) ?_
    obtain ⟨e0, e1⟩ := hv
    subst e0
    subst e1
    rw [hQ]
    exact r_iret (pc := 17) fx hh (dOk_at dX6_back 8 rfl)
set_option maxRecDepth 100000 in
set_option maxHeartbeats 4000000 in
theorem wk_X6_weights (l : Launch) (G : GT) (b0 : Nat) (c0 : Nat) (c1 : Nat) (c2 : Nat) (i0 : Nat) (i1 : Nat) (r0 : Nat) (r1 : Nat) (r2 : Nat) (r3 : Nat) (bs : Nat) (x0 : Nat) (d0 : Nat) (j0 : Nat) (e0 : Nat) (lf : Int32) (tr : Int32) (cnt : Int32) (hi : Int32) (wi : Int32) (fr : Int32) (fc : Int32) (lc : Int32) (rc : Int32) (ck : Nat → Int32) (cwt : Nat → Int32) (str : Nat → Int32) (rs : Nat → Int32) (rl : Nat → Int32) (rb : Nat → Int32) (a : Int32) (R : Int32) (t3 : Nat → Int32) (J28 : Nat → Int32 → Int32 → (Nat → Int32) → Prop) (h_X0_has : K_X0_has l G) (h_X3_areSo : K_X3_areSo l G)
    (hv : (¬ (s_sk cnt a) = 0 → vp_in a 4 ∧ (∃ k2 : Nat, J28 k2 0 1 cwt)) ∧ ((s_sk cnt a) = 0 → (-1 : Int32) = R ∧ cwt = t3))
    (hv28 : ∀ (n28 : Nat) (x28_3 : Int32) (x28_4 : Int32) (y28_3 : Nat → Int32), J28 n28 x28_3 x28_4 y28_3 → (9 < x28_4 → vp_in a 4 ∧ (x28_3 = R ∧ (upd y28_3 a.toNatClampNeg (cwt a.toNatClampNeg)) = t3)) ∧ (¬ 9 < x28_4 → vp_in a 4 ∧ (okR rc rs rl ∧ ((∀ (v73 : Int32), v73 = (if (s_areSo rs rl rb str ck (upd y28_3 a.toNatClampNeg x28_4) rc.toNatClampNeg) = 0 then (0 : Int32) else (1 : Int32) <<< (x28_4 &&& 31)) → ∃ k1 : Nat, k1 < n28 ∧ J28 k1 (x28_3 ||| v73) (x28_4 + 1) (upd y28_3 a.toNatClampNeg x28_4)))))) :
    MF l G yX6_weights cX6_weights 5 (some .int) rm_X6_weights [.ref b0, .int a] [(b0, .inr (6, [.ref bs, .ref x0, .ref d0, .ref r0, .ref i0, .ref c0, .ref j0, .ref e0, .int lf, .int tr])), (c0, .inr (0, [.ref c1, .ref c2, .int cnt])), (c1, .inl (G.2.1, 4, .inl ck)), (c2, .inl (G.2.1, 4, .inl cwt)), (i0, .inr (2, [.ref i1, .int hi, .int wi, .int fr, .int fc, .int lc])), (i1, .inl (G.2.1, 20, .inl str)), (r0, .inr (3, [.ref r1, .ref r2, .ref r3, .int rc])), (r1, .inl (G.2.1, 8, .inl rs)), (r2, .inl (G.2.1, 8, .inl rl)), (r3, .inl (G.2.2.1, 8, .inl rb))] (some (.int R)) [(b0, .inr (6, [.ref bs, .ref x0, .ref d0, .ref r0, .ref i0, .ref c0, .ref j0, .ref e0, .int lf, .int tr])), (c0, .inr (0, [.ref c1, .ref c2, .int cnt])), (c1, .inl (G.2.1, 4, .inl ck)), (c2, .inl (G.2.1, 4, .inl t3)), (i0, .inr (2, [.ref i1, .int hi, .int wi, .int fr, .int fc, .int lc])), (i1, .inl (G.2.1, 20, .inl str)), (r0, .inr (3, [.ref r1, .ref r2, .ref r3, .int rc])), (r1, .inl (G.2.1, 8, .inl rs)), (r2, .inl (G.2.1, 8, .inl rl)), (r3, .inl (G.2.2.1, 8, .inl rb))] := by
  refine MF.of (by decide +kernel) (Nat.le_of_ble_eq_true rfl) ?_
  intro p e s m args below meth c A ls fx hh hl _
  have hx := fx.hx
  have hb := fx.hb
  have hl : lv_has ls 5 [(0, .ref b0), (1, .int a)] := hl
  obtain ⟨Q, hQ⟩ : ∃ Q, Q = ZZ G A (some (.int R)) [(b0, .inr (6, [.ref bs, .ref x0, .ref d0, .ref r0, .ref i0, .ref c0, .ref j0, .ref e0, .int lf, .int tr])), (c0, .inr (0, [.ref c1, .ref c2, .int cnt])), (c1, .inl (G.2.1, 4, .inl ck)), (c2, .inl (G.2.1, 4, .inl t3)), (i0, .inr (2, [.ref i1, .int hi, .int wi, .int fr, .int fc, .int lc])), (i1, .inl (G.2.1, 20, .inl str)), (r0, .inr (3, [.ref r1, .ref r2, .ref r3, .int rc])), (r1, .inl (G.2.1, 8, .inl rs)), (r2, .inl (G.2.1, 8, .inl rl)), (r3, .inl (G.2.2.1, 8, .inl rb))] below args s := ⟨_, rfl⟩
  rw [← hQ]
  have lp28 : ∀ (n28 : Nat) (x28_3 : Int32) (x28_4 : Int32) (y28_3 : Nat → Int32), J28 n28 x28_3 x28_4 y28_3 → ∀ (H : Heap) (locs : List Loc) (ls : Array Slot), HP G A [(b0, .inr (6, [.ref bs, .ref x0, .ref d0, .ref r0, .ref i0, .ref c0, .ref j0, .ref e0, .int lf, .int tr])), (c0, .inr (0, [.ref c1, .ref c2, .int cnt])), (c1, .inl (G.2.1, 4, .inl ck)), (c2, .inl (G.2.1, 4, .inl y28_3)), (i0, .inr (2, [.ref i1, .int hi, .int wi, .int fr, .int fc, .int lc])), (i1, .inl (G.2.1, 20, .inl str)), (r0, .inr (3, [.ref r1, .ref r2, .ref r3, .int rc])), (r1, .inl (G.2.1, 8, .inl rs)), (r2, .inl (G.2.1, 8, .inl rl)), (r3, .inl (G.2.2.1, 8, .inl rb))] s H locs → lv_has ls 5 [(0, .ref b0), (1, .int a), (2, .int (cwt a.toNatClampNeg)), (3, .int x28_3), (4, .int x28_4)] → W p l e rm_X6_weights s m args below meth c H locs 0 0 Q (F0 m 28 ls []) := by
    intro n28
    induction n28 using Nat.strongRecOn with
    | ind n28 ih28 =>
      intro x28_3 x28_4 y28_3 hj28 H locs ls hh hl
      have hv := hv28 n28 x28_3 x28_4 y28_3 hj28
      refine lv_iload (pc := 28) hx hb (dOk_at dX6_weights 17 rfl) (lv_at hl 4 rfl) ?_
      refine lv_bipush (pc := 30) (v := 9) hx hb (dOk_at dX6_weights 18 rfl) (by decide) ?_
      refine lv_icmp_gt (pc := 32) (tgt := 81) hx hb (dOk_at dX6_weights 19 rfl) (by decide) (fun c32 => ?_) (fun c32 => ?_)
      · have hv := hv.1 c32
        refine lv_aload_n (pc := 81) hx hb (dOk_at dX6_weights 44 rfl) rfl (lv_at hl 0 rfl) ?_
        refine r_get (pc := 82) (ci := 6) fx hh inT6 rfl 5 (by decide) tFX6_48 rfl 0 rfl rfl (dOk_at dX6_weights 45 rfl) ?_
        refine r_getN (pc := 85) (ci := 0) fx hh inT0 rfl 1 (by decide) nFX6_82 rfl 1 rfl rfl (dOk_at dX6_weights 46 rfl) ?_
        refine lv_iload_n (pc := 88) hx hb (dOk_at dX6_weights 47 rfl) rfl (lv_at hl 1 rfl) ?_
        refine lv_iload_n (pc := 89) hx hb (dOk_at dX6_weights 48 rfl) rfl (lv_at hl 2 rfl) ?_
        refine r_iast (pc := 90) (w' := [(b0, .inr (6, [.ref bs, .ref x0, .ref d0, .ref r0, .ref i0, .ref c0, .ref j0, .ref e0, .int lf, .int tr])), (c0, .inr (0, [.ref c1, .ref c2, .int cnt])), (c1, .inl (G.2.1, 4, .inl ck)), (c2, .inl (G.2.1, 4, .inl (upd y28_3 a.toNatClampNeg (cwt a.toNatClampNeg)))), (i0, .inr (2, [.ref i1, .int hi, .int wi, .int fr, .int fc, .int lc])), (i1, .inl (G.2.1, 20, .inl str)), (r0, .inr (3, [.ref r1, .ref r2, .ref r3, .int rc])), (r1, .inl (G.2.1, 8, .inl rs)), (r2, .inl (G.2.1, 8, .inl rl)), (r3, .inl (G.2.2.1, 8, .inl rb))]) fx hh 3 rfl hv.1 rfl (dOk_at dX6_weights 49 rfl) (fun H locs hh => ?_)
        have hv := hv.2
        refine lv_iload_n (pc := 91) hx hb (dOk_at dX6_weights 50 rfl) rfl (lv_at hl 3 rfl) ?_
        obtain ⟨e0, e1⟩ := hv
        subst e0
        subst e1
        rw [hQ]
        exact r_iret (pc := 92) fx hh (dOk_at dX6_weights 51 rfl)
      · have hv := hv.2 c32
        refine lv_aload_n (pc := 35) hx hb (dOk_at dX6_weights 20 rfl) rfl (lv_at hl 0 rfl) ?_
        refine r_get (pc := 36) (ci := 6) fx hh inT6 rfl 5 (by decide) tFX6_48 rfl 0 rfl rfl (dOk_at dX6_weights 21 rfl) ?_
        refine r_getN (pc := 39) (ci := 0) fx hh inT0 rfl 1 (by decide) nFX6_82 rfl 1 rfl rfl (dOk_at dX6_weights 22 rfl) ?_
        refine lv_iload_n (pc := 42) hx hb (dOk_at dX6_weights 23 rfl) rfl (lv_at hl 1 rfl) ?_
        refine lv_iload (pc := 43) hx hb (dOk_at dX6_weights 24 rfl) (lv_at hl 4 rfl) ?_
        refine r_iast (pc := 45) (w' := [(b0, .inr (6, [.ref bs, .ref x0, .ref d0, .ref r0, .ref i0, .ref c0, .ref j0, .ref e0, .int lf, .int tr])), (c0, .inr (0, [.ref c1, .ref c2, .int cnt])), (c1, .inl (G.2.1, 4, .inl ck)), (c2, .inl (G.2.1, 4, .inl (upd y28_3 a.toNatClampNeg x28_4))), (i0, .inr (2, [.ref i1, .int hi, .int wi, .int fr, .int fc, .int lc])), (i1, .inl (G.2.1, 20, .inl str)), (r0, .inr (3, [.ref r1, .ref r2, .ref r3, .int rc])), (r1, .inl (G.2.1, 8, .inl rs)), (r2, .inl (G.2.1, 8, .inl rl)), (r3, .inl (G.2.2.1, 8, .inl rb))]) fx hh 3 rfl hv.1 rfl (dOk_at dX6_weights 25 rfl) (fun H locs hh => ?_)
        have hv := hv.2
        refine lv_iload_n (pc := 46) hx hb (dOk_at dX6_weights 26 rfl) rfl (lv_at hl 3 rfl) ?_
        refine lv_aload_n (pc := 47) hx hb (dOk_at dX6_weights 27 rfl) rfl (lv_at hl 0 rfl) ?_
        refine r_get (pc := 48) (ci := 6) fx hh inT6 rfl 3 (by decide) tFX6_34 rfl 0 rfl rfl (dOk_at dX6_weights 28 rfl) ?_
        refine lv_aload_n (pc := 51) hx hb (dOk_at dX6_weights 29 rfl) rfl (lv_at hl 0 rfl) ?_
        refine r_get (pc := 52) (ci := 6) fx hh inT6 rfl 4 (by decide) tFX6_41 rfl 0 rfl rfl (dOk_at dX6_weights 30 rfl) ?_
        refine lv_aload_n (pc := 55) hx hb (dOk_at dX6_weights 31 rfl) rfl (lv_at hl 0 rfl) ?_
        refine r_get (pc := 56) (ci := 6) fx hh inT6 rfl 5 (by decide) tFX6_48 rfl 0 rfl rfl (dOk_at dX6_weights 32 rfl) ?_
        refine cl_VN (pc := 59) (w' := [(b0, .inr (6, [.ref bs, .ref x0, .ref d0, .ref r0, .ref i0, .ref c0, .ref j0, .ref e0, .int lf, .int tr])), (c0, .inr (0, [.ref c1, .ref c2, .int cnt])), (c1, .inl (G.2.1, 4, .inl ck)), (c2, .inl (G.2.1, 4, .inl (upd y28_3 a.toNatClampNeg x28_4))), (i0, .inr (2, [.ref i1, .int hi, .int wi, .int fr, .int fc, .int lc])), (i1, .inl (G.2.1, 20, .inl str)), (r0, .inr (3, [.ref r1, .ref r2, .ref r3, .int rc])), (r1, .inl (G.2.1, 8, .inl rs)), (r2, .inl (G.2.1, 8, .inl rl)), (r3, .inl (G.2.2.1, 8, .inl rb))]) (wr := [(b0, .inr (6, [.ref bs, .ref x0, .ref d0, .ref r0, .ref i0, .ref c0, .ref j0, .ref e0, .int lf, .int tr]))]) (rest := [.int x28_3]) fx hh hl.1 (h_X3_areSo r0 r1 r2 r3 i0 i1 c0 c1 c2 rc hi wi fr fc lc cnt rs rl rb str ck (upd y28_3 a.toNatClampNeg x28_4) hv.1) yV_X3_areSo nMX6_161 ⟨rfl, rfl, Nat.le_of_ble_eq_true rfl, Nat.le_of_ble_eq_true rfl⟩ 6 3 rfl rfl rfl [6, 7, 8, 9, 4, 5, 1, 2, 3] [0] [0, 7, 8, 9, 5, 6, 1, 2, 3, 4] rfl rfl rfl (by decide) (by decide) rfl rfl (Nat.le_of_ble_eq_true rfl) ⟨Nat.le_of_ble_eq_true rfl, Nat.le_of_ble_eq_true rfl⟩ (dOk_at dX6_weights 33 rfl) (fun H locs hh => ?_)
        have hv := hv.2
        have k73_62 : ∀ (v73 : Int32), v73 = (if (s_areSo rs rl rb str ck (upd y28_3 a.toNatClampNeg x28_4) rc.toNatClampNeg) = 0 then (0 : Int32) else (1 : Int32) <<< (x28_4 &&& 31)) → ∀ (H : Heap) (locs : List Loc) (ls : Array Slot), HP G A [(b0, .inr (6, [.ref bs, .ref x0, .ref d0, .ref r0, .ref i0, .ref c0, .ref j0, .ref e0, .int lf, .int tr])), (c0, .inr (0, [.ref c1, .ref c2, .int cnt])), (c1, .inl (G.2.1, 4, .inl ck)), (c2, .inl (G.2.1, 4, .inl (upd y28_3 a.toNatClampNeg x28_4))), (i0, .inr (2, [.ref i1, .int hi, .int wi, .int fr, .int fc, .int lc])), (i1, .inl (G.2.1, 20, .inl str)), (r0, .inr (3, [.ref r1, .ref r2, .ref r3, .int rc])), (r1, .inl (G.2.1, 8, .inl rs)), (r2, .inl (G.2.1, 8, .inl rl)), (r3, .inl (G.2.2.1, 8, .inl rb))] s H locs → lv_has ls 5 [(0, .ref b0), (1, .int a), (2, .int (cwt a.toNatClampNeg)), (4, .int x28_4)] → W p l e rm_X6_weights s m args below meth c H locs 0 0 Q (F0 m 73 ls [.int v73, .int x28_3]) := by
          intro v73 e73_0 H locs ls hh hl
          have hv := hv v73 e73_0
          refine lv_ior (pc := 73) hx hb (dOk_at dX6_weights 40 rfl) ?_
          refine lv_istore_n (pc := 74) (lv' := [(3, .int (x28_3 ||| v73)), (0, .ref b0), (1, .int a), (2, .int (cwt a.toNatClampNeg)), (4, .int x28_4)]) hx hb (dOk_at dX6_weights 41 rfl) rfl hl (by decide) rfl (fun ls hl => ?_)
          refine lv_iinc (pc := 75) (v := x28_4 + 1) (lv' := [(4, .int (x28_4 + 1)), (3, .int (x28_3 ||| v73)), (0, .ref b0), (1, .int a), (2, .int (cwt a.toNatClampNeg))]) hx hb (dOk_at dX6_weights 42 rfl) hl (k := 4) rfl rfl (by decide) rfl (fun ls hl => ?_)
          refine lv_goto (pc := 78) (tgt := 28) hx hb (dOk_at dX6_weights 43 rfl) (by decide) ?_
          obtain ⟨k0, hk0, hj0⟩ := hv
          exact ih28 k0 hk0 (x28_3 ||| v73) (x28_4 + 1) (upd y28_3 a.toNatClampNeg x28_4) hj0 _ _ _ hh (lv_sub hl [2, 3, 4, 1, 0] rfl)
        refine lv_if_eq (pc := 62) (tgt := 72) hx hb (dOk_at dX6_weights 34 rfl) (by decide) (fun c62 => ?_) (fun c62 => ?_)
        · refine lv_iconst (pc := 72) (v := 0) hx hb (dOk_at dX6_weights 39 rfl) (by decide) ?_
          exact k73_62 _ (if_pos c62).symm _ _ _ hh (lv_sub hl [0, 1, 2, 4] rfl)
        · refine lv_iconst (pc := 65) (v := 1) hx hb (dOk_at dX6_weights 35 rfl) (by decide) ?_
          refine lv_iload (pc := 66) hx hb (dOk_at dX6_weights 36 rfl) (lv_at hl 4 rfl) ?_
          refine lv_ishl (pc := 68) hx hb (dOk_at dX6_weights 37 rfl) ?_
          refine lv_goto (pc := 69) (tgt := 73) hx hb (dOk_at dX6_weights 38 rfl) (by decide) ?_
          exact k73_62 _ (if_neg c62).symm _ _ _ hh (lv_sub hl [0, 1, 2, 4] rfl)
  refine lv_aload_n (pc := 0) hx hb (dOk_at dX6_weights 0 rfl) rfl (lv_at hl 0 rfl) ?_
  refine r_get (pc := 1) (ci := 6) fx hh inT6 rfl 5 (by decide) tFX6_48 rfl 0 rfl rfl (dOk_at dX6_weights 1 rfl) ?_
  refine lv_iload_n (pc := 4) hx hb (dOk_at dX6_weights 2 rfl) rfl (lv_at hl 1 rfl) ?_
  refine cl_VN (pc := 5) (w' := [(b0, .inr (6, [.ref bs, .ref x0, .ref d0, .ref r0, .ref i0, .ref c0, .ref j0, .ref e0, .int lf, .int tr])), (c0, .inr (0, [.ref c1, .ref c2, .int cnt])), (c1, .inl (G.2.1, 4, .inl ck)), (c2, .inl (G.2.1, 4, .inl cwt)), (i0, .inr (2, [.ref i1, .int hi, .int wi, .int fr, .int fc, .int lc])), (i1, .inl (G.2.1, 20, .inl str)), (r0, .inr (3, [.ref r1, .ref r2, .ref r3, .int rc])), (r1, .inl (G.2.1, 8, .inl rs)), (r2, .inl (G.2.1, 8, .inl rl)), (r3, .inl (G.2.2.1, 8, .inl rb))]) (wr := [(b0, .inr (6, [.ref bs, .ref x0, .ref d0, .ref r0, .ref i0, .ref c0, .ref j0, .ref e0, .int lf, .int tr])), (c1, .inl (G.2.1, 4, .inl ck)), (c2, .inl (G.2.1, 4, .inl cwt)), (i0, .inr (2, [.ref i1, .int hi, .int wi, .int fr, .int fc, .int lc])), (i1, .inl (G.2.1, 20, .inl str)), (r0, .inr (3, [.ref r1, .ref r2, .ref r3, .int rc])), (r1, .inl (G.2.1, 8, .inl rs)), (r2, .inl (G.2.1, 8, .inl rl)), (r3, .inl (G.2.2.1, 8, .inl rb))]) (rest := []) fx hh hl.1 (h_X0_has c0 c1 c2 cnt a) yV_X0_has nMX6_74 ⟨rfl, rfl, Nat.le_of_ble_eq_true rfl, Nat.le_of_ble_eq_true rfl⟩ 1 0 rfl rfl rfl [1] [0, 2, 3, 4, 5, 6, 7, 8, 9] [0, 9, 1, 2, 3, 4, 5, 6, 7, 8] rfl rfl rfl (by decide) (by decide) rfl rfl (Nat.le_of_ble_eq_true rfl) ⟨Nat.le_of_ble_eq_true rfl, Nat.le_of_ble_eq_true rfl⟩ (dOk_at dX6_weights 3 rfl) (fun H locs hh => ?_)
  refine lv_if_ne (pc := 8) (tgt := 13) hx hb (dOk_at dX6_weights 4 rfl) (by decide) (fun c8 => ?_) (fun c8 => ?_)
  · have hv := hv.1 c8
    refine lv_aload_n (pc := 13) hx hb (dOk_at dX6_weights 7 rfl) rfl (lv_at hl 0 rfl) ?_
    refine r_get (pc := 14) (ci := 6) fx hh inT6 rfl 5 (by decide) tFX6_48 rfl 0 rfl rfl (dOk_at dX6_weights 8 rfl) ?_
    refine r_getN (pc := 17) (ci := 0) fx hh inT0 rfl 1 (by decide) nFX6_82 rfl 1 rfl rfl (dOk_at dX6_weights 9 rfl) ?_
    refine lv_iload_n (pc := 20) hx hb (dOk_at dX6_weights 10 rfl) rfl (lv_at hl 1 rfl) ?_
    refine r_iald (pc := 21) fx hh 3 rfl hv.1 (dOk_at dX6_weights 11 rfl) ?_
    have hv := hv.2
    refine lv_istore_n (pc := 22) (lv' := [(2, .int (cwt a.toNatClampNeg)), (0, .ref b0), (1, .int a)]) hx hb (dOk_at dX6_weights 12 rfl) rfl hl (by decide) rfl (fun ls hl => ?_)
    refine lv_iconst (pc := 23) (v := 0) hx hb (dOk_at dX6_weights 13 rfl) (by decide) ?_
    refine lv_istore_n (pc := 24) (lv' := [(3, .int 0), (2, .int (cwt a.toNatClampNeg)), (0, .ref b0), (1, .int a)]) hx hb (dOk_at dX6_weights 14 rfl) rfl hl (by decide) rfl (fun ls hl => ?_)
    refine lv_iconst (pc := 25) (v := 1) hx hb (dOk_at dX6_weights 15 rfl) (by decide) ?_
    refine lv_istore (pc := 26) (lv' := [(4, .int 1), (3, .int 0), (2, .int (cwt a.toNatClampNeg)), (0, .ref b0), (1, .int a)]) hx hb (dOk_at dX6_weights 16 rfl) hl (by decide) rfl (fun ls hl => ?_)
    obtain ⟨k0, hj0⟩ := hv
    exact lp28 k0 0 1 cwt hj0 _ _ _ hh (lv_sub hl [3, 4, 2, 1, 0] rfl)
  · have hv := hv.2 c8
    refine lv_iconst (pc := 11) (v := (-1)) hx hb (dOk_at dX6_weights 5 rfl) (by decide) ?_
    obtain ⟨e0, e1⟩ := hv
    subst e0
    subst e1
    rw [hQ]
    exact r_iret (pc := 12) fx hh (dOk_at dX6_weights 6 rfl)
set_option maxRecDepth 100000 in
set_option maxHeartbeats 4000000 in
theorem wk_X6_kinds (l : Launch) (G : GT) (b0 : Nat) (c0 : Nat) (c1 : Nat) (c2 : Nat) (i0 : Nat) (i1 : Nat) (r0 : Nat) (r1 : Nat) (r2 : Nat) (r3 : Nat) (bs : Nat) (x0 : Nat) (d0 : Nat) (j0 : Nat) (e0 : Nat) (lf : Int32) (tr : Int32) (cnt : Int32) (hi : Int32) (wi : Int32) (fr : Int32) (fc : Int32) (lc : Int32) (rc : Int32) (ck : Nat → Int32) (cwt : Nat → Int32) (str : Nat → Int32) (rs : Nat → Int32) (rl : Nat → Int32) (rb : Nat → Int32) (a : Int32) (R : Int32) (t2 : Nat → Int32) (J28 : Nat → Int32 → Int32 → (Nat → Int32) → Prop) (h_X0_has : K_X0_has l G) (h_X3_areSo : K_X3_areSo l G)
    (hv : (¬ (s_sk cnt a) = 0 → vp_in a 4 ∧ (∃ k2 : Nat, J28 k2 0 0 ck)) ∧ ((s_sk cnt a) = 0 → (-1 : Int32) = R ∧ ck = t2))
    (hv28 : ∀ (n28 : Nat) (x28_3 : Int32) (x28_4 : Int32) (y28_2 : Nat → Int32), J28 n28 x28_3 x28_4 y28_2 → (2 < x28_4 → vp_in a 4 ∧ (x28_3 = R ∧ (upd y28_2 a.toNatClampNeg (ck a.toNatClampNeg)) = t2)) ∧ (¬ 2 < x28_4 → vp_in a 4 ∧ (okR rc rs rl ∧ ((∀ (v72 : Int32), v72 = (if (s_areSo rs rl rb str (upd y28_2 a.toNatClampNeg x28_4) cwt rc.toNatClampNeg) = 0 then (0 : Int32) else (1 : Int32) <<< (x28_4 &&& 31)) → ∃ k1 : Nat, k1 < n28 ∧ J28 k1 (x28_3 ||| v72) (x28_4 + 1) (upd y28_2 a.toNatClampNeg x28_4)))))) :
    MF l G yX6_kinds cX6_kinds 5 (some .int) rm_X6_kinds [.ref b0, .int a] [(b0, .inr (6, [.ref bs, .ref x0, .ref d0, .ref r0, .ref i0, .ref c0, .ref j0, .ref e0, .int lf, .int tr])), (c0, .inr (0, [.ref c1, .ref c2, .int cnt])), (c1, .inl (G.2.1, 4, .inl ck)), (c2, .inl (G.2.1, 4, .inl cwt)), (i0, .inr (2, [.ref i1, .int hi, .int wi, .int fr, .int fc, .int lc])), (i1, .inl (G.2.1, 20, .inl str)), (r0, .inr (3, [.ref r1, .ref r2, .ref r3, .int rc])), (r1, .inl (G.2.1, 8, .inl rs)), (r2, .inl (G.2.1, 8, .inl rl)), (r3, .inl (G.2.2.1, 8, .inl rb))] (some (.int R)) [(b0, .inr (6, [.ref bs, .ref x0, .ref d0, .ref r0, .ref i0, .ref c0, .ref j0, .ref e0, .int lf, .int tr])), (c0, .inr (0, [.ref c1, .ref c2, .int cnt])), (c1, .inl (G.2.1, 4, .inl t2)), (c2, .inl (G.2.1, 4, .inl cwt)), (i0, .inr (2, [.ref i1, .int hi, .int wi, .int fr, .int fc, .int lc])), (i1, .inl (G.2.1, 20, .inl str)), (r0, .inr (3, [.ref r1, .ref r2, .ref r3, .int rc])), (r1, .inl (G.2.1, 8, .inl rs)), (r2, .inl (G.2.1, 8, .inl rl)), (r3, .inl (G.2.2.1, 8, .inl rb))] := by
  refine MF.of (by decide +kernel) (Nat.le_of_ble_eq_true rfl) ?_
  intro p e s m args below meth c A ls fx hh hl _
  have hx := fx.hx
  have hb := fx.hb
  have hl : lv_has ls 5 [(0, .ref b0), (1, .int a)] := hl
  obtain ⟨Q, hQ⟩ : ∃ Q, Q = ZZ G A (some (.int R)) [(b0, .inr (6, [.ref bs, .ref x0, .ref d0, .ref r0, .ref i0, .ref c0, .ref j0, .ref e0, .int lf, .int tr])), (c0, .inr (0, [.ref c1, .ref c2, .int cnt])), (c1, .inl (G.2.1, 4, .inl t2)), (c2, .inl (G.2.1, 4, .inl cwt)), (i0, .inr (2, [.ref i1, .int hi, .int wi, .int fr, .int fc, .int lc])), (i1, .inl (G.2.1, 20, .inl str)), (r0, .inr (3, [.ref r1, .ref r2, .ref r3, .int rc])), (r1, .inl (G.2.1, 8, .inl rs)), (r2, .inl (G.2.1, 8, .inl rl)), (r3, .inl (G.2.2.1, 8, .inl rb))] below args s := ⟨_, rfl⟩
  rw [← hQ]
  have lp28 : ∀ (n28 : Nat) (x28_3 : Int32) (x28_4 : Int32) (y28_2 : Nat → Int32), J28 n28 x28_3 x28_4 y28_2 → ∀ (H : Heap) (locs : List Loc) (ls : Array Slot), HP G A [(b0, .inr (6, [.ref bs, .ref x0, .ref d0, .ref r0, .ref i0, .ref c0, .ref j0, .ref e0, .int lf, .int tr])), (c0, .inr (0, [.ref c1, .ref c2, .int cnt])), (c1, .inl (G.2.1, 4, .inl y28_2)), (c2, .inl (G.2.1, 4, .inl cwt)), (i0, .inr (2, [.ref i1, .int hi, .int wi, .int fr, .int fc, .int lc])), (i1, .inl (G.2.1, 20, .inl str)), (r0, .inr (3, [.ref r1, .ref r2, .ref r3, .int rc])), (r1, .inl (G.2.1, 8, .inl rs)), (r2, .inl (G.2.1, 8, .inl rl)), (r3, .inl (G.2.2.1, 8, .inl rb))] s H locs → lv_has ls 5 [(0, .ref b0), (1, .int a), (2, .int (ck a.toNatClampNeg)), (3, .int x28_3), (4, .int x28_4)] → W p l e rm_X6_kinds s m args below meth c H locs 0 0 Q (F0 m 28 ls []) := by
    intro n28
    induction n28 using Nat.strongRecOn with
    | ind n28 ih28 =>
      intro x28_3 x28_4 y28_2 hj28 H locs ls hh hl
      have hv := hv28 n28 x28_3 x28_4 y28_2 hj28
      refine lv_iload (pc := 28) hx hb (dOk_at dX6_kinds 17 rfl) (lv_at hl 4 rfl) ?_
      refine lv_iconst (pc := 30) (v := 2) hx hb (dOk_at dX6_kinds 18 rfl) (by decide) ?_
      refine lv_icmp_gt (pc := 31) (tgt := 80) hx hb (dOk_at dX6_kinds 19 rfl) (by decide) (fun c31 => ?_) (fun c31 => ?_)
      · have hv := hv.1 c31
        refine lv_aload_n (pc := 80) hx hb (dOk_at dX6_kinds 44 rfl) rfl (lv_at hl 0 rfl) ?_
        refine r_get (pc := 81) (ci := 6) fx hh inT6 rfl 5 (by decide) tFX6_48 rfl 0 rfl rfl (dOk_at dX6_kinds 45 rfl) ?_
        refine r_getN (pc := 84) (ci := 0) fx hh inT0 rfl 0 (by decide) nFX6_78 rfl 1 rfl rfl (dOk_at dX6_kinds 46 rfl) ?_
        refine lv_iload_n (pc := 87) hx hb (dOk_at dX6_kinds 47 rfl) rfl (lv_at hl 1 rfl) ?_
        refine lv_iload_n (pc := 88) hx hb (dOk_at dX6_kinds 48 rfl) rfl (lv_at hl 2 rfl) ?_
        refine r_iast (pc := 89) (w' := [(b0, .inr (6, [.ref bs, .ref x0, .ref d0, .ref r0, .ref i0, .ref c0, .ref j0, .ref e0, .int lf, .int tr])), (c0, .inr (0, [.ref c1, .ref c2, .int cnt])), (c1, .inl (G.2.1, 4, .inl (upd y28_2 a.toNatClampNeg (ck a.toNatClampNeg)))), (c2, .inl (G.2.1, 4, .inl cwt)), (i0, .inr (2, [.ref i1, .int hi, .int wi, .int fr, .int fc, .int lc])), (i1, .inl (G.2.1, 20, .inl str)), (r0, .inr (3, [.ref r1, .ref r2, .ref r3, .int rc])), (r1, .inl (G.2.1, 8, .inl rs)), (r2, .inl (G.2.1, 8, .inl rl)), (r3, .inl (G.2.2.1, 8, .inl rb))]) fx hh 2 rfl hv.1 rfl (dOk_at dX6_kinds 49 rfl) (fun H locs hh => ?_)
        have hv := hv.2
        refine lv_iload_n (pc := 90) hx hb (dOk_at dX6_kinds 50 rfl) rfl (lv_at hl 3 rfl) ?_
        obtain ⟨e0, e1⟩ := hv
        subst e0
        subst e1
        rw [hQ]
        exact r_iret (pc := 91) fx hh (dOk_at dX6_kinds 51 rfl)
      · have hv := hv.2 c31
        refine lv_aload_n (pc := 34) hx hb (dOk_at dX6_kinds 20 rfl) rfl (lv_at hl 0 rfl) ?_
        refine r_get (pc := 35) (ci := 6) fx hh inT6 rfl 5 (by decide) tFX6_48 rfl 0 rfl rfl (dOk_at dX6_kinds 21 rfl) ?_
        refine r_getN (pc := 38) (ci := 0) fx hh inT0 rfl 0 (by decide) nFX6_78 rfl 1 rfl rfl (dOk_at dX6_kinds 22 rfl) ?_
        refine lv_iload_n (pc := 41) hx hb (dOk_at dX6_kinds 23 rfl) rfl (lv_at hl 1 rfl) ?_
        refine lv_iload (pc := 42) hx hb (dOk_at dX6_kinds 24 rfl) (lv_at hl 4 rfl) ?_
        refine r_iast (pc := 44) (w' := [(b0, .inr (6, [.ref bs, .ref x0, .ref d0, .ref r0, .ref i0, .ref c0, .ref j0, .ref e0, .int lf, .int tr])), (c0, .inr (0, [.ref c1, .ref c2, .int cnt])), (c1, .inl (G.2.1, 4, .inl (upd y28_2 a.toNatClampNeg x28_4))), (c2, .inl (G.2.1, 4, .inl cwt)), (i0, .inr (2, [.ref i1, .int hi, .int wi, .int fr, .int fc, .int lc])), (i1, .inl (G.2.1, 20, .inl str)), (r0, .inr (3, [.ref r1, .ref r2, .ref r3, .int rc])), (r1, .inl (G.2.1, 8, .inl rs)), (r2, .inl (G.2.1, 8, .inl rl)), (r3, .inl (G.2.2.1, 8, .inl rb))]) fx hh 2 rfl hv.1 rfl (dOk_at dX6_kinds 25 rfl) (fun H locs hh => ?_)
        have hv := hv.2
        refine lv_iload_n (pc := 45) hx hb (dOk_at dX6_kinds 26 rfl) rfl (lv_at hl 3 rfl) ?_
        refine lv_aload_n (pc := 46) hx hb (dOk_at dX6_kinds 27 rfl) rfl (lv_at hl 0 rfl) ?_
        refine r_get (pc := 47) (ci := 6) fx hh inT6 rfl 3 (by decide) tFX6_34 rfl 0 rfl rfl (dOk_at dX6_kinds 28 rfl) ?_
        refine lv_aload_n (pc := 50) hx hb (dOk_at dX6_kinds 29 rfl) rfl (lv_at hl 0 rfl) ?_
        refine r_get (pc := 51) (ci := 6) fx hh inT6 rfl 4 (by decide) tFX6_41 rfl 0 rfl rfl (dOk_at dX6_kinds 30 rfl) ?_
        refine lv_aload_n (pc := 54) hx hb (dOk_at dX6_kinds 31 rfl) rfl (lv_at hl 0 rfl) ?_
        refine r_get (pc := 55) (ci := 6) fx hh inT6 rfl 5 (by decide) tFX6_48 rfl 0 rfl rfl (dOk_at dX6_kinds 32 rfl) ?_
        refine cl_VN (pc := 58) (w' := [(b0, .inr (6, [.ref bs, .ref x0, .ref d0, .ref r0, .ref i0, .ref c0, .ref j0, .ref e0, .int lf, .int tr])), (c0, .inr (0, [.ref c1, .ref c2, .int cnt])), (c1, .inl (G.2.1, 4, .inl (upd y28_2 a.toNatClampNeg x28_4))), (c2, .inl (G.2.1, 4, .inl cwt)), (i0, .inr (2, [.ref i1, .int hi, .int wi, .int fr, .int fc, .int lc])), (i1, .inl (G.2.1, 20, .inl str)), (r0, .inr (3, [.ref r1, .ref r2, .ref r3, .int rc])), (r1, .inl (G.2.1, 8, .inl rs)), (r2, .inl (G.2.1, 8, .inl rl)), (r3, .inl (G.2.2.1, 8, .inl rb))]) (wr := [(b0, .inr (6, [.ref bs, .ref x0, .ref d0, .ref r0, .ref i0, .ref c0, .ref j0, .ref e0, .int lf, .int tr]))]) (rest := [.int x28_3]) fx hh hl.1 (h_X3_areSo r0 r1 r2 r3 i0 i1 c0 c1 c2 rc hi wi fr fc lc cnt rs rl rb str (upd y28_2 a.toNatClampNeg x28_4) cwt hv.1) yV_X3_areSo nMX6_161 ⟨rfl, rfl, Nat.le_of_ble_eq_true rfl, Nat.le_of_ble_eq_true rfl⟩ 6 3 rfl rfl rfl [6, 7, 8, 9, 4, 5, 1, 2, 3] [0] [0, 7, 8, 9, 5, 6, 1, 2, 3, 4] rfl rfl rfl (by decide) (by decide) rfl rfl (Nat.le_of_ble_eq_true rfl) ⟨Nat.le_of_ble_eq_true rfl, Nat.le_of_ble_eq_true rfl⟩ (dOk_at dX6_kinds 33 rfl) (fun H locs hh => ?_)
        have hv := hv.2
        have k72_61 : ∀ (v72 : Int32), v72 = (if (s_areSo rs rl rb str (upd y28_2 a.toNatClampNeg x28_4) cwt rc.toNatClampNeg) = 0 then (0 : Int32) else (1 : Int32) <<< (x28_4 &&& 31)) → ∀ (H : Heap) (locs : List Loc) (ls : Array Slot), HP G A [(b0, .inr (6, [.ref bs, .ref x0, .ref d0, .ref r0, .ref i0, .ref c0, .ref j0, .ref e0, .int lf, .int tr])), (c0, .inr (0, [.ref c1, .ref c2, .int cnt])), (c1, .inl (G.2.1, 4, .inl (upd y28_2 a.toNatClampNeg x28_4))), (c2, .inl (G.2.1, 4, .inl cwt)), (i0, .inr (2, [.ref i1, .int hi, .int wi, .int fr, .int fc, .int lc])), (i1, .inl (G.2.1, 20, .inl str)), (r0, .inr (3, [.ref r1, .ref r2, .ref r3, .int rc])), (r1, .inl (G.2.1, 8, .inl rs)), (r2, .inl (G.2.1, 8, .inl rl)), (r3, .inl (G.2.2.1, 8, .inl rb))] s H locs → lv_has ls 5 [(0, .ref b0), (1, .int a), (2, .int (ck a.toNatClampNeg)), (4, .int x28_4)] → W p l e rm_X6_kinds s m args below meth c H locs 0 0 Q (F0 m 72 ls [.int v72, .int x28_3]) := by
          intro v72 e72_0 H locs ls hh hl
          have hv := hv v72 e72_0
          refine lv_ior (pc := 72) hx hb (dOk_at dX6_kinds 40 rfl) ?_
          refine lv_istore_n (pc := 73) (lv' := [(3, .int (x28_3 ||| v72)), (0, .ref b0), (1, .int a), (2, .int (ck a.toNatClampNeg)), (4, .int x28_4)]) hx hb (dOk_at dX6_kinds 41 rfl) rfl hl (by decide) rfl (fun ls hl => ?_)
          refine lv_iinc (pc := 74) (v := x28_4 + 1) (lv' := [(4, .int (x28_4 + 1)), (3, .int (x28_3 ||| v72)), (0, .ref b0), (1, .int a), (2, .int (ck a.toNatClampNeg))]) hx hb (dOk_at dX6_kinds 42 rfl) hl (k := 4) rfl rfl (by decide) rfl (fun ls hl => ?_)
          refine lv_goto (pc := 77) (tgt := 28) hx hb (dOk_at dX6_kinds 43 rfl) (by decide) ?_
          obtain ⟨k0, hk0, hj0⟩ := hv
          exact ih28 k0 hk0 (x28_3 ||| v72) (x28_4 + 1) (upd y28_2 a.toNatClampNeg x28_4) hj0 _ _ _ hh (lv_sub hl [2, 3, 4, 1, 0] rfl)
        refine lv_if_eq (pc := 61) (tgt := 71) hx hb (dOk_at dX6_kinds 34 rfl) (by decide) (fun c61 => ?_) (fun c61 => ?_)
        · refine lv_iconst (pc := 71) (v := 0) hx hb (dOk_at dX6_kinds 39 rfl) (by decide) ?_
          exact k72_61 _ (if_pos c61).symm _ _ _ hh (lv_sub hl [0, 1, 2, 4] rfl)
        · refine lv_iconst (pc := 64) (v := 1) hx hb (dOk_at dX6_kinds 35 rfl) (by decide) ?_
          refine lv_iload (pc := 65) hx hb (dOk_at dX6_kinds 36 rfl) (lv_at hl 4 rfl) ?_
          refine lv_ishl (pc := 67) hx hb (dOk_at dX6_kinds 37 rfl) ?_
          refine lv_goto (pc := 68) (tgt := 72) hx hb (dOk_at dX6_kinds 38 rfl) (by decide) ?_
          exact k72_61 _ (if_neg c61).symm _ _ _ hh (lv_sub hl [0, 1, 2, 4] rfl)
  refine lv_aload_n (pc := 0) hx hb (dOk_at dX6_kinds 0 rfl) rfl (lv_at hl 0 rfl) ?_
  refine r_get (pc := 1) (ci := 6) fx hh inT6 rfl 5 (by decide) tFX6_48 rfl 0 rfl rfl (dOk_at dX6_kinds 1 rfl) ?_
  refine lv_iload_n (pc := 4) hx hb (dOk_at dX6_kinds 2 rfl) rfl (lv_at hl 1 rfl) ?_
  refine cl_VN (pc := 5) (w' := [(b0, .inr (6, [.ref bs, .ref x0, .ref d0, .ref r0, .ref i0, .ref c0, .ref j0, .ref e0, .int lf, .int tr])), (c0, .inr (0, [.ref c1, .ref c2, .int cnt])), (c1, .inl (G.2.1, 4, .inl ck)), (c2, .inl (G.2.1, 4, .inl cwt)), (i0, .inr (2, [.ref i1, .int hi, .int wi, .int fr, .int fc, .int lc])), (i1, .inl (G.2.1, 20, .inl str)), (r0, .inr (3, [.ref r1, .ref r2, .ref r3, .int rc])), (r1, .inl (G.2.1, 8, .inl rs)), (r2, .inl (G.2.1, 8, .inl rl)), (r3, .inl (G.2.2.1, 8, .inl rb))]) (wr := [(b0, .inr (6, [.ref bs, .ref x0, .ref d0, .ref r0, .ref i0, .ref c0, .ref j0, .ref e0, .int lf, .int tr])), (c1, .inl (G.2.1, 4, .inl ck)), (c2, .inl (G.2.1, 4, .inl cwt)), (i0, .inr (2, [.ref i1, .int hi, .int wi, .int fr, .int fc, .int lc])), (i1, .inl (G.2.1, 20, .inl str)), (r0, .inr (3, [.ref r1, .ref r2, .ref r3, .int rc])), (r1, .inl (G.2.1, 8, .inl rs)), (r2, .inl (G.2.1, 8, .inl rl)), (r3, .inl (G.2.2.1, 8, .inl rb))]) (rest := []) fx hh hl.1 (h_X0_has c0 c1 c2 cnt a) yV_X0_has nMX6_74 ⟨rfl, rfl, Nat.le_of_ble_eq_true rfl, Nat.le_of_ble_eq_true rfl⟩ 1 0 rfl rfl rfl [1] [0, 2, 3, 4, 5, 6, 7, 8, 9] [0, 9, 1, 2, 3, 4, 5, 6, 7, 8] rfl rfl rfl (by decide) (by decide) rfl rfl (Nat.le_of_ble_eq_true rfl) ⟨Nat.le_of_ble_eq_true rfl, Nat.le_of_ble_eq_true rfl⟩ (dOk_at dX6_kinds 3 rfl) (fun H locs hh => ?_)
  refine lv_if_ne (pc := 8) (tgt := 13) hx hb (dOk_at dX6_kinds 4 rfl) (by decide) (fun c8 => ?_) (fun c8 => ?_)
  · have hv := hv.1 c8
    refine lv_aload_n (pc := 13) hx hb (dOk_at dX6_kinds 7 rfl) rfl (lv_at hl 0 rfl) ?_
    refine r_get (pc := 14) (ci := 6) fx hh inT6 rfl 5 (by decide) tFX6_48 rfl 0 rfl rfl (dOk_at dX6_kinds 8 rfl) ?_
    refine r_getN (pc := 17) (ci := 0) fx hh inT0 rfl 0 (by decide) nFX6_78 rfl 1 rfl rfl (dOk_at dX6_kinds 9 rfl) ?_
    refine lv_iload_n (pc := 20) hx hb (dOk_at dX6_kinds 10 rfl) rfl (lv_at hl 1 rfl) ?_
    refine r_iald (pc := 21) fx hh 2 rfl hv.1 (dOk_at dX6_kinds 11 rfl) ?_
    have hv := hv.2
    refine lv_istore_n (pc := 22) (lv' := [(2, .int (ck a.toNatClampNeg)), (0, .ref b0), (1, .int a)]) hx hb (dOk_at dX6_kinds 12 rfl) rfl hl (by decide) rfl (fun ls hl => ?_)
    refine lv_iconst (pc := 23) (v := 0) hx hb (dOk_at dX6_kinds 13 rfl) (by decide) ?_
    refine lv_istore_n (pc := 24) (lv' := [(3, .int 0), (2, .int (ck a.toNatClampNeg)), (0, .ref b0), (1, .int a)]) hx hb (dOk_at dX6_kinds 14 rfl) rfl hl (by decide) rfl (fun ls hl => ?_)
    refine lv_iconst (pc := 25) (v := 0) hx hb (dOk_at dX6_kinds 15 rfl) (by decide) ?_
    refine lv_istore (pc := 26) (lv' := [(4, .int 0), (3, .int 0), (2, .int (ck a.toNatClampNeg)), (0, .ref b0), (1, .int a)]) hx hb (dOk_at dX6_kinds 16 rfl) hl (by decide) rfl (fun ls hl => ?_)
    obtain ⟨k0, hj0⟩ := hv
    exact lp28 k0 0 0 ck hj0 _ _ _ hh (lv_sub hl [3, 4, 2, 1, 0] rfl)
  · have hv := hv.2 c8
    refine lv_iconst (pc := 11) (v := (-1)) hx hb (dOk_at dX6_kinds 5 rfl) (by decide) ?_
    obtain ⟨e0, e1⟩ := hv
    subst e0
    subst e1
    rw [hQ]
    exact r_iret (pc := 12) fx hh (dOk_at dX6_kinds 6 rfl)
set_option maxRecDepth 100000 in
set_option maxHeartbeats 4000000 in
theorem wk_X6_strengths (l : Launch) (G : GT) (b0 : Nat) (c0 : Nat) (c1 : Nat) (c2 : Nat) (i0 : Nat) (i1 : Nat) (r0 : Nat) (r1 : Nat) (r2 : Nat) (r3 : Nat) (bs : Nat) (x0 : Nat) (d0 : Nat) (j0 : Nat) (e0 : Nat) (lf : Int32) (tr : Int32) (cnt : Int32) (hi : Int32) (wi : Int32) (fr : Int32) (fc : Int32) (lc : Int32) (rc : Int32) (ck : Nat → Int32) (cwt : Nat → Int32) (str : Nat → Int32) (rs : Nat → Int32) (rl : Nat → Int32) (rb : Nat → Int32) (ce : Int32) (R : Int32) (t5 : Nat → Int32) (J28 : Nat → Int32 → Int32 → (Nat → Int32) → Prop) (h_X2_has : K_X2_has l G) (h_X3_areSo : K_X3_areSo l G)
    (hv : (¬ (s_ce hi wi ce) = 0 → vp_in ce 20 ∧ (∃ k2 : Nat, J28 k2 0 0 str)) ∧ ((s_ce hi wi ce) = 0 → (-1 : Int32) = R ∧ str = t5))
    (hv28 : ∀ (n28 : Nat) (x28_3 : Int32) (x28_4 : Int32) (y28_5 : Nat → Int32), J28 n28 x28_3 x28_4 y28_5 → (9 < x28_4 → vp_in ce 20 ∧ (x28_3 = R ∧ (upd y28_5 ce.toNatClampNeg (str ce.toNatClampNeg)) = t5)) ∧ (¬ 9 < x28_4 → vp_in ce 20 ∧ (okR rc rs rl ∧ ((∀ (v73 : Int32), v73 = (if (s_areSo rs rl rb (upd y28_5 ce.toNatClampNeg x28_4) ck cwt rc.toNatClampNeg) = 0 then (0 : Int32) else (1 : Int32) <<< (x28_4 &&& 31)) → ∃ k1 : Nat, k1 < n28 ∧ J28 k1 (x28_3 ||| v73) (x28_4 + 1) (upd y28_5 ce.toNatClampNeg x28_4)))))) :
    MF l G yX6_strengths cX6_strengths 5 (some .int) rm_X6_strengths [.ref b0, .int ce] [(b0, .inr (6, [.ref bs, .ref x0, .ref d0, .ref r0, .ref i0, .ref c0, .ref j0, .ref e0, .int lf, .int tr])), (c0, .inr (0, [.ref c1, .ref c2, .int cnt])), (c1, .inl (G.2.1, 4, .inl ck)), (c2, .inl (G.2.1, 4, .inl cwt)), (i0, .inr (2, [.ref i1, .int hi, .int wi, .int fr, .int fc, .int lc])), (i1, .inl (G.2.1, 20, .inl str)), (r0, .inr (3, [.ref r1, .ref r2, .ref r3, .int rc])), (r1, .inl (G.2.1, 8, .inl rs)), (r2, .inl (G.2.1, 8, .inl rl)), (r3, .inl (G.2.2.1, 8, .inl rb))] (some (.int R)) [(b0, .inr (6, [.ref bs, .ref x0, .ref d0, .ref r0, .ref i0, .ref c0, .ref j0, .ref e0, .int lf, .int tr])), (c0, .inr (0, [.ref c1, .ref c2, .int cnt])), (c1, .inl (G.2.1, 4, .inl ck)), (c2, .inl (G.2.1, 4, .inl cwt)), (i0, .inr (2, [.ref i1, .int hi, .int wi, .int fr, .int fc, .int lc])), (i1, .inl (G.2.1, 20, .inl t5)), (r0, .inr (3, [.ref r1, .ref r2, .ref r3, .int rc])), (r1, .inl (G.2.1, 8, .inl rs)), (r2, .inl (G.2.1, 8, .inl rl)), (r3, .inl (G.2.2.1, 8, .inl rb))] := by
  refine MF.of (by decide +kernel) (Nat.le_of_ble_eq_true rfl) ?_
  intro p e s m args below meth c A ls fx hh hl _
  have hx := fx.hx
  have hb := fx.hb
  have hl : lv_has ls 5 [(0, .ref b0), (1, .int ce)] := hl
  obtain ⟨Q, hQ⟩ : ∃ Q, Q = ZZ G A (some (.int R)) [(b0, .inr (6, [.ref bs, .ref x0, .ref d0, .ref r0, .ref i0, .ref c0, .ref j0, .ref e0, .int lf, .int tr])), (c0, .inr (0, [.ref c1, .ref c2, .int cnt])), (c1, .inl (G.2.1, 4, .inl ck)), (c2, .inl (G.2.1, 4, .inl cwt)), (i0, .inr (2, [.ref i1, .int hi, .int wi, .int fr, .int fc, .int lc])), (i1, .inl (G.2.1, 20, .inl t5)), (r0, .inr (3, [.ref r1, .ref r2, .ref r3, .int rc])), (r1, .inl (G.2.1, 8, .inl rs)), (r2, .inl (G.2.1, 8, .inl rl)), (r3, .inl (G.2.2.1, 8, .inl rb))] below args s := ⟨_, rfl⟩
  rw [← hQ]
  have lp28 : ∀ (n28 : Nat) (x28_3 : Int32) (x28_4 : Int32) (y28_5 : Nat → Int32), J28 n28 x28_3 x28_4 y28_5 → ∀ (H : Heap) (locs : List Loc) (ls : Array Slot), HP G A [(b0, .inr (6, [.ref bs, .ref x0, .ref d0, .ref r0, .ref i0, .ref c0, .ref j0, .ref e0, .int lf, .int tr])), (c0, .inr (0, [.ref c1, .ref c2, .int cnt])), (c1, .inl (G.2.1, 4, .inl ck)), (c2, .inl (G.2.1, 4, .inl cwt)), (i0, .inr (2, [.ref i1, .int hi, .int wi, .int fr, .int fc, .int lc])), (i1, .inl (G.2.1, 20, .inl y28_5)), (r0, .inr (3, [.ref r1, .ref r2, .ref r3, .int rc])), (r1, .inl (G.2.1, 8, .inl rs)), (r2, .inl (G.2.1, 8, .inl rl)), (r3, .inl (G.2.2.1, 8, .inl rb))] s H locs → lv_has ls 5 [(0, .ref b0), (1, .int ce), (2, .int (str ce.toNatClampNeg)), (3, .int x28_3), (4, .int x28_4)] → W p l e rm_X6_strengths s m args below meth c H locs 0 0 Q (F0 m 28 ls []) := by
    intro n28
    induction n28 using Nat.strongRecOn with
    | ind n28 ih28 =>
      intro x28_3 x28_4 y28_5 hj28 H locs ls hh hl
      have hv := hv28 n28 x28_3 x28_4 y28_5 hj28
      refine lv_iload (pc := 28) hx hb (dOk_at dX6_strengths 17 rfl) (lv_at hl 4 rfl) ?_
      refine lv_bipush (pc := 30) (v := 9) hx hb (dOk_at dX6_strengths 18 rfl) (by decide) ?_
      refine lv_icmp_gt (pc := 32) (tgt := 81) hx hb (dOk_at dX6_strengths 19 rfl) (by decide) (fun c32 => ?_) (fun c32 => ?_)
      · have hv := hv.1 c32
        refine lv_aload_n (pc := 81) hx hb (dOk_at dX6_strengths 44 rfl) rfl (lv_at hl 0 rfl) ?_
        refine r_get (pc := 82) (ci := 6) fx hh inT6 rfl 4 (by decide) tFX6_41 rfl 0 rfl rfl (dOk_at dX6_strengths 45 rfl) ?_
        refine r_getN (pc := 85) (ci := 2) fx hh inT2 rfl 0 (by decide) nFX6_93 rfl 4 rfl rfl (dOk_at dX6_strengths 46 rfl) ?_
        refine lv_iload_n (pc := 88) hx hb (dOk_at dX6_strengths 47 rfl) rfl (lv_at hl 1 rfl) ?_
        refine lv_iload_n (pc := 89) hx hb (dOk_at dX6_strengths 48 rfl) rfl (lv_at hl 2 rfl) ?_
        refine r_iast (pc := 90) (w' := [(b0, .inr (6, [.ref bs, .ref x0, .ref d0, .ref r0, .ref i0, .ref c0, .ref j0, .ref e0, .int lf, .int tr])), (c0, .inr (0, [.ref c1, .ref c2, .int cnt])), (c1, .inl (G.2.1, 4, .inl ck)), (c2, .inl (G.2.1, 4, .inl cwt)), (i0, .inr (2, [.ref i1, .int hi, .int wi, .int fr, .int fc, .int lc])), (i1, .inl (G.2.1, 20, .inl (upd y28_5 ce.toNatClampNeg (str ce.toNatClampNeg)))), (r0, .inr (3, [.ref r1, .ref r2, .ref r3, .int rc])), (r1, .inl (G.2.1, 8, .inl rs)), (r2, .inl (G.2.1, 8, .inl rl)), (r3, .inl (G.2.2.1, 8, .inl rb))]) fx hh 5 rfl hv.1 rfl (dOk_at dX6_strengths 49 rfl) (fun H locs hh => ?_)
        have hv := hv.2
        refine lv_iload_n (pc := 91) hx hb (dOk_at dX6_strengths 50 rfl) rfl (lv_at hl 3 rfl) ?_
        obtain ⟨e0, e1⟩ := hv
        subst e0
        subst e1
        rw [hQ]
        exact r_iret (pc := 92) fx hh (dOk_at dX6_strengths 51 rfl)
      · have hv := hv.2 c32
        refine lv_aload_n (pc := 35) hx hb (dOk_at dX6_strengths 20 rfl) rfl (lv_at hl 0 rfl) ?_
        refine r_get (pc := 36) (ci := 6) fx hh inT6 rfl 4 (by decide) tFX6_41 rfl 0 rfl rfl (dOk_at dX6_strengths 21 rfl) ?_
        refine r_getN (pc := 39) (ci := 2) fx hh inT2 rfl 0 (by decide) nFX6_93 rfl 4 rfl rfl (dOk_at dX6_strengths 22 rfl) ?_
        refine lv_iload_n (pc := 42) hx hb (dOk_at dX6_strengths 23 rfl) rfl (lv_at hl 1 rfl) ?_
        refine lv_iload (pc := 43) hx hb (dOk_at dX6_strengths 24 rfl) (lv_at hl 4 rfl) ?_
        refine r_iast (pc := 45) (w' := [(b0, .inr (6, [.ref bs, .ref x0, .ref d0, .ref r0, .ref i0, .ref c0, .ref j0, .ref e0, .int lf, .int tr])), (c0, .inr (0, [.ref c1, .ref c2, .int cnt])), (c1, .inl (G.2.1, 4, .inl ck)), (c2, .inl (G.2.1, 4, .inl cwt)), (i0, .inr (2, [.ref i1, .int hi, .int wi, .int fr, .int fc, .int lc])), (i1, .inl (G.2.1, 20, .inl (upd y28_5 ce.toNatClampNeg x28_4))), (r0, .inr (3, [.ref r1, .ref r2, .ref r3, .int rc])), (r1, .inl (G.2.1, 8, .inl rs)), (r2, .inl (G.2.1, 8, .inl rl)), (r3, .inl (G.2.2.1, 8, .inl rb))]) fx hh 5 rfl hv.1 rfl (dOk_at dX6_strengths 25 rfl) (fun H locs hh => ?_)
        have hv := hv.2
        refine lv_iload_n (pc := 46) hx hb (dOk_at dX6_strengths 26 rfl) rfl (lv_at hl 3 rfl) ?_
        refine lv_aload_n (pc := 47) hx hb (dOk_at dX6_strengths 27 rfl) rfl (lv_at hl 0 rfl) ?_
        refine r_get (pc := 48) (ci := 6) fx hh inT6 rfl 3 (by decide) tFX6_34 rfl 0 rfl rfl (dOk_at dX6_strengths 28 rfl) ?_
        refine lv_aload_n (pc := 51) hx hb (dOk_at dX6_strengths 29 rfl) rfl (lv_at hl 0 rfl) ?_
        refine r_get (pc := 52) (ci := 6) fx hh inT6 rfl 4 (by decide) tFX6_41 rfl 0 rfl rfl (dOk_at dX6_strengths 30 rfl) ?_
        refine lv_aload_n (pc := 55) hx hb (dOk_at dX6_strengths 31 rfl) rfl (lv_at hl 0 rfl) ?_
        refine r_get (pc := 56) (ci := 6) fx hh inT6 rfl 5 (by decide) tFX6_48 rfl 0 rfl rfl (dOk_at dX6_strengths 32 rfl) ?_
        refine cl_VN (pc := 59) (w' := [(b0, .inr (6, [.ref bs, .ref x0, .ref d0, .ref r0, .ref i0, .ref c0, .ref j0, .ref e0, .int lf, .int tr])), (c0, .inr (0, [.ref c1, .ref c2, .int cnt])), (c1, .inl (G.2.1, 4, .inl ck)), (c2, .inl (G.2.1, 4, .inl cwt)), (i0, .inr (2, [.ref i1, .int hi, .int wi, .int fr, .int fc, .int lc])), (i1, .inl (G.2.1, 20, .inl (upd y28_5 ce.toNatClampNeg x28_4))), (r0, .inr (3, [.ref r1, .ref r2, .ref r3, .int rc])), (r1, .inl (G.2.1, 8, .inl rs)), (r2, .inl (G.2.1, 8, .inl rl)), (r3, .inl (G.2.2.1, 8, .inl rb))]) (wr := [(b0, .inr (6, [.ref bs, .ref x0, .ref d0, .ref r0, .ref i0, .ref c0, .ref j0, .ref e0, .int lf, .int tr]))]) (rest := [.int x28_3]) fx hh hl.1 (h_X3_areSo r0 r1 r2 r3 i0 i1 c0 c1 c2 rc hi wi fr fc lc cnt rs rl rb (upd y28_5 ce.toNatClampNeg x28_4) ck cwt hv.1) yV_X3_areSo nMX6_161 ⟨rfl, rfl, Nat.le_of_ble_eq_true rfl, Nat.le_of_ble_eq_true rfl⟩ 6 3 rfl rfl rfl [6, 7, 8, 9, 4, 5, 1, 2, 3] [0] [0, 7, 8, 9, 5, 6, 1, 2, 3, 4] rfl rfl rfl (by decide) (by decide) rfl rfl (Nat.le_of_ble_eq_true rfl) ⟨Nat.le_of_ble_eq_true rfl, Nat.le_of_ble_eq_true rfl⟩ (dOk_at dX6_strengths 33 rfl) (fun H locs hh => ?_)
        have hv := hv.2
        have k73_62 : ∀ (v73 : Int32), v73 = (if (s_areSo rs rl rb (upd y28_5 ce.toNatClampNeg x28_4) ck cwt rc.toNatClampNeg) = 0 then (0 : Int32) else (1 : Int32) <<< (x28_4 &&& 31)) → ∀ (H : Heap) (locs : List Loc) (ls : Array Slot), HP G A [(b0, .inr (6, [.ref bs, .ref x0, .ref d0, .ref r0, .ref i0, .ref c0, .ref j0, .ref e0, .int lf, .int tr])), (c0, .inr (0, [.ref c1, .ref c2, .int cnt])), (c1, .inl (G.2.1, 4, .inl ck)), (c2, .inl (G.2.1, 4, .inl cwt)), (i0, .inr (2, [.ref i1, .int hi, .int wi, .int fr, .int fc, .int lc])), (i1, .inl (G.2.1, 20, .inl (upd y28_5 ce.toNatClampNeg x28_4))), (r0, .inr (3, [.ref r1, .ref r2, .ref r3, .int rc])), (r1, .inl (G.2.1, 8, .inl rs)), (r2, .inl (G.2.1, 8, .inl rl)), (r3, .inl (G.2.2.1, 8, .inl rb))] s H locs → lv_has ls 5 [(0, .ref b0), (1, .int ce), (2, .int (str ce.toNatClampNeg)), (4, .int x28_4)] → W p l e rm_X6_strengths s m args below meth c H locs 0 0 Q (F0 m 73 ls [.int v73, .int x28_3]) := by
          intro v73 e73_0 H locs ls hh hl
          have hv := hv v73 e73_0
          refine lv_ior (pc := 73) hx hb (dOk_at dX6_strengths 40 rfl) ?_
          refine lv_istore_n (pc := 74) (lv' := [(3, .int (x28_3 ||| v73)), (0, .ref b0), (1, .int ce), (2, .int (str ce.toNatClampNeg)), (4, .int x28_4)]) hx hb (dOk_at dX6_strengths 41 rfl) rfl hl (by decide) rfl (fun ls hl => ?_)
          refine lv_iinc (pc := 75) (v := x28_4 + 1) (lv' := [(4, .int (x28_4 + 1)), (3, .int (x28_3 ||| v73)), (0, .ref b0), (1, .int ce), (2, .int (str ce.toNatClampNeg))]) hx hb (dOk_at dX6_strengths 42 rfl) hl (k := 4) rfl rfl (by decide) rfl (fun ls hl => ?_)
          refine lv_goto (pc := 78) (tgt := 28) hx hb (dOk_at dX6_strengths 43 rfl) (by decide) ?_
          obtain ⟨k0, hk0, hj0⟩ := hv
          exact ih28 k0 hk0 (x28_3 ||| v73) (x28_4 + 1) (upd y28_5 ce.toNatClampNeg x28_4) hj0 _ _ _ hh (lv_sub hl [2, 3, 4, 1, 0] rfl)
        refine lv_if_eq (pc := 62) (tgt := 72) hx hb (dOk_at dX6_strengths 34 rfl) (by decide) (fun c62 => ?_) (fun c62 => ?_)
        · refine lv_iconst (pc := 72) (v := 0) hx hb (dOk_at dX6_strengths 39 rfl) (by decide) ?_
          exact k73_62 _ (if_pos c62).symm _ _ _ hh (lv_sub hl [0, 1, 2, 4] rfl)
        · refine lv_iconst (pc := 65) (v := 1) hx hb (dOk_at dX6_strengths 35 rfl) (by decide) ?_
          refine lv_iload (pc := 66) hx hb (dOk_at dX6_strengths 36 rfl) (lv_at hl 4 rfl) ?_
          refine lv_ishl (pc := 68) hx hb (dOk_at dX6_strengths 37 rfl) ?_
          refine lv_goto (pc := 69) (tgt := 73) hx hb (dOk_at dX6_strengths 38 rfl) (by decide) ?_
          exact k73_62 _ (if_neg c62).symm _ _ _ hh (lv_sub hl [0, 1, 2, 4] rfl)
  refine lv_aload_n (pc := 0) hx hb (dOk_at dX6_strengths 0 rfl) rfl (lv_at hl 0 rfl) ?_
  refine r_get (pc := 1) (ci := 6) fx hh inT6 rfl 4 (by decide) tFX6_41 rfl 0 rfl rfl (dOk_at dX6_strengths 1 rfl) ?_
  refine lv_iload_n (pc := 4) hx hb (dOk_at dX6_strengths 2 rfl) rfl (lv_at hl 1 rfl) ?_
  refine cl_VN (pc := 5) (w' := [(b0, .inr (6, [.ref bs, .ref x0, .ref d0, .ref r0, .ref i0, .ref c0, .ref j0, .ref e0, .int lf, .int tr])), (c0, .inr (0, [.ref c1, .ref c2, .int cnt])), (c1, .inl (G.2.1, 4, .inl ck)), (c2, .inl (G.2.1, 4, .inl cwt)), (i0, .inr (2, [.ref i1, .int hi, .int wi, .int fr, .int fc, .int lc])), (i1, .inl (G.2.1, 20, .inl str)), (r0, .inr (3, [.ref r1, .ref r2, .ref r3, .int rc])), (r1, .inl (G.2.1, 8, .inl rs)), (r2, .inl (G.2.1, 8, .inl rl)), (r3, .inl (G.2.2.1, 8, .inl rb))]) (wr := [(b0, .inr (6, [.ref bs, .ref x0, .ref d0, .ref r0, .ref i0, .ref c0, .ref j0, .ref e0, .int lf, .int tr])), (c0, .inr (0, [.ref c1, .ref c2, .int cnt])), (c1, .inl (G.2.1, 4, .inl ck)), (c2, .inl (G.2.1, 4, .inl cwt)), (i1, .inl (G.2.1, 20, .inl str)), (r0, .inr (3, [.ref r1, .ref r2, .ref r3, .int rc])), (r1, .inl (G.2.1, 8, .inl rs)), (r2, .inl (G.2.1, 8, .inl rl)), (r3, .inl (G.2.2.1, 8, .inl rb))]) (rest := []) fx hh hl.1 (h_X2_has i0 i1 hi wi fr fc lc ce) yV_X2_has nMX6_92 ⟨rfl, rfl, Nat.le_of_ble_eq_true rfl, Nat.le_of_ble_eq_true rfl⟩ 4 2 rfl rfl rfl [4] [0, 1, 2, 3, 5, 6, 7, 8, 9] [0, 1, 2, 3, 9, 4, 5, 6, 7, 8] rfl rfl rfl (by decide) (by decide) rfl rfl (Nat.le_of_ble_eq_true rfl) ⟨Nat.le_of_ble_eq_true rfl, Nat.le_of_ble_eq_true rfl⟩ (dOk_at dX6_strengths 3 rfl) (fun H locs hh => ?_)
  refine lv_if_ne (pc := 8) (tgt := 13) hx hb (dOk_at dX6_strengths 4 rfl) (by decide) (fun c8 => ?_) (fun c8 => ?_)
  · have hv := hv.1 c8
    refine lv_aload_n (pc := 13) hx hb (dOk_at dX6_strengths 7 rfl) rfl (lv_at hl 0 rfl) ?_
    refine r_get (pc := 14) (ci := 6) fx hh inT6 rfl 4 (by decide) tFX6_41 rfl 0 rfl rfl (dOk_at dX6_strengths 8 rfl) ?_
    refine r_getN (pc := 17) (ci := 2) fx hh inT2 rfl 0 (by decide) nFX6_93 rfl 4 rfl rfl (dOk_at dX6_strengths 9 rfl) ?_
    refine lv_iload_n (pc := 20) hx hb (dOk_at dX6_strengths 10 rfl) rfl (lv_at hl 1 rfl) ?_
    refine r_iald (pc := 21) fx hh 5 rfl hv.1 (dOk_at dX6_strengths 11 rfl) ?_
    have hv := hv.2
    refine lv_istore_n (pc := 22) (lv' := [(2, .int (str ce.toNatClampNeg)), (0, .ref b0), (1, .int ce)]) hx hb (dOk_at dX6_strengths 12 rfl) rfl hl (by decide) rfl (fun ls hl => ?_)
    refine lv_iconst (pc := 23) (v := 0) hx hb (dOk_at dX6_strengths 13 rfl) (by decide) ?_
    refine lv_istore_n (pc := 24) (lv' := [(3, .int 0), (2, .int (str ce.toNatClampNeg)), (0, .ref b0), (1, .int ce)]) hx hb (dOk_at dX6_strengths 14 rfl) rfl hl (by decide) rfl (fun ls hl => ?_)
    refine lv_iconst (pc := 25) (v := 0) hx hb (dOk_at dX6_strengths 15 rfl) (by decide) ?_
    refine lv_istore (pc := 26) (lv' := [(4, .int 0), (3, .int 0), (2, .int (str ce.toNatClampNeg)), (0, .ref b0), (1, .int ce)]) hx hb (dOk_at dX6_strengths 16 rfl) hl (by decide) rfl (fun ls hl => ?_)
    obtain ⟨k0, hj0⟩ := hv
    exact lp28 k0 0 0 str hj0 _ _ _ hh (lv_sub hl [3, 4, 2, 1, 0] rfl)
  · have hv := hv.2 c8
    refine lv_iconst (pc := 11) (v := (-1)) hx hb (dOk_at dX6_strengths 5 rfl) (by decide) ?_
    obtain ⟨e0, e1⟩ := hv
    subst e0
    subst e1
    rw [hQ]
    exact r_iret (pc := 12) fx hh (dOk_at dX6_strengths 6 rfl)
set_option maxRecDepth 100000 in
set_option maxHeartbeats 4000000 in
theorem wk_X6_odds (l : Launch) (G : GT) (b0 : Nat) (c0 : Nat) (c1 : Nat) (c2 : Nat) (i0 : Nat) (i1 : Nat) (bs : Nat) (x0 : Nat) (d0 : Nat) (r0 : Nat) (j0 : Nat) (e0 : Nat) (lf : Int32) (tr : Int32) (cnt : Int32) (hi : Int32) (wi : Int32) (fr : Int32) (fc : Int32) (lc : Int32) (ck : Nat → Int32) (cwt : Nat → Int32) (str : Nat → Int32) (a : Int32) (b : Int32) (fro : Int32) (to : Int32) (set : Int32) (which : Int32) (R : Int64) (J92 : Nat → Int32 → Int32 → Int32 → Prop) (h_J6_bitCount_0f7a4 : K_J6_bitCount_0f7a4 l G) (h_X2_all : K_X2_all l G) (h_X6_bondsAsBreaking : K_X6_bondsAsBreaking l G) (h_X6_isBondKnown : K_X6_isBondKnown l G) (h_X6_isWithin : K_X6_isWithin l G)
    (hv : (¬ (x_bKn hi wi cnt a b fro to) = 0 → (∀ (v46 : Int32), v46 = (if (set &&& ((s_all hi wi) ^^^ (-1))) = 0 then (if 8 < (s_bitCount set) then (0 : Int32) else (1 : Int32)) else (0 : Int32)) → (v46 = 0 → ((-9223372036854775808) : Int64) = R) ∧ (¬ v46 = 0 → (¬ (s_in which 0 1) = 0 → okD hi wi ∧ vp_in a 4 ∧ vp_in b 4 ∧ s_bitCount set ≤ 8 ∧ ¬ s_bitCount set < 0 ∧ (∃ k2 : Nat, J92 k2 (x_bonds hi wi fc lc str ck cwt a b fro to set) ((1 : Int32) <<< ((s_bitCount set) &&& 31)) 0)) ∧ ((s_in which 0 1) = 0 → ((-9223372036854775808) : Int64) = R)))) ∧ ((x_bKn hi wi cnt a b fro to) = 0 → ((-9223372036854775808) : Int64) = R))
    (hv92 : ∀ (n92 : Nat) (x92_8 : Int32) (x92_9 : Int32) (x92_10 : Int32), J92 n92 x92_8 x92_9 x92_10 → (8 ≤ x92_10 → (¬ which = 0 → x92_9.toInt64 = R) ∧ (which = 0 → x92_8.toInt64 = R)) ∧ (¬ 8 ≤ x92_10 → (x92_9 ≤ 1 → (¬ which = 0 → x92_9.toInt64 = R) ∧ (which = 0 → x92_8.toInt64 = R)) ∧ (¬ x92_9 ≤ 1 → (¬ (x92_8 - x92_8 / 2 * 2) = 0 → (¬ which = 0 → x92_9.toInt64 = R) ∧ (which = 0 → x92_8.toInt64 = R)) ∧ ((x92_8 - x92_8 / 2 * 2) = 0 → ∃ k1 : Nat, k1 < n92 ∧ J92 k1 (x92_8 / 2) (x92_9 / 2) (x92_10 + 1))))) :
    MF l G yX6_odds cX6_odds 11 (some .long) rm_X6_odds [.ref b0, .int a, .int b, .int fro, .int to, .int set, .int which] [(b0, .inr (6, [.ref bs, .ref x0, .ref d0, .ref r0, .ref i0, .ref c0, .ref j0, .ref e0, .int lf, .int tr])), (c0, .inr (0, [.ref c1, .ref c2, .int cnt])), (c1, .inl (G.2.1, 4, .inl ck)), (c2, .inl (G.2.1, 4, .inl cwt)), (i0, .inr (2, [.ref i1, .int hi, .int wi, .int fr, .int fc, .int lc])), (i1, .inl (G.2.1, 20, .inl str))] (some (.long R)) [(b0, .inr (6, [.ref bs, .ref x0, .ref d0, .ref r0, .ref i0, .ref c0, .ref j0, .ref e0, .int lf, .int tr])), (c0, .inr (0, [.ref c1, .ref c2, .int cnt])), (c1, .inl (G.2.1, 4, .inl ck)), (c2, .inl (G.2.1, 4, .inl cwt)), (i0, .inr (2, [.ref i1, .int hi, .int wi, .int fr, .int fc, .int lc])), (i1, .inl (G.2.1, 20, .inl str))] := by
  refine MF.of (by decide +kernel) (Nat.le_of_ble_eq_true rfl) ?_
  intro p e s m args below meth c A ls fx hh hl _
  have hx := fx.hx
  have hb := fx.hb
  have hl : lv_has ls 11 [(0, .ref b0), (1, .int a), (2, .int b), (3, .int fro), (4, .int to), (5, .int set), (6, .int which)] := hl
  obtain ⟨Q, hQ⟩ : ∃ Q, Q = ZZ G A (some (.long R)) [(b0, .inr (6, [.ref bs, .ref x0, .ref d0, .ref r0, .ref i0, .ref c0, .ref j0, .ref e0, .int lf, .int tr])), (c0, .inr (0, [.ref c1, .ref c2, .int cnt])), (c1, .inl (G.2.1, 4, .inl ck)), (c2, .inl (G.2.1, 4, .inl cwt)), (i0, .inr (2, [.ref i1, .int hi, .int wi, .int fr, .int fc, .int lc])), (i1, .inl (G.2.1, 20, .inl str))] below args s := ⟨_, rfl⟩
  rw [← hQ]
  have lp92 : ∀ (n92 : Nat) (x92_8 : Int32) (x92_9 : Int32) (x92_10 : Int32), J92 n92 x92_8 x92_9 x92_10 → ∀ (H : Heap) (locs : List Loc) (ls : Array Slot), HP G A [(b0, .inr (6, [.ref bs, .ref x0, .ref d0, .ref r0, .ref i0, .ref c0, .ref j0, .ref e0, .int lf, .int tr])), (c0, .inr (0, [.ref c1, .ref c2, .int cnt])), (c1, .inl (G.2.1, 4, .inl ck)), (c2, .inl (G.2.1, 4, .inl cwt)), (i0, .inr (2, [.ref i1, .int hi, .int wi, .int fr, .int fc, .int lc])), (i1, .inl (G.2.1, 20, .inl str))] s H locs → lv_has ls 11 [(6, .int which), (8, .int x92_8), (9, .int x92_9), (10, .int x92_10)] → W p l e rm_X6_odds s m args below meth c H locs 0 0 Q (F0 m 92 ls []) := by
    intro n92
    induction n92 using Nat.strongRecOn with
    | ind n92 ih92 =>
      intro x92_8 x92_9 x92_10 hj92 H locs ls hh hl
      have hv := hv92 n92 x92_8 x92_9 x92_10 hj92
      refine lv_iload (pc := 92) hx hb (dOk_at dX6_odds 49 rfl) (lv_at hl 3 rfl) ?_
      refine lv_bipush (pc := 94) (v := 8) hx hb (dOk_at dX6_odds 50 rfl) (by decide) ?_
      refine lv_icmp_ge (pc := 96) (tgt := 130) hx hb (dOk_at dX6_odds 51 rfl) (by decide) (fun c96 => ?_) (fun c96 => ?_)
      · have hv := hv.1 c96
        refine lv_iload (pc := 130) hx hb (dOk_at dX6_odds 69 rfl) (lv_at hl 0 rfl) ?_
        refine lv_if_ne (pc := 132) (tgt := 141) hx hb (dOk_at dX6_odds 70 rfl) (by decide) (fun c132 => ?_) (fun c132 => ?_)
        · have hv := hv.1 c132
          refine lv_iload (pc := 141) hx hb (dOk_at dX6_odds 74 rfl) (lv_at hl 2 rfl) ?_
          refine lv_i2l (pc := 143) (v := x92_9.toInt64) hx hb (dOk_at dX6_odds 75 rfl) rfl ?_
          have e0 := hv
          subst e0
          rw [hQ]
          exact r_lret (pc := 144) fx hh (dOk_at dX6_odds 76 rfl)
        · have hv := hv.2 c132
          refine lv_iload (pc := 135) hx hb (dOk_at dX6_odds 71 rfl) (lv_at hl 1 rfl) ?_
          refine lv_i2l (pc := 137) (v := x92_8.toInt64) hx hb (dOk_at dX6_odds 72 rfl) rfl ?_
          refine lv_goto (pc := 138) (tgt := 144) hx hb (dOk_at dX6_odds 73 rfl) (by decide) ?_
          have e0 := hv
          subst e0
          rw [hQ]
          exact r_lret (pc := 144) fx hh (dOk_at dX6_odds 76 rfl)
      · have hv := hv.2 c96
        refine lv_iload (pc := 99) hx hb (dOk_at dX6_odds 52 rfl) (lv_at hl 2 rfl) ?_
        refine lv_iconst (pc := 101) (v := 1) hx hb (dOk_at dX6_odds 53 rfl) (by decide) ?_
        refine lv_icmp_le (pc := 102) (tgt := 130) hx hb (dOk_at dX6_odds 54 rfl) (by decide) (fun c102 => ?_) (fun c102 => ?_)
        · have hv := hv.1 c102
          refine lv_iload (pc := 130) hx hb (dOk_at dX6_odds 69 rfl) (lv_at hl 0 rfl) ?_
          refine lv_if_ne (pc := 132) (tgt := 141) hx hb (dOk_at dX6_odds 70 rfl) (by decide) (fun c132 => ?_) (fun c132 => ?_)
          · have hv := hv.1 c132
            refine lv_iload (pc := 141) hx hb (dOk_at dX6_odds 74 rfl) (lv_at hl 2 rfl) ?_
            refine lv_i2l (pc := 143) (v := x92_9.toInt64) hx hb (dOk_at dX6_odds 75 rfl) rfl ?_
            have e0 := hv
            subst e0
            rw [hQ]
            exact r_lret (pc := 144) fx hh (dOk_at dX6_odds 76 rfl)
          · have hv := hv.2 c132
            refine lv_iload (pc := 135) hx hb (dOk_at dX6_odds 71 rfl) (lv_at hl 1 rfl) ?_
            refine lv_i2l (pc := 137) (v := x92_8.toInt64) hx hb (dOk_at dX6_odds 72 rfl) rfl ?_
            refine lv_goto (pc := 138) (tgt := 144) hx hb (dOk_at dX6_odds 73 rfl) (by decide) ?_
            have e0 := hv
            subst e0
            rw [hQ]
            exact r_lret (pc := 144) fx hh (dOk_at dX6_odds 76 rfl)
        · have hv := hv.2 c102
          refine lv_iload (pc := 105) hx hb (dOk_at dX6_odds 55 rfl) (lv_at hl 1 rfl) ?_
          refine lv_iconst (pc := 107) (v := 2) hx hb (dOk_at dX6_odds 56 rfl) (by decide) ?_
          refine lv_irem (pc := 108) hx hb (dOk_at dX6_odds 57 rfl) (by decide) ?_
          refine lv_if_ne (pc := 109) (tgt := 130) hx hb (dOk_at dX6_odds 58 rfl) (by decide) (fun c109 => ?_) (fun c109 => ?_)
          · have hv := hv.1 c109
            refine lv_iload (pc := 130) hx hb (dOk_at dX6_odds 69 rfl) (lv_at hl 0 rfl) ?_
            refine lv_if_ne (pc := 132) (tgt := 141) hx hb (dOk_at dX6_odds 70 rfl) (by decide) (fun c132 => ?_) (fun c132 => ?_)
            · have hv := hv.1 c132
              refine lv_iload (pc := 141) hx hb (dOk_at dX6_odds 74 rfl) (lv_at hl 2 rfl) ?_
              refine lv_i2l (pc := 143) (v := x92_9.toInt64) hx hb (dOk_at dX6_odds 75 rfl) rfl ?_
              have e0 := hv
              subst e0
              rw [hQ]
              exact r_lret (pc := 144) fx hh (dOk_at dX6_odds 76 rfl)
            · have hv := hv.2 c132
              refine lv_iload (pc := 135) hx hb (dOk_at dX6_odds 71 rfl) (lv_at hl 1 rfl) ?_
              refine lv_i2l (pc := 137) (v := x92_8.toInt64) hx hb (dOk_at dX6_odds 72 rfl) rfl ?_
              refine lv_goto (pc := 138) (tgt := 144) hx hb (dOk_at dX6_odds 73 rfl) (by decide) ?_
              have e0 := hv
              subst e0
              rw [hQ]
              exact r_lret (pc := 144) fx hh (dOk_at dX6_odds 76 rfl)
          · have hv := hv.2 c109
            refine lv_iload (pc := 112) hx hb (dOk_at dX6_odds 59 rfl) (lv_at hl 1 rfl) ?_
            refine lv_iconst (pc := 114) (v := 2) hx hb (dOk_at dX6_odds 60 rfl) (by decide) ?_
            refine lv_idiv (pc := 115) hx hb (dOk_at dX6_odds 61 rfl) (by decide) ?_
            refine lv_istore (pc := 116) (lv' := [(8, .int (x92_8 / 2)), (6, .int which), (9, .int x92_9), (10, .int x92_10)]) hx hb (dOk_at dX6_odds 62 rfl) hl (by decide) rfl (fun ls hl => ?_)
            refine lv_iload (pc := 118) hx hb (dOk_at dX6_odds 63 rfl) (lv_at hl 2 rfl) ?_
            refine lv_iconst (pc := 120) (v := 2) hx hb (dOk_at dX6_odds 64 rfl) (by decide) ?_
            refine lv_idiv (pc := 121) hx hb (dOk_at dX6_odds 65 rfl) (by decide) ?_
            refine lv_istore (pc := 122) (lv' := [(9, .int (x92_9 / 2)), (8, .int (x92_8 / 2)), (6, .int which), (10, .int x92_10)]) hx hb (dOk_at dX6_odds 66 rfl) hl (by decide) rfl (fun ls hl => ?_)
            refine lv_iinc (pc := 124) (v := x92_10 + 1) (lv' := [(10, .int (x92_10 + 1)), (9, .int (x92_9 / 2)), (8, .int (x92_8 / 2)), (6, .int which)]) hx hb (dOk_at dX6_odds 67 rfl) hl (k := 3) rfl rfl (by decide) rfl (fun ls hl => ?_)
            refine lv_goto (pc := 127) (tgt := 92) hx hb (dOk_at dX6_odds 68 rfl) (by decide) ?_
            obtain ⟨k0, hk0, hj0⟩ := hv
            exact ih92 k0 hk0 (x92_8 / 2) (x92_9 / 2) (x92_10 + 1) hj0 _ _ _ hh (lv_sub hl [3, 2, 1, 0] rfl)
  refine lv_aload_n (pc := 0) hx hb (dOk_at dX6_odds 0 rfl) rfl (lv_at hl 0 rfl) ?_
  refine lv_iload_n (pc := 1) hx hb (dOk_at dX6_odds 1 rfl) rfl (lv_at hl 1 rfl) ?_
  refine lv_iload_n (pc := 2) hx hb (dOk_at dX6_odds 2 rfl) rfl (lv_at hl 2 rfl) ?_
  refine lv_iload_n (pc := 3) hx hb (dOk_at dX6_odds 3 rfl) rfl (lv_at hl 3 rfl) ?_
  refine lv_iload (pc := 4) hx hb (dOk_at dX6_odds 4 rfl) (lv_at hl 4 rfl) ?_
  refine cl_V (pc := 6) (w' := [(b0, .inr (6, [.ref bs, .ref x0, .ref d0, .ref r0, .ref i0, .ref c0, .ref j0, .ref e0, .int lf, .int tr])), (c0, .inr (0, [.ref c1, .ref c2, .int cnt])), (c1, .inl (G.2.1, 4, .inl ck)), (c2, .inl (G.2.1, 4, .inl cwt)), (i0, .inr (2, [.ref i1, .int hi, .int wi, .int fr, .int fc, .int lc])), (i1, .inl (G.2.1, 20, .inl str))]) (wr := [(c1, .inl (G.2.1, 4, .inl ck)), (c2, .inl (G.2.1, 4, .inl cwt)), (i1, .inl (G.2.1, 20, .inl str))]) (rest := []) fx hh hl.1 (h_X6_isBondKnown b0 c0 i0 bs x0 d0 r0 j0 e0 c1 c2 i1 lf tr cnt hi wi fr fc lc a b fro to) yV_X6_isBondKnown tMX6_134 ⟨rfl, rfl, Nat.le_of_ble_eq_true rfl, Nat.le_of_ble_eq_true rfl⟩ 0 6 rfl rfl rfl [0, 1, 4] [2, 3, 5] [3, 4, 0, 1, 5, 2] rfl rfl rfl (by decide) (by decide) rfl rfl (Nat.le_of_ble_eq_true rfl) ⟨Nat.le_of_ble_eq_true rfl, Nat.le_of_ble_eq_true rfl⟩ (dOk_at dX6_odds 5 rfl) (fun H locs hh => ?_)
  refine lv_if_ne (pc := 9) (tgt := 16) hx hb (dOk_at dX6_odds 6 rfl) (by decide) (fun c9 => ?_) (fun c9 => ?_)
  · have hv := hv.1 c9
    refine lv_iload (pc := 16) hx hb (dOk_at dX6_odds 9 rfl) (lv_at hl 5 rfl) ?_
    refine lv_aload_n (pc := 18) hx hb (dOk_at dX6_odds 10 rfl) rfl (lv_at hl 0 rfl) ?_
    refine r_get (pc := 19) (ci := 6) fx hh inT6 rfl 4 (by decide) tFX6_41 rfl 0 rfl rfl (dOk_at dX6_odds 11 rfl) ?_
    refine cl_VN (pc := 22) (w' := [(b0, .inr (6, [.ref bs, .ref x0, .ref d0, .ref r0, .ref i0, .ref c0, .ref j0, .ref e0, .int lf, .int tr])), (c0, .inr (0, [.ref c1, .ref c2, .int cnt])), (c1, .inl (G.2.1, 4, .inl ck)), (c2, .inl (G.2.1, 4, .inl cwt)), (i0, .inr (2, [.ref i1, .int hi, .int wi, .int fr, .int fc, .int lc])), (i1, .inl (G.2.1, 20, .inl str))]) (wr := [(b0, .inr (6, [.ref bs, .ref x0, .ref d0, .ref r0, .ref i0, .ref c0, .ref j0, .ref e0, .int lf, .int tr])), (c0, .inr (0, [.ref c1, .ref c2, .int cnt])), (c1, .inl (G.2.1, 4, .inl ck)), (c2, .inl (G.2.1, 4, .inl cwt)), (i1, .inl (G.2.1, 20, .inl str))]) (rest := [.int set]) fx hh hl.1 (h_X2_all i0 i1 hi wi fr fc lc) yV_X2_all nMX6_167 ⟨rfl, rfl, Nat.le_of_ble_eq_true rfl, Nat.le_of_ble_eq_true rfl⟩ 4 2 rfl rfl rfl [4] [0, 1, 2, 3, 5] [0, 1, 2, 3, 5, 4] rfl rfl rfl (by decide) (by decide) rfl rfl (Nat.le_of_ble_eq_true rfl) ⟨Nat.le_of_ble_eq_true rfl, Nat.le_of_ble_eq_true rfl⟩ (dOk_at dX6_odds 12 rfl) (fun H locs hh => ?_)
    refine lv_iconst (pc := 25) (v := (-1)) hx hb (dOk_at dX6_odds 13 rfl) (by decide) ?_
    refine lv_ixor (pc := 26) hx hb (dOk_at dX6_odds 14 rfl) ?_
    refine lv_iand (pc := 27) hx hb (dOk_at dX6_odds 15 rfl) ?_
    have k46_28 : ∀ (v46 : Int32), v46 = (if (set &&& ((s_all hi wi) ^^^ (-1))) = 0 then (if 8 < (s_bitCount set) then (0 : Int32) else (1 : Int32)) else (0 : Int32)) → ∀ (H : Heap) (locs : List Loc) (ls : Array Slot), HP G A [(b0, .inr (6, [.ref bs, .ref x0, .ref d0, .ref r0, .ref i0, .ref c0, .ref j0, .ref e0, .int lf, .int tr])), (c0, .inr (0, [.ref c1, .ref c2, .int cnt])), (c1, .inl (G.2.1, 4, .inl ck)), (c2, .inl (G.2.1, 4, .inl cwt)), (i0, .inr (2, [.ref i1, .int hi, .int wi, .int fr, .int fc, .int lc])), (i1, .inl (G.2.1, 20, .inl str))] s H locs → lv_has ls 11 [(0, .ref b0), (1, .int a), (2, .int b), (3, .int fro), (4, .int to), (5, .int set), (6, .int which)] → W p l e rm_X6_odds s m args below meth c H locs 0 0 Q (F0 m 46 ls [.int v46]) := by
      intro v46 e46_0 H locs ls hh hl
      have hv := hv v46 e46_0
      refine lv_istore (pc := 46) (lv' := [(7, .int v46), (0, .ref b0), (1, .int a), (2, .int b), (3, .int fro), (4, .int to), (5, .int set), (6, .int which)]) hx hb (dOk_at dX6_odds 24 rfl) hl (by decide) rfl (fun ls hl => ?_)
      refine lv_iload (pc := 48) hx hb (dOk_at dX6_odds 25 rfl) (lv_at hl 0 rfl) ?_
      refine lv_if_eq (pc := 50) (tgt := 63) hx hb (dOk_at dX6_odds 26 rfl) (by decide) (fun c50 => ?_) (fun c50 => ?_)
      · have hv := hv.1 c50
        refine lv_ldc2 (pc := 63) (v := (-9223372036854775808)) hx hb fx.hown (fx.hts _ tLX6_165) (dOk_at dX6_odds 32 rfl) ?_
        have e0 := hv
        subst e0
        rw [hQ]
        exact r_lret (pc := 66) fx hh (dOk_at dX6_odds 33 rfl)
      · have hv := hv.2 c50
        refine lv_iload (pc := 53) hx hb (dOk_at dX6_odds 27 rfl) (lv_at hl 7 rfl) ?_
        refine lv_iconst (pc := 55) (v := 0) hx hb (dOk_at dX6_odds 28 rfl) (by decide) ?_
        refine lv_iconst (pc := 56) (v := 1) hx hb (dOk_at dX6_odds 29 rfl) (by decide) ?_
        refine cl_S (pc := 57) (w' := [(b0, .inr (6, [.ref bs, .ref x0, .ref d0, .ref r0, .ref i0, .ref c0, .ref j0, .ref e0, .int lf, .int tr])), (c0, .inr (0, [.ref c1, .ref c2, .int cnt])), (c1, .inl (G.2.1, 4, .inl ck)), (c2, .inl (G.2.1, 4, .inl cwt)), (i0, .inr (2, [.ref i1, .int hi, .int wi, .int fr, .int fc, .int lc])), (i1, .inl (G.2.1, 20, .inl str))]) (wr := [(b0, .inr (6, [.ref bs, .ref x0, .ref d0, .ref r0, .ref i0, .ref c0, .ref j0, .ref e0, .int lf, .int tr])), (c0, .inr (0, [.ref c1, .ref c2, .int cnt])), (c1, .inl (G.2.1, 4, .inl ck)), (c2, .inl (G.2.1, 4, .inl cwt)), (i0, .inr (2, [.ref i1, .int hi, .int wi, .int fr, .int fc, .int lc])), (i1, .inl (G.2.1, 20, .inl str))]) (rest := []) fx hh hl.1 (h_X6_isWithin which 0 1) yS_X6_isWithin tMX6_96 ⟨rfl, rfl, Nat.le_of_ble_eq_true rfl, Nat.le_of_ble_eq_true rfl⟩ [] [0, 1, 2, 3, 4, 5] [0, 1, 2, 3, 4, 5] rfl rfl rfl (by decide) (by decide) rfl rfl (Nat.le_of_ble_eq_true rfl) ⟨Nat.le_of_ble_eq_true rfl, Nat.le_of_ble_eq_true rfl⟩ (dOk_at dX6_odds 30 rfl) (fun H locs hh => ?_)
        refine lv_if_ne (pc := 60) (tgt := 67) hx hb (dOk_at dX6_odds 31 rfl) (by decide) (fun c60 => ?_) (fun c60 => ?_)
        · have hv := hv.1 c60
          refine lv_aload_n (pc := 67) hx hb (dOk_at dX6_odds 34 rfl) rfl (lv_at hl 1 rfl) ?_
          refine lv_iload_n (pc := 68) hx hb (dOk_at dX6_odds 35 rfl) rfl (lv_at hl 2 rfl) ?_
          refine lv_iload_n (pc := 69) hx hb (dOk_at dX6_odds 36 rfl) rfl (lv_at hl 3 rfl) ?_
          refine lv_iload_n (pc := 70) hx hb (dOk_at dX6_odds 37 rfl) rfl (lv_at hl 4 rfl) ?_
          refine lv_iload (pc := 71) hx hb (dOk_at dX6_odds 38 rfl) (lv_at hl 5 rfl) ?_
          refine lv_iload (pc := 73) hx hb (dOk_at dX6_odds 39 rfl) (lv_at hl 6 rfl) ?_
          refine cl_V (pc := 75) (w' := [(b0, .inr (6, [.ref bs, .ref x0, .ref d0, .ref r0, .ref i0, .ref c0, .ref j0, .ref e0, .int lf, .int tr])), (c0, .inr (0, [.ref c1, .ref c2, .int cnt])), (c1, .inl (G.2.1, 4, .inl ck)), (c2, .inl (G.2.1, 4, .inl cwt)), (i0, .inr (2, [.ref i1, .int hi, .int wi, .int fr, .int fc, .int lc])), (i1, .inl (G.2.1, 20, .inl str))]) (wr := []) (rest := []) fx hh hl.1 (h_X6_bondsAsBreaking b0 c0 c1 c2 i0 i1 bs x0 d0 r0 j0 e0 lf tr cnt hi wi fr fc lc ck cwt str a b fro to set hv.1 hv.2.1 hv.2.2.1 hv.2.2.2.1 hv.2.2.2.2.1) yV_X6_bondsAsBreaking tMX6_175 ⟨rfl, rfl, Nat.le_of_ble_eq_true rfl, Nat.le_of_ble_eq_true rfl⟩ 0 6 rfl rfl rfl [0, 1, 2, 3, 4, 5] [] [0, 1, 2, 3, 4, 5] rfl rfl rfl (by decide) (by decide) rfl rfl (Nat.le_of_ble_eq_true rfl) ⟨Nat.le_of_ble_eq_true rfl, Nat.le_of_ble_eq_true rfl⟩ (dOk_at dX6_odds 40 rfl) (fun H locs hh => ?_)
          have hv := hv.2.2.2.2.2
          refine lv_istore (pc := 78) (lv' := [(8, .int (x_bonds hi wi fc lc str ck cwt a b fro to set)), (7, .int v46), (0, .ref b0), (1, .int a), (2, .int b), (3, .int fro), (4, .int to), (5, .int set), (6, .int which)]) hx hb (dOk_at dX6_odds 41 rfl) hl (by decide) rfl (fun ls hl => ?_)
          refine lv_iconst (pc := 80) (v := 1) hx hb (dOk_at dX6_odds 42 rfl) (by decide) ?_
          refine lv_iload (pc := 81) hx hb (dOk_at dX6_odds 43 rfl) (lv_at hl 7 rfl) ?_
          refine cl_S (pc := 83) (w' := [(b0, .inr (6, [.ref bs, .ref x0, .ref d0, .ref r0, .ref i0, .ref c0, .ref j0, .ref e0, .int lf, .int tr])), (c0, .inr (0, [.ref c1, .ref c2, .int cnt])), (c1, .inl (G.2.1, 4, .inl ck)), (c2, .inl (G.2.1, 4, .inl cwt)), (i0, .inr (2, [.ref i1, .int hi, .int wi, .int fr, .int fc, .int lc])), (i1, .inl (G.2.1, 20, .inl str))]) (wr := [(b0, .inr (6, [.ref bs, .ref x0, .ref d0, .ref r0, .ref i0, .ref c0, .ref j0, .ref e0, .int lf, .int tr])), (c0, .inr (0, [.ref c1, .ref c2, .int cnt])), (c1, .inl (G.2.1, 4, .inl ck)), (c2, .inl (G.2.1, 4, .inl cwt)), (i0, .inr (2, [.ref i1, .int hi, .int wi, .int fr, .int fc, .int lc])), (i1, .inl (G.2.1, 20, .inl str))]) (rest := [.int 1]) fx hh hl.1 (h_J6_bitCount_0f7a4 set) yS_J6_bitCount_0f7a4 tMX6_170 ⟨rfl, rfl, Nat.le_of_ble_eq_true rfl, Nat.le_of_ble_eq_true rfl⟩ [] [0, 1, 2, 3, 4, 5] [0, 1, 2, 3, 4, 5] rfl rfl rfl (by decide) (by decide) rfl rfl (Nat.le_of_ble_eq_true rfl) ⟨Nat.le_of_ble_eq_true rfl, Nat.le_of_ble_eq_true rfl⟩ (dOk_at dX6_odds 44 rfl) (fun H locs hh => ?_)
          refine lv_ishl (pc := 86) hx hb (dOk_at dX6_odds 45 rfl) ?_
          refine lv_istore (pc := 87) (lv' := [(9, .int ((1 : Int32) <<< ((s_bitCount set) &&& 31))), (8, .int (x_bonds hi wi fc lc str ck cwt a b fro to set)), (7, .int v46), (0, .ref b0), (1, .int a), (2, .int b), (3, .int fro), (4, .int to), (5, .int set), (6, .int which)]) hx hb (dOk_at dX6_odds 46 rfl) hl (by decide) rfl (fun ls hl => ?_)
          refine lv_iconst (pc := 89) (v := 0) hx hb (dOk_at dX6_odds 47 rfl) (by decide) ?_
          refine lv_istore (pc := 90) (lv' := [(10, .int 0), (9, .int ((1 : Int32) <<< ((s_bitCount set) &&& 31))), (8, .int (x_bonds hi wi fc lc str ck cwt a b fro to set)), (7, .int v46), (0, .ref b0), (1, .int a), (2, .int b), (3, .int fro), (4, .int to), (5, .int set), (6, .int which)]) hx hb (dOk_at dX6_odds 48 rfl) hl (by decide) rfl (fun ls hl => ?_)
          obtain ⟨k0, hj0⟩ := hv
          exact lp92 k0 (x_bonds hi wi fc lc str ck cwt a b fro to set) ((1 : Int32) <<< ((s_bitCount set) &&& 31)) 0 hj0 _ _ _ hh (lv_sub hl [10, 2, 1, 0] rfl)
        · have hv := hv.2 c60
          refine lv_ldc2 (pc := 63) (v := (-9223372036854775808)) hx hb fx.hown (fx.hts _ tLX6_165) (dOk_at dX6_odds 32 rfl) ?_
          have e0 := hv
          subst e0
          rw [hQ]
          exact r_lret (pc := 66) fx hh (dOk_at dX6_odds 33 rfl)
    refine lv_if_ne (pc := 28) (tgt := 45) hx hb (dOk_at dX6_odds 16 rfl) (by decide) (fun c28 => ?_) (fun c28 => ?_)
    · refine lv_iconst (pc := 45) (v := 0) hx hb (dOk_at dX6_odds 23 rfl) (by decide) ?_
      exact k46_28 _ (if_neg c28).symm _ _ _ hh (lv_sub hl [0, 1, 2, 3, 4, 5, 6] rfl)
    · refine lv_iload (pc := 31) hx hb (dOk_at dX6_odds 17 rfl) (lv_at hl 5 rfl) ?_
      refine cl_S (pc := 33) (w' := [(b0, .inr (6, [.ref bs, .ref x0, .ref d0, .ref r0, .ref i0, .ref c0, .ref j0, .ref e0, .int lf, .int tr])), (c0, .inr (0, [.ref c1, .ref c2, .int cnt])), (c1, .inl (G.2.1, 4, .inl ck)), (c2, .inl (G.2.1, 4, .inl cwt)), (i0, .inr (2, [.ref i1, .int hi, .int wi, .int fr, .int fc, .int lc])), (i1, .inl (G.2.1, 20, .inl str))]) (wr := [(b0, .inr (6, [.ref bs, .ref x0, .ref d0, .ref r0, .ref i0, .ref c0, .ref j0, .ref e0, .int lf, .int tr])), (c0, .inr (0, [.ref c1, .ref c2, .int cnt])), (c1, .inl (G.2.1, 4, .inl ck)), (c2, .inl (G.2.1, 4, .inl cwt)), (i0, .inr (2, [.ref i1, .int hi, .int wi, .int fr, .int fc, .int lc])), (i1, .inl (G.2.1, 20, .inl str))]) (rest := []) fx hh hl.1 (h_J6_bitCount_0f7a4 set) yS_J6_bitCount_0f7a4 tMX6_170 ⟨rfl, rfl, Nat.le_of_ble_eq_true rfl, Nat.le_of_ble_eq_true rfl⟩ [] [0, 1, 2, 3, 4, 5] [0, 1, 2, 3, 4, 5] rfl rfl rfl (by decide) (by decide) rfl rfl (Nat.le_of_ble_eq_true rfl) ⟨Nat.le_of_ble_eq_true rfl, Nat.le_of_ble_eq_true rfl⟩ (dOk_at dX6_odds 18 rfl) (fun H locs hh => ?_)
      refine lv_bipush (pc := 36) (v := 8) hx hb (dOk_at dX6_odds 19 rfl) (by decide) ?_
      refine lv_icmp_gt (pc := 38) (tgt := 45) hx hb (dOk_at dX6_odds 20 rfl) (by decide) (fun c38 => ?_) (fun c38 => ?_)
      · refine lv_iconst (pc := 45) (v := 0) hx hb (dOk_at dX6_odds 23 rfl) (by decide) ?_
        exact k46_28 _ ((if_pos c28).trans (if_pos c38)).symm _ _ _ hh (lv_sub hl [0, 1, 2, 3, 4, 5, 6] rfl)
      · refine lv_iconst (pc := 41) (v := 1) hx hb (dOk_at dX6_odds 21 rfl) (by decide) ?_
        refine lv_goto (pc := 42) (tgt := 46) hx hb (dOk_at dX6_odds 22 rfl) (by decide) ?_
        exact k46_28 _ ((if_pos c28).trans (if_neg c38)).symm _ _ _ hh (lv_sub hl [0, 1, 2, 3, 4, 5, 6] rfl)
  · have hv := hv.2 c9
    refine lv_ldc2 (pc := 12) (v := (-9223372036854775808)) hx hb fx.hown (fx.hts _ tLX6_165) (dOk_at dX6_odds 7 rfl) ?_
    have e0 := hv
    subst e0
    rw [hQ]
    exact r_lret (pc := 15) fx hh (dOk_at dX6_odds 8 rfl)
set_option maxRecDepth 100000 in
set_option maxHeartbeats 4000000 in
theorem wk_X6_sheet (l : Launch) (G : GT) (b0 : Nat) (bs : Nat) (s0 : Nat) (s1 : Nat) (x0 : Nat) (d0 : Nat) (r0 : Nat) (i0 : Nat) (c0 : Nat) (j0 : Nat) (e0 : Nat) (lf : Int32) (tr : Int32) (sla : Int32) (sle : Int32) (sn : Nat → Int32) (sh : Nat → Option Nat) (k : Int32) (lane : Int32) (n : Int32) (R : Int32) (t0_8 : Int32) (t2_1 : Int32) (t2_2 : Int32) (t3 : Nat → Int32) (h_X6_keepFault : K_X6_keepFault l G) (h_X6_newRow : K_X6_newRow l G)
    (hv : s_shAt sh k = some s0 ∧ (s_in k 0 3 = 0 ∨ vp_in k 4) ∧ ((x_nrR lane n) = R ∧ (x_kf (x_nrR lane n)) = t0_8 ∧ (if x_nrOk lane n then lane else sla) = t2_1 ∧ (if x_nrOk lane n then n else sle) = t2_2 ∧ (if x_nrOk lane n then s_fill 0 sn else sn) = t3)) :
    MF l G yX6_sheet cX6_sheet 4 (some .int) rm_X6_sheet [.ref b0, .int k, .int lane, .int n] [(b0, .inr (6, [.ref bs, .ref x0, .ref d0, .ref r0, .ref i0, .ref c0, .ref j0, .ref e0, .int lf, .int tr])), (bs, .inl (G.2.2.2, 4, .inr (.inr (.inr (.inr sh))))), (s0, .inr (4, [.ref s1, .int sla, .int sle])), (s1, .inl (G.2.1, 60, .inl sn))] (some (.int R)) [(b0, .inr (6, [.ref bs, .ref x0, .ref d0, .ref r0, .ref i0, .ref c0, .ref j0, .ref e0, .int t0_8, .int tr])), (bs, .inl (G.2.2.2, 4, .inr (.inr (.inr (.inr sh))))), (s0, .inr (4, [.ref s1, .int t2_1, .int t2_2])), (s1, .inl (G.2.1, 60, .inl t3))] := by
  refine MF.of (by decide +kernel) (Nat.le_of_ble_eq_true rfl) ?_
  intro p e s m args below meth c A ls fx hh hl _
  have hx := fx.hx
  have hb := fx.hb
  have hl : lv_has ls 4 [(0, .ref b0), (1, .int k), (2, .int lane), (3, .int n)] := hl
  obtain ⟨Q, hQ⟩ : ∃ Q, Q = ZZ G A (some (.int R)) [(b0, .inr (6, [.ref bs, .ref x0, .ref d0, .ref r0, .ref i0, .ref c0, .ref j0, .ref e0, .int t0_8, .int tr])), (bs, .inl (G.2.2.2, 4, .inr (.inr (.inr (.inr sh))))), (s0, .inr (4, [.ref s1, .int t2_1, .int t2_2])), (s1, .inl (G.2.1, 60, .inl t3))] below args s := ⟨_, rfl⟩
  rw [← hQ]
  refine lv_aload_n (pc := 0) hx hb (dOk_at dX6_sheet 0 rfl) rfl (lv_at hl 0 rfl) ?_
  refine lv_aload_n (pc := 1) hx hb (dOk_at dX6_sheet 1 rfl) rfl (lv_at hl 0 rfl) ?_
  refine lv_iload_n (pc := 2) hx hb (dOk_at dX6_sheet 2 rfl) rfl (lv_at hl 1 rfl) ?_
  refine lv_iload_n (pc := 3) hx hb (dOk_at dX6_sheet 3 rfl) rfl (lv_at hl 2 rfl) ?_
  refine lv_iload_n (pc := 4) hx hb (dOk_at dX6_sheet 4 rfl) rfl (lv_at hl 3 rfl) ?_
  refine cl_V (pc := 5) (w' := [(b0, .inr (6, [.ref bs, .ref x0, .ref d0, .ref r0, .ref i0, .ref c0, .ref j0, .ref e0, .int lf, .int tr])), (bs, .inl (G.2.2.2, 4, .inr (.inr (.inr (.inr sh))))), (s0, .inr (4, [.ref s1, .int (if x_nrOk lane n then lane else sla), .int (if x_nrOk lane n then n else sle)])), (s1, .inl (G.2.1, 60, .inl (if x_nrOk lane n then s_fill 0 sn else sn)))]) (wr := []) (rest := [.ref b0]) fx hh hl.1 (h_X6_newRow b0 bs s0 s1 x0 d0 r0 i0 c0 j0 e0 lf tr sla sle sn sh k lane n hv.1 hv.2.1) yV_X6_newRow tMX6_178 ⟨rfl, rfl, Nat.le_of_ble_eq_true rfl, Nat.le_of_ble_eq_true rfl⟩ 0 6 rfl rfl rfl [0, 1, 2, 3] [] [0, 1, 2, 3] rfl rfl rfl (by decide) (by decide) rfl rfl (Nat.le_of_ble_eq_true rfl) ⟨Nat.le_of_ble_eq_true rfl, Nat.le_of_ble_eq_true rfl⟩ (dOk_at dX6_sheet 5 rfl) (fun H locs hh => ?_)
  have hv := hv.2.2
  refine cl_V (pc := 8) (w' := [(b0, .inr (6, [.ref bs, .ref x0, .ref d0, .ref r0, .ref i0, .ref c0, .ref j0, .ref e0, .int (x_kf (x_nrR lane n)), .int tr])), (bs, .inl (G.2.2.2, 4, .inr (.inr (.inr (.inr sh))))), (s0, .inr (4, [.ref s1, .int (if x_nrOk lane n then lane else sla), .int (if x_nrOk lane n then n else sle)])), (s1, .inl (G.2.1, 60, .inl (if x_nrOk lane n then s_fill 0 sn else sn)))]) (wr := [(bs, .inl (G.2.2.2, 4, .inr (.inr (.inr (.inr sh))))), (s0, .inr (4, [.ref s1, .int (if x_nrOk lane n then lane else sla), .int (if x_nrOk lane n then n else sle)])), (s1, .inl (G.2.1, 60, .inl (if x_nrOk lane n then s_fill 0 sn else sn)))]) (rest := []) fx hh hl.1 (h_X6_keepFault b0 bs x0 d0 r0 i0 c0 j0 e0 lf tr (x_nrR lane n)) yV_X6_keepFault tMX6_70 ⟨rfl, rfl, Nat.le_of_ble_eq_true rfl, Nat.le_of_ble_eq_true rfl⟩ 0 6 rfl rfl rfl [0] [1, 2, 3] [3, 0, 1, 2] rfl rfl rfl (by decide) (by decide) rfl rfl (Nat.le_of_ble_eq_true rfl) ⟨Nat.le_of_ble_eq_true rfl, Nat.le_of_ble_eq_true rfl⟩ (dOk_at dX6_sheet 6 rfl) (fun H locs hh => ?_)
  obtain ⟨e0, e1, e2, e3, e4⟩ := hv
  subst e0
  subst e1
  subst e2
  subst e3
  subst e4
  rw [hQ]
  exact r_iret (pc := 11) fx hh (dOk_at dX6_sheet 7 rfl)
set_option maxRecDepth 100000 in
set_option maxHeartbeats 4000000 in
theorem wk_X6_sheet_n (l : Launch) (G : GT) (b0 : Nat) (bs : Nat) (x0 : Nat) (d0 : Nat) (r0 : Nat) (i0 : Nat) (c0 : Nat) (j0 : Nat) (e0 : Nat) (lf : Int32) (tr : Int32) (sh : Nat → Option Nat) (k : Int32) (lane : Int32) (n : Int32) (R : Int32) (t0_8 : Int32) (h_X6_keepFault : K_X6_keepFault l G) (h_X6_newRow_n : K_X6_newRow_n l G)
    (hv : s_shAt sh k = none ∧ (s_in k 0 3 = 0 ∨ vp_in k 4) ∧ ((-1 : Int32) = R ∧ (x_kf (-1)) = t0_8)) :
    MF l G yX6_sheet cX6_sheet 4 (some .int) rm_X6_sheet [.ref b0, .int k, .int lane, .int n] [(b0, .inr (6, [.ref bs, .ref x0, .ref d0, .ref r0, .ref i0, .ref c0, .ref j0, .ref e0, .int lf, .int tr])), (bs, .inl (G.2.2.2, 4, .inr (.inr (.inr (.inr sh)))))] (some (.int R)) [(b0, .inr (6, [.ref bs, .ref x0, .ref d0, .ref r0, .ref i0, .ref c0, .ref j0, .ref e0, .int t0_8, .int tr])), (bs, .inl (G.2.2.2, 4, .inr (.inr (.inr (.inr sh)))))] := by
  refine MF.of (by decide +kernel) (Nat.le_of_ble_eq_true rfl) ?_
  intro p e s m args below meth c A ls fx hh hl _
  have hx := fx.hx
  have hb := fx.hb
  have hl : lv_has ls 4 [(0, .ref b0), (1, .int k), (2, .int lane), (3, .int n)] := hl
  obtain ⟨Q, hQ⟩ : ∃ Q, Q = ZZ G A (some (.int R)) [(b0, .inr (6, [.ref bs, .ref x0, .ref d0, .ref r0, .ref i0, .ref c0, .ref j0, .ref e0, .int t0_8, .int tr])), (bs, .inl (G.2.2.2, 4, .inr (.inr (.inr (.inr sh)))))] below args s := ⟨_, rfl⟩
  rw [← hQ]
  refine lv_aload_n (pc := 0) hx hb (dOk_at dX6_sheet 0 rfl) rfl (lv_at hl 0 rfl) ?_
  refine lv_aload_n (pc := 1) hx hb (dOk_at dX6_sheet 1 rfl) rfl (lv_at hl 0 rfl) ?_
  refine lv_iload_n (pc := 2) hx hb (dOk_at dX6_sheet 2 rfl) rfl (lv_at hl 1 rfl) ?_
  refine lv_iload_n (pc := 3) hx hb (dOk_at dX6_sheet 3 rfl) rfl (lv_at hl 2 rfl) ?_
  refine lv_iload_n (pc := 4) hx hb (dOk_at dX6_sheet 4 rfl) rfl (lv_at hl 3 rfl) ?_
  refine cl_V (pc := 5) (w' := [(b0, .inr (6, [.ref bs, .ref x0, .ref d0, .ref r0, .ref i0, .ref c0, .ref j0, .ref e0, .int lf, .int tr])), (bs, .inl (G.2.2.2, 4, .inr (.inr (.inr (.inr sh)))))]) (wr := []) (rest := [.ref b0]) fx hh hl.1 (h_X6_newRow_n b0 bs x0 d0 r0 i0 c0 j0 e0 lf tr sh k lane n hv.1 hv.2.1) yV_X6_newRow tMX6_178 ⟨rfl, rfl, Nat.le_of_ble_eq_true rfl, Nat.le_of_ble_eq_true rfl⟩ 0 6 rfl rfl rfl [0, 1] [] [0, 1] rfl rfl rfl (by decide) (by decide) rfl rfl (Nat.le_of_ble_eq_true rfl) ⟨Nat.le_of_ble_eq_true rfl, Nat.le_of_ble_eq_true rfl⟩ (dOk_at dX6_sheet 5 rfl) (fun H locs hh => ?_)
  have hv := hv.2.2
  refine cl_V (pc := 8) (w' := [(b0, .inr (6, [.ref bs, .ref x0, .ref d0, .ref r0, .ref i0, .ref c0, .ref j0, .ref e0, .int (x_kf (-1)), .int tr])), (bs, .inl (G.2.2.2, 4, .inr (.inr (.inr (.inr sh)))))]) (wr := [(bs, .inl (G.2.2.2, 4, .inr (.inr (.inr (.inr sh)))))]) (rest := []) fx hh hl.1 (h_X6_keepFault b0 bs x0 d0 r0 i0 c0 j0 e0 lf tr (-1)) yV_X6_keepFault tMX6_70 ⟨rfl, rfl, Nat.le_of_ble_eq_true rfl, Nat.le_of_ble_eq_true rfl⟩ 0 6 rfl rfl rfl [0] [1] [1, 0] rfl rfl rfl (by decide) (by decide) rfl rfl (Nat.le_of_ble_eq_true rfl) ⟨Nat.le_of_ble_eq_true rfl, Nat.le_of_ble_eq_true rfl⟩ (dOk_at dX6_sheet 6 rfl) (fun H locs hh => ?_)
  obtain ⟨e0, e1⟩ := hv
  subst e0
  subst e1
  rw [hQ]
  exact r_iret (pc := 11) fx hh (dOk_at dX6_sheet 7 rfl)
set_option maxRecDepth 100000 in
set_option maxHeartbeats 4000000 in
theorem wk_X6_lose (l : Launch) (G : GT) (b0 : Nat) (bs : Nat) (s0 : Nat) (x0 : Nat) (d0 : Nat) (r0 : Nat) (i0 : Nat) (c0 : Nat) (j0 : Nat) (e0 : Nat) (s1 : Nat) (lf : Int32) (tr : Int32) (sla : Int32) (sle : Int32) (sh : Nat → Option Nat) (k : Int32) (R : Int32) (t2_1 : Int32) (t2_2 : Int32) (h_X4_clear : K_X4_clear l G) (h_X4_isNothing : K_X4_isNothing l G) (h_X6_sheetAt : K_X6_sheetAt l G)
    (hv : s_shAt sh k = (some s0) ∧ (s_in k 0 3 = 0 ∨ vp_in k 4) ∧ ((∀ (v24 : Int32), v24 = (if (s_nothing sla) = 0 then (1 : Int32) else (0 : Int32)) → v24 = R ∧ (-1 : Int32) = t2_1 ∧ (0 : Int32) = t2_2))) :
    MF l G yX6_lose cX6_lose 4 (some .int) rm_X6_lose [.ref b0, .int k] [(b0, .inr (6, [.ref bs, .ref x0, .ref d0, .ref r0, .ref i0, .ref c0, .ref j0, .ref e0, .int lf, .int tr])), (bs, .inl (G.2.2.2, 4, .inr (.inr (.inr (.inr sh))))), (s0, .inr (4, [.ref s1, .int sla, .int sle]))] (some (.int R)) [(b0, .inr (6, [.ref bs, .ref x0, .ref d0, .ref r0, .ref i0, .ref c0, .ref j0, .ref e0, .int lf, .int tr])), (bs, .inl (G.2.2.2, 4, .inr (.inr (.inr (.inr sh))))), (s0, .inr (4, [.ref s1, .int t2_1, .int t2_2]))] := by
  refine MF.of (by decide +kernel) (Nat.le_of_ble_eq_true rfl) ?_
  intro p e s m args below meth c A ls fx hh hl _
  have hx := fx.hx
  have hb := fx.hb
  have hl : lv_has ls 4 [(0, .ref b0), (1, .int k)] := hl
  obtain ⟨Q, hQ⟩ : ∃ Q, Q = ZZ G A (some (.int R)) [(b0, .inr (6, [.ref bs, .ref x0, .ref d0, .ref r0, .ref i0, .ref c0, .ref j0, .ref e0, .int lf, .int tr])), (bs, .inl (G.2.2.2, 4, .inr (.inr (.inr (.inr sh))))), (s0, .inr (4, [.ref s1, .int t2_1, .int t2_2]))] below args s := ⟨_, rfl⟩
  rw [← hQ]
  refine lv_aload_n (pc := 0) hx hb (dOk_at dX6_lose 0 rfl) rfl (lv_at hl 0 rfl) ?_
  refine lv_iload_n (pc := 1) hx hb (dOk_at dX6_lose 1 rfl) rfl (lv_at hl 1 rfl) ?_
  refine cl_V (pc := 2) (w' := [(b0, .inr (6, [.ref bs, .ref x0, .ref d0, .ref r0, .ref i0, .ref c0, .ref j0, .ref e0, .int lf, .int tr])), (bs, .inl (G.2.2.2, 4, .inr (.inr (.inr (.inr sh))))), (s0, .inr (4, [.ref s1, .int sla, .int sle]))]) (wr := [(s0, .inr (4, [.ref s1, .int sla, .int sle]))]) (rest := []) fx hh hl.1 (h_X6_sheetAt b0 bs x0 d0 r0 i0 c0 j0 e0 lf tr sh k (some s0) hv.1 hv.2.1) yV_X6_sheetAt tMX6_182 ⟨rfl, rfl, Nat.le_of_ble_eq_true rfl, Nat.le_of_ble_eq_true rfl⟩ 0 6 rfl rfl rfl [0, 1] [2] [1, 2, 0] rfl rfl rfl (by decide) (by decide) rfl rfl (Nat.le_of_ble_eq_true rfl) ⟨Nat.le_of_ble_eq_true rfl, Nat.le_of_ble_eq_true rfl⟩ (dOk_at dX6_lose 2 rfl) (fun H locs hh => ?_)
  have hv := hv.2.2
  refine lv_astore_n (pc := 5) (lv' := [(2, .ref s0), (0, .ref b0), (1, .int k)]) hx hb (dOk_at dX6_lose 3 rfl) rfl hl (by decide) rfl (fun ls hl => ?_)
  refine lv_aload_n (pc := 6) hx hb (dOk_at dX6_lose 4 rfl) rfl (lv_at hl 0 rfl) ?_
  refine lv_ifnonnull (pc := 7) (tgt := 12) hx hb (dOk_at dX6_lose 5 rfl) (by decide) ?_
  refine lv_aload_n (pc := 12) hx hb (dOk_at dX6_lose 8 rfl) rfl (lv_at hl 0 rfl) ?_
  refine cl_VN (pc := 13) (w' := [(b0, .inr (6, [.ref bs, .ref x0, .ref d0, .ref r0, .ref i0, .ref c0, .ref j0, .ref e0, .int lf, .int tr])), (bs, .inl (G.2.2.2, 4, .inr (.inr (.inr (.inr sh))))), (s0, .inr (4, [.ref s1, .int sla, .int sle]))]) (wr := [(b0, .inr (6, [.ref bs, .ref x0, .ref d0, .ref r0, .ref i0, .ref c0, .ref j0, .ref e0, .int lf, .int tr])), (bs, .inl (G.2.2.2, 4, .inr (.inr (.inr (.inr sh)))))]) (rest := []) fx hh hl.1 (h_X4_isNothing s0 s1 sla sle) yV_X4_isNothing nMX6_186 ⟨rfl, rfl, Nat.le_of_ble_eq_true rfl, Nat.le_of_ble_eq_true rfl⟩ 2 4 rfl rfl rfl [2] [0, 1] [0, 1, 2] rfl rfl rfl (by decide) (by decide) rfl rfl (Nat.le_of_ble_eq_true rfl) ⟨Nat.le_of_ble_eq_true rfl, Nat.le_of_ble_eq_true rfl⟩ (dOk_at dX6_lose 9 rfl) (fun H locs hh => ?_)
  have k24_16 : ∀ (v24 : Int32), v24 = (if (s_nothing sla) = 0 then (1 : Int32) else (0 : Int32)) → ∀ (H : Heap) (locs : List Loc) (ls : Array Slot), HP G A [(b0, .inr (6, [.ref bs, .ref x0, .ref d0, .ref r0, .ref i0, .ref c0, .ref j0, .ref e0, .int lf, .int tr])), (bs, .inl (G.2.2.2, 4, .inr (.inr (.inr (.inr sh))))), (s0, .inr (4, [.ref s1, .int sla, .int sle]))] s H locs → lv_has ls 4 [(2, .ref s0)] → W p l e rm_X6_lose s m args below meth c H locs 0 0 Q (F0 m 24 ls [.int v24]) := by
    intro v24 e24_0 H locs ls hh hl
    have hv := hv v24 e24_0
    refine lv_istore_n (pc := 24) (lv' := [(3, .int v24), (2, .ref s0)]) hx hb (dOk_at dX6_lose 14 rfl) rfl hl (by decide) rfl (fun ls hl => ?_)
    refine lv_aload_n (pc := 25) hx hb (dOk_at dX6_lose 15 rfl) rfl (lv_at hl 1 rfl) ?_
    refine cl_VN (pc := 26) (w' := [(b0, .inr (6, [.ref bs, .ref x0, .ref d0, .ref r0, .ref i0, .ref c0, .ref j0, .ref e0, .int lf, .int tr])), (bs, .inl (G.2.2.2, 4, .inr (.inr (.inr (.inr sh))))), (s0, .inr (4, [.ref s1, .int (-1), .int 0]))]) (wr := [(b0, .inr (6, [.ref bs, .ref x0, .ref d0, .ref r0, .ref i0, .ref c0, .ref j0, .ref e0, .int lf, .int tr])), (bs, .inl (G.2.2.2, 4, .inr (.inr (.inr (.inr sh)))))]) (rest := []) fx hh hl.1 (h_X4_clear s0 s1 sla sle) yV_X4_clear nMX6_190 ⟨rfl, rfl, Nat.le_of_ble_eq_true rfl, Nat.le_of_ble_eq_true rfl⟩ 2 4 rfl rfl rfl [2] [0, 1] [0, 1, 2] rfl rfl rfl (by decide) (by decide) rfl rfl (Nat.le_of_ble_eq_true rfl) ⟨Nat.le_of_ble_eq_true rfl, Nat.le_of_ble_eq_true rfl⟩ (dOk_at dX6_lose 16 rfl) (fun H locs hh => ?_)
    refine lv_iload_n (pc := 29) hx hb (dOk_at dX6_lose 17 rfl) rfl (lv_at hl 0 rfl) ?_
    obtain ⟨e0, e1, e2⟩ := hv
    subst e0
    subst e1
    subst e2
    rw [hQ]
    exact r_iret (pc := 30) fx hh (dOk_at dX6_lose 18 rfl)
  refine lv_if_eq (pc := 16) (tgt := 23) hx hb (dOk_at dX6_lose 10 rfl) (by decide) (fun c16 => ?_) (fun c16 => ?_)
  · refine lv_iconst (pc := 23) (v := 1) hx hb (dOk_at dX6_lose 13 rfl) (by decide) ?_
    exact k24_16 _ (if_pos c16).symm _ _ _ hh (lv_sub hl [0] rfl)
  · refine lv_iconst (pc := 19) (v := 0) hx hb (dOk_at dX6_lose 11 rfl) (by decide) ?_
    refine lv_goto (pc := 20) (tgt := 24) hx hb (dOk_at dX6_lose 12 rfl) (by decide) ?_
    exact k24_16 _ (if_neg c16).symm _ _ _ hh (lv_sub hl [0] rfl)
set_option maxRecDepth 100000 in
set_option maxHeartbeats 4000000 in
theorem wk_X6_lose_n (l : Launch) (G : GT) (b0 : Nat) (bs : Nat) (x0 : Nat) (d0 : Nat) (r0 : Nat) (i0 : Nat) (c0 : Nat) (j0 : Nat) (e0 : Nat) (lf : Int32) (tr : Int32) (sh : Nat → Option Nat) (k : Int32) (R : Int32) (h_X6_sheetAt : K_X6_sheetAt l G)
    (hv : s_shAt sh k = none ∧ (s_in k 0 3 = 0 ∨ vp_in k 4) ∧ (-1 : Int32) = R) :
    MF l G yX6_lose cX6_lose 4 (some .int) rm_X6_lose [.ref b0, .int k] [(b0, .inr (6, [.ref bs, .ref x0, .ref d0, .ref r0, .ref i0, .ref c0, .ref j0, .ref e0, .int lf, .int tr])), (bs, .inl (G.2.2.2, 4, .inr (.inr (.inr (.inr sh)))))] (some (.int R)) [(b0, .inr (6, [.ref bs, .ref x0, .ref d0, .ref r0, .ref i0, .ref c0, .ref j0, .ref e0, .int lf, .int tr])), (bs, .inl (G.2.2.2, 4, .inr (.inr (.inr (.inr sh)))))] := by
  refine MF.of (by decide +kernel) (Nat.le_of_ble_eq_true rfl) ?_
  intro p e s m args below meth c A ls fx hh hl _
  have hx := fx.hx
  have hb := fx.hb
  have hl : lv_has ls 4 [(0, .ref b0), (1, .int k)] := hl
  obtain ⟨Q, hQ⟩ : ∃ Q, Q = ZZ G A (some (.int R)) [(b0, .inr (6, [.ref bs, .ref x0, .ref d0, .ref r0, .ref i0, .ref c0, .ref j0, .ref e0, .int lf, .int tr])), (bs, .inl (G.2.2.2, 4, .inr (.inr (.inr (.inr sh)))))] below args s := ⟨_, rfl⟩
  rw [← hQ]
  refine lv_aload_n (pc := 0) hx hb (dOk_at dX6_lose 0 rfl) rfl (lv_at hl 0 rfl) ?_
  refine lv_iload_n (pc := 1) hx hb (dOk_at dX6_lose 1 rfl) rfl (lv_at hl 1 rfl) ?_
  refine cl_V (pc := 2) (w' := [(b0, .inr (6, [.ref bs, .ref x0, .ref d0, .ref r0, .ref i0, .ref c0, .ref j0, .ref e0, .int lf, .int tr])), (bs, .inl (G.2.2.2, 4, .inr (.inr (.inr (.inr sh)))))]) (wr := []) (rest := []) fx hh hl.1 (h_X6_sheetAt b0 bs x0 d0 r0 i0 c0 j0 e0 lf tr sh k none hv.1 hv.2.1) yV_X6_sheetAt tMX6_182 ⟨rfl, rfl, Nat.le_of_ble_eq_true rfl, Nat.le_of_ble_eq_true rfl⟩ 0 6 rfl rfl rfl [0, 1] [] [0, 1] rfl rfl rfl (by decide) (by decide) rfl rfl (Nat.le_of_ble_eq_true rfl) ⟨Nat.le_of_ble_eq_true rfl, Nat.le_of_ble_eq_true rfl⟩ (dOk_at dX6_lose 2 rfl) (fun H locs hh => ?_)
  have hv := hv.2.2
  refine lv_astore_nN (pc := 5) (lv' := [(2, .null), (0, .ref b0), (1, .int k)]) hx hb (dOk_at dX6_lose 3 rfl) rfl hl (by decide) rfl (fun ls hl => ?_)
  refine lv_aload_nN (pc := 6) hx hb (dOk_at dX6_lose 4 rfl) rfl (lv_at hl 0 rfl) ?_
  refine lv_ifnonnullN (pc := 7) hx hb (dOk_at dX6_lose 5 rfl) ?_
  refine lv_iconst (pc := 10) (v := (-1)) hx hb (dOk_at dX6_lose 6 rfl) (by decide) ?_
  have e0 := hv
  subst e0
  rw [hQ]
  exact r_iret (pc := 11) fx hh (dOk_at dX6_lose 7 rfl)
set_option maxRecDepth 100000 in
set_option maxHeartbeats 4000000 in
theorem wk_X6_put (l : Launch) (G : GT) (b0 : Nat) (bs : Nat) (s0 : Nat) (s1 : Nat) (x0 : Nat) (d0 : Nat) (r0 : Nat) (i0 : Nat) (c0 : Nat) (j0 : Nat) (e0 : Nat) (lf : Int32) (tr : Int32) (sla : Int32) (sle : Int32) (sn : Nat → Int32) (sh : Nat → Option Nat) (k : Int32) (ii : Int32) (v : Int32) (R : Int32) (t0_8 : Int32) (t3 : Nat → Int32) (h_X6_keepFault : K_X6_keepFault l G) (h_X6_putNumber : K_X6_putNumber l G)
    (hv : s_shAt sh k = some s0 ∧ (s_in k 0 3 = 0 ∨ vp_in k 4) ∧ ¬ 60 < sle ∧ ((x_pnR sla sle ii) = R ∧ (x_kf (x_pnR sla sle ii)) = t0_8 ∧ (if x_pnOk sla sle ii then upd sn ii.toNatClampNeg (s_cut sla v) else sn) = t3)) :
    MF l G yX6_put cX6_put 4 (some .int) rm_X6_put [.ref b0, .int k, .int ii, .int v] [(b0, .inr (6, [.ref bs, .ref x0, .ref d0, .ref r0, .ref i0, .ref c0, .ref j0, .ref e0, .int lf, .int tr])), (bs, .inl (G.2.2.2, 4, .inr (.inr (.inr (.inr sh))))), (s0, .inr (4, [.ref s1, .int sla, .int sle])), (s1, .inl (G.2.1, 60, .inl sn))] (some (.int R)) [(b0, .inr (6, [.ref bs, .ref x0, .ref d0, .ref r0, .ref i0, .ref c0, .ref j0, .ref e0, .int t0_8, .int tr])), (bs, .inl (G.2.2.2, 4, .inr (.inr (.inr (.inr sh))))), (s0, .inr (4, [.ref s1, .int sla, .int sle])), (s1, .inl (G.2.1, 60, .inl t3))] := by
  refine MF.of (by decide +kernel) (Nat.le_of_ble_eq_true rfl) ?_
  intro p e s m args below meth c A ls fx hh hl _
  have hx := fx.hx
  have hb := fx.hb
  have hl : lv_has ls 4 [(0, .ref b0), (1, .int k), (2, .int ii), (3, .int v)] := hl
  obtain ⟨Q, hQ⟩ : ∃ Q, Q = ZZ G A (some (.int R)) [(b0, .inr (6, [.ref bs, .ref x0, .ref d0, .ref r0, .ref i0, .ref c0, .ref j0, .ref e0, .int t0_8, .int tr])), (bs, .inl (G.2.2.2, 4, .inr (.inr (.inr (.inr sh))))), (s0, .inr (4, [.ref s1, .int sla, .int sle])), (s1, .inl (G.2.1, 60, .inl t3))] below args s := ⟨_, rfl⟩
  rw [← hQ]
  refine lv_aload_n (pc := 0) hx hb (dOk_at dX6_put 0 rfl) rfl (lv_at hl 0 rfl) ?_
  refine lv_aload_n (pc := 1) hx hb (dOk_at dX6_put 1 rfl) rfl (lv_at hl 0 rfl) ?_
  refine lv_iload_n (pc := 2) hx hb (dOk_at dX6_put 2 rfl) rfl (lv_at hl 1 rfl) ?_
  refine lv_iload_n (pc := 3) hx hb (dOk_at dX6_put 3 rfl) rfl (lv_at hl 2 rfl) ?_
  refine lv_iload_n (pc := 4) hx hb (dOk_at dX6_put 4 rfl) rfl (lv_at hl 3 rfl) ?_
  refine cl_V (pc := 5) (w' := [(b0, .inr (6, [.ref bs, .ref x0, .ref d0, .ref r0, .ref i0, .ref c0, .ref j0, .ref e0, .int lf, .int tr])), (bs, .inl (G.2.2.2, 4, .inr (.inr (.inr (.inr sh))))), (s0, .inr (4, [.ref s1, .int sla, .int sle])), (s1, .inl (G.2.1, 60, .inl (if x_pnOk sla sle ii then upd sn ii.toNatClampNeg (s_cut sla v) else sn)))]) (wr := []) (rest := [.ref b0]) fx hh hl.1 (h_X6_putNumber b0 bs s0 s1 x0 d0 r0 i0 c0 j0 e0 lf tr sla sle sn sh k ii v hv.1 hv.2.1 hv.2.2.1) yV_X6_putNumber tMX6_193 ⟨rfl, rfl, Nat.le_of_ble_eq_true rfl, Nat.le_of_ble_eq_true rfl⟩ 0 6 rfl rfl rfl [0, 1, 2, 3] [] [0, 1, 2, 3] rfl rfl rfl (by decide) (by decide) rfl rfl (Nat.le_of_ble_eq_true rfl) ⟨Nat.le_of_ble_eq_true rfl, Nat.le_of_ble_eq_true rfl⟩ (dOk_at dX6_put 5 rfl) (fun H locs hh => ?_)
  have hv := hv.2.2.2
  refine cl_V (pc := 8) (w' := [(b0, .inr (6, [.ref bs, .ref x0, .ref d0, .ref r0, .ref i0, .ref c0, .ref j0, .ref e0, .int (x_kf (x_pnR sla sle ii)), .int tr])), (bs, .inl (G.2.2.2, 4, .inr (.inr (.inr (.inr sh))))), (s0, .inr (4, [.ref s1, .int sla, .int sle])), (s1, .inl (G.2.1, 60, .inl (if x_pnOk sla sle ii then upd sn ii.toNatClampNeg (s_cut sla v) else sn)))]) (wr := [(bs, .inl (G.2.2.2, 4, .inr (.inr (.inr (.inr sh))))), (s0, .inr (4, [.ref s1, .int sla, .int sle])), (s1, .inl (G.2.1, 60, .inl (if x_pnOk sla sle ii then upd sn ii.toNatClampNeg (s_cut sla v) else sn)))]) (rest := []) fx hh hl.1 (h_X6_keepFault b0 bs x0 d0 r0 i0 c0 j0 e0 lf tr (x_pnR sla sle ii)) yV_X6_keepFault tMX6_70 ⟨rfl, rfl, Nat.le_of_ble_eq_true rfl, Nat.le_of_ble_eq_true rfl⟩ 0 6 rfl rfl rfl [0] [1, 2, 3] [3, 0, 1, 2] rfl rfl rfl (by decide) (by decide) rfl rfl (Nat.le_of_ble_eq_true rfl) ⟨Nat.le_of_ble_eq_true rfl, Nat.le_of_ble_eq_true rfl⟩ (dOk_at dX6_put 6 rfl) (fun H locs hh => ?_)
  obtain ⟨e0, e1, e2⟩ := hv
  subst e0
  subst e1
  subst e2
  rw [hQ]
  exact r_iret (pc := 11) fx hh (dOk_at dX6_put 7 rfl)
set_option maxRecDepth 100000 in
set_option maxHeartbeats 4000000 in
theorem wk_X6_put_n (l : Launch) (G : GT) (b0 : Nat) (bs : Nat) (x0 : Nat) (d0 : Nat) (r0 : Nat) (i0 : Nat) (c0 : Nat) (j0 : Nat) (e0 : Nat) (lf : Int32) (tr : Int32) (sh : Nat → Option Nat) (k : Int32) (ii : Int32) (v : Int32) (R : Int32) (t0_8 : Int32) (h_X6_keepFault : K_X6_keepFault l G) (h_X6_putNumber_n : K_X6_putNumber_n l G)
    (hv : s_shAt sh k = none ∧ (s_in k 0 3 = 0 ∨ vp_in k 4) ∧ ((-1 : Int32) = R ∧ (x_kf (-1)) = t0_8)) :
    MF l G yX6_put cX6_put 4 (some .int) rm_X6_put [.ref b0, .int k, .int ii, .int v] [(b0, .inr (6, [.ref bs, .ref x0, .ref d0, .ref r0, .ref i0, .ref c0, .ref j0, .ref e0, .int lf, .int tr])), (bs, .inl (G.2.2.2, 4, .inr (.inr (.inr (.inr sh)))))] (some (.int R)) [(b0, .inr (6, [.ref bs, .ref x0, .ref d0, .ref r0, .ref i0, .ref c0, .ref j0, .ref e0, .int t0_8, .int tr])), (bs, .inl (G.2.2.2, 4, .inr (.inr (.inr (.inr sh)))))] := by
  refine MF.of (by decide +kernel) (Nat.le_of_ble_eq_true rfl) ?_
  intro p e s m args below meth c A ls fx hh hl _
  have hx := fx.hx
  have hb := fx.hb
  have hl : lv_has ls 4 [(0, .ref b0), (1, .int k), (2, .int ii), (3, .int v)] := hl
  obtain ⟨Q, hQ⟩ : ∃ Q, Q = ZZ G A (some (.int R)) [(b0, .inr (6, [.ref bs, .ref x0, .ref d0, .ref r0, .ref i0, .ref c0, .ref j0, .ref e0, .int t0_8, .int tr])), (bs, .inl (G.2.2.2, 4, .inr (.inr (.inr (.inr sh)))))] below args s := ⟨_, rfl⟩
  rw [← hQ]
  refine lv_aload_n (pc := 0) hx hb (dOk_at dX6_put 0 rfl) rfl (lv_at hl 0 rfl) ?_
  refine lv_aload_n (pc := 1) hx hb (dOk_at dX6_put 1 rfl) rfl (lv_at hl 0 rfl) ?_
  refine lv_iload_n (pc := 2) hx hb (dOk_at dX6_put 2 rfl) rfl (lv_at hl 1 rfl) ?_
  refine lv_iload_n (pc := 3) hx hb (dOk_at dX6_put 3 rfl) rfl (lv_at hl 2 rfl) ?_
  refine lv_iload_n (pc := 4) hx hb (dOk_at dX6_put 4 rfl) rfl (lv_at hl 3 rfl) ?_
  refine cl_V (pc := 5) (w' := [(b0, .inr (6, [.ref bs, .ref x0, .ref d0, .ref r0, .ref i0, .ref c0, .ref j0, .ref e0, .int lf, .int tr])), (bs, .inl (G.2.2.2, 4, .inr (.inr (.inr (.inr sh)))))]) (wr := []) (rest := [.ref b0]) fx hh hl.1 (h_X6_putNumber_n b0 bs x0 d0 r0 i0 c0 j0 e0 lf tr sh k ii v hv.1 hv.2.1) yV_X6_putNumber tMX6_193 ⟨rfl, rfl, Nat.le_of_ble_eq_true rfl, Nat.le_of_ble_eq_true rfl⟩ 0 6 rfl rfl rfl [0, 1] [] [0, 1] rfl rfl rfl (by decide) (by decide) rfl rfl (Nat.le_of_ble_eq_true rfl) ⟨Nat.le_of_ble_eq_true rfl, Nat.le_of_ble_eq_true rfl⟩ (dOk_at dX6_put 5 rfl) (fun H locs hh => ?_)
  have hv := hv.2.2
  refine cl_V (pc := 8) (w' := [(b0, .inr (6, [.ref bs, .ref x0, .ref d0, .ref r0, .ref i0, .ref c0, .ref j0, .ref e0, .int (x_kf (-1)), .int tr])), (bs, .inl (G.2.2.2, 4, .inr (.inr (.inr (.inr sh)))))]) (wr := [(bs, .inl (G.2.2.2, 4, .inr (.inr (.inr (.inr sh)))))]) (rest := []) fx hh hl.1 (h_X6_keepFault b0 bs x0 d0 r0 i0 c0 j0 e0 lf tr (-1)) yV_X6_keepFault tMX6_70 ⟨rfl, rfl, Nat.le_of_ble_eq_true rfl, Nat.le_of_ble_eq_true rfl⟩ 0 6 rfl rfl rfl [0] [1] [1, 0] rfl rfl rfl (by decide) (by decide) rfl rfl (Nat.le_of_ble_eq_true rfl) ⟨Nat.le_of_ble_eq_true rfl, Nat.le_of_ble_eq_true rfl⟩ (dOk_at dX6_put 6 rfl) (fun H locs hh => ?_)
  obtain ⟨e0, e1⟩ := hv
  subst e0
  subst e1
  rw [hQ]
  exact r_iret (pc := 11) fx hh (dOk_at dX6_put 7 rfl)
set_option maxRecDepth 100000 in
set_option maxHeartbeats 4000000 in
theorem wk_X6_cell (l : Launch) (G : GT) (b0 : Nat) (bs : Nat) (s0 : Nat) (s1 : Nat) (x0 : Nat) (d0 : Nat) (r0 : Nat) (i0 : Nat) (c0 : Nat) (j0 : Nat) (e0 : Nat) (lf : Int32) (tr : Int32) (sla : Int32) (sle : Int32) (sn : Nat → Int32) (sh : Nat → Option Nat) (k : Int32) (ii : Int32) (lane : Int32) (R : Int64) (t0_8 : Int32) (h_X6_keepFault : K_X6_keepFault l G) (h_X6_refusalOfPart : K_X6_refusalOfPart l G) (h_X6_sheetAt : K_X6_sheetAt l G)
    (hv : s_shAt sh k = (some s0) ∧ (s_in k 0 3 = 0 ∨ vp_in k 4) ∧ (((x_rp sla sle lane ii 1) = 0 → vp_in ii 60 ∧ (((sn ii.toNatClampNeg).toInt64) = R ∧ (x_kf (x_rp sla sle lane ii 1)) = t0_8)) ∧ (¬ (x_rp sla sle lane ii 1) = 0 → ((-9223372036854775808) : Int64) = R ∧ (x_kf (x_rp sla sle lane ii 1)) = t0_8))) :
    MF l G yX6_cell cX6_cell 6 (some .long) rm_X6_cell [.ref b0, .int k, .int ii, .int lane] [(b0, .inr (6, [.ref bs, .ref x0, .ref d0, .ref r0, .ref i0, .ref c0, .ref j0, .ref e0, .int lf, .int tr])), (bs, .inl (G.2.2.2, 4, .inr (.inr (.inr (.inr sh))))), (s0, .inr (4, [.ref s1, .int sla, .int sle])), (s1, .inl (G.2.1, 60, .inl sn))] (some (.long R)) [(b0, .inr (6, [.ref bs, .ref x0, .ref d0, .ref r0, .ref i0, .ref c0, .ref j0, .ref e0, .int t0_8, .int tr])), (bs, .inl (G.2.2.2, 4, .inr (.inr (.inr (.inr sh))))), (s0, .inr (4, [.ref s1, .int sla, .int sle])), (s1, .inl (G.2.1, 60, .inl sn))] := by
  refine MF.of (by decide +kernel) (Nat.le_of_ble_eq_true rfl) ?_
  intro p e s m args below meth c A ls fx hh hl _
  have hx := fx.hx
  have hb := fx.hb
  have hl : lv_has ls 6 [(0, .ref b0), (1, .int k), (2, .int ii), (3, .int lane)] := hl
  obtain ⟨Q, hQ⟩ : ∃ Q, Q = ZZ G A (some (.long R)) [(b0, .inr (6, [.ref bs, .ref x0, .ref d0, .ref r0, .ref i0, .ref c0, .ref j0, .ref e0, .int t0_8, .int tr])), (bs, .inl (G.2.2.2, 4, .inr (.inr (.inr (.inr sh))))), (s0, .inr (4, [.ref s1, .int sla, .int sle])), (s1, .inl (G.2.1, 60, .inl sn))] below args s := ⟨_, rfl⟩
  rw [← hQ]
  refine lv_aload_n (pc := 0) hx hb (dOk_at dX6_cell 0 rfl) rfl (lv_at hl 0 rfl) ?_
  refine lv_iload_n (pc := 1) hx hb (dOk_at dX6_cell 1 rfl) rfl (lv_at hl 1 rfl) ?_
  refine cl_V (pc := 2) (w' := [(b0, .inr (6, [.ref bs, .ref x0, .ref d0, .ref r0, .ref i0, .ref c0, .ref j0, .ref e0, .int lf, .int tr])), (bs, .inl (G.2.2.2, 4, .inr (.inr (.inr (.inr sh))))), (s0, .inr (4, [.ref s1, .int sla, .int sle])), (s1, .inl (G.2.1, 60, .inl sn))]) (wr := [(s0, .inr (4, [.ref s1, .int sla, .int sle])), (s1, .inl (G.2.1, 60, .inl sn))]) (rest := []) fx hh hl.1 (h_X6_sheetAt b0 bs x0 d0 r0 i0 c0 j0 e0 lf tr sh k (some s0) hv.1 hv.2.1) yV_X6_sheetAt tMX6_182 ⟨rfl, rfl, Nat.le_of_ble_eq_true rfl, Nat.le_of_ble_eq_true rfl⟩ 0 6 rfl rfl rfl [0, 1] [2, 3] [2, 3, 0, 1] rfl rfl rfl (by decide) (by decide) rfl rfl (Nat.le_of_ble_eq_true rfl) ⟨Nat.le_of_ble_eq_true rfl, Nat.le_of_ble_eq_true rfl⟩ (dOk_at dX6_cell 2 rfl) (fun H locs hh => ?_)
  have hv := hv.2.2
  refine lv_astore (pc := 5) (lv' := [(4, .ref s0), (0, .ref b0), (1, .int k), (2, .int ii), (3, .int lane)]) hx hb (dOk_at dX6_cell 3 rfl) hl (by decide) rfl (fun ls hl => ?_)
  refine lv_aload_n (pc := 7) hx hb (dOk_at dX6_cell 4 rfl) rfl (lv_at hl 1 rfl) ?_
  refine lv_aload (pc := 8) hx hb (dOk_at dX6_cell 5 rfl) (lv_at hl 0 rfl) ?_
  refine lv_iload_n (pc := 10) hx hb (dOk_at dX6_cell 6 rfl) rfl (lv_at hl 4 rfl) ?_
  refine lv_iload_n (pc := 11) hx hb (dOk_at dX6_cell 7 rfl) rfl (lv_at hl 3 rfl) ?_
  refine lv_iconst (pc := 12) (v := 1) hx hb (dOk_at dX6_cell 8 rfl) (by decide) ?_
  refine cl_S (pc := 13) (w' := [(b0, .inr (6, [.ref bs, .ref x0, .ref d0, .ref r0, .ref i0, .ref c0, .ref j0, .ref e0, .int lf, .int tr])), (bs, .inl (G.2.2.2, 4, .inr (.inr (.inr (.inr sh))))), (s0, .inr (4, [.ref s1, .int sla, .int sle])), (s1, .inl (G.2.1, 60, .inl sn))]) (wr := [(b0, .inr (6, [.ref bs, .ref x0, .ref d0, .ref r0, .ref i0, .ref c0, .ref j0, .ref e0, .int lf, .int tr])), (bs, .inl (G.2.2.2, 4, .inr (.inr (.inr (.inr sh))))), (s1, .inl (G.2.1, 60, .inl sn))]) (rest := [.ref b0]) fx hh hl.1 (h_X6_refusalOfPart s0 s1 sla sle lane ii 1) yS_X6_refusalOfPart tMX6_196 ⟨rfl, rfl, Nat.le_of_ble_eq_true rfl, Nat.le_of_ble_eq_true rfl⟩ [2] [0, 1, 3] [0, 1, 3, 2] rfl rfl rfl (by decide) (by decide) rfl rfl (Nat.le_of_ble_eq_true rfl) ⟨Nat.le_of_ble_eq_true rfl, Nat.le_of_ble_eq_true rfl⟩ (dOk_at dX6_cell 9 rfl) (fun H locs hh => ?_)
  refine cl_V (pc := 16) (w' := [(b0, .inr (6, [.ref bs, .ref x0, .ref d0, .ref r0, .ref i0, .ref c0, .ref j0, .ref e0, .int (x_kf (x_rp sla sle lane ii 1)), .int tr])), (bs, .inl (G.2.2.2, 4, .inr (.inr (.inr (.inr sh))))), (s0, .inr (4, [.ref s1, .int sla, .int sle])), (s1, .inl (G.2.1, 60, .inl sn))]) (wr := [(bs, .inl (G.2.2.2, 4, .inr (.inr (.inr (.inr sh))))), (s0, .inr (4, [.ref s1, .int sla, .int sle])), (s1, .inl (G.2.1, 60, .inl sn))]) (rest := []) fx hh hl.1 (h_X6_keepFault b0 bs x0 d0 r0 i0 c0 j0 e0 lf tr (x_rp sla sle lane ii 1)) yV_X6_keepFault tMX6_70 ⟨rfl, rfl, Nat.le_of_ble_eq_true rfl, Nat.le_of_ble_eq_true rfl⟩ 0 6 rfl rfl rfl [0] [1, 2, 3] [3, 0, 1, 2] rfl rfl rfl (by decide) (by decide) rfl rfl (Nat.le_of_ble_eq_true rfl) ⟨Nat.le_of_ble_eq_true rfl, Nat.le_of_ble_eq_true rfl⟩ (dOk_at dX6_cell 10 rfl) (fun H locs hh => ?_)
  refine lv_istore (pc := 19) (lv' := [(5, .int (x_rp sla sle lane ii 1)), (4, .ref s0), (0, .ref b0), (1, .int k), (2, .int ii), (3, .int lane)]) hx hb (dOk_at dX6_cell 11 rfl) hl (by decide) rfl (fun ls hl => ?_)
  refine lv_aload (pc := 21) hx hb (dOk_at dX6_cell 12 rfl) (lv_at hl 1 rfl) ?_
  refine lv_ifnull (pc := 23) hx hb (dOk_at dX6_cell 13 rfl) ?_
  refine lv_iload (pc := 26) hx hb (dOk_at dX6_cell 14 rfl) (lv_at hl 0 rfl) ?_
  refine lv_if_eq (pc := 28) (tgt := 37) hx hb (dOk_at dX6_cell 15 rfl) (by decide) (fun c28 => ?_) (fun c28 => ?_)
  · have hv := hv.1 c28
    refine lv_aload (pc := 37) hx hb (dOk_at dX6_cell 18 rfl) (lv_at hl 1 rfl) ?_
    refine r_getN (pc := 39) (ci := 4) fx hh inT4 rfl 0 (by decide) nFX6_200 rfl 2 rfl rfl (dOk_at dX6_cell 19 rfl) ?_
    refine lv_iload_n (pc := 42) hx hb (dOk_at dX6_cell 20 rfl) rfl (lv_at hl 4 rfl) ?_
    refine r_iald (pc := 43) fx hh 3 rfl hv.1 (dOk_at dX6_cell 21 rfl) ?_
    have hv := hv.2
    refine lv_i2l (pc := 44) (v := (sn ii.toNatClampNeg).toInt64) hx hb (dOk_at dX6_cell 22 rfl) rfl ?_
    obtain ⟨e0, e1⟩ := hv
    subst e0
    subst e1
    rw [hQ]
    exact r_lret (pc := 45) fx hh (dOk_at dX6_cell 23 rfl)
  · have hv := hv.2 c28
    refine lv_ldc2 (pc := 31) (v := (-9223372036854775808)) hx hb fx.hown (fx.hts _ tLX6_165) (dOk_at dX6_cell 16 rfl) ?_
    refine lv_goto (pc := 34) (tgt := 45) hx hb (dOk_at dX6_cell 17 rfl) (by decide) ?_
    obtain ⟨e0, e1⟩ := hv
    subst e0
    subst e1
    rw [hQ]
    exact r_lret (pc := 45) fx hh (dOk_at dX6_cell 23 rfl)
set_option maxRecDepth 100000 in
set_option maxHeartbeats 4000000 in
theorem wk_X6_cell_n (l : Launch) (G : GT) (b0 : Nat) (bs : Nat) (x0 : Nat) (d0 : Nat) (r0 : Nat) (i0 : Nat) (c0 : Nat) (j0 : Nat) (e0 : Nat) (lf : Int32) (tr : Int32) (sh : Nat → Option Nat) (k : Int32) (ii : Int32) (lane : Int32) (R : Int64) (t0_8 : Int32) (h_X6_keepFault : K_X6_keepFault l G) (h_X6_refusalOfPart_n : K_X6_refusalOfPart_n l G) (h_X6_sheetAt : K_X6_sheetAt l G)
    (hv : s_shAt sh k = none ∧ (s_in k 0 3 = 0 ∨ vp_in k 4) ∧ (((-9223372036854775808) : Int64) = R ∧ (x_kf (-1)) = t0_8)) :
    MF l G yX6_cell cX6_cell 6 (some .long) rm_X6_cell [.ref b0, .int k, .int ii, .int lane] [(b0, .inr (6, [.ref bs, .ref x0, .ref d0, .ref r0, .ref i0, .ref c0, .ref j0, .ref e0, .int lf, .int tr])), (bs, .inl (G.2.2.2, 4, .inr (.inr (.inr (.inr sh)))))] (some (.long R)) [(b0, .inr (6, [.ref bs, .ref x0, .ref d0, .ref r0, .ref i0, .ref c0, .ref j0, .ref e0, .int t0_8, .int tr])), (bs, .inl (G.2.2.2, 4, .inr (.inr (.inr (.inr sh)))))] := by
  refine MF.of (by decide +kernel) (Nat.le_of_ble_eq_true rfl) ?_
  intro p e s m args below meth c A ls fx hh hl _
  have hx := fx.hx
  have hb := fx.hb
  have hl : lv_has ls 6 [(0, .ref b0), (1, .int k), (2, .int ii), (3, .int lane)] := hl
  obtain ⟨Q, hQ⟩ : ∃ Q, Q = ZZ G A (some (.long R)) [(b0, .inr (6, [.ref bs, .ref x0, .ref d0, .ref r0, .ref i0, .ref c0, .ref j0, .ref e0, .int t0_8, .int tr])), (bs, .inl (G.2.2.2, 4, .inr (.inr (.inr (.inr sh)))))] below args s := ⟨_, rfl⟩
  rw [← hQ]
  refine lv_aload_n (pc := 0) hx hb (dOk_at dX6_cell 0 rfl) rfl (lv_at hl 0 rfl) ?_
  refine lv_iload_n (pc := 1) hx hb (dOk_at dX6_cell 1 rfl) rfl (lv_at hl 1 rfl) ?_
  refine cl_V (pc := 2) (w' := [(b0, .inr (6, [.ref bs, .ref x0, .ref d0, .ref r0, .ref i0, .ref c0, .ref j0, .ref e0, .int lf, .int tr])), (bs, .inl (G.2.2.2, 4, .inr (.inr (.inr (.inr sh)))))]) (wr := []) (rest := []) fx hh hl.1 (h_X6_sheetAt b0 bs x0 d0 r0 i0 c0 j0 e0 lf tr sh k none hv.1 hv.2.1) yV_X6_sheetAt tMX6_182 ⟨rfl, rfl, Nat.le_of_ble_eq_true rfl, Nat.le_of_ble_eq_true rfl⟩ 0 6 rfl rfl rfl [0, 1] [] [0, 1] rfl rfl rfl (by decide) (by decide) rfl rfl (Nat.le_of_ble_eq_true rfl) ⟨Nat.le_of_ble_eq_true rfl, Nat.le_of_ble_eq_true rfl⟩ (dOk_at dX6_cell 2 rfl) (fun H locs hh => ?_)
  have hv := hv.2.2
  refine lv_astoreN (pc := 5) (lv' := [(4, .null), (0, .ref b0), (1, .int k), (2, .int ii), (3, .int lane)]) hx hb (dOk_at dX6_cell 3 rfl) hl (by decide) rfl (fun ls hl => ?_)
  refine lv_aload_n (pc := 7) hx hb (dOk_at dX6_cell 4 rfl) rfl (lv_at hl 1 rfl) ?_
  refine lv_aloadN (pc := 8) hx hb (dOk_at dX6_cell 5 rfl) (lv_at hl 0 rfl) ?_
  refine lv_iload_n (pc := 10) hx hb (dOk_at dX6_cell 6 rfl) rfl (lv_at hl 4 rfl) ?_
  refine lv_iload_n (pc := 11) hx hb (dOk_at dX6_cell 7 rfl) rfl (lv_at hl 3 rfl) ?_
  refine lv_iconst (pc := 12) (v := 1) hx hb (dOk_at dX6_cell 8 rfl) (by decide) ?_
  refine cl_S (pc := 13) (w' := [(b0, .inr (6, [.ref bs, .ref x0, .ref d0, .ref r0, .ref i0, .ref c0, .ref j0, .ref e0, .int lf, .int tr])), (bs, .inl (G.2.2.2, 4, .inr (.inr (.inr (.inr sh)))))]) (wr := [(b0, .inr (6, [.ref bs, .ref x0, .ref d0, .ref r0, .ref i0, .ref c0, .ref j0, .ref e0, .int lf, .int tr])), (bs, .inl (G.2.2.2, 4, .inr (.inr (.inr (.inr sh)))))]) (rest := [.ref b0]) fx hh hl.1 (h_X6_refusalOfPart_n lane ii 1) yS_X6_refusalOfPart tMX6_196 ⟨rfl, rfl, Nat.le_of_ble_eq_true rfl, Nat.le_of_ble_eq_true rfl⟩ [] [0, 1] [0, 1] rfl rfl rfl (by decide) (by decide) rfl rfl (Nat.le_of_ble_eq_true rfl) ⟨Nat.le_of_ble_eq_true rfl, Nat.le_of_ble_eq_true rfl⟩ (dOk_at dX6_cell 9 rfl) (fun H locs hh => ?_)
  refine cl_V (pc := 16) (w' := [(b0, .inr (6, [.ref bs, .ref x0, .ref d0, .ref r0, .ref i0, .ref c0, .ref j0, .ref e0, .int (x_kf (-1)), .int tr])), (bs, .inl (G.2.2.2, 4, .inr (.inr (.inr (.inr sh)))))]) (wr := [(bs, .inl (G.2.2.2, 4, .inr (.inr (.inr (.inr sh)))))]) (rest := []) fx hh hl.1 (h_X6_keepFault b0 bs x0 d0 r0 i0 c0 j0 e0 lf tr (-1)) yV_X6_keepFault tMX6_70 ⟨rfl, rfl, Nat.le_of_ble_eq_true rfl, Nat.le_of_ble_eq_true rfl⟩ 0 6 rfl rfl rfl [0] [1] [1, 0] rfl rfl rfl (by decide) (by decide) rfl rfl (Nat.le_of_ble_eq_true rfl) ⟨Nat.le_of_ble_eq_true rfl, Nat.le_of_ble_eq_true rfl⟩ (dOk_at dX6_cell 10 rfl) (fun H locs hh => ?_)
  refine lv_istore (pc := 19) (lv' := [(5, .int (-1)), (4, .null), (0, .ref b0), (1, .int k), (2, .int ii), (3, .int lane)]) hx hb (dOk_at dX6_cell 11 rfl) hl (by decide) rfl (fun ls hl => ?_)
  refine lv_aloadN (pc := 21) hx hb (dOk_at dX6_cell 12 rfl) (lv_at hl 1 rfl) ?_
  refine lv_ifnullN (pc := 23) (tgt := 31) hx hb (dOk_at dX6_cell 13 rfl) (by decide) ?_
  refine lv_ldc2 (pc := 31) (v := (-9223372036854775808)) hx hb fx.hown (fx.hts _ tLX6_165) (dOk_at dX6_cell 16 rfl) ?_
  refine lv_goto (pc := 34) (tgt := 45) hx hb (dOk_at dX6_cell 17 rfl) (by decide) ?_
  obtain ⟨e0, e1⟩ := hv
  subst e0
  subst e1
  rw [hQ]
  exact r_lret (pc := 45) fx hh (dOk_at dX6_cell 23 rfl)
set_option maxRecDepth 100000 in
set_option maxHeartbeats 4000000 in
theorem wk_X6_copy (l : Launch) (G : GT) (b0 : Nat) (bs : Nat) (s0 : Nat) (s1 : Nat) (u0 : Nat) (u1 : Nat) (x0 : Nat) (d0 : Nat) (r0 : Nat) (i0 : Nat) (c0 : Nat) (j0 : Nat) (e0 : Nat) (lf : Int32) (tr : Int32) (sla : Int32) (sle : Int32) (ula : Int32) (ule : Int32) (sn : Nat → Int32) (un : Nat → Int32) (sh : Nat → Option Nat) (k : Int32) (i : Int32) (other : Int32) (j : Int32) (n : Int32) (R : Int32) (t0_8 : Int32) (t5 : Nat → Int32) (h_X6_copyNumbers : K_X6_copyNumbers l G) (h_X6_keepFault : K_X6_keepFault l G)
    (hv : s_shAt sh k = some s0 ∧ s_shAt sh other = some u0 ∧ (s_in k 0 3 = 0 ∨ vp_in k 4) ∧ (s_in other 0 3 = 0 ∨ vp_in other 4) ∧ ¬ 60 < sle ∧ ¬ 60 < ule ∧ ((x_cpR sla sle ula ule i j n) = R ∧ (x_kf (x_cpR sla sle ula ule i j n)) = t0_8 ∧ (x_cpS sla sle ula ule sn un i j n) = t5)) :
    MF l G yX6_copy cX6_copy 6 (some .int) rm_X6_copy [.ref b0, .int k, .int i, .int other, .int j, .int n] [(b0, .inr (6, [.ref bs, .ref x0, .ref d0, .ref r0, .ref i0, .ref c0, .ref j0, .ref e0, .int lf, .int tr])), (bs, .inl (G.2.2.2, 4, .inr (.inr (.inr (.inr sh))))), (s0, .inr (4, [.ref s1, .int sla, .int sle])), (s1, .inl (G.2.1, 60, .inl sn)), (u0, .inr (4, [.ref u1, .int ula, .int ule])), (u1, .inl (G.2.1, 60, .inl un))] (some (.int R)) [(b0, .inr (6, [.ref bs, .ref x0, .ref d0, .ref r0, .ref i0, .ref c0, .ref j0, .ref e0, .int t0_8, .int tr])), (bs, .inl (G.2.2.2, 4, .inr (.inr (.inr (.inr sh))))), (s0, .inr (4, [.ref s1, .int sla, .int sle])), (s1, .inl (G.2.1, 60, .inl sn)), (u0, .inr (4, [.ref u1, .int ula, .int ule])), (u1, .inl (G.2.1, 60, .inl t5))] := by
  refine MF.of (by decide +kernel) (Nat.le_of_ble_eq_true rfl) ?_
  intro p e s m args below meth c A ls fx hh hl _
  have hx := fx.hx
  have hb := fx.hb
  have hl : lv_has ls 6 [(0, .ref b0), (1, .int k), (2, .int i), (3, .int other), (4, .int j), (5, .int n)] := hl
  obtain ⟨Q, hQ⟩ : ∃ Q, Q = ZZ G A (some (.int R)) [(b0, .inr (6, [.ref bs, .ref x0, .ref d0, .ref r0, .ref i0, .ref c0, .ref j0, .ref e0, .int t0_8, .int tr])), (bs, .inl (G.2.2.2, 4, .inr (.inr (.inr (.inr sh))))), (s0, .inr (4, [.ref s1, .int sla, .int sle])), (s1, .inl (G.2.1, 60, .inl sn)), (u0, .inr (4, [.ref u1, .int ula, .int ule])), (u1, .inl (G.2.1, 60, .inl t5))] below args s := ⟨_, rfl⟩
  rw [← hQ]
  refine lv_aload_n (pc := 0) hx hb (dOk_at dX6_copy 0 rfl) rfl (lv_at hl 0 rfl) ?_
  refine lv_aload_n (pc := 1) hx hb (dOk_at dX6_copy 1 rfl) rfl (lv_at hl 0 rfl) ?_
  refine lv_iload_n (pc := 2) hx hb (dOk_at dX6_copy 2 rfl) rfl (lv_at hl 1 rfl) ?_
  refine lv_iload_n (pc := 3) hx hb (dOk_at dX6_copy 3 rfl) rfl (lv_at hl 2 rfl) ?_
  refine lv_iload_n (pc := 4) hx hb (dOk_at dX6_copy 4 rfl) rfl (lv_at hl 3 rfl) ?_
  refine lv_iload (pc := 5) hx hb (dOk_at dX6_copy 5 rfl) (lv_at hl 4 rfl) ?_
  refine lv_iload (pc := 7) hx hb (dOk_at dX6_copy 6 rfl) (lv_at hl 5 rfl) ?_
  refine cl_V (pc := 9) (w' := [(b0, .inr (6, [.ref bs, .ref x0, .ref d0, .ref r0, .ref i0, .ref c0, .ref j0, .ref e0, .int lf, .int tr])), (bs, .inl (G.2.2.2, 4, .inr (.inr (.inr (.inr sh))))), (s0, .inr (4, [.ref s1, .int sla, .int sle])), (s1, .inl (G.2.1, 60, .inl sn)), (u0, .inr (4, [.ref u1, .int ula, .int ule])), (u1, .inl (G.2.1, 60, .inl (x_cpS sla sle ula ule sn un i j n)))]) (wr := []) (rest := [.ref b0]) fx hh hl.1 (h_X6_copyNumbers b0 bs s0 s1 u0 u1 x0 d0 r0 i0 c0 j0 e0 lf tr sla sle ula ule sn un sh k i other j n hv.1 hv.2.1 hv.2.2.1 hv.2.2.2.1 hv.2.2.2.2.1 hv.2.2.2.2.2.1) yV_X6_copyNumbers tMX6_203 ⟨rfl, rfl, Nat.le_of_ble_eq_true rfl, Nat.le_of_ble_eq_true rfl⟩ 0 6 rfl rfl rfl [0, 1, 2, 3, 4, 5] [] [0, 1, 2, 3, 4, 5] rfl rfl rfl (by decide) (by decide) rfl rfl (Nat.le_of_ble_eq_true rfl) ⟨Nat.le_of_ble_eq_true rfl, Nat.le_of_ble_eq_true rfl⟩ (dOk_at dX6_copy 7 rfl) (fun H locs hh => ?_)
  have hv := hv.2.2.2.2.2.2
  refine cl_V (pc := 12) (w' := [(b0, .inr (6, [.ref bs, .ref x0, .ref d0, .ref r0, .ref i0, .ref c0, .ref j0, .ref e0, .int (x_kf (x_cpR sla sle ula ule i j n)), .int tr])), (bs, .inl (G.2.2.2, 4, .inr (.inr (.inr (.inr sh))))), (s0, .inr (4, [.ref s1, .int sla, .int sle])), (s1, .inl (G.2.1, 60, .inl sn)), (u0, .inr (4, [.ref u1, .int ula, .int ule])), (u1, .inl (G.2.1, 60, .inl (x_cpS sla sle ula ule sn un i j n)))]) (wr := [(bs, .inl (G.2.2.2, 4, .inr (.inr (.inr (.inr sh))))), (s0, .inr (4, [.ref s1, .int sla, .int sle])), (s1, .inl (G.2.1, 60, .inl sn)), (u0, .inr (4, [.ref u1, .int ula, .int ule])), (u1, .inl (G.2.1, 60, .inl (x_cpS sla sle ula ule sn un i j n)))]) (rest := []) fx hh hl.1 (h_X6_keepFault b0 bs x0 d0 r0 i0 c0 j0 e0 lf tr (x_cpR sla sle ula ule i j n)) yV_X6_keepFault tMX6_70 ⟨rfl, rfl, Nat.le_of_ble_eq_true rfl, Nat.le_of_ble_eq_true rfl⟩ 0 6 rfl rfl rfl [0] [1, 2, 3, 4, 5] [5, 0, 1, 2, 3, 4] rfl rfl rfl (by decide) (by decide) rfl rfl (Nat.le_of_ble_eq_true rfl) ⟨Nat.le_of_ble_eq_true rfl, Nat.le_of_ble_eq_true rfl⟩ (dOk_at dX6_copy 8 rfl) (fun H locs hh => ?_)
  obtain ⟨e0, e1, e2⟩ := hv
  subst e0
  subst e1
  subst e2
  rw [hQ]
  exact r_iret (pc := 15) fx hh (dOk_at dX6_copy 9 rfl)
set_option maxRecDepth 100000 in
set_option maxHeartbeats 4000000 in
theorem wk_X6_copy_s (l : Launch) (G : GT) (b0 : Nat) (bs : Nat) (s0 : Nat) (s1 : Nat) (x0 : Nat) (d0 : Nat) (r0 : Nat) (i0 : Nat) (c0 : Nat) (j0 : Nat) (e0 : Nat) (lf : Int32) (tr : Int32) (sla : Int32) (sle : Int32) (sn : Nat → Int32) (sh : Nat → Option Nat) (k : Int32) (i : Int32) (other : Int32) (j : Int32) (n : Int32) (R : Int32) (t0_8 : Int32) (t3 : Nat → Int32) (h_X6_copyNumbers_s : K_X6_copyNumbers_s l G) (h_X6_keepFault : K_X6_keepFault l G)
    (hv : s_shAt sh k = some s0 ∧ s_shAt sh other = some s0 ∧ (s_in k 0 3 = 0 ∨ vp_in k 4) ∧ (s_in other 0 3 = 0 ∨ vp_in other 4) ∧ ¬ 60 < sle ∧ ((x_cpR sla sle sla sle i j n) = R ∧ (x_kf (x_cpR sla sle sla sle i j n)) = t0_8 ∧ (x_cpS sla sle sla sle sn sn i j n) = t3)) :
    MF l G yX6_copy cX6_copy 6 (some .int) rm_X6_copy [.ref b0, .int k, .int i, .int other, .int j, .int n] [(b0, .inr (6, [.ref bs, .ref x0, .ref d0, .ref r0, .ref i0, .ref c0, .ref j0, .ref e0, .int lf, .int tr])), (bs, .inl (G.2.2.2, 4, .inr (.inr (.inr (.inr sh))))), (s0, .inr (4, [.ref s1, .int sla, .int sle])), (s1, .inl (G.2.1, 60, .inl sn))] (some (.int R)) [(b0, .inr (6, [.ref bs, .ref x0, .ref d0, .ref r0, .ref i0, .ref c0, .ref j0, .ref e0, .int t0_8, .int tr])), (bs, .inl (G.2.2.2, 4, .inr (.inr (.inr (.inr sh))))), (s0, .inr (4, [.ref s1, .int sla, .int sle])), (s1, .inl (G.2.1, 60, .inl t3))] := by
  refine MF.of (by decide +kernel) (Nat.le_of_ble_eq_true rfl) ?_
  intro p e s m args below meth c A ls fx hh hl _
  have hx := fx.hx
  have hb := fx.hb
  have hl : lv_has ls 6 [(0, .ref b0), (1, .int k), (2, .int i), (3, .int other), (4, .int j), (5, .int n)] := hl
  obtain ⟨Q, hQ⟩ : ∃ Q, Q = ZZ G A (some (.int R)) [(b0, .inr (6, [.ref bs, .ref x0, .ref d0, .ref r0, .ref i0, .ref c0, .ref j0, .ref e0, .int t0_8, .int tr])), (bs, .inl (G.2.2.2, 4, .inr (.inr (.inr (.inr sh))))), (s0, .inr (4, [.ref s1, .int sla, .int sle])), (s1, .inl (G.2.1, 60, .inl t3))] below args s := ⟨_, rfl⟩
  rw [← hQ]
  refine lv_aload_n (pc := 0) hx hb (dOk_at dX6_copy 0 rfl) rfl (lv_at hl 0 rfl) ?_
  refine lv_aload_n (pc := 1) hx hb (dOk_at dX6_copy 1 rfl) rfl (lv_at hl 0 rfl) ?_
  refine lv_iload_n (pc := 2) hx hb (dOk_at dX6_copy 2 rfl) rfl (lv_at hl 1 rfl) ?_
  refine lv_iload_n (pc := 3) hx hb (dOk_at dX6_copy 3 rfl) rfl (lv_at hl 2 rfl) ?_
  refine lv_iload_n (pc := 4) hx hb (dOk_at dX6_copy 4 rfl) rfl (lv_at hl 3 rfl) ?_
  refine lv_iload (pc := 5) hx hb (dOk_at dX6_copy 5 rfl) (lv_at hl 4 rfl) ?_
  refine lv_iload (pc := 7) hx hb (dOk_at dX6_copy 6 rfl) (lv_at hl 5 rfl) ?_
  refine cl_V (pc := 9) (w' := [(b0, .inr (6, [.ref bs, .ref x0, .ref d0, .ref r0, .ref i0, .ref c0, .ref j0, .ref e0, .int lf, .int tr])), (bs, .inl (G.2.2.2, 4, .inr (.inr (.inr (.inr sh))))), (s0, .inr (4, [.ref s1, .int sla, .int sle])), (s1, .inl (G.2.1, 60, .inl (x_cpS sla sle sla sle sn sn i j n)))]) (wr := []) (rest := [.ref b0]) fx hh hl.1 (h_X6_copyNumbers_s b0 bs s0 s1 x0 d0 r0 i0 c0 j0 e0 lf tr sla sle sn sh k i other j n hv.1 hv.2.1 hv.2.2.1 hv.2.2.2.1 hv.2.2.2.2.1) yV_X6_copyNumbers tMX6_203 ⟨rfl, rfl, Nat.le_of_ble_eq_true rfl, Nat.le_of_ble_eq_true rfl⟩ 0 6 rfl rfl rfl [0, 1, 2, 3] [] [0, 1, 2, 3] rfl rfl rfl (by decide) (by decide) rfl rfl (Nat.le_of_ble_eq_true rfl) ⟨Nat.le_of_ble_eq_true rfl, Nat.le_of_ble_eq_true rfl⟩ (dOk_at dX6_copy 7 rfl) (fun H locs hh => ?_)
  have hv := hv.2.2.2.2.2
  refine cl_V (pc := 12) (w' := [(b0, .inr (6, [.ref bs, .ref x0, .ref d0, .ref r0, .ref i0, .ref c0, .ref j0, .ref e0, .int (x_kf (x_cpR sla sle sla sle i j n)), .int tr])), (bs, .inl (G.2.2.2, 4, .inr (.inr (.inr (.inr sh))))), (s0, .inr (4, [.ref s1, .int sla, .int sle])), (s1, .inl (G.2.1, 60, .inl (x_cpS sla sle sla sle sn sn i j n)))]) (wr := [(bs, .inl (G.2.2.2, 4, .inr (.inr (.inr (.inr sh))))), (s0, .inr (4, [.ref s1, .int sla, .int sle])), (s1, .inl (G.2.1, 60, .inl (x_cpS sla sle sla sle sn sn i j n)))]) (rest := []) fx hh hl.1 (h_X6_keepFault b0 bs x0 d0 r0 i0 c0 j0 e0 lf tr (x_cpR sla sle sla sle i j n)) yV_X6_keepFault tMX6_70 ⟨rfl, rfl, Nat.le_of_ble_eq_true rfl, Nat.le_of_ble_eq_true rfl⟩ 0 6 rfl rfl rfl [0] [1, 2, 3] [3, 0, 1, 2] rfl rfl rfl (by decide) (by decide) rfl rfl (Nat.le_of_ble_eq_true rfl) ⟨Nat.le_of_ble_eq_true rfl, Nat.le_of_ble_eq_true rfl⟩ (dOk_at dX6_copy 8 rfl) (fun H locs hh => ?_)
  obtain ⟨e0, e1, e2⟩ := hv
  subst e0
  subst e1
  subst e2
  rw [hQ]
  exact r_iret (pc := 15) fx hh (dOk_at dX6_copy 9 rfl)
set_option maxRecDepth 100000 in
set_option maxHeartbeats 4000000 in
theorem wk_X6_copy_n (l : Launch) (G : GT) (b0 : Nat) (bs : Nat) (x0 : Nat) (d0 : Nat) (r0 : Nat) (i0 : Nat) (c0 : Nat) (j0 : Nat) (e0 : Nat) (lf : Int32) (tr : Int32) (sh : Nat → Option Nat) (k : Int32) (i : Int32) (other : Int32) (j : Int32) (n : Int32) (R : Int32) (t0_8 : Int32) (h_X6_copyNumbers_n : K_X6_copyNumbers_n l G) (h_X6_keepFault : K_X6_keepFault l G)
    (hv : s_shAt sh k = none ∧ s_shAt sh other = none ∧ (s_in k 0 3 = 0 ∨ vp_in k 4) ∧ (s_in other 0 3 = 0 ∨ vp_in other 4) ∧ ((-1 : Int32) = R ∧ (x_kf (-1)) = t0_8)) :
    MF l G yX6_copy cX6_copy 6 (some .int) rm_X6_copy [.ref b0, .int k, .int i, .int other, .int j, .int n] [(b0, .inr (6, [.ref bs, .ref x0, .ref d0, .ref r0, .ref i0, .ref c0, .ref j0, .ref e0, .int lf, .int tr])), (bs, .inl (G.2.2.2, 4, .inr (.inr (.inr (.inr sh)))))] (some (.int R)) [(b0, .inr (6, [.ref bs, .ref x0, .ref d0, .ref r0, .ref i0, .ref c0, .ref j0, .ref e0, .int t0_8, .int tr])), (bs, .inl (G.2.2.2, 4, .inr (.inr (.inr (.inr sh)))))] := by
  refine MF.of (by decide +kernel) (Nat.le_of_ble_eq_true rfl) ?_
  intro p e s m args below meth c A ls fx hh hl _
  have hx := fx.hx
  have hb := fx.hb
  have hl : lv_has ls 6 [(0, .ref b0), (1, .int k), (2, .int i), (3, .int other), (4, .int j), (5, .int n)] := hl
  obtain ⟨Q, hQ⟩ : ∃ Q, Q = ZZ G A (some (.int R)) [(b0, .inr (6, [.ref bs, .ref x0, .ref d0, .ref r0, .ref i0, .ref c0, .ref j0, .ref e0, .int t0_8, .int tr])), (bs, .inl (G.2.2.2, 4, .inr (.inr (.inr (.inr sh)))))] below args s := ⟨_, rfl⟩
  rw [← hQ]
  refine lv_aload_n (pc := 0) hx hb (dOk_at dX6_copy 0 rfl) rfl (lv_at hl 0 rfl) ?_
  refine lv_aload_n (pc := 1) hx hb (dOk_at dX6_copy 1 rfl) rfl (lv_at hl 0 rfl) ?_
  refine lv_iload_n (pc := 2) hx hb (dOk_at dX6_copy 2 rfl) rfl (lv_at hl 1 rfl) ?_
  refine lv_iload_n (pc := 3) hx hb (dOk_at dX6_copy 3 rfl) rfl (lv_at hl 2 rfl) ?_
  refine lv_iload_n (pc := 4) hx hb (dOk_at dX6_copy 4 rfl) rfl (lv_at hl 3 rfl) ?_
  refine lv_iload (pc := 5) hx hb (dOk_at dX6_copy 5 rfl) (lv_at hl 4 rfl) ?_
  refine lv_iload (pc := 7) hx hb (dOk_at dX6_copy 6 rfl) (lv_at hl 5 rfl) ?_
  refine cl_V (pc := 9) (w' := [(b0, .inr (6, [.ref bs, .ref x0, .ref d0, .ref r0, .ref i0, .ref c0, .ref j0, .ref e0, .int lf, .int tr])), (bs, .inl (G.2.2.2, 4, .inr (.inr (.inr (.inr sh)))))]) (wr := []) (rest := [.ref b0]) fx hh hl.1 (h_X6_copyNumbers_n b0 bs x0 d0 r0 i0 c0 j0 e0 lf tr sh k i other j n hv.1 hv.2.1 hv.2.2.1 hv.2.2.2.1) yV_X6_copyNumbers tMX6_203 ⟨rfl, rfl, Nat.le_of_ble_eq_true rfl, Nat.le_of_ble_eq_true rfl⟩ 0 6 rfl rfl rfl [0, 1] [] [0, 1] rfl rfl rfl (by decide) (by decide) rfl rfl (Nat.le_of_ble_eq_true rfl) ⟨Nat.le_of_ble_eq_true rfl, Nat.le_of_ble_eq_true rfl⟩ (dOk_at dX6_copy 7 rfl) (fun H locs hh => ?_)
  have hv := hv.2.2.2.2
  refine cl_V (pc := 12) (w' := [(b0, .inr (6, [.ref bs, .ref x0, .ref d0, .ref r0, .ref i0, .ref c0, .ref j0, .ref e0, .int (x_kf (-1)), .int tr])), (bs, .inl (G.2.2.2, 4, .inr (.inr (.inr (.inr sh)))))]) (wr := [(bs, .inl (G.2.2.2, 4, .inr (.inr (.inr (.inr sh)))))]) (rest := []) fx hh hl.1 (h_X6_keepFault b0 bs x0 d0 r0 i0 c0 j0 e0 lf tr (-1)) yV_X6_keepFault tMX6_70 ⟨rfl, rfl, Nat.le_of_ble_eq_true rfl, Nat.le_of_ble_eq_true rfl⟩ 0 6 rfl rfl rfl [0] [1] [1, 0] rfl rfl rfl (by decide) (by decide) rfl rfl (Nat.le_of_ble_eq_true rfl) ⟨Nat.le_of_ble_eq_true rfl, Nat.le_of_ble_eq_true rfl⟩ (dOk_at dX6_copy 8 rfl) (fun H locs hh => ?_)
  obtain ⟨e0, e1⟩ := hv
  subst e0
  subst e1
  rw [hQ]
  exact r_iret (pc := 15) fx hh (dOk_at dX6_copy 9 rfl)
set_option maxRecDepth 100000 in
set_option maxHeartbeats 4000000 in
theorem wk_X6_copy_n1 (l : Launch) (G : GT) (b0 : Nat) (bs : Nat) (x0 : Nat) (d0 : Nat) (r0 : Nat) (i0 : Nat) (c0 : Nat) (j0 : Nat) (e0 : Nat) (lf : Int32) (tr : Int32) (sh : Nat → Option Nat) (k : Int32) (i : Int32) (other : Int32) (j : Int32) (n : Int32) (u0 : Nat) (R : Int32) (t0_8 : Int32) (h_X6_copyNumbers_n1 : K_X6_copyNumbers_n1 l G) (h_X6_keepFault : K_X6_keepFault l G)
    (hv : s_shAt sh k = none ∧ s_shAt sh other = some u0 ∧ (s_in k 0 3 = 0 ∨ vp_in k 4) ∧ (s_in other 0 3 = 0 ∨ vp_in other 4) ∧ ((-1 : Int32) = R ∧ (x_kf (-1)) = t0_8)) :
    MF l G yX6_copy cX6_copy 6 (some .int) rm_X6_copy [.ref b0, .int k, .int i, .int other, .int j, .int n] [(b0, .inr (6, [.ref bs, .ref x0, .ref d0, .ref r0, .ref i0, .ref c0, .ref j0, .ref e0, .int lf, .int tr])), (bs, .inl (G.2.2.2, 4, .inr (.inr (.inr (.inr sh)))))] (some (.int R)) [(b0, .inr (6, [.ref bs, .ref x0, .ref d0, .ref r0, .ref i0, .ref c0, .ref j0, .ref e0, .int t0_8, .int tr])), (bs, .inl (G.2.2.2, 4, .inr (.inr (.inr (.inr sh)))))] := by
  refine MF.of (by decide +kernel) (Nat.le_of_ble_eq_true rfl) ?_
  intro p e s m args below meth c A ls fx hh hl _
  have hx := fx.hx
  have hb := fx.hb
  have hl : lv_has ls 6 [(0, .ref b0), (1, .int k), (2, .int i), (3, .int other), (4, .int j), (5, .int n)] := hl
  obtain ⟨Q, hQ⟩ : ∃ Q, Q = ZZ G A (some (.int R)) [(b0, .inr (6, [.ref bs, .ref x0, .ref d0, .ref r0, .ref i0, .ref c0, .ref j0, .ref e0, .int t0_8, .int tr])), (bs, .inl (G.2.2.2, 4, .inr (.inr (.inr (.inr sh)))))] below args s := ⟨_, rfl⟩
  rw [← hQ]
  refine lv_aload_n (pc := 0) hx hb (dOk_at dX6_copy 0 rfl) rfl (lv_at hl 0 rfl) ?_
  refine lv_aload_n (pc := 1) hx hb (dOk_at dX6_copy 1 rfl) rfl (lv_at hl 0 rfl) ?_
  refine lv_iload_n (pc := 2) hx hb (dOk_at dX6_copy 2 rfl) rfl (lv_at hl 1 rfl) ?_
  refine lv_iload_n (pc := 3) hx hb (dOk_at dX6_copy 3 rfl) rfl (lv_at hl 2 rfl) ?_
  refine lv_iload_n (pc := 4) hx hb (dOk_at dX6_copy 4 rfl) rfl (lv_at hl 3 rfl) ?_
  refine lv_iload (pc := 5) hx hb (dOk_at dX6_copy 5 rfl) (lv_at hl 4 rfl) ?_
  refine lv_iload (pc := 7) hx hb (dOk_at dX6_copy 6 rfl) (lv_at hl 5 rfl) ?_
  refine cl_V (pc := 9) (w' := [(b0, .inr (6, [.ref bs, .ref x0, .ref d0, .ref r0, .ref i0, .ref c0, .ref j0, .ref e0, .int lf, .int tr])), (bs, .inl (G.2.2.2, 4, .inr (.inr (.inr (.inr sh)))))]) (wr := []) (rest := [.ref b0]) fx hh hl.1 (h_X6_copyNumbers_n1 b0 bs x0 d0 r0 i0 c0 j0 e0 lf tr sh k i other j n u0 hv.1 hv.2.1 hv.2.2.1 hv.2.2.2.1) yV_X6_copyNumbers tMX6_203 ⟨rfl, rfl, Nat.le_of_ble_eq_true rfl, Nat.le_of_ble_eq_true rfl⟩ 0 6 rfl rfl rfl [0, 1] [] [0, 1] rfl rfl rfl (by decide) (by decide) rfl rfl (Nat.le_of_ble_eq_true rfl) ⟨Nat.le_of_ble_eq_true rfl, Nat.le_of_ble_eq_true rfl⟩ (dOk_at dX6_copy 7 rfl) (fun H locs hh => ?_)
  have hv := hv.2.2.2.2
  refine cl_V (pc := 12) (w' := [(b0, .inr (6, [.ref bs, .ref x0, .ref d0, .ref r0, .ref i0, .ref c0, .ref j0, .ref e0, .int (x_kf (-1)), .int tr])), (bs, .inl (G.2.2.2, 4, .inr (.inr (.inr (.inr sh)))))]) (wr := [(bs, .inl (G.2.2.2, 4, .inr (.inr (.inr (.inr sh)))))]) (rest := []) fx hh hl.1 (h_X6_keepFault b0 bs x0 d0 r0 i0 c0 j0 e0 lf tr (-1)) yV_X6_keepFault tMX6_70 ⟨rfl, rfl, Nat.le_of_ble_eq_true rfl, Nat.le_of_ble_eq_true rfl⟩ 0 6 rfl rfl rfl [0] [1] [1, 0] rfl rfl rfl (by decide) (by decide) rfl rfl (Nat.le_of_ble_eq_true rfl) ⟨Nat.le_of_ble_eq_true rfl, Nat.le_of_ble_eq_true rfl⟩ (dOk_at dX6_copy 8 rfl) (fun H locs hh => ?_)
  obtain ⟨e0, e1⟩ := hv
  subst e0
  subst e1
  rw [hQ]
  exact r_iret (pc := 15) fx hh (dOk_at dX6_copy 9 rfl)
set_option maxRecDepth 100000 in
set_option maxHeartbeats 4000000 in
theorem wk_X6_copy_n2 (l : Launch) (G : GT) (b0 : Nat) (bs : Nat) (x0 : Nat) (d0 : Nat) (r0 : Nat) (i0 : Nat) (c0 : Nat) (j0 : Nat) (e0 : Nat) (lf : Int32) (tr : Int32) (sh : Nat → Option Nat) (k : Int32) (i : Int32) (other : Int32) (j : Int32) (n : Int32) (s0 : Nat) (R : Int32) (t0_8 : Int32) (h_X6_copyNumbers_n2 : K_X6_copyNumbers_n2 l G) (h_X6_keepFault : K_X6_keepFault l G)
    (hv : s_shAt sh k = some s0 ∧ s_shAt sh other = none ∧ (s_in k 0 3 = 0 ∨ vp_in k 4) ∧ (s_in other 0 3 = 0 ∨ vp_in other 4) ∧ ((-1 : Int32) = R ∧ (x_kf (-1)) = t0_8)) :
    MF l G yX6_copy cX6_copy 6 (some .int) rm_X6_copy [.ref b0, .int k, .int i, .int other, .int j, .int n] [(b0, .inr (6, [.ref bs, .ref x0, .ref d0, .ref r0, .ref i0, .ref c0, .ref j0, .ref e0, .int lf, .int tr])), (bs, .inl (G.2.2.2, 4, .inr (.inr (.inr (.inr sh)))))] (some (.int R)) [(b0, .inr (6, [.ref bs, .ref x0, .ref d0, .ref r0, .ref i0, .ref c0, .ref j0, .ref e0, .int t0_8, .int tr])), (bs, .inl (G.2.2.2, 4, .inr (.inr (.inr (.inr sh)))))] := by
  refine MF.of (by decide +kernel) (Nat.le_of_ble_eq_true rfl) ?_
  intro p e s m args below meth c A ls fx hh hl _
  have hx := fx.hx
  have hb := fx.hb
  have hl : lv_has ls 6 [(0, .ref b0), (1, .int k), (2, .int i), (3, .int other), (4, .int j), (5, .int n)] := hl
  obtain ⟨Q, hQ⟩ : ∃ Q, Q = ZZ G A (some (.int R)) [(b0, .inr (6, [.ref bs, .ref x0, .ref d0, .ref r0, .ref i0, .ref c0, .ref j0, .ref e0, .int t0_8, .int tr])), (bs, .inl (G.2.2.2, 4, .inr (.inr (.inr (.inr sh)))))] below args s := ⟨_, rfl⟩
  rw [← hQ]
  refine lv_aload_n (pc := 0) hx hb (dOk_at dX6_copy 0 rfl) rfl (lv_at hl 0 rfl) ?_
  refine lv_aload_n (pc := 1) hx hb (dOk_at dX6_copy 1 rfl) rfl (lv_at hl 0 rfl) ?_
  refine lv_iload_n (pc := 2) hx hb (dOk_at dX6_copy 2 rfl) rfl (lv_at hl 1 rfl) ?_
  refine lv_iload_n (pc := 3) hx hb (dOk_at dX6_copy 3 rfl) rfl (lv_at hl 2 rfl) ?_
  refine lv_iload_n (pc := 4) hx hb (dOk_at dX6_copy 4 rfl) rfl (lv_at hl 3 rfl) ?_
  refine lv_iload (pc := 5) hx hb (dOk_at dX6_copy 5 rfl) (lv_at hl 4 rfl) ?_
  refine lv_iload (pc := 7) hx hb (dOk_at dX6_copy 6 rfl) (lv_at hl 5 rfl) ?_
  refine cl_V (pc := 9) (w' := [(b0, .inr (6, [.ref bs, .ref x0, .ref d0, .ref r0, .ref i0, .ref c0, .ref j0, .ref e0, .int lf, .int tr])), (bs, .inl (G.2.2.2, 4, .inr (.inr (.inr (.inr sh)))))]) (wr := []) (rest := [.ref b0]) fx hh hl.1 (h_X6_copyNumbers_n2 b0 bs x0 d0 r0 i0 c0 j0 e0 lf tr sh k i other j n s0 hv.1 hv.2.1 hv.2.2.1 hv.2.2.2.1) yV_X6_copyNumbers tMX6_203 ⟨rfl, rfl, Nat.le_of_ble_eq_true rfl, Nat.le_of_ble_eq_true rfl⟩ 0 6 rfl rfl rfl [0, 1] [] [0, 1] rfl rfl rfl (by decide) (by decide) rfl rfl (Nat.le_of_ble_eq_true rfl) ⟨Nat.le_of_ble_eq_true rfl, Nat.le_of_ble_eq_true rfl⟩ (dOk_at dX6_copy 7 rfl) (fun H locs hh => ?_)
  have hv := hv.2.2.2.2
  refine cl_V (pc := 12) (w' := [(b0, .inr (6, [.ref bs, .ref x0, .ref d0, .ref r0, .ref i0, .ref c0, .ref j0, .ref e0, .int (x_kf (-1)), .int tr])), (bs, .inl (G.2.2.2, 4, .inr (.inr (.inr (.inr sh)))))]) (wr := [(bs, .inl (G.2.2.2, 4, .inr (.inr (.inr (.inr sh)))))]) (rest := []) fx hh hl.1 (h_X6_keepFault b0 bs x0 d0 r0 i0 c0 j0 e0 lf tr (-1)) yV_X6_keepFault tMX6_70 ⟨rfl, rfl, Nat.le_of_ble_eq_true rfl, Nat.le_of_ble_eq_true rfl⟩ 0 6 rfl rfl rfl [0] [1] [1, 0] rfl rfl rfl (by decide) (by decide) rfl rfl (Nat.le_of_ble_eq_true rfl) ⟨Nat.le_of_ble_eq_true rfl, Nat.le_of_ble_eq_true rfl⟩ (dOk_at dX6_copy 8 rfl) (fun H locs hh => ?_)
  obtain ⟨e0, e1⟩ := hv
  subst e0
  subst e1
  rw [hQ]
  exact r_iret (pc := 15) fx hh (dOk_at dX6_copy 9 rfl)
set_option maxRecDepth 100000 in
set_option maxHeartbeats 4000000 in
theorem wk_X6_tell (l : Launch) (G : GT) (b0 : Nat) (c0 : Nat) (c1 : Nat) (c2 : Nat) (bs : Nat) (x0 : Nat) (d0 : Nat) (r0 : Nat) (i0 : Nat) (j0 : Nat) (e0 : Nat) (lf : Int32) (tr : Int32) (cnt : Int32) (ck : Nat → Int32) (cwt : Nat → Int32) (a : Int32) (R : Int32) (t0_9 : Int32) (h_X0_has : K_X0_has l G) (h_X6_bankerGives : K_X6_bankerGives l G) (h_X6_clerkGives : K_X6_clerkGives l G) (h_X6_skaterGives : K_X6_skaterGives l G)
    (hv : (¬ (s_sk cnt a) = 0 → vp_in a 4 ∧ (vp_in a 4 ∧ (((ck a.toNatClampNeg) = 1 → ((cwt a.toNatClampNeg) + 100) = R ∧ (31 * (31 * tr + 2) + 1) = t0_9) ∧ (¬ (ck a.toNatClampNeg) = 1 → ((ck a.toNatClampNeg) = 2 → ((cwt a.toNatClampNeg) + 100 + (cwt a.toNatClampNeg)) = R ∧ (31 * (31 * (31 * (31 * tr + 3) + 2) + 1) + 1) = t0_9) ∧ (¬ (ck a.toNatClampNeg) = 2 → (cwt a.toNatClampNeg) = R ∧ (31 * tr + 1) = t0_9))))) ∧ ((s_sk cnt a) = 0 → (-1 : Int32) = R ∧ tr = t0_9)) :
    MF l G yX6_tell cX6_tell 3 (some .int) rm_X6_tell [.ref b0, .int a] [(b0, .inr (6, [.ref bs, .ref x0, .ref d0, .ref r0, .ref i0, .ref c0, .ref j0, .ref e0, .int lf, .int tr])), (c0, .inr (0, [.ref c1, .ref c2, .int cnt])), (c1, .inl (G.2.1, 4, .inl ck)), (c2, .inl (G.2.1, 4, .inl cwt))] (some (.int R)) [(b0, .inr (6, [.ref bs, .ref x0, .ref d0, .ref r0, .ref i0, .ref c0, .ref j0, .ref e0, .int lf, .int t0_9])), (c0, .inr (0, [.ref c1, .ref c2, .int cnt])), (c1, .inl (G.2.1, 4, .inl ck)), (c2, .inl (G.2.1, 4, .inl cwt))] := by
  refine MF.of (by decide +kernel) (Nat.le_of_ble_eq_true rfl) ?_
  intro p e s m args below meth c A ls fx hh hl _
  have hx := fx.hx
  have hb := fx.hb
  have hl : lv_has ls 3 [(0, .ref b0), (1, .int a)] := hl
  obtain ⟨Q, hQ⟩ : ∃ Q, Q = ZZ G A (some (.int R)) [(b0, .inr (6, [.ref bs, .ref x0, .ref d0, .ref r0, .ref i0, .ref c0, .ref j0, .ref e0, .int lf, .int t0_9])), (c0, .inr (0, [.ref c1, .ref c2, .int cnt])), (c1, .inl (G.2.1, 4, .inl ck)), (c2, .inl (G.2.1, 4, .inl cwt))] below args s := ⟨_, rfl⟩
  rw [← hQ]
  refine lv_aload_n (pc := 0) hx hb (dOk_at dX6_tell 0 rfl) rfl (lv_at hl 0 rfl) ?_
  refine r_get (pc := 1) (ci := 6) fx hh inT6 rfl 5 (by decide) tFX6_48 rfl 0 rfl rfl (dOk_at dX6_tell 1 rfl) ?_
  refine lv_iload_n (pc := 4) hx hb (dOk_at dX6_tell 2 rfl) rfl (lv_at hl 1 rfl) ?_
  refine cl_VN (pc := 5) (w' := [(b0, .inr (6, [.ref bs, .ref x0, .ref d0, .ref r0, .ref i0, .ref c0, .ref j0, .ref e0, .int lf, .int tr])), (c0, .inr (0, [.ref c1, .ref c2, .int cnt])), (c1, .inl (G.2.1, 4, .inl ck)), (c2, .inl (G.2.1, 4, .inl cwt))]) (wr := [(b0, .inr (6, [.ref bs, .ref x0, .ref d0, .ref r0, .ref i0, .ref c0, .ref j0, .ref e0, .int lf, .int tr])), (c1, .inl (G.2.1, 4, .inl ck)), (c2, .inl (G.2.1, 4, .inl cwt))]) (rest := []) fx hh hl.1 (h_X0_has c0 c1 c2 cnt a) yV_X0_has nMX6_74 ⟨rfl, rfl, Nat.le_of_ble_eq_true rfl, Nat.le_of_ble_eq_true rfl⟩ 1 0 rfl rfl rfl [1] [0, 2, 3] [0, 3, 1, 2] rfl rfl rfl (by decide) (by decide) rfl rfl (Nat.le_of_ble_eq_true rfl) ⟨Nat.le_of_ble_eq_true rfl, Nat.le_of_ble_eq_true rfl⟩ (dOk_at dX6_tell 3 rfl) (fun H locs hh => ?_)
  refine lv_if_ne (pc := 8) (tgt := 13) hx hb (dOk_at dX6_tell 4 rfl) (by decide) (fun c8 => ?_) (fun c8 => ?_)
  · have hv := hv.1 c8
    refine lv_aload_n (pc := 13) hx hb (dOk_at dX6_tell 7 rfl) rfl (lv_at hl 0 rfl) ?_
    refine r_get (pc := 14) (ci := 6) fx hh inT6 rfl 5 (by decide) tFX6_48 rfl 0 rfl rfl (dOk_at dX6_tell 8 rfl) ?_
    refine r_getN (pc := 17) (ci := 0) fx hh inT0 rfl 1 (by decide) nFX6_82 rfl 1 rfl rfl (dOk_at dX6_tell 9 rfl) ?_
    refine lv_iload_n (pc := 20) hx hb (dOk_at dX6_tell 10 rfl) rfl (lv_at hl 1 rfl) ?_
    refine r_iald (pc := 21) fx hh 3 rfl hv.1 (dOk_at dX6_tell 11 rfl) ?_
    have hv := hv.2
    refine lv_istore_n (pc := 22) (lv' := [(2, .int (cwt a.toNatClampNeg)), (0, .ref b0), (1, .int a)]) hx hb (dOk_at dX6_tell 12 rfl) rfl hl (by decide) rfl (fun ls hl => ?_)
    refine lv_aload_n (pc := 23) hx hb (dOk_at dX6_tell 13 rfl) rfl (lv_at hl 1 rfl) ?_
    refine r_get (pc := 24) (ci := 6) fx hh inT6 rfl 5 (by decide) tFX6_48 rfl 0 rfl rfl (dOk_at dX6_tell 14 rfl) ?_
    refine r_getN (pc := 27) (ci := 0) fx hh inT0 rfl 0 (by decide) nFX6_78 rfl 1 rfl rfl (dOk_at dX6_tell 15 rfl) ?_
    refine lv_iload_n (pc := 30) hx hb (dOk_at dX6_tell 16 rfl) rfl (lv_at hl 2 rfl) ?_
    refine r_iald (pc := 31) fx hh 2 rfl hv.1 (dOk_at dX6_tell 17 rfl) ?_
    have hv := hv.2
    by_cases c32_0 : (ck a.toNatClampNeg) = 1
    · refine lv_lookup (pc := 32) (tgt := 66) (off := 34) hx hb (dOk_at dX6_tell 18 rfl) (by decide) (by rw [c32_0]; decide) (by decide) ?_
      have hv := hv.1 c32_0
      refine lv_aload_n (pc := 66) hx hb (dOk_at dX6_tell 23 rfl) rfl (lv_at hl 1 rfl) ?_
      refine lv_iload_n (pc := 67) hx hb (dOk_at dX6_tell 24 rfl) rfl (lv_at hl 0 rfl) ?_
      refine cl_V (pc := 68) (w' := [(b0, .inr (6, [.ref bs, .ref x0, .ref d0, .ref r0, .ref i0, .ref c0, .ref j0, .ref e0, .int lf, .int (31 * (31 * tr + 2) + 1)])), (c0, .inr (0, [.ref c1, .ref c2, .int cnt])), (c1, .inl (G.2.1, 4, .inl ck)), (c2, .inl (G.2.1, 4, .inl cwt))]) (wr := [(c0, .inr (0, [.ref c1, .ref c2, .int cnt])), (c1, .inl (G.2.1, 4, .inl ck)), (c2, .inl (G.2.1, 4, .inl cwt))]) (rest := []) fx hh hl.1 (h_X6_clerkGives b0 bs x0 d0 r0 i0 c0 j0 e0 lf tr (cwt a.toNatClampNeg)) yV_X6_clerkGives tMX6_209 ⟨rfl, rfl, Nat.le_of_ble_eq_true rfl, Nat.le_of_ble_eq_true rfl⟩ 0 6 rfl rfl rfl [0] [1, 2, 3] [3, 0, 1, 2] rfl rfl rfl (by decide) (by decide) rfl rfl (Nat.le_of_ble_eq_true rfl) ⟨Nat.le_of_ble_eq_true rfl, Nat.le_of_ble_eq_true rfl⟩ (dOk_at dX6_tell 25 rfl) (fun H locs hh => ?_)
      obtain ⟨e0, e1⟩ := hv
      subst e0
      subst e1
      rw [hQ]
      exact r_iret (pc := 71) fx hh (dOk_at dX6_tell 26 rfl)
    · have hv := hv.2 c32_0
      by_cases c32_1 : (ck a.toNatClampNeg) = 2
      · refine lv_lookup (pc := 32) (tgt := 60) (off := 28) hx hb (dOk_at dX6_tell 18 rfl) (by decide) (by rw [c32_1]; decide) (by decide) ?_
        have hv := hv.1 c32_1
        refine lv_aload_n (pc := 60) hx hb (dOk_at dX6_tell 19 rfl) rfl (lv_at hl 1 rfl) ?_
        refine lv_iload_n (pc := 61) hx hb (dOk_at dX6_tell 20 rfl) rfl (lv_at hl 0 rfl) ?_
        refine cl_V (pc := 62) (w' := [(b0, .inr (6, [.ref bs, .ref x0, .ref d0, .ref r0, .ref i0, .ref c0, .ref j0, .ref e0, .int lf, .int (31 * (31 * (31 * (31 * tr + 3) + 2) + 1) + 1)])), (c0, .inr (0, [.ref c1, .ref c2, .int cnt])), (c1, .inl (G.2.1, 4, .inl ck)), (c2, .inl (G.2.1, 4, .inl cwt))]) (wr := [(c0, .inr (0, [.ref c1, .ref c2, .int cnt])), (c1, .inl (G.2.1, 4, .inl ck)), (c2, .inl (G.2.1, 4, .inl cwt))]) (rest := []) fx hh hl.1 (h_X6_bankerGives b0 bs x0 d0 r0 i0 c0 j0 e0 lf tr (cwt a.toNatClampNeg)) yV_X6_bankerGives tMX6_206 ⟨rfl, rfl, Nat.le_of_ble_eq_true rfl, Nat.le_of_ble_eq_true rfl⟩ 0 6 rfl rfl rfl [0] [1, 2, 3] [3, 0, 1, 2] rfl rfl rfl (by decide) (by decide) rfl rfl (Nat.le_of_ble_eq_true rfl) ⟨Nat.le_of_ble_eq_true rfl, Nat.le_of_ble_eq_true rfl⟩ (dOk_at dX6_tell 21 rfl) (fun H locs hh => ?_)
        obtain ⟨e0, e1⟩ := hv
        subst e0
        subst e1
        rw [hQ]
        exact r_iret (pc := 65) fx hh (dOk_at dX6_tell 22 rfl)
      · have hv := hv.2 c32_1
        refine lv_lookup (pc := 32) (tgt := 72) (off := 40) hx hb (dOk_at dX6_tell 18 rfl) (by decide) (by have w0 := sw_ne c32_0 (b := 1) (by decide); have w1 := sw_ne c32_1 (b := 2) (by decide); exact sw_look2 w0 w1) (by decide) ?_
        refine lv_aload_n (pc := 72) hx hb (dOk_at dX6_tell 27 rfl) rfl (lv_at hl 1 rfl) ?_
        refine lv_iload_n (pc := 73) hx hb (dOk_at dX6_tell 28 rfl) rfl (lv_at hl 0 rfl) ?_
        refine cl_V (pc := 74) (w' := [(b0, .inr (6, [.ref bs, .ref x0, .ref d0, .ref r0, .ref i0, .ref c0, .ref j0, .ref e0, .int lf, .int (31 * tr + 1)])), (c0, .inr (0, [.ref c1, .ref c2, .int cnt])), (c1, .inl (G.2.1, 4, .inl ck)), (c2, .inl (G.2.1, 4, .inl cwt))]) (wr := [(c0, .inr (0, [.ref c1, .ref c2, .int cnt])), (c1, .inl (G.2.1, 4, .inl ck)), (c2, .inl (G.2.1, 4, .inl cwt))]) (rest := []) fx hh hl.1 (h_X6_skaterGives b0 bs x0 d0 r0 i0 c0 j0 e0 lf tr (cwt a.toNatClampNeg)) yV_X6_skaterGives tMX6_212 ⟨rfl, rfl, Nat.le_of_ble_eq_true rfl, Nat.le_of_ble_eq_true rfl⟩ 0 6 rfl rfl rfl [0] [1, 2, 3] [3, 0, 1, 2] rfl rfl rfl (by decide) (by decide) rfl rfl (Nat.le_of_ble_eq_true rfl) ⟨Nat.le_of_ble_eq_true rfl, Nat.le_of_ble_eq_true rfl⟩ (dOk_at dX6_tell 29 rfl) (fun H locs hh => ?_)
        obtain ⟨e0, e1⟩ := hv
        subst e0
        subst e1
        rw [hQ]
        exact r_iret (pc := 77) fx hh (dOk_at dX6_tell 30 rfl)
  · have hv := hv.2 c8
    refine lv_iconst (pc := 11) (v := (-1)) hx hb (dOk_at dX6_tell 5 rfl) (by decide) ?_
    obtain ⟨e0, e1⟩ := hv
    subst e0
    subst e1
    rw [hQ]
    exact r_iret (pc := 12) fx hh (dOk_at dX6_tell 6 rfl)
set_option maxRecDepth 100000 in
set_option maxHeartbeats 4000000 in
theorem wk_X6_signed (l : Launch) (G : GT) (b0 : Nat) (c0 : Nat) (c1 : Nat) (c2 : Nat) (bs : Nat) (x0 : Nat) (d0 : Nat) (r0 : Nat) (i0 : Nat) (j0 : Nat) (e0 : Nat) (lf : Int32) (tr : Int32) (cnt : Int32) (ck : Nat → Int32) (cwt : Nat → Int32) (a : Int32) (R : Int32) (t0_9 : Int32) (h_X0_has : K_X0_has l G) (h_X6_leave : K_X6_leave l G)
    (hv : (¬ (s_sk cnt a) = 0 → vp_in a 4 ∧ ((¬ (ck a.toNatClampNeg) = 2 → a = R ∧ (31 * tr + 4) = t0_9) ∧ ((ck a.toNatClampNeg) = 2 → (60 : Int32) = R ∧ (31 * tr + 5) = t0_9))) ∧ ((s_sk cnt a) = 0 → (-1 : Int32) = R ∧ tr = t0_9)) :
    MF l G yX6_signed cX6_signed 2 (some .int) rm_X6_signed [.ref b0, .int a] [(b0, .inr (6, [.ref bs, .ref x0, .ref d0, .ref r0, .ref i0, .ref c0, .ref j0, .ref e0, .int lf, .int tr])), (c0, .inr (0, [.ref c1, .ref c2, .int cnt])), (c1, .inl (G.2.1, 4, .inl ck)), (c2, .inl (G.2.1, 4, .inl cwt))] (some (.int R)) [(b0, .inr (6, [.ref bs, .ref x0, .ref d0, .ref r0, .ref i0, .ref c0, .ref j0, .ref e0, .int lf, .int t0_9])), (c0, .inr (0, [.ref c1, .ref c2, .int cnt])), (c1, .inl (G.2.1, 4, .inl ck)), (c2, .inl (G.2.1, 4, .inl cwt))] := by
  refine MF.of (by decide +kernel) (Nat.le_of_ble_eq_true rfl) ?_
  intro p e s m args below meth c A ls fx hh hl _
  have hx := fx.hx
  have hb := fx.hb
  have hl : lv_has ls 2 [(0, .ref b0), (1, .int a)] := hl
  obtain ⟨Q, hQ⟩ : ∃ Q, Q = ZZ G A (some (.int R)) [(b0, .inr (6, [.ref bs, .ref x0, .ref d0, .ref r0, .ref i0, .ref c0, .ref j0, .ref e0, .int lf, .int t0_9])), (c0, .inr (0, [.ref c1, .ref c2, .int cnt])), (c1, .inl (G.2.1, 4, .inl ck)), (c2, .inl (G.2.1, 4, .inl cwt))] below args s := ⟨_, rfl⟩
  rw [← hQ]
  refine lv_aload_n (pc := 0) hx hb (dOk_at dX6_signed 0 rfl) rfl (lv_at hl 0 rfl) ?_
  refine r_get (pc := 1) (ci := 6) fx hh inT6 rfl 5 (by decide) tFX6_48 rfl 0 rfl rfl (dOk_at dX6_signed 1 rfl) ?_
  refine lv_iload_n (pc := 4) hx hb (dOk_at dX6_signed 2 rfl) rfl (lv_at hl 1 rfl) ?_
  refine cl_VN (pc := 5) (w' := [(b0, .inr (6, [.ref bs, .ref x0, .ref d0, .ref r0, .ref i0, .ref c0, .ref j0, .ref e0, .int lf, .int tr])), (c0, .inr (0, [.ref c1, .ref c2, .int cnt])), (c1, .inl (G.2.1, 4, .inl ck)), (c2, .inl (G.2.1, 4, .inl cwt))]) (wr := [(b0, .inr (6, [.ref bs, .ref x0, .ref d0, .ref r0, .ref i0, .ref c0, .ref j0, .ref e0, .int lf, .int tr])), (c1, .inl (G.2.1, 4, .inl ck)), (c2, .inl (G.2.1, 4, .inl cwt))]) (rest := []) fx hh hl.1 (h_X0_has c0 c1 c2 cnt a) yV_X0_has nMX6_74 ⟨rfl, rfl, Nat.le_of_ble_eq_true rfl, Nat.le_of_ble_eq_true rfl⟩ 1 0 rfl rfl rfl [1] [0, 2, 3] [0, 3, 1, 2] rfl rfl rfl (by decide) (by decide) rfl rfl (Nat.le_of_ble_eq_true rfl) ⟨Nat.le_of_ble_eq_true rfl, Nat.le_of_ble_eq_true rfl⟩ (dOk_at dX6_signed 3 rfl) (fun H locs hh => ?_)
  refine lv_if_ne (pc := 8) (tgt := 13) hx hb (dOk_at dX6_signed 4 rfl) (by decide) (fun c8 => ?_) (fun c8 => ?_)
  · have hv := hv.1 c8
    refine lv_aload_n (pc := 13) hx hb (dOk_at dX6_signed 7 rfl) rfl (lv_at hl 0 rfl) ?_
    refine r_get (pc := 14) (ci := 6) fx hh inT6 rfl 5 (by decide) tFX6_48 rfl 0 rfl rfl (dOk_at dX6_signed 8 rfl) ?_
    refine r_getN (pc := 17) (ci := 0) fx hh inT0 rfl 0 (by decide) nFX6_78 rfl 1 rfl rfl (dOk_at dX6_signed 9 rfl) ?_
    refine lv_iload_n (pc := 20) hx hb (dOk_at dX6_signed 10 rfl) rfl (lv_at hl 1 rfl) ?_
    refine r_iald (pc := 21) fx hh 2 rfl hv.1 (dOk_at dX6_signed 11 rfl) ?_
    have hv := hv.2
    refine lv_iconst (pc := 22) (v := 2) hx hb (dOk_at dX6_signed 12 rfl) (by decide) ?_
    refine lv_icmp_ne (pc := 23) (tgt := 34) hx hb (dOk_at dX6_signed 13 rfl) (by decide) (fun c23 => ?_) (fun c23 => ?_)
    · have hv := hv.1 c23
      refine lv_aload_n (pc := 34) hx hb (dOk_at dX6_signed 19 rfl) rfl (lv_at hl 0 rfl) ?_
      refine lv_iconst (pc := 35) (v := 4) hx hb (dOk_at dX6_signed 20 rfl) (by decide) ?_
      refine cl_V (pc := 36) (w' := [(b0, .inr (6, [.ref bs, .ref x0, .ref d0, .ref r0, .ref i0, .ref c0, .ref j0, .ref e0, .int lf, .int (31 * tr + 4)])), (c0, .inr (0, [.ref c1, .ref c2, .int cnt])), (c1, .inl (G.2.1, 4, .inl ck)), (c2, .inl (G.2.1, 4, .inl cwt))]) (wr := [(c0, .inr (0, [.ref c1, .ref c2, .int cnt])), (c1, .inl (G.2.1, 4, .inl ck)), (c2, .inl (G.2.1, 4, .inl cwt))]) (rest := []) fx hh hl.1 (h_X6_leave b0 bs x0 d0 r0 i0 c0 j0 e0 lf tr 4) yV_X6_leave tMX6_215 ⟨rfl, rfl, Nat.le_of_ble_eq_true rfl, Nat.le_of_ble_eq_true rfl⟩ 0 6 rfl rfl rfl [0] [1, 2, 3] [3, 0, 1, 2] rfl rfl rfl (by decide) (by decide) rfl rfl (Nat.le_of_ble_eq_true rfl) ⟨Nat.le_of_ble_eq_true rfl, Nat.le_of_ble_eq_true rfl⟩ (dOk_at dX6_signed 21 rfl) (fun H locs hh => ?_)
      refine lv_iload_n (pc := 39) hx hb (dOk_at dX6_signed 22 rfl) rfl (lv_at hl 1 rfl) ?_
      obtain ⟨e0, e1⟩ := hv
      subst e0
      subst e1
      rw [hQ]
      exact r_iret (pc := 40) fx hh (dOk_at dX6_signed 23 rfl)
    · have hv := hv.2 c23
      refine lv_aload_n (pc := 26) hx hb (dOk_at dX6_signed 14 rfl) rfl (lv_at hl 0 rfl) ?_
      refine lv_iconst (pc := 27) (v := 5) hx hb (dOk_at dX6_signed 15 rfl) (by decide) ?_
      refine cl_V (pc := 28) (w' := [(b0, .inr (6, [.ref bs, .ref x0, .ref d0, .ref r0, .ref i0, .ref c0, .ref j0, .ref e0, .int lf, .int (31 * tr + 5)])), (c0, .inr (0, [.ref c1, .ref c2, .int cnt])), (c1, .inl (G.2.1, 4, .inl ck)), (c2, .inl (G.2.1, 4, .inl cwt))]) (wr := [(c0, .inr (0, [.ref c1, .ref c2, .int cnt])), (c1, .inl (G.2.1, 4, .inl ck)), (c2, .inl (G.2.1, 4, .inl cwt))]) (rest := []) fx hh hl.1 (h_X6_leave b0 bs x0 d0 r0 i0 c0 j0 e0 lf tr 5) yV_X6_leave tMX6_215 ⟨rfl, rfl, Nat.le_of_ble_eq_true rfl, Nat.le_of_ble_eq_true rfl⟩ 0 6 rfl rfl rfl [0] [1, 2, 3] [3, 0, 1, 2] rfl rfl rfl (by decide) (by decide) rfl rfl (Nat.le_of_ble_eq_true rfl) ⟨Nat.le_of_ble_eq_true rfl, Nat.le_of_ble_eq_true rfl⟩ (dOk_at dX6_signed 16 rfl) (fun H locs hh => ?_)
      refine lv_bipush (pc := 31) (v := 60) hx hb (dOk_at dX6_signed 17 rfl) (by decide) ?_
      obtain ⟨e0, e1⟩ := hv
      subst e0
      subst e1
      rw [hQ]
      exact r_iret (pc := 33) fx hh (dOk_at dX6_signed 18 rfl)
  · have hv := hv.2 c8
    refine lv_iconst (pc := 11) (v := (-1)) hx hb (dOk_at dX6_signed 5 rfl) (by decide) ?_
    obtain ⟨e0, e1⟩ := hv
    subst e0
    subst e1
    rw [hQ]
    exact r_iret (pc := 12) fx hh (dOk_at dX6_signed 6 rfl)
set_option maxRecDepth 100000 in
set_option maxHeartbeats 4000000 in
theorem wk_X6_as (l : Launch) (G : GT) (b0 : Nat) (c0 : Nat) (c1 : Nat) (c2 : Nat) (bs : Nat) (x0 : Nat) (d0 : Nat) (r0 : Nat) (i0 : Nat) (j0 : Nat) (e0 : Nat) (lf : Int32) (tr : Int32) (cnt : Int32) (ck : Nat → Int32) (cwt : Nat → Int32) (a : Int32) (kind : Int32) (R : Int32) (t0_8 : Int32) (h_X6_keepFault : K_X6_keepFault l G) (h_X6_takeAs : K_X6_takeAs l G)
    (hv : okN cnt ∧ ((x_asR cnt ck a kind) = R ∧ (x_kf (x_asR cnt ck a kind)) = t0_8)) :
    MF l G yX6_as cX6_as 3 (some .int) rm_X6_as [.ref b0, .int a, .int kind] [(b0, .inr (6, [.ref bs, .ref x0, .ref d0, .ref r0, .ref i0, .ref c0, .ref j0, .ref e0, .int lf, .int tr])), (c0, .inr (0, [.ref c1, .ref c2, .int cnt])), (c1, .inl (G.2.1, 4, .inl ck)), (c2, .inl (G.2.1, 4, .inl cwt))] (some (.int R)) [(b0, .inr (6, [.ref bs, .ref x0, .ref d0, .ref r0, .ref i0, .ref c0, .ref j0, .ref e0, .int t0_8, .int tr])), (c0, .inr (0, [.ref c1, .ref c2, .int cnt])), (c1, .inl (G.2.1, 4, .inl ck)), (c2, .inl (G.2.1, 4, .inl cwt))] := by
  refine MF.of (by decide +kernel) (Nat.le_of_ble_eq_true rfl) ?_
  intro p e s m args below meth c A ls fx hh hl _
  have hx := fx.hx
  have hb := fx.hb
  have hl : lv_has ls 3 [(0, .ref b0), (1, .int a), (2, .int kind)] := hl
  obtain ⟨Q, hQ⟩ : ∃ Q, Q = ZZ G A (some (.int R)) [(b0, .inr (6, [.ref bs, .ref x0, .ref d0, .ref r0, .ref i0, .ref c0, .ref j0, .ref e0, .int t0_8, .int tr])), (c0, .inr (0, [.ref c1, .ref c2, .int cnt])), (c1, .inl (G.2.1, 4, .inl ck)), (c2, .inl (G.2.1, 4, .inl cwt))] below args s := ⟨_, rfl⟩
  rw [← hQ]
  refine lv_aload_n (pc := 0) hx hb (dOk_at dX6_as 0 rfl) rfl (lv_at hl 0 rfl) ?_
  refine lv_aload_n (pc := 1) hx hb (dOk_at dX6_as 1 rfl) rfl (lv_at hl 0 rfl) ?_
  refine lv_iload_n (pc := 2) hx hb (dOk_at dX6_as 2 rfl) rfl (lv_at hl 1 rfl) ?_
  refine lv_iload_n (pc := 3) hx hb (dOk_at dX6_as 3 rfl) rfl (lv_at hl 2 rfl) ?_
  refine cl_V (pc := 4) (w' := [(b0, .inr (6, [.ref bs, .ref x0, .ref d0, .ref r0, .ref i0, .ref c0, .ref j0, .ref e0, .int lf, .int tr])), (c0, .inr (0, [.ref c1, .ref c2, .int cnt])), (c1, .inl (G.2.1, 4, .inl ck)), (c2, .inl (G.2.1, 4, .inl cwt))]) (wr := []) (rest := [.ref b0]) fx hh hl.1 (h_X6_takeAs b0 c0 c1 c2 bs x0 d0 r0 i0 j0 e0 lf tr cnt ck cwt a kind hv.1) yV_X6_takeAs tMX6_218 ⟨rfl, rfl, Nat.le_of_ble_eq_true rfl, Nat.le_of_ble_eq_true rfl⟩ 0 6 rfl rfl rfl [0, 1, 2, 3] [] [0, 1, 2, 3] rfl rfl rfl (by decide) (by decide) rfl rfl (Nat.le_of_ble_eq_true rfl) ⟨Nat.le_of_ble_eq_true rfl, Nat.le_of_ble_eq_true rfl⟩ (dOk_at dX6_as 4 rfl) (fun H locs hh => ?_)
  have hv := hv.2
  refine cl_V (pc := 7) (w' := [(b0, .inr (6, [.ref bs, .ref x0, .ref d0, .ref r0, .ref i0, .ref c0, .ref j0, .ref e0, .int (x_kf (x_asR cnt ck a kind)), .int tr])), (c0, .inr (0, [.ref c1, .ref c2, .int cnt])), (c1, .inl (G.2.1, 4, .inl ck)), (c2, .inl (G.2.1, 4, .inl cwt))]) (wr := [(c0, .inr (0, [.ref c1, .ref c2, .int cnt])), (c1, .inl (G.2.1, 4, .inl ck)), (c2, .inl (G.2.1, 4, .inl cwt))]) (rest := []) fx hh hl.1 (h_X6_keepFault b0 bs x0 d0 r0 i0 c0 j0 e0 lf tr (x_asR cnt ck a kind)) yV_X6_keepFault tMX6_70 ⟨rfl, rfl, Nat.le_of_ble_eq_true rfl, Nat.le_of_ble_eq_true rfl⟩ 0 6 rfl rfl rfl [0] [1, 2, 3] [3, 0, 1, 2] rfl rfl rfl (by decide) (by decide) rfl rfl (Nat.le_of_ble_eq_true rfl) ⟨Nat.le_of_ble_eq_true rfl, Nat.le_of_ble_eq_true rfl⟩ (dOk_at dX6_as 5 rfl) (fun H locs hh => ?_)
  obtain ⟨e0, e1⟩ := hv
  subst e0
  subst e1
  rw [hQ]
  exact r_iret (pc := 10) fx hh (dOk_at dX6_as 6 rfl)
set_option maxRecDepth 100000 in
set_option maxHeartbeats 4000000 in
theorem wk_X6_trace (l : Launch) (G : GT) (b0 : Nat) (bs : Nat) (x0 : Nat) (d0 : Nat) (r0 : Nat) (i0 : Nat) (c0 : Nat) (j0 : Nat) (e0 : Nat) (lf : Int32) (tr : Int32) (R : Int32)
    (hv : tr = R) :
    MF l G yX6_trace cX6_trace 1 (some .int) rm_X6_trace [.ref b0] [(b0, .inr (6, [.ref bs, .ref x0, .ref d0, .ref r0, .ref i0, .ref c0, .ref j0, .ref e0, .int lf, .int tr]))] (some (.int R)) [(b0, .inr (6, [.ref bs, .ref x0, .ref d0, .ref r0, .ref i0, .ref c0, .ref j0, .ref e0, .int lf, .int tr]))] := by
  refine MF.of (by decide +kernel) (Nat.le_of_ble_eq_true rfl) ?_
  intro p e s m args below meth c A ls fx hh hl _
  have hx := fx.hx
  have hb := fx.hb
  have hl : lv_has ls 1 [(0, .ref b0)] := hl
  obtain ⟨Q, hQ⟩ : ∃ Q, Q = ZZ G A (some (.int R)) [(b0, .inr (6, [.ref bs, .ref x0, .ref d0, .ref r0, .ref i0, .ref c0, .ref j0, .ref e0, .int lf, .int tr]))] below args s := ⟨_, rfl⟩
  rw [← hQ]
  refine lv_aload_n (pc := 0) hx hb (dOk_at dX6_trace 0 rfl) rfl (lv_at hl 0 rfl) ?_
  refine r_get (pc := 1) (ci := 6) fx hh inT6 rfl 9 (by decide) tFX6_62 rfl 0 rfl rfl (dOk_at dX6_trace 1 rfl) ?_
  have e0 := hv
  subst e0
  rw [hQ]
  exact r_iret (pc := 4) fx hh (dOk_at dX6_trace 2 rfl)
set_option maxRecDepth 100000 in
set_option maxHeartbeats 4000000 in
theorem wk_X6_fault (l : Launch) (G : GT) (b0 : Nat) (bs : Nat) (x0 : Nat) (d0 : Nat) (r0 : Nat) (i0 : Nat) (c0 : Nat) (j0 : Nat) (e0 : Nat) (lf : Int32) (tr : Int32) (R : Int32)
    (hv : lf = R) :
    MF l G yX6_fault cX6_fault 1 (some .int) rm_X6_fault [.ref b0] [(b0, .inr (6, [.ref bs, .ref x0, .ref d0, .ref r0, .ref i0, .ref c0, .ref j0, .ref e0, .int lf, .int tr]))] (some (.int R)) [(b0, .inr (6, [.ref bs, .ref x0, .ref d0, .ref r0, .ref i0, .ref c0, .ref j0, .ref e0, .int lf, .int tr]))] := by
  refine MF.of (by decide +kernel) (Nat.le_of_ble_eq_true rfl) ?_
  intro p e s m args below meth c A ls fx hh hl _
  have hx := fx.hx
  have hb := fx.hb
  have hl : lv_has ls 1 [(0, .ref b0)] := hl
  obtain ⟨Q, hQ⟩ : ∃ Q, Q = ZZ G A (some (.int R)) [(b0, .inr (6, [.ref bs, .ref x0, .ref d0, .ref r0, .ref i0, .ref c0, .ref j0, .ref e0, .int lf, .int tr]))] below args s := ⟨_, rfl⟩
  rw [← hQ]
  refine lv_aload_n (pc := 0) hx hb (dOk_at dX6_fault 0 rfl) rfl (lv_at hl 0 rfl) ?_
  refine r_get (pc := 1) (ci := 6) fx hh inT6 rfl 8 (by decide) tFX6_58 rfl 0 rfl rfl (dOk_at dX6_fault 1 rfl) ?_
  have e0 := hv
  subst e0
  rw [hQ]
  exact r_iret (pc := 4) fx hh (dOk_at dX6_fault 2 rfl)
set_option maxRecDepth 100000 in
set_option maxHeartbeats 4000000 in
theorem wk_X6_many (l : Launch) (G : GT) (b0 : Nat) (c0 : Nat) (i0 : Nat) (r0 : Nat) (bs : Nat) (x0 : Nat) (d0 : Nat) (j0 : Nat) (e0 : Nat) (c1 : Nat) (c2 : Nat) (i1 : Nat) (r1 : Nat) (r2 : Nat) (r3 : Nat) (lf : Int32) (tr : Int32) (cnt : Int32) (hi : Int32) (wi : Int32) (fr : Int32) (fc : Int32) (lc : Int32) (rc : Int32) (what : Int32) (R : Int32) (h_X2_cells : K_X2_cells l G)
    (hv : (what = 0 → cnt = R) ∧ (¬ what = 0 → (what = 1 → (hi * wi) = R) ∧ (¬ what = 1 → (what = 2 → wi = R) ∧ (¬ what = 2 → (what = 3 → fr = R) ∧ (¬ what = 3 → (what = 4 → rc = R) ∧ (¬ what = 4 → (-2 : Int32) = R)))))) :
    MF l G yX6_many cX6_many 2 (some .int) rm_X6_many [.ref b0, .int what] [(b0, .inr (6, [.ref bs, .ref x0, .ref d0, .ref r0, .ref i0, .ref c0, .ref j0, .ref e0, .int lf, .int tr])), (c0, .inr (0, [.ref c1, .ref c2, .int cnt])), (i0, .inr (2, [.ref i1, .int hi, .int wi, .int fr, .int fc, .int lc])), (r0, .inr (3, [.ref r1, .ref r2, .ref r3, .int rc]))] (some (.int R)) [(b0, .inr (6, [.ref bs, .ref x0, .ref d0, .ref r0, .ref i0, .ref c0, .ref j0, .ref e0, .int lf, .int tr])), (c0, .inr (0, [.ref c1, .ref c2, .int cnt])), (i0, .inr (2, [.ref i1, .int hi, .int wi, .int fr, .int fc, .int lc])), (r0, .inr (3, [.ref r1, .ref r2, .ref r3, .int rc]))] := by
  refine MF.of (by decide +kernel) (Nat.le_of_ble_eq_true rfl) ?_
  intro p e s m args below meth c A ls fx hh hl _
  have hx := fx.hx
  have hb := fx.hb
  have hl : lv_has ls 2 [(0, .ref b0), (1, .int what)] := hl
  obtain ⟨Q, hQ⟩ : ∃ Q, Q = ZZ G A (some (.int R)) [(b0, .inr (6, [.ref bs, .ref x0, .ref d0, .ref r0, .ref i0, .ref c0, .ref j0, .ref e0, .int lf, .int tr])), (c0, .inr (0, [.ref c1, .ref c2, .int cnt])), (i0, .inr (2, [.ref i1, .int hi, .int wi, .int fr, .int fc, .int lc])), (r0, .inr (3, [.ref r1, .ref r2, .ref r3, .int rc]))] below args s := ⟨_, rfl⟩
  rw [← hQ]
  refine lv_iload_n (pc := 0) hx hb (dOk_at dX6_many 0 rfl) rfl (lv_at hl 1 rfl) ?_
  by_cases c1_0 : what = 0
  · refine lv_tableIn (pc := 1) (tgt := 36) (off := 35) hx hb (dOk_at dX6_many 1 rfl) (by rw [c1_0]; decide) (by rw [c1_0]; decide) (by rw [c1_0]; rfl) (by decide) ?_
    have hv := hv.1 c1_0
    refine lv_aload_n (pc := 36) hx hb (dOk_at dX6_many 2 rfl) rfl (lv_at hl 0 rfl) ?_
    refine r_get (pc := 37) (ci := 6) fx hh inT6 rfl 5 (by decide) tFX6_48 rfl 0 rfl rfl (dOk_at dX6_many 3 rfl) ?_
    refine r_getN (pc := 40) (ci := 0) fx hh inT0 rfl 2 (by decide) nFX6_221 rfl 1 rfl rfl (dOk_at dX6_many 4 rfl) ?_
    have e0 := hv
    subst e0
    rw [hQ]
    exact r_iret (pc := 43) fx hh (dOk_at dX6_many 5 rfl)
  · have hv := hv.2 c1_0
    by_cases c1_1 : what = 1
    · refine lv_tableIn (pc := 1) (tgt := 44) (off := 43) hx hb (dOk_at dX6_many 1 rfl) (by rw [c1_1]; decide) (by rw [c1_1]; decide) (by rw [c1_1]; rfl) (by decide) ?_
      have hv := hv.1 c1_1
      refine lv_aload_n (pc := 44) hx hb (dOk_at dX6_many 6 rfl) rfl (lv_at hl 0 rfl) ?_
      refine r_get (pc := 45) (ci := 6) fx hh inT6 rfl 4 (by decide) tFX6_41 rfl 0 rfl rfl (dOk_at dX6_many 7 rfl) ?_
      refine cl_VN (pc := 48) (w' := [(b0, .inr (6, [.ref bs, .ref x0, .ref d0, .ref r0, .ref i0, .ref c0, .ref j0, .ref e0, .int lf, .int tr])), (c0, .inr (0, [.ref c1, .ref c2, .int cnt])), (i0, .inr (2, [.ref i1, .int hi, .int wi, .int fr, .int fc, .int lc])), (r0, .inr (3, [.ref r1, .ref r2, .ref r3, .int rc]))]) (wr := [(b0, .inr (6, [.ref bs, .ref x0, .ref d0, .ref r0, .ref i0, .ref c0, .ref j0, .ref e0, .int lf, .int tr])), (c0, .inr (0, [.ref c1, .ref c2, .int cnt])), (r0, .inr (3, [.ref r1, .ref r2, .ref r3, .int rc]))]) (rest := []) fx hh hl.1 (h_X2_cells i0 i1 hi wi fr fc lc) yV_X2_cells nMX6_151 ⟨rfl, rfl, Nat.le_of_ble_eq_true rfl, Nat.le_of_ble_eq_true rfl⟩ 2 2 rfl rfl rfl [2] [0, 1, 3] [0, 1, 3, 2] rfl rfl rfl (by decide) (by decide) rfl rfl (Nat.le_of_ble_eq_true rfl) ⟨Nat.le_of_ble_eq_true rfl, Nat.le_of_ble_eq_true rfl⟩ (dOk_at dX6_many 8 rfl) (fun H locs hh => ?_)
      have e0 := hv
      subst e0
      rw [hQ]
      exact r_iret (pc := 51) fx hh (dOk_at dX6_many 9 rfl)
    · have hv := hv.2 c1_1
      by_cases c1_2 : what = 2
      · refine lv_tableIn (pc := 1) (tgt := 52) (off := 51) hx hb (dOk_at dX6_many 1 rfl) (by rw [c1_2]; decide) (by rw [c1_2]; decide) (by rw [c1_2]; rfl) (by decide) ?_
        have hv := hv.1 c1_2
        refine lv_aload_n (pc := 52) hx hb (dOk_at dX6_many 10 rfl) rfl (lv_at hl 0 rfl) ?_
        refine r_get (pc := 53) (ci := 6) fx hh inT6 rfl 4 (by decide) tFX6_41 rfl 0 rfl rfl (dOk_at dX6_many 11 rfl) ?_
        refine r_getN (pc := 56) (ci := 2) fx hh inT2 rfl 2 (by decide) nFX6_222 rfl 2 rfl rfl (dOk_at dX6_many 12 rfl) ?_
        have e0 := hv
        subst e0
        rw [hQ]
        exact r_iret (pc := 59) fx hh (dOk_at dX6_many 13 rfl)
      · have hv := hv.2 c1_2
        by_cases c1_3 : what = 3
        · refine lv_tableIn (pc := 1) (tgt := 60) (off := 59) hx hb (dOk_at dX6_many 1 rfl) (by rw [c1_3]; decide) (by rw [c1_3]; decide) (by rw [c1_3]; rfl) (by decide) ?_
          have hv := hv.1 c1_3
          refine lv_aload_n (pc := 60) hx hb (dOk_at dX6_many 14 rfl) rfl (lv_at hl 0 rfl) ?_
          refine r_get (pc := 61) (ci := 6) fx hh inT6 rfl 4 (by decide) tFX6_41 rfl 0 rfl rfl (dOk_at dX6_many 15 rfl) ?_
          refine r_getN (pc := 64) (ci := 2) fx hh inT2 rfl 3 (by decide) nFX6_103 rfl 2 rfl rfl (dOk_at dX6_many 16 rfl) ?_
          have e0 := hv
          subst e0
          rw [hQ]
          exact r_iret (pc := 67) fx hh (dOk_at dX6_many 17 rfl)
        · have hv := hv.2 c1_3
          by_cases c1_4 : what = 4
          · refine lv_tableIn (pc := 1) (tgt := 68) (off := 67) hx hb (dOk_at dX6_many 1 rfl) (by rw [c1_4]; decide) (by rw [c1_4]; decide) (by rw [c1_4]; rfl) (by decide) ?_
            have hv := hv.1 c1_4
            refine lv_aload_n (pc := 68) hx hb (dOk_at dX6_many 18 rfl) rfl (lv_at hl 0 rfl) ?_
            refine r_get (pc := 69) (ci := 6) fx hh inT6 rfl 3 (by decide) tFX6_34 rfl 0 rfl rfl (dOk_at dX6_many 19 rfl) ?_
            refine r_getN (pc := 72) (ci := 3) fx hh inT3 rfl 3 (by decide) nFX6_159 rfl 3 rfl rfl (dOk_at dX6_many 20 rfl) ?_
            have e0 := hv
            subst e0
            rw [hQ]
            exact r_iret (pc := 75) fx hh (dOk_at dX6_many 21 rfl)
          · have hv := hv.2 c1_4
            refine lv_tableOut (pc := 1) (tgt := 76) hx hb (dOk_at dX6_many 1 rfl) (by have w0 := sw_ne c1_0 (b := 0) (by decide); have w1 := sw_ne c1_1 (b := 1) (by decide); have w2 := sw_ne c1_2 (b := 2) (by decide); have w3 := sw_ne c1_3 (b := 3) (by decide); have w4 := sw_ne c1_4 (b := 4) (by decide); omega) (by decide) ?_
            refine lv_bipush (pc := 76) (v := (-2)) hx hb (dOk_at dX6_many 22 rfl) (by decide) ?_
            have e0 := hv
            subst e0
            rw [hQ]
            exact r_iret (pc := 78) fx hh (dOk_at dX6_many 23 rfl)
