set_option maxRecDepth 100000 in
set_option maxHeartbeats 4000000 in
theorem wk_X1_begin (l : Launch) (G : GT) (d0 : Nat) (d1 : Nat) (i0 : Nat) (i1 : Nat) (dat : Int32) (dcut : Int32) (dfw : Int32) (hi : Int32) (wi : Int32) (fr : Int32) (fc : Int32) (lc : Int32) (fro : Int32) (dstr : Nat → Int32) (str : Nat → Int32) (t0_1 : Int32) (t0_2 : Int32) (t0_3 : Int32) (t1 : Nat → Int32)
    (hv : ¬ (0 : Int32) < 0 ∧ ¬ (0 : Int32) < 0 ∧ ¬ (20 : Int32) < 0 ∧ (0 : Int32).toNatClampNeg + (20 : Int32).toNatClampNeg ≤ 20 ∧ (0 : Int32).toNatClampNeg + (20 : Int32).toNatClampNeg ≤ 20 ∧ (fro = t0_1 ∧ (0 : Int32) = t0_2 ∧ (-9 : Int32) = t0_3 ∧ (va_cpy str dstr ((0 : Int32).toNatClampNeg) ((0 : Int32).toNatClampNeg) ((20 : Int32).toNatClampNeg)) = t1)) :
    MF l G yX1_begin cX1_begin 3 none rm_X1_begin [.ref d0, .ref i0, .int fro] [(d0, .inr (1, [.ref d1, .int dat, .int dcut, .int dfw])), (d1, .inl (G.2.1, 20, .inl dstr)), (i0, .inr (2, [.ref i1, .int hi, .int wi, .int fr, .int fc, .int lc])), (i1, .inl (G.2.1, 20, .inl str))] none [(d0, .inr (1, [.ref d1, .int t0_1, .int t0_2, .int t0_3])), (d1, .inl (G.2.1, 20, .inl t1)), (i0, .inr (2, [.ref i1, .int hi, .int wi, .int fr, .int fc, .int lc])), (i1, .inl (G.2.1, 20, .inl str))] := by
  refine MF.of (by decide +kernel) (Nat.le_of_ble_eq_true rfl) ?_
  intro p e s m args below meth c A ls fx hh hl _
  have hx := fx.hx
  have hb := fx.hb
  have hl : lv_has ls 3 [(0, .ref d0), (1, .ref i0), (2, .int fro)] := hl
  obtain ⟨Q, hQ⟩ : ∃ Q, Q = ZZ G A none [(d0, .inr (1, [.ref d1, .int t0_1, .int t0_2, .int t0_3])), (d1, .inl (G.2.1, 20, .inl t1)), (i0, .inr (2, [.ref i1, .int hi, .int wi, .int fr, .int fc, .int lc])), (i1, .inl (G.2.1, 20, .inl str))] below args s := ⟨_, rfl⟩
  rw [← hQ]
  refine lv_aload_n (pc := 0) hx hb (dOk_at dX1_begin 0 rfl) rfl (lv_at hl 1 rfl) ?_
  refine r_getN (pc := 1) (ci := 2) fx hh inT2 rfl 0 (by decide) nFX1_25 rfl 2 rfl rfl (dOk_at dX1_begin 1 rfl) ?_
  refine lv_iconst (pc := 4) (v := 0) hx hb (dOk_at dX1_begin 2 rfl) (by decide) ?_
  refine lv_aload_n (pc := 5) hx hb (dOk_at dX1_begin 3 rfl) rfl (lv_at hl 0 rfl) ?_
  refine r_get (pc := 6) (ci := 1) fx hh inT1 rfl 0 (by decide) tFX1_9 rfl 0 rfl rfl (dOk_at dX1_begin 4 rfl) ?_
  refine lv_iconst (pc := 9) (v := 0) hx hb (dOk_at dX1_begin 5 rfl) (by decide) ?_
  refine lv_bipush (pc := 10) (v := 20) hx hb (dOk_at dX1_begin 6 rfl) (by decide) ?_
  refine r_copyi (pc := 12) (w' := [(d0, .inr (1, [.ref d1, .int dat, .int dcut, .int dfw])), (d1, .inl (G.2.1, 20, .inl (va_cpy str dstr ((0 : Int32).toNatClampNeg) ((0 : Int32).toNatClampNeg) ((20 : Int32).toNatClampNeg)))), (i0, .inr (2, [.ref i1, .int hi, .int wi, .int fr, .int fc, .int lc])), (i1, .inl (G.2.1, 20, .inl str))]) fx hh hl.1 tMX1_28 3 1 rfl rfl hv.1 hv.2.1 hv.2.2.1 hv.2.2.2.1 hv.2.2.2.2.1 rfl (Nat.le_of_ble_eq_true rfl) (Nat.le_of_ble_eq_true rfl) (dOk_at dX1_begin 7 rfl) (fun H locs hh => ?_)
  have hv := hv.2.2.2.2.2
  refine lv_aload_n (pc := 15) hx hb (dOk_at dX1_begin 8 rfl) rfl (lv_at hl 0 rfl) ?_
  refine lv_iload_n (pc := 16) hx hb (dOk_at dX1_begin 9 rfl) rfl (lv_at hl 2 rfl) ?_
  refine r_put (pc := 17) (ci := 1) (w' := [(d0, .inr (1, [.ref d1, .int fro, .int dcut, .int dfw])), (d1, .inl (G.2.1, 20, .inl (va_cpy str dstr ((0 : Int32).toNatClampNeg) ((0 : Int32).toNatClampNeg) ((20 : Int32).toNatClampNeg)))), (i0, .inr (2, [.ref i1, .int hi, .int wi, .int fr, .int fc, .int lc])), (i1, .inl (G.2.1, 20, .inl str))]) fx hh inT1 tyX1 tyX1_ok nmX1 rfl 1 (by decide) tFX1_15 rfl rfl 0 rfl rfl rfl (Nat.le_of_ble_eq_true rfl) rfl (dOk_at dX1_begin 10 rfl) (fun H locs hh => ?_)
  refine lv_aload_n (pc := 20) hx hb (dOk_at dX1_begin 11 rfl) rfl (lv_at hl 0 rfl) ?_
  refine lv_iconst (pc := 21) (v := 0) hx hb (dOk_at dX1_begin 12 rfl) (by decide) ?_
  refine r_put (pc := 22) (ci := 1) (w' := [(d0, .inr (1, [.ref d1, .int fro, .int 0, .int dfw])), (d1, .inl (G.2.1, 20, .inl (va_cpy str dstr ((0 : Int32).toNatClampNeg) ((0 : Int32).toNatClampNeg) ((20 : Int32).toNatClampNeg)))), (i0, .inr (2, [.ref i1, .int hi, .int wi, .int fr, .int fc, .int lc])), (i1, .inl (G.2.1, 20, .inl str))]) fx hh inT1 tyX1 tyX1_ok nmX1 rfl 2 (by decide) tFX1_19 rfl rfl 0 rfl rfl rfl (Nat.le_of_ble_eq_true rfl) rfl (dOk_at dX1_begin 13 rfl) (fun H locs hh => ?_)
  refine lv_aload_n (pc := 25) hx hb (dOk_at dX1_begin 14 rfl) rfl (lv_at hl 0 rfl) ?_
  refine lv_bipush (pc := 26) (v := (-9)) hx hb (dOk_at dX1_begin 15 rfl) (by decide) ?_
  refine r_put (pc := 28) (ci := 1) (w' := [(d0, .inr (1, [.ref d1, .int fro, .int 0, .int (-9)])), (d1, .inl (G.2.1, 20, .inl (va_cpy str dstr ((0 : Int32).toNatClampNeg) ((0 : Int32).toNatClampNeg) ((20 : Int32).toNatClampNeg)))), (i0, .inr (2, [.ref i1, .int hi, .int wi, .int fr, .int fc, .int lc])), (i1, .inl (G.2.1, 20, .inl str))]) fx hh inT1 tyX1 tyX1_ok nmX1 rfl 3 (by decide) tFX1_22 rfl rfl 0 rfl rfl rfl (Nat.le_of_ble_eq_true rfl) rfl (dOk_at dX1_begin 16 rfl) (fun H locs hh => ?_)
  obtain ⟨e0, e1, e2, e3⟩ := hv
  subst e0
  subst e1
  subst e2
  subst e3
  rw [hQ]
  exact r_vret (pc := 31) fx hh (dOk_at dX1_begin 17 rfl)
set_option maxRecDepth 100000 in
set_option maxHeartbeats 4000000 in
theorem wk_X1_stroke (l : Launch) (G : GT) (d0 : Nat) (d1 : Nat) (i0 : Nat) (i1 : Nat) (dat : Int32) (dcut : Int32) (dfw : Int32) (hi : Int32) (wi : Int32) (fr : Int32) (fc : Int32) (lc : Int32) (number : Int32) (stroke : Int32) (load : Int32) (dstr : Nat → Int32) (t0_1 : Int32) (t0_2 : Int32) (t0_3 : Int32) (t1 : Nat → Int32) (h_X2_led : K_X2_led l G)
    (hv : ((s_led hi wi fc lc dat stroke) = (-9) → dat = t0_1 ∧ dcut = t0_2 ∧ number = t0_3 ∧ dstr = t1) ∧ (¬ (s_led hi wi fc lc dat stroke) = (-9) → vp_in (s_led hi wi fc lc dat stroke) 20 ∧ ((load ≤ (dstr (s_led hi wi fc lc dat stroke).toNatClampNeg) → vp_in (s_led hi wi fc lc dat stroke) 20 ∧ (vp_in (s_led hi wi fc lc dat stroke) 20 ∧ ((s_led hi wi fc lc dat stroke) = t0_1 ∧ (dcut ||| ((1 : Int32) <<< ((s_led hi wi fc lc dat stroke) &&& 31))) = t0_2 ∧ dfw = t0_3 ∧ (upd dstr (s_led hi wi fc lc dat stroke).toNatClampNeg ((dstr (s_led hi wi fc lc dat stroke).toNatClampNeg) - 1)) = t1))) ∧ (¬ load ≤ (dstr (s_led hi wi fc lc dat stroke).toNatClampNeg) → dat = t0_1 ∧ dcut = t0_2 ∧ number = t0_3 ∧ dstr = t1)))) :
    MF l G yX1_stroke cX1_stroke 6 none rm_X1_stroke [.ref d0, .ref i0, .int number, .int stroke, .int load] [(d0, .inr (1, [.ref d1, .int dat, .int dcut, .int dfw])), (d1, .inl (G.2.1, 20, .inl dstr)), (i0, .inr (2, [.ref i1, .int hi, .int wi, .int fr, .int fc, .int lc]))] none [(d0, .inr (1, [.ref d1, .int t0_1, .int t0_2, .int t0_3])), (d1, .inl (G.2.1, 20, .inl t1)), (i0, .inr (2, [.ref i1, .int hi, .int wi, .int fr, .int fc, .int lc]))] := by
  refine MF.of (by decide +kernel) (Nat.le_of_ble_eq_true rfl) ?_
  intro p e s m args below meth c A ls fx hh hl _
  have hx := fx.hx
  have hb := fx.hb
  have hl : lv_has ls 6 [(0, .ref d0), (1, .ref i0), (2, .int number), (3, .int stroke), (4, .int load)] := hl
  obtain ⟨Q, hQ⟩ : ∃ Q, Q = ZZ G A none [(d0, .inr (1, [.ref d1, .int t0_1, .int t0_2, .int t0_3])), (d1, .inl (G.2.1, 20, .inl t1)), (i0, .inr (2, [.ref i1, .int hi, .int wi, .int fr, .int fc, .int lc]))] below args s := ⟨_, rfl⟩
  rw [← hQ]
  refine lv_aload_n (pc := 0) hx hb (dOk_at dX1_stroke 0 rfl) rfl (lv_at hl 1 rfl) ?_
  refine lv_aload_n (pc := 1) hx hb (dOk_at dX1_stroke 1 rfl) rfl (lv_at hl 0 rfl) ?_
  refine r_get (pc := 2) (ci := 1) fx hh inT1 rfl 1 (by decide) tFX1_15 rfl 0 rfl rfl (dOk_at dX1_stroke 2 rfl) ?_
  refine lv_iload_n (pc := 5) hx hb (dOk_at dX1_stroke 3 rfl) rfl (lv_at hl 3 rfl) ?_
  refine cl_VN (pc := 6) (w' := [(d0, .inr (1, [.ref d1, .int dat, .int dcut, .int dfw])), (d1, .inl (G.2.1, 20, .inl dstr)), (i0, .inr (2, [.ref i1, .int hi, .int wi, .int fr, .int fc, .int lc]))]) (wr := [(d0, .inr (1, [.ref d1, .int dat, .int dcut, .int dfw])), (d1, .inl (G.2.1, 20, .inl dstr))]) (rest := []) fx hh hl.1 (h_X2_led i0 i1 hi wi fr fc lc dat stroke) yV_X2_led nMX1_34 ⟨rfl, rfl, Nat.le_of_ble_eq_true rfl, Nat.le_of_ble_eq_true rfl⟩ 2 2 rfl rfl rfl [2] [0, 1] [0, 1, 2] rfl rfl rfl (by decide) (by decide) rfl rfl (Nat.le_of_ble_eq_true rfl) ⟨Nat.le_of_ble_eq_true rfl, Nat.le_of_ble_eq_true rfl⟩ (dOk_at dX1_stroke 4 rfl) (fun H locs hh => ?_)
  refine lv_istore (pc := 9) (lv' := [(5, .int (s_led hi wi fc lc dat stroke)), (0, .ref d0), (1, .ref i0), (2, .int number), (3, .int stroke), (4, .int load)]) hx hb (dOk_at dX1_stroke 5 rfl) hl (by decide) rfl (fun ls hl => ?_)
  refine lv_iload (pc := 11) hx hb (dOk_at dX1_stroke 6 rfl) (lv_at hl 0 rfl) ?_
  refine lv_bipush (pc := 13) (v := (-9)) hx hb (dOk_at dX1_stroke 7 rfl) (by decide) ?_
  refine lv_icmp_eq (pc := 15) (tgt := 30) hx hb (dOk_at dX1_stroke 8 rfl) (by decide) (fun c15 => ?_) (fun c15 => ?_)
  · have hv := hv.1 c15
    refine lv_aload_n (pc := 30) hx hb (dOk_at dX1_stroke 15 rfl) rfl (lv_at hl 1 rfl) ?_
    refine lv_iload_n (pc := 31) hx hb (dOk_at dX1_stroke 16 rfl) rfl (lv_at hl 3 rfl) ?_
    refine r_put (pc := 32) (ci := 1) (w' := [(d0, .inr (1, [.ref d1, .int dat, .int dcut, .int number])), (d1, .inl (G.2.1, 20, .inl dstr)), (i0, .inr (2, [.ref i1, .int hi, .int wi, .int fr, .int fc, .int lc]))]) fx hh inT1 tyX1 tyX1_ok nmX1 rfl 3 (by decide) tFX1_22 rfl rfl 0 rfl rfl rfl (Nat.le_of_ble_eq_true rfl) rfl (dOk_at dX1_stroke 17 rfl) (fun H locs hh => ?_)
    obtain ⟨e0, e1, e2, e3⟩ := hv
    subst e0
    subst e1
    subst e2
    subst e3
    rw [hQ]
    exact r_vret (pc := 35) fx hh (dOk_at dX1_stroke 18 rfl)
  · have hv := hv.2 c15
    refine lv_iload (pc := 18) hx hb (dOk_at dX1_stroke 9 rfl) (lv_at hl 5 rfl) ?_
    refine lv_aload_n (pc := 20) hx hb (dOk_at dX1_stroke 10 rfl) rfl (lv_at hl 1 rfl) ?_
    refine r_get (pc := 21) (ci := 1) fx hh inT1 rfl 0 (by decide) tFX1_9 rfl 0 rfl rfl (dOk_at dX1_stroke 11 rfl) ?_
    refine lv_iload (pc := 24) hx hb (dOk_at dX1_stroke 12 rfl) (lv_at hl 0 rfl) ?_
    refine r_iald (pc := 26) fx hh 1 rfl hv.1 (dOk_at dX1_stroke 13 rfl) ?_
    have hv := hv.2
    refine lv_icmp_le (pc := 27) (tgt := 36) hx hb (dOk_at dX1_stroke 14 rfl) (by decide) (fun c27 => ?_) (fun c27 => ?_)
    · have hv := hv.1 c27
      refine lv_aload_n (pc := 36) hx hb (dOk_at dX1_stroke 19 rfl) rfl (lv_at hl 1 rfl) ?_
      refine lv_iload (pc := 37) hx hb (dOk_at dX1_stroke 20 rfl) (lv_at hl 0 rfl) ?_
      refine r_put (pc := 39) (ci := 1) (w' := [(d0, .inr (1, [.ref d1, .int (s_led hi wi fc lc dat stroke), .int dcut, .int dfw])), (d1, .inl (G.2.1, 20, .inl dstr)), (i0, .inr (2, [.ref i1, .int hi, .int wi, .int fr, .int fc, .int lc]))]) fx hh inT1 tyX1 tyX1_ok nmX1 rfl 1 (by decide) tFX1_15 rfl rfl 0 rfl rfl rfl (Nat.le_of_ble_eq_true rfl) rfl (dOk_at dX1_stroke 21 rfl) (fun H locs hh => ?_)
      refine lv_aload_n (pc := 42) hx hb (dOk_at dX1_stroke 22 rfl) rfl (lv_at hl 1 rfl) ?_
      refine r_get (pc := 43) (ci := 1) fx hh inT1 rfl 0 (by decide) tFX1_9 rfl 0 rfl rfl (dOk_at dX1_stroke 23 rfl) ?_
      refine lv_iload (pc := 46) hx hb (dOk_at dX1_stroke 24 rfl) (lv_at hl 0 rfl) ?_
      refine lv_dup2_11 (pc := 48) hx hb (dOk_at dX1_stroke 25 rfl) rfl rfl ?_
      refine r_iald (pc := 49) fx hh 1 rfl hv.1 (dOk_at dX1_stroke 26 rfl) ?_
      have hv := hv.2
      refine lv_iconst (pc := 50) (v := 1) hx hb (dOk_at dX1_stroke 27 rfl) (by decide) ?_
      refine lv_isub (pc := 51) hx hb (dOk_at dX1_stroke 28 rfl) ?_
      refine r_iast (pc := 52) (w' := [(d0, .inr (1, [.ref d1, .int (s_led hi wi fc lc dat stroke), .int dcut, .int dfw])), (d1, .inl (G.2.1, 20, .inl (upd dstr (s_led hi wi fc lc dat stroke).toNatClampNeg ((dstr (s_led hi wi fc lc dat stroke).toNatClampNeg) - 1)))), (i0, .inr (2, [.ref i1, .int hi, .int wi, .int fr, .int fc, .int lc]))]) fx hh 1 rfl hv.1 rfl (dOk_at dX1_stroke 29 rfl) (fun H locs hh => ?_)
      have hv := hv.2
      refine lv_aload_n (pc := 53) hx hb (dOk_at dX1_stroke 30 rfl) rfl (lv_at hl 1 rfl) ?_
      refine lv_dup (pc := 54) hx hb (dOk_at dX1_stroke 31 rfl) rfl ?_
      refine r_get (pc := 55) (ci := 1) fx hh inT1 rfl 2 (by decide) tFX1_19 rfl 0 rfl rfl (dOk_at dX1_stroke 32 rfl) ?_
      refine lv_iconst (pc := 58) (v := 1) hx hb (dOk_at dX1_stroke 33 rfl) (by decide) ?_
      refine lv_iload (pc := 59) hx hb (dOk_at dX1_stroke 34 rfl) (lv_at hl 0 rfl) ?_
      refine lv_ishl (pc := 61) hx hb (dOk_at dX1_stroke 35 rfl) ?_
      refine lv_ior (pc := 62) hx hb (dOk_at dX1_stroke 36 rfl) ?_
      refine r_put (pc := 63) (ci := 1) (w' := [(d0, .inr (1, [.ref d1, .int (s_led hi wi fc lc dat stroke), .int (dcut ||| ((1 : Int32) <<< ((s_led hi wi fc lc dat stroke) &&& 31))), .int dfw])), (d1, .inl (G.2.1, 20, .inl (upd dstr (s_led hi wi fc lc dat stroke).toNatClampNeg ((dstr (s_led hi wi fc lc dat stroke).toNatClampNeg) - 1)))), (i0, .inr (2, [.ref i1, .int hi, .int wi, .int fr, .int fc, .int lc]))]) fx hh inT1 tyX1 tyX1_ok nmX1 rfl 2 (by decide) tFX1_19 rfl rfl 0 rfl rfl rfl (Nat.le_of_ble_eq_true rfl) rfl (dOk_at dX1_stroke 37 rfl) (fun H locs hh => ?_)
      obtain ⟨e0, e1, e2, e3⟩ := hv
      subst e0
      subst e1
      subst e2
      subst e3
      rw [hQ]
      exact r_vret (pc := 66) fx hh (dOk_at dX1_stroke 38 rfl)
    · have hv := hv.2 c27
      refine lv_aload_n (pc := 30) hx hb (dOk_at dX1_stroke 15 rfl) rfl (lv_at hl 1 rfl) ?_
      refine lv_iload_n (pc := 31) hx hb (dOk_at dX1_stroke 16 rfl) rfl (lv_at hl 3 rfl) ?_
      refine r_put (pc := 32) (ci := 1) (w' := [(d0, .inr (1, [.ref d1, .int dat, .int dcut, .int number])), (d1, .inl (G.2.1, 20, .inl dstr)), (i0, .inr (2, [.ref i1, .int hi, .int wi, .int fr, .int fc, .int lc]))]) fx hh inT1 tyX1 tyX1_ok nmX1 rfl 3 (by decide) tFX1_22 rfl rfl 0 rfl rfl rfl (Nat.le_of_ble_eq_true rfl) rfl (dOk_at dX1_stroke 17 rfl) (fun H locs hh => ?_)
      obtain ⟨e0, e1, e2, e3⟩ := hv
      subst e0
      subst e1
      subst e2
      subst e3
      rw [hQ]
      exact r_vret (pc := 35) fx hh (dOk_at dX1_stroke 18 rfl)
set_option maxRecDepth 100000 in
set_option maxHeartbeats 4000000 in
theorem wk_X3_add (l : Launch) (G : GT) (r0 : Nat) (r1 : Nat) (r2 : Nat) (r3 : Nat) (rc : Int32) (a : Int32) (ce : Int32) (bore : Int32) (rs : Nat → Int32) (rl : Nat → Int32) (rb : Nat → Int32) (R : Int32) (t0_3 : Int32) (t1 : Nat → Int32) (t2 : Nat → Int32) (t3 : Nat → Int32)
    (hv : (rc < 8 → vp_in rc 8 ∧ (vp_in rc 8 ∧ (vp_in rc 8 ∧ (((rc + 1) - 1) = R ∧ (rc + 1) = t0_3 ∧ (upd rs rc.toNatClampNeg a) = t1 ∧ (upd rl rc.toNatClampNeg ce) = t2 ∧ (upd rb rc.toNatClampNeg (vp_nar .boolean bore)) = t3)))) ∧ (¬ rc < 8 → (-4 : Int32) = R ∧ rc = t0_3 ∧ rs = t1 ∧ rl = t2 ∧ rb = t3)) :
    MF l G yX3_add cX3_add 4 (some .int) rm_X3_add [.ref r0, .int a, .int ce, .int bore] [(r0, .inr (3, [.ref r1, .ref r2, .ref r3, .int rc])), (r1, .inl (G.2.1, 8, .inl rs)), (r2, .inl (G.2.1, 8, .inl rl)), (r3, .inl (G.2.2.1, 8, .inl rb))] (some (.int R)) [(r0, .inr (3, [.ref r1, .ref r2, .ref r3, .int t0_3])), (r1, .inl (G.2.1, 8, .inl t1)), (r2, .inl (G.2.1, 8, .inl t2)), (r3, .inl (G.2.2.1, 8, .inl t3))] := by
  refine MF.of (by decide +kernel) (Nat.le_of_ble_eq_true rfl) ?_
  intro p e s m args below meth c A ls fx hh hl _
  have hx := fx.hx
  have hb := fx.hb
  have hl : lv_has ls 4 [(0, .ref r0), (1, .int a), (2, .int ce), (3, .int bore)] := hl
  obtain ⟨Q, hQ⟩ : ∃ Q, Q = ZZ G A (some (.int R)) [(r0, .inr (3, [.ref r1, .ref r2, .ref r3, .int t0_3])), (r1, .inl (G.2.1, 8, .inl t1)), (r2, .inl (G.2.1, 8, .inl t2)), (r3, .inl (G.2.2.1, 8, .inl t3))] below args s := ⟨_, rfl⟩
  rw [← hQ]
  refine lv_aload_n (pc := 0) hx hb (dOk_at dX3_add 0 rfl) rfl (lv_at hl 0 rfl) ?_
  refine r_get (pc := 1) (ci := 3) fx hh inT3 rfl 3 (by decide) tFX3_22 rfl 0 rfl rfl (dOk_at dX3_add 1 rfl) ?_
  refine lv_bipush (pc := 4) (v := 8) hx hb (dOk_at dX3_add 2 rfl) (by decide) ?_
  refine lv_icmp_lt (pc := 6) (tgt := 12) hx hb (dOk_at dX3_add 3 rfl) (by decide) (fun c6 => ?_) (fun c6 => ?_)
  · have hv := hv.1 c6
    refine lv_aload_n (pc := 12) hx hb (dOk_at dX3_add 6 rfl) rfl (lv_at hl 0 rfl) ?_
    refine r_get (pc := 13) (ci := 3) fx hh inT3 rfl 0 (by decide) tFX3_9 rfl 0 rfl rfl (dOk_at dX3_add 7 rfl) ?_
    refine lv_aload_n (pc := 16) hx hb (dOk_at dX3_add 8 rfl) rfl (lv_at hl 0 rfl) ?_
    refine r_get (pc := 17) (ci := 3) fx hh inT3 rfl 3 (by decide) tFX3_22 rfl 0 rfl rfl (dOk_at dX3_add 9 rfl) ?_
    refine lv_iload_n (pc := 20) hx hb (dOk_at dX3_add 10 rfl) rfl (lv_at hl 1 rfl) ?_
    refine r_iast (pc := 21) (w' := [(r0, .inr (3, [.ref r1, .ref r2, .ref r3, .int rc])), (r1, .inl (G.2.1, 8, .inl (upd rs rc.toNatClampNeg a))), (r2, .inl (G.2.1, 8, .inl rl)), (r3, .inl (G.2.2.1, 8, .inl rb))]) fx hh 1 rfl hv.1 rfl (dOk_at dX3_add 11 rfl) (fun H locs hh => ?_)
    have hv := hv.2
    refine lv_aload_n (pc := 22) hx hb (dOk_at dX3_add 12 rfl) rfl (lv_at hl 0 rfl) ?_
    refine r_get (pc := 23) (ci := 3) fx hh inT3 rfl 1 (by decide) tFX3_15 rfl 0 rfl rfl (dOk_at dX3_add 13 rfl) ?_
    refine lv_aload_n (pc := 26) hx hb (dOk_at dX3_add 14 rfl) rfl (lv_at hl 0 rfl) ?_
    refine r_get (pc := 27) (ci := 3) fx hh inT3 rfl 3 (by decide) tFX3_22 rfl 0 rfl rfl (dOk_at dX3_add 15 rfl) ?_
    refine lv_iload_n (pc := 30) hx hb (dOk_at dX3_add 16 rfl) rfl (lv_at hl 2 rfl) ?_
    refine r_iast (pc := 31) (w' := [(r0, .inr (3, [.ref r1, .ref r2, .ref r3, .int rc])), (r1, .inl (G.2.1, 8, .inl (upd rs rc.toNatClampNeg a))), (r2, .inl (G.2.1, 8, .inl (upd rl rc.toNatClampNeg ce))), (r3, .inl (G.2.2.1, 8, .inl rb))]) fx hh 2 rfl hv.1 rfl (dOk_at dX3_add 17 rfl) (fun H locs hh => ?_)
    have hv := hv.2
    refine lv_aload_n (pc := 32) hx hb (dOk_at dX3_add 18 rfl) rfl (lv_at hl 0 rfl) ?_
    refine r_get (pc := 33) (ci := 3) fx hh inT3 rfl 2 (by decide) tFX3_18 rfl 0 rfl rfl (dOk_at dX3_add 19 rfl) ?_
    refine lv_aload_n (pc := 36) hx hb (dOk_at dX3_add 20 rfl) rfl (lv_at hl 0 rfl) ?_
    refine r_get (pc := 37) (ci := 3) fx hh inT3 rfl 3 (by decide) tFX3_22 rfl 0 rfl rfl (dOk_at dX3_add 21 rfl) ?_
    refine lv_iload_n (pc := 40) hx hb (dOk_at dX3_add 22 rfl) rfl (lv_at hl 3 rfl) ?_
    refine r_zast (pc := 41) (w' := [(r0, .inr (3, [.ref r1, .ref r2, .ref r3, .int rc])), (r1, .inl (G.2.1, 8, .inl (upd rs rc.toNatClampNeg a))), (r2, .inl (G.2.1, 8, .inl (upd rl rc.toNatClampNeg ce))), (r3, .inl (G.2.2.1, 8, .inl (upd rb rc.toNatClampNeg (vp_nar .boolean bore))))]) fx hh 3 rfl hv.1 rfl (dOk_at dX3_add 23 rfl) (fun H locs hh => ?_)
    have hv := hv.2
    refine lv_aload_n (pc := 42) hx hb (dOk_at dX3_add 24 rfl) rfl (lv_at hl 0 rfl) ?_
    refine lv_dup (pc := 43) hx hb (dOk_at dX3_add 25 rfl) rfl ?_
    refine r_get (pc := 44) (ci := 3) fx hh inT3 rfl 3 (by decide) tFX3_22 rfl 0 rfl rfl (dOk_at dX3_add 26 rfl) ?_
    refine lv_iconst (pc := 47) (v := 1) hx hb (dOk_at dX3_add 27 rfl) (by decide) ?_
    refine lv_iadd (pc := 48) hx hb (dOk_at dX3_add 28 rfl) ?_
    refine r_put (pc := 49) (ci := 3) (w' := [(r0, .inr (3, [.ref r1, .ref r2, .ref r3, .int (rc + 1)])), (r1, .inl (G.2.1, 8, .inl (upd rs rc.toNatClampNeg a))), (r2, .inl (G.2.1, 8, .inl (upd rl rc.toNatClampNeg ce))), (r3, .inl (G.2.2.1, 8, .inl (upd rb rc.toNatClampNeg (vp_nar .boolean bore))))]) fx hh inT3 tyX3 tyX3_ok nmX3 rfl 3 (by decide) tFX3_22 rfl rfl 0 rfl rfl rfl (Nat.le_of_ble_eq_true rfl) rfl (dOk_at dX3_add 29 rfl) (fun H locs hh => ?_)
    refine lv_aload_n (pc := 52) hx hb (dOk_at dX3_add 30 rfl) rfl (lv_at hl 0 rfl) ?_
    refine r_get (pc := 53) (ci := 3) fx hh inT3 rfl 3 (by decide) tFX3_22 rfl 0 rfl rfl (dOk_at dX3_add 31 rfl) ?_
    refine lv_iconst (pc := 56) (v := 1) hx hb (dOk_at dX3_add 32 rfl) (by decide) ?_
    refine lv_isub (pc := 57) hx hb (dOk_at dX3_add 33 rfl) ?_
    obtain ⟨e0, e1, e2, e3, e4⟩ := hv
    subst e0
    subst e1
    subst e2
    subst e3
    subst e4
    rw [hQ]
    exact r_iret (pc := 58) fx hh (dOk_at dX3_add 34 rfl)
  · have hv := hv.2 c6
    refine lv_bipush (pc := 9) (v := (-4)) hx hb (dOk_at dX3_add 4 rfl) (by decide) ?_
    obtain ⟨e0, e1, e2, e3, e4⟩ := hv
    subst e0
    subst e1
    subst e2
    subst e3
    subst e4
    rw [hQ]
    exact r_iret (pc := 11) fx hh (dOk_at dX3_add 5 rfl)
set_option maxRecDepth 100000 in
set_option maxHeartbeats 4000000 in
theorem wk_X3_areSo (l : Launch) (G : GT) (r0 : Nat) (r1 : Nat) (r2 : Nat) (r3 : Nat) (i0 : Nat) (i1 : Nat) (c0 : Nat) (c1 : Nat) (c2 : Nat) (rc : Int32) (hi : Int32) (wi : Int32) (fr : Int32) (fc : Int32) (lc : Int32) (cnt : Int32) (rs : Nat → Int32) (rl : Nat → Int32) (rb : Nat → Int32) (str : Nat → Int32) (ck : Nat → Int32) (cwt : Nat → Int32) (R : Int32) (J2 : Nat → Int32 → Prop) (h_X0_load : K_X0_load l G)
    (hv : ∃ k2 : Nat, J2 k2 0)
    (hv2 : ∀ (n2 : Nat) (x2_3 : Int32), J2 n2 x2_3 → (rc ≤ x2_3 → (1 : Int32) = R) ∧ (¬ rc ≤ x2_3 → vp_in x2_3 8 ∧ (vp_in (rs x2_3.toNatClampNeg) 4 ∧ (vp_in x2_3 8 ∧ (vp_in (rl x2_3.toNatClampNeg) 20 ∧ ((∀ (v39 : Int32), v39 = (if (str (rl x2_3.toNatClampNeg).toNatClampNeg) < (s_load ck cwt (rs x2_3.toNatClampNeg)) then (0 : Int32) else (1 : Int32)) → vp_in x2_3 8 ∧ ((v39 = (rb x2_3.toNatClampNeg) → ∃ k1 : Nat, k1 < n2 ∧ J2 k1 (x2_3 + 1)) ∧ (¬ v39 = (rb x2_3.toNatClampNeg) → (0 : Int32) = R))))))))) :
    MF l G yX3_areSo cX3_areSo 5 (some .boolean) rm_X3_areSo [.ref r0, .ref i0, .ref c0] [(r0, .inr (3, [.ref r1, .ref r2, .ref r3, .int rc])), (r1, .inl (G.2.1, 8, .inl rs)), (r2, .inl (G.2.1, 8, .inl rl)), (r3, .inl (G.2.2.1, 8, .inl rb)), (i0, .inr (2, [.ref i1, .int hi, .int wi, .int fr, .int fc, .int lc])), (i1, .inl (G.2.1, 20, .inl str)), (c0, .inr (0, [.ref c1, .ref c2, .int cnt])), (c1, .inl (G.2.1, 4, .inl ck)), (c2, .inl (G.2.1, 4, .inl cwt))] (some (.int R)) [(r0, .inr (3, [.ref r1, .ref r2, .ref r3, .int rc])), (r1, .inl (G.2.1, 8, .inl rs)), (r2, .inl (G.2.1, 8, .inl rl)), (r3, .inl (G.2.2.1, 8, .inl rb)), (i0, .inr (2, [.ref i1, .int hi, .int wi, .int fr, .int fc, .int lc])), (i1, .inl (G.2.1, 20, .inl str)), (c0, .inr (0, [.ref c1, .ref c2, .int cnt])), (c1, .inl (G.2.1, 4, .inl ck)), (c2, .inl (G.2.1, 4, .inl cwt))] := by
  refine MF.of (by decide +kernel) (Nat.le_of_ble_eq_true rfl) ?_
  intro p e s m args below meth c A ls fx hh hl _
  have hx := fx.hx
  have hb := fx.hb
  have hl : lv_has ls 5 [(0, .ref r0), (1, .ref i0), (2, .ref c0)] := hl
  obtain ⟨Q, hQ⟩ : ∃ Q, Q = ZZ G A (some (.int R)) [(r0, .inr (3, [.ref r1, .ref r2, .ref r3, .int rc])), (r1, .inl (G.2.1, 8, .inl rs)), (r2, .inl (G.2.1, 8, .inl rl)), (r3, .inl (G.2.2.1, 8, .inl rb)), (i0, .inr (2, [.ref i1, .int hi, .int wi, .int fr, .int fc, .int lc])), (i1, .inl (G.2.1, 20, .inl str)), (c0, .inr (0, [.ref c1, .ref c2, .int cnt])), (c1, .inl (G.2.1, 4, .inl ck)), (c2, .inl (G.2.1, 4, .inl cwt))] below args s := ⟨_, rfl⟩
  rw [← hQ]
  have lp2 : ∀ (n2 : Nat) (x2_3 : Int32), J2 n2 x2_3 → ∀ (H : Heap) (locs : List Loc) (ls : Array Slot), HP G A [(r0, .inr (3, [.ref r1, .ref r2, .ref r3, .int rc])), (r1, .inl (G.2.1, 8, .inl rs)), (r2, .inl (G.2.1, 8, .inl rl)), (r3, .inl (G.2.2.1, 8, .inl rb)), (i0, .inr (2, [.ref i1, .int hi, .int wi, .int fr, .int fc, .int lc])), (i1, .inl (G.2.1, 20, .inl str)), (c0, .inr (0, [.ref c1, .ref c2, .int cnt])), (c1, .inl (G.2.1, 4, .inl ck)), (c2, .inl (G.2.1, 4, .inl cwt))] s H locs → lv_has ls 5 [(0, .ref r0), (1, .ref i0), (2, .ref c0), (3, .int x2_3)] → W p l e rm_X3_areSo s m args below meth c H locs 0 0 Q (F0 m 2 ls []) := by
    intro n2
    induction n2 using Nat.strongRecOn with
    | ind n2 ih2 =>
      intro x2_3 hj2 H locs ls hh hl
      have hv := hv2 n2 x2_3 hj2
      refine lv_iload_n (pc := 2) hx hb (dOk_at dX3_areSo 2 rfl) rfl (lv_at hl 3 rfl) ?_
      refine lv_aload_n (pc := 3) hx hb (dOk_at dX3_areSo 3 rfl) rfl (lv_at hl 0 rfl) ?_
      refine r_get (pc := 4) (ci := 3) fx hh inT3 rfl 3 (by decide) tFX3_22 rfl 0 rfl rfl (dOk_at dX3_areSo 4 rfl) ?_
      refine lv_icmp_ge (pc := 7) (tgt := 60) hx hb (dOk_at dX3_areSo 5 rfl) (by decide) (fun c7 => ?_) (fun c7 => ?_)
      · have hv := hv.1 c7
        refine lv_iconst (pc := 60) (v := 1) hx hb (dOk_at dX3_areSo 34 rfl) (by decide) ?_
        have e0 := hv
        subst e0
        rw [hQ]
        exact r_zret (pc := 61) fx hh rfl (dOk_at dX3_areSo 35 rfl)
      · have hv := hv.2 c7
        refine lv_aload_n (pc := 10) hx hb (dOk_at dX3_areSo 6 rfl) rfl (lv_at hl 2 rfl) ?_
        refine lv_aload_n (pc := 11) hx hb (dOk_at dX3_areSo 7 rfl) rfl (lv_at hl 0 rfl) ?_
        refine r_get (pc := 12) (ci := 3) fx hh inT3 rfl 0 (by decide) tFX3_9 rfl 0 rfl rfl (dOk_at dX3_areSo 8 rfl) ?_
        refine lv_iload_n (pc := 15) hx hb (dOk_at dX3_areSo 9 rfl) rfl (lv_at hl 3 rfl) ?_
        refine r_iald (pc := 16) fx hh 1 rfl hv.1 (dOk_at dX3_areSo 10 rfl) ?_
        have hv := hv.2
        refine cl_VN (pc := 17) (w' := [(r0, .inr (3, [.ref r1, .ref r2, .ref r3, .int rc])), (r1, .inl (G.2.1, 8, .inl rs)), (r2, .inl (G.2.1, 8, .inl rl)), (r3, .inl (G.2.2.1, 8, .inl rb)), (i0, .inr (2, [.ref i1, .int hi, .int wi, .int fr, .int fc, .int lc])), (i1, .inl (G.2.1, 20, .inl str)), (c0, .inr (0, [.ref c1, .ref c2, .int cnt])), (c1, .inl (G.2.1, 4, .inl ck)), (c2, .inl (G.2.1, 4, .inl cwt))]) (wr := [(r0, .inr (3, [.ref r1, .ref r2, .ref r3, .int rc])), (r1, .inl (G.2.1, 8, .inl rs)), (r2, .inl (G.2.1, 8, .inl rl)), (r3, .inl (G.2.2.1, 8, .inl rb)), (i0, .inr (2, [.ref i1, .int hi, .int wi, .int fr, .int fc, .int lc])), (i1, .inl (G.2.1, 20, .inl str))]) (rest := []) fx hh hl.1 (h_X0_load c0 c1 c2 cnt (rs x2_3.toNatClampNeg) ck cwt hv.1) yV_X0_load nMX3_26 ⟨rfl, rfl, Nat.le_of_ble_eq_true rfl, Nat.le_of_ble_eq_true rfl⟩ 6 0 rfl rfl rfl [6, 7, 8] [0, 1, 2, 3, 4, 5] [0, 1, 2, 3, 4, 5, 6, 7, 8] rfl rfl rfl (by decide) (by decide) rfl rfl (Nat.le_of_ble_eq_true rfl) ⟨Nat.le_of_ble_eq_true rfl, Nat.le_of_ble_eq_true rfl⟩ (dOk_at dX3_areSo 11 rfl) (fun H locs hh => ?_)
        have hv := hv.2
        refine lv_aload_n (pc := 20) hx hb (dOk_at dX3_areSo 12 rfl) rfl (lv_at hl 1 rfl) ?_
        refine r_getN (pc := 21) (ci := 2) fx hh inT2 rfl 0 (by decide) nFX3_32 rfl 4 rfl rfl (dOk_at dX3_areSo 13 rfl) ?_
        refine lv_aload_n (pc := 24) hx hb (dOk_at dX3_areSo 14 rfl) rfl (lv_at hl 0 rfl) ?_
        refine r_get (pc := 25) (ci := 3) fx hh inT3 rfl 1 (by decide) tFX3_15 rfl 0 rfl rfl (dOk_at dX3_areSo 15 rfl) ?_
        refine lv_iload_n (pc := 28) hx hb (dOk_at dX3_areSo 16 rfl) rfl (lv_at hl 3 rfl) ?_
        refine r_iald (pc := 29) fx hh 2 rfl hv.1 (dOk_at dX3_areSo 17 rfl) ?_
        have hv := hv.2
        refine r_iald (pc := 30) fx hh 5 rfl hv.1 (dOk_at dX3_areSo 18 rfl) ?_
        have hv := hv.2
        have k39_31 : ∀ (v39 : Int32), v39 = (if (str (rl x2_3.toNatClampNeg).toNatClampNeg) < (s_load ck cwt (rs x2_3.toNatClampNeg)) then (0 : Int32) else (1 : Int32)) → ∀ (H : Heap) (locs : List Loc) (ls : Array Slot), HP G A [(r0, .inr (3, [.ref r1, .ref r2, .ref r3, .int rc])), (r1, .inl (G.2.1, 8, .inl rs)), (r2, .inl (G.2.1, 8, .inl rl)), (r3, .inl (G.2.2.1, 8, .inl rb)), (i0, .inr (2, [.ref i1, .int hi, .int wi, .int fr, .int fc, .int lc])), (i1, .inl (G.2.1, 20, .inl str)), (c0, .inr (0, [.ref c1, .ref c2, .int cnt])), (c1, .inl (G.2.1, 4, .inl ck)), (c2, .inl (G.2.1, 4, .inl cwt))] s H locs → lv_has ls 5 [(0, .ref r0), (1, .ref i0), (2, .ref c0), (3, .int x2_3)] → W p l e rm_X3_areSo s m args below meth c H locs 0 0 Q (F0 m 39 ls [.int v39]) := by
          intro v39 e39_0 H locs ls hh hl
          have hv := hv v39 e39_0
          refine lv_istore (pc := 39) (lv' := [(4, .int v39), (0, .ref r0), (1, .ref i0), (2, .ref c0), (3, .int x2_3)]) hx hb (dOk_at dX3_areSo 23 rfl) hl (by decide) rfl (fun ls hl => ?_)
          refine lv_iload (pc := 41) hx hb (dOk_at dX3_areSo 24 rfl) (lv_at hl 0 rfl) ?_
          refine lv_aload_n (pc := 43) hx hb (dOk_at dX3_areSo 25 rfl) rfl (lv_at hl 1 rfl) ?_
          refine r_get (pc := 44) (ci := 3) fx hh inT3 rfl 2 (by decide) tFX3_18 rfl 0 rfl rfl (dOk_at dX3_areSo 26 rfl) ?_
          refine lv_iload_n (pc := 47) hx hb (dOk_at dX3_areSo 27 rfl) rfl (lv_at hl 4 rfl) ?_
          refine r_zald (pc := 48) fx hh 3 rfl hv.1 (dOk_at dX3_areSo 28 rfl) ?_
          have hv := hv.2
          refine lv_icmp_eq (pc := 49) (tgt := 54) hx hb (dOk_at dX3_areSo 29 rfl) (by decide) (fun c49 => ?_) (fun c49 => ?_)
          · have hv := hv.1 c49
            refine lv_iinc (pc := 54) (v := x2_3 + 1) (lv' := [(3, .int (x2_3 + 1)), (4, .int v39), (0, .ref r0), (1, .ref i0), (2, .ref c0)]) hx hb (dOk_at dX3_areSo 32 rfl) hl (k := 4) rfl rfl (by decide) rfl (fun ls hl => ?_)
            refine lv_goto (pc := 57) (tgt := 2) hx hb (dOk_at dX3_areSo 33 rfl) (by decide) ?_
            obtain ⟨k0, hk0, hj0⟩ := hv
            exact ih2 k0 hk0 (x2_3 + 1) hj0 _ _ _ hh (lv_sub hl [2, 3, 4, 0] rfl)
          · have hv := hv.2 c49
            refine lv_iconst (pc := 52) (v := 0) hx hb (dOk_at dX3_areSo 30 rfl) (by decide) ?_
            have e0 := hv
            subst e0
            rw [hQ]
            exact r_zret (pc := 53) fx hh rfl (dOk_at dX3_areSo 31 rfl)
        refine lv_icmp_gt (pc := 31) (tgt := 38) hx hb (dOk_at dX3_areSo 19 rfl) (by decide) (fun c31 => ?_) (fun c31 => ?_)
        · refine lv_iconst (pc := 38) (v := 0) hx hb (dOk_at dX3_areSo 22 rfl) (by decide) ?_
          exact k39_31 _ (if_pos c31).symm _ _ _ hh (lv_sub hl [0, 1, 2, 3] rfl)
        · refine lv_iconst (pc := 34) (v := 1) hx hb (dOk_at dX3_areSo 20 rfl) (by decide) ?_
          refine lv_goto (pc := 35) (tgt := 39) hx hb (dOk_at dX3_areSo 21 rfl) (by decide) ?_
          exact k39_31 _ (if_neg c31).symm _ _ _ hh (lv_sub hl [0, 1, 2, 3] rfl)
  refine lv_iconst (pc := 0) (v := 0) hx hb (dOk_at dX3_areSo 0 rfl) (by decide) ?_
  refine lv_istore_n (pc := 1) (lv' := [(3, .int 0), (0, .ref r0), (1, .ref i0), (2, .ref c0)]) hx hb (dOk_at dX3_areSo 1 rfl) rfl hl (by decide) rfl (fun ls hl => ?_)
  obtain ⟨k0, hj0⟩ := hv
  exact lp2 k0 0 hj0 _ _ _ hh (lv_sub hl [1, 2, 3, 0] rfl)
set_option maxRecDepth 100000 in
set_option maxHeartbeats 4000000 in
theorem wk_X4_begin (l : Launch) (G : GT) (s0 : Nat) (s1 : Nat) (sla : Int32) (sle : Int32) (nl : Int32) (ne : Int32) (sn : Nat → Int32) (t0_1 : Int32) (t0_2 : Int32) (t1 : Nat → Int32) (h_J7_fill_53178 : K_J7_fill_53178 l G)
    (hv : nl = t0_1 ∧ ne = t0_2 ∧ (s_fill 0 sn) = t1) :
    MF l G yX4_begin cX4_begin 3 none rm_X4_begin [.ref s0, .int nl, .int ne] [(s0, .inr (4, [.ref s1, .int sla, .int sle])), (s1, .inl (G.2.1, 60, .inl sn))] none [(s0, .inr (4, [.ref s1, .int t0_1, .int t0_2])), (s1, .inl (G.2.1, 60, .inl t1))] := by
  refine MF.of (by decide +kernel) (Nat.le_of_ble_eq_true rfl) ?_
  intro p e s m args below meth c A ls fx hh hl _
  have hx := fx.hx
  have hb := fx.hb
  have hl : lv_has ls 3 [(0, .ref s0), (1, .int nl), (2, .int ne)] := hl
  obtain ⟨Q, hQ⟩ : ∃ Q, Q = ZZ G A none [(s0, .inr (4, [.ref s1, .int t0_1, .int t0_2])), (s1, .inl (G.2.1, 60, .inl t1))] below args s := ⟨_, rfl⟩
  rw [← hQ]
  refine lv_aload_n (pc := 0) hx hb (dOk_at dX4_begin 0 rfl) rfl (lv_at hl 0 rfl) ?_
  refine lv_iload_n (pc := 1) hx hb (dOk_at dX4_begin 1 rfl) rfl (lv_at hl 1 rfl) ?_
  refine r_put (pc := 2) (ci := 4) (w' := [(s0, .inr (4, [.ref s1, .int nl, .int sle])), (s1, .inl (G.2.1, 60, .inl sn))]) fx hh inT4 tyX4 tyX4_ok nmX4 rfl 1 (by decide) tFX4_15 rfl rfl 0 rfl rfl rfl (Nat.le_of_ble_eq_true rfl) rfl (dOk_at dX4_begin 2 rfl) (fun H locs hh => ?_)
  refine lv_aload_n (pc := 5) hx hb (dOk_at dX4_begin 3 rfl) rfl (lv_at hl 0 rfl) ?_
  refine lv_iload_n (pc := 6) hx hb (dOk_at dX4_begin 4 rfl) rfl (lv_at hl 2 rfl) ?_
  refine r_put (pc := 7) (ci := 4) (w' := [(s0, .inr (4, [.ref s1, .int nl, .int ne])), (s1, .inl (G.2.1, 60, .inl sn))]) fx hh inT4 tyX4 tyX4_ok nmX4 rfl 2 (by decide) tFX4_19 rfl rfl 0 rfl rfl rfl (Nat.le_of_ble_eq_true rfl) rfl (dOk_at dX4_begin 5 rfl) (fun H locs hh => ?_)
  refine lv_aload_n (pc := 10) hx hb (dOk_at dX4_begin 6 rfl) rfl (lv_at hl 0 rfl) ?_
  refine r_get (pc := 11) (ci := 4) fx hh inT4 rfl 0 (by decide) tFX4_9 rfl 0 rfl rfl (dOk_at dX4_begin 7 rfl) ?_
  refine lv_iconst (pc := 14) (v := 0) hx hb (dOk_at dX4_begin 8 rfl) (by decide) ?_
  refine cl_S (pc := 15) (w' := [(s0, .inr (4, [.ref s1, .int nl, .int ne])), (s1, .inl (G.2.1, 60, .inl (s_fill 0 sn)))]) (wr := [(s0, .inr (4, [.ref s1, .int nl, .int ne]))]) (rest := []) fx hh hl.1 (h_J7_fill_53178 s1 0 sn) yS_J7_fill_53178 tMX4_22 ⟨rfl, rfl, Nat.le_of_ble_eq_true rfl, Nat.le_of_ble_eq_true rfl⟩ [1] [0] [0, 1] rfl rfl rfl (by decide) (by decide) rfl rfl (Nat.le_of_ble_eq_true rfl) ⟨Nat.le_of_ble_eq_true rfl, Nat.le_of_ble_eq_true rfl⟩ (dOk_at dX4_begin 9 rfl) (fun H locs hh => ?_)
  obtain ⟨e0, e1, e2⟩ := hv
  subst e0
  subst e1
  subst e2
  rw [hQ]
  exact r_vret (pc := 18) fx hh (dOk_at dX4_begin 10 rfl)
set_option maxRecDepth 100000 in
set_option maxHeartbeats 4000000 in
theorem wk_X4_clear (l : Launch) (G : GT) (s0 : Nat) (s1 : Nat) (sla : Int32) (sle : Int32) (t0_1 : Int32) (t0_2 : Int32)
    (hv : (-1 : Int32) = t0_1 ∧ (0 : Int32) = t0_2) :
    MF l G yX4_clear cX4_clear 1 none rm_X4_clear [.ref s0] [(s0, .inr (4, [.ref s1, .int sla, .int sle]))] none [(s0, .inr (4, [.ref s1, .int t0_1, .int t0_2]))] := by
  refine MF.of (by decide +kernel) (Nat.le_of_ble_eq_true rfl) ?_
  intro p e s m args below meth c A ls fx hh hl _
  have hx := fx.hx
  have hb := fx.hb
  have hl : lv_has ls 1 [(0, .ref s0)] := hl
  obtain ⟨Q, hQ⟩ : ∃ Q, Q = ZZ G A none [(s0, .inr (4, [.ref s1, .int t0_1, .int t0_2]))] below args s := ⟨_, rfl⟩
  rw [← hQ]
  refine lv_aload_n (pc := 0) hx hb (dOk_at dX4_clear 0 rfl) rfl (lv_at hl 0 rfl) ?_
  refine lv_iconst (pc := 1) (v := (-1)) hx hb (dOk_at dX4_clear 1 rfl) (by decide) ?_
  refine r_put (pc := 2) (ci := 4) (w' := [(s0, .inr (4, [.ref s1, .int (-1), .int sle]))]) fx hh inT4 tyX4 tyX4_ok nmX4 rfl 1 (by decide) tFX4_15 rfl rfl 0 rfl rfl rfl (Nat.le_of_ble_eq_true rfl) rfl (dOk_at dX4_clear 2 rfl) (fun H locs hh => ?_)
  refine lv_aload_n (pc := 5) hx hb (dOk_at dX4_clear 3 rfl) rfl (lv_at hl 0 rfl) ?_
  refine lv_iconst (pc := 6) (v := 0) hx hb (dOk_at dX4_clear 4 rfl) (by decide) ?_
  refine r_put (pc := 7) (ci := 4) (w' := [(s0, .inr (4, [.ref s1, .int (-1), .int 0]))]) fx hh inT4 tyX4 tyX4_ok nmX4 rfl 2 (by decide) tFX4_19 rfl rfl 0 rfl rfl rfl (Nat.le_of_ble_eq_true rfl) rfl (dOk_at dX4_clear 5 rfl) (fun H locs hh => ?_)
  obtain ⟨e0, e1⟩ := hv
  subst e0
  subst e1
  rw [hQ]
  exact r_vret (pc := 10) fx hh (dOk_at dX4_clear 6 rfl)
set_option maxRecDepth 100000 in
set_option maxHeartbeats 4000000 in
theorem wk_X4_isNothing (l : Launch) (G : GT) (s0 : Nat) (s1 : Nat) (sla : Int32) (sle : Int32) (R : Int32)
    (hv : (¬ sla = (-1) → (0 : Int32) = R) ∧ (sla = (-1) → (1 : Int32) = R)) :
    MF l G yX4_isNothing cX4_isNothing 1 (some .boolean) rm_X4_isNothing [.ref s0] [(s0, .inr (4, [.ref s1, .int sla, .int sle]))] (some (.int R)) [(s0, .inr (4, [.ref s1, .int sla, .int sle]))] := by
  refine MF.of (by decide +kernel) (Nat.le_of_ble_eq_true rfl) ?_
  intro p e s m args below meth c A ls fx hh hl _
  have hx := fx.hx
  have hb := fx.hb
  have hl : lv_has ls 1 [(0, .ref s0)] := hl
  obtain ⟨Q, hQ⟩ : ∃ Q, Q = ZZ G A (some (.int R)) [(s0, .inr (4, [.ref s1, .int sla, .int sle]))] below args s := ⟨_, rfl⟩
  rw [← hQ]
  refine lv_aload_n (pc := 0) hx hb (dOk_at dX4_isNothing 0 rfl) rfl (lv_at hl 0 rfl) ?_
  refine r_get (pc := 1) (ci := 4) fx hh inT4 rfl 1 (by decide) tFX4_15 rfl 0 rfl rfl (dOk_at dX4_isNothing 1 rfl) ?_
  refine lv_iconst (pc := 4) (v := (-1)) hx hb (dOk_at dX4_isNothing 2 rfl) (by decide) ?_
  refine lv_icmp_ne (pc := 5) (tgt := 12) hx hb (dOk_at dX4_isNothing 3 rfl) (by decide) (fun c5 => ?_) (fun c5 => ?_)
  · have hv := hv.1 c5
    refine lv_iconst (pc := 12) (v := 0) hx hb (dOk_at dX4_isNothing 6 rfl) (by decide) ?_
    have e0 := hv
    subst e0
    rw [hQ]
    exact r_zret (pc := 13) fx hh rfl (dOk_at dX4_isNothing 7 rfl)
  · have hv := hv.2 c5
    refine lv_iconst (pc := 8) (v := 1) hx hb (dOk_at dX4_isNothing 4 rfl) (by decide) ?_
    refine lv_goto (pc := 9) (tgt := 13) hx hb (dOk_at dX4_isNothing 5 rfl) (by decide) ?_
    have e0 := hv
    subst e0
    rw [hQ]
    exact r_zret (pc := 13) fx hh rfl (dOk_at dX4_isNothing 7 rfl)
set_option maxRecDepth 100000 in
set_option maxHeartbeats 4000000 in
theorem wk_X4_has (l : Launch) (G : GT) (s0 : Nat) (s1 : Nat) (sla : Int32) (sle : Int32) (i : Int32) (n : Int32) (R : Int32) (h_X6_isWithin : K_X6_isWithin l G)
    (hv : ((s_in i 0 sle) = 0 → (0 : Int32) = R) ∧ (¬ (s_in i 0 sle) = 0 → ((s_in n 0 (sle - i)) = 0 → (0 : Int32) = R) ∧ (¬ (s_in n 0 (sle - i)) = 0 → (1 : Int32) = R))) :
    MF l G yX4_has cX4_has 3 (some .boolean) rm_X4_has [.ref s0, .int i, .int n] [(s0, .inr (4, [.ref s1, .int sla, .int sle]))] (some (.int R)) [(s0, .inr (4, [.ref s1, .int sla, .int sle]))] := by
  refine MF.of (by decide +kernel) (Nat.le_of_ble_eq_true rfl) ?_
  intro p e s m args below meth c A ls fx hh hl _
  have hx := fx.hx
  have hb := fx.hb
  have hl : lv_has ls 3 [(0, .ref s0), (1, .int i), (2, .int n)] := hl
  obtain ⟨Q, hQ⟩ : ∃ Q, Q = ZZ G A (some (.int R)) [(s0, .inr (4, [.ref s1, .int sla, .int sle]))] below args s := ⟨_, rfl⟩
  rw [← hQ]
  refine lv_iload_n (pc := 0) hx hb (dOk_at dX4_has 0 rfl) rfl (lv_at hl 1 rfl) ?_
  refine lv_iconst (pc := 1) (v := 0) hx hb (dOk_at dX4_has 1 rfl) (by decide) ?_
  refine lv_aload_n (pc := 2) hx hb (dOk_at dX4_has 2 rfl) rfl (lv_at hl 0 rfl) ?_
  refine r_get (pc := 3) (ci := 4) fx hh inT4 rfl 2 (by decide) tFX4_19 rfl 0 rfl rfl (dOk_at dX4_has 3 rfl) ?_
  refine cl_SN (pc := 6) (w' := [(s0, .inr (4, [.ref s1, .int sla, .int sle]))]) (wr := [(s0, .inr (4, [.ref s1, .int sla, .int sle]))]) (rest := []) fx hh hl.1 (h_X6_isWithin i 0 sle) yS_X6_isWithin nMX4_28 ⟨rfl, rfl, Nat.le_of_ble_eq_true rfl, Nat.le_of_ble_eq_true rfl⟩ [] [0] [0] rfl rfl rfl (by decide) (by decide) rfl rfl (Nat.le_of_ble_eq_true rfl) ⟨Nat.le_of_ble_eq_true rfl, Nat.le_of_ble_eq_true rfl⟩ (dOk_at dX4_has 4 rfl) (fun H locs hh => ?_)
  refine lv_if_eq (pc := 9) (tgt := 30) hx hb (dOk_at dX4_has 5 rfl) (by decide) (fun c9 => ?_) (fun c9 => ?_)
  · have hv := hv.1 c9
    refine lv_iconst (pc := 30) (v := 0) hx hb (dOk_at dX4_has 16 rfl) (by decide) ?_
    have e0 := hv
    subst e0
    rw [hQ]
    exact r_zret (pc := 31) fx hh rfl (dOk_at dX4_has 17 rfl)
  · have hv := hv.2 c9
    refine lv_iload_n (pc := 12) hx hb (dOk_at dX4_has 6 rfl) rfl (lv_at hl 2 rfl) ?_
    refine lv_iconst (pc := 13) (v := 0) hx hb (dOk_at dX4_has 7 rfl) (by decide) ?_
    refine lv_aload_n (pc := 14) hx hb (dOk_at dX4_has 8 rfl) rfl (lv_at hl 0 rfl) ?_
    refine r_get (pc := 15) (ci := 4) fx hh inT4 rfl 2 (by decide) tFX4_19 rfl 0 rfl rfl (dOk_at dX4_has 9 rfl) ?_
    refine lv_iload_n (pc := 18) hx hb (dOk_at dX4_has 10 rfl) rfl (lv_at hl 1 rfl) ?_
    refine lv_isub (pc := 19) hx hb (dOk_at dX4_has 11 rfl) ?_
    refine cl_SN (pc := 20) (w' := [(s0, .inr (4, [.ref s1, .int sla, .int sle]))]) (wr := [(s0, .inr (4, [.ref s1, .int sla, .int sle]))]) (rest := []) fx hh hl.1 (h_X6_isWithin n 0 (sle - i)) yS_X6_isWithin nMX4_28 ⟨rfl, rfl, Nat.le_of_ble_eq_true rfl, Nat.le_of_ble_eq_true rfl⟩ [] [0] [0] rfl rfl rfl (by decide) (by decide) rfl rfl (Nat.le_of_ble_eq_true rfl) ⟨Nat.le_of_ble_eq_true rfl, Nat.le_of_ble_eq_true rfl⟩ (dOk_at dX4_has 12 rfl) (fun H locs hh => ?_)
    refine lv_if_eq (pc := 23) (tgt := 30) hx hb (dOk_at dX4_has 13 rfl) (by decide) (fun c23 => ?_) (fun c23 => ?_)
    · have hv := hv.1 c23
      refine lv_iconst (pc := 30) (v := 0) hx hb (dOk_at dX4_has 16 rfl) (by decide) ?_
      have e0 := hv
      subst e0
      rw [hQ]
      exact r_zret (pc := 31) fx hh rfl (dOk_at dX4_has 17 rfl)
    · have hv := hv.2 c23
      refine lv_iconst (pc := 26) (v := 1) hx hb (dOk_at dX4_has 14 rfl) (by decide) ?_
      refine lv_goto (pc := 27) (tgt := 31) hx hb (dOk_at dX4_has 15 rfl) (by decide) ?_
      have e0 := hv
      subst e0
      rw [hQ]
      exact r_zret (pc := 31) fx hh rfl (dOk_at dX4_has 17 rfl)
set_option maxRecDepth 100000 in
set_option maxHeartbeats 4000000 in
theorem wk_X4_set (l : Launch) (G : GT) (s0 : Nat) (s1 : Nat) (sla : Int32) (sle : Int32) (i : Int32) (v : Int32) (sn : Nat → Int32) (t1 : Nat → Int32)
    (hv : (sla = 0 → vp_in i 60 ∧ (upd sn i.toNatClampNeg v.toInt8.toInt32) = t1) ∧ (¬ sla = 0 → (sla = 1 → vp_in i 60 ∧ (upd sn i.toNatClampNeg v.toInt16.toInt32) = t1) ∧ (¬ sla = 1 → vp_in i 60 ∧ (upd sn i.toNatClampNeg v) = t1))) :
    MF l G yX4_set cX4_set 3 none rm_X4_set [.ref s0, .int i, .int v] [(s0, .inr (4, [.ref s1, .int sla, .int sle])), (s1, .inl (G.2.1, 60, .inl sn))] none [(s0, .inr (4, [.ref s1, .int sla, .int sle])), (s1, .inl (G.2.1, 60, .inl t1))] := by
  refine MF.of (by decide +kernel) (Nat.le_of_ble_eq_true rfl) ?_
  intro p e s m args below meth c A ls fx hh hl _
  have hx := fx.hx
  have hb := fx.hb
  have hl : lv_has ls 3 [(0, .ref s0), (1, .int i), (2, .int v)] := hl
  obtain ⟨Q, hQ⟩ : ∃ Q, Q = ZZ G A none [(s0, .inr (4, [.ref s1, .int sla, .int sle])), (s1, .inl (G.2.1, 60, .inl t1))] below args s := ⟨_, rfl⟩
  rw [← hQ]
  refine lv_aload_n (pc := 0) hx hb (dOk_at dX4_set 0 rfl) rfl (lv_at hl 0 rfl) ?_
  refine r_get (pc := 1) (ci := 4) fx hh inT4 rfl 1 (by decide) tFX4_15 rfl 0 rfl rfl (dOk_at dX4_set 1 rfl) ?_
  by_cases c4_0 : sla = 0
  · refine lv_lookup (pc := 4) (tgt := 32) (off := 28) hx hb (dOk_at dX4_set 2 rfl) (by decide) (by rw [c4_0]; decide) (by decide) ?_
    have hv := hv.1 c4_0
    refine lv_aload_n (pc := 32) hx hb (dOk_at dX4_set 3 rfl) rfl (lv_at hl 0 rfl) ?_
    refine r_get (pc := 33) (ci := 4) fx hh inT4 rfl 0 (by decide) tFX4_9 rfl 0 rfl rfl (dOk_at dX4_set 4 rfl) ?_
    refine lv_iload_n (pc := 36) hx hb (dOk_at dX4_set 5 rfl) rfl (lv_at hl 1 rfl) ?_
    refine lv_iload_n (pc := 37) hx hb (dOk_at dX4_set 6 rfl) rfl (lv_at hl 2 rfl) ?_
    refine lv_i2b (pc := 38) (v := v.toInt8.toInt32) hx hb (dOk_at dX4_set 7 rfl) rfl ?_
    refine r_iast (pc := 39) (w' := [(s0, .inr (4, [.ref s1, .int sla, .int sle])), (s1, .inl (G.2.1, 60, .inl (upd sn i.toNatClampNeg v.toInt8.toInt32)))]) fx hh 1 rfl hv.1 rfl (dOk_at dX4_set 8 rfl) (fun H locs hh => ?_)
    have hv := hv.2
    refine lv_goto (pc := 40) (tgt := 61) hx hb (dOk_at dX4_set 9 rfl) (by decide) ?_
    have e0 := hv
    subst e0
    rw [hQ]
    exact r_vret (pc := 61) fx hh (dOk_at dX4_set 22 rfl)
  · have hv := hv.2 c4_0
    by_cases c4_1 : sla = 1
    · refine lv_lookup (pc := 4) (tgt := 43) (off := 39) hx hb (dOk_at dX4_set 2 rfl) (by decide) (by rw [c4_1]; decide) (by decide) ?_
      have hv := hv.1 c4_1
      refine lv_aload_n (pc := 43) hx hb (dOk_at dX4_set 10 rfl) rfl (lv_at hl 0 rfl) ?_
      refine r_get (pc := 44) (ci := 4) fx hh inT4 rfl 0 (by decide) tFX4_9 rfl 0 rfl rfl (dOk_at dX4_set 11 rfl) ?_
      refine lv_iload_n (pc := 47) hx hb (dOk_at dX4_set 12 rfl) rfl (lv_at hl 1 rfl) ?_
      refine lv_iload_n (pc := 48) hx hb (dOk_at dX4_set 13 rfl) rfl (lv_at hl 2 rfl) ?_
      refine lv_i2s (pc := 49) (v := v.toInt16.toInt32) hx hb (dOk_at dX4_set 14 rfl) rfl ?_
      refine r_iast (pc := 50) (w' := [(s0, .inr (4, [.ref s1, .int sla, .int sle])), (s1, .inl (G.2.1, 60, .inl (upd sn i.toNatClampNeg v.toInt16.toInt32)))]) fx hh 1 rfl hv.1 rfl (dOk_at dX4_set 15 rfl) (fun H locs hh => ?_)
      have hv := hv.2
      refine lv_goto (pc := 51) (tgt := 61) hx hb (dOk_at dX4_set 16 rfl) (by decide) ?_
      have e0 := hv
      subst e0
      rw [hQ]
      exact r_vret (pc := 61) fx hh (dOk_at dX4_set 22 rfl)
    · have hv := hv.2 c4_1
      refine lv_lookup (pc := 4) (tgt := 54) (off := 50) hx hb (dOk_at dX4_set 2 rfl) (by decide) (by have w0 := sw_ne c4_0 (b := 0) (by decide); have w1 := sw_ne c4_1 (b := 1) (by decide); exact sw_look2 w0 w1) (by decide) ?_
      refine lv_aload_n (pc := 54) hx hb (dOk_at dX4_set 17 rfl) rfl (lv_at hl 0 rfl) ?_
      refine r_get (pc := 55) (ci := 4) fx hh inT4 rfl 0 (by decide) tFX4_9 rfl 0 rfl rfl (dOk_at dX4_set 18 rfl) ?_
      refine lv_iload_n (pc := 58) hx hb (dOk_at dX4_set 19 rfl) rfl (lv_at hl 1 rfl) ?_
      refine lv_iload_n (pc := 59) hx hb (dOk_at dX4_set 20 rfl) rfl (lv_at hl 2 rfl) ?_
      refine r_iast (pc := 60) (w' := [(s0, .inr (4, [.ref s1, .int sla, .int sle])), (s1, .inl (G.2.1, 60, .inl (upd sn i.toNatClampNeg v)))]) fx hh 1 rfl hv.1 rfl (dOk_at dX4_set 21 rfl) (fun H locs hh => ?_)
      have hv := hv.2
      have e0 := hv
      subst e0
      rw [hQ]
      exact r_vret (pc := 61) fx hh (dOk_at dX4_set 22 rfl)
set_option maxRecDepth 100000 in
set_option maxHeartbeats 4000000 in
theorem wk_X5_begin (l : Launch) (G : GT) (x0 : Nat) (x1 : Nat) (s0 : Nat) (s1 : Nat) (xl : Int32) (xp : Int32) (xw : Int32) (sla : Int32) (sle : Int32) (i : Int32) (n : Int32) (xc : Nat → Int32) (sn : Nat → Int32) (t0_1 : Int32) (t0_2 : Int32) (t0_3 : Int32) (t1 : Nat → Int32)
    (hv : ¬ i < 0 ∧ ¬ (0 : Int32) < 0 ∧ ¬ n < 0 ∧ i.toNatClampNeg + n.toNatClampNeg ≤ 60 ∧ (0 : Int32).toNatClampNeg + n.toNatClampNeg ≤ 60 ∧ (n = t0_1 ∧ (0 : Int32) = t0_2 ∧ (0 : Int32) = t0_3 ∧ (va_cpy sn xc i.toNatClampNeg ((0 : Int32).toNatClampNeg) n.toNatClampNeg) = t1)) :
    MF l G yX5_begin cX5_begin 4 none rm_X5_begin [.ref x0, .ref s0, .int i, .int n] [(x0, .inr (5, [.ref x1, .int xl, .int xp, .int xw])), (x1, .inl (G.2.1, 60, .inl xc)), (s0, .inr (4, [.ref s1, .int sla, .int sle])), (s1, .inl (G.2.1, 60, .inl sn))] none [(x0, .inr (5, [.ref x1, .int t0_1, .int t0_2, .int t0_3])), (x1, .inl (G.2.1, 60, .inl t1)), (s0, .inr (4, [.ref s1, .int sla, .int sle])), (s1, .inl (G.2.1, 60, .inl sn))] := by
  refine MF.of (by decide +kernel) (Nat.le_of_ble_eq_true rfl) ?_
  intro p e s m args below meth c A ls fx hh hl _
  have hx := fx.hx
  have hb := fx.hb
  have hl : lv_has ls 4 [(0, .ref x0), (1, .ref s0), (2, .int i), (3, .int n)] := hl
  obtain ⟨Q, hQ⟩ : ∃ Q, Q = ZZ G A none [(x0, .inr (5, [.ref x1, .int t0_1, .int t0_2, .int t0_3])), (x1, .inl (G.2.1, 60, .inl t1)), (s0, .inr (4, [.ref s1, .int sla, .int sle])), (s1, .inl (G.2.1, 60, .inl sn))] below args s := ⟨_, rfl⟩
  rw [← hQ]
  refine lv_aload_n (pc := 0) hx hb (dOk_at dX5_begin 0 rfl) rfl (lv_at hl 1 rfl) ?_
  refine r_getN (pc := 1) (ci := 4) fx hh inT4 rfl 0 (by decide) nFX5_26 rfl 2 rfl rfl (dOk_at dX5_begin 1 rfl) ?_
  refine lv_iload_n (pc := 4) hx hb (dOk_at dX5_begin 2 rfl) rfl (lv_at hl 2 rfl) ?_
  refine lv_aload_n (pc := 5) hx hb (dOk_at dX5_begin 3 rfl) rfl (lv_at hl 0 rfl) ?_
  refine r_get (pc := 6) (ci := 5) fx hh inT5 rfl 0 (by decide) tFX5_9 rfl 0 rfl rfl (dOk_at dX5_begin 4 rfl) ?_
  refine lv_iconst (pc := 9) (v := 0) hx hb (dOk_at dX5_begin 5 rfl) (by decide) ?_
  refine lv_iload_n (pc := 10) hx hb (dOk_at dX5_begin 6 rfl) rfl (lv_at hl 3 rfl) ?_
  refine r_copyi (pc := 11) (w' := [(x0, .inr (5, [.ref x1, .int xl, .int xp, .int xw])), (x1, .inl (G.2.1, 60, .inl (va_cpy sn xc i.toNatClampNeg ((0 : Int32).toNatClampNeg) n.toNatClampNeg))), (s0, .inr (4, [.ref s1, .int sla, .int sle])), (s1, .inl (G.2.1, 60, .inl sn))]) fx hh hl.1 tMX5_31 3 1 rfl rfl hv.1 hv.2.1 hv.2.2.1 hv.2.2.2.1 hv.2.2.2.2.1 rfl (Nat.le_of_ble_eq_true rfl) (Nat.le_of_ble_eq_true rfl) (dOk_at dX5_begin 7 rfl) (fun H locs hh => ?_)
  have hv := hv.2.2.2.2.2
  refine lv_aload_n (pc := 14) hx hb (dOk_at dX5_begin 8 rfl) rfl (lv_at hl 0 rfl) ?_
  refine lv_iload_n (pc := 15) hx hb (dOk_at dX5_begin 9 rfl) rfl (lv_at hl 3 rfl) ?_
  refine r_put (pc := 16) (ci := 5) (w' := [(x0, .inr (5, [.ref x1, .int n, .int xp, .int xw])), (x1, .inl (G.2.1, 60, .inl (va_cpy sn xc i.toNatClampNeg ((0 : Int32).toNatClampNeg) n.toNatClampNeg))), (s0, .inr (4, [.ref s1, .int sla, .int sle])), (s1, .inl (G.2.1, 60, .inl sn))]) fx hh inT5 tyX5 tyX5_ok nmX5 rfl 1 (by decide) tFX5_15 rfl rfl 0 rfl rfl rfl (Nat.le_of_ble_eq_true rfl) rfl (dOk_at dX5_begin 10 rfl) (fun H locs hh => ?_)
  refine lv_aload_n (pc := 19) hx hb (dOk_at dX5_begin 11 rfl) rfl (lv_at hl 0 rfl) ?_
  refine lv_iconst (pc := 20) (v := 0) hx hb (dOk_at dX5_begin 12 rfl) (by decide) ?_
  refine r_put (pc := 21) (ci := 5) (w' := [(x0, .inr (5, [.ref x1, .int n, .int 0, .int xw])), (x1, .inl (G.2.1, 60, .inl (va_cpy sn xc i.toNatClampNeg ((0 : Int32).toNatClampNeg) n.toNatClampNeg))), (s0, .inr (4, [.ref s1, .int sla, .int sle])), (s1, .inl (G.2.1, 60, .inl sn))]) fx hh inT5 tyX5 tyX5_ok nmX5 rfl 2 (by decide) tFX5_19 rfl rfl 0 rfl rfl rfl (Nat.le_of_ble_eq_true rfl) rfl (dOk_at dX5_begin 13 rfl) (fun H locs hh => ?_)
  refine lv_aload_n (pc := 24) hx hb (dOk_at dX5_begin 14 rfl) rfl (lv_at hl 0 rfl) ?_
  refine lv_iconst (pc := 25) (v := 0) hx hb (dOk_at dX5_begin 15 rfl) (by decide) ?_
  refine r_put (pc := 26) (ci := 5) (w' := [(x0, .inr (5, [.ref x1, .int n, .int 0, .int 0])), (x1, .inl (G.2.1, 60, .inl (va_cpy sn xc i.toNatClampNeg ((0 : Int32).toNatClampNeg) n.toNatClampNeg))), (s0, .inr (4, [.ref s1, .int sla, .int sle])), (s1, .inl (G.2.1, 60, .inl sn))]) fx hh inT5 tyX5 tyX5_ok nmX5 rfl 3 (by decide) tFX5_22 rfl rfl 0 rfl rfl rfl (Nat.le_of_ble_eq_true rfl) rfl (dOk_at dX5_begin 16 rfl) (fun H locs hh => ?_)
  obtain ⟨e0, e1, e2, e3⟩ := hv
  subst e0
  subst e1
  subst e2
  subst e3
  rw [hQ]
  exact r_vret (pc := 29) fx hh (dOk_at dX5_begin 17 rfl)
set_option maxRecDepth 100000 in
set_option maxHeartbeats 4000000 in
theorem wk_X5_goesOn (l : Launch) (G : GT) (x0 : Nat) (x1 : Nat) (xl : Int32) (xp : Int32) (xw : Int32) (R : Int32)
    (hv : (¬ xw = 0 → (0 : Int32) = R) ∧ (xw = 0 → (xl ≤ xp → (0 : Int32) = R) ∧ (¬ xl ≤ xp → (1 : Int32) = R))) :
    MF l G yX5_goesOn cX5_goesOn 1 (some .boolean) rm_X5_goesOn [.ref x0] [(x0, .inr (5, [.ref x1, .int xl, .int xp, .int xw]))] (some (.int R)) [(x0, .inr (5, [.ref x1, .int xl, .int xp, .int xw]))] := by
  refine MF.of (by decide +kernel) (Nat.le_of_ble_eq_true rfl) ?_
  intro p e s m args below meth c A ls fx hh hl _
  have hx := fx.hx
  have hb := fx.hb
  have hl : lv_has ls 1 [(0, .ref x0)] := hl
  obtain ⟨Q, hQ⟩ : ∃ Q, Q = ZZ G A (some (.int R)) [(x0, .inr (5, [.ref x1, .int xl, .int xp, .int xw]))] below args s := ⟨_, rfl⟩
  rw [← hQ]
  refine lv_aload_n (pc := 0) hx hb (dOk_at dX5_goesOn 0 rfl) rfl (lv_at hl 0 rfl) ?_
  refine r_get (pc := 1) (ci := 5) fx hh inT5 rfl 3 (by decide) tFX5_22 rfl 0 rfl rfl (dOk_at dX5_goesOn 1 rfl) ?_
  refine lv_if_ne (pc := 4) (tgt := 22) hx hb (dOk_at dX5_goesOn 2 rfl) (by decide) (fun c4 => ?_) (fun c4 => ?_)
  · have hv := hv.1 c4
    refine lv_iconst (pc := 22) (v := 0) hx hb (dOk_at dX5_goesOn 10 rfl) (by decide) ?_
    have e0 := hv
    subst e0
    rw [hQ]
    exact r_zret (pc := 23) fx hh rfl (dOk_at dX5_goesOn 11 rfl)
  · have hv := hv.2 c4
    refine lv_aload_n (pc := 7) hx hb (dOk_at dX5_goesOn 3 rfl) rfl (lv_at hl 0 rfl) ?_
    refine r_get (pc := 8) (ci := 5) fx hh inT5 rfl 2 (by decide) tFX5_19 rfl 0 rfl rfl (dOk_at dX5_goesOn 4 rfl) ?_
    refine lv_aload_n (pc := 11) hx hb (dOk_at dX5_goesOn 5 rfl) rfl (lv_at hl 0 rfl) ?_
    refine r_get (pc := 12) (ci := 5) fx hh inT5 rfl 1 (by decide) tFX5_15 rfl 0 rfl rfl (dOk_at dX5_goesOn 6 rfl) ?_
    refine lv_icmp_ge (pc := 15) (tgt := 22) hx hb (dOk_at dX5_goesOn 7 rfl) (by decide) (fun c15 => ?_) (fun c15 => ?_)
    · have hv := hv.1 c15
      refine lv_iconst (pc := 22) (v := 0) hx hb (dOk_at dX5_goesOn 10 rfl) (by decide) ?_
      have e0 := hv
      subst e0
      rw [hQ]
      exact r_zret (pc := 23) fx hh rfl (dOk_at dX5_goesOn 11 rfl)
    · have hv := hv.2 c15
      refine lv_iconst (pc := 18) (v := 1) hx hb (dOk_at dX5_goesOn 8 rfl) (by decide) ?_
      refine lv_goto (pc := 19) (tgt := 23) hx hb (dOk_at dX5_goesOn 9 rfl) (by decide) ?_
      have e0 := hv
      subst e0
      rw [hQ]
      exact r_zret (pc := 23) fx hh rfl (dOk_at dX5_goesOn 11 rfl)
set_option maxRecDepth 100000 in
set_option maxHeartbeats 4000000 in
theorem wk_X5_take (l : Launch) (G : GT) (x0 : Nat) (x1 : Nat) (xl : Int32) (xp : Int32) (xw : Int32) (least : Int32) (most : Int32) (xc : Nat → Int32) (R : Int32) (t0_2 : Int32) (t0_3 : Int32) (h_X5_goesOn : K_X5_goesOn l G) (h_X6_isWithin : K_X6_isWithin l G)
    (hv : ((s_goesOn xl xp xw) = 0 → (0 : Int32) = R ∧ xp = t0_2 ∧ (1 : Int32) = t0_3) ∧ (¬ (s_goesOn xl xp xw) = 0 → vp_in xp 60 ∧ ((¬ (s_in (xc xp.toNatClampNeg) least most) = 0 → vp_in ((xp + 1) - 1) 60 ∧ (((xc ((xp + 1) - 1).toNatClampNeg) - least) = R ∧ (xp + 1) = t0_2 ∧ xw = t0_3)) ∧ ((s_in (xc xp.toNatClampNeg) least most) = 0 → (0 : Int32) = R ∧ xp = t0_2 ∧ (1 : Int32) = t0_3)))) :
    MF l G yX5_take cX5_take 3 (some .int) rm_X5_take [.ref x0, .int least, .int most] [(x0, .inr (5, [.ref x1, .int xl, .int xp, .int xw])), (x1, .inl (G.2.1, 60, .inl xc))] (some (.int R)) [(x0, .inr (5, [.ref x1, .int xl, .int t0_2, .int t0_3])), (x1, .inl (G.2.1, 60, .inl xc))] := by
  refine MF.of (by decide +kernel) (Nat.le_of_ble_eq_true rfl) ?_
  intro p e s m args below meth c A ls fx hh hl _
  have hx := fx.hx
  have hb := fx.hb
  have hl : lv_has ls 3 [(0, .ref x0), (1, .int least), (2, .int most)] := hl
  obtain ⟨Q, hQ⟩ : ∃ Q, Q = ZZ G A (some (.int R)) [(x0, .inr (5, [.ref x1, .int xl, .int t0_2, .int t0_3])), (x1, .inl (G.2.1, 60, .inl xc))] below args s := ⟨_, rfl⟩
  rw [← hQ]
  refine lv_aload_n (pc := 0) hx hb (dOk_at dX5_take 0 rfl) rfl (lv_at hl 0 rfl) ?_
  refine cl_V (pc := 1) (w' := [(x0, .inr (5, [.ref x1, .int xl, .int xp, .int xw])), (x1, .inl (G.2.1, 60, .inl xc))]) (wr := [(x1, .inl (G.2.1, 60, .inl xc))]) (rest := []) fx hh hl.1 (h_X5_goesOn x0 x1 xl xp xw) yV_X5_goesOn tMX5_37 ⟨rfl, rfl, Nat.le_of_ble_eq_true rfl, Nat.le_of_ble_eq_true rfl⟩ 0 5 rfl rfl rfl [0] [1] [1, 0] rfl rfl rfl (by decide) (by decide) rfl rfl (Nat.le_of_ble_eq_true rfl) ⟨Nat.le_of_ble_eq_true rfl, Nat.le_of_ble_eq_true rfl⟩ (dOk_at dX5_take 1 rfl) (fun H locs hh => ?_)
  refine lv_if_eq (pc := 4) (tgt := 24) hx hb (dOk_at dX5_take 2 rfl) (by decide) (fun c4 => ?_) (fun c4 => ?_)
  · have hv := hv.1 c4
    refine lv_aload_n (pc := 24) hx hb (dOk_at dX5_take 12 rfl) rfl (lv_at hl 0 rfl) ?_
    refine lv_iconst (pc := 25) (v := 1) hx hb (dOk_at dX5_take 13 rfl) (by decide) ?_
    refine r_put (pc := 26) (ci := 5) (w' := [(x0, .inr (5, [.ref x1, .int xl, .int xp, .int 1])), (x1, .inl (G.2.1, 60, .inl xc))]) fx hh inT5 tyX5 tyX5_ok nmX5 rfl 3 (by decide) tFX5_22 rfl rfl 0 rfl rfl rfl (Nat.le_of_ble_eq_true rfl) rfl (dOk_at dX5_take 14 rfl) (fun H locs hh => ?_)
    refine lv_iconst (pc := 29) (v := 0) hx hb (dOk_at dX5_take 15 rfl) (by decide) ?_
    obtain ⟨e0, e1, e2⟩ := hv
    subst e0
    subst e1
    subst e2
    rw [hQ]
    exact r_iret (pc := 30) fx hh (dOk_at dX5_take 16 rfl)
  · have hv := hv.2 c4
    refine lv_aload_n (pc := 7) hx hb (dOk_at dX5_take 3 rfl) rfl (lv_at hl 0 rfl) ?_
    refine r_get (pc := 8) (ci := 5) fx hh inT5 rfl 0 (by decide) tFX5_9 rfl 0 rfl rfl (dOk_at dX5_take 4 rfl) ?_
    refine lv_aload_n (pc := 11) hx hb (dOk_at dX5_take 5 rfl) rfl (lv_at hl 0 rfl) ?_
    refine r_get (pc := 12) (ci := 5) fx hh inT5 rfl 2 (by decide) tFX5_19 rfl 0 rfl rfl (dOk_at dX5_take 6 rfl) ?_
    refine r_iald (pc := 15) fx hh 1 rfl hv.1 (dOk_at dX5_take 7 rfl) ?_
    have hv := hv.2
    refine lv_iload_n (pc := 16) hx hb (dOk_at dX5_take 8 rfl) rfl (lv_at hl 1 rfl) ?_
    refine lv_iload_n (pc := 17) hx hb (dOk_at dX5_take 9 rfl) rfl (lv_at hl 2 rfl) ?_
    refine cl_SN (pc := 18) (w' := [(x0, .inr (5, [.ref x1, .int xl, .int xp, .int xw])), (x1, .inl (G.2.1, 60, .inl xc))]) (wr := [(x0, .inr (5, [.ref x1, .int xl, .int xp, .int xw])), (x1, .inl (G.2.1, 60, .inl xc))]) (rest := []) fx hh hl.1 (h_X6_isWithin (xc xp.toNatClampNeg) least most) yS_X6_isWithin nMX5_41 ⟨rfl, rfl, Nat.le_of_ble_eq_true rfl, Nat.le_of_ble_eq_true rfl⟩ [] [0, 1] [0, 1] rfl rfl rfl (by decide) (by decide) rfl rfl (Nat.le_of_ble_eq_true rfl) ⟨Nat.le_of_ble_eq_true rfl, Nat.le_of_ble_eq_true rfl⟩ (dOk_at dX5_take 10 rfl) (fun H locs hh => ?_)
    refine lv_if_ne (pc := 21) (tgt := 31) hx hb (dOk_at dX5_take 11 rfl) (by decide) (fun c21 => ?_) (fun c21 => ?_)
    · have hv := hv.1 c21
      refine lv_aload_n (pc := 31) hx hb (dOk_at dX5_take 17 rfl) rfl (lv_at hl 0 rfl) ?_
      refine lv_dup (pc := 32) hx hb (dOk_at dX5_take 18 rfl) rfl ?_
      refine r_get (pc := 33) (ci := 5) fx hh inT5 rfl 2 (by decide) tFX5_19 rfl 0 rfl rfl (dOk_at dX5_take 19 rfl) ?_
      refine lv_iconst (pc := 36) (v := 1) hx hb (dOk_at dX5_take 20 rfl) (by decide) ?_
      refine lv_iadd (pc := 37) hx hb (dOk_at dX5_take 21 rfl) ?_
      refine r_put (pc := 38) (ci := 5) (w' := [(x0, .inr (5, [.ref x1, .int xl, .int (xp + 1), .int xw])), (x1, .inl (G.2.1, 60, .inl xc))]) fx hh inT5 tyX5 tyX5_ok nmX5 rfl 2 (by decide) tFX5_19 rfl rfl 0 rfl rfl rfl (Nat.le_of_ble_eq_true rfl) rfl (dOk_at dX5_take 22 rfl) (fun H locs hh => ?_)
      refine lv_aload_n (pc := 41) hx hb (dOk_at dX5_take 23 rfl) rfl (lv_at hl 0 rfl) ?_
      refine r_get (pc := 42) (ci := 5) fx hh inT5 rfl 0 (by decide) tFX5_9 rfl 0 rfl rfl (dOk_at dX5_take 24 rfl) ?_
      refine lv_aload_n (pc := 45) hx hb (dOk_at dX5_take 25 rfl) rfl (lv_at hl 0 rfl) ?_
      refine r_get (pc := 46) (ci := 5) fx hh inT5 rfl 2 (by decide) tFX5_19 rfl 0 rfl rfl (dOk_at dX5_take 26 rfl) ?_
      refine lv_iconst (pc := 49) (v := 1) hx hb (dOk_at dX5_take 27 rfl) (by decide) ?_
      refine lv_isub (pc := 50) hx hb (dOk_at dX5_take 28 rfl) ?_
      refine r_iald (pc := 51) fx hh 1 rfl hv.1 (dOk_at dX5_take 29 rfl) ?_
      have hv := hv.2
      refine lv_iload_n (pc := 52) hx hb (dOk_at dX5_take 30 rfl) rfl (lv_at hl 1 rfl) ?_
      refine lv_isub (pc := 53) hx hb (dOk_at dX5_take 31 rfl) ?_
      obtain ⟨e0, e1, e2⟩ := hv
      subst e0
      subst e1
      subst e2
      rw [hQ]
      exact r_iret (pc := 54) fx hh (dOk_at dX5_take 32 rfl)
    · have hv := hv.2 c21
      refine lv_aload_n (pc := 24) hx hb (dOk_at dX5_take 12 rfl) rfl (lv_at hl 0 rfl) ?_
      refine lv_iconst (pc := 25) (v := 1) hx hb (dOk_at dX5_take 13 rfl) (by decide) ?_
      refine r_put (pc := 26) (ci := 5) (w' := [(x0, .inr (5, [.ref x1, .int xl, .int xp, .int 1])), (x1, .inl (G.2.1, 60, .inl xc))]) fx hh inT5 tyX5 tyX5_ok nmX5 rfl 3 (by decide) tFX5_22 rfl rfl 0 rfl rfl rfl (Nat.le_of_ble_eq_true rfl) rfl (dOk_at dX5_take 14 rfl) (fun H locs hh => ?_)
      refine lv_iconst (pc := 29) (v := 0) hx hb (dOk_at dX5_take 15 rfl) (by decide) ?_
      obtain ⟨e0, e1, e2⟩ := hv
      subst e0
      subst e1
      subst e2
      rw [hQ]
      exact r_iret (pc := 30) fx hh (dOk_at dX5_take 16 rfl)
set_option maxRecDepth 100000 in
set_option maxHeartbeats 4000000 in
theorem wk_X5_digit (l : Launch) (G : GT) (x0 : Nat) (x1 : Nat) (xl : Int32) (xp : Int32) (xw : Int32) (least : Int32) (most : Int32) (xc : Nat → Int32) (R : Int32) (t0_2 : Int32) (t0_3 : Int32) (h_X5_take : K_X5_take l G)
    (hv : okT xl xp ∧ ((least + (s_takeR xl xp xw xc (48 + least) (48 + most))) = R ∧ (s_takeP xl xp xw xc (48 + least) (48 + most)) = t0_2 ∧ (s_takeW xl xp xw xc (48 + least) (48 + most)) = t0_3)) :
    MF l G yX5_digit cX5_digit 3 (some .int) rm_X5_digit [.ref x0, .int least, .int most] [(x0, .inr (5, [.ref x1, .int xl, .int xp, .int xw])), (x1, .inl (G.2.1, 60, .inl xc))] (some (.int R)) [(x0, .inr (5, [.ref x1, .int xl, .int t0_2, .int t0_3])), (x1, .inl (G.2.1, 60, .inl xc))] := by
  refine MF.of (by decide +kernel) (Nat.le_of_ble_eq_true rfl) ?_
  intro p e s m args below meth c A ls fx hh hl _
  have hx := fx.hx
  have hb := fx.hb
  have hl : lv_has ls 3 [(0, .ref x0), (1, .int least), (2, .int most)] := hl
  obtain ⟨Q, hQ⟩ : ∃ Q, Q = ZZ G A (some (.int R)) [(x0, .inr (5, [.ref x1, .int xl, .int t0_2, .int t0_3])), (x1, .inl (G.2.1, 60, .inl xc))] below args s := ⟨_, rfl⟩
  rw [← hQ]
  refine lv_iload_n (pc := 0) hx hb (dOk_at dX5_digit 0 rfl) rfl (lv_at hl 1 rfl) ?_
  refine lv_aload_n (pc := 1) hx hb (dOk_at dX5_digit 1 rfl) rfl (lv_at hl 0 rfl) ?_
  refine lv_bipush (pc := 2) (v := 48) hx hb (dOk_at dX5_digit 2 rfl) (by decide) ?_
  refine lv_iload_n (pc := 4) hx hb (dOk_at dX5_digit 3 rfl) rfl (lv_at hl 1 rfl) ?_
  refine lv_iadd (pc := 5) hx hb (dOk_at dX5_digit 4 rfl) ?_
  refine lv_bipush (pc := 6) (v := 48) hx hb (dOk_at dX5_digit 5 rfl) (by decide) ?_
  refine lv_iload_n (pc := 8) hx hb (dOk_at dX5_digit 6 rfl) rfl (lv_at hl 2 rfl) ?_
  refine lv_iadd (pc := 9) hx hb (dOk_at dX5_digit 7 rfl) ?_
  refine cl_V (pc := 10) (w' := [(x0, .inr (5, [.ref x1, .int xl, .int (s_takeP xl xp xw xc (48 + least) (48 + most)), .int (s_takeW xl xp xw xc (48 + least) (48 + most))])), (x1, .inl (G.2.1, 60, .inl xc))]) (wr := []) (rest := [.int least]) fx hh hl.1 (h_X5_take x0 x1 xl xp xw (48 + least) (48 + most) xc hv.1) yV_X5_take tMX5_45 ⟨rfl, rfl, Nat.le_of_ble_eq_true rfl, Nat.le_of_ble_eq_true rfl⟩ 0 5 rfl rfl rfl [0, 1] [] [0, 1] rfl rfl rfl (by decide) (by decide) rfl rfl (Nat.le_of_ble_eq_true rfl) ⟨Nat.le_of_ble_eq_true rfl, Nat.le_of_ble_eq_true rfl⟩ (dOk_at dX5_digit 8 rfl) (fun H locs hh => ?_)
  have hv := hv.2
  refine lv_iadd (pc := 13) hx hb (dOk_at dX5_digit 9 rfl) ?_
  obtain ⟨e0, e1, e2⟩ := hv
  subst e0
  subst e1
  subst e2
  rw [hQ]
  exact r_iret (pc := 14) fx hh (dOk_at dX5_digit 10 rfl)
set_option maxRecDepth 100000 in
set_option maxHeartbeats 4000000 in
theorem wk_X5_sign (l : Launch) (G : GT) (x0 : Nat) (x1 : Nat) (xl : Int32) (xp : Int32) (xw : Int32) (code : Int32) (xc : Nat → Int32) (t0_2 : Int32) (t0_3 : Int32) (h_X5_take : K_X5_take l G)
    (hv : okT xl xp ∧ ((s_takeP xl xp xw xc code code) = t0_2 ∧ (s_takeW xl xp xw xc code code) = t0_3)) :
    MF l G yX5_sign cX5_sign 2 none rm_X5_sign [.ref x0, .int code] [(x0, .inr (5, [.ref x1, .int xl, .int xp, .int xw])), (x1, .inl (G.2.1, 60, .inl xc))] none [(x0, .inr (5, [.ref x1, .int xl, .int t0_2, .int t0_3])), (x1, .inl (G.2.1, 60, .inl xc))] := by
  refine MF.of (by decide +kernel) (Nat.le_of_ble_eq_true rfl) ?_
  intro p e s m args below meth c A ls fx hh hl _
  have hx := fx.hx
  have hb := fx.hb
  have hl : lv_has ls 2 [(0, .ref x0), (1, .int code)] := hl
  obtain ⟨Q, hQ⟩ : ∃ Q, Q = ZZ G A none [(x0, .inr (5, [.ref x1, .int xl, .int t0_2, .int t0_3])), (x1, .inl (G.2.1, 60, .inl xc))] below args s := ⟨_, rfl⟩
  rw [← hQ]
  refine lv_aload_n (pc := 0) hx hb (dOk_at dX5_sign 0 rfl) rfl (lv_at hl 0 rfl) ?_
  refine lv_iload_n (pc := 1) hx hb (dOk_at dX5_sign 1 rfl) rfl (lv_at hl 1 rfl) ?_
  refine lv_iload_n (pc := 2) hx hb (dOk_at dX5_sign 2 rfl) rfl (lv_at hl 1 rfl) ?_
  refine cl_V (pc := 3) (w' := [(x0, .inr (5, [.ref x1, .int xl, .int (s_takeP xl xp xw xc code code), .int (s_takeW xl xp xw xc code code)])), (x1, .inl (G.2.1, 60, .inl xc))]) (wr := []) (rest := []) fx hh hl.1 (h_X5_take x0 x1 xl xp xw code code xc hv.1) yV_X5_take tMX5_45 ⟨rfl, rfl, Nat.le_of_ble_eq_true rfl, Nat.le_of_ble_eq_true rfl⟩ 0 5 rfl rfl rfl [0, 1] [] [0, 1] rfl rfl rfl (by decide) (by decide) rfl rfl (Nat.le_of_ble_eq_true rfl) ⟨Nat.le_of_ble_eq_true rfl, Nat.le_of_ble_eq_true rfl⟩ (dOk_at dX5_sign 3 rfl) (fun H locs hh => ?_)
  have hv := hv.2
  refine lv_pop (pc := 6) hx hb (dOk_at dX5_sign 4 rfl) rfl ?_
  obtain ⟨e0, e1⟩ := hv
  subst e0
  subst e1
  rw [hQ]
  exact r_vret (pc := 7) fx hh (dOk_at dX5_sign 5 rfl)
set_option maxRecDepth 100000 in
set_option maxHeartbeats 4000000 in
theorem wk_X5_kind (l : Launch) (G : GT) (x0 : Nat) (x1 : Nat) (xl : Int32) (xp : Int32) (xw : Int32) (xc : Nat → Int32) (R : Int32) (t0_2 : Int32) (t0_3 : Int32) (h_X5_goesOn : K_X5_goesOn l G) (h_X5_sign : K_X5_sign l G)
    (hv : (((s_goesOn xl xp xw) = 0 → True) ∧ (¬ (s_goesOn xl xp xw) = 0 → vp_in xp 60)) ∧ (∀ (v20 : Int32), v20 = (if (s_goesOn xl xp xw) = 0 then (0 : Int32) else xc xp.toNatClampNeg) → (¬ v20 = 107 → (¬ v20 = 98 → okT xl xp ∧ ((0 : Int32) = R ∧ (s_takeP xl xp xw xc 115 115) = t0_2 ∧ (s_takeW xl xp xw xc 115 115) = t0_3)) ∧ (v20 = 98 → okT xl xp ∧ ((2 : Int32) = R ∧ (s_takeP xl xp xw xc 98 98) = t0_2 ∧ (s_takeW xl xp xw xc 98 98) = t0_3))) ∧ (v20 = 107 → okT xl xp ∧ ((1 : Int32) = R ∧ (s_takeP xl xp xw xc 107 107) = t0_2 ∧ (s_takeW xl xp xw xc 107 107) = t0_3)))) :
    MF l G yX5_kind cX5_kind 2 (some .int) rm_X5_kind [.ref x0] [(x0, .inr (5, [.ref x1, .int xl, .int xp, .int xw])), (x1, .inl (G.2.1, 60, .inl xc))] (some (.int R)) [(x0, .inr (5, [.ref x1, .int xl, .int t0_2, .int t0_3])), (x1, .inl (G.2.1, 60, .inl xc))] := by
  refine MF.of (by decide +kernel) (Nat.le_of_ble_eq_true rfl) ?_
  intro p e s m args below meth c A ls fx hh hl _
  have hx := fx.hx
  have hb := fx.hb
  have hl : lv_has ls 2 [(0, .ref x0)] := hl
  obtain ⟨Q, hQ⟩ : ∃ Q, Q = ZZ G A (some (.int R)) [(x0, .inr (5, [.ref x1, .int xl, .int t0_2, .int t0_3])), (x1, .inl (G.2.1, 60, .inl xc))] below args s := ⟨_, rfl⟩
  rw [← hQ]
  refine lv_aload_n (pc := 0) hx hb (dOk_at dX5_kind 0 rfl) rfl (lv_at hl 0 rfl) ?_
  refine cl_V (pc := 1) (w' := [(x0, .inr (5, [.ref x1, .int xl, .int xp, .int xw])), (x1, .inl (G.2.1, 60, .inl xc))]) (wr := [(x1, .inl (G.2.1, 60, .inl xc))]) (rest := []) fx hh hl.1 (h_X5_goesOn x0 x1 xl xp xw) yV_X5_goesOn tMX5_37 ⟨rfl, rfl, Nat.le_of_ble_eq_true rfl, Nat.le_of_ble_eq_true rfl⟩ 0 5 rfl rfl rfl [0] [1] [1, 0] rfl rfl rfl (by decide) (by decide) rfl rfl (Nat.le_of_ble_eq_true rfl) ⟨Nat.le_of_ble_eq_true rfl, Nat.le_of_ble_eq_true rfl⟩ (dOk_at dX5_kind 1 rfl) (fun H locs hh => ?_)
  have k20_4 : ∀ (v20 : Int32), v20 = (if (s_goesOn xl xp xw) = 0 then (0 : Int32) else xc xp.toNatClampNeg) → ∀ (H : Heap) (locs : List Loc) (ls : Array Slot), HP G A [(x0, .inr (5, [.ref x1, .int xl, .int xp, .int xw])), (x1, .inl (G.2.1, 60, .inl xc))] s H locs → lv_has ls 2 [(0, .ref x0)] → W p l e rm_X5_kind s m args below meth c H locs 0 0 Q (F0 m 20 ls [.int v20]) := by
    intro v20 e20_0 H locs ls hh hl
    have hv := hv.2 v20 e20_0
    refine lv_istore_n (pc := 20) (lv' := [(1, .int v20), (0, .ref x0)]) hx hb (dOk_at dX5_kind 10 rfl) rfl hl (by decide) rfl (fun ls hl => ?_)
    refine lv_iload_n (pc := 21) hx hb (dOk_at dX5_kind 11 rfl) rfl (lv_at hl 0 rfl) ?_
    refine lv_bipush (pc := 22) (v := 107) hx hb (dOk_at dX5_kind 12 rfl) (by decide) ?_
    refine lv_icmp_ne (pc := 24) (tgt := 35) hx hb (dOk_at dX5_kind 13 rfl) (by decide) (fun c24 => ?_) (fun c24 => ?_)
    · have hv := hv.1 c24
      refine lv_iload_n (pc := 35) hx hb (dOk_at dX5_kind 19 rfl) rfl (lv_at hl 0 rfl) ?_
      refine lv_bipush (pc := 36) (v := 98) hx hb (dOk_at dX5_kind 20 rfl) (by decide) ?_
      refine lv_icmp_ne (pc := 38) (tgt := 49) hx hb (dOk_at dX5_kind 21 rfl) (by decide) (fun c38 => ?_) (fun c38 => ?_)
      · have hv := hv.1 c38
        refine lv_aload_n (pc := 49) hx hb (dOk_at dX5_kind 27 rfl) rfl (lv_at hl 1 rfl) ?_
        refine lv_bipush (pc := 50) (v := 115) hx hb (dOk_at dX5_kind 28 rfl) (by decide) ?_
        refine cl_V (pc := 52) (w' := [(x0, .inr (5, [.ref x1, .int xl, .int (s_takeP xl xp xw xc 115 115), .int (s_takeW xl xp xw xc 115 115)])), (x1, .inl (G.2.1, 60, .inl xc))]) (wr := []) (rest := []) fx hh hl.1 (h_X5_sign x0 x1 xl xp xw 115 xc hv.1) yV_X5_sign tMX5_49 ⟨rfl, rfl, Nat.le_of_ble_eq_true rfl, Nat.le_of_ble_eq_true rfl⟩ 0 5 rfl rfl rfl [0, 1] [] [0, 1] rfl rfl rfl (by decide) (by decide) rfl rfl (Nat.le_of_ble_eq_true rfl) ⟨Nat.le_of_ble_eq_true rfl, Nat.le_of_ble_eq_true rfl⟩ (dOk_at dX5_kind 29 rfl) (fun H locs hh => ?_)
        have hv := hv.2
        refine lv_iconst (pc := 55) (v := 0) hx hb (dOk_at dX5_kind 30 rfl) (by decide) ?_
        obtain ⟨e0, e1, e2⟩ := hv
        subst e0
        subst e1
        subst e2
        rw [hQ]
        exact r_iret (pc := 56) fx hh (dOk_at dX5_kind 31 rfl)
      · have hv := hv.2 c38
        refine lv_aload_n (pc := 41) hx hb (dOk_at dX5_kind 22 rfl) rfl (lv_at hl 1 rfl) ?_
        refine lv_bipush (pc := 42) (v := 98) hx hb (dOk_at dX5_kind 23 rfl) (by decide) ?_
        refine cl_V (pc := 44) (w' := [(x0, .inr (5, [.ref x1, .int xl, .int (s_takeP xl xp xw xc 98 98), .int (s_takeW xl xp xw xc 98 98)])), (x1, .inl (G.2.1, 60, .inl xc))]) (wr := []) (rest := []) fx hh hl.1 (h_X5_sign x0 x1 xl xp xw 98 xc hv.1) yV_X5_sign tMX5_49 ⟨rfl, rfl, Nat.le_of_ble_eq_true rfl, Nat.le_of_ble_eq_true rfl⟩ 0 5 rfl rfl rfl [0, 1] [] [0, 1] rfl rfl rfl (by decide) (by decide) rfl rfl (Nat.le_of_ble_eq_true rfl) ⟨Nat.le_of_ble_eq_true rfl, Nat.le_of_ble_eq_true rfl⟩ (dOk_at dX5_kind 24 rfl) (fun H locs hh => ?_)
        have hv := hv.2
        refine lv_iconst (pc := 47) (v := 2) hx hb (dOk_at dX5_kind 25 rfl) (by decide) ?_
        obtain ⟨e0, e1, e2⟩ := hv
        subst e0
        subst e1
        subst e2
        rw [hQ]
        exact r_iret (pc := 48) fx hh (dOk_at dX5_kind 26 rfl)
    · have hv := hv.2 c24
      refine lv_aload_n (pc := 27) hx hb (dOk_at dX5_kind 14 rfl) rfl (lv_at hl 1 rfl) ?_
      refine lv_bipush (pc := 28) (v := 107) hx hb (dOk_at dX5_kind 15 rfl) (by decide) ?_
      refine cl_V (pc := 30) (w' := [(x0, .inr (5, [.ref x1, .int xl, .int (s_takeP xl xp xw xc 107 107), .int (s_takeW xl xp xw xc 107 107)])), (x1, .inl (G.2.1, 60, .inl xc))]) (wr := []) (rest := []) fx hh hl.1 (h_X5_sign x0 x1 xl xp xw 107 xc hv.1) yV_X5_sign tMX5_49 ⟨rfl, rfl, Nat.le_of_ble_eq_true rfl, Nat.le_of_ble_eq_true rfl⟩ 0 5 rfl rfl rfl [0, 1] [] [0, 1] rfl rfl rfl (by decide) (by decide) rfl rfl (Nat.le_of_ble_eq_true rfl) ⟨Nat.le_of_ble_eq_true rfl, Nat.le_of_ble_eq_true rfl⟩ (dOk_at dX5_kind 16 rfl) (fun H locs hh => ?_)
      have hv := hv.2
      refine lv_iconst (pc := 33) (v := 1) hx hb (dOk_at dX5_kind 17 rfl) (by decide) ?_
      obtain ⟨e0, e1, e2⟩ := hv
      subst e0
      subst e1
      subst e2
      rw [hQ]
      exact r_iret (pc := 34) fx hh (dOk_at dX5_kind 18 rfl)
  have hv := hv.1
  refine lv_if_eq (pc := 4) (tgt := 19) hx hb (dOk_at dX5_kind 2 rfl) (by decide) (fun c4 => ?_) (fun c4 => ?_)
  · have hv := hv.1 c4
    refine lv_iconst (pc := 19) (v := 0) hx hb (dOk_at dX5_kind 9 rfl) (by decide) ?_
    exact k20_4 _ (if_pos c4).symm _ _ _ hh (lv_sub hl [0] rfl)
  · have hv := hv.2 c4
    refine lv_aload_n (pc := 7) hx hb (dOk_at dX5_kind 3 rfl) rfl (lv_at hl 0 rfl) ?_
    refine r_get (pc := 8) (ci := 5) fx hh inT5 rfl 0 (by decide) tFX5_9 rfl 0 rfl rfl (dOk_at dX5_kind 4 rfl) ?_
    refine lv_aload_n (pc := 11) hx hb (dOk_at dX5_kind 5 rfl) rfl (lv_at hl 0 rfl) ?_
    refine r_get (pc := 12) (ci := 5) fx hh inT5 rfl 2 (by decide) tFX5_19 rfl 0 rfl rfl (dOk_at dX5_kind 6 rfl) ?_
    refine r_iald (pc := 15) fx hh 1 rfl hv (dOk_at dX5_kind 7 rfl) ?_
    refine lv_goto (pc := 16) (tgt := 20) hx hb (dOk_at dX5_kind 8 rfl) (by decide) ?_
    exact k20_4 _ (if_neg c4).symm _ _ _ hh (lv_sub hl [0] rfl)
set_option maxRecDepth 100000 in
set_option maxHeartbeats 4000000 in
theorem wk_X5_end (l : Launch) (G : GT) (x0 : Nat) (x1 : Nat) (xl : Int32) (xp : Int32) (xw : Int32) (t0_3 : Int32)
    (hv : (∀ (v24 : Int32), v24 = (if xw = 0 then (if xl ≤ xp then (0 : Int32) else (1 : Int32)) else (1 : Int32)) → ((v24 = 0 ∨ v24 = 1)) ∧ v24 = t0_3)) :
    MF l G yX5_end cX5_end 1 none rm_X5_end [.ref x0] [(x0, .inr (5, [.ref x1, .int xl, .int xp, .int xw]))] none [(x0, .inr (5, [.ref x1, .int xl, .int xp, .int t0_3]))] := by
  refine MF.of (by decide +kernel) (Nat.le_of_ble_eq_true rfl) ?_
  intro p e s m args below meth c A ls fx hh hl _
  have hx := fx.hx
  have hb := fx.hb
  have hl : lv_has ls 1 [(0, .ref x0)] := hl
  obtain ⟨Q, hQ⟩ : ∃ Q, Q = ZZ G A none [(x0, .inr (5, [.ref x1, .int xl, .int xp, .int t0_3]))] below args s := ⟨_, rfl⟩
  rw [← hQ]
  refine lv_aload_n (pc := 0) hx hb (dOk_at dX5_end 0 rfl) rfl (lv_at hl 0 rfl) ?_
  refine lv_aload_n (pc := 1) hx hb (dOk_at dX5_end 1 rfl) rfl (lv_at hl 0 rfl) ?_
  refine r_get (pc := 2) (ci := 5) fx hh inT5 rfl 3 (by decide) tFX5_22 rfl 0 rfl rfl (dOk_at dX5_end 2 rfl) ?_
  have k24_5 : ∀ (v24 : Int32), v24 = (if xw = 0 then (if xl ≤ xp then (0 : Int32) else (1 : Int32)) else (1 : Int32)) → ∀ (H : Heap) (locs : List Loc) (ls : Array Slot), HP G A [(x0, .inr (5, [.ref x1, .int xl, .int xp, .int xw]))] s H locs → lv_has ls 1 [] → W p l e rm_X5_end s m args below meth c H locs 0 0 Q (F0 m 24 ls [.int v24, .ref x0]) := by
    intro v24 e24_0 H locs ls hh hl
    have hv := hv v24 e24_0
    refine r_put (pc := 24) (ci := 5) (w' := [(x0, .inr (5, [.ref x1, .int xl, .int xp, .int v24]))]) fx hh inT5 tyX5 tyX5_ok nmX5 rfl 3 (by decide) tFX5_22 rfl rfl 0 rfl (nar01 hv.1) (fit01 hv.1) (Nat.le_of_ble_eq_true rfl) rfl (dOk_at dX5_end 12 rfl) (fun H locs hh => ?_)
    have hv := hv.2
    have e0 := hv
    subst e0
    rw [hQ]
    exact r_vret (pc := 27) fx hh (dOk_at dX5_end 13 rfl)
  refine lv_if_ne (pc := 5) (tgt := 19) hx hb (dOk_at dX5_end 3 rfl) (by decide) (fun c5 => ?_) (fun c5 => ?_)
  · refine lv_iconst (pc := 19) (v := 1) hx hb (dOk_at dX5_end 9 rfl) (by decide) ?_
    refine lv_goto (pc := 20) (tgt := 24) hx hb (dOk_at dX5_end 10 rfl) (by decide) ?_
    exact k24_5 _ (if_neg c5).symm _ _ _ hh (lv_sub hl [] rfl)
  · refine lv_aload_n (pc := 8) hx hb (dOk_at dX5_end 4 rfl) rfl (lv_at hl 0 rfl) ?_
    refine r_get (pc := 9) (ci := 5) fx hh inT5 rfl 2 (by decide) tFX5_19 rfl 0 rfl rfl (dOk_at dX5_end 5 rfl) ?_
    refine lv_aload_n (pc := 12) hx hb (dOk_at dX5_end 6 rfl) rfl (lv_at hl 0 rfl) ?_
    refine r_get (pc := 13) (ci := 5) fx hh inT5 rfl 1 (by decide) tFX5_15 rfl 0 rfl rfl (dOk_at dX5_end 7 rfl) ?_
    refine lv_icmp_ge (pc := 16) (tgt := 23) hx hb (dOk_at dX5_end 8 rfl) (by decide) (fun c16 => ?_) (fun c16 => ?_)
    · refine lv_iconst (pc := 23) (v := 0) hx hb (dOk_at dX5_end 11 rfl) (by decide) ?_
      exact k24_5 _ ((if_pos c5).trans (if_pos c16)).symm _ _ _ hh (lv_sub hl [] rfl)
    · refine lv_iconst (pc := 19) (v := 1) hx hb (dOk_at dX5_end 9 rfl) (by decide) ?_
      refine lv_goto (pc := 20) (tgt := 24) hx hb (dOk_at dX5_end 10 rfl) (by decide) ?_
      exact k24_5 _ ((if_pos c5).trans (if_neg c16)).symm _ _ _ hh (lv_sub hl [] rfl)
set_option maxRecDepth 100000 in
set_option maxHeartbeats 4000000 in
theorem wk_X2_take (l : Launch) (G : GT) (i0 : Nat) (i1 : Nat) (x0 : Nat) (x1 : Nat) (hi : Int32) (wi : Int32) (fr : Int32) (fc : Int32) (lc : Int32) (xl : Int32) (xp : Int32) (xw : Int32) (str : Nat → Int32) (xc : Nat → Int32) (t0_1 : Int32) (t0_2 : Int32) (t0_3 : Int32) (t0_4 : Int32) (t0_5 : Int32) (t1 : Nat → Int32) (t2_2 : Int32) (t2_3 : Int32) (J44 : Nat → Int32 → Int32 → (Nat → Int32) → Int32 → Int32 → Prop) (J77 : Nat → Int32 → Int32 → (Nat → Int32) → Int32 → Int32 → Nat → Int32 → Int32 → Int32 → (Nat → Int32) → Int32 → Int32 → Prop) (h_X5_digit : K_X5_digit l G) (h_X5_sign : K_X5_sign l G)
    (hv : okT xl xp ∧ (okT xl (s_takeP xl xp xw xc 99 99) ∧ (okT xl (s_takeP xl (s_takeP xl xp xw xc 99 99) (s_takeW xl xp xw xc 99 99) xc (48 + 1) (48 + 4)) ∧ (okT xl (s_takeP xl (s_takeP xl (s_takeP xl xp xw xc 99 99) (s_takeW xl xp xw xc 99 99) xc (48 + 1) (48 + 4)) (s_takeW xl (s_takeP xl xp xw xc 99 99) (s_takeW xl xp xw xc 99 99) xc (48 + 1) (48 + 4)) xc (48 + 2) (48 + 5)) ∧ (∃ k4 : Nat, J44 k4 0 0 str (s_takeP xl (s_takeP xl (s_takeP xl (s_takeP xl xp xw xc 99 99) (s_takeW xl xp xw xc 99 99) xc (48 + 1) (48 + 4)) (s_takeW xl (s_takeP xl xp xw xc 99 99) (s_takeW xl xp xw xc 99 99) xc (48 + 1) (48 + 4)) xc (48 + 2) (48 + 5)) (s_takeW xl (s_takeP xl (s_takeP xl xp xw xc 99 99) (s_takeW xl xp xw xc 99 99) xc (48 + 1) (48 + 4)) (s_takeW xl (s_takeP xl xp xw xc 99 99) (s_takeW xl xp xw xc 99 99) xc (48 + 1) (48 + 4)) xc (48 + 2) (48 + 5)) xc (48 + 0) (48 + 9)) (s_takeW xl (s_takeP xl (s_takeP xl (s_takeP xl xp xw xc 99 99) (s_takeW xl xp xw xc 99 99) xc (48 + 1) (48 + 4)) (s_takeW xl (s_takeP xl xp xw xc 99 99) (s_takeW xl xp xw xc 99 99) xc (48 + 1) (48 + 4)) xc (48 + 2) (48 + 5)) (s_takeW xl (s_takeP xl (s_takeP xl xp xw xc 99 99) (s_takeW xl xp xw xc 99 99) xc (48 + 1) (48 + 4)) (s_takeW xl (s_takeP xl xp xw xc 99 99) (s_takeW xl xp xw xc 99 99) xc (48 + 1) (48 + 4)) xc (48 + 2) (48 + 5)) xc (48 + 0) (48 + 9)))))))
    (hv44 : ∀ (n44 : Nat) (x44_2 : Int32) (y44_0_4 : Int32) (y44_1 : Nat → Int32) (y44_2_2 : Int32) (y44_2_3 : Int32), J44 n44 x44_2 y44_0_4 y44_1 y44_2_2 y44_2_3 → ((1 + s_takeR xl (s_takeP xl xp xw xc 99 99) (s_takeW xl xp xw xc 99 99) xc (48 + 1) (48 + 4)) ≤ x44_2 → (1 + s_takeR xl (s_takeP xl xp xw xc 99 99) (s_takeW xl xp xw xc 99 99) xc (48 + 1) (48 + 4)) = t0_1 ∧ (2 + s_takeR xl (s_takeP xl (s_takeP xl xp xw xc 99 99) (s_takeW xl xp xw xc 99 99) xc (48 + 1) (48 + 4)) (s_takeW xl (s_takeP xl xp xw xc 99 99) (s_takeW xl xp xw xc 99 99) xc (48 + 1) (48 + 4)) xc (48 + 2) (48 + 5)) = t0_2 ∧ (0 + s_takeR xl (s_takeP xl (s_takeP xl (s_takeP xl xp xw xc 99 99) (s_takeW xl xp xw xc 99 99) xc (48 + 1) (48 + 4)) (s_takeW xl (s_takeP xl xp xw xc 99 99) (s_takeW xl xp xw xc 99 99) xc (48 + 1) (48 + 4)) xc (48 + 2) (48 + 5)) (s_takeW xl (s_takeP xl (s_takeP xl xp xw xc 99 99) (s_takeW xl xp xw xc 99 99) xc (48 + 1) (48 + 4)) (s_takeW xl (s_takeP xl xp xw xc 99 99) (s_takeW xl xp xw xc 99 99) xc (48 + 1) (48 + 4)) xc (48 + 2) (48 + 5)) xc (48 + 0) (48 + 9)) = t0_3 ∧ y44_0_4 = t0_4 ∧ (y44_0_4 <<< (((2 + s_takeR xl (s_takeP xl (s_takeP xl xp xw xc 99 99) (s_takeW xl xp xw xc 99 99) xc (48 + 1) (48 + 4)) (s_takeW xl (s_takeP xl xp xw xc 99 99) (s_takeW xl xp xw xc 99 99) xc (48 + 1) (48 + 4)) xc (48 + 2) (48 + 5)) - 1) &&& 31)) = t0_5 ∧ y44_1 = t1 ∧ y44_2_2 = t2_2 ∧ y44_2_3 = t2_3) ∧ (¬ (1 + s_takeR xl (s_takeP xl xp xw xc 99 99) (s_takeW xl xp xw xc 99 99) xc (48 + 1) (48 + 4)) ≤ x44_2 → okT xl y44_2_2 ∧ (∃ k3 : Nat, J77 n44 x44_2 y44_0_4 y44_1 y44_2_2 y44_2_3 k3 x44_2 0 (y44_0_4 ||| ((1 : Int32) <<< ((x44_2 * (2 + s_takeR xl (s_takeP xl (s_takeP xl xp xw xc 99 99) (s_takeW xl xp xw xc 99 99) xc (48 + 1) (48 + 4)) (s_takeW xl (s_takeP xl xp xw xc 99 99) (s_takeW xl xp xw xc 99 99) xc (48 + 1) (48 + 4)) xc (48 + 2) (48 + 5))) &&& 31))) y44_1 (s_takeP xl y44_2_2 y44_2_3 xc 59 59) (s_takeW xl y44_2_2 y44_2_3 xc 59 59))))
    (hv77 : ∀ (n44 : Nat) (x44_2 : Int32) (y44_0_4 : Int32) (y44_1 : Nat → Int32) (y44_2_2 : Int32) (y44_2_3 : Int32), J44 n44 x44_2 y44_0_4 y44_1 y44_2_2 y44_2_3 → ∀ (n77 : Nat) (x77_2 : Int32) (x77_3 : Int32) (y77_0_4 : Int32) (y77_1 : Nat → Int32) (y77_2_2 : Int32) (y77_2_3 : Int32), J77 n44 x44_2 y44_0_4 y44_1 y44_2_2 y44_2_3 n77 x77_2 x77_3 y77_0_4 y77_1 y77_2_2 y77_2_3 → ((2 + s_takeR xl (s_takeP xl (s_takeP xl xp xw xc 99 99) (s_takeW xl xp xw xc 99 99) xc (48 + 1) (48 + 4)) (s_takeW xl (s_takeP xl xp xw xc 99 99) (s_takeW xl xp xw xc 99 99) xc (48 + 1) (48 + 4)) xc (48 + 2) (48 + 5)) ≤ x77_3 → ∃ k1 : Nat, k1 < n44 ∧ J44 k1 (x77_2 + 1) y77_0_4 y77_1 y77_2_2 y77_2_3) ∧ (¬ (2 + s_takeR xl (s_takeP xl (s_takeP xl xp xw xc 99 99) (s_takeW xl xp xw xc 99 99) xc (48 + 1) (48 + 4)) (s_takeW xl (s_takeP xl xp xw xc 99 99) (s_takeW xl xp xw xc 99 99) xc (48 + 1) (48 + 4)) xc (48 + 2) (48 + 5)) ≤ x77_3 → okT xl y77_2_2 ∧ (vp_in ((x77_2 * (2 + s_takeR xl (s_takeP xl (s_takeP xl xp xw xc 99 99) (s_takeW xl xp xw xc 99 99) xc (48 + 1) (48 + 4)) (s_takeW xl (s_takeP xl xp xw xc 99 99) (s_takeW xl xp xw xc 99 99) xc (48 + 1) (48 + 4)) xc (48 + 2) (48 + 5))) + x77_3) 20 ∧ (∃ k2 : Nat, k2 < n77 ∧ J77 n44 x44_2 y44_0_4 y44_1 y44_2_2 y44_2_3 k2 x77_2 (x77_3 + 1) y77_0_4 (upd y77_1 ((x77_2 * (2 + s_takeR xl (s_takeP xl (s_takeP xl xp xw xc 99 99) (s_takeW xl xp xw xc 99 99) xc (48 + 1) (48 + 4)) (s_takeW xl (s_takeP xl xp xw xc 99 99) (s_takeW xl xp xw xc 99 99) xc (48 + 1) (48 + 4)) xc (48 + 2) (48 + 5))) + x77_3).toNatClampNeg (0 + s_takeR xl y77_2_2 y77_2_3 xc (48 + 0) (48 + 9))) (s_takeP xl y77_2_2 y77_2_3 xc (48 + 0) (48 + 9)) (s_takeW xl y77_2_2 y77_2_3 xc (48 + 0) (48 + 9)))))) :
    MF l G yX2_take cX2_take 4 none rm_X2_take [.ref i0, .ref x0] [(i0, .inr (2, [.ref i1, .int hi, .int wi, .int fr, .int fc, .int lc])), (i1, .inl (G.2.1, 20, .inl str)), (x0, .inr (5, [.ref x1, .int xl, .int xp, .int xw])), (x1, .inl (G.2.1, 60, .inl xc))] none [(i0, .inr (2, [.ref i1, .int t0_1, .int t0_2, .int t0_3, .int t0_4, .int t0_5])), (i1, .inl (G.2.1, 20, .inl t1)), (x0, .inr (5, [.ref x1, .int xl, .int t2_2, .int t2_3])), (x1, .inl (G.2.1, 60, .inl xc))] := by
  refine MF.of (by decide +kernel) (Nat.le_of_ble_eq_true rfl) ?_
  intro p e s m args below meth c A ls fx hh hl _
  have hx := fx.hx
  have hb := fx.hb
  have hl : lv_has ls 4 [(0, .ref i0), (1, .ref x0)] := hl
  obtain ⟨Q, hQ⟩ : ∃ Q, Q = ZZ G A none [(i0, .inr (2, [.ref i1, .int t0_1, .int t0_2, .int t0_3, .int t0_4, .int t0_5])), (i1, .inl (G.2.1, 20, .inl t1)), (x0, .inr (5, [.ref x1, .int xl, .int t2_2, .int t2_3])), (x1, .inl (G.2.1, 60, .inl xc))] below args s := ⟨_, rfl⟩
  rw [← hQ]
  have lp44 : ∀ (n44 : Nat) (x44_2 : Int32) (y44_0_4 : Int32) (y44_1 : Nat → Int32) (y44_2_2 : Int32) (y44_2_3 : Int32), J44 n44 x44_2 y44_0_4 y44_1 y44_2_2 y44_2_3 → ∀ (H : Heap) (locs : List Loc) (ls : Array Slot), HP G A [(i0, .inr (2, [.ref i1, .int (1 + s_takeR xl (s_takeP xl xp xw xc 99 99) (s_takeW xl xp xw xc 99 99) xc (48 + 1) (48 + 4)), .int (2 + s_takeR xl (s_takeP xl (s_takeP xl xp xw xc 99 99) (s_takeW xl xp xw xc 99 99) xc (48 + 1) (48 + 4)) (s_takeW xl (s_takeP xl xp xw xc 99 99) (s_takeW xl xp xw xc 99 99) xc (48 + 1) (48 + 4)) xc (48 + 2) (48 + 5)), .int (0 + s_takeR xl (s_takeP xl (s_takeP xl (s_takeP xl xp xw xc 99 99) (s_takeW xl xp xw xc 99 99) xc (48 + 1) (48 + 4)) (s_takeW xl (s_takeP xl xp xw xc 99 99) (s_takeW xl xp xw xc 99 99) xc (48 + 1) (48 + 4)) xc (48 + 2) (48 + 5)) (s_takeW xl (s_takeP xl (s_takeP xl xp xw xc 99 99) (s_takeW xl xp xw xc 99 99) xc (48 + 1) (48 + 4)) (s_takeW xl (s_takeP xl xp xw xc 99 99) (s_takeW xl xp xw xc 99 99) xc (48 + 1) (48 + 4)) xc (48 + 2) (48 + 5)) xc (48 + 0) (48 + 9)), .int y44_0_4, .int lc])), (i1, .inl (G.2.1, 20, .inl y44_1)), (x0, .inr (5, [.ref x1, .int xl, .int y44_2_2, .int y44_2_3])), (x1, .inl (G.2.1, 60, .inl xc))] s H locs → lv_has ls 4 [(0, .ref i0), (1, .ref x0), (2, .int x44_2)] → W p l e rm_X2_take s m args below meth c H locs 0 0 Q (F0 m 44 ls []) := by
    intro n44
    induction n44 using Nat.strongRecOn with
    | ind n44 ih44 =>
      intro x44_2 y44_0_4 y44_1 y44_2_2 y44_2_3 hj44 H locs ls hh hl
      have hv := hv44 n44 x44_2 y44_0_4 y44_1 y44_2_2 y44_2_3 hj44
      have lp77 : ∀ (n77 : Nat) (x77_2 : Int32) (x77_3 : Int32) (y77_0_4 : Int32) (y77_1 : Nat → Int32) (y77_2_2 : Int32) (y77_2_3 : Int32), J77 n44 x44_2 y44_0_4 y44_1 y44_2_2 y44_2_3 n77 x77_2 x77_3 y77_0_4 y77_1 y77_2_2 y77_2_3 → ∀ (H : Heap) (locs : List Loc) (ls : Array Slot), HP G A [(i0, .inr (2, [.ref i1, .int (1 + s_takeR xl (s_takeP xl xp xw xc 99 99) (s_takeW xl xp xw xc 99 99) xc (48 + 1) (48 + 4)), .int (2 + s_takeR xl (s_takeP xl (s_takeP xl xp xw xc 99 99) (s_takeW xl xp xw xc 99 99) xc (48 + 1) (48 + 4)) (s_takeW xl (s_takeP xl xp xw xc 99 99) (s_takeW xl xp xw xc 99 99) xc (48 + 1) (48 + 4)) xc (48 + 2) (48 + 5)), .int (0 + s_takeR xl (s_takeP xl (s_takeP xl (s_takeP xl xp xw xc 99 99) (s_takeW xl xp xw xc 99 99) xc (48 + 1) (48 + 4)) (s_takeW xl (s_takeP xl xp xw xc 99 99) (s_takeW xl xp xw xc 99 99) xc (48 + 1) (48 + 4)) xc (48 + 2) (48 + 5)) (s_takeW xl (s_takeP xl (s_takeP xl xp xw xc 99 99) (s_takeW xl xp xw xc 99 99) xc (48 + 1) (48 + 4)) (s_takeW xl (s_takeP xl xp xw xc 99 99) (s_takeW xl xp xw xc 99 99) xc (48 + 1) (48 + 4)) xc (48 + 2) (48 + 5)) xc (48 + 0) (48 + 9)), .int y77_0_4, .int lc])), (i1, .inl (G.2.1, 20, .inl y77_1)), (x0, .inr (5, [.ref x1, .int xl, .int y77_2_2, .int y77_2_3])), (x1, .inl (G.2.1, 60, .inl xc))] s H locs → lv_has ls 4 [(0, .ref i0), (1, .ref x0), (2, .int x77_2), (3, .int x77_3)] → W p l e rm_X2_take s m args below meth c H locs 0 0 Q (F0 m 77 ls []) := by
        intro n77
        induction n77 using Nat.strongRecOn with
        | ind n77 ih77 =>
          intro x77_2 x77_3 y77_0_4 y77_1 y77_2_2 y77_2_3 hj77 H locs ls hh hl
          have hv := hv77 n44 x44_2 y44_0_4 y44_1 y44_2_2 y44_2_3 hj44 n77 x77_2 x77_3 y77_0_4 y77_1 y77_2_2 y77_2_3 hj77
          refine lv_iload_n (pc := 77) hx hb (dOk_at dX2_take 46 rfl) rfl (lv_at hl 3 rfl) ?_
          refine lv_aload_n (pc := 78) hx hb (dOk_at dX2_take 47 rfl) rfl (lv_at hl 0 rfl) ?_
          refine r_get (pc := 79) (ci := 2) fx hh inT2 rfl 2 (by decide) tFX2_19 rfl 0 rfl rfl (dOk_at dX2_take 48 rfl) ?_
          refine lv_icmp_ge (pc := 82) (tgt := 111) hx hb (dOk_at dX2_take 49 rfl) (by decide) (fun c82 => ?_) (fun c82 => ?_)
          · have hv := hv.1 c82
            refine lv_iinc (pc := 111) (v := x77_2 + 1) (lv' := [(2, .int (x77_2 + 1)), (0, .ref i0), (1, .ref x0), (3, .int x77_3)]) hx hb (dOk_at dX2_take 65 rfl) hl (k := 2) rfl rfl (by decide) rfl (fun ls hl => ?_)
            refine lv_goto (pc := 114) (tgt := 44) hx hb (dOk_at dX2_take 66 rfl) (by decide) ?_
            obtain ⟨k0, hk0, hj0⟩ := hv
            exact ih44 k0 hk0 (x77_2 + 1) y77_0_4 y77_1 y77_2_2 y77_2_3 hj0 _ _ _ hh (lv_sub hl [1, 2, 0] rfl)
          · have hv := hv.2 c82
            refine lv_aload_n (pc := 85) hx hb (dOk_at dX2_take 50 rfl) rfl (lv_at hl 0 rfl) ?_
            refine r_get (pc := 86) (ci := 2) fx hh inT2 rfl 0 (by decide) tFX2_9 rfl 0 rfl rfl (dOk_at dX2_take 51 rfl) ?_
            refine lv_iload_n (pc := 89) hx hb (dOk_at dX2_take 52 rfl) rfl (lv_at hl 2 rfl) ?_
            refine lv_aload_n (pc := 90) hx hb (dOk_at dX2_take 53 rfl) rfl (lv_at hl 0 rfl) ?_
            refine r_get (pc := 91) (ci := 2) fx hh inT2 rfl 2 (by decide) tFX2_19 rfl 0 rfl rfl (dOk_at dX2_take 54 rfl) ?_
            refine lv_imul (pc := 94) hx hb (dOk_at dX2_take 55 rfl) ?_
            refine lv_iload_n (pc := 95) hx hb (dOk_at dX2_take 56 rfl) rfl (lv_at hl 3 rfl) ?_
            refine lv_iadd (pc := 96) hx hb (dOk_at dX2_take 57 rfl) ?_
            refine lv_aload_n (pc := 97) hx hb (dOk_at dX2_take 58 rfl) rfl (lv_at hl 1 rfl) ?_
            refine lv_iconst (pc := 98) (v := 0) hx hb (dOk_at dX2_take 59 rfl) (by decide) ?_
            refine lv_bipush (pc := 99) (v := 9) hx hb (dOk_at dX2_take 60 rfl) (by decide) ?_
            refine cl_VN (pc := 101) (w' := [(i0, .inr (2, [.ref i1, .int (1 + s_takeR xl (s_takeP xl xp xw xc 99 99) (s_takeW xl xp xw xc 99 99) xc (48 + 1) (48 + 4)), .int (2 + s_takeR xl (s_takeP xl (s_takeP xl xp xw xc 99 99) (s_takeW xl xp xw xc 99 99) xc (48 + 1) (48 + 4)) (s_takeW xl (s_takeP xl xp xw xc 99 99) (s_takeW xl xp xw xc 99 99) xc (48 + 1) (48 + 4)) xc (48 + 2) (48 + 5)), .int (0 + s_takeR xl (s_takeP xl (s_takeP xl (s_takeP xl xp xw xc 99 99) (s_takeW xl xp xw xc 99 99) xc (48 + 1) (48 + 4)) (s_takeW xl (s_takeP xl xp xw xc 99 99) (s_takeW xl xp xw xc 99 99) xc (48 + 1) (48 + 4)) xc (48 + 2) (48 + 5)) (s_takeW xl (s_takeP xl (s_takeP xl xp xw xc 99 99) (s_takeW xl xp xw xc 99 99) xc (48 + 1) (48 + 4)) (s_takeW xl (s_takeP xl xp xw xc 99 99) (s_takeW xl xp xw xc 99 99) xc (48 + 1) (48 + 4)) xc (48 + 2) (48 + 5)) xc (48 + 0) (48 + 9)), .int y77_0_4, .int lc])), (i1, .inl (G.2.1, 20, .inl y77_1)), (x0, .inr (5, [.ref x1, .int xl, .int (s_takeP xl y77_2_2 y77_2_3 xc (48 + 0) (48 + 9)), .int (s_takeW xl y77_2_2 y77_2_3 xc (48 + 0) (48 + 9))])), (x1, .inl (G.2.1, 60, .inl xc))]) (wr := [(i0, .inr (2, [.ref i1, .int (1 + s_takeR xl (s_takeP xl xp xw xc 99 99) (s_takeW xl xp xw xc 99 99) xc (48 + 1) (48 + 4)), .int (2 + s_takeR xl (s_takeP xl (s_takeP xl xp xw xc 99 99) (s_takeW xl xp xw xc 99 99) xc (48 + 1) (48 + 4)) (s_takeW xl (s_takeP xl xp xw xc 99 99) (s_takeW xl xp xw xc 99 99) xc (48 + 1) (48 + 4)) xc (48 + 2) (48 + 5)), .int (0 + s_takeR xl (s_takeP xl (s_takeP xl (s_takeP xl xp xw xc 99 99) (s_takeW xl xp xw xc 99 99) xc (48 + 1) (48 + 4)) (s_takeW xl (s_takeP xl xp xw xc 99 99) (s_takeW xl xp xw xc 99 99) xc (48 + 1) (48 + 4)) xc (48 + 2) (48 + 5)) (s_takeW xl (s_takeP xl (s_takeP xl xp xw xc 99 99) (s_takeW xl xp xw xc 99 99) xc (48 + 1) (48 + 4)) (s_takeW xl (s_takeP xl xp xw xc 99 99) (s_takeW xl xp xw xc 99 99) xc (48 + 1) (48 + 4)) xc (48 + 2) (48 + 5)) xc (48 + 0) (48 + 9)), .int y77_0_4, .int lc])), (i1, .inl (G.2.1, 20, .inl y77_1))]) (rest := [.int ((x77_2 * (2 + s_takeR xl (s_takeP xl (s_takeP xl xp xw xc 99 99) (s_takeW xl xp xw xc 99 99) xc (48 + 1) (48 + 4)) (s_takeW xl (s_takeP xl xp xw xc 99 99) (s_takeW xl xp xw xc 99 99) xc (48 + 1) (48 + 4)) xc (48 + 2) (48 + 5))) + x77_3), .ref i1]) fx hh hl.1 (h_X5_digit x0 x1 xl y77_2_2 y77_2_3 0 9 xc hv.1) yV_X5_digit nMX2_37 ⟨rfl, rfl, Nat.le_of_ble_eq_true rfl, Nat.le_of_ble_eq_true rfl⟩ 2 5 rfl rfl rfl [2, 3] [0, 1] [0, 1, 2, 3] rfl rfl rfl (by decide) (by decide) rfl rfl (Nat.le_of_ble_eq_true rfl) ⟨Nat.le_of_ble_eq_true rfl, Nat.le_of_ble_eq_true rfl⟩ (dOk_at dX2_take 61 rfl) (fun H locs hh => ?_)
            have hv := hv.2
            refine r_iast (pc := 104) (w' := [(i0, .inr (2, [.ref i1, .int (1 + s_takeR xl (s_takeP xl xp xw xc 99 99) (s_takeW xl xp xw xc 99 99) xc (48 + 1) (48 + 4)), .int (2 + s_takeR xl (s_takeP xl (s_takeP xl xp xw xc 99 99) (s_takeW xl xp xw xc 99 99) xc (48 + 1) (48 + 4)) (s_takeW xl (s_takeP xl xp xw xc 99 99) (s_takeW xl xp xw xc 99 99) xc (48 + 1) (48 + 4)) xc (48 + 2) (48 + 5)), .int (0 + s_takeR xl (s_takeP xl (s_takeP xl (s_takeP xl xp xw xc 99 99) (s_takeW xl xp xw xc 99 99) xc (48 + 1) (48 + 4)) (s_takeW xl (s_takeP xl xp xw xc 99 99) (s_takeW xl xp xw xc 99 99) xc (48 + 1) (48 + 4)) xc (48 + 2) (48 + 5)) (s_takeW xl (s_takeP xl (s_takeP xl xp xw xc 99 99) (s_takeW xl xp xw xc 99 99) xc (48 + 1) (48 + 4)) (s_takeW xl (s_takeP xl xp xw xc 99 99) (s_takeW xl xp xw xc 99 99) xc (48 + 1) (48 + 4)) xc (48 + 2) (48 + 5)) xc (48 + 0) (48 + 9)), .int y77_0_4, .int lc])), (i1, .inl (G.2.1, 20, .inl (upd y77_1 ((x77_2 * (2 + s_takeR xl (s_takeP xl (s_takeP xl xp xw xc 99 99) (s_takeW xl xp xw xc 99 99) xc (48 + 1) (48 + 4)) (s_takeW xl (s_takeP xl xp xw xc 99 99) (s_takeW xl xp xw xc 99 99) xc (48 + 1) (48 + 4)) xc (48 + 2) (48 + 5))) + x77_3).toNatClampNeg (0 + s_takeR xl y77_2_2 y77_2_3 xc (48 + 0) (48 + 9))))), (x0, .inr (5, [.ref x1, .int xl, .int (s_takeP xl y77_2_2 y77_2_3 xc (48 + 0) (48 + 9)), .int (s_takeW xl y77_2_2 y77_2_3 xc (48 + 0) (48 + 9))])), (x1, .inl (G.2.1, 60, .inl xc))]) fx hh 1 rfl hv.1 rfl (dOk_at dX2_take 62 rfl) (fun H locs hh => ?_)
            have hv := hv.2
            refine lv_iinc (pc := 105) (v := x77_3 + 1) (lv' := [(3, .int (x77_3 + 1)), (0, .ref i0), (1, .ref x0), (2, .int x77_2)]) hx hb (dOk_at dX2_take 63 rfl) hl (k := 3) rfl rfl (by decide) rfl (fun ls hl => ?_)
            refine lv_goto (pc := 108) (tgt := 77) hx hb (dOk_at dX2_take 64 rfl) (by decide) ?_
            obtain ⟨k0, hk0, hj0⟩ := hv
            exact ih77 k0 hk0 x77_2 (x77_3 + 1) y77_0_4 (upd y77_1 ((x77_2 * (2 + s_takeR xl (s_takeP xl (s_takeP xl xp xw xc 99 99) (s_takeW xl xp xw xc 99 99) xc (48 + 1) (48 + 4)) (s_takeW xl (s_takeP xl xp xw xc 99 99) (s_takeW xl xp xw xc 99 99) xc (48 + 1) (48 + 4)) xc (48 + 2) (48 + 5))) + x77_3).toNatClampNeg (0 + s_takeR xl y77_2_2 y77_2_3 xc (48 + 0) (48 + 9))) (s_takeP xl y77_2_2 y77_2_3 xc (48 + 0) (48 + 9)) (s_takeW xl y77_2_2 y77_2_3 xc (48 + 0) (48 + 9)) hj0 _ _ _ hh (lv_sub hl [1, 2, 3, 0] rfl)
      refine lv_iload_n (pc := 44) hx hb (dOk_at dX2_take 26 rfl) rfl (lv_at hl 2 rfl) ?_
      refine lv_aload_n (pc := 45) hx hb (dOk_at dX2_take 27 rfl) rfl (lv_at hl 0 rfl) ?_
      refine r_get (pc := 46) (ci := 2) fx hh inT2 rfl 1 (by decide) tFX2_15 rfl 0 rfl rfl (dOk_at dX2_take 28 rfl) ?_
      refine lv_icmp_ge (pc := 49) (tgt := 117) hx hb (dOk_at dX2_take 29 rfl) (by decide) (fun c49 => ?_) (fun c49 => ?_)
      · have hv := hv.1 c49
        refine lv_aload_n (pc := 117) hx hb (dOk_at dX2_take 67 rfl) rfl (lv_at hl 0 rfl) ?_
        refine lv_aload_n (pc := 118) hx hb (dOk_at dX2_take 68 rfl) rfl (lv_at hl 0 rfl) ?_
        refine r_get (pc := 119) (ci := 2) fx hh inT2 rfl 4 (by decide) tFX2_25 rfl 0 rfl rfl (dOk_at dX2_take 69 rfl) ?_
        refine lv_aload_n (pc := 122) hx hb (dOk_at dX2_take 70 rfl) rfl (lv_at hl 0 rfl) ?_
        refine r_get (pc := 123) (ci := 2) fx hh inT2 rfl 2 (by decide) tFX2_19 rfl 0 rfl rfl (dOk_at dX2_take 71 rfl) ?_
        refine lv_iconst (pc := 126) (v := 1) hx hb (dOk_at dX2_take 72 rfl) (by decide) ?_
        refine lv_isub (pc := 127) hx hb (dOk_at dX2_take 73 rfl) ?_
        refine lv_ishl (pc := 128) hx hb (dOk_at dX2_take 74 rfl) ?_
        refine r_put (pc := 129) (ci := 2) (w' := [(i0, .inr (2, [.ref i1, .int (1 + s_takeR xl (s_takeP xl xp xw xc 99 99) (s_takeW xl xp xw xc 99 99) xc (48 + 1) (48 + 4)), .int (2 + s_takeR xl (s_takeP xl (s_takeP xl xp xw xc 99 99) (s_takeW xl xp xw xc 99 99) xc (48 + 1) (48 + 4)) (s_takeW xl (s_takeP xl xp xw xc 99 99) (s_takeW xl xp xw xc 99 99) xc (48 + 1) (48 + 4)) xc (48 + 2) (48 + 5)), .int (0 + s_takeR xl (s_takeP xl (s_takeP xl (s_takeP xl xp xw xc 99 99) (s_takeW xl xp xw xc 99 99) xc (48 + 1) (48 + 4)) (s_takeW xl (s_takeP xl xp xw xc 99 99) (s_takeW xl xp xw xc 99 99) xc (48 + 1) (48 + 4)) xc (48 + 2) (48 + 5)) (s_takeW xl (s_takeP xl (s_takeP xl xp xw xc 99 99) (s_takeW xl xp xw xc 99 99) xc (48 + 1) (48 + 4)) (s_takeW xl (s_takeP xl xp xw xc 99 99) (s_takeW xl xp xw xc 99 99) xc (48 + 1) (48 + 4)) xc (48 + 2) (48 + 5)) xc (48 + 0) (48 + 9)), .int y44_0_4, .int (y44_0_4 <<< (((2 + s_takeR xl (s_takeP xl (s_takeP xl xp xw xc 99 99) (s_takeW xl xp xw xc 99 99) xc (48 + 1) (48 + 4)) (s_takeW xl (s_takeP xl xp xw xc 99 99) (s_takeW xl xp xw xc 99 99) xc (48 + 1) (48 + 4)) xc (48 + 2) (48 + 5)) - 1) &&& 31))])), (i1, .inl (G.2.1, 20, .inl y44_1)), (x0, .inr (5, [.ref x1, .int xl, .int y44_2_2, .int y44_2_3])), (x1, .inl (G.2.1, 60, .inl xc))]) fx hh inT2 tyX2 tyX2_ok nmX2 rfl 5 (by decide) tFX2_28 rfl rfl 0 rfl rfl rfl (Nat.le_of_ble_eq_true rfl) rfl (dOk_at dX2_take 75 rfl) (fun H locs hh => ?_)
        obtain ⟨e0, e1, e2, e3, e4, e5, e6, e7⟩ := hv
        subst e0
        subst e1
        subst e2
        subst e3
        subst e4
        subst e5
        subst e6
        subst e7
        rw [hQ]
        exact r_vret (pc := 132) fx hh (dOk_at dX2_take 76 rfl)
      · have hv := hv.2 c49
        refine lv_aload_n (pc := 52) hx hb (dOk_at dX2_take 30 rfl) rfl (lv_at hl 0 rfl) ?_
        refine lv_dup (pc := 53) hx hb (dOk_at dX2_take 31 rfl) rfl ?_
        refine r_get (pc := 54) (ci := 2) fx hh inT2 rfl 4 (by decide) tFX2_25 rfl 0 rfl rfl (dOk_at dX2_take 32 rfl) ?_
        refine lv_iconst (pc := 57) (v := 1) hx hb (dOk_at dX2_take 33 rfl) (by decide) ?_
        refine lv_iload_n (pc := 58) hx hb (dOk_at dX2_take 34 rfl) rfl (lv_at hl 2 rfl) ?_
        refine lv_aload_n (pc := 59) hx hb (dOk_at dX2_take 35 rfl) rfl (lv_at hl 0 rfl) ?_
        refine r_get (pc := 60) (ci := 2) fx hh inT2 rfl 2 (by decide) tFX2_19 rfl 0 rfl rfl (dOk_at dX2_take 36 rfl) ?_
        refine lv_imul (pc := 63) hx hb (dOk_at dX2_take 37 rfl) ?_
        refine lv_ishl (pc := 64) hx hb (dOk_at dX2_take 38 rfl) ?_
        refine lv_ior (pc := 65) hx hb (dOk_at dX2_take 39 rfl) ?_
        refine r_put (pc := 66) (ci := 2) (w' := [(i0, .inr (2, [.ref i1, .int (1 + s_takeR xl (s_takeP xl xp xw xc 99 99) (s_takeW xl xp xw xc 99 99) xc (48 + 1) (48 + 4)), .int (2 + s_takeR xl (s_takeP xl (s_takeP xl xp xw xc 99 99) (s_takeW xl xp xw xc 99 99) xc (48 + 1) (48 + 4)) (s_takeW xl (s_takeP xl xp xw xc 99 99) (s_takeW xl xp xw xc 99 99) xc (48 + 1) (48 + 4)) xc (48 + 2) (48 + 5)), .int (0 + s_takeR xl (s_takeP xl (s_takeP xl (s_takeP xl xp xw xc 99 99) (s_takeW xl xp xw xc 99 99) xc (48 + 1) (48 + 4)) (s_takeW xl (s_takeP xl xp xw xc 99 99) (s_takeW xl xp xw xc 99 99) xc (48 + 1) (48 + 4)) xc (48 + 2) (48 + 5)) (s_takeW xl (s_takeP xl (s_takeP xl xp xw xc 99 99) (s_takeW xl xp xw xc 99 99) xc (48 + 1) (48 + 4)) (s_takeW xl (s_takeP xl xp xw xc 99 99) (s_takeW xl xp xw xc 99 99) xc (48 + 1) (48 + 4)) xc (48 + 2) (48 + 5)) xc (48 + 0) (48 + 9)), .int (y44_0_4 ||| ((1 : Int32) <<< ((x44_2 * (2 + s_takeR xl (s_takeP xl (s_takeP xl xp xw xc 99 99) (s_takeW xl xp xw xc 99 99) xc (48 + 1) (48 + 4)) (s_takeW xl (s_takeP xl xp xw xc 99 99) (s_takeW xl xp xw xc 99 99) xc (48 + 1) (48 + 4)) xc (48 + 2) (48 + 5))) &&& 31))), .int lc])), (i1, .inl (G.2.1, 20, .inl y44_1)), (x0, .inr (5, [.ref x1, .int xl, .int y44_2_2, .int y44_2_3])), (x1, .inl (G.2.1, 60, .inl xc))]) fx hh inT2 tyX2 tyX2_ok nmX2 rfl 4 (by decide) tFX2_25 rfl rfl 0 rfl rfl rfl (Nat.le_of_ble_eq_true rfl) rfl (dOk_at dX2_take 40 rfl) (fun H locs hh => ?_)
        refine lv_aload_n (pc := 69) hx hb (dOk_at dX2_take 41 rfl) rfl (lv_at hl 1 rfl) ?_
        refine lv_bipush (pc := 70) (v := 59) hx hb (dOk_at dX2_take 42 rfl) (by decide) ?_
        refine cl_VN (pc := 72) (w' := [(i0, .inr (2, [.ref i1, .int (1 + s_takeR xl (s_takeP xl xp xw xc 99 99) (s_takeW xl xp xw xc 99 99) xc (48 + 1) (48 + 4)), .int (2 + s_takeR xl (s_takeP xl (s_takeP xl xp xw xc 99 99) (s_takeW xl xp xw xc 99 99) xc (48 + 1) (48 + 4)) (s_takeW xl (s_takeP xl xp xw xc 99 99) (s_takeW xl xp xw xc 99 99) xc (48 + 1) (48 + 4)) xc (48 + 2) (48 + 5)), .int (0 + s_takeR xl (s_takeP xl (s_takeP xl (s_takeP xl xp xw xc 99 99) (s_takeW xl xp xw xc 99 99) xc (48 + 1) (48 + 4)) (s_takeW xl (s_takeP xl xp xw xc 99 99) (s_takeW xl xp xw xc 99 99) xc (48 + 1) (48 + 4)) xc (48 + 2) (48 + 5)) (s_takeW xl (s_takeP xl (s_takeP xl xp xw xc 99 99) (s_takeW xl xp xw xc 99 99) xc (48 + 1) (48 + 4)) (s_takeW xl (s_takeP xl xp xw xc 99 99) (s_takeW xl xp xw xc 99 99) xc (48 + 1) (48 + 4)) xc (48 + 2) (48 + 5)) xc (48 + 0) (48 + 9)), .int (y44_0_4 ||| ((1 : Int32) <<< ((x44_2 * (2 + s_takeR xl (s_takeP xl (s_takeP xl xp xw xc 99 99) (s_takeW xl xp xw xc 99 99) xc (48 + 1) (48 + 4)) (s_takeW xl (s_takeP xl xp xw xc 99 99) (s_takeW xl xp xw xc 99 99) xc (48 + 1) (48 + 4)) xc (48 + 2) (48 + 5))) &&& 31))), .int lc])), (i1, .inl (G.2.1, 20, .inl y44_1)), (x0, .inr (5, [.ref x1, .int xl, .int (s_takeP xl y44_2_2 y44_2_3 xc 59 59), .int (s_takeW xl y44_2_2 y44_2_3 xc 59 59)])), (x1, .inl (G.2.1, 60, .inl xc))]) (wr := [(i0, .inr (2, [.ref i1, .int (1 + s_takeR xl (s_takeP xl xp xw xc 99 99) (s_takeW xl xp xw xc 99 99) xc (48 + 1) (48 + 4)), .int (2 + s_takeR xl (s_takeP xl (s_takeP xl xp xw xc 99 99) (s_takeW xl xp xw xc 99 99) xc (48 + 1) (48 + 4)) (s_takeW xl (s_takeP xl xp xw xc 99 99) (s_takeW xl xp xw xc 99 99) xc (48 + 1) (48 + 4)) xc (48 + 2) (48 + 5)), .int (0 + s_takeR xl (s_takeP xl (s_takeP xl (s_takeP xl xp xw xc 99 99) (s_takeW xl xp xw xc 99 99) xc (48 + 1) (48 + 4)) (s_takeW xl (s_takeP xl xp xw xc 99 99) (s_takeW xl xp xw xc 99 99) xc (48 + 1) (48 + 4)) xc (48 + 2) (48 + 5)) (s_takeW xl (s_takeP xl (s_takeP xl xp xw xc 99 99) (s_takeW xl xp xw xc 99 99) xc (48 + 1) (48 + 4)) (s_takeW xl (s_takeP xl xp xw xc 99 99) (s_takeW xl xp xw xc 99 99) xc (48 + 1) (48 + 4)) xc (48 + 2) (48 + 5)) xc (48 + 0) (48 + 9)), .int (y44_0_4 ||| ((1 : Int32) <<< ((x44_2 * (2 + s_takeR xl (s_takeP xl (s_takeP xl xp xw xc 99 99) (s_takeW xl xp xw xc 99 99) xc (48 + 1) (48 + 4)) (s_takeW xl (s_takeP xl xp xw xc 99 99) (s_takeW xl xp xw xc 99 99) xc (48 + 1) (48 + 4)) xc (48 + 2) (48 + 5))) &&& 31))), .int lc])), (i1, .inl (G.2.1, 20, .inl y44_1))]) (rest := []) fx hh hl.1 (h_X5_sign x0 x1 xl y44_2_2 y44_2_3 59 xc hv.1) yV_X5_sign nMX2_31 ⟨rfl, rfl, Nat.le_of_ble_eq_true rfl, Nat.le_of_ble_eq_true rfl⟩ 2 5 rfl rfl rfl [2, 3] [0, 1] [0, 1, 2, 3] rfl rfl rfl (by decide) (by decide) rfl rfl (Nat.le_of_ble_eq_true rfl) ⟨Nat.le_of_ble_eq_true rfl, Nat.le_of_ble_eq_true rfl⟩ (dOk_at dX2_take 43 rfl) (fun H locs hh => ?_)
        have hv := hv.2
        refine lv_iconst (pc := 75) (v := 0) hx hb (dOk_at dX2_take 44 rfl) (by decide) ?_
        refine lv_istore_n (pc := 76) (lv' := [(3, .int 0), (0, .ref i0), (1, .ref x0), (2, .int x44_2)]) hx hb (dOk_at dX2_take 45 rfl) rfl hl (by decide) rfl (fun ls hl => ?_)
        obtain ⟨k0, hj0⟩ := hv
        exact lp77 k0 x44_2 0 (y44_0_4 ||| ((1 : Int32) <<< ((x44_2 * (2 + s_takeR xl (s_takeP xl (s_takeP xl xp xw xc 99 99) (s_takeW xl xp xw xc 99 99) xc (48 + 1) (48 + 4)) (s_takeW xl (s_takeP xl xp xw xc 99 99) (s_takeW xl xp xw xc 99 99) xc (48 + 1) (48 + 4)) xc (48 + 2) (48 + 5))) &&& 31))) y44_1 (s_takeP xl y44_2_2 y44_2_3 xc 59 59) (s_takeW xl y44_2_2 y44_2_3 xc 59 59) hj0 _ _ _ hh (lv_sub hl [1, 2, 3, 0] rfl)
  refine lv_aload_n (pc := 0) hx hb (dOk_at dX2_take 0 rfl) rfl (lv_at hl 1 rfl) ?_
  refine lv_bipush (pc := 1) (v := 99) hx hb (dOk_at dX2_take 1 rfl) (by decide) ?_
  refine cl_VN (pc := 3) (w' := [(i0, .inr (2, [.ref i1, .int hi, .int wi, .int fr, .int fc, .int lc])), (i1, .inl (G.2.1, 20, .inl str)), (x0, .inr (5, [.ref x1, .int xl, .int (s_takeP xl xp xw xc 99 99), .int (s_takeW xl xp xw xc 99 99)])), (x1, .inl (G.2.1, 60, .inl xc))]) (wr := [(i0, .inr (2, [.ref i1, .int hi, .int wi, .int fr, .int fc, .int lc])), (i1, .inl (G.2.1, 20, .inl str))]) (rest := []) fx hh hl.1 (h_X5_sign x0 x1 xl xp xw 99 xc hv.1) yV_X5_sign nMX2_31 ⟨rfl, rfl, Nat.le_of_ble_eq_true rfl, Nat.le_of_ble_eq_true rfl⟩ 2 5 rfl rfl rfl [2, 3] [0, 1] [0, 1, 2, 3] rfl rfl rfl (by decide) (by decide) rfl rfl (Nat.le_of_ble_eq_true rfl) ⟨Nat.le_of_ble_eq_true rfl, Nat.le_of_ble_eq_true rfl⟩ (dOk_at dX2_take 2 rfl) (fun H locs hh => ?_)
  have hv := hv.2
  refine lv_aload_n (pc := 6) hx hb (dOk_at dX2_take 3 rfl) rfl (lv_at hl 0 rfl) ?_
  refine lv_aload_n (pc := 7) hx hb (dOk_at dX2_take 4 rfl) rfl (lv_at hl 1 rfl) ?_
  refine lv_iconst (pc := 8) (v := 1) hx hb (dOk_at dX2_take 5 rfl) (by decide) ?_
  refine lv_iconst (pc := 9) (v := 4) hx hb (dOk_at dX2_take 6 rfl) (by decide) ?_
  refine cl_VN (pc := 10) (w' := [(i0, .inr (2, [.ref i1, .int hi, .int wi, .int fr, .int fc, .int lc])), (i1, .inl (G.2.1, 20, .inl str)), (x0, .inr (5, [.ref x1, .int xl, .int (s_takeP xl (s_takeP xl xp xw xc 99 99) (s_takeW xl xp xw xc 99 99) xc (48 + 1) (48 + 4)), .int (s_takeW xl (s_takeP xl xp xw xc 99 99) (s_takeW xl xp xw xc 99 99) xc (48 + 1) (48 + 4))])), (x1, .inl (G.2.1, 60, .inl xc))]) (wr := [(i0, .inr (2, [.ref i1, .int hi, .int wi, .int fr, .int fc, .int lc])), (i1, .inl (G.2.1, 20, .inl str))]) (rest := [.ref i0]) fx hh hl.1 (h_X5_digit x0 x1 xl (s_takeP xl xp xw xc 99 99) (s_takeW xl xp xw xc 99 99) 1 4 xc hv.1) yV_X5_digit nMX2_37 ⟨rfl, rfl, Nat.le_of_ble_eq_true rfl, Nat.le_of_ble_eq_true rfl⟩ 2 5 rfl rfl rfl [2, 3] [0, 1] [0, 1, 2, 3] rfl rfl rfl (by decide) (by decide) rfl rfl (Nat.le_of_ble_eq_true rfl) ⟨Nat.le_of_ble_eq_true rfl, Nat.le_of_ble_eq_true rfl⟩ (dOk_at dX2_take 7 rfl) (fun H locs hh => ?_)
  have hv := hv.2
  refine r_put (pc := 13) (ci := 2) (w' := [(i0, .inr (2, [.ref i1, .int (1 + s_takeR xl (s_takeP xl xp xw xc 99 99) (s_takeW xl xp xw xc 99 99) xc (48 + 1) (48 + 4)), .int wi, .int fr, .int fc, .int lc])), (i1, .inl (G.2.1, 20, .inl str)), (x0, .inr (5, [.ref x1, .int xl, .int (s_takeP xl (s_takeP xl xp xw xc 99 99) (s_takeW xl xp xw xc 99 99) xc (48 + 1) (48 + 4)), .int (s_takeW xl (s_takeP xl xp xw xc 99 99) (s_takeW xl xp xw xc 99 99) xc (48 + 1) (48 + 4))])), (x1, .inl (G.2.1, 60, .inl xc))]) fx hh inT2 tyX2 tyX2_ok nmX2 rfl 1 (by decide) tFX2_15 rfl rfl 0 rfl rfl rfl (Nat.le_of_ble_eq_true rfl) rfl (dOk_at dX2_take 8 rfl) (fun H locs hh => ?_)
  refine lv_aload_n (pc := 16) hx hb (dOk_at dX2_take 9 rfl) rfl (lv_at hl 0 rfl) ?_
  refine lv_aload_n (pc := 17) hx hb (dOk_at dX2_take 10 rfl) rfl (lv_at hl 1 rfl) ?_
  refine lv_iconst (pc := 18) (v := 2) hx hb (dOk_at dX2_take 11 rfl) (by decide) ?_
  refine lv_iconst (pc := 19) (v := 5) hx hb (dOk_at dX2_take 12 rfl) (by decide) ?_
  refine cl_VN (pc := 20) (w' := [(i0, .inr (2, [.ref i1, .int (1 + s_takeR xl (s_takeP xl xp xw xc 99 99) (s_takeW xl xp xw xc 99 99) xc (48 + 1) (48 + 4)), .int wi, .int fr, .int fc, .int lc])), (i1, .inl (G.2.1, 20, .inl str)), (x0, .inr (5, [.ref x1, .int xl, .int (s_takeP xl (s_takeP xl (s_takeP xl xp xw xc 99 99) (s_takeW xl xp xw xc 99 99) xc (48 + 1) (48 + 4)) (s_takeW xl (s_takeP xl xp xw xc 99 99) (s_takeW xl xp xw xc 99 99) xc (48 + 1) (48 + 4)) xc (48 + 2) (48 + 5)), .int (s_takeW xl (s_takeP xl (s_takeP xl xp xw xc 99 99) (s_takeW xl xp xw xc 99 99) xc (48 + 1) (48 + 4)) (s_takeW xl (s_takeP xl xp xw xc 99 99) (s_takeW xl xp xw xc 99 99) xc (48 + 1) (48 + 4)) xc (48 + 2) (48 + 5))])), (x1, .inl (G.2.1, 60, .inl xc))]) (wr := [(i0, .inr (2, [.ref i1, .int (1 + s_takeR xl (s_takeP xl xp xw xc 99 99) (s_takeW xl xp xw xc 99 99) xc (48 + 1) (48 + 4)), .int wi, .int fr, .int fc, .int lc])), (i1, .inl (G.2.1, 20, .inl str))]) (rest := [.ref i0]) fx hh hl.1 (h_X5_digit x0 x1 xl (s_takeP xl (s_takeP xl xp xw xc 99 99) (s_takeW xl xp xw xc 99 99) xc (48 + 1) (48 + 4)) (s_takeW xl (s_takeP xl xp xw xc 99 99) (s_takeW xl xp xw xc 99 99) xc (48 + 1) (48 + 4)) 2 5 xc hv.1) yV_X5_digit nMX2_37 ⟨rfl, rfl, Nat.le_of_ble_eq_true rfl, Nat.le_of_ble_eq_true rfl⟩ 2 5 rfl rfl rfl [2, 3] [0, 1] [0, 1, 2, 3] rfl rfl rfl (by decide) (by decide) rfl rfl (Nat.le_of_ble_eq_true rfl) ⟨Nat.le_of_ble_eq_true rfl, Nat.le_of_ble_eq_true rfl⟩ (dOk_at dX2_take 13 rfl) (fun H locs hh => ?_)
  have hv := hv.2
  refine r_put (pc := 23) (ci := 2) (w' := [(i0, .inr (2, [.ref i1, .int (1 + s_takeR xl (s_takeP xl xp xw xc 99 99) (s_takeW xl xp xw xc 99 99) xc (48 + 1) (48 + 4)), .int (2 + s_takeR xl (s_takeP xl (s_takeP xl xp xw xc 99 99) (s_takeW xl xp xw xc 99 99) xc (48 + 1) (48 + 4)) (s_takeW xl (s_takeP xl xp xw xc 99 99) (s_takeW xl xp xw xc 99 99) xc (48 + 1) (48 + 4)) xc (48 + 2) (48 + 5)), .int fr, .int fc, .int lc])), (i1, .inl (G.2.1, 20, .inl str)), (x0, .inr (5, [.ref x1, .int xl, .int (s_takeP xl (s_takeP xl (s_takeP xl xp xw xc 99 99) (s_takeW xl xp xw xc 99 99) xc (48 + 1) (48 + 4)) (s_takeW xl (s_takeP xl xp xw xc 99 99) (s_takeW xl xp xw xc 99 99) xc (48 + 1) (48 + 4)) xc (48 + 2) (48 + 5)), .int (s_takeW xl (s_takeP xl (s_takeP xl xp xw xc 99 99) (s_takeW xl xp xw xc 99 99) xc (48 + 1) (48 + 4)) (s_takeW xl (s_takeP xl xp xw xc 99 99) (s_takeW xl xp xw xc 99 99) xc (48 + 1) (48 + 4)) xc (48 + 2) (48 + 5))])), (x1, .inl (G.2.1, 60, .inl xc))]) fx hh inT2 tyX2 tyX2_ok nmX2 rfl 2 (by decide) tFX2_19 rfl rfl 0 rfl rfl rfl (Nat.le_of_ble_eq_true rfl) rfl (dOk_at dX2_take 14 rfl) (fun H locs hh => ?_)
  refine lv_aload_n (pc := 26) hx hb (dOk_at dX2_take 15 rfl) rfl (lv_at hl 0 rfl) ?_
  refine lv_aload_n (pc := 27) hx hb (dOk_at dX2_take 16 rfl) rfl (lv_at hl 1 rfl) ?_
  refine lv_iconst (pc := 28) (v := 0) hx hb (dOk_at dX2_take 17 rfl) (by decide) ?_
  refine lv_bipush (pc := 29) (v := 9) hx hb (dOk_at dX2_take 18 rfl) (by decide) ?_
  refine cl_VN (pc := 31) (w' := [(i0, .inr (2, [.ref i1, .int (1 + s_takeR xl (s_takeP xl xp xw xc 99 99) (s_takeW xl xp xw xc 99 99) xc (48 + 1) (48 + 4)), .int (2 + s_takeR xl (s_takeP xl (s_takeP xl xp xw xc 99 99) (s_takeW xl xp xw xc 99 99) xc (48 + 1) (48 + 4)) (s_takeW xl (s_takeP xl xp xw xc 99 99) (s_takeW xl xp xw xc 99 99) xc (48 + 1) (48 + 4)) xc (48 + 2) (48 + 5)), .int fr, .int fc, .int lc])), (i1, .inl (G.2.1, 20, .inl str)), (x0, .inr (5, [.ref x1, .int xl, .int (s_takeP xl (s_takeP xl (s_takeP xl (s_takeP xl xp xw xc 99 99) (s_takeW xl xp xw xc 99 99) xc (48 + 1) (48 + 4)) (s_takeW xl (s_takeP xl xp xw xc 99 99) (s_takeW xl xp xw xc 99 99) xc (48 + 1) (48 + 4)) xc (48 + 2) (48 + 5)) (s_takeW xl (s_takeP xl (s_takeP xl xp xw xc 99 99) (s_takeW xl xp xw xc 99 99) xc (48 + 1) (48 + 4)) (s_takeW xl (s_takeP xl xp xw xc 99 99) (s_takeW xl xp xw xc 99 99) xc (48 + 1) (48 + 4)) xc (48 + 2) (48 + 5)) xc (48 + 0) (48 + 9)), .int (s_takeW xl (s_takeP xl (s_takeP xl (s_takeP xl xp xw xc 99 99) (s_takeW xl xp xw xc 99 99) xc (48 + 1) (48 + 4)) (s_takeW xl (s_takeP xl xp xw xc 99 99) (s_takeW xl xp xw xc 99 99) xc (48 + 1) (48 + 4)) xc (48 + 2) (48 + 5)) (s_takeW xl (s_takeP xl (s_takeP xl xp xw xc 99 99) (s_takeW xl xp xw xc 99 99) xc (48 + 1) (48 + 4)) (s_takeW xl (s_takeP xl xp xw xc 99 99) (s_takeW xl xp xw xc 99 99) xc (48 + 1) (48 + 4)) xc (48 + 2) (48 + 5)) xc (48 + 0) (48 + 9))])), (x1, .inl (G.2.1, 60, .inl xc))]) (wr := [(i0, .inr (2, [.ref i1, .int (1 + s_takeR xl (s_takeP xl xp xw xc 99 99) (s_takeW xl xp xw xc 99 99) xc (48 + 1) (48 + 4)), .int (2 + s_takeR xl (s_takeP xl (s_takeP xl xp xw xc 99 99) (s_takeW xl xp xw xc 99 99) xc (48 + 1) (48 + 4)) (s_takeW xl (s_takeP xl xp xw xc 99 99) (s_takeW xl xp xw xc 99 99) xc (48 + 1) (48 + 4)) xc (48 + 2) (48 + 5)), .int fr, .int fc, .int lc])), (i1, .inl (G.2.1, 20, .inl str))]) (rest := [.ref i0]) fx hh hl.1 (h_X5_digit x0 x1 xl (s_takeP xl (s_takeP xl (s_takeP xl xp xw xc 99 99) (s_takeW xl xp xw xc 99 99) xc (48 + 1) (48 + 4)) (s_takeW xl (s_takeP xl xp xw xc 99 99) (s_takeW xl xp xw xc 99 99) xc (48 + 1) (48 + 4)) xc (48 + 2) (48 + 5)) (s_takeW xl (s_takeP xl (s_takeP xl xp xw xc 99 99) (s_takeW xl xp xw xc 99 99) xc (48 + 1) (48 + 4)) (s_takeW xl (s_takeP xl xp xw xc 99 99) (s_takeW xl xp xw xc 99 99) xc (48 + 1) (48 + 4)) xc (48 + 2) (48 + 5)) 0 9 xc hv.1) yV_X5_digit nMX2_37 ⟨rfl, rfl, Nat.le_of_ble_eq_true rfl, Nat.le_of_ble_eq_true rfl⟩ 2 5 rfl rfl rfl [2, 3] [0, 1] [0, 1, 2, 3] rfl rfl rfl (by decide) (by decide) rfl rfl (Nat.le_of_ble_eq_true rfl) ⟨Nat.le_of_ble_eq_true rfl, Nat.le_of_ble_eq_true rfl⟩ (dOk_at dX2_take 19 rfl) (fun H locs hh => ?_)
  have hv := hv.2
  refine r_put (pc := 34) (ci := 2) (w' := [(i0, .inr (2, [.ref i1, .int (1 + s_takeR xl (s_takeP xl xp xw xc 99 99) (s_takeW xl xp xw xc 99 99) xc (48 + 1) (48 + 4)), .int (2 + s_takeR xl (s_takeP xl (s_takeP xl xp xw xc 99 99) (s_takeW xl xp xw xc 99 99) xc (48 + 1) (48 + 4)) (s_takeW xl (s_takeP xl xp xw xc 99 99) (s_takeW xl xp xw xc 99 99) xc (48 + 1) (48 + 4)) xc (48 + 2) (48 + 5)), .int (0 + s_takeR xl (s_takeP xl (s_takeP xl (s_takeP xl xp xw xc 99 99) (s_takeW xl xp xw xc 99 99) xc (48 + 1) (48 + 4)) (s_takeW xl (s_takeP xl xp xw xc 99 99) (s_takeW xl xp xw xc 99 99) xc (48 + 1) (48 + 4)) xc (48 + 2) (48 + 5)) (s_takeW xl (s_takeP xl (s_takeP xl xp xw xc 99 99) (s_takeW xl xp xw xc 99 99) xc (48 + 1) (48 + 4)) (s_takeW xl (s_takeP xl xp xw xc 99 99) (s_takeW xl xp xw xc 99 99) xc (48 + 1) (48 + 4)) xc (48 + 2) (48 + 5)) xc (48 + 0) (48 + 9)), .int fc, .int lc])), (i1, .inl (G.2.1, 20, .inl str)), (x0, .inr (5, [.ref x1, .int xl, .int (s_takeP xl (s_takeP xl (s_takeP xl (s_takeP xl xp xw xc 99 99) (s_takeW xl xp xw xc 99 99) xc (48 + 1) (48 + 4)) (s_takeW xl (s_takeP xl xp xw xc 99 99) (s_takeW xl xp xw xc 99 99) xc (48 + 1) (48 + 4)) xc (48 + 2) (48 + 5)) (s_takeW xl (s_takeP xl (s_takeP xl xp xw xc 99 99) (s_takeW xl xp xw xc 99 99) xc (48 + 1) (48 + 4)) (s_takeW xl (s_takeP xl xp xw xc 99 99) (s_takeW xl xp xw xc 99 99) xc (48 + 1) (48 + 4)) xc (48 + 2) (48 + 5)) xc (48 + 0) (48 + 9)), .int (s_takeW xl (s_takeP xl (s_takeP xl (s_takeP xl xp xw xc 99 99) (s_takeW xl xp xw xc 99 99) xc (48 + 1) (48 + 4)) (s_takeW xl (s_takeP xl xp xw xc 99 99) (s_takeW xl xp xw xc 99 99) xc (48 + 1) (48 + 4)) xc (48 + 2) (48 + 5)) (s_takeW xl (s_takeP xl (s_takeP xl xp xw xc 99 99) (s_takeW xl xp xw xc 99 99) xc (48 + 1) (48 + 4)) (s_takeW xl (s_takeP xl xp xw xc 99 99) (s_takeW xl xp xw xc 99 99) xc (48 + 1) (48 + 4)) xc (48 + 2) (48 + 5)) xc (48 + 0) (48 + 9))])), (x1, .inl (G.2.1, 60, .inl xc))]) fx hh inT2 tyX2 tyX2_ok nmX2 rfl 3 (by decide) tFX2_22 rfl rfl 0 rfl rfl rfl (Nat.le_of_ble_eq_true rfl) rfl (dOk_at dX2_take 20 rfl) (fun H locs hh => ?_)
  refine lv_aload_n (pc := 37) hx hb (dOk_at dX2_take 21 rfl) rfl (lv_at hl 0 rfl) ?_
  refine lv_iconst (pc := 38) (v := 0) hx hb (dOk_at dX2_take 22 rfl) (by decide) ?_
  refine r_put (pc := 39) (ci := 2) (w' := [(i0, .inr (2, [.ref i1, .int (1 + s_takeR xl (s_takeP xl xp xw xc 99 99) (s_takeW xl xp xw xc 99 99) xc (48 + 1) (48 + 4)), .int (2 + s_takeR xl (s_takeP xl (s_takeP xl xp xw xc 99 99) (s_takeW xl xp xw xc 99 99) xc (48 + 1) (48 + 4)) (s_takeW xl (s_takeP xl xp xw xc 99 99) (s_takeW xl xp xw xc 99 99) xc (48 + 1) (48 + 4)) xc (48 + 2) (48 + 5)), .int (0 + s_takeR xl (s_takeP xl (s_takeP xl (s_takeP xl xp xw xc 99 99) (s_takeW xl xp xw xc 99 99) xc (48 + 1) (48 + 4)) (s_takeW xl (s_takeP xl xp xw xc 99 99) (s_takeW xl xp xw xc 99 99) xc (48 + 1) (48 + 4)) xc (48 + 2) (48 + 5)) (s_takeW xl (s_takeP xl (s_takeP xl xp xw xc 99 99) (s_takeW xl xp xw xc 99 99) xc (48 + 1) (48 + 4)) (s_takeW xl (s_takeP xl xp xw xc 99 99) (s_takeW xl xp xw xc 99 99) xc (48 + 1) (48 + 4)) xc (48 + 2) (48 + 5)) xc (48 + 0) (48 + 9)), .int 0, .int lc])), (i1, .inl (G.2.1, 20, .inl str)), (x0, .inr (5, [.ref x1, .int xl, .int (s_takeP xl (s_takeP xl (s_takeP xl (s_takeP xl xp xw xc 99 99) (s_takeW xl xp xw xc 99 99) xc (48 + 1) (48 + 4)) (s_takeW xl (s_takeP xl xp xw xc 99 99) (s_takeW xl xp xw xc 99 99) xc (48 + 1) (48 + 4)) xc (48 + 2) (48 + 5)) (s_takeW xl (s_takeP xl (s_takeP xl xp xw xc 99 99) (s_takeW xl xp xw xc 99 99) xc (48 + 1) (48 + 4)) (s_takeW xl (s_takeP xl xp xw xc 99 99) (s_takeW xl xp xw xc 99 99) xc (48 + 1) (48 + 4)) xc (48 + 2) (48 + 5)) xc (48 + 0) (48 + 9)), .int (s_takeW xl (s_takeP xl (s_takeP xl (s_takeP xl xp xw xc 99 99) (s_takeW xl xp xw xc 99 99) xc (48 + 1) (48 + 4)) (s_takeW xl (s_takeP xl xp xw xc 99 99) (s_takeW xl xp xw xc 99 99) xc (48 + 1) (48 + 4)) xc (48 + 2) (48 + 5)) (s_takeW xl (s_takeP xl (s_takeP xl xp xw xc 99 99) (s_takeW xl xp xw xc 99 99) xc (48 + 1) (48 + 4)) (s_takeW xl (s_takeP xl xp xw xc 99 99) (s_takeW xl xp xw xc 99 99) xc (48 + 1) (48 + 4)) xc (48 + 2) (48 + 5)) xc (48 + 0) (48 + 9))])), (x1, .inl (G.2.1, 60, .inl xc))]) fx hh inT2 tyX2 tyX2_ok nmX2 rfl 4 (by decide) tFX2_25 rfl rfl 0 rfl rfl rfl (Nat.le_of_ble_eq_true rfl) rfl (dOk_at dX2_take 23 rfl) (fun H locs hh => ?_)
  refine lv_iconst (pc := 42) (v := 0) hx hb (dOk_at dX2_take 24 rfl) (by decide) ?_
  refine lv_istore_n (pc := 43) (lv' := [(2, .int 0), (0, .ref i0), (1, .ref x0)]) hx hb (dOk_at dX2_take 25 rfl) rfl hl (by decide) rfl (fun ls hl => ?_)
  obtain ⟨k0, hj0⟩ := hv
  exact lp44 k0 0 0 str (s_takeP xl (s_takeP xl (s_takeP xl (s_takeP xl xp xw xc 99 99) (s_takeW xl xp xw xc 99 99) xc (48 + 1) (48 + 4)) (s_takeW xl (s_takeP xl xp xw xc 99 99) (s_takeW xl xp xw xc 99 99) xc (48 + 1) (48 + 4)) xc (48 + 2) (48 + 5)) (s_takeW xl (s_takeP xl (s_takeP xl xp xw xc 99 99) (s_takeW xl xp xw xc 99 99) xc (48 + 1) (48 + 4)) (s_takeW xl (s_takeP xl xp xw xc 99 99) (s_takeW xl xp xw xc 99 99) xc (48 + 1) (48 + 4)) xc (48 + 2) (48 + 5)) xc (48 + 0) (48 + 9)) (s_takeW xl (s_takeP xl (s_takeP xl (s_takeP xl xp xw xc 99 99) (s_takeW xl xp xw xc 99 99) xc (48 + 1) (48 + 4)) (s_takeW xl (s_takeP xl xp xw xc 99 99) (s_takeW xl xp xw xc 99 99) xc (48 + 1) (48 + 4)) xc (48 + 2) (48 + 5)) (s_takeW xl (s_takeP xl (s_takeP xl xp xw xc 99 99) (s_takeW xl xp xw xc 99 99) xc (48 + 1) (48 + 4)) (s_takeW xl (s_takeP xl xp xw xc 99 99) (s_takeW xl xp xw xc 99 99) xc (48 + 1) (48 + 4)) xc (48 + 2) (48 + 5)) xc (48 + 0) (48 + 9)) hj0 _ _ _ hh (lv_sub hl [1, 2, 0] rfl)
set_option maxRecDepth 100000 in
set_option maxHeartbeats 4000000 in
theorem wk_X0_take (l : Launch) (G : GT) (c0 : Nat) (c1 : Nat) (c2 : Nat) (x0 : Nat) (x1 : Nat) (cnt : Int32) (xl : Int32) (xp : Int32) (xw : Int32) (ck : Nat → Int32) (cwt : Nat → Int32) (xc : Nat → Int32) (t0_2 : Int32) (t1 : Nat → Int32) (t2 : Nat → Int32) (t3_2 : Int32) (t3_3 : Int32) (J7 : Nat → Int32 → Int32 → (Nat → Int32) → (Nat → Int32) → Int32 → Int32 → Prop) (h_X5_digit : K_X5_digit l G) (h_X5_goesOn : K_X5_goesOn l G) (h_X5_kind : K_X5_kind l G) (h_X5_sign : K_X5_sign l G)
    (hv : ∃ k3 : Nat, J7 k3 0 0 ck cwt xp xw)
    (hv7 : ∀ (n7 : Nat) (x7_2 : Int32) (y7_0_2 : Int32) (y7_1 : Nat → Int32) (y7_2 : Nat → Int32) (y7_3_2 : Int32) (y7_3_3 : Int32), J7 n7 x7_2 y7_0_2 y7_1 y7_2 y7_3_2 y7_3_3 → (4 ≤ x7_2 → y7_0_2 = t0_2 ∧ y7_1 = t1 ∧ y7_2 = t2 ∧ y7_3_2 = t3_2 ∧ y7_3_3 = t3_3) ∧ (¬ 4 ≤ x7_2 → (x7_2 < 2 → okT xl y7_3_2 ∧ (okT xl (s_takeP xl y7_3_2 y7_3_3 xc 44 44) ∧ (vp_in x7_2 4 ∧ (okT xl (s_takeP xl (s_takeP xl y7_3_2 y7_3_3 xc 44 44) (s_takeW xl y7_3_2 y7_3_3 xc 44 44) xc (s_kindC xl (s_takeP xl y7_3_2 y7_3_3 xc 44 44) (s_takeW xl y7_3_2 y7_3_3 xc 44 44) xc) (s_kindC xl (s_takeP xl y7_3_2 y7_3_3 xc 44 44) (s_takeW xl y7_3_2 y7_3_3 xc 44 44) xc)) ∧ (vp_in x7_2 4 ∧ (∃ k1 : Nat, k1 < n7 ∧ J7 k1 (x7_2 + 1) (x7_2 + 1) (upd y7_1 x7_2.toNatClampNeg (s_kindR xl (s_takeP xl y7_3_2 y7_3_3 xc 44 44) (s_takeW xl y7_3_2 y7_3_3 xc 44 44) xc)) (upd y7_2 x7_2.toNatClampNeg (1 + s_takeR xl (s_takeP xl (s_takeP xl y7_3_2 y7_3_3 xc 44 44) (s_takeW xl y7_3_2 y7_3_3 xc 44 44) xc (s_kindC xl (s_takeP xl y7_3_2 y7_3_3 xc 44 44) (s_takeW xl y7_3_2 y7_3_3 xc 44 44) xc) (s_kindC xl (s_takeP xl y7_3_2 y7_3_3 xc 44 44) (s_takeW xl y7_3_2 y7_3_3 xc 44 44) xc)) (s_takeW xl (s_takeP xl y7_3_2 y7_3_3 xc 44 44) (s_takeW xl y7_3_2 y7_3_3 xc 44 44) xc (s_kindC xl (s_takeP xl y7_3_2 y7_3_3 xc 44 44) (s_takeW xl y7_3_2 y7_3_3 xc 44 44) xc) (s_kindC xl (s_takeP xl y7_3_2 y7_3_3 xc 44 44) (s_takeW xl y7_3_2 y7_3_3 xc 44 44) xc)) xc (48 + 1) (48 + 9))) (s_takeP xl (s_takeP xl (s_takeP xl y7_3_2 y7_3_3 xc 44 44) (s_takeW xl y7_3_2 y7_3_3 xc 44 44) xc (s_kindC xl (s_takeP xl y7_3_2 y7_3_3 xc 44 44) (s_takeW xl y7_3_2 y7_3_3 xc 44 44) xc) (s_kindC xl (s_takeP xl y7_3_2 y7_3_3 xc 44 44) (s_takeW xl y7_3_2 y7_3_3 xc 44 44) xc)) (s_takeW xl (s_takeP xl y7_3_2 y7_3_3 xc 44 44) (s_takeW xl y7_3_2 y7_3_3 xc 44 44) xc (s_kindC xl (s_takeP xl y7_3_2 y7_3_3 xc 44 44) (s_takeW xl y7_3_2 y7_3_3 xc 44 44) xc) (s_kindC xl (s_takeP xl y7_3_2 y7_3_3 xc 44 44) (s_takeW xl y7_3_2 y7_3_3 xc 44 44) xc)) xc (48 + 1) (48 + 9)) (s_takeW xl (s_takeP xl (s_takeP xl y7_3_2 y7_3_3 xc 44 44) (s_takeW xl y7_3_2 y7_3_3 xc 44 44) xc (s_kindC xl (s_takeP xl y7_3_2 y7_3_3 xc 44 44) (s_takeW xl y7_3_2 y7_3_3 xc 44 44) xc) (s_kindC xl (s_takeP xl y7_3_2 y7_3_3 xc 44 44) (s_takeW xl y7_3_2 y7_3_3 xc 44 44) xc)) (s_takeW xl (s_takeP xl y7_3_2 y7_3_3 xc 44 44) (s_takeW xl y7_3_2 y7_3_3 xc 44 44) xc (s_kindC xl (s_takeP xl y7_3_2 y7_3_3 xc 44 44) (s_takeW xl y7_3_2 y7_3_3 xc 44 44) xc) (s_kindC xl (s_takeP xl y7_3_2 y7_3_3 xc 44 44) (s_takeW xl y7_3_2 y7_3_3 xc 44 44) xc)) xc (48 + 1) (48 + 9)))))))) ∧ (¬ x7_2 < 2 → ((s_goesOn xl y7_3_2 y7_3_3) = 0 → y7_0_2 = t0_2 ∧ y7_1 = t1 ∧ y7_2 = t2 ∧ y7_3_2 = t3_2 ∧ y7_3_3 = t3_3) ∧ (¬ (s_goesOn xl y7_3_2 y7_3_3) = 0 → okT xl y7_3_2 ∧ (okT xl (s_takeP xl y7_3_2 y7_3_3 xc 44 44) ∧ (vp_in x7_2 4 ∧ (okT xl (s_takeP xl (s_takeP xl y7_3_2 y7_3_3 xc 44 44) (s_takeW xl y7_3_2 y7_3_3 xc 44 44) xc (s_kindC xl (s_takeP xl y7_3_2 y7_3_3 xc 44 44) (s_takeW xl y7_3_2 y7_3_3 xc 44 44) xc) (s_kindC xl (s_takeP xl y7_3_2 y7_3_3 xc 44 44) (s_takeW xl y7_3_2 y7_3_3 xc 44 44) xc)) ∧ (vp_in x7_2 4 ∧ (∃ k2 : Nat, k2 < n7 ∧ J7 k2 (x7_2 + 1) (x7_2 + 1) (upd y7_1 x7_2.toNatClampNeg (s_kindR xl (s_takeP xl y7_3_2 y7_3_3 xc 44 44) (s_takeW xl y7_3_2 y7_3_3 xc 44 44) xc)) (upd y7_2 x7_2.toNatClampNeg (1 + s_takeR xl (s_takeP xl (s_takeP xl y7_3_2 y7_3_3 xc 44 44) (s_takeW xl y7_3_2 y7_3_3 xc 44 44) xc (s_kindC xl (s_takeP xl y7_3_2 y7_3_3 xc 44 44) (s_takeW xl y7_3_2 y7_3_3 xc 44 44) xc) (s_kindC xl (s_takeP xl y7_3_2 y7_3_3 xc 44 44) (s_takeW xl y7_3_2 y7_3_3 xc 44 44) xc)) (s_takeW xl (s_takeP xl y7_3_2 y7_3_3 xc 44 44) (s_takeW xl y7_3_2 y7_3_3 xc 44 44) xc (s_kindC xl (s_takeP xl y7_3_2 y7_3_3 xc 44 44) (s_takeW xl y7_3_2 y7_3_3 xc 44 44) xc) (s_kindC xl (s_takeP xl y7_3_2 y7_3_3 xc 44 44) (s_takeW xl y7_3_2 y7_3_3 xc 44 44) xc)) xc (48 + 1) (48 + 9))) (s_takeP xl (s_takeP xl (s_takeP xl y7_3_2 y7_3_3 xc 44 44) (s_takeW xl y7_3_2 y7_3_3 xc 44 44) xc (s_kindC xl (s_takeP xl y7_3_2 y7_3_3 xc 44 44) (s_takeW xl y7_3_2 y7_3_3 xc 44 44) xc) (s_kindC xl (s_takeP xl y7_3_2 y7_3_3 xc 44 44) (s_takeW xl y7_3_2 y7_3_3 xc 44 44) xc)) (s_takeW xl (s_takeP xl y7_3_2 y7_3_3 xc 44 44) (s_takeW xl y7_3_2 y7_3_3 xc 44 44) xc (s_kindC xl (s_takeP xl y7_3_2 y7_3_3 xc 44 44) (s_takeW xl y7_3_2 y7_3_3 xc 44 44) xc) (s_kindC xl (s_takeP xl y7_3_2 y7_3_3 xc 44 44) (s_takeW xl y7_3_2 y7_3_3 xc 44 44) xc)) xc (48 + 1) (48 + 9)) (s_takeW xl (s_takeP xl (s_takeP xl y7_3_2 y7_3_3 xc 44 44) (s_takeW xl y7_3_2 y7_3_3 xc 44 44) xc (s_kindC xl (s_takeP xl y7_3_2 y7_3_3 xc 44 44) (s_takeW xl y7_3_2 y7_3_3 xc 44 44) xc) (s_kindC xl (s_takeP xl y7_3_2 y7_3_3 xc 44 44) (s_takeW xl y7_3_2 y7_3_3 xc 44 44) xc)) (s_takeW xl (s_takeP xl y7_3_2 y7_3_3 xc 44 44) (s_takeW xl y7_3_2 y7_3_3 xc 44 44) xc (s_kindC xl (s_takeP xl y7_3_2 y7_3_3 xc 44 44) (s_takeW xl y7_3_2 y7_3_3 xc 44 44) xc) (s_kindC xl (s_takeP xl y7_3_2 y7_3_3 xc 44 44) (s_takeW xl y7_3_2 y7_3_3 xc 44 44) xc)) xc (48 + 1) (48 + 9))))))))))) :
    MF l G yX0_take cX0_take 3 none rm_X0_take [.ref c0, .ref x0] [(c0, .inr (0, [.ref c1, .ref c2, .int cnt])), (c1, .inl (G.2.1, 4, .inl ck)), (c2, .inl (G.2.1, 4, .inl cwt)), (x0, .inr (5, [.ref x1, .int xl, .int xp, .int xw])), (x1, .inl (G.2.1, 60, .inl xc))] none [(c0, .inr (0, [.ref c1, .ref c2, .int t0_2])), (c1, .inl (G.2.1, 4, .inl t1)), (c2, .inl (G.2.1, 4, .inl t2)), (x0, .inr (5, [.ref x1, .int xl, .int t3_2, .int t3_3])), (x1, .inl (G.2.1, 60, .inl xc))] := by
  refine MF.of (by decide +kernel) (Nat.le_of_ble_eq_true rfl) ?_
  intro p e s m args below meth c A ls fx hh hl _
  have hx := fx.hx
  have hb := fx.hb
  have hl : lv_has ls 3 [(0, .ref c0), (1, .ref x0)] := hl
  obtain ⟨Q, hQ⟩ : ∃ Q, Q = ZZ G A none [(c0, .inr (0, [.ref c1, .ref c2, .int t0_2])), (c1, .inl (G.2.1, 4, .inl t1)), (c2, .inl (G.2.1, 4, .inl t2)), (x0, .inr (5, [.ref x1, .int xl, .int t3_2, .int t3_3])), (x1, .inl (G.2.1, 60, .inl xc))] below args s := ⟨_, rfl⟩
  rw [← hQ]
  have lp7 : ∀ (n7 : Nat) (x7_2 : Int32) (y7_0_2 : Int32) (y7_1 : Nat → Int32) (y7_2 : Nat → Int32) (y7_3_2 : Int32) (y7_3_3 : Int32), J7 n7 x7_2 y7_0_2 y7_1 y7_2 y7_3_2 y7_3_3 → ∀ (H : Heap) (locs : List Loc) (ls : Array Slot), HP G A [(c0, .inr (0, [.ref c1, .ref c2, .int y7_0_2])), (c1, .inl (G.2.1, 4, .inl y7_1)), (c2, .inl (G.2.1, 4, .inl y7_2)), (x0, .inr (5, [.ref x1, .int xl, .int y7_3_2, .int y7_3_3])), (x1, .inl (G.2.1, 60, .inl xc))] s H locs → lv_has ls 3 [(0, .ref c0), (1, .ref x0), (2, .int x7_2)] → W p l e rm_X0_take s m args below meth c H locs 0 0 Q (F0 m 7 ls []) := by
    intro n7
    induction n7 using Nat.strongRecOn with
    | ind n7 ih7 =>
      intro x7_2 y7_0_2 y7_1 y7_2 y7_3_2 y7_3_3 hj7 H locs ls hh hl
      have hv := hv7 n7 x7_2 y7_0_2 y7_1 y7_2 y7_3_2 y7_3_3 hj7
      refine lv_iload_n (pc := 7) hx hb (dOk_at dX0_take 5 rfl) rfl (lv_at hl 2 rfl) ?_
      refine lv_iconst (pc := 8) (v := 4) hx hb (dOk_at dX0_take 6 rfl) (by decide) ?_
      refine lv_icmp_ge (pc := 9) (tgt := 66) hx hb (dOk_at dX0_take 7 rfl) (by decide) (fun c9 => ?_) (fun c9 => ?_)
      · have hv := hv.1 c9
        obtain ⟨e0, e1, e2, e3, e4⟩ := hv
        subst e0
        subst e1
        subst e2
        subst e3
        subst e4
        rw [hQ]
        exact r_vret (pc := 66) fx hh (dOk_at dX0_take 38 rfl)
      · have hv := hv.2 c9
        refine lv_iload_n (pc := 12) hx hb (dOk_at dX0_take 8 rfl) rfl (lv_at hl 2 rfl) ?_
        refine lv_iconst (pc := 13) (v := 2) hx hb (dOk_at dX0_take 9 rfl) (by decide) ?_
        refine lv_icmp_lt (pc := 14) (tgt := 24) hx hb (dOk_at dX0_take 10 rfl) (by decide) (fun c14 => ?_) (fun c14 => ?_)
        · have hv := hv.1 c14
          refine lv_aload_n (pc := 24) hx hb (dOk_at dX0_take 14 rfl) rfl (lv_at hl 1 rfl) ?_
          refine lv_bipush (pc := 25) (v := 44) hx hb (dOk_at dX0_take 15 rfl) (by decide) ?_
          refine cl_VN (pc := 27) (w' := [(c0, .inr (0, [.ref c1, .ref c2, .int y7_0_2])), (c1, .inl (G.2.1, 4, .inl y7_1)), (c2, .inl (G.2.1, 4, .inl y7_2)), (x0, .inr (5, [.ref x1, .int xl, .int (s_takeP xl y7_3_2 y7_3_3 xc 44 44), .int (s_takeW xl y7_3_2 y7_3_3 xc 44 44)])), (x1, .inl (G.2.1, 60, .inl xc))]) (wr := [(c0, .inr (0, [.ref c1, .ref c2, .int y7_0_2])), (c1, .inl (G.2.1, 4, .inl y7_1)), (c2, .inl (G.2.1, 4, .inl y7_2))]) (rest := []) fx hh hl.1 (h_X5_sign x0 x1 xl y7_3_2 y7_3_3 44 xc hv.1) yV_X5_sign nMX0_28 ⟨rfl, rfl, Nat.le_of_ble_eq_true rfl, Nat.le_of_ble_eq_true rfl⟩ 3 5 rfl rfl rfl [3, 4] [0, 1, 2] [0, 1, 2, 3, 4] rfl rfl rfl (by decide) (by decide) rfl rfl (Nat.le_of_ble_eq_true rfl) ⟨Nat.le_of_ble_eq_true rfl, Nat.le_of_ble_eq_true rfl⟩ (dOk_at dX0_take 16 rfl) (fun H locs hh => ?_)
          have hv := hv.2
          refine lv_aload_n (pc := 30) hx hb (dOk_at dX0_take 17 rfl) rfl (lv_at hl 0 rfl) ?_
          refine r_get (pc := 31) (ci := 0) fx hh inT0 rfl 0 (by decide) tFX0_9 rfl 0 rfl rfl (dOk_at dX0_take 18 rfl) ?_
          refine lv_iload_n (pc := 34) hx hb (dOk_at dX0_take 19 rfl) rfl (lv_at hl 2 rfl) ?_
          refine lv_aload_n (pc := 35) hx hb (dOk_at dX0_take 20 rfl) rfl (lv_at hl 1 rfl) ?_
          refine cl_VN (pc := 36) (w' := [(c0, .inr (0, [.ref c1, .ref c2, .int y7_0_2])), (c1, .inl (G.2.1, 4, .inl y7_1)), (c2, .inl (G.2.1, 4, .inl y7_2)), (x0, .inr (5, [.ref x1, .int xl, .int (s_takeP xl (s_takeP xl y7_3_2 y7_3_3 xc 44 44) (s_takeW xl y7_3_2 y7_3_3 xc 44 44) xc (s_kindC xl (s_takeP xl y7_3_2 y7_3_3 xc 44 44) (s_takeW xl y7_3_2 y7_3_3 xc 44 44) xc) (s_kindC xl (s_takeP xl y7_3_2 y7_3_3 xc 44 44) (s_takeW xl y7_3_2 y7_3_3 xc 44 44) xc)), .int (s_takeW xl (s_takeP xl y7_3_2 y7_3_3 xc 44 44) (s_takeW xl y7_3_2 y7_3_3 xc 44 44) xc (s_kindC xl (s_takeP xl y7_3_2 y7_3_3 xc 44 44) (s_takeW xl y7_3_2 y7_3_3 xc 44 44) xc) (s_kindC xl (s_takeP xl y7_3_2 y7_3_3 xc 44 44) (s_takeW xl y7_3_2 y7_3_3 xc 44 44) xc))])), (x1, .inl (G.2.1, 60, .inl xc))]) (wr := [(c0, .inr (0, [.ref c1, .ref c2, .int y7_0_2])), (c1, .inl (G.2.1, 4, .inl y7_1)), (c2, .inl (G.2.1, 4, .inl y7_2))]) (rest := [.int x7_2, .ref c1]) fx hh hl.1 (h_X5_kind x0 x1 xl (s_takeP xl y7_3_2 y7_3_3 xc 44 44) (s_takeW xl y7_3_2 y7_3_3 xc 44 44) xc hv.1) yV_X5_kind nMX0_32 ⟨rfl, rfl, Nat.le_of_ble_eq_true rfl, Nat.le_of_ble_eq_true rfl⟩ 3 5 rfl rfl rfl [3, 4] [0, 1, 2] [0, 1, 2, 3, 4] rfl rfl rfl (by decide) (by decide) rfl rfl (Nat.le_of_ble_eq_true rfl) ⟨Nat.le_of_ble_eq_true rfl, Nat.le_of_ble_eq_true rfl⟩ (dOk_at dX0_take 21 rfl) (fun H locs hh => ?_)
          have hv := hv.2
          refine r_iast (pc := 39) (w' := [(c0, .inr (0, [.ref c1, .ref c2, .int y7_0_2])), (c1, .inl (G.2.1, 4, .inl (upd y7_1 x7_2.toNatClampNeg (s_kindR xl (s_takeP xl y7_3_2 y7_3_3 xc 44 44) (s_takeW xl y7_3_2 y7_3_3 xc 44 44) xc)))), (c2, .inl (G.2.1, 4, .inl y7_2)), (x0, .inr (5, [.ref x1, .int xl, .int (s_takeP xl (s_takeP xl y7_3_2 y7_3_3 xc 44 44) (s_takeW xl y7_3_2 y7_3_3 xc 44 44) xc (s_kindC xl (s_takeP xl y7_3_2 y7_3_3 xc 44 44) (s_takeW xl y7_3_2 y7_3_3 xc 44 44) xc) (s_kindC xl (s_takeP xl y7_3_2 y7_3_3 xc 44 44) (s_takeW xl y7_3_2 y7_3_3 xc 44 44) xc)), .int (s_takeW xl (s_takeP xl y7_3_2 y7_3_3 xc 44 44) (s_takeW xl y7_3_2 y7_3_3 xc 44 44) xc (s_kindC xl (s_takeP xl y7_3_2 y7_3_3 xc 44 44) (s_takeW xl y7_3_2 y7_3_3 xc 44 44) xc) (s_kindC xl (s_takeP xl y7_3_2 y7_3_3 xc 44 44) (s_takeW xl y7_3_2 y7_3_3 xc 44 44) xc))])), (x1, .inl (G.2.1, 60, .inl xc))]) fx hh 1 rfl hv.1 rfl (dOk_at dX0_take 22 rfl) (fun H locs hh => ?_)
          have hv := hv.2
          refine lv_aload_n (pc := 40) hx hb (dOk_at dX0_take 23 rfl) rfl (lv_at hl 0 rfl) ?_
          refine r_get (pc := 41) (ci := 0) fx hh inT0 rfl 1 (by decide) tFX0_15 rfl 0 rfl rfl (dOk_at dX0_take 24 rfl) ?_
          refine lv_iload_n (pc := 44) hx hb (dOk_at dX0_take 25 rfl) rfl (lv_at hl 2 rfl) ?_
          refine lv_aload_n (pc := 45) hx hb (dOk_at dX0_take 26 rfl) rfl (lv_at hl 1 rfl) ?_
          refine lv_iconst (pc := 46) (v := 1) hx hb (dOk_at dX0_take 27 rfl) (by decide) ?_
          refine lv_bipush (pc := 47) (v := 9) hx hb (dOk_at dX0_take 28 rfl) (by decide) ?_
          refine cl_VN (pc := 49) (w' := [(c0, .inr (0, [.ref c1, .ref c2, .int y7_0_2])), (c1, .inl (G.2.1, 4, .inl (upd y7_1 x7_2.toNatClampNeg (s_kindR xl (s_takeP xl y7_3_2 y7_3_3 xc 44 44) (s_takeW xl y7_3_2 y7_3_3 xc 44 44) xc)))), (c2, .inl (G.2.1, 4, .inl y7_2)), (x0, .inr (5, [.ref x1, .int xl, .int (s_takeP xl (s_takeP xl (s_takeP xl y7_3_2 y7_3_3 xc 44 44) (s_takeW xl y7_3_2 y7_3_3 xc 44 44) xc (s_kindC xl (s_takeP xl y7_3_2 y7_3_3 xc 44 44) (s_takeW xl y7_3_2 y7_3_3 xc 44 44) xc) (s_kindC xl (s_takeP xl y7_3_2 y7_3_3 xc 44 44) (s_takeW xl y7_3_2 y7_3_3 xc 44 44) xc)) (s_takeW xl (s_takeP xl y7_3_2 y7_3_3 xc 44 44) (s_takeW xl y7_3_2 y7_3_3 xc 44 44) xc (s_kindC xl (s_takeP xl y7_3_2 y7_3_3 xc 44 44) (s_takeW xl y7_3_2 y7_3_3 xc 44 44) xc) (s_kindC xl (s_takeP xl y7_3_2 y7_3_3 xc 44 44) (s_takeW xl y7_3_2 y7_3_3 xc 44 44) xc)) xc (48 + 1) (48 + 9)), .int (s_takeW xl (s_takeP xl (s_takeP xl y7_3_2 y7_3_3 xc 44 44) (s_takeW xl y7_3_2 y7_3_3 xc 44 44) xc (s_kindC xl (s_takeP xl y7_3_2 y7_3_3 xc 44 44) (s_takeW xl y7_3_2 y7_3_3 xc 44 44) xc) (s_kindC xl (s_takeP xl y7_3_2 y7_3_3 xc 44 44) (s_takeW xl y7_3_2 y7_3_3 xc 44 44) xc)) (s_takeW xl (s_takeP xl y7_3_2 y7_3_3 xc 44 44) (s_takeW xl y7_3_2 y7_3_3 xc 44 44) xc (s_kindC xl (s_takeP xl y7_3_2 y7_3_3 xc 44 44) (s_takeW xl y7_3_2 y7_3_3 xc 44 44) xc) (s_kindC xl (s_takeP xl y7_3_2 y7_3_3 xc 44 44) (s_takeW xl y7_3_2 y7_3_3 xc 44 44) xc)) xc (48 + 1) (48 + 9))])), (x1, .inl (G.2.1, 60, .inl xc))]) (wr := [(c0, .inr (0, [.ref c1, .ref c2, .int y7_0_2])), (c1, .inl (G.2.1, 4, .inl (upd y7_1 x7_2.toNatClampNeg (s_kindR xl (s_takeP xl y7_3_2 y7_3_3 xc 44 44) (s_takeW xl y7_3_2 y7_3_3 xc 44 44) xc)))), (c2, .inl (G.2.1, 4, .inl y7_2))]) (rest := [.int x7_2, .ref c2]) fx hh hl.1 (h_X5_digit x0 x1 xl (s_takeP xl (s_takeP xl y7_3_2 y7_3_3 xc 44 44) (s_takeW xl y7_3_2 y7_3_3 xc 44 44) xc (s_kindC xl (s_takeP xl y7_3_2 y7_3_3 xc 44 44) (s_takeW xl y7_3_2 y7_3_3 xc 44 44) xc) (s_kindC xl (s_takeP xl y7_3_2 y7_3_3 xc 44 44) (s_takeW xl y7_3_2 y7_3_3 xc 44 44) xc)) (s_takeW xl (s_takeP xl y7_3_2 y7_3_3 xc 44 44) (s_takeW xl y7_3_2 y7_3_3 xc 44 44) xc (s_kindC xl (s_takeP xl y7_3_2 y7_3_3 xc 44 44) (s_takeW xl y7_3_2 y7_3_3 xc 44 44) xc) (s_kindC xl (s_takeP xl y7_3_2 y7_3_3 xc 44 44) (s_takeW xl y7_3_2 y7_3_3 xc 44 44) xc)) 1 9 xc hv.1) yV_X5_digit nMX0_36 ⟨rfl, rfl, Nat.le_of_ble_eq_true rfl, Nat.le_of_ble_eq_true rfl⟩ 3 5 rfl rfl rfl [3, 4] [0, 1, 2] [0, 1, 2, 3, 4] rfl rfl rfl (by decide) (by decide) rfl rfl (Nat.le_of_ble_eq_true rfl) ⟨Nat.le_of_ble_eq_true rfl, Nat.le_of_ble_eq_true rfl⟩ (dOk_at dX0_take 29 rfl) (fun H locs hh => ?_)
          have hv := hv.2
          refine r_iast (pc := 52) (w' := [(c0, .inr (0, [.ref c1, .ref c2, .int y7_0_2])), (c1, .inl (G.2.1, 4, .inl (upd y7_1 x7_2.toNatClampNeg (s_kindR xl (s_takeP xl y7_3_2 y7_3_3 xc 44 44) (s_takeW xl y7_3_2 y7_3_3 xc 44 44) xc)))), (c2, .inl (G.2.1, 4, .inl (upd y7_2 x7_2.toNatClampNeg (1 + s_takeR xl (s_takeP xl (s_takeP xl y7_3_2 y7_3_3 xc 44 44) (s_takeW xl y7_3_2 y7_3_3 xc 44 44) xc (s_kindC xl (s_takeP xl y7_3_2 y7_3_3 xc 44 44) (s_takeW xl y7_3_2 y7_3_3 xc 44 44) xc) (s_kindC xl (s_takeP xl y7_3_2 y7_3_3 xc 44 44) (s_takeW xl y7_3_2 y7_3_3 xc 44 44) xc)) (s_takeW xl (s_takeP xl y7_3_2 y7_3_3 xc 44 44) (s_takeW xl y7_3_2 y7_3_3 xc 44 44) xc (s_kindC xl (s_takeP xl y7_3_2 y7_3_3 xc 44 44) (s_takeW xl y7_3_2 y7_3_3 xc 44 44) xc) (s_kindC xl (s_takeP xl y7_3_2 y7_3_3 xc 44 44) (s_takeW xl y7_3_2 y7_3_3 xc 44 44) xc)) xc (48 + 1) (48 + 9))))), (x0, .inr (5, [.ref x1, .int xl, .int (s_takeP xl (s_takeP xl (s_takeP xl y7_3_2 y7_3_3 xc 44 44) (s_takeW xl y7_3_2 y7_3_3 xc 44 44) xc (s_kindC xl (s_takeP xl y7_3_2 y7_3_3 xc 44 44) (s_takeW xl y7_3_2 y7_3_3 xc 44 44) xc) (s_kindC xl (s_takeP xl y7_3_2 y7_3_3 xc 44 44) (s_takeW xl y7_3_2 y7_3_3 xc 44 44) xc)) (s_takeW xl (s_takeP xl y7_3_2 y7_3_3 xc 44 44) (s_takeW xl y7_3_2 y7_3_3 xc 44 44) xc (s_kindC xl (s_takeP xl y7_3_2 y7_3_3 xc 44 44) (s_takeW xl y7_3_2 y7_3_3 xc 44 44) xc) (s_kindC xl (s_takeP xl y7_3_2 y7_3_3 xc 44 44) (s_takeW xl y7_3_2 y7_3_3 xc 44 44) xc)) xc (48 + 1) (48 + 9)), .int (s_takeW xl (s_takeP xl (s_takeP xl y7_3_2 y7_3_3 xc 44 44) (s_takeW xl y7_3_2 y7_3_3 xc 44 44) xc (s_kindC xl (s_takeP xl y7_3_2 y7_3_3 xc 44 44) (s_takeW xl y7_3_2 y7_3_3 xc 44 44) xc) (s_kindC xl (s_takeP xl y7_3_2 y7_3_3 xc 44 44) (s_takeW xl y7_3_2 y7_3_3 xc 44 44) xc)) (s_takeW xl (s_takeP xl y7_3_2 y7_3_3 xc 44 44) (s_takeW xl y7_3_2 y7_3_3 xc 44 44) xc (s_kindC xl (s_takeP xl y7_3_2 y7_3_3 xc 44 44) (s_takeW xl y7_3_2 y7_3_3 xc 44 44) xc) (s_kindC xl (s_takeP xl y7_3_2 y7_3_3 xc 44 44) (s_takeW xl y7_3_2 y7_3_3 xc 44 44) xc)) xc (48 + 1) (48 + 9))])), (x1, .inl (G.2.1, 60, .inl xc))]) fx hh 2 rfl hv.1 rfl (dOk_at dX0_take 30 rfl) (fun H locs hh => ?_)
          have hv := hv.2
          refine lv_aload_n (pc := 53) hx hb (dOk_at dX0_take 31 rfl) rfl (lv_at hl 0 rfl) ?_
          refine lv_iload_n (pc := 54) hx hb (dOk_at dX0_take 32 rfl) rfl (lv_at hl 2 rfl) ?_
          refine lv_iconst (pc := 55) (v := 1) hx hb (dOk_at dX0_take 33 rfl) (by decide) ?_
          refine lv_iadd (pc := 56) hx hb (dOk_at dX0_take 34 rfl) ?_
          refine r_put (pc := 57) (ci := 0) (w' := [(c0, .inr (0, [.ref c1, .ref c2, .int (x7_2 + 1)])), (c1, .inl (G.2.1, 4, .inl (upd y7_1 x7_2.toNatClampNeg (s_kindR xl (s_takeP xl y7_3_2 y7_3_3 xc 44 44) (s_takeW xl y7_3_2 y7_3_3 xc 44 44) xc)))), (c2, .inl (G.2.1, 4, .inl (upd y7_2 x7_2.toNatClampNeg (1 + s_takeR xl (s_takeP xl (s_takeP xl y7_3_2 y7_3_3 xc 44 44) (s_takeW xl y7_3_2 y7_3_3 xc 44 44) xc (s_kindC xl (s_takeP xl y7_3_2 y7_3_3 xc 44 44) (s_takeW xl y7_3_2 y7_3_3 xc 44 44) xc) (s_kindC xl (s_takeP xl y7_3_2 y7_3_3 xc 44 44) (s_takeW xl y7_3_2 y7_3_3 xc 44 44) xc)) (s_takeW xl (s_takeP xl y7_3_2 y7_3_3 xc 44 44) (s_takeW xl y7_3_2 y7_3_3 xc 44 44) xc (s_kindC xl (s_takeP xl y7_3_2 y7_3_3 xc 44 44) (s_takeW xl y7_3_2 y7_3_3 xc 44 44) xc) (s_kindC xl (s_takeP xl y7_3_2 y7_3_3 xc 44 44) (s_takeW xl y7_3_2 y7_3_3 xc 44 44) xc)) xc (48 + 1) (48 + 9))))), (x0, .inr (5, [.ref x1, .int xl, .int (s_takeP xl (s_takeP xl (s_takeP xl y7_3_2 y7_3_3 xc 44 44) (s_takeW xl y7_3_2 y7_3_3 xc 44 44) xc (s_kindC xl (s_takeP xl y7_3_2 y7_3_3 xc 44 44) (s_takeW xl y7_3_2 y7_3_3 xc 44 44) xc) (s_kindC xl (s_takeP xl y7_3_2 y7_3_3 xc 44 44) (s_takeW xl y7_3_2 y7_3_3 xc 44 44) xc)) (s_takeW xl (s_takeP xl y7_3_2 y7_3_3 xc 44 44) (s_takeW xl y7_3_2 y7_3_3 xc 44 44) xc (s_kindC xl (s_takeP xl y7_3_2 y7_3_3 xc 44 44) (s_takeW xl y7_3_2 y7_3_3 xc 44 44) xc) (s_kindC xl (s_takeP xl y7_3_2 y7_3_3 xc 44 44) (s_takeW xl y7_3_2 y7_3_3 xc 44 44) xc)) xc (48 + 1) (48 + 9)), .int (s_takeW xl (s_takeP xl (s_takeP xl y7_3_2 y7_3_3 xc 44 44) (s_takeW xl y7_3_2 y7_3_3 xc 44 44) xc (s_kindC xl (s_takeP xl y7_3_2 y7_3_3 xc 44 44) (s_takeW xl y7_3_2 y7_3_3 xc 44 44) xc) (s_kindC xl (s_takeP xl y7_3_2 y7_3_3 xc 44 44) (s_takeW xl y7_3_2 y7_3_3 xc 44 44) xc)) (s_takeW xl (s_takeP xl y7_3_2 y7_3_3 xc 44 44) (s_takeW xl y7_3_2 y7_3_3 xc 44 44) xc (s_kindC xl (s_takeP xl y7_3_2 y7_3_3 xc 44 44) (s_takeW xl y7_3_2 y7_3_3 xc 44 44) xc) (s_kindC xl (s_takeP xl y7_3_2 y7_3_3 xc 44 44) (s_takeW xl y7_3_2 y7_3_3 xc 44 44) xc)) xc (48 + 1) (48 + 9))])), (x1, .inl (G.2.1, 60, .inl xc))]) fx hh inT0 tyX0 tyX0_ok nmX0 rfl 2 (by decide) tFX0_18 rfl rfl 0 rfl rfl rfl (Nat.le_of_ble_eq_true rfl) rfl (dOk_at dX0_take 35 rfl) (fun H locs hh => ?_)
          refine lv_iinc (pc := 60) (v := x7_2 + 1) (lv' := [(2, .int (x7_2 + 1)), (0, .ref c0), (1, .ref x0)]) hx hb (dOk_at dX0_take 36 rfl) hl (k := 2) rfl rfl (by decide) rfl (fun ls hl => ?_)
          refine lv_goto (pc := 63) (tgt := 7) hx hb (dOk_at dX0_take 37 rfl) (by decide) ?_
          obtain ⟨k0, hk0, hj0⟩ := hv
          exact ih7 k0 hk0 (x7_2 + 1) (x7_2 + 1) (upd y7_1 x7_2.toNatClampNeg (s_kindR xl (s_takeP xl y7_3_2 y7_3_3 xc 44 44) (s_takeW xl y7_3_2 y7_3_3 xc 44 44) xc)) (upd y7_2 x7_2.toNatClampNeg (1 + s_takeR xl (s_takeP xl (s_takeP xl y7_3_2 y7_3_3 xc 44 44) (s_takeW xl y7_3_2 y7_3_3 xc 44 44) xc (s_kindC xl (s_takeP xl y7_3_2 y7_3_3 xc 44 44) (s_takeW xl y7_3_2 y7_3_3 xc 44 44) xc) (s_kindC xl (s_takeP xl y7_3_2 y7_3_3 xc 44 44) (s_takeW xl y7_3_2 y7_3_3 xc 44 44) xc)) (s_takeW xl (s_takeP xl y7_3_2 y7_3_3 xc 44 44) (s_takeW xl y7_3_2 y7_3_3 xc 44 44) xc (s_kindC xl (s_takeP xl y7_3_2 y7_3_3 xc 44 44) (s_takeW xl y7_3_2 y7_3_3 xc 44 44) xc) (s_kindC xl (s_takeP xl y7_3_2 y7_3_3 xc 44 44) (s_takeW xl y7_3_2 y7_3_3 xc 44 44) xc)) xc (48 + 1) (48 + 9))) (s_takeP xl (s_takeP xl (s_takeP xl y7_3_2 y7_3_3 xc 44 44) (s_takeW xl y7_3_2 y7_3_3 xc 44 44) xc (s_kindC xl (s_takeP xl y7_3_2 y7_3_3 xc 44 44) (s_takeW xl y7_3_2 y7_3_3 xc 44 44) xc) (s_kindC xl (s_takeP xl y7_3_2 y7_3_3 xc 44 44) (s_takeW xl y7_3_2 y7_3_3 xc 44 44) xc)) (s_takeW xl (s_takeP xl y7_3_2 y7_3_3 xc 44 44) (s_takeW xl y7_3_2 y7_3_3 xc 44 44) xc (s_kindC xl (s_takeP xl y7_3_2 y7_3_3 xc 44 44) (s_takeW xl y7_3_2 y7_3_3 xc 44 44) xc) (s_kindC xl (s_takeP xl y7_3_2 y7_3_3 xc 44 44) (s_takeW xl y7_3_2 y7_3_3 xc 44 44) xc)) xc (48 + 1) (48 + 9)) (s_takeW xl (s_takeP xl (s_takeP xl y7_3_2 y7_3_3 xc 44 44) (s_takeW xl y7_3_2 y7_3_3 xc 44 44) xc (s_kindC xl (s_takeP xl y7_3_2 y7_3_3 xc 44 44) (s_takeW xl y7_3_2 y7_3_3 xc 44 44) xc) (s_kindC xl (s_takeP xl y7_3_2 y7_3_3 xc 44 44) (s_takeW xl y7_3_2 y7_3_3 xc 44 44) xc)) (s_takeW xl (s_takeP xl y7_3_2 y7_3_3 xc 44 44) (s_takeW xl y7_3_2 y7_3_3 xc 44 44) xc (s_kindC xl (s_takeP xl y7_3_2 y7_3_3 xc 44 44) (s_takeW xl y7_3_2 y7_3_3 xc 44 44) xc) (s_kindC xl (s_takeP xl y7_3_2 y7_3_3 xc 44 44) (s_takeW xl y7_3_2 y7_3_3 xc 44 44) xc)) xc (48 + 1) (48 + 9)) hj0 _ _ _ hh (lv_sub hl [1, 2, 0] rfl)
        · have hv := hv.2 c14
          refine lv_aload_n (pc := 17) hx hb (dOk_at dX0_take 11 rfl) rfl (lv_at hl 1 rfl) ?_
          refine cl_VN (pc := 18) (w' := [(c0, .inr (0, [.ref c1, .ref c2, .int y7_0_2])), (c1, .inl (G.2.1, 4, .inl y7_1)), (c2, .inl (G.2.1, 4, .inl y7_2)), (x0, .inr (5, [.ref x1, .int xl, .int y7_3_2, .int y7_3_3])), (x1, .inl (G.2.1, 60, .inl xc))]) (wr := [(c0, .inr (0, [.ref c1, .ref c2, .int y7_0_2])), (c1, .inl (G.2.1, 4, .inl y7_1)), (c2, .inl (G.2.1, 4, .inl y7_2)), (x1, .inl (G.2.1, 60, .inl xc))]) (rest := []) fx hh hl.1 (h_X5_goesOn x0 x1 xl y7_3_2 y7_3_3) yV_X5_goesOn nMX0_22 ⟨rfl, rfl, Nat.le_of_ble_eq_true rfl, Nat.le_of_ble_eq_true rfl⟩ 3 5 rfl rfl rfl [3] [0, 1, 2, 4] [0, 1, 2, 4, 3] rfl rfl rfl (by decide) (by decide) rfl rfl (Nat.le_of_ble_eq_true rfl) ⟨Nat.le_of_ble_eq_true rfl, Nat.le_of_ble_eq_true rfl⟩ (dOk_at dX0_take 12 rfl) (fun H locs hh => ?_)
          refine lv_if_eq (pc := 21) (tgt := 66) hx hb (dOk_at dX0_take 13 rfl) (by decide) (fun c21 => ?_) (fun c21 => ?_)
          · have hv := hv.1 c21
            obtain ⟨e0, e1, e2, e3, e4⟩ := hv
            subst e0
            subst e1
            subst e2
            subst e3
            subst e4
            rw [hQ]
            exact r_vret (pc := 66) fx hh (dOk_at dX0_take 38 rfl)
          · have hv := hv.2 c21
            refine lv_aload_n (pc := 24) hx hb (dOk_at dX0_take 14 rfl) rfl (lv_at hl 1 rfl) ?_
            refine lv_bipush (pc := 25) (v := 44) hx hb (dOk_at dX0_take 15 rfl) (by decide) ?_
            refine cl_VN (pc := 27) (w' := [(c0, .inr (0, [.ref c1, .ref c2, .int y7_0_2])), (c1, .inl (G.2.1, 4, .inl y7_1)), (c2, .inl (G.2.1, 4, .inl y7_2)), (x0, .inr (5, [.ref x1, .int xl, .int (s_takeP xl y7_3_2 y7_3_3 xc 44 44), .int (s_takeW xl y7_3_2 y7_3_3 xc 44 44)])), (x1, .inl (G.2.1, 60, .inl xc))]) (wr := [(c0, .inr (0, [.ref c1, .ref c2, .int y7_0_2])), (c1, .inl (G.2.1, 4, .inl y7_1)), (c2, .inl (G.2.1, 4, .inl y7_2))]) (rest := []) fx hh hl.1 (h_X5_sign x0 x1 xl y7_3_2 y7_3_3 44 xc hv.1) yV_X5_sign nMX0_28 ⟨rfl, rfl, Nat.le_of_ble_eq_true rfl, Nat.le_of_ble_eq_true rfl⟩ 3 5 rfl rfl rfl [3, 4] [0, 1, 2] [0, 1, 2, 3, 4] rfl rfl rfl (by decide) (by decide) rfl rfl (Nat.le_of_ble_eq_true rfl) ⟨Nat.le_of_ble_eq_true rfl, Nat.le_of_ble_eq_true rfl⟩ (dOk_at dX0_take 16 rfl) (fun H locs hh => ?_)
            have hv := hv.2
            refine lv_aload_n (pc := 30) hx hb (dOk_at dX0_take 17 rfl) rfl (lv_at hl 0 rfl) ?_
            refine r_get (pc := 31) (ci := 0) fx hh inT0 rfl 0 (by decide) tFX0_9 rfl 0 rfl rfl (dOk_at dX0_take 18 rfl) ?_
            refine lv_iload_n (pc := 34) hx hb (dOk_at dX0_take 19 rfl) rfl (lv_at hl 2 rfl) ?_
            refine lv_aload_n (pc := 35) hx hb (dOk_at dX0_take 20 rfl) rfl (lv_at hl 1 rfl) ?_
            refine cl_VN (pc := 36) (w' := [(c0, .inr (0, [.ref c1, .ref c2, .int y7_0_2])), (c1, .inl (G.2.1, 4, .inl y7_1)), (c2, .inl (G.2.1, 4, .inl y7_2)), (x0, .inr (5, [.ref x1, .int xl, .int (s_takeP xl (s_takeP xl y7_3_2 y7_3_3 xc 44 44) (s_takeW xl y7_3_2 y7_3_3 xc 44 44) xc (s_kindC xl (s_takeP xl y7_3_2 y7_3_3 xc 44 44) (s_takeW xl y7_3_2 y7_3_3 xc 44 44) xc) (s_kindC xl (s_takeP xl y7_3_2 y7_3_3 xc 44 44) (s_takeW xl y7_3_2 y7_3_3 xc 44 44) xc)), .int (s_takeW xl (s_takeP xl y7_3_2 y7_3_3 xc 44 44) (s_takeW xl y7_3_2 y7_3_3 xc 44 44) xc (s_kindC xl (s_takeP xl y7_3_2 y7_3_3 xc 44 44) (s_takeW xl y7_3_2 y7_3_3 xc 44 44) xc) (s_kindC xl (s_takeP xl y7_3_2 y7_3_3 xc 44 44) (s_takeW xl y7_3_2 y7_3_3 xc 44 44) xc))])), (x1, .inl (G.2.1, 60, .inl xc))]) (wr := [(c0, .inr (0, [.ref c1, .ref c2, .int y7_0_2])), (c1, .inl (G.2.1, 4, .inl y7_1)), (c2, .inl (G.2.1, 4, .inl y7_2))]) (rest := [.int x7_2, .ref c1]) fx hh hl.1 (h_X5_kind x0 x1 xl (s_takeP xl y7_3_2 y7_3_3 xc 44 44) (s_takeW xl y7_3_2 y7_3_3 xc 44 44) xc hv.1) yV_X5_kind nMX0_32 ⟨rfl, rfl, Nat.le_of_ble_eq_true rfl, Nat.le_of_ble_eq_true rfl⟩ 3 5 rfl rfl rfl [3, 4] [0, 1, 2] [0, 1, 2, 3, 4] rfl rfl rfl (by decide) (by decide) rfl rfl (Nat.le_of_ble_eq_true rfl) ⟨Nat.le_of_ble_eq_true rfl, Nat.le_of_ble_eq_true rfl⟩ (dOk_at dX0_take 21 rfl) (fun H locs hh => ?_)
            have hv := hv.2
            refine r_iast (pc := 39) (w' := [(c0, .inr (0, [.ref c1, .ref c2, .int y7_0_2])), (c1, .inl (G.2.1, 4, .inl (upd y7_1 x7_2.toNatClampNeg (s_kindR xl (s_takeP xl y7_3_2 y7_3_3 xc 44 44) (s_takeW xl y7_3_2 y7_3_3 xc 44 44) xc)))), (c2, .inl (G.2.1, 4, .inl y7_2)), (x0, .inr (5, [.ref x1, .int xl, .int (s_takeP xl (s_takeP xl y7_3_2 y7_3_3 xc 44 44) (s_takeW xl y7_3_2 y7_3_3 xc 44 44) xc (s_kindC xl (s_takeP xl y7_3_2 y7_3_3 xc 44 44) (s_takeW xl y7_3_2 y7_3_3 xc 44 44) xc) (s_kindC xl (s_takeP xl y7_3_2 y7_3_3 xc 44 44) (s_takeW xl y7_3_2 y7_3_3 xc 44 44) xc)), .int (s_takeW xl (s_takeP xl y7_3_2 y7_3_3 xc 44 44) (s_takeW xl y7_3_2 y7_3_3 xc 44 44) xc (s_kindC xl (s_takeP xl y7_3_2 y7_3_3 xc 44 44) (s_takeW xl y7_3_2 y7_3_3 xc 44 44) xc) (s_kindC xl (s_takeP xl y7_3_2 y7_3_3 xc 44 44) (s_takeW xl y7_3_2 y7_3_3 xc 44 44) xc))])), (x1, .inl (G.2.1, 60, .inl xc))]) fx hh 1 rfl hv.1 rfl (dOk_at dX0_take 22 rfl) (fun H locs hh => ?_)
            have hv := hv.2
            refine lv_aload_n (pc := 40) hx hb (dOk_at dX0_take 23 rfl) rfl (lv_at hl 0 rfl) ?_
            refine r_get (pc := 41) (ci := 0) fx hh inT0 rfl 1 (by decide) tFX0_15 rfl 0 rfl rfl (dOk_at dX0_take 24 rfl) ?_
            refine lv_iload_n (pc := 44) hx hb (dOk_at dX0_take 25 rfl) rfl (lv_at hl 2 rfl) ?_
            refine lv_aload_n (pc := 45) hx hb (dOk_at dX0_take 26 rfl) rfl (lv_at hl 1 rfl) ?_
            refine lv_iconst (pc := 46) (v := 1) hx hb (dOk_at dX0_take 27 rfl) (by decide) ?_
            refine lv_bipush (pc := 47) (v := 9) hx hb (dOk_at dX0_take 28 rfl) (by decide) ?_
            refine cl_VN (pc := 49) (w' := [(c0, .inr (0, [.ref c1, .ref c2, .int y7_0_2])), (c1, .inl (G.2.1, 4, .inl (upd y7_1 x7_2.toNatClampNeg (s_kindR xl (s_takeP xl y7_3_2 y7_3_3 xc 44 44) (s_takeW xl y7_3_2 y7_3_3 xc 44 44) xc)))), (c2, .inl (G.2.1, 4, .inl y7_2)), (x0, .inr (5, [.ref x1, .int xl, .int (s_takeP xl (s_takeP xl (s_takeP xl y7_3_2 y7_3_3 xc 44 44) (s_takeW xl y7_3_2 y7_3_3 xc 44 44) xc (s_kindC xl (s_takeP xl y7_3_2 y7_3_3 xc 44 44) (s_takeW xl y7_3_2 y7_3_3 xc 44 44) xc) (s_kindC xl (s_takeP xl y7_3_2 y7_3_3 xc 44 44) (s_takeW xl y7_3_2 y7_3_3 xc 44 44) xc)) (s_takeW xl (s_takeP xl y7_3_2 y7_3_3 xc 44 44) (s_takeW xl y7_3_2 y7_3_3 xc 44 44) xc (s_kindC xl (s_takeP xl y7_3_2 y7_3_3 xc 44 44) (s_takeW xl y7_3_2 y7_3_3 xc 44 44) xc) (s_kindC xl (s_takeP xl y7_3_2 y7_3_3 xc 44 44) (s_takeW xl y7_3_2 y7_3_3 xc 44 44) xc)) xc (48 + 1) (48 + 9)), .int (s_takeW xl (s_takeP xl (s_takeP xl y7_3_2 y7_3_3 xc 44 44) (s_takeW xl y7_3_2 y7_3_3 xc 44 44) xc (s_kindC xl (s_takeP xl y7_3_2 y7_3_3 xc 44 44) (s_takeW xl y7_3_2 y7_3_3 xc 44 44) xc) (s_kindC xl (s_takeP xl y7_3_2 y7_3_3 xc 44 44) (s_takeW xl y7_3_2 y7_3_3 xc 44 44) xc)) (s_takeW xl (s_takeP xl y7_3_2 y7_3_3 xc 44 44) (s_takeW xl y7_3_2 y7_3_3 xc 44 44) xc (s_kindC xl (s_takeP xl y7_3_2 y7_3_3 xc 44 44) (s_takeW xl y7_3_2 y7_3_3 xc 44 44) xc) (s_kindC xl (s_takeP xl y7_3_2 y7_3_3 xc 44 44) (s_takeW xl y7_3_2 y7_3_3 xc 44 44) xc)) xc (48 + 1) (48 + 9))])), (x1, .inl (G.2.1, 60, .inl xc))]) (wr := [(c0, .inr (0, [.ref c1, .ref c2, .int y7_0_2])), (c1, .inl (G.2.1, 4, .inl (upd y7_1 x7_2.toNatClampNeg (s_kindR xl (s_takeP xl y7_3_2 y7_3_3 xc 44 44) (s_takeW xl y7_3_2 y7_3_3 xc 44 44) xc)))), (c2, .inl (G.2.1, 4, .inl y7_2))]) (rest := [.int x7_2, .ref c2]) fx hh hl.1 (h_X5_digit x0 x1 xl (s_takeP xl (s_takeP xl y7_3_2 y7_3_3 xc 44 44) (s_takeW xl y7_3_2 y7_3_3 xc 44 44) xc (s_kindC xl (s_takeP xl y7_3_2 y7_3_3 xc 44 44) (s_takeW xl y7_3_2 y7_3_3 xc 44 44) xc) (s_kindC xl (s_takeP xl y7_3_2 y7_3_3 xc 44 44) (s_takeW xl y7_3_2 y7_3_3 xc 44 44) xc)) (s_takeW xl (s_takeP xl y7_3_2 y7_3_3 xc 44 44) (s_takeW xl y7_3_2 y7_3_3 xc 44 44) xc (s_kindC xl (s_takeP xl y7_3_2 y7_3_3 xc 44 44) (s_takeW xl y7_3_2 y7_3_3 xc 44 44) xc) (s_kindC xl (s_takeP xl y7_3_2 y7_3_3 xc 44 44) (s_takeW xl y7_3_2 y7_3_3 xc 44 44) xc)) 1 9 xc hv.1) yV_X5_digit nMX0_36 ⟨rfl, rfl, Nat.le_of_ble_eq_true rfl, Nat.le_of_ble_eq_true rfl⟩ 3 5 rfl rfl rfl [3, 4] [0, 1, 2] [0, 1, 2, 3, 4] rfl rfl rfl (by decide) (by decide) rfl rfl (Nat.le_of_ble_eq_true rfl) ⟨Nat.le_of_ble_eq_true rfl, Nat.le_of_ble_eq_true rfl⟩ (dOk_at dX0_take 29 rfl) (fun H locs hh => ?_)
            have hv := hv.2
            refine r_iast (pc := 52) (w' := [(c0, .inr (0, [.ref c1, .ref c2, .int y7_0_2])), (c1, .inl (G.2.1, 4, .inl (upd y7_1 x7_2.toNatClampNeg (s_kindR xl (s_takeP xl y7_3_2 y7_3_3 xc 44 44) (s_takeW xl y7_3_2 y7_3_3 xc 44 44) xc)))), (c2, .inl (G.2.1, 4, .inl (upd y7_2 x7_2.toNatClampNeg (1 + s_takeR xl (s_takeP xl (s_takeP xl y7_3_2 y7_3_3 xc 44 44) (s_takeW xl y7_3_2 y7_3_3 xc 44 44) xc (s_kindC xl (s_takeP xl y7_3_2 y7_3_3 xc 44 44) (s_takeW xl y7_3_2 y7_3_3 xc 44 44) xc) (s_kindC xl (s_takeP xl y7_3_2 y7_3_3 xc 44 44) (s_takeW xl y7_3_2 y7_3_3 xc 44 44) xc)) (s_takeW xl (s_takeP xl y7_3_2 y7_3_3 xc 44 44) (s_takeW xl y7_3_2 y7_3_3 xc 44 44) xc (s_kindC xl (s_takeP xl y7_3_2 y7_3_3 xc 44 44) (s_takeW xl y7_3_2 y7_3_3 xc 44 44) xc) (s_kindC xl (s_takeP xl y7_3_2 y7_3_3 xc 44 44) (s_takeW xl y7_3_2 y7_3_3 xc 44 44) xc)) xc (48 + 1) (48 + 9))))), (x0, .inr (5, [.ref x1, .int xl, .int (s_takeP xl (s_takeP xl (s_takeP xl y7_3_2 y7_3_3 xc 44 44) (s_takeW xl y7_3_2 y7_3_3 xc 44 44) xc (s_kindC xl (s_takeP xl y7_3_2 y7_3_3 xc 44 44) (s_takeW xl y7_3_2 y7_3_3 xc 44 44) xc) (s_kindC xl (s_takeP xl y7_3_2 y7_3_3 xc 44 44) (s_takeW xl y7_3_2 y7_3_3 xc 44 44) xc)) (s_takeW xl (s_takeP xl y7_3_2 y7_3_3 xc 44 44) (s_takeW xl y7_3_2 y7_3_3 xc 44 44) xc (s_kindC xl (s_takeP xl y7_3_2 y7_3_3 xc 44 44) (s_takeW xl y7_3_2 y7_3_3 xc 44 44) xc) (s_kindC xl (s_takeP xl y7_3_2 y7_3_3 xc 44 44) (s_takeW xl y7_3_2 y7_3_3 xc 44 44) xc)) xc (48 + 1) (48 + 9)), .int (s_takeW xl (s_takeP xl (s_takeP xl y7_3_2 y7_3_3 xc 44 44) (s_takeW xl y7_3_2 y7_3_3 xc 44 44) xc (s_kindC xl (s_takeP xl y7_3_2 y7_3_3 xc 44 44) (s_takeW xl y7_3_2 y7_3_3 xc 44 44) xc) (s_kindC xl (s_takeP xl y7_3_2 y7_3_3 xc 44 44) (s_takeW xl y7_3_2 y7_3_3 xc 44 44) xc)) (s_takeW xl (s_takeP xl y7_3_2 y7_3_3 xc 44 44) (s_takeW xl y7_3_2 y7_3_3 xc 44 44) xc (s_kindC xl (s_takeP xl y7_3_2 y7_3_3 xc 44 44) (s_takeW xl y7_3_2 y7_3_3 xc 44 44) xc) (s_kindC xl (s_takeP xl y7_3_2 y7_3_3 xc 44 44) (s_takeW xl y7_3_2 y7_3_3 xc 44 44) xc)) xc (48 + 1) (48 + 9))])), (x1, .inl (G.2.1, 60, .inl xc))]) fx hh 2 rfl hv.1 rfl (dOk_at dX0_take 30 rfl) (fun H locs hh => ?_)
            have hv := hv.2
            refine lv_aload_n (pc := 53) hx hb (dOk_at dX0_take 31 rfl) rfl (lv_at hl 0 rfl) ?_
            refine lv_iload_n (pc := 54) hx hb (dOk_at dX0_take 32 rfl) rfl (lv_at hl 2 rfl) ?_
            refine lv_iconst (pc := 55) (v := 1) hx hb (dOk_at dX0_take 33 rfl) (by decide) ?_
            refine lv_iadd (pc := 56) hx hb (dOk_at dX0_take 34 rfl) ?_
            refine r_put (pc := 57) (ci := 0) (w' := [(c0, .inr (0, [.ref c1, .ref c2, .int (x7_2 + 1)])), (c1, .inl (G.2.1, 4, .inl (upd y7_1 x7_2.toNatClampNeg (s_kindR xl (s_takeP xl y7_3_2 y7_3_3 xc 44 44) (s_takeW xl y7_3_2 y7_3_3 xc 44 44) xc)))), (c2, .inl (G.2.1, 4, .inl (upd y7_2 x7_2.toNatClampNeg (1 + s_takeR xl (s_takeP xl (s_takeP xl y7_3_2 y7_3_3 xc 44 44) (s_takeW xl y7_3_2 y7_3_3 xc 44 44) xc (s_kindC xl (s_takeP xl y7_3_2 y7_3_3 xc 44 44) (s_takeW xl y7_3_2 y7_3_3 xc 44 44) xc) (s_kindC xl (s_takeP xl y7_3_2 y7_3_3 xc 44 44) (s_takeW xl y7_3_2 y7_3_3 xc 44 44) xc)) (s_takeW xl (s_takeP xl y7_3_2 y7_3_3 xc 44 44) (s_takeW xl y7_3_2 y7_3_3 xc 44 44) xc (s_kindC xl (s_takeP xl y7_3_2 y7_3_3 xc 44 44) (s_takeW xl y7_3_2 y7_3_3 xc 44 44) xc) (s_kindC xl (s_takeP xl y7_3_2 y7_3_3 xc 44 44) (s_takeW xl y7_3_2 y7_3_3 xc 44 44) xc)) xc (48 + 1) (48 + 9))))), (x0, .inr (5, [.ref x1, .int xl, .int (s_takeP xl (s_takeP xl (s_takeP xl y7_3_2 y7_3_3 xc 44 44) (s_takeW xl y7_3_2 y7_3_3 xc 44 44) xc (s_kindC xl (s_takeP xl y7_3_2 y7_3_3 xc 44 44) (s_takeW xl y7_3_2 y7_3_3 xc 44 44) xc) (s_kindC xl (s_takeP xl y7_3_2 y7_3_3 xc 44 44) (s_takeW xl y7_3_2 y7_3_3 xc 44 44) xc)) (s_takeW xl (s_takeP xl y7_3_2 y7_3_3 xc 44 44) (s_takeW xl y7_3_2 y7_3_3 xc 44 44) xc (s_kindC xl (s_takeP xl y7_3_2 y7_3_3 xc 44 44) (s_takeW xl y7_3_2 y7_3_3 xc 44 44) xc) (s_kindC xl (s_takeP xl y7_3_2 y7_3_3 xc 44 44) (s_takeW xl y7_3_2 y7_3_3 xc 44 44) xc)) xc (48 + 1) (48 + 9)), .int (s_takeW xl (s_takeP xl (s_takeP xl y7_3_2 y7_3_3 xc 44 44) (s_takeW xl y7_3_2 y7_3_3 xc 44 44) xc (s_kindC xl (s_takeP xl y7_3_2 y7_3_3 xc 44 44) (s_takeW xl y7_3_2 y7_3_3 xc 44 44) xc) (s_kindC xl (s_takeP xl y7_3_2 y7_3_3 xc 44 44) (s_takeW xl y7_3_2 y7_3_3 xc 44 44) xc)) (s_takeW xl (s_takeP xl y7_3_2 y7_3_3 xc 44 44) (s_takeW xl y7_3_2 y7_3_3 xc 44 44) xc (s_kindC xl (s_takeP xl y7_3_2 y7_3_3 xc 44 44) (s_takeW xl y7_3_2 y7_3_3 xc 44 44) xc) (s_kindC xl (s_takeP xl y7_3_2 y7_3_3 xc 44 44) (s_takeW xl y7_3_2 y7_3_3 xc 44 44) xc)) xc (48 + 1) (48 + 9))])), (x1, .inl (G.2.1, 60, .inl xc))]) fx hh inT0 tyX0 tyX0_ok nmX0 rfl 2 (by decide) tFX0_18 rfl rfl 0 rfl rfl rfl (Nat.le_of_ble_eq_true rfl) rfl (dOk_at dX0_take 35 rfl) (fun H locs hh => ?_)
            refine lv_iinc (pc := 60) (v := x7_2 + 1) (lv' := [(2, .int (x7_2 + 1)), (0, .ref c0), (1, .ref x0)]) hx hb (dOk_at dX0_take 36 rfl) hl (k := 2) rfl rfl (by decide) rfl (fun ls hl => ?_)
            refine lv_goto (pc := 63) (tgt := 7) hx hb (dOk_at dX0_take 37 rfl) (by decide) ?_
            obtain ⟨k0, hk0, hj0⟩ := hv
            exact ih7 k0 hk0 (x7_2 + 1) (x7_2 + 1) (upd y7_1 x7_2.toNatClampNeg (s_kindR xl (s_takeP xl y7_3_2 y7_3_3 xc 44 44) (s_takeW xl y7_3_2 y7_3_3 xc 44 44) xc)) (upd y7_2 x7_2.toNatClampNeg (1 + s_takeR xl (s_takeP xl (s_takeP xl y7_3_2 y7_3_3 xc 44 44) (s_takeW xl y7_3_2 y7_3_3 xc 44 44) xc (s_kindC xl (s_takeP xl y7_3_2 y7_3_3 xc 44 44) (s_takeW xl y7_3_2 y7_3_3 xc 44 44) xc) (s_kindC xl (s_takeP xl y7_3_2 y7_3_3 xc 44 44) (s_takeW xl y7_3_2 y7_3_3 xc 44 44) xc)) (s_takeW xl (s_takeP xl y7_3_2 y7_3_3 xc 44 44) (s_takeW xl y7_3_2 y7_3_3 xc 44 44) xc (s_kindC xl (s_takeP xl y7_3_2 y7_3_3 xc 44 44) (s_takeW xl y7_3_2 y7_3_3 xc 44 44) xc) (s_kindC xl (s_takeP xl y7_3_2 y7_3_3 xc 44 44) (s_takeW xl y7_3_2 y7_3_3 xc 44 44) xc)) xc (48 + 1) (48 + 9))) (s_takeP xl (s_takeP xl (s_takeP xl y7_3_2 y7_3_3 xc 44 44) (s_takeW xl y7_3_2 y7_3_3 xc 44 44) xc (s_kindC xl (s_takeP xl y7_3_2 y7_3_3 xc 44 44) (s_takeW xl y7_3_2 y7_3_3 xc 44 44) xc) (s_kindC xl (s_takeP xl y7_3_2 y7_3_3 xc 44 44) (s_takeW xl y7_3_2 y7_3_3 xc 44 44) xc)) (s_takeW xl (s_takeP xl y7_3_2 y7_3_3 xc 44 44) (s_takeW xl y7_3_2 y7_3_3 xc 44 44) xc (s_kindC xl (s_takeP xl y7_3_2 y7_3_3 xc 44 44) (s_takeW xl y7_3_2 y7_3_3 xc 44 44) xc) (s_kindC xl (s_takeP xl y7_3_2 y7_3_3 xc 44 44) (s_takeW xl y7_3_2 y7_3_3 xc 44 44) xc)) xc (48 + 1) (48 + 9)) (s_takeW xl (s_takeP xl (s_takeP xl y7_3_2 y7_3_3 xc 44 44) (s_takeW xl y7_3_2 y7_3_3 xc 44 44) xc (s_kindC xl (s_takeP xl y7_3_2 y7_3_3 xc 44 44) (s_takeW xl y7_3_2 y7_3_3 xc 44 44) xc) (s_kindC xl (s_takeP xl y7_3_2 y7_3_3 xc 44 44) (s_takeW xl y7_3_2 y7_3_3 xc 44 44) xc)) (s_takeW xl (s_takeP xl y7_3_2 y7_3_3 xc 44 44) (s_takeW xl y7_3_2 y7_3_3 xc 44 44) xc (s_kindC xl (s_takeP xl y7_3_2 y7_3_3 xc 44 44) (s_takeW xl y7_3_2 y7_3_3 xc 44 44) xc) (s_kindC xl (s_takeP xl y7_3_2 y7_3_3 xc 44 44) (s_takeW xl y7_3_2 y7_3_3 xc 44 44) xc)) xc (48 + 1) (48 + 9)) hj0 _ _ _ hh (lv_sub hl [1, 2, 0] rfl)
  refine lv_aload_n (pc := 0) hx hb (dOk_at dX0_take 0 rfl) rfl (lv_at hl 0 rfl) ?_
  refine lv_iconst (pc := 1) (v := 0) hx hb (dOk_at dX0_take 1 rfl) (by decide) ?_
  refine r_put (pc := 2) (ci := 0) (w' := [(c0, .inr (0, [.ref c1, .ref c2, .int 0])), (c1, .inl (G.2.1, 4, .inl ck)), (c2, .inl (G.2.1, 4, .inl cwt)), (x0, .inr (5, [.ref x1, .int xl, .int xp, .int xw])), (x1, .inl (G.2.1, 60, .inl xc))]) fx hh inT0 tyX0 tyX0_ok nmX0 rfl 2 (by decide) tFX0_18 rfl rfl 0 rfl rfl rfl (Nat.le_of_ble_eq_true rfl) rfl (dOk_at dX0_take 2 rfl) (fun H locs hh => ?_)
  refine lv_iconst (pc := 5) (v := 0) hx hb (dOk_at dX0_take 3 rfl) (by decide) ?_
  refine lv_istore_n (pc := 6) (lv' := [(2, .int 0), (0, .ref c0), (1, .ref x0)]) hx hb (dOk_at dX0_take 4 rfl) rfl hl (by decide) rfl (fun ls hl => ?_)
  obtain ⟨k0, hj0⟩ := hv
  exact lp7 k0 0 0 ck cwt xp xw hj0 _ _ _ hh (lv_sub hl [1, 2, 0] rfl)
