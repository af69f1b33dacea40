set_option maxRecDepth 100000 in
set_option maxHeartbeats 4000000 in
theorem wk_X6_keepFault (l : Launch) (G : GT) (b0 : Nat) (bs : Nat) (x0 : Nat) (d0 : Nat) (r0 : Nat) (i0 : Nat) (c0 : Nat) (j0 : Nat) (e0 : Nat) (lf : Int32) (tr : Int32) (v : Int32) (R : Int32) (t0_8 : Int32) (h_X6_isWithin : K_X6_isWithin l G)
    (hv : (∀ (v20 : Int32), v20 = (if (s_in v (-14) (-11)) = 0 then (0 : Int32) else (-10) - v) → v = R ∧ v20 = t0_8)) :
    MF l G yX6_keepFault cX6_keepFault 2 (some .int) rm_X6_keepFault [.ref b0, .int v] [(b0, .inr (6, [.ref bs, .ref x0, .ref d0, .ref r0, .ref i0, .ref c0, .ref j0, .ref e0, .int lf, .int tr]))] (some (.int R)) [(b0, .inr (6, [.ref bs, .ref x0, .ref d0, .ref r0, .ref i0, .ref c0, .ref j0, .ref e0, .int t0_8, .int tr]))] := by
  refine MF.of (by decide +kernel) (Nat.le_of_ble_eq_true rfl) ?_
  intro p e s m args below meth c A ls fx hh hl _
  have hx := fx.hx
  have hb := fx.hb
  have hl : lv_has ls 2 [(0, .ref b0), (1, .int v)] := hl
  obtain ⟨Q, hQ⟩ : ∃ Q, Q = ZZ G A (some (.int R)) [(b0, .inr (6, [.ref bs, .ref x0, .ref d0, .ref r0, .ref i0, .ref c0, .ref j0, .ref e0, .int t0_8, .int tr]))] below args s := ⟨_, rfl⟩
  rw [← hQ]
  refine lv_aload_n (pc := 0) hx hb (dOk_at dX6_keepFault 0 rfl) rfl (lv_at hl 0 rfl) ?_
  refine lv_iload_n (pc := 1) hx hb (dOk_at dX6_keepFault 1 rfl) rfl (lv_at hl 1 rfl) ?_
  refine lv_bipush (pc := 2) (v := (-14)) hx hb (dOk_at dX6_keepFault 2 rfl) (by decide) ?_
  refine lv_bipush (pc := 4) (v := (-11)) hx hb (dOk_at dX6_keepFault 3 rfl) (by decide) ?_
  refine cl_S (pc := 6) (w' := [(b0, .inr (6, [.ref bs, .ref x0, .ref d0, .ref r0, .ref i0, .ref c0, .ref j0, .ref e0, .int lf, .int tr]))]) (wr := [(b0, .inr (6, [.ref bs, .ref x0, .ref d0, .ref r0, .ref i0, .ref c0, .ref j0, .ref e0, .int lf, .int tr]))]) (rest := [.ref b0]) fx hh hl.1 (h_X6_isWithin v (-14) (-11)) yS_X6_isWithin tMX6_96 ⟨rfl, rfl, Nat.le_of_ble_eq_true rfl, Nat.le_of_ble_eq_true rfl⟩ [] [0] [0] rfl rfl rfl (by decide) (by decide) rfl rfl (Nat.le_of_ble_eq_true rfl) ⟨Nat.le_of_ble_eq_true rfl, Nat.le_of_ble_eq_true rfl⟩ (dOk_at dX6_keepFault 4 rfl) (fun H locs hh => ?_)
  have k20_9 : ∀ (v20 : Int32), v20 = (if (s_in v (-14) (-11)) = 0 then (0 : Int32) else (-10) - v) → ∀ (H : Heap) (locs : List Loc) (ls : Array Slot), HP G A [(b0, .inr (6, [.ref bs, .ref x0, .ref d0, .ref r0, .ref i0, .ref c0, .ref j0, .ref e0, .int lf, .int tr]))] s H locs → lv_has ls 2 [(1, .int v)] → W p l e rm_X6_keepFault s m args below meth c H locs 0 0 Q (F0 m 20 ls [.int v20, .ref b0]) := by
    intro v20 e20_0 H locs ls hh hl
    have hv := hv v20 e20_0
    refine r_put (pc := 20) (ci := 6) (w' := [(b0, .inr (6, [.ref bs, .ref x0, .ref d0, .ref r0, .ref i0, .ref c0, .ref j0, .ref e0, .int v20, .int tr]))]) fx hh inT6 tyX6 tyX6_ok nmX6 rfl 8 (by decide) tFX6_58 rfl rfl 0 rfl rfl rfl (Nat.le_of_ble_eq_true rfl) rfl (dOk_at dX6_keepFault 11 rfl) (fun H locs hh => ?_)
    refine lv_iload_n (pc := 23) hx hb (dOk_at dX6_keepFault 12 rfl) rfl (lv_at hl 0 rfl) ?_
    obtain ⟨e0, e1⟩ := hv
    subst e0
    subst e1
    rw [hQ]
    exact r_iret (pc := 24) fx hh (dOk_at dX6_keepFault 13 rfl)
  refine lv_if_eq (pc := 9) (tgt := 19) hx hb (dOk_at dX6_keepFault 5 rfl) (by decide) (fun c9 => ?_) (fun c9 => ?_)
  · refine lv_iconst (pc := 19) (v := 0) hx hb (dOk_at dX6_keepFault 10 rfl) (by decide) ?_
    exact k20_9 _ (if_pos c9).symm _ _ _ hh (lv_sub hl [1] rfl)
  · refine lv_bipush (pc := 12) (v := (-10)) hx hb (dOk_at dX6_keepFault 6 rfl) (by decide) ?_
    refine lv_iload_n (pc := 14) hx hb (dOk_at dX6_keepFault 7 rfl) rfl (lv_at hl 1 rfl) ?_
    refine lv_isub (pc := 15) hx hb (dOk_at dX6_keepFault 8 rfl) ?_
    refine lv_goto (pc := 16) (tgt := 20) hx hb (dOk_at dX6_keepFault 9 rfl) (by decide) ?_
    exact k20_9 _ (if_neg c9).symm _ _ _ hh (lv_sub hl [1] rfl)
set_option maxRecDepth 100000 in
set_option maxHeartbeats 4000000 in
theorem wk_X6_sheetAt (l : Launch) (G : GT) (b0 : Nat) (bs : Nat) (x0 : Nat) (d0 : Nat) (r0 : Nat) (i0 : Nat) (c0 : Nat) (j0 : Nat) (e0 : Nat) (lf : Int32) (tr : Int32) (sh : Nat → Option Nat) (k : Int32) (r : Option Nat) (R : Option Nat) (h_X6_isWithin : K_X6_isWithin l G)
    (hv : ((s_in k 0 3) = 0 → (none : Option Nat) = R) ∧ (¬ (s_in k 0 3) = 0 → vp_in k 4 ∧ (sh k.toNatClampNeg) = R)) :
    MF l G yX6_sheetAt cX6_sheetAt 2 (some (.object "SkateBonds$Sheet")) rm_X6_sheetAt [.ref b0, .int k] [(b0, .inr (6, [.ref bs, .ref x0, .ref d0, .ref r0, .ref i0, .ref c0, .ref j0, .ref e0, .int lf, .int tr])), (bs, .inl (G.2.2.2, 4, .inr (.inr (.inr (.inr sh)))))] (some (va_rf R)) [(b0, .inr (6, [.ref bs, .ref x0, .ref d0, .ref r0, .ref i0, .ref c0, .ref j0, .ref e0, .int lf, .int tr])), (bs, .inl (G.2.2.2, 4, .inr (.inr (.inr (.inr sh)))))] := by
  refine MF.of (by decide +kernel) (Nat.le_of_ble_eq_true rfl) ?_
  intro p e s m args below meth c A ls fx hh hl _
  have hx := fx.hx
  have hb := fx.hb
  have hl : lv_has ls 2 [(0, .ref b0), (1, .int k)] := hl
  obtain ⟨Q, hQ⟩ : ∃ Q, Q = ZZ G A (some (va_rf R)) [(b0, .inr (6, [.ref bs, .ref x0, .ref d0, .ref r0, .ref i0, .ref c0, .ref j0, .ref e0, .int lf, .int tr])), (bs, .inl (G.2.2.2, 4, .inr (.inr (.inr (.inr sh)))))] below args s := ⟨_, rfl⟩
  rw [← hQ]
  refine lv_iload_n (pc := 0) hx hb (dOk_at dX6_sheetAt 0 rfl) rfl (lv_at hl 1 rfl) ?_
  refine lv_iconst (pc := 1) (v := 0) hx hb (dOk_at dX6_sheetAt 1 rfl) (by decide) ?_
  refine lv_iconst (pc := 2) (v := 3) hx hb (dOk_at dX6_sheetAt 2 rfl) (by decide) ?_
  refine cl_S (pc := 3) (w' := [(b0, .inr (6, [.ref bs, .ref x0, .ref d0, .ref r0, .ref i0, .ref c0, .ref j0, .ref e0, .int lf, .int tr])), (bs, .inl (G.2.2.2, 4, .inr (.inr (.inr (.inr sh)))))]) (wr := [(b0, .inr (6, [.ref bs, .ref x0, .ref d0, .ref r0, .ref i0, .ref c0, .ref j0, .ref e0, .int lf, .int tr])), (bs, .inl (G.2.2.2, 4, .inr (.inr (.inr (.inr sh)))))]) (rest := []) fx hh hl.1 (h_X6_isWithin k 0 3) yS_X6_isWithin tMX6_96 ⟨rfl, rfl, Nat.le_of_ble_eq_true rfl, Nat.le_of_ble_eq_true rfl⟩ [] [0, 1] [0, 1] rfl rfl rfl (by decide) (by decide) rfl rfl (Nat.le_of_ble_eq_true rfl) ⟨Nat.le_of_ble_eq_true rfl, Nat.le_of_ble_eq_true rfl⟩ (dOk_at dX6_sheetAt 3 rfl) (fun H locs hh => ?_)
  refine lv_if_eq (pc := 6) (tgt := 18) hx hb (dOk_at dX6_sheetAt 4 rfl) (by decide) (fun c6 => ?_) (fun c6 => ?_)
  · have hv := hv.1 c6
    refine lv_null (pc := 18) hx hb (dOk_at dX6_sheetAt 10 rfl) ?_
    have e0 := hv
    subst e0
    rw [hQ]
    exact r_aret (pc := 19) fx hh (Or.inl rfl) (dOk_at dX6_sheetAt 11 rfl)
  · have hv := hv.2 c6
    refine lv_aload_n (pc := 9) hx hb (dOk_at dX6_sheetAt 5 rfl) rfl (lv_at hl 0 rfl) ?_
    refine r_get (pc := 10) (ci := 6) fx hh inT6 rfl 0 (by decide) tFX6_13 rfl 0 rfl rfl (dOk_at dX6_sheetAt 6 rfl) ?_
    refine lv_iload_n (pc := 13) hx hb (dOk_at dX6_sheetAt 7 rfl) rfl (lv_at hl 1 rfl) ?_
    refine r_aald (pc := 14) fx hh 1 rfl hv.1 (dOk_at dX6_sheetAt 8 rfl) ?_
    have hv := hv.2
    refine lv_goto (pc := 15) (tgt := 19) hx hb (dOk_at dX6_sheetAt 9 rfl) (by decide) ?_
    have e0 := hv
    subst e0
    rw [hQ]
    exact r_aret (pc := 19) fx hh (va_rf_or _) (dOk_at dX6_sheetAt 11 rfl)
set_option maxRecDepth 100000 in
set_option maxHeartbeats 4000000 in
theorem wk_X6_refusalOfLane (l : Launch) (G : GT) (s0 : Nat) (s1 : Nat) (sla : Int32) (sle : Int32) (lane : Int32) (R : Int32) (h_X4_isNothing : K_X4_isNothing l G) (h_X6_isWithin : K_X6_isWithin l G)
    (hv : (¬ (s_in lane 0 2) = 0 → ((s_nothing sla) = 0 → (¬ sla = lane → (-12 : Int32) = R) ∧ (sla = lane → (0 : Int32) = R)) ∧ (¬ (s_nothing sla) = 0 → (-11 : Int32) = R)) ∧ ((s_in lane 0 2) = 0 → (-2 : Int32) = R)) :
    MF l G yX6_refusalOfLane cX6_refusalOfLane 2 (some .int) rm_X6_refusalOfLane [.ref s0, .int lane] [(s0, .inr (4, [.ref s1, .int sla, .int sle]))] (some (.int R)) [(s0, .inr (4, [.ref s1, .int sla, .int sle]))] := by
  refine MF.of (by decide +kernel) (Nat.le_of_ble_eq_true rfl) ?_
  intro p e s m args below meth c A ls fx hh hl _
  have hx := fx.hx
  have hb := fx.hb
  have hl : lv_has ls 2 [(0, .ref s0), (1, .int lane)] := hl
  obtain ⟨Q, hQ⟩ : ∃ Q, Q = ZZ G A (some (.int R)) [(s0, .inr (4, [.ref s1, .int sla, .int sle]))] below args s := ⟨_, rfl⟩
  rw [← hQ]
  refine lv_aload_n (pc := 0) hx hb (dOk_at dX6_refusalOfLane 0 rfl) rfl (lv_at hl 0 rfl) ?_
  refine lv_ifnonnull (pc := 1) (tgt := 6) hx hb (dOk_at dX6_refusalOfLane 1 rfl) (by decide) ?_
  refine lv_iload_n (pc := 6) hx hb (dOk_at dX6_refusalOfLane 4 rfl) rfl (lv_at hl 1 rfl) ?_
  refine lv_iconst (pc := 7) (v := 0) hx hb (dOk_at dX6_refusalOfLane 5 rfl) (by decide) ?_
  refine lv_iconst (pc := 8) (v := 2) hx hb (dOk_at dX6_refusalOfLane 6 rfl) (by decide) ?_
  refine cl_S (pc := 9) (w' := [(s0, .inr (4, [.ref s1, .int sla, .int sle]))]) (wr := [(s0, .inr (4, [.ref s1, .int sla, .int sle]))]) (rest := []) fx hh hl.1 (h_X6_isWithin lane 0 2) yS_X6_isWithin tMX6_96 ⟨rfl, rfl, Nat.le_of_ble_eq_true rfl, Nat.le_of_ble_eq_true rfl⟩ [] [0] [0] rfl rfl rfl (by decide) (by decide) rfl rfl (Nat.le_of_ble_eq_true rfl) ⟨Nat.le_of_ble_eq_true rfl, Nat.le_of_ble_eq_true rfl⟩ (dOk_at dX6_refusalOfLane 7 rfl) (fun H locs hh => ?_)
  refine lv_if_ne (pc := 12) (tgt := 18) hx hb (dOk_at dX6_refusalOfLane 8 rfl) (by decide) (fun c12 => ?_) (fun c12 => ?_)
  · have hv := hv.1 c12
    refine lv_aload_n (pc := 18) hx hb (dOk_at dX6_refusalOfLane 11 rfl) rfl (lv_at hl 0 rfl) ?_
    refine cl_VN (pc := 19) (w' := [(s0, .inr (4, [.ref s1, .int sla, .int sle]))]) (wr := []) (rest := []) fx hh hl.1 (h_X4_isNothing s0 s1 sla sle) yV_X4_isNothing nMX6_186 ⟨rfl, rfl, Nat.le_of_ble_eq_true rfl, Nat.le_of_ble_eq_true rfl⟩ 0 4 rfl rfl rfl [0] [] [0] rfl rfl rfl (by decide) (by decide) rfl rfl (Nat.le_of_ble_eq_true rfl) ⟨Nat.le_of_ble_eq_true rfl, Nat.le_of_ble_eq_true rfl⟩ (dOk_at dX6_refusalOfLane 12 rfl) (fun H locs hh => ?_)
    refine lv_if_eq (pc := 22) (tgt := 28) hx hb (dOk_at dX6_refusalOfLane 13 rfl) (by decide) (fun c22 => ?_) (fun c22 => ?_)
    · have hv := hv.1 c22
      refine lv_aload_n (pc := 28) hx hb (dOk_at dX6_refusalOfLane 16 rfl) rfl (lv_at hl 0 rfl) ?_
      refine r_getN (pc := 29) (ci := 4) fx hh inT4 rfl 1 (by decide) nFX6_225 rfl 0 rfl rfl (dOk_at dX6_refusalOfLane 17 rfl) ?_
      refine lv_iload_n (pc := 32) hx hb (dOk_at dX6_refusalOfLane 18 rfl) rfl (lv_at hl 1 rfl) ?_
      refine lv_icmp_ne (pc := 33) (tgt := 40) hx hb (dOk_at dX6_refusalOfLane 19 rfl) (by decide) (fun c33 => ?_) (fun c33 => ?_)
      · have hv := hv.1 c33
        refine lv_bipush (pc := 40) (v := (-12)) hx hb (dOk_at dX6_refusalOfLane 22 rfl) (by decide) ?_
        have e0 := hv
        subst e0
        rw [hQ]
        exact r_iret (pc := 42) fx hh (dOk_at dX6_refusalOfLane 23 rfl)
      · have hv := hv.2 c33
        refine lv_iconst (pc := 36) (v := 0) hx hb (dOk_at dX6_refusalOfLane 20 rfl) (by decide) ?_
        refine lv_goto (pc := 37) (tgt := 42) hx hb (dOk_at dX6_refusalOfLane 21 rfl) (by decide) ?_
        have e0 := hv
        subst e0
        rw [hQ]
        exact r_iret (pc := 42) fx hh (dOk_at dX6_refusalOfLane 23 rfl)
    · have hv := hv.2 c22
      refine lv_bipush (pc := 25) (v := (-11)) hx hb (dOk_at dX6_refusalOfLane 14 rfl) (by decide) ?_
      have e0 := hv
      subst e0
      rw [hQ]
      exact r_iret (pc := 27) fx hh (dOk_at dX6_refusalOfLane 15 rfl)
  · have hv := hv.2 c12
    refine lv_bipush (pc := 15) (v := (-2)) hx hb (dOk_at dX6_refusalOfLane 9 rfl) (by decide) ?_
    have e0 := hv
    subst e0
    rw [hQ]
    exact r_iret (pc := 17) fx hh (dOk_at dX6_refusalOfLane 10 rfl)
set_option maxRecDepth 100000 in
set_option maxHeartbeats 4000000 in
theorem wk_X6_refusalOfLane_n (l : Launch) (G : GT) (lane : Int32) (R : Int32)
    (hv : (-1 : Int32) = R) :
    MF l G yX6_refusalOfLane cX6_refusalOfLane 2 (some .int) rm_X6_refusalOfLane [.null, .int lane] [] (some (.int R)) [] := by
  refine MF.of (by decide +kernel) (Nat.le_of_ble_eq_true rfl) ?_
  intro p e s m args below meth c A ls fx hh hl _
  have hx := fx.hx
  have hb := fx.hb
  have hl : lv_has ls 2 [(0, .null), (1, .int lane)] := hl
  obtain ⟨Q, hQ⟩ : ∃ Q, Q = ZZ G A (some (.int R)) [] below args s := ⟨_, rfl⟩
  rw [← hQ]
  refine lv_aload_nN (pc := 0) hx hb (dOk_at dX6_refusalOfLane 0 rfl) rfl (lv_at hl 0 rfl) ?_
  refine lv_ifnonnullN (pc := 1) hx hb (dOk_at dX6_refusalOfLane 1 rfl) ?_
  refine lv_iconst (pc := 4) (v := (-1)) hx hb (dOk_at dX6_refusalOfLane 2 rfl) (by decide) ?_
  have e0 := hv
  subst e0
  rw [hQ]
  exact r_iret (pc := 5) fx hh (dOk_at dX6_refusalOfLane 3 rfl)
set_option maxRecDepth 100000 in
set_option maxHeartbeats 4000000 in
theorem wk_X6_refusalOfPart (l : Launch) (G : GT) (s0 : Nat) (s1 : Nat) (sla : Int32) (sle : Int32) (lane : Int32) (i : Int32) (n : Int32) (R : Int32) (h_X4_has : K_X4_has l G) (h_X6_refusalOfLane : K_X6_refusalOfLane l G)
    (hv : ((x_rl sla lane) = 0 → ((s_shas sle i n) = 0 → (-13 : Int32) = R) ∧ (¬ (s_shas sle i n) = 0 → (0 : Int32) = R)) ∧ (¬ (x_rl sla lane) = 0 → (x_rl sla lane) = R)) :
    MF l G yX6_refusalOfPart cX6_refusalOfPart 5 (some .int) rm_X6_refusalOfPart [.ref s0, .int lane, .int i, .int n] [(s0, .inr (4, [.ref s1, .int sla, .int sle]))] (some (.int R)) [(s0, .inr (4, [.ref s1, .int sla, .int sle]))] := by
  refine MF.of (by decide +kernel) (Nat.le_of_ble_eq_true rfl) ?_
  intro p e s m args below meth c A ls fx hh hl _
  have hx := fx.hx
  have hb := fx.hb
  have hl : lv_has ls 5 [(0, .ref s0), (1, .int lane), (2, .int i), (3, .int n)] := hl
  obtain ⟨Q, hQ⟩ : ∃ Q, Q = ZZ G A (some (.int R)) [(s0, .inr (4, [.ref s1, .int sla, .int sle]))] below args s := ⟨_, rfl⟩
  rw [← hQ]
  refine lv_aload_n (pc := 0) hx hb (dOk_at dX6_refusalOfPart 0 rfl) rfl (lv_at hl 0 rfl) ?_
  refine lv_iload_n (pc := 1) hx hb (dOk_at dX6_refusalOfPart 1 rfl) rfl (lv_at hl 1 rfl) ?_
  refine cl_S (pc := 2) (w' := [(s0, .inr (4, [.ref s1, .int sla, .int sle]))]) (wr := []) (rest := []) fx hh hl.1 (h_X6_refusalOfLane s0 s1 sla sle lane) yS_X6_refusalOfLane tMX6_228 ⟨rfl, rfl, Nat.le_of_ble_eq_true rfl, Nat.le_of_ble_eq_true rfl⟩ [0] [] [0] rfl rfl rfl (by decide) (by decide) rfl rfl (Nat.le_of_ble_eq_true rfl) ⟨Nat.le_of_ble_eq_true rfl, Nat.le_of_ble_eq_true rfl⟩ (dOk_at dX6_refusalOfPart 2 rfl) (fun H locs hh => ?_)
  refine lv_istore (pc := 5) (lv' := [(4, .int (x_rl sla lane)), (0, .ref s0), (1, .int lane), (2, .int i), (3, .int n)]) hx hb (dOk_at dX6_refusalOfPart 3 rfl) hl (by decide) rfl (fun ls hl => ?_)
  refine lv_aload_n (pc := 7) hx hb (dOk_at dX6_refusalOfPart 4 rfl) rfl (lv_at hl 1 rfl) ?_
  refine lv_ifnull (pc := 8) hx hb (dOk_at dX6_refusalOfPart 5 rfl) ?_
  refine lv_iload (pc := 11) hx hb (dOk_at dX6_refusalOfPart 6 rfl) (lv_at hl 0 rfl) ?_
  refine lv_if_eq (pc := 13) (tgt := 19) hx hb (dOk_at dX6_refusalOfPart 7 rfl) (by decide) (fun c13 => ?_) (fun c13 => ?_)
  · have hv := hv.1 c13
    refine lv_aload_n (pc := 19) hx hb (dOk_at dX6_refusalOfPart 10 rfl) rfl (lv_at hl 1 rfl) ?_
    refine lv_iload_n (pc := 20) hx hb (dOk_at dX6_refusalOfPart 11 rfl) rfl (lv_at hl 3 rfl) ?_
    refine lv_iload_n (pc := 21) hx hb (dOk_at dX6_refusalOfPart 12 rfl) rfl (lv_at hl 4 rfl) ?_
    refine cl_VN (pc := 22) (w' := [(s0, .inr (4, [.ref s1, .int sla, .int sle]))]) (wr := []) (rest := []) fx hh hl.1 (h_X4_has s0 s1 sla sle i n) yV_X4_has nMX6_232 ⟨rfl, rfl, Nat.le_of_ble_eq_true rfl, Nat.le_of_ble_eq_true rfl⟩ 0 4 rfl rfl rfl [0] [] [0] rfl rfl rfl (by decide) (by decide) rfl rfl (Nat.le_of_ble_eq_true rfl) ⟨Nat.le_of_ble_eq_true rfl, Nat.le_of_ble_eq_true rfl⟩ (dOk_at dX6_refusalOfPart 13 rfl) (fun H locs hh => ?_)
    refine lv_if_eq (pc := 25) (tgt := 32) hx hb (dOk_at dX6_refusalOfPart 14 rfl) (by decide) (fun c25 => ?_) (fun c25 => ?_)
    · have hv := hv.1 c25
      refine lv_bipush (pc := 32) (v := (-13)) hx hb (dOk_at dX6_refusalOfPart 17 rfl) (by decide) ?_
      have e0 := hv
      subst e0
      rw [hQ]
      exact r_iret (pc := 34) fx hh (dOk_at dX6_refusalOfPart 18 rfl)
    · have hv := hv.2 c25
      refine lv_iconst (pc := 28) (v := 0) hx hb (dOk_at dX6_refusalOfPart 15 rfl) (by decide) ?_
      refine lv_goto (pc := 29) (tgt := 34) hx hb (dOk_at dX6_refusalOfPart 16 rfl) (by decide) ?_
      have e0 := hv
      subst e0
      rw [hQ]
      exact r_iret (pc := 34) fx hh (dOk_at dX6_refusalOfPart 18 rfl)
  · have hv := hv.2 c13
    refine lv_iload (pc := 16) hx hb (dOk_at dX6_refusalOfPart 8 rfl) (lv_at hl 0 rfl) ?_
    have e0 := hv
    subst e0
    rw [hQ]
    exact r_iret (pc := 18) fx hh (dOk_at dX6_refusalOfPart 9 rfl)
set_option maxRecDepth 100000 in
set_option maxHeartbeats 4000000 in
theorem wk_X6_refusalOfPart_n (l : Launch) (G : GT) (lane : Int32) (i : Int32) (n : Int32) (R : Int32) (h_X6_refusalOfLane_n : K_X6_refusalOfLane_n l G)
    (hv : (-1 : Int32) = R) :
    MF l G yX6_refusalOfPart cX6_refusalOfPart 5 (some .int) rm_X6_refusalOfPart [.null, .int lane, .int i, .int n] [] (some (.int R)) [] := by
  refine MF.of (by decide +kernel) (Nat.le_of_ble_eq_true rfl) ?_
  intro p e s m args below meth c A ls fx hh hl _
  have hx := fx.hx
  have hb := fx.hb
  have hl : lv_has ls 5 [(0, .null), (1, .int lane), (2, .int i), (3, .int n)] := hl
  obtain ⟨Q, hQ⟩ : ∃ Q, Q = ZZ G A (some (.int R)) [] below args s := ⟨_, rfl⟩
  rw [← hQ]
  refine lv_aload_nN (pc := 0) hx hb (dOk_at dX6_refusalOfPart 0 rfl) rfl (lv_at hl 0 rfl) ?_
  refine lv_iload_n (pc := 1) hx hb (dOk_at dX6_refusalOfPart 1 rfl) rfl (lv_at hl 1 rfl) ?_
  refine cl_S (pc := 2) (w' := []) (wr := []) (rest := []) fx hh hl.1 (h_X6_refusalOfLane_n lane) yS_X6_refusalOfLane tMX6_228 ⟨rfl, rfl, Nat.le_of_ble_eq_true rfl, Nat.le_of_ble_eq_true rfl⟩ [] [] [] rfl rfl rfl (by decide) (by decide) rfl rfl (Nat.le_of_ble_eq_true rfl) ⟨Nat.le_of_ble_eq_true rfl, Nat.le_of_ble_eq_true rfl⟩ (dOk_at dX6_refusalOfPart 2 rfl) (fun H locs hh => ?_)
  refine lv_istore (pc := 5) (lv' := [(4, .int (-1)), (0, .null), (1, .int lane), (2, .int i), (3, .int n)]) hx hb (dOk_at dX6_refusalOfPart 3 rfl) hl (by decide) rfl (fun ls hl => ?_)
  refine lv_aload_nN (pc := 7) hx hb (dOk_at dX6_refusalOfPart 4 rfl) rfl (lv_at hl 1 rfl) ?_
  refine lv_ifnullN (pc := 8) (tgt := 16) hx hb (dOk_at dX6_refusalOfPart 5 rfl) (by decide) ?_
  refine lv_iload (pc := 16) hx hb (dOk_at dX6_refusalOfPart 8 rfl) (lv_at hl 0 rfl) ?_
  have e0 := hv
  subst e0
  rw [hQ]
  exact r_iret (pc := 18) fx hh (dOk_at dX6_refusalOfPart 9 rfl)
set_option maxRecDepth 100000 in
set_option maxHeartbeats 4000000 in
theorem wk_X6_refusalOfWeather (l : Launch) (G : GT) (b0 : Nat) (i0 : Nat) (bs : Nat) (x0 : Nat) (d0 : Nat) (r0 : Nat) (c0 : Nat) (j0 : Nat) (e0 : Nat) (i1 : Nat) (lf : Int32) (tr : Int32) (hi : Int32) (wi : Int32) (fr : Int32) (fc : Int32) (lc : Int32) (v : Int32) (R : Int32) (h_X2_cells : K_X2_cells l G) (h_X6_isWithin : K_X6_isWithin l G)
    (hv : (¬ (s_in v 0 9) = 0 → (¬ (hi * wi) = 0 → (0 : Int32) = R) ∧ ((hi * wi) = 0 → (-3 : Int32) = R)) ∧ ((s_in v 0 9) = 0 → (-2 : Int32) = R)) :
    MF l G yX6_refusalOfWeather cX6_refusalOfWeather 2 (some .int) rm_X6_refusalOfWeather [.ref b0, .int v] [(b0, .inr (6, [.ref bs, .ref x0, .ref d0, .ref r0, .ref i0, .ref c0, .ref j0, .ref e0, .int lf, .int tr])), (i0, .inr (2, [.ref i1, .int hi, .int wi, .int fr, .int fc, .int lc]))] (some (.int R)) [(b0, .inr (6, [.ref bs, .ref x0, .ref d0, .ref r0, .ref i0, .ref c0, .ref j0, .ref e0, .int lf, .int tr])), (i0, .inr (2, [.ref i1, .int hi, .int wi, .int fr, .int fc, .int lc]))] := by
  refine MF.of (by decide +kernel) (Nat.le_of_ble_eq_true rfl) ?_
  intro p e s m args below meth c A ls fx hh hl _
  have hx := fx.hx
  have hb := fx.hb
  have hl : lv_has ls 2 [(0, .ref b0), (1, .int v)] := hl
  obtain ⟨Q, hQ⟩ : ∃ Q, Q = ZZ G A (some (.int R)) [(b0, .inr (6, [.ref bs, .ref x0, .ref d0, .ref r0, .ref i0, .ref c0, .ref j0, .ref e0, .int lf, .int tr])), (i0, .inr (2, [.ref i1, .int hi, .int wi, .int fr, .int fc, .int lc]))] below args s := ⟨_, rfl⟩
  rw [← hQ]
  refine lv_iload_n (pc := 0) hx hb (dOk_at dX6_refusalOfWeather 0 rfl) rfl (lv_at hl 1 rfl) ?_
  refine lv_iconst (pc := 1) (v := 0) hx hb (dOk_at dX6_refusalOfWeather 1 rfl) (by decide) ?_
  refine lv_bipush (pc := 2) (v := 9) hx hb (dOk_at dX6_refusalOfWeather 2 rfl) (by decide) ?_
  refine cl_S (pc := 4) (w' := [(b0, .inr (6, [.ref bs, .ref x0, .ref d0, .ref r0, .ref i0, .ref c0, .ref j0, .ref e0, .int lf, .int tr])), (i0, .inr (2, [.ref i1, .int hi, .int wi, .int fr, .int fc, .int lc]))]) (wr := [(b0, .inr (6, [.ref bs, .ref x0, .ref d0, .ref r0, .ref i0, .ref c0, .ref j0, .ref e0, .int lf, .int tr])), (i0, .inr (2, [.ref i1, .int hi, .int wi, .int fr, .int fc, .int lc]))]) (rest := []) fx hh hl.1 (h_X6_isWithin v 0 9) yS_X6_isWithin tMX6_96 ⟨rfl, rfl, Nat.le_of_ble_eq_true rfl, Nat.le_of_ble_eq_true rfl⟩ [] [0, 1] [0, 1] rfl rfl rfl (by decide) (by decide) rfl rfl (Nat.le_of_ble_eq_true rfl) ⟨Nat.le_of_ble_eq_true rfl, Nat.le_of_ble_eq_true rfl⟩ (dOk_at dX6_refusalOfWeather 3 rfl) (fun H locs hh => ?_)
  refine lv_if_ne (pc := 7) (tgt := 13) hx hb (dOk_at dX6_refusalOfWeather 4 rfl) (by decide) (fun c7 => ?_) (fun c7 => ?_)
  · have hv := hv.1 c7
    refine lv_aload_n (pc := 13) hx hb (dOk_at dX6_refusalOfWeather 7 rfl) rfl (lv_at hl 0 rfl) ?_
    refine r_get (pc := 14) (ci := 6) fx hh inT6 rfl 4 (by decide) tFX6_41 rfl 0 rfl rfl (dOk_at dX6_refusalOfWeather 8 rfl) ?_
    refine cl_VN (pc := 17) (w' := [(b0, .inr (6, [.ref bs, .ref x0, .ref d0, .ref r0, .ref i0, .ref c0, .ref j0, .ref e0, .int lf, .int tr])), (i0, .inr (2, [.ref i1, .int hi, .int wi, .int fr, .int fc, .int lc]))]) (wr := [(b0, .inr (6, [.ref bs, .ref x0, .ref d0, .ref r0, .ref i0, .ref c0, .ref j0, .ref e0, .int lf, .int tr]))]) (rest := []) fx hh hl.1 (h_X2_cells i0 i1 hi wi fr fc lc) yV_X2_cells nMX6_151 ⟨rfl, rfl, Nat.le_of_ble_eq_true rfl, Nat.le_of_ble_eq_true rfl⟩ 1 2 rfl rfl rfl [1] [0] [0, 1] rfl rfl rfl (by decide) (by decide) rfl rfl (Nat.le_of_ble_eq_true rfl) ⟨Nat.le_of_ble_eq_true rfl, Nat.le_of_ble_eq_true rfl⟩ (dOk_at dX6_refusalOfWeather 9 rfl) (fun H locs hh => ?_)
    refine lv_if_ne (pc := 20) (tgt := 28) hx hb (dOk_at dX6_refusalOfWeather 10 rfl) (by decide) (fun c20 => ?_) (fun c20 => ?_)
    · have hv := hv.1 c20
      refine lv_iconst (pc := 28) (v := 0) hx hb (dOk_at dX6_refusalOfWeather 13 rfl) (by decide) ?_
      have e0 := hv
      subst e0
      rw [hQ]
      exact r_iret (pc := 29) fx hh (dOk_at dX6_refusalOfWeather 14 rfl)
    · have hv := hv.2 c20
      refine lv_bipush (pc := 23) (v := (-3)) hx hb (dOk_at dX6_refusalOfWeather 11 rfl) (by decide) ?_
      refine lv_goto (pc := 25) (tgt := 29) hx hb (dOk_at dX6_refusalOfWeather 12 rfl) (by decide) ?_
      have e0 := hv
      subst e0
      rw [hQ]
      exact r_iret (pc := 29) fx hh (dOk_at dX6_refusalOfWeather 14 rfl)
  · have hv := hv.2 c7
    refine lv_bipush (pc := 10) (v := (-2)) hx hb (dOk_at dX6_refusalOfWeather 5 rfl) (by decide) ?_
    have e0 := hv
    subst e0
    rw [hQ]
    exact r_iret (pc := 12) fx hh (dOk_at dX6_refusalOfWeather 6 rfl)
set_option maxRecDepth 100000 in
set_option maxHeartbeats 4000000 in
theorem wk_X6_isPair (l : Launch) (G : GT) (b0 : Nat) (c0 : Nat) (bs : Nat) (x0 : Nat) (d0 : Nat) (r0 : Nat) (i0 : Nat) (j0 : Nat) (e0 : Nat) (c1 : Nat) (c2 : Nat) (lf : Int32) (tr : Int32) (cnt : Int32) (a : Int32) (b : Int32) (R : Int32) (h_X0_has : K_X0_has l G)
    (hv : ((s_sk cnt a) = 0 → (0 : Int32) = R) ∧ (¬ (s_sk cnt a) = 0 → ((s_sk cnt b) = 0 → (0 : Int32) = R) ∧ (¬ (s_sk cnt b) = 0 → (a = b → (0 : Int32) = R) ∧ (¬ a = b → (1 : Int32) = R)))) :
    MF l G yX6_isPair cX6_isPair 3 (some .boolean) rm_X6_isPair [.ref b0, .int a, .int b] [(b0, .inr (6, [.ref bs, .ref x0, .ref d0, .ref r0, .ref i0, .ref c0, .ref j0, .ref e0, .int lf, .int tr])), (c0, .inr (0, [.ref c1, .ref c2, .int cnt]))] (some (.int R)) [(b0, .inr (6, [.ref bs, .ref x0, .ref d0, .ref r0, .ref i0, .ref c0, .ref j0, .ref e0, .int lf, .int tr])), (c0, .inr (0, [.ref c1, .ref c2, .int cnt]))] := by
  refine MF.of (by decide +kernel) (Nat.le_of_ble_eq_true rfl) ?_
  intro p e s m args below meth c A ls fx hh hl _
  have hx := fx.hx
  have hb := fx.hb
  have hl : lv_has ls 3 [(0, .ref b0), (1, .int a), (2, .int b)] := hl
  obtain ⟨Q, hQ⟩ : ∃ Q, Q = ZZ G A (some (.int R)) [(b0, .inr (6, [.ref bs, .ref x0, .ref d0, .ref r0, .ref i0, .ref c0, .ref j0, .ref e0, .int lf, .int tr])), (c0, .inr (0, [.ref c1, .ref c2, .int cnt]))] below args s := ⟨_, rfl⟩
  rw [← hQ]
  refine lv_aload_n (pc := 0) hx hb (dOk_at dX6_isPair 0 rfl) rfl (lv_at hl 0 rfl) ?_
  refine r_get (pc := 1) (ci := 6) fx hh inT6 rfl 5 (by decide) tFX6_48 rfl 0 rfl rfl (dOk_at dX6_isPair 1 rfl) ?_
  refine lv_iload_n (pc := 4) hx hb (dOk_at dX6_isPair 2 rfl) rfl (lv_at hl 1 rfl) ?_
  refine cl_VN (pc := 5) (w' := [(b0, .inr (6, [.ref bs, .ref x0, .ref d0, .ref r0, .ref i0, .ref c0, .ref j0, .ref e0, .int lf, .int tr])), (c0, .inr (0, [.ref c1, .ref c2, .int cnt]))]) (wr := [(b0, .inr (6, [.ref bs, .ref x0, .ref d0, .ref r0, .ref i0, .ref c0, .ref j0, .ref e0, .int lf, .int tr]))]) (rest := []) fx hh hl.1 (h_X0_has c0 c1 c2 cnt a) yV_X0_has nMX6_74 ⟨rfl, rfl, Nat.le_of_ble_eq_true rfl, Nat.le_of_ble_eq_true rfl⟩ 1 0 rfl rfl rfl [1] [0] [0, 1] rfl rfl rfl (by decide) (by decide) rfl rfl (Nat.le_of_ble_eq_true rfl) ⟨Nat.le_of_ble_eq_true rfl, Nat.le_of_ble_eq_true rfl⟩ (dOk_at dX6_isPair 3 rfl) (fun H locs hh => ?_)
  refine lv_if_eq (pc := 8) (tgt := 31) hx hb (dOk_at dX6_isPair 4 rfl) (by decide) (fun c8 => ?_) (fun c8 => ?_)
  · have hv := hv.1 c8
    refine lv_iconst (pc := 31) (v := 0) hx hb (dOk_at dX6_isPair 15 rfl) (by decide) ?_
    have e0 := hv
    subst e0
    rw [hQ]
    exact r_zret (pc := 32) fx hh rfl (dOk_at dX6_isPair 16 rfl)
  · have hv := hv.2 c8
    refine lv_aload_n (pc := 11) hx hb (dOk_at dX6_isPair 5 rfl) rfl (lv_at hl 0 rfl) ?_
    refine r_get (pc := 12) (ci := 6) fx hh inT6 rfl 5 (by decide) tFX6_48 rfl 0 rfl rfl (dOk_at dX6_isPair 6 rfl) ?_
    refine lv_iload_n (pc := 15) hx hb (dOk_at dX6_isPair 7 rfl) rfl (lv_at hl 2 rfl) ?_
    refine cl_VN (pc := 16) (w' := [(b0, .inr (6, [.ref bs, .ref x0, .ref d0, .ref r0, .ref i0, .ref c0, .ref j0, .ref e0, .int lf, .int tr])), (c0, .inr (0, [.ref c1, .ref c2, .int cnt]))]) (wr := [(b0, .inr (6, [.ref bs, .ref x0, .ref d0, .ref r0, .ref i0, .ref c0, .ref j0, .ref e0, .int lf, .int tr]))]) (rest := []) fx hh hl.1 (h_X0_has c0 c1 c2 cnt b) yV_X0_has nMX6_74 ⟨rfl, rfl, Nat.le_of_ble_eq_true rfl, Nat.le_of_ble_eq_true rfl⟩ 1 0 rfl rfl rfl [1] [0] [0, 1] rfl rfl rfl (by decide) (by decide) rfl rfl (Nat.le_of_ble_eq_true rfl) ⟨Nat.le_of_ble_eq_true rfl, Nat.le_of_ble_eq_true rfl⟩ (dOk_at dX6_isPair 8 rfl) (fun H locs hh => ?_)
    refine lv_if_eq (pc := 19) (tgt := 31) hx hb (dOk_at dX6_isPair 9 rfl) (by decide) (fun c19 => ?_) (fun c19 => ?_)
    · have hv := hv.1 c19
      refine lv_iconst (pc := 31) (v := 0) hx hb (dOk_at dX6_isPair 15 rfl) (by decide) ?_
      have e0 := hv
      subst e0
      rw [hQ]
      exact r_zret (pc := 32) fx hh rfl (dOk_at dX6_isPair 16 rfl)
    · have hv := hv.2 c19
      refine lv_iload_n (pc := 22) hx hb (dOk_at dX6_isPair 10 rfl) rfl (lv_at hl 1 rfl) ?_
      refine lv_iload_n (pc := 23) hx hb (dOk_at dX6_isPair 11 rfl) rfl (lv_at hl 2 rfl) ?_
      refine lv_icmp_eq (pc := 24) (tgt := 31) hx hb (dOk_at dX6_isPair 12 rfl) (by decide) (fun c24 => ?_) (fun c24 => ?_)
      · have hv := hv.1 c24
        refine lv_iconst (pc := 31) (v := 0) hx hb (dOk_at dX6_isPair 15 rfl) (by decide) ?_
        have e0 := hv
        subst e0
        rw [hQ]
        exact r_zret (pc := 32) fx hh rfl (dOk_at dX6_isPair 16 rfl)
      · have hv := hv.2 c24
        refine lv_iconst (pc := 27) (v := 1) hx hb (dOk_at dX6_isPair 13 rfl) (by decide) ?_
        refine lv_goto (pc := 28) (tgt := 32) hx hb (dOk_at dX6_isPair 14 rfl) (by decide) ?_
        have e0 := hv
        subst e0
        rw [hQ]
        exact r_zret (pc := 32) fx hh rfl (dOk_at dX6_isPair 16 rfl)
set_option maxRecDepth 100000 in
set_option maxHeartbeats 4000000 in
theorem wk_X6_changeToDraft (l : Launch) (G : GT) (b0 : Nat) (r0 : Nat) (bs : Nat) (x0 : Nat) (d0 : Nat) (i0 : Nat) (c0 : Nat) (j0 : Nat) (e0 : Nat) (r1 : Nat) (r2 : Nat) (r3 : Nat) (lf : Int32) (tr : Int32) (rc : Int32) (t0_4 : Nat) (t0_5 : Nat) (t0_6 : Nat) (t0_7 : Nat) (t1_3 : Int32)
    (hv : j0 = t0_4 ∧ e0 = t0_5 ∧ i0 = t0_6 ∧ c0 = t0_7 ∧ (0 : Int32) = t1_3) :
    MF l G yX6_changeToDraft cX6_changeToDraft 3 none rm_X6_changeToDraft [.ref b0] [(b0, .inr (6, [.ref bs, .ref x0, .ref d0, .ref r0, .ref i0, .ref c0, .ref j0, .ref e0, .int lf, .int tr])), (r0, .inr (3, [.ref r1, .ref r2, .ref r3, .int rc]))] none [(b0, .inr (6, [.ref bs, .ref x0, .ref d0, .ref r0, .ref t0_4, .ref t0_5, .ref t0_6, .ref t0_7, .int lf, .int tr])), (r0, .inr (3, [.ref r1, .ref r2, .ref r3, .int t1_3]))] := by
  refine MF.of (by decide +kernel) (Nat.le_of_ble_eq_true rfl) ?_
  intro p e s m args below meth c A ls fx hh hl _
  have hx := fx.hx
  have hb := fx.hb
  have hl : lv_has ls 3 [(0, .ref b0)] := hl
  obtain ⟨Q, hQ⟩ : ∃ Q, Q = ZZ G A none [(b0, .inr (6, [.ref bs, .ref x0, .ref d0, .ref r0, .ref t0_4, .ref t0_5, .ref t0_6, .ref t0_7, .int lf, .int tr])), (r0, .inr (3, [.ref r1, .ref r2, .ref r3, .int t1_3]))] below args s := ⟨_, rfl⟩
  rw [← hQ]
  refine lv_aload_n (pc := 0) hx hb (dOk_at dX6_changeToDraft 0 rfl) rfl (lv_at hl 0 rfl) ?_
  refine r_get (pc := 1) (ci := 6) fx hh inT6 rfl 4 (by decide) tFX6_41 rfl 0 rfl rfl (dOk_at dX6_changeToDraft 1 rfl) ?_
  refine lv_astore_n (pc := 4) (lv' := [(1, .ref i0), (0, .ref b0)]) hx hb (dOk_at dX6_changeToDraft 2 rfl) rfl hl (by decide) rfl (fun ls hl => ?_)
  refine lv_aload_n (pc := 5) hx hb (dOk_at dX6_changeToDraft 3 rfl) rfl (lv_at hl 1 rfl) ?_
  refine r_get (pc := 6) (ci := 6) fx hh inT6 rfl 5 (by decide) tFX6_48 rfl 0 rfl rfl (dOk_at dX6_changeToDraft 4 rfl) ?_
  refine lv_astore_n (pc := 9) (lv' := [(2, .ref c0), (1, .ref i0), (0, .ref b0)]) hx hb (dOk_at dX6_changeToDraft 5 rfl) rfl hl (by decide) rfl (fun ls hl => ?_)
  refine lv_aload_n (pc := 10) hx hb (dOk_at dX6_changeToDraft 6 rfl) rfl (lv_at hl 2 rfl) ?_
  refine lv_aload_n (pc := 11) hx hb (dOk_at dX6_changeToDraft 7 rfl) rfl (lv_at hl 2 rfl) ?_
  refine r_get (pc := 12) (ci := 6) fx hh inT6 rfl 6 (by decide) tFX6_52 rfl 0 rfl rfl (dOk_at dX6_changeToDraft 8 rfl) ?_
  refine r_put (pc := 15) (ci := 6) (w' := [(b0, .inr (6, [.ref bs, .ref x0, .ref d0, .ref r0, .ref j0, .ref c0, .ref j0, .ref e0, .int lf, .int tr])), (r0, .inr (3, [.ref r1, .ref r2, .ref r3, .int rc]))]) fx hh inT6 tyX6 tyX6_ok nmX6 rfl 4 (by decide) tFX6_41 rfl rfl 0 rfl rfl rfl (Nat.le_of_ble_eq_true rfl) rfl (dOk_at dX6_changeToDraft 9 rfl) (fun H locs hh => ?_)
  refine lv_aload_n (pc := 18) hx hb (dOk_at dX6_changeToDraft 10 rfl) rfl (lv_at hl 2 rfl) ?_
  refine lv_aload_n (pc := 19) hx hb (dOk_at dX6_changeToDraft 11 rfl) rfl (lv_at hl 2 rfl) ?_
  refine r_get (pc := 20) (ci := 6) fx hh inT6 rfl 7 (by decide) tFX6_55 rfl 0 rfl rfl (dOk_at dX6_changeToDraft 12 rfl) ?_
  refine r_put (pc := 23) (ci := 6) (w' := [(b0, .inr (6, [.ref bs, .ref x0, .ref d0, .ref r0, .ref j0, .ref e0, .ref j0, .ref e0, .int lf, .int tr])), (r0, .inr (3, [.ref r1, .ref r2, .ref r3, .int rc]))]) fx hh inT6 tyX6 tyX6_ok nmX6 rfl 5 (by decide) tFX6_48 rfl rfl 0 rfl rfl rfl (Nat.le_of_ble_eq_true rfl) rfl (dOk_at dX6_changeToDraft 13 rfl) (fun H locs hh => ?_)
  refine lv_aload_n (pc := 26) hx hb (dOk_at dX6_changeToDraft 14 rfl) rfl (lv_at hl 2 rfl) ?_
  refine lv_aload_n (pc := 27) hx hb (dOk_at dX6_changeToDraft 15 rfl) rfl (lv_at hl 1 rfl) ?_
  refine r_put (pc := 28) (ci := 6) (w' := [(b0, .inr (6, [.ref bs, .ref x0, .ref d0, .ref r0, .ref j0, .ref e0, .ref i0, .ref e0, .int lf, .int tr])), (r0, .inr (3, [.ref r1, .ref r2, .ref r3, .int rc]))]) fx hh inT6 tyX6 tyX6_ok nmX6 rfl 6 (by decide) tFX6_52 rfl rfl 0 rfl rfl rfl (Nat.le_of_ble_eq_true rfl) rfl (dOk_at dX6_changeToDraft 16 rfl) (fun H locs hh => ?_)
  refine lv_aload_n (pc := 31) hx hb (dOk_at dX6_changeToDraft 17 rfl) rfl (lv_at hl 2 rfl) ?_
  refine lv_aload_n (pc := 32) hx hb (dOk_at dX6_changeToDraft 18 rfl) rfl (lv_at hl 0 rfl) ?_
  refine r_put (pc := 33) (ci := 6) (w' := [(b0, .inr (6, [.ref bs, .ref x0, .ref d0, .ref r0, .ref j0, .ref e0, .ref i0, .ref c0, .int lf, .int tr])), (r0, .inr (3, [.ref r1, .ref r2, .ref r3, .int rc]))]) fx hh inT6 tyX6 tyX6_ok nmX6 rfl 7 (by decide) tFX6_55 rfl rfl 0 rfl rfl rfl (Nat.le_of_ble_eq_true rfl) rfl (dOk_at dX6_changeToDraft 19 rfl) (fun H locs hh => ?_)
  refine lv_aload_n (pc := 36) hx hb (dOk_at dX6_changeToDraft 20 rfl) rfl (lv_at hl 2 rfl) ?_
  refine r_get (pc := 37) (ci := 6) fx hh inT6 rfl 3 (by decide) tFX6_34 rfl 0 rfl rfl (dOk_at dX6_changeToDraft 21 rfl) ?_
  refine lv_iconst (pc := 40) (v := 0) hx hb (dOk_at dX6_changeToDraft 22 rfl) (by decide) ?_
  refine r_putN (pc := 41) (ci := 3) (w' := [(b0, .inr (6, [.ref bs, .ref x0, .ref d0, .ref r0, .ref j0, .ref e0, .ref i0, .ref c0, .int lf, .int tr])), (r0, .inr (3, [.ref r1, .ref r2, .ref r3, .int 0]))]) fx hh inT3 tyX3 tyX3_ok nmX3 rfl 3 (by decide) nFX6_159 rfl rfl 1 rfl rfl rfl (Nat.le_of_ble_eq_true rfl) rfl (dOk_at dX6_changeToDraft 23 rfl) (fun H locs hh => ?_)
  obtain ⟨e0, e1, e2, e3, e4⟩ := hv
  subst e0
  subst e1
  subst e2
  subst e3
  subst e4
  rw [hQ]
  exact r_vret (pc := 44) fx hh (dOk_at dX6_changeToDraft 24 rfl)
set_option maxRecDepth 100000 in
set_option maxHeartbeats 4000000 in
theorem wk_X6_takeText (l : Launch) (G : GT) (b0 : Nat) (bs : Nat) (s0 : Nat) (s1 : Nat) (x0 : Nat) (x1 : Nat) (j0 : Nat) (j1 : Nat) (e0 : Nat) (e1 : Nat) (e2 : Nat) (r0 : Nat) (d0 : Nat) (i0 : Nat) (c0 : Nat) (r1 : Nat) (r2 : Nat) (r3 : Nat) (lf : Int32) (tr : Int32) (sla : Int32) (sle : Int32) (xl : Int32) (xp : Int32) (xw : Int32) (jhi : Int32) (jwi : Int32) (jfr : Int32) (jfc : Int32) (jlc : Int32) (ecnt : Int32) (rc : Int32) (sn : Nat → Int32) (xc : Nat → Int32) (jstr : Nat → Int32) (ek : Nat → Int32) (ewt : Nat → Int32) (sh : Nat → Option Nat) (sheet : Int32) (lane : Int32) (i : Int32) (n : Int32) (R : Int32) (t0_4 : Nat) (t0_5 : Nat) (t0_6 : Nat) (t0_7 : Nat) (t10 : Nat → Int32) (t11_3 : Int32) (t6_1 : Int32) (t6_2 : Int32) (t6_3 : Int32) (t6_4 : Int32) (t6_5 : Int32) (t7 : Nat → Int32) (t8_2 : Int32) (t9 : Nat → Int32) (h_X0_take : K_X0_take l G) (h_X2_take : K_X2_take l G) (h_X4_has : K_X4_has l G) (h_X5_begin : K_X5_begin l G) (h_X5_end : K_X5_end l G) (h_X6_changeToDraft : K_X6_changeToDraft l G) (h_X6_refusalOfLane : K_X6_refusalOfLane l G) (h_X6_sheetAt : K_X6_sheetAt l G)
    (hv : s_shAt sh sheet = (some s0) ∧ (s_in sheet 0 3 = 0 ∨ vp_in sheet 4) ∧ (((x_rl sla lane) = 0 → (0 ≤ n → (¬ (s_shas sle i n) = 0 → okRun i n 60 ∧ (okT n 0 ∧ (okT n ((itRow n (s_cpT sn xc i n) (0, 0) jstr).1.1) ∧ (((s_endW n ((crwAll n (s_cpT sn xc i n) (((itRow n (s_cpT sn xc i n) (0, 0) jstr).1.1), ((itRow n (s_cpT sn xc i n) (0, 0) jstr).1.2)) ek ewt).1.1) ((crwAll n (s_cpT sn xc i n) (((itRow n (s_cpT sn xc i n) (0, 0) jstr).1.1), ((itRow n (s_cpT sn xc i n) (0, 0) jstr).1.2)) ek ewt).1.2)) = 0 → ((crwAll n (s_cpT sn xc i n) (((itRow n (s_cpT sn xc i n) (0, 0) jstr).1.1), ((itRow n (s_cpT sn xc i n) (0, 0) jstr).1.2)) ek ewt).2.2.2) = R ∧ j0 = t0_4 ∧ e0 = t0_5 ∧ i0 = t0_6 ∧ c0 = t0_7 ∧ ((crwAll n (s_cpT sn xc i n) (((itRow n (s_cpT sn xc i n) (0, 0) jstr).1.1), ((itRow n (s_cpT sn xc i n) (0, 0) jstr).1.2)) ek ewt).2.2.1) = t10 ∧ (0 : Int32) = t11_3 ∧ (itHi n (s_cpT sn xc i n) (0, 0)) = t6_1 ∧ (itWi n (s_cpT sn xc i n) (0, 0)) = t6_2 ∧ (itFr n (s_cpT sn xc i n) (0, 0)) = t6_3 ∧ ((itRow n (s_cpT sn xc i n) (0, 0) jstr).2.2) = t6_4 ∧ ((itRow n (s_cpT sn xc i n) (0, 0) jstr).2.2 <<< ((itWi n (s_cpT sn xc i n) (0, 0) - 1) &&& 31)) = t6_5 ∧ ((itRow n (s_cpT sn xc i n) (0, 0) jstr).2.1) = t7 ∧ ((crwAll n (s_cpT sn xc i n) (((itRow n (s_cpT sn xc i n) (0, 0) jstr).1.1), ((itRow n (s_cpT sn xc i n) (0, 0) jstr).1.2)) ek ewt).2.2.2) = t8_2 ∧ ((crwAll n (s_cpT sn xc i n) (((itRow n (s_cpT sn xc i n) (0, 0) jstr).1.1), ((itRow n (s_cpT sn xc i n) (0, 0) jstr).1.2)) ek ewt).2.1) = t9) ∧ (¬ (s_endW n ((crwAll n (s_cpT sn xc i n) (((itRow n (s_cpT sn xc i n) (0, 0) jstr).1.1), ((itRow n (s_cpT sn xc i n) (0, 0) jstr).1.2)) ek ewt).1.1) ((crwAll n (s_cpT sn xc i n) (((itRow n (s_cpT sn xc i n) (0, 0) jstr).1.1), ((itRow n (s_cpT sn xc i n) (0, 0) jstr).1.2)) ek ewt).1.2)) = 0 → ((-100) - ((crwAll n (s_cpT sn xc i n) (((itRow n (s_cpT sn xc i n) (0, 0) jstr).1.1), ((itRow n (s_cpT sn xc i n) (0, 0) jstr).1.2)) ek ewt).1.1)) = R ∧ i0 = t0_4 ∧ c0 = t0_5 ∧ j0 = t0_6 ∧ e0 = t0_7 ∧ ((crwAll n (s_cpT sn xc i n) (((itRow n (s_cpT sn xc i n) (0, 0) jstr).1.1), ((itRow n (s_cpT sn xc i n) (0, 0) jstr).1.2)) ek ewt).2.2.1) = t10 ∧ rc = t11_3 ∧ (itHi n (s_cpT sn xc i n) (0, 0)) = t6_1 ∧ (itWi n (s_cpT sn xc i n) (0, 0)) = t6_2 ∧ (itFr n (s_cpT sn xc i n) (0, 0)) = t6_3 ∧ ((itRow n (s_cpT sn xc i n) (0, 0) jstr).2.2) = t6_4 ∧ ((itRow n (s_cpT sn xc i n) (0, 0) jstr).2.2 <<< ((itWi n (s_cpT sn xc i n) (0, 0) - 1) &&& 31)) = t6_5 ∧ ((itRow n (s_cpT sn xc i n) (0, 0) jstr).2.1) = t7 ∧ ((crwAll n (s_cpT sn xc i n) (((itRow n (s_cpT sn xc i n) (0, 0) jstr).1.1), ((itRow n (s_cpT sn xc i n) (0, 0) jstr).1.2)) ek ewt).2.2.2) = t8_2 ∧ ((crwAll n (s_cpT sn xc i n) (((itRow n (s_cpT sn xc i n) (0, 0) jstr).1.1), ((itRow n (s_cpT sn xc i n) (0, 0) jstr).1.2)) ek ewt).2.1) = t9))))) ∧ ((s_shas sle i n) = 0 → (-13 : Int32) = R ∧ i0 = t0_4 ∧ c0 = t0_5 ∧ j0 = t0_6 ∧ e0 = t0_7 ∧ ewt = t10 ∧ rc = t11_3 ∧ jhi = t6_1 ∧ jwi = t6_2 ∧ jfr = t6_3 ∧ jfc = t6_4 ∧ jlc = t6_5 ∧ jstr = t7 ∧ ecnt = t8_2 ∧ ek = t9)) ∧ (¬ 0 ≤ n → (-14 : Int32) = R ∧ i0 = t0_4 ∧ c0 = t0_5 ∧ j0 = t0_6 ∧ e0 = t0_7 ∧ ewt = t10 ∧ rc = t11_3 ∧ jhi = t6_1 ∧ jwi = t6_2 ∧ jfr = t6_3 ∧ jfc = t6_4 ∧ jlc = t6_5 ∧ jstr = t7 ∧ ecnt = t8_2 ∧ ek = t9)) ∧ (¬ (x_rl sla lane) = 0 → (x_rl sla lane) = R ∧ i0 = t0_4 ∧ c0 = t0_5 ∧ j0 = t0_6 ∧ e0 = t0_7 ∧ ewt = t10 ∧ rc = t11_3 ∧ jhi = t6_1 ∧ jwi = t6_2 ∧ jfr = t6_3 ∧ jfc = t6_4 ∧ jlc = t6_5 ∧ jstr = t7 ∧ ecnt = t8_2 ∧ ek = t9))) :
    MFJ l G yX6_takeText cX6_takeText 7 (some .int) rm_X6_takeText [.ref b0, .int sheet, .int lane, .int i, .int n] [(b0, .inr (6, [.ref bs, .ref x0, .ref d0, .ref r0, .ref i0, .ref c0, .ref j0, .ref e0, .int lf, .int tr])), (bs, .inl (G.2.2.2, 4, .inr (.inr (.inr (.inr sh))))), (s0, .inr (4, [.ref s1, .int sla, .int sle])), (s1, .inl (G.2.1, 60, .inl sn)), (x0, .inr (5, [.ref x1, .int xl, .int xp, .int xw])), (x1, .inl (G.2.1, 60, .inl xc)), (j0, .inr (2, [.ref j1, .int jhi, .int jwi, .int jfr, .int jfc, .int jlc])), (j1, .inl (G.2.1, 20, .inl jstr)), (e0, .inr (0, [.ref e1, .ref e2, .int ecnt])), (e1, .inl (G.2.1, 4, .inl ek)), (e2, .inl (G.2.1, 4, .inl ewt)), (r0, .inr (3, [.ref r1, .ref r2, .ref r3, .int rc]))] (some (.int R)) (fun jj : Int32 × Int32 × Int32 × (Nat → Int32) => [(b0, .inr (6, [.ref bs, .ref x0, .ref d0, .ref r0, .ref t0_4, .ref t0_5, .ref t0_6, .ref t0_7, .int lf, .int tr])), (bs, .inl (G.2.2.2, 4, .inr (.inr (.inr (.inr sh))))), (s0, .inr (4, [.ref s1, .int sla, .int sle])), (s1, .inl (G.2.1, 60, .inl sn)), (x0, .inr (5, [.ref x1, .int jj.1, .int jj.2.1, .int jj.2.2.1])), (x1, .inl (G.2.1, 60, .inl jj.2.2.2)), (j0, .inr (2, [.ref j1, .int t6_1, .int t6_2, .int t6_3, .int t6_4, .int t6_5])), (j1, .inl (G.2.1, 20, .inl t7)), (e0, .inr (0, [.ref e1, .ref e2, .int t8_2])), (e1, .inl (G.2.1, 4, .inl t9)), (e2, .inl (G.2.1, 4, .inl t10)), (r0, .inr (3, [.ref r1, .ref r2, .ref r3, .int t11_3]))]) := by
  refine MFJ.of (by decide +kernel) (Nat.le_of_ble_eq_true rfl) ?_
  intro p e s m args below meth c A ls fx hh hl _
  have hx := fx.hx
  have hb := fx.hb
  have hl : lv_has ls 7 [(0, .ref b0), (1, .int sheet), (2, .int lane), (3, .int i), (4, .int n)] := hl
  obtain ⟨Q, hQ⟩ : ∃ Q, Q = ZJ G A (some (.int R)) (fun jj : Int32 × Int32 × Int32 × (Nat → Int32) => [(b0, .inr (6, [.ref bs, .ref x0, .ref d0, .ref r0, .ref t0_4, .ref t0_5, .ref t0_6, .ref t0_7, .int lf, .int tr])), (bs, .inl (G.2.2.2, 4, .inr (.inr (.inr (.inr sh))))), (s0, .inr (4, [.ref s1, .int sla, .int sle])), (s1, .inl (G.2.1, 60, .inl sn)), (x0, .inr (5, [.ref x1, .int jj.1, .int jj.2.1, .int jj.2.2.1])), (x1, .inl (G.2.1, 60, .inl jj.2.2.2)), (j0, .inr (2, [.ref j1, .int t6_1, .int t6_2, .int t6_3, .int t6_4, .int t6_5])), (j1, .inl (G.2.1, 20, .inl t7)), (e0, .inr (0, [.ref e1, .ref e2, .int t8_2])), (e1, .inl (G.2.1, 4, .inl t9)), (e2, .inl (G.2.1, 4, .inl t10)), (r0, .inr (3, [.ref r1, .ref r2, .ref r3, .int t11_3]))]) below args s := ⟨_, rfl⟩
  rw [← hQ]
  refine lv_aload_n (pc := 0) hx hb (dOk_at dX6_takeText 0 rfl) rfl (lv_at hl 0 rfl) ?_
  refine lv_iload_n (pc := 1) hx hb (dOk_at dX6_takeText 1 rfl) rfl (lv_at hl 1 rfl) ?_
  refine cl_V (pc := 2) (w' := [(b0, .inr (6, [.ref bs, .ref x0, .ref d0, .ref r0, .ref i0, .ref c0, .ref j0, .ref e0, .int lf, .int tr])), (bs, .inl (G.2.2.2, 4, .inr (.inr (.inr (.inr sh))))), (s0, .inr (4, [.ref s1, .int sla, .int sle])), (s1, .inl (G.2.1, 60, .inl sn)), (x0, .inr (5, [.ref x1, .int xl, .int xp, .int xw])), (x1, .inl (G.2.1, 60, .inl xc)), (j0, .inr (2, [.ref j1, .int jhi, .int jwi, .int jfr, .int jfc, .int jlc])), (j1, .inl (G.2.1, 20, .inl jstr)), (e0, .inr (0, [.ref e1, .ref e2, .int ecnt])), (e1, .inl (G.2.1, 4, .inl ek)), (e2, .inl (G.2.1, 4, .inl ewt)), (r0, .inr (3, [.ref r1, .ref r2, .ref r3, .int rc]))]) (wr := [(s0, .inr (4, [.ref s1, .int sla, .int sle])), (s1, .inl (G.2.1, 60, .inl sn)), (x0, .inr (5, [.ref x1, .int xl, .int xp, .int xw])), (x1, .inl (G.2.1, 60, .inl xc)), (j0, .inr (2, [.ref j1, .int jhi, .int jwi, .int jfr, .int jfc, .int jlc])), (j1, .inl (G.2.1, 20, .inl jstr)), (e0, .inr (0, [.ref e1, .ref e2, .int ecnt])), (e1, .inl (G.2.1, 4, .inl ek)), (e2, .inl (G.2.1, 4, .inl ewt)), (r0, .inr (3, [.ref r1, .ref r2, .ref r3, .int rc]))]) (rest := []) fx hh hl.1 (h_X6_sheetAt b0 bs x0 d0 r0 i0 c0 j0 e0 lf tr sh sheet (some s0) hv.1 hv.2.1) yV_X6_sheetAt tMX6_182 ⟨rfl, rfl, Nat.le_of_ble_eq_true rfl, Nat.le_of_ble_eq_true rfl⟩ 0 6 rfl rfl rfl [0, 1] [2, 3, 4, 5, 6, 7, 8, 9, 10, 11] [10, 11, 0, 1, 2, 3, 4, 5, 6, 7, 8, 9] rfl rfl rfl (by decide) (by decide) rfl rfl (Nat.le_of_ble_eq_true rfl) ⟨Nat.le_of_ble_eq_true rfl, Nat.le_of_ble_eq_true rfl⟩ (dOk_at dX6_takeText 2 rfl) (fun H locs hh => ?_)
  have hv := hv.2.2
  refine lv_astore (pc := 5) (lv' := [(5, .ref s0), (0, .ref b0), (1, .int sheet), (2, .int lane), (3, .int i), (4, .int n)]) hx hb (dOk_at dX6_takeText 3 rfl) hl (by decide) rfl (fun ls hl => ?_)
  refine lv_aload (pc := 7) hx hb (dOk_at dX6_takeText 4 rfl) (lv_at hl 0 rfl) ?_
  refine lv_iload_n (pc := 9) hx hb (dOk_at dX6_takeText 5 rfl) rfl (lv_at hl 3 rfl) ?_
  refine cl_S (pc := 10) (w' := [(b0, .inr (6, [.ref bs, .ref x0, .ref d0, .ref r0, .ref i0, .ref c0, .ref j0, .ref e0, .int lf, .int tr])), (bs, .inl (G.2.2.2, 4, .inr (.inr (.inr (.inr sh))))), (s0, .inr (4, [.ref s1, .int sla, .int sle])), (s1, .inl (G.2.1, 60, .inl sn)), (x0, .inr (5, [.ref x1, .int xl, .int xp, .int xw])), (x1, .inl (G.2.1, 60, .inl xc)), (j0, .inr (2, [.ref j1, .int jhi, .int jwi, .int jfr, .int jfc, .int jlc])), (j1, .inl (G.2.1, 20, .inl jstr)), (e0, .inr (0, [.ref e1, .ref e2, .int ecnt])), (e1, .inl (G.2.1, 4, .inl ek)), (e2, .inl (G.2.1, 4, .inl ewt)), (r0, .inr (3, [.ref r1, .ref r2, .ref r3, .int rc]))]) (wr := [(b0, .inr (6, [.ref bs, .ref x0, .ref d0, .ref r0, .ref i0, .ref c0, .ref j0, .ref e0, .int lf, .int tr])), (bs, .inl (G.2.2.2, 4, .inr (.inr (.inr (.inr sh))))), (s1, .inl (G.2.1, 60, .inl sn)), (x0, .inr (5, [.ref x1, .int xl, .int xp, .int xw])), (x1, .inl (G.2.1, 60, .inl xc)), (j0, .inr (2, [.ref j1, .int jhi, .int jwi, .int jfr, .int jfc, .int jlc])), (j1, .inl (G.2.1, 20, .inl jstr)), (e0, .inr (0, [.ref e1, .ref e2, .int ecnt])), (e1, .inl (G.2.1, 4, .inl ek)), (e2, .inl (G.2.1, 4, .inl ewt)), (r0, .inr (3, [.ref r1, .ref r2, .ref r3, .int rc]))]) (rest := []) fx hh hl.1 (h_X6_refusalOfLane s0 s1 sla sle lane) yS_X6_refusalOfLane tMX6_228 ⟨rfl, rfl, Nat.le_of_ble_eq_true rfl, Nat.le_of_ble_eq_true rfl⟩ [2] [0, 1, 3, 4, 5, 6, 7, 8, 9, 10, 11] [0, 1, 11, 2, 3, 4, 5, 6, 7, 8, 9, 10] rfl rfl rfl (by decide) (by decide) rfl rfl (Nat.le_of_ble_eq_true rfl) ⟨Nat.le_of_ble_eq_true rfl, Nat.le_of_ble_eq_true rfl⟩ (dOk_at dX6_takeText 6 rfl) (fun H locs hh => ?_)
  refine lv_istore (pc := 13) (lv' := [(6, .int (x_rl sla lane)), (5, .ref s0), (0, .ref b0), (1, .int sheet), (2, .int lane), (3, .int i), (4, .int n)]) hx hb (dOk_at dX6_takeText 7 rfl) hl (by decide) rfl (fun ls hl => ?_)
  refine lv_aload (pc := 15) hx hb (dOk_at dX6_takeText 8 rfl) (lv_at hl 1 rfl) ?_
  refine lv_ifnull (pc := 17) hx hb (dOk_at dX6_takeText 9 rfl) ?_
  refine lv_iload (pc := 20) hx hb (dOk_at dX6_takeText 10 rfl) (lv_at hl 0 rfl) ?_
  refine lv_if_eq (pc := 22) (tgt := 28) hx hb (dOk_at dX6_takeText 11 rfl) (by decide) (fun c22 => ?_) (fun c22 => ?_)
  · have hv := hv.1 c22
    refine lv_iload (pc := 28) hx hb (dOk_at dX6_takeText 14 rfl) (lv_at hl 6 rfl) ?_
    refine lv_if_ge (pc := 30) (tgt := 36) hx hb (dOk_at dX6_takeText 15 rfl) (by decide) (fun c30 => ?_) (fun c30 => ?_)
    · have hv := hv.1 c30
      refine lv_aload (pc := 36) hx hb (dOk_at dX6_takeText 18 rfl) (lv_at hl 1 rfl) ?_
      refine lv_iload_n (pc := 38) hx hb (dOk_at dX6_takeText 19 rfl) rfl (lv_at hl 5 rfl) ?_
      refine lv_iload (pc := 39) hx hb (dOk_at dX6_takeText 20 rfl) (lv_at hl 6 rfl) ?_
      refine cl_VN (pc := 41) (w' := [(b0, .inr (6, [.ref bs, .ref x0, .ref d0, .ref r0, .ref i0, .ref c0, .ref j0, .ref e0, .int lf, .int tr])), (bs, .inl (G.2.2.2, 4, .inr (.inr (.inr (.inr sh))))), (s0, .inr (4, [.ref s1, .int sla, .int sle])), (s1, .inl (G.2.1, 60, .inl sn)), (x0, .inr (5, [.ref x1, .int xl, .int xp, .int xw])), (x1, .inl (G.2.1, 60, .inl xc)), (j0, .inr (2, [.ref j1, .int jhi, .int jwi, .int jfr, .int jfc, .int jlc])), (j1, .inl (G.2.1, 20, .inl jstr)), (e0, .inr (0, [.ref e1, .ref e2, .int ecnt])), (e1, .inl (G.2.1, 4, .inl ek)), (e2, .inl (G.2.1, 4, .inl ewt)), (r0, .inr (3, [.ref r1, .ref r2, .ref r3, .int rc]))]) (wr := [(b0, .inr (6, [.ref bs, .ref x0, .ref d0, .ref r0, .ref i0, .ref c0, .ref j0, .ref e0, .int lf, .int tr])), (bs, .inl (G.2.2.2, 4, .inr (.inr (.inr (.inr sh))))), (s1, .inl (G.2.1, 60, .inl sn)), (x0, .inr (5, [.ref x1, .int xl, .int xp, .int xw])), (x1, .inl (G.2.1, 60, .inl xc)), (j0, .inr (2, [.ref j1, .int jhi, .int jwi, .int jfr, .int jfc, .int jlc])), (j1, .inl (G.2.1, 20, .inl jstr)), (e0, .inr (0, [.ref e1, .ref e2, .int ecnt])), (e1, .inl (G.2.1, 4, .inl ek)), (e2, .inl (G.2.1, 4, .inl ewt)), (r0, .inr (3, [.ref r1, .ref r2, .ref r3, .int rc]))]) (rest := []) fx hh hl.1 (h_X4_has s0 s1 sla sle i n) yV_X4_has nMX6_232 ⟨rfl, rfl, Nat.le_of_ble_eq_true rfl, Nat.le_of_ble_eq_true rfl⟩ 2 4 rfl rfl rfl [2] [0, 1, 3, 4, 5, 6, 7, 8, 9, 10, 11] [0, 1, 11, 2, 3, 4, 5, 6, 7, 8, 9, 10] rfl rfl rfl (by decide) (by decide) rfl rfl (Nat.le_of_ble_eq_true rfl) ⟨Nat.le_of_ble_eq_true rfl, Nat.le_of_ble_eq_true rfl⟩ (dOk_at dX6_takeText 21 rfl) (fun H locs hh => ?_)
      refine lv_if_ne (pc := 44) (tgt := 50) hx hb (dOk_at dX6_takeText 22 rfl) (by decide) (fun c44 => ?_) (fun c44 => ?_)
      · have hv := hv.1 c44
        refine lv_aload_n (pc := 50) hx hb (dOk_at dX6_takeText 25 rfl) rfl (lv_at hl 2 rfl) ?_
        refine r_get (pc := 51) (ci := 6) fx hh inT6 rfl 1 (by decide) tFX6_20 rfl 0 rfl rfl (dOk_at dX6_takeText 26 rfl) ?_
        refine lv_aload (pc := 54) hx hb (dOk_at dX6_takeText 27 rfl) (lv_at hl 1 rfl) ?_
        refine lv_iload_n (pc := 56) hx hb (dOk_at dX6_takeText 28 rfl) rfl (lv_at hl 5 rfl) ?_
        refine lv_iload (pc := 57) hx hb (dOk_at dX6_takeText 29 rfl) (lv_at hl 6 rfl) ?_
        refine cl_VN (pc := 59) (w' := [(b0, .inr (6, [.ref bs, .ref x0, .ref d0, .ref r0, .ref i0, .ref c0, .ref j0, .ref e0, .int lf, .int tr])), (bs, .inl (G.2.2.2, 4, .inr (.inr (.inr (.inr sh))))), (s0, .inr (4, [.ref s1, .int sla, .int sle])), (s1, .inl (G.2.1, 60, .inl sn)), (x0, .inr (5, [.ref x1, .int n, .int 0, .int 0])), (x1, .inl (G.2.1, 60, .inl (s_cpT sn xc i n))), (j0, .inr (2, [.ref j1, .int jhi, .int jwi, .int jfr, .int jfc, .int jlc])), (j1, .inl (G.2.1, 20, .inl jstr)), (e0, .inr (0, [.ref e1, .ref e2, .int ecnt])), (e1, .inl (G.2.1, 4, .inl ek)), (e2, .inl (G.2.1, 4, .inl ewt)), (r0, .inr (3, [.ref r1, .ref r2, .ref r3, .int rc]))]) (wr := [(b0, .inr (6, [.ref bs, .ref x0, .ref d0, .ref r0, .ref i0, .ref c0, .ref j0, .ref e0, .int lf, .int tr])), (bs, .inl (G.2.2.2, 4, .inr (.inr (.inr (.inr sh))))), (j0, .inr (2, [.ref j1, .int jhi, .int jwi, .int jfr, .int jfc, .int jlc])), (j1, .inl (G.2.1, 20, .inl jstr)), (e0, .inr (0, [.ref e1, .ref e2, .int ecnt])), (e1, .inl (G.2.1, 4, .inl ek)), (e2, .inl (G.2.1, 4, .inl ewt)), (r0, .inr (3, [.ref r1, .ref r2, .ref r3, .int rc]))]) (rest := []) fx hh hl.1 (h_X5_begin x0 x1 s0 s1 xl xp xw sla sle i n xc sn hv.1) yV_X5_begin nMX6_235 ⟨rfl, rfl, Nat.le_of_ble_eq_true rfl, Nat.le_of_ble_eq_true rfl⟩ 4 5 rfl rfl rfl [4, 5, 2, 3] [0, 1, 6, 7, 8, 9, 10, 11] [0, 1, 10, 11, 8, 9, 2, 3, 4, 5, 6, 7] rfl rfl rfl (by decide) (by decide) rfl rfl (Nat.le_of_ble_eq_true rfl) ⟨Nat.le_of_ble_eq_true rfl, Nat.le_of_ble_eq_true rfl⟩ (dOk_at dX6_takeText 30 rfl) (fun H locs hh => ?_)
        have hv := hv.2
        refine lv_aload_n (pc := 62) hx hb (dOk_at dX6_takeText 31 rfl) rfl (lv_at hl 2 rfl) ?_
        refine r_get (pc := 63) (ci := 6) fx hh inT6 rfl 6 (by decide) tFX6_52 rfl 0 rfl rfl (dOk_at dX6_takeText 32 rfl) ?_
        refine lv_aload_n (pc := 66) hx hb (dOk_at dX6_takeText 33 rfl) rfl (lv_at hl 2 rfl) ?_
        refine r_get (pc := 67) (ci := 6) fx hh inT6 rfl 1 (by decide) tFX6_20 rfl 0 rfl rfl (dOk_at dX6_takeText 34 rfl) ?_
        refine cl_VN (pc := 70) (w' := [(b0, .inr (6, [.ref bs, .ref x0, .ref d0, .ref r0, .ref i0, .ref c0, .ref j0, .ref e0, .int lf, .int tr])), (bs, .inl (G.2.2.2, 4, .inr (.inr (.inr (.inr sh))))), (s0, .inr (4, [.ref s1, .int sla, .int sle])), (s1, .inl (G.2.1, 60, .inl sn)), (x0, .inr (5, [.ref x1, .int n, .int ((itRow n (s_cpT sn xc i n) (0, 0) jstr).1.1), .int ((itRow n (s_cpT sn xc i n) (0, 0) jstr).1.2)])), (x1, .inl (G.2.1, 60, .inl (s_cpT sn xc i n))), (j0, .inr (2, [.ref j1, .int (itHi n (s_cpT sn xc i n) (0, 0)), .int (itWi n (s_cpT sn xc i n) (0, 0)), .int (itFr n (s_cpT sn xc i n) (0, 0)), .int ((itRow n (s_cpT sn xc i n) (0, 0) jstr).2.2), .int ((itRow n (s_cpT sn xc i n) (0, 0) jstr).2.2 <<< ((itWi n (s_cpT sn xc i n) (0, 0) - 1) &&& 31))])), (j1, .inl (G.2.1, 20, .inl ((itRow n (s_cpT sn xc i n) (0, 0) jstr).2.1))), (e0, .inr (0, [.ref e1, .ref e2, .int ecnt])), (e1, .inl (G.2.1, 4, .inl ek)), (e2, .inl (G.2.1, 4, .inl ewt)), (r0, .inr (3, [.ref r1, .ref r2, .ref r3, .int rc]))]) (wr := [(b0, .inr (6, [.ref bs, .ref x0, .ref d0, .ref r0, .ref i0, .ref c0, .ref j0, .ref e0, .int lf, .int tr])), (bs, .inl (G.2.2.2, 4, .inr (.inr (.inr (.inr sh))))), (s0, .inr (4, [.ref s1, .int sla, .int sle])), (s1, .inl (G.2.1, 60, .inl sn)), (e0, .inr (0, [.ref e1, .ref e2, .int ecnt])), (e1, .inl (G.2.1, 4, .inl ek)), (e2, .inl (G.2.1, 4, .inl ewt)), (r0, .inr (3, [.ref r1, .ref r2, .ref r3, .int rc]))]) (rest := []) fx hh hl.1 (h_X2_take j0 j1 x0 x1 jhi jwi jfr jfc jlc n 0 0 jstr (s_cpT sn xc i n) hv.1) yV_X2_take nMX6_239 ⟨rfl, rfl, Nat.le_of_ble_eq_true rfl, Nat.le_of_ble_eq_true rfl⟩ 6 2 rfl rfl rfl [6, 7, 4, 5] [0, 1, 2, 3, 8, 9, 10, 11] [0, 1, 2, 3, 10, 11, 8, 9, 4, 5, 6, 7] rfl rfl rfl (by decide) (by decide) rfl rfl (Nat.le_of_ble_eq_true rfl) ⟨Nat.le_of_ble_eq_true rfl, Nat.le_of_ble_eq_true rfl⟩ (dOk_at dX6_takeText 35 rfl) (fun H locs hh => ?_)
        have hv := hv.2
        refine lv_aload_n (pc := 73) hx hb (dOk_at dX6_takeText 36 rfl) rfl (lv_at hl 2 rfl) ?_
        refine r_get (pc := 74) (ci := 6) fx hh inT6 rfl 7 (by decide) tFX6_55 rfl 0 rfl rfl (dOk_at dX6_takeText 37 rfl) ?_
        refine lv_aload_n (pc := 77) hx hb (dOk_at dX6_takeText 38 rfl) rfl (lv_at hl 2 rfl) ?_
        refine r_get (pc := 78) (ci := 6) fx hh inT6 rfl 1 (by decide) tFX6_20 rfl 0 rfl rfl (dOk_at dX6_takeText 39 rfl) ?_
        refine cl_VN (pc := 81) (w' := [(b0, .inr (6, [.ref bs, .ref x0, .ref d0, .ref r0, .ref i0, .ref c0, .ref j0, .ref e0, .int lf, .int tr])), (bs, .inl (G.2.2.2, 4, .inr (.inr (.inr (.inr sh))))), (s0, .inr (4, [.ref s1, .int sla, .int sle])), (s1, .inl (G.2.1, 60, .inl sn)), (x0, .inr (5, [.ref x1, .int n, .int ((crwAll n (s_cpT sn xc i n) (((itRow n (s_cpT sn xc i n) (0, 0) jstr).1.1), ((itRow n (s_cpT sn xc i n) (0, 0) jstr).1.2)) ek ewt).1.1), .int ((crwAll n (s_cpT sn xc i n) (((itRow n (s_cpT sn xc i n) (0, 0) jstr).1.1), ((itRow n (s_cpT sn xc i n) (0, 0) jstr).1.2)) ek ewt).1.2)])), (x1, .inl (G.2.1, 60, .inl (s_cpT sn xc i n))), (j0, .inr (2, [.ref j1, .int (itHi n (s_cpT sn xc i n) (0, 0)), .int (itWi n (s_cpT sn xc i n) (0, 0)), .int (itFr n (s_cpT sn xc i n) (0, 0)), .int ((itRow n (s_cpT sn xc i n) (0, 0) jstr).2.2), .int ((itRow n (s_cpT sn xc i n) (0, 0) jstr).2.2 <<< ((itWi n (s_cpT sn xc i n) (0, 0) - 1) &&& 31))])), (j1, .inl (G.2.1, 20, .inl ((itRow n (s_cpT sn xc i n) (0, 0) jstr).2.1))), (e0, .inr (0, [.ref e1, .ref e2, .int ((crwAll n (s_cpT sn xc i n) (((itRow n (s_cpT sn xc i n) (0, 0) jstr).1.1), ((itRow n (s_cpT sn xc i n) (0, 0) jstr).1.2)) ek ewt).2.2.2)])), (e1, .inl (G.2.1, 4, .inl ((crwAll n (s_cpT sn xc i n) (((itRow n (s_cpT sn xc i n) (0, 0) jstr).1.1), ((itRow n (s_cpT sn xc i n) (0, 0) jstr).1.2)) ek ewt).2.1))), (e2, .inl (G.2.1, 4, .inl ((crwAll n (s_cpT sn xc i n) (((itRow n (s_cpT sn xc i n) (0, 0) jstr).1.1), ((itRow n (s_cpT sn xc i n) (0, 0) jstr).1.2)) ek ewt).2.2.1))), (r0, .inr (3, [.ref r1, .ref r2, .ref r3, .int rc]))]) (wr := [(b0, .inr (6, [.ref bs, .ref x0, .ref d0, .ref r0, .ref i0, .ref c0, .ref j0, .ref e0, .int lf, .int tr])), (bs, .inl (G.2.2.2, 4, .inr (.inr (.inr (.inr sh))))), (s0, .inr (4, [.ref s1, .int sla, .int sle])), (s1, .inl (G.2.1, 60, .inl sn)), (j0, .inr (2, [.ref j1, .int (itHi n (s_cpT sn xc i n) (0, 0)), .int (itWi n (s_cpT sn xc i n) (0, 0)), .int (itFr n (s_cpT sn xc i n) (0, 0)), .int ((itRow n (s_cpT sn xc i n) (0, 0) jstr).2.2), .int ((itRow n (s_cpT sn xc i n) (0, 0) jstr).2.2 <<< ((itWi n (s_cpT sn xc i n) (0, 0) - 1) &&& 31))])), (j1, .inl (G.2.1, 20, .inl ((itRow n (s_cpT sn xc i n) (0, 0) jstr).2.1))), (r0, .inr (3, [.ref r1, .ref r2, .ref r3, .int rc]))]) (rest := []) fx hh hl.1 (h_X0_take e0 e1 e2 x0 x1 ecnt n ((itRow n (s_cpT sn xc i n) (0, 0) jstr).1.1) ((itRow n (s_cpT sn xc i n) (0, 0) jstr).1.2) ek ewt (s_cpT sn xc i n) hv.1) yV_X0_take nMX6_243 ⟨rfl, rfl, Nat.le_of_ble_eq_true rfl, Nat.le_of_ble_eq_true rfl⟩ 8 0 rfl rfl rfl [8, 9, 10, 4, 5] [0, 1, 2, 3, 6, 7, 11] [0, 1, 2, 3, 10, 11, 4, 5, 7, 8, 9, 6] rfl rfl rfl (by decide) (by decide) rfl rfl (Nat.le_of_ble_eq_true rfl) ⟨Nat.le_of_ble_eq_true rfl, Nat.le_of_ble_eq_true rfl⟩ (dOk_at dX6_takeText 40 rfl) (fun H locs hh => ?_)
        have hv := hv.2
        refine lv_aload_n (pc := 84) hx hb (dOk_at dX6_takeText 41 rfl) rfl (lv_at hl 2 rfl) ?_
        refine r_get (pc := 85) (ci := 6) fx hh inT6 rfl 1 (by decide) tFX6_20 rfl 0 rfl rfl (dOk_at dX6_takeText 42 rfl) ?_
        refine cl_VN (pc := 88) (w' := [(b0, .inr (6, [.ref bs, .ref x0, .ref d0, .ref r0, .ref i0, .ref c0, .ref j0, .ref e0, .int lf, .int tr])), (bs, .inl (G.2.2.2, 4, .inr (.inr (.inr (.inr sh))))), (s0, .inr (4, [.ref s1, .int sla, .int sle])), (s1, .inl (G.2.1, 60, .inl sn)), (x0, .inr (5, [.ref x1, .int n, .int ((crwAll n (s_cpT sn xc i n) (((itRow n (s_cpT sn xc i n) (0, 0) jstr).1.1), ((itRow n (s_cpT sn xc i n) (0, 0) jstr).1.2)) ek ewt).1.1), .int (s_endW n ((crwAll n (s_cpT sn xc i n) (((itRow n (s_cpT sn xc i n) (0, 0) jstr).1.1), ((itRow n (s_cpT sn xc i n) (0, 0) jstr).1.2)) ek ewt).1.1) ((crwAll n (s_cpT sn xc i n) (((itRow n (s_cpT sn xc i n) (0, 0) jstr).1.1), ((itRow n (s_cpT sn xc i n) (0, 0) jstr).1.2)) ek ewt).1.2))])), (x1, .inl (G.2.1, 60, .inl (s_cpT sn xc i n))), (j0, .inr (2, [.ref j1, .int (itHi n (s_cpT sn xc i n) (0, 0)), .int (itWi n (s_cpT sn xc i n) (0, 0)), .int (itFr n (s_cpT sn xc i n) (0, 0)), .int ((itRow n (s_cpT sn xc i n) (0, 0) jstr).2.2), .int ((itRow n (s_cpT sn xc i n) (0, 0) jstr).2.2 <<< ((itWi n (s_cpT sn xc i n) (0, 0) - 1) &&& 31))])), (j1, .inl (G.2.1, 20, .inl ((itRow n (s_cpT sn xc i n) (0, 0) jstr).2.1))), (e0, .inr (0, [.ref e1, .ref e2, .int ((crwAll n (s_cpT sn xc i n) (((itRow n (s_cpT sn xc i n) (0, 0) jstr).1.1), ((itRow n (s_cpT sn xc i n) (0, 0) jstr).1.2)) ek ewt).2.2.2)])), (e1, .inl (G.2.1, 4, .inl ((crwAll n (s_cpT sn xc i n) (((itRow n (s_cpT sn xc i n) (0, 0) jstr).1.1), ((itRow n (s_cpT sn xc i n) (0, 0) jstr).1.2)) ek ewt).2.1))), (e2, .inl (G.2.1, 4, .inl ((crwAll n (s_cpT sn xc i n) (((itRow n (s_cpT sn xc i n) (0, 0) jstr).1.1), ((itRow n (s_cpT sn xc i n) (0, 0) jstr).1.2)) ek ewt).2.2.1))), (r0, .inr (3, [.ref r1, .ref r2, .ref r3, .int rc]))]) (wr := [(b0, .inr (6, [.ref bs, .ref x0, .ref d0, .ref r0, .ref i0, .ref c0, .ref j0, .ref e0, .int lf, .int tr])), (bs, .inl (G.2.2.2, 4, .inr (.inr (.inr (.inr sh))))), (s0, .inr (4, [.ref s1, .int sla, .int sle])), (s1, .inl (G.2.1, 60, .inl sn)), (x1, .inl (G.2.1, 60, .inl (s_cpT sn xc i n))), (j0, .inr (2, [.ref j1, .int (itHi n (s_cpT sn xc i n) (0, 0)), .int (itWi n (s_cpT sn xc i n) (0, 0)), .int (itFr n (s_cpT sn xc i n) (0, 0)), .int ((itRow n (s_cpT sn xc i n) (0, 0) jstr).2.2), .int ((itRow n (s_cpT sn xc i n) (0, 0) jstr).2.2 <<< ((itWi n (s_cpT sn xc i n) (0, 0) - 1) &&& 31))])), (j1, .inl (G.2.1, 20, .inl ((itRow n (s_cpT sn xc i n) (0, 0) jstr).2.1))), (e0, .inr (0, [.ref e1, .ref e2, .int ((crwAll n (s_cpT sn xc i n) (((itRow n (s_cpT sn xc i n) (0, 0) jstr).1.1), ((itRow n (s_cpT sn xc i n) (0, 0) jstr).1.2)) ek ewt).2.2.2)])), (e1, .inl (G.2.1, 4, .inl ((crwAll n (s_cpT sn xc i n) (((itRow n (s_cpT sn xc i n) (0, 0) jstr).1.1), ((itRow n (s_cpT sn xc i n) (0, 0) jstr).1.2)) ek ewt).2.1))), (e2, .inl (G.2.1, 4, .inl ((crwAll n (s_cpT sn xc i n) (((itRow n (s_cpT sn xc i n) (0, 0) jstr).1.1), ((itRow n (s_cpT sn xc i n) (0, 0) jstr).1.2)) ek ewt).2.2.1))), (r0, .inr (3, [.ref r1, .ref r2, .ref r3, .int rc]))]) (rest := []) fx hh hl.1 (h_X5_end x0 x1 n ((crwAll n (s_cpT sn xc i n) (((itRow n (s_cpT sn xc i n) (0, 0) jstr).1.1), ((itRow n (s_cpT sn xc i n) (0, 0) jstr).1.2)) ek ewt).1.1) ((crwAll n (s_cpT sn xc i n) (((itRow n (s_cpT sn xc i n) (0, 0) jstr).1.1), ((itRow n (s_cpT sn xc i n) (0, 0) jstr).1.2)) ek ewt).1.2)) yV_X5_end nMX6_244 ⟨rfl, rfl, Nat.le_of_ble_eq_true rfl, Nat.le_of_ble_eq_true rfl⟩ 4 5 rfl rfl rfl [4] [0, 1, 2, 3, 5, 6, 7, 8, 9, 10, 11] [0, 1, 2, 3, 11, 4, 5, 6, 7, 8, 9, 10] rfl rfl rfl (by decide) (by decide) rfl rfl (Nat.le_of_ble_eq_true rfl) ⟨Nat.le_of_ble_eq_true rfl, Nat.le_of_ble_eq_true rfl⟩ (dOk_at dX6_takeText 43 rfl) (fun H locs hh => ?_)
        refine lv_aload_n (pc := 91) hx hb (dOk_at dX6_takeText 44 rfl) rfl (lv_at hl 2 rfl) ?_
        refine r_get (pc := 92) (ci := 6) fx hh inT6 rfl 1 (by decide) tFX6_20 rfl 0 rfl rfl (dOk_at dX6_takeText 45 rfl) ?_
        refine r_getN (pc := 95) (ci := 5) fx hh inT5 rfl 3 (by decide) nFX6_247 rfl 4 rfl rfl (dOk_at dX6_takeText 46 rfl) ?_
        refine lv_if_eq (pc := 98) (tgt := 112) hx hb (dOk_at dX6_takeText 47 rfl) (by decide) (fun c98 => ?_) (fun c98 => ?_)
        · have hv := hv.1 c98
          refine lv_aload_n (pc := 112) hx hb (dOk_at dX6_takeText 54 rfl) rfl (lv_at hl 2 rfl) ?_
          refine cl_V (pc := 113) (w' := [(b0, .inr (6, [.ref bs, .ref x0, .ref d0, .ref r0, .ref j0, .ref e0, .ref i0, .ref c0, .int lf, .int tr])), (bs, .inl (G.2.2.2, 4, .inr (.inr (.inr (.inr sh))))), (s0, .inr (4, [.ref s1, .int sla, .int sle])), (s1, .inl (G.2.1, 60, .inl sn)), (x0, .inr (5, [.ref x1, .int n, .int ((crwAll n (s_cpT sn xc i n) (((itRow n (s_cpT sn xc i n) (0, 0) jstr).1.1), ((itRow n (s_cpT sn xc i n) (0, 0) jstr).1.2)) ek ewt).1.1), .int (s_endW n ((crwAll n (s_cpT sn xc i n) (((itRow n (s_cpT sn xc i n) (0, 0) jstr).1.1), ((itRow n (s_cpT sn xc i n) (0, 0) jstr).1.2)) ek ewt).1.1) ((crwAll n (s_cpT sn xc i n) (((itRow n (s_cpT sn xc i n) (0, 0) jstr).1.1), ((itRow n (s_cpT sn xc i n) (0, 0) jstr).1.2)) ek ewt).1.2))])), (x1, .inl (G.2.1, 60, .inl (s_cpT sn xc i n))), (j0, .inr (2, [.ref j1, .int (itHi n (s_cpT sn xc i n) (0, 0)), .int (itWi n (s_cpT sn xc i n) (0, 0)), .int (itFr n (s_cpT sn xc i n) (0, 0)), .int ((itRow n (s_cpT sn xc i n) (0, 0) jstr).2.2), .int ((itRow n (s_cpT sn xc i n) (0, 0) jstr).2.2 <<< ((itWi n (s_cpT sn xc i n) (0, 0) - 1) &&& 31))])), (j1, .inl (G.2.1, 20, .inl ((itRow n (s_cpT sn xc i n) (0, 0) jstr).2.1))), (e0, .inr (0, [.ref e1, .ref e2, .int ((crwAll n (s_cpT sn xc i n) (((itRow n (s_cpT sn xc i n) (0, 0) jstr).1.1), ((itRow n (s_cpT sn xc i n) (0, 0) jstr).1.2)) ek ewt).2.2.2)])), (e1, .inl (G.2.1, 4, .inl ((crwAll n (s_cpT sn xc i n) (((itRow n (s_cpT sn xc i n) (0, 0) jstr).1.1), ((itRow n (s_cpT sn xc i n) (0, 0) jstr).1.2)) ek ewt).2.1))), (e2, .inl (G.2.1, 4, .inl ((crwAll n (s_cpT sn xc i n) (((itRow n (s_cpT sn xc i n) (0, 0) jstr).1.1), ((itRow n (s_cpT sn xc i n) (0, 0) jstr).1.2)) ek ewt).2.2.1))), (r0, .inr (3, [.ref r1, .ref r2, .ref r3, .int 0]))]) (wr := [(bs, .inl (G.2.2.2, 4, .inr (.inr (.inr (.inr sh))))), (s0, .inr (4, [.ref s1, .int sla, .int sle])), (s1, .inl (G.2.1, 60, .inl sn)), (x0, .inr (5, [.ref x1, .int n, .int ((crwAll n (s_cpT sn xc i n) (((itRow n (s_cpT sn xc i n) (0, 0) jstr).1.1), ((itRow n (s_cpT sn xc i n) (0, 0) jstr).1.2)) ek ewt).1.1), .int (s_endW n ((crwAll n (s_cpT sn xc i n) (((itRow n (s_cpT sn xc i n) (0, 0) jstr).1.1), ((itRow n (s_cpT sn xc i n) (0, 0) jstr).1.2)) ek ewt).1.1) ((crwAll n (s_cpT sn xc i n) (((itRow n (s_cpT sn xc i n) (0, 0) jstr).1.1), ((itRow n (s_cpT sn xc i n) (0, 0) jstr).1.2)) ek ewt).1.2))])), (x1, .inl (G.2.1, 60, .inl (s_cpT sn xc i n))), (j0, .inr (2, [.ref j1, .int (itHi n (s_cpT sn xc i n) (0, 0)), .int (itWi n (s_cpT sn xc i n) (0, 0)), .int (itFr n (s_cpT sn xc i n) (0, 0)), .int ((itRow n (s_cpT sn xc i n) (0, 0) jstr).2.2), .int ((itRow n (s_cpT sn xc i n) (0, 0) jstr).2.2 <<< ((itWi n (s_cpT sn xc i n) (0, 0) - 1) &&& 31))])), (j1, .inl (G.2.1, 20, .inl ((itRow n (s_cpT sn xc i n) (0, 0) jstr).2.1))), (e0, .inr (0, [.ref e1, .ref e2, .int ((crwAll n (s_cpT sn xc i n) (((itRow n (s_cpT sn xc i n) (0, 0) jstr).1.1), ((itRow n (s_cpT sn xc i n) (0, 0) jstr).1.2)) ek ewt).2.2.2)])), (e1, .inl (G.2.1, 4, .inl ((crwAll n (s_cpT sn xc i n) (((itRow n (s_cpT sn xc i n) (0, 0) jstr).1.1), ((itRow n (s_cpT sn xc i n) (0, 0) jstr).1.2)) ek ewt).2.1))), (e2, .inl (G.2.1, 4, .inl ((crwAll n (s_cpT sn xc i n) (((itRow n (s_cpT sn xc i n) (0, 0) jstr).1.1), ((itRow n (s_cpT sn xc i n) (0, 0) jstr).1.2)) ek ewt).2.2.1)))]) (rest := []) fx hh hl.1 (h_X6_changeToDraft b0 r0 bs x0 d0 i0 c0 j0 e0 r1 r2 r3 lf tr rc) yV_X6_changeToDraft tMX6_254 ⟨rfl, rfl, Nat.le_of_ble_eq_true rfl, Nat.le_of_ble_eq_true rfl⟩ 0 6 rfl rfl rfl [0, 11] [1, 2, 3, 4, 5, 6, 7, 8, 9, 10] [10, 0, 1, 2, 3, 4, 5, 6, 7, 8, 9, 11] rfl rfl rfl (by decide) (by decide) rfl rfl (Nat.le_of_ble_eq_true rfl) ⟨Nat.le_of_ble_eq_true rfl, Nat.le_of_ble_eq_true rfl⟩ (dOk_at dX6_takeText 55 rfl) (fun H locs hh => ?_)
          refine lv_aload_n (pc := 116) hx hb (dOk_at dX6_takeText 56 rfl) rfl (lv_at hl 2 rfl) ?_
          refine r_get (pc := 117) (ci := 6) fx hh inT6 rfl 5 (by decide) tFX6_48 rfl 0 rfl rfl (dOk_at dX6_takeText 57 rfl) ?_
          refine r_getN (pc := 120) (ci := 0) fx hh inT0 rfl 2 (by decide) nFX6_221 rfl 8 rfl rfl (dOk_at dX6_takeText 58 rfl) ?_
          obtain ⟨e0, e1, e2, e3, e4, e5, e6, e7, e8, e9, e10, e11, e12, e13, e14⟩ := hv
          subst e0
          subst e1
          subst e2
          subst e3
          subst e4
          subst e5
          subst e6
          subst e7
          subst e8
          subst e9
          subst e10
          subst e11
          subst e12
          subst e13
          subst e14
          rw [hQ]
          exact r_iretJ (pc := 123) (n, (crwAll n (s_cpT sn xc i n) (((itRow n (s_cpT sn xc i n) (0, 0) jstr).1.1), ((itRow n (s_cpT sn xc i n) (0, 0) jstr).1.2)) ek ewt).1.1, s_endW n ((crwAll n (s_cpT sn xc i n) (((itRow n (s_cpT sn xc i n) (0, 0) jstr).1.1), ((itRow n (s_cpT sn xc i n) (0, 0) jstr).1.2)) ek ewt).1.1) ((crwAll n (s_cpT sn xc i n) (((itRow n (s_cpT sn xc i n) (0, 0) jstr).1.1), ((itRow n (s_cpT sn xc i n) (0, 0) jstr).1.2)) ek ewt).1.2), s_cpT sn xc i n) fx hh (dOk_at dX6_takeText 59 rfl)
        · have hv := hv.2 c98
          refine lv_bipush (pc := 101) (v := (-100)) hx hb (dOk_at dX6_takeText 48 rfl) (by decide) ?_
          refine lv_aload_n (pc := 103) hx hb (dOk_at dX6_takeText 49 rfl) rfl (lv_at hl 2 rfl) ?_
          refine r_get (pc := 104) (ci := 6) fx hh inT6 rfl 1 (by decide) tFX6_20 rfl 0 rfl rfl (dOk_at dX6_takeText 50 rfl) ?_
          refine r_getN (pc := 107) (ci := 5) fx hh inT5 rfl 2 (by decide) nFX6_251 rfl 4 rfl rfl (dOk_at dX6_takeText 51 rfl) ?_
          refine lv_isub (pc := 110) hx hb (dOk_at dX6_takeText 52 rfl) ?_
          obtain ⟨e0, e1, e2, e3, e4, e5, e6, e7, e8, e9, e10, e11, e12, e13, e14⟩ := hv
          subst e0
          subst e1
          subst e2
          subst e3
          subst e4
          subst e5
          subst e6
          subst e7
          subst e8
          subst e9
          subst e10
          subst e11
          subst e12
          subst e13
          subst e14
          rw [hQ]
          exact r_iretJ (pc := 111) (n, (crwAll n (s_cpT sn xc i n) (((itRow n (s_cpT sn xc i n) (0, 0) jstr).1.1), ((itRow n (s_cpT sn xc i n) (0, 0) jstr).1.2)) ek ewt).1.1, s_endW n ((crwAll n (s_cpT sn xc i n) (((itRow n (s_cpT sn xc i n) (0, 0) jstr).1.1), ((itRow n (s_cpT sn xc i n) (0, 0) jstr).1.2)) ek ewt).1.1) ((crwAll n (s_cpT sn xc i n) (((itRow n (s_cpT sn xc i n) (0, 0) jstr).1.1), ((itRow n (s_cpT sn xc i n) (0, 0) jstr).1.2)) ek ewt).1.2), s_cpT sn xc i n) fx hh (dOk_at dX6_takeText 53 rfl)
      · have hv := hv.2 c44
        refine lv_bipush (pc := 47) (v := (-13)) hx hb (dOk_at dX6_takeText 23 rfl) (by decide) ?_
        obtain ⟨e0, e1, e2, e3, e4, e5, e6, e7, e8, e9, e10, e11, e12, e13, e14⟩ := hv
        subst e0
        subst e1
        subst e2
        subst e3
        subst e4
        subst e5
        subst e6
        subst e7
        subst e8
        subst e9
        subst e10
        subst e11
        subst e12
        subst e13
        subst e14
        rw [hQ]
        exact r_iretJ (pc := 49) (xl, xp, xw, xc) fx hh (dOk_at dX6_takeText 24 rfl)
    · have hv := hv.2 c30
      refine lv_bipush (pc := 33) (v := (-14)) hx hb (dOk_at dX6_takeText 16 rfl) (by decide) ?_
      obtain ⟨e0, e1, e2, e3, e4, e5, e6, e7, e8, e9, e10, e11, e12, e13, e14⟩ := hv
      subst e0
      subst e1
      subst e2
      subst e3
      subst e4
      subst e5
      subst e6
      subst e7
      subst e8
      subst e9
      subst e10
      subst e11
      subst e12
      subst e13
      subst e14
      rw [hQ]
      exact r_iretJ (pc := 35) (xl, xp, xw, xc) fx hh (dOk_at dX6_takeText 17 rfl)
  · have hv := hv.2 c22
    refine lv_iload (pc := 25) hx hb (dOk_at dX6_takeText 12 rfl) (lv_at hl 0 rfl) ?_
    obtain ⟨e0, e1, e2, e3, e4, e5, e6, e7, e8, e9, e10, e11, e12, e13, e14⟩ := hv
    subst e0
    subst e1
    subst e2
    subst e3
    subst e4
    subst e5
    subst e6
    subst e7
    subst e8
    subst e9
    subst e10
    subst e11
    subst e12
    subst e13
    subst e14
    rw [hQ]
    exact r_iretJ (pc := 27) (xl, xp, xw, xc) fx hh (dOk_at dX6_takeText 13 rfl)
set_option maxRecDepth 100000 in
set_option maxHeartbeats 4000000 in
theorem wk_X6_takeText_n (l : Launch) (G : GT) (b0 : Nat) (bs : Nat) (x0 : Nat) (d0 : Nat) (r0 : Nat) (i0 : Nat) (c0 : Nat) (j0 : Nat) (e0 : Nat) (lf : Int32) (tr : Int32) (sh : Nat → Option Nat) (sheet : Int32) (lane : Int32) (i : Int32) (n : Int32) (R : Int32) (h_X6_refusalOfLane_n : K_X6_refusalOfLane_n l G) (h_X6_sheetAt : K_X6_sheetAt l G)
    (hv : s_shAt sh sheet = none ∧ (s_in sheet 0 3 = 0 ∨ vp_in sheet 4) ∧ (-1 : Int32) = R) :
    MF l G yX6_takeText cX6_takeText 7 (some .int) rm_X6_takeText [.ref b0, .int sheet, .int lane, .int i, .int n] [(b0, .inr (6, [.ref bs, .ref x0, .ref d0, .ref r0, .ref i0, .ref c0, .ref j0, .ref e0, .int lf, .int tr])), (bs, .inl (G.2.2.2, 4, .inr (.inr (.inr (.inr sh)))))] (some (.int R)) [(b0, .inr (6, [.ref bs, .ref x0, .ref d0, .ref r0, .ref i0, .ref c0, .ref j0, .ref e0, .int lf, .int tr])), (bs, .inl (G.2.2.2, 4, .inr (.inr (.inr (.inr sh)))))] := by
  refine MF.of (by decide +kernel) (Nat.le_of_ble_eq_true rfl) ?_
  intro p e s m args below meth c A ls fx hh hl _
  have hx := fx.hx
  have hb := fx.hb
  have hl : lv_has ls 7 [(0, .ref b0), (1, .int sheet), (2, .int lane), (3, .int i), (4, .int n)] := hl
  obtain ⟨Q, hQ⟩ : ∃ Q, Q = ZZ G A (some (.int R)) [(b0, .inr (6, [.ref bs, .ref x0, .ref d0, .ref r0, .ref i0, .ref c0, .ref j0, .ref e0, .int lf, .int tr])), (bs, .inl (G.2.2.2, 4, .inr (.inr (.inr (.inr sh)))))] below args s := ⟨_, rfl⟩
  rw [← hQ]
  refine lv_aload_n (pc := 0) hx hb (dOk_at dX6_takeText 0 rfl) rfl (lv_at hl 0 rfl) ?_
  refine lv_iload_n (pc := 1) hx hb (dOk_at dX6_takeText 1 rfl) rfl (lv_at hl 1 rfl) ?_
  refine cl_V (pc := 2) (w' := [(b0, .inr (6, [.ref bs, .ref x0, .ref d0, .ref r0, .ref i0, .ref c0, .ref j0, .ref e0, .int lf, .int tr])), (bs, .inl (G.2.2.2, 4, .inr (.inr (.inr (.inr sh)))))]) (wr := []) (rest := []) fx hh hl.1 (h_X6_sheetAt b0 bs x0 d0 r0 i0 c0 j0 e0 lf tr sh sheet none hv.1 hv.2.1) yV_X6_sheetAt tMX6_182 ⟨rfl, rfl, Nat.le_of_ble_eq_true rfl, Nat.le_of_ble_eq_true rfl⟩ 0 6 rfl rfl rfl [0, 1] [] [0, 1] rfl rfl rfl (by decide) (by decide) rfl rfl (Nat.le_of_ble_eq_true rfl) ⟨Nat.le_of_ble_eq_true rfl, Nat.le_of_ble_eq_true rfl⟩ (dOk_at dX6_takeText 2 rfl) (fun H locs hh => ?_)
  have hv := hv.2.2
  refine lv_astoreN (pc := 5) (lv' := [(5, .null), (0, .ref b0), (1, .int sheet), (2, .int lane), (3, .int i), (4, .int n)]) hx hb (dOk_at dX6_takeText 3 rfl) hl (by decide) rfl (fun ls hl => ?_)
  refine lv_aloadN (pc := 7) hx hb (dOk_at dX6_takeText 4 rfl) (lv_at hl 0 rfl) ?_
  refine lv_iload_n (pc := 9) hx hb (dOk_at dX6_takeText 5 rfl) rfl (lv_at hl 3 rfl) ?_
  refine cl_S (pc := 10) (w' := [(b0, .inr (6, [.ref bs, .ref x0, .ref d0, .ref r0, .ref i0, .ref c0, .ref j0, .ref e0, .int lf, .int tr])), (bs, .inl (G.2.2.2, 4, .inr (.inr (.inr (.inr sh)))))]) (wr := [(b0, .inr (6, [.ref bs, .ref x0, .ref d0, .ref r0, .ref i0, .ref c0, .ref j0, .ref e0, .int lf, .int tr])), (bs, .inl (G.2.2.2, 4, .inr (.inr (.inr (.inr sh)))))]) (rest := []) fx hh hl.1 (h_X6_refusalOfLane_n lane) yS_X6_refusalOfLane tMX6_228 ⟨rfl, rfl, Nat.le_of_ble_eq_true rfl, Nat.le_of_ble_eq_true rfl⟩ [] [0, 1] [0, 1] rfl rfl rfl (by decide) (by decide) rfl rfl (Nat.le_of_ble_eq_true rfl) ⟨Nat.le_of_ble_eq_true rfl, Nat.le_of_ble_eq_true rfl⟩ (dOk_at dX6_takeText 6 rfl) (fun H locs hh => ?_)
  refine lv_istore (pc := 13) (lv' := [(6, .int (-1)), (5, .null), (0, .ref b0), (1, .int sheet), (2, .int lane), (3, .int i), (4, .int n)]) hx hb (dOk_at dX6_takeText 7 rfl) hl (by decide) rfl (fun ls hl => ?_)
  refine lv_aloadN (pc := 15) hx hb (dOk_at dX6_takeText 8 rfl) (lv_at hl 1 rfl) ?_
  refine lv_ifnullN (pc := 17) (tgt := 25) hx hb (dOk_at dX6_takeText 9 rfl) (by decide) ?_
  refine lv_iload (pc := 25) hx hb (dOk_at dX6_takeText 12 rfl) (lv_at hl 0 rfl) ?_
  have e0 := hv
  subst e0
  rw [hQ]
  exact r_iret (pc := 27) fx hh (dOk_at dX6_takeText 13 rfl)
set_option maxRecDepth 100000 in
set_option maxHeartbeats 4000000 in
theorem wk_X6_isDeedKnown (l : Launch) (G : GT) (b0 : Nat) (bs : Nat) (c0 : Nat) (i0 : Nat) (x0 : Nat) (d0 : Nat) (r0 : Nat) (j0 : Nat) (e0 : Nat) (c1 : Nat) (c2 : Nat) (i1 : Nat) (lf : Int32) (tr : Int32) (cnt : Int32) (hi : Int32) (wi : Int32) (fr : Int32) (fc : Int32) (lc : Int32) (sh : Nat → Option Nat) (a : Int32) (b : Int32) (ce : Int32) (sheet : Int32) (s0 : Nat) (R : Int32) (h_X2_has : K_X2_has l G) (h_X6_isPair : K_X6_isPair l G) (h_X6_sheetAt : K_X6_sheetAt l G)
    (hv : ((x_pair cnt a b) = 0 → (0 : Int32) = R) ∧ (¬ (x_pair cnt a b) = 0 → ((s_ce hi wi ce) = 0 → (0 : Int32) = R) ∧ (¬ (s_ce hi wi ce) = 0 → s_shAt sh sheet = (some s0) ∧ (s_in sheet 0 3 = 0 ∨ vp_in sheet 4) ∧ (1 : Int32) = R))) :
    MF l G yX6_isDeedKnown cX6_isDeedKnown 5 (some .boolean) rm_X6_isDeedKnown [.ref b0, .int a, .int b, .int ce, .int sheet] [(b0, .inr (6, [.ref bs, .ref x0, .ref d0, .ref r0, .ref i0, .ref c0, .ref j0, .ref e0, .int lf, .int tr])), (bs, .inl (G.2.2.2, 4, .inr (.inr (.inr (.inr sh))))), (c0, .inr (0, [.ref c1, .ref c2, .int cnt])), (i0, .inr (2, [.ref i1, .int hi, .int wi, .int fr, .int fc, .int lc]))] (some (.int R)) [(b0, .inr (6, [.ref bs, .ref x0, .ref d0, .ref r0, .ref i0, .ref c0, .ref j0, .ref e0, .int lf, .int tr])), (bs, .inl (G.2.2.2, 4, .inr (.inr (.inr (.inr sh))))), (c0, .inr (0, [.ref c1, .ref c2, .int cnt])), (i0, .inr (2, [.ref i1, .int hi, .int wi, .int fr, .int fc, .int lc]))] := by
  refine MF.of (by decide +kernel) (Nat.le_of_ble_eq_true rfl) ?_
  intro p e s m args below meth c A ls fx hh hl _
  have hx := fx.hx
  have hb := fx.hb
  have hl : lv_has ls 5 [(0, .ref b0), (1, .int a), (2, .int b), (3, .int ce), (4, .int sheet)] := hl
  obtain ⟨Q, hQ⟩ : ∃ Q, Q = ZZ G A (some (.int R)) [(b0, .inr (6, [.ref bs, .ref x0, .ref d0, .ref r0, .ref i0, .ref c0, .ref j0, .ref e0, .int lf, .int tr])), (bs, .inl (G.2.2.2, 4, .inr (.inr (.inr (.inr sh))))), (c0, .inr (0, [.ref c1, .ref c2, .int cnt])), (i0, .inr (2, [.ref i1, .int hi, .int wi, .int fr, .int fc, .int lc]))] below args s := ⟨_, rfl⟩
  rw [← hQ]
  refine lv_aload_n (pc := 0) hx hb (dOk_at dX6_isDeedKnown 0 rfl) rfl (lv_at hl 0 rfl) ?_
  refine lv_iload_n (pc := 1) hx hb (dOk_at dX6_isDeedKnown 1 rfl) rfl (lv_at hl 1 rfl) ?_
  refine lv_iload_n (pc := 2) hx hb (dOk_at dX6_isDeedKnown 2 rfl) rfl (lv_at hl 2 rfl) ?_
  refine cl_V (pc := 3) (w' := [(b0, .inr (6, [.ref bs, .ref x0, .ref d0, .ref r0, .ref i0, .ref c0, .ref j0, .ref e0, .int lf, .int tr])), (bs, .inl (G.2.2.2, 4, .inr (.inr (.inr (.inr sh))))), (c0, .inr (0, [.ref c1, .ref c2, .int cnt])), (i0, .inr (2, [.ref i1, .int hi, .int wi, .int fr, .int fc, .int lc]))]) (wr := [(bs, .inl (G.2.2.2, 4, .inr (.inr (.inr (.inr sh))))), (i0, .inr (2, [.ref i1, .int hi, .int wi, .int fr, .int fc, .int lc]))]) (rest := []) fx hh hl.1 (h_X6_isPair b0 c0 bs x0 d0 r0 i0 j0 e0 c1 c2 lf tr cnt a b) yV_X6_isPair tMX6_257 ⟨rfl, rfl, Nat.le_of_ble_eq_true rfl, Nat.le_of_ble_eq_true rfl⟩ 0 6 rfl rfl rfl [0, 2] [1, 3] [2, 0, 3, 1] rfl rfl rfl (by decide) (by decide) rfl rfl (Nat.le_of_ble_eq_true rfl) ⟨Nat.le_of_ble_eq_true rfl, Nat.le_of_ble_eq_true rfl⟩ (dOk_at dX6_isDeedKnown 3 rfl) (fun H locs hh => ?_)
  refine lv_if_eq (pc := 6) (tgt := 33) hx hb (dOk_at dX6_isDeedKnown 4 rfl) (by decide) (fun c6 => ?_) (fun c6 => ?_)
  · have hv := hv.1 c6
    refine lv_iconst (pc := 33) (v := 0) hx hb (dOk_at dX6_isDeedKnown 16 rfl) (by decide) ?_
    have e0 := hv
    subst e0
    rw [hQ]
    exact r_zret (pc := 34) fx hh rfl (dOk_at dX6_isDeedKnown 17 rfl)
  · have hv := hv.2 c6
    refine lv_aload_n (pc := 9) hx hb (dOk_at dX6_isDeedKnown 5 rfl) rfl (lv_at hl 0 rfl) ?_
    refine r_get (pc := 10) (ci := 6) fx hh inT6 rfl 4 (by decide) tFX6_41 rfl 0 rfl rfl (dOk_at dX6_isDeedKnown 6 rfl) ?_
    refine lv_iload_n (pc := 13) hx hb (dOk_at dX6_isDeedKnown 7 rfl) rfl (lv_at hl 3 rfl) ?_
    refine cl_VN (pc := 14) (w' := [(b0, .inr (6, [.ref bs, .ref x0, .ref d0, .ref r0, .ref i0, .ref c0, .ref j0, .ref e0, .int lf, .int tr])), (bs, .inl (G.2.2.2, 4, .inr (.inr (.inr (.inr sh))))), (c0, .inr (0, [.ref c1, .ref c2, .int cnt])), (i0, .inr (2, [.ref i1, .int hi, .int wi, .int fr, .int fc, .int lc]))]) (wr := [(b0, .inr (6, [.ref bs, .ref x0, .ref d0, .ref r0, .ref i0, .ref c0, .ref j0, .ref e0, .int lf, .int tr])), (bs, .inl (G.2.2.2, 4, .inr (.inr (.inr (.inr sh))))), (c0, .inr (0, [.ref c1, .ref c2, .int cnt]))]) (rest := []) fx hh hl.1 (h_X2_has i0 i1 hi wi fr fc lc ce) yV_X2_has nMX6_92 ⟨rfl, rfl, Nat.le_of_ble_eq_true rfl, Nat.le_of_ble_eq_true rfl⟩ 3 2 rfl rfl rfl [3] [0, 1, 2] [0, 1, 2, 3] rfl rfl rfl (by decide) (by decide) rfl rfl (Nat.le_of_ble_eq_true rfl) ⟨Nat.le_of_ble_eq_true rfl, Nat.le_of_ble_eq_true rfl⟩ (dOk_at dX6_isDeedKnown 8 rfl) (fun H locs hh => ?_)
    refine lv_if_eq (pc := 17) (tgt := 33) hx hb (dOk_at dX6_isDeedKnown 9 rfl) (by decide) (fun c17 => ?_) (fun c17 => ?_)
    · have hv := hv.1 c17
      refine lv_iconst (pc := 33) (v := 0) hx hb (dOk_at dX6_isDeedKnown 16 rfl) (by decide) ?_
      have e0 := hv
      subst e0
      rw [hQ]
      exact r_zret (pc := 34) fx hh rfl (dOk_at dX6_isDeedKnown 17 rfl)
    · have hv := hv.2 c17
      refine lv_aload_n (pc := 20) hx hb (dOk_at dX6_isDeedKnown 10 rfl) rfl (lv_at hl 0 rfl) ?_
      refine lv_iload (pc := 21) hx hb (dOk_at dX6_isDeedKnown 11 rfl) (lv_at hl 4 rfl) ?_
      refine cl_V (pc := 23) (w' := [(b0, .inr (6, [.ref bs, .ref x0, .ref d0, .ref r0, .ref i0, .ref c0, .ref j0, .ref e0, .int lf, .int tr])), (bs, .inl (G.2.2.2, 4, .inr (.inr (.inr (.inr sh))))), (c0, .inr (0, [.ref c1, .ref c2, .int cnt])), (i0, .inr (2, [.ref i1, .int hi, .int wi, .int fr, .int fc, .int lc]))]) (wr := [(c0, .inr (0, [.ref c1, .ref c2, .int cnt])), (i0, .inr (2, [.ref i1, .int hi, .int wi, .int fr, .int fc, .int lc]))]) (rest := []) fx hh hl.1 (h_X6_sheetAt b0 bs x0 d0 r0 i0 c0 j0 e0 lf tr sh sheet (some s0) hv.1 hv.2.1) yV_X6_sheetAt tMX6_182 ⟨rfl, rfl, Nat.le_of_ble_eq_true rfl, Nat.le_of_ble_eq_true rfl⟩ 0 6 rfl rfl rfl [0, 1] [2, 3] [2, 3, 0, 1] rfl rfl rfl (by decide) (by decide) rfl rfl (Nat.le_of_ble_eq_true rfl) ⟨Nat.le_of_ble_eq_true rfl, Nat.le_of_ble_eq_true rfl⟩ (dOk_at dX6_isDeedKnown 12 rfl) (fun H locs hh => ?_)
      have hv := hv.2.2
      refine lv_ifnull (pc := 26) hx hb (dOk_at dX6_isDeedKnown 13 rfl) ?_
      refine lv_iconst (pc := 29) (v := 1) hx hb (dOk_at dX6_isDeedKnown 14 rfl) (by decide) ?_
      refine lv_goto (pc := 30) (tgt := 34) hx hb (dOk_at dX6_isDeedKnown 15 rfl) (by decide) ?_
      have e0 := hv
      subst e0
      rw [hQ]
      exact r_zret (pc := 34) fx hh rfl (dOk_at dX6_isDeedKnown 17 rfl)
set_option maxRecDepth 100000 in
set_option maxHeartbeats 4000000 in
theorem wk_X6_isDeedKnown_n (l : Launch) (G : GT) (b0 : Nat) (bs : Nat) (c0 : Nat) (i0 : Nat) (x0 : Nat) (d0 : Nat) (r0 : Nat) (j0 : Nat) (e0 : Nat) (c1 : Nat) (c2 : Nat) (i1 : Nat) (lf : Int32) (tr : Int32) (cnt : Int32) (hi : Int32) (wi : Int32) (fr : Int32) (fc : Int32) (lc : Int32) (sh : Nat → Option Nat) (a : Int32) (b : Int32) (ce : Int32) (sheet : Int32) (R : Int32) (h_X2_has : K_X2_has l G) (h_X6_isPair : K_X6_isPair l G) (h_X6_sheetAt : K_X6_sheetAt l G)
    (hv : ((x_pair cnt a b) = 0 → (0 : Int32) = R) ∧ (¬ (x_pair cnt a b) = 0 → ((s_ce hi wi ce) = 0 → (0 : Int32) = R) ∧ (¬ (s_ce hi wi ce) = 0 → s_shAt sh sheet = none ∧ (s_in sheet 0 3 = 0 ∨ vp_in sheet 4) ∧ (0 : Int32) = R))) :
    MF l G yX6_isDeedKnown cX6_isDeedKnown 5 (some .boolean) rm_X6_isDeedKnown [.ref b0, .int a, .int b, .int ce, .int sheet] [(b0, .inr (6, [.ref bs, .ref x0, .ref d0, .ref r0, .ref i0, .ref c0, .ref j0, .ref e0, .int lf, .int tr])), (bs, .inl (G.2.2.2, 4, .inr (.inr (.inr (.inr sh))))), (c0, .inr (0, [.ref c1, .ref c2, .int cnt])), (i0, .inr (2, [.ref i1, .int hi, .int wi, .int fr, .int fc, .int lc]))] (some (.int R)) [(b0, .inr (6, [.ref bs, .ref x0, .ref d0, .ref r0, .ref i0, .ref c0, .ref j0, .ref e0, .int lf, .int tr])), (bs, .inl (G.2.2.2, 4, .inr (.inr (.inr (.inr sh))))), (c0, .inr (0, [.ref c1, .ref c2, .int cnt])), (i0, .inr (2, [.ref i1, .int hi, .int wi, .int fr, .int fc, .int lc]))] := by
  refine MF.of (by decide +kernel) (Nat.le_of_ble_eq_true rfl) ?_
  intro p e s m args below meth c A ls fx hh hl _
  have hx := fx.hx
  have hb := fx.hb
  have hl : lv_has ls 5 [(0, .ref b0), (1, .int a), (2, .int b), (3, .int ce), (4, .int sheet)] := hl
  obtain ⟨Q, hQ⟩ : ∃ Q, Q = ZZ G A (some (.int R)) [(b0, .inr (6, [.ref bs, .ref x0, .ref d0, .ref r0, .ref i0, .ref c0, .ref j0, .ref e0, .int lf, .int tr])), (bs, .inl (G.2.2.2, 4, .inr (.inr (.inr (.inr sh))))), (c0, .inr (0, [.ref c1, .ref c2, .int cnt])), (i0, .inr (2, [.ref i1, .int hi, .int wi, .int fr, .int fc, .int lc]))] below args s := ⟨_, rfl⟩
  rw [← hQ]
  refine lv_aload_n (pc := 0) hx hb (dOk_at dX6_isDeedKnown 0 rfl) rfl (lv_at hl 0 rfl) ?_
  refine lv_iload_n (pc := 1) hx hb (dOk_at dX6_isDeedKnown 1 rfl) rfl (lv_at hl 1 rfl) ?_
  refine lv_iload_n (pc := 2) hx hb (dOk_at dX6_isDeedKnown 2 rfl) rfl (lv_at hl 2 rfl) ?_
  refine cl_V (pc := 3) (w' := [(b0, .inr (6, [.ref bs, .ref x0, .ref d0, .ref r0, .ref i0, .ref c0, .ref j0, .ref e0, .int lf, .int tr])), (bs, .inl (G.2.2.2, 4, .inr (.inr (.inr (.inr sh))))), (c0, .inr (0, [.ref c1, .ref c2, .int cnt])), (i0, .inr (2, [.ref i1, .int hi, .int wi, .int fr, .int fc, .int lc]))]) (wr := [(bs, .inl (G.2.2.2, 4, .inr (.inr (.inr (.inr sh))))), (i0, .inr (2, [.ref i1, .int hi, .int wi, .int fr, .int fc, .int lc]))]) (rest := []) fx hh hl.1 (h_X6_isPair b0 c0 bs x0 d0 r0 i0 j0 e0 c1 c2 lf tr cnt a b) yV_X6_isPair tMX6_257 ⟨rfl, rfl, Nat.le_of_ble_eq_true rfl, Nat.le_of_ble_eq_true rfl⟩ 0 6 rfl rfl rfl [0, 2] [1, 3] [2, 0, 3, 1] rfl rfl rfl (by decide) (by decide) rfl rfl (Nat.le_of_ble_eq_true rfl) ⟨Nat.le_of_ble_eq_true rfl, Nat.le_of_ble_eq_true rfl⟩ (dOk_at dX6_isDeedKnown 3 rfl) (fun H locs hh => ?_)
  refine lv_if_eq (pc := 6) (tgt := 33) hx hb (dOk_at dX6_isDeedKnown 4 rfl) (by decide) (fun c6 => ?_) (fun c6 => ?_)
  · have hv := hv.1 c6
    refine lv_iconst (pc := 33) (v := 0) hx hb (dOk_at dX6_isDeedKnown 16 rfl) (by decide) ?_
    have e0 := hv
    subst e0
    rw [hQ]
    exact r_zret (pc := 34) fx hh rfl (dOk_at dX6_isDeedKnown 17 rfl)
  · have hv := hv.2 c6
    refine lv_aload_n (pc := 9) hx hb (dOk_at dX6_isDeedKnown 5 rfl) rfl (lv_at hl 0 rfl) ?_
    refine r_get (pc := 10) (ci := 6) fx hh inT6 rfl 4 (by decide) tFX6_41 rfl 0 rfl rfl (dOk_at dX6_isDeedKnown 6 rfl) ?_
    refine lv_iload_n (pc := 13) hx hb (dOk_at dX6_isDeedKnown 7 rfl) rfl (lv_at hl 3 rfl) ?_
    refine cl_VN (pc := 14) (w' := [(b0, .inr (6, [.ref bs, .ref x0, .ref d0, .ref r0, .ref i0, .ref c0, .ref j0, .ref e0, .int lf, .int tr])), (bs, .inl (G.2.2.2, 4, .inr (.inr (.inr (.inr sh))))), (c0, .inr (0, [.ref c1, .ref c2, .int cnt])), (i0, .inr (2, [.ref i1, .int hi, .int wi, .int fr, .int fc, .int lc]))]) (wr := [(b0, .inr (6, [.ref bs, .ref x0, .ref d0, .ref r0, .ref i0, .ref c0, .ref j0, .ref e0, .int lf, .int tr])), (bs, .inl (G.2.2.2, 4, .inr (.inr (.inr (.inr sh))))), (c0, .inr (0, [.ref c1, .ref c2, .int cnt]))]) (rest := []) fx hh hl.1 (h_X2_has i0 i1 hi wi fr fc lc ce) yV_X2_has nMX6_92 ⟨rfl, rfl, Nat.le_of_ble_eq_true rfl, Nat.le_of_ble_eq_true rfl⟩ 3 2 rfl rfl rfl [3] [0, 1, 2] [0, 1, 2, 3] rfl rfl rfl (by decide) (by decide) rfl rfl (Nat.le_of_ble_eq_true rfl) ⟨Nat.le_of_ble_eq_true rfl, Nat.le_of_ble_eq_true rfl⟩ (dOk_at dX6_isDeedKnown 8 rfl) (fun H locs hh => ?_)
    refine lv_if_eq (pc := 17) (tgt := 33) hx hb (dOk_at dX6_isDeedKnown 9 rfl) (by decide) (fun c17 => ?_) (fun c17 => ?_)
    · have hv := hv.1 c17
      refine lv_iconst (pc := 33) (v := 0) hx hb (dOk_at dX6_isDeedKnown 16 rfl) (by decide) ?_
      have e0 := hv
      subst e0
      rw [hQ]
      exact r_zret (pc := 34) fx hh rfl (dOk_at dX6_isDeedKnown 17 rfl)
    · have hv := hv.2 c17
      refine lv_aload_n (pc := 20) hx hb (dOk_at dX6_isDeedKnown 10 rfl) rfl (lv_at hl 0 rfl) ?_
      refine lv_iload (pc := 21) hx hb (dOk_at dX6_isDeedKnown 11 rfl) (lv_at hl 4 rfl) ?_
      refine cl_V (pc := 23) (w' := [(b0, .inr (6, [.ref bs, .ref x0, .ref d0, .ref r0, .ref i0, .ref c0, .ref j0, .ref e0, .int lf, .int tr])), (bs, .inl (G.2.2.2, 4, .inr (.inr (.inr (.inr sh))))), (c0, .inr (0, [.ref c1, .ref c2, .int cnt])), (i0, .inr (2, [.ref i1, .int hi, .int wi, .int fr, .int fc, .int lc]))]) (wr := [(c0, .inr (0, [.ref c1, .ref c2, .int cnt])), (i0, .inr (2, [.ref i1, .int hi, .int wi, .int fr, .int fc, .int lc]))]) (rest := []) fx hh hl.1 (h_X6_sheetAt b0 bs x0 d0 r0 i0 c0 j0 e0 lf tr sh sheet none hv.1 hv.2.1) yV_X6_sheetAt tMX6_182 ⟨rfl, rfl, Nat.le_of_ble_eq_true rfl, Nat.le_of_ble_eq_true rfl⟩ 0 6 rfl rfl rfl [0, 1] [2, 3] [2, 3, 0, 1] rfl rfl rfl (by decide) (by decide) rfl rfl (Nat.le_of_ble_eq_true rfl) ⟨Nat.le_of_ble_eq_true rfl, Nat.le_of_ble_eq_true rfl⟩ (dOk_at dX6_isDeedKnown 12 rfl) (fun H locs hh => ?_)
      have hv := hv.2.2
      refine lv_ifnullN (pc := 26) (tgt := 33) hx hb (dOk_at dX6_isDeedKnown 13 rfl) (by decide) ?_
      refine lv_iconst (pc := 33) (v := 0) hx hb (dOk_at dX6_isDeedKnown 16 rfl) (by decide) ?_
      have e0 := hv
      subst e0
      rw [hQ]
      exact r_zret (pc := 34) fx hh rfl (dOk_at dX6_isDeedKnown 17 rfl)
set_option maxRecDepth 100000 in
set_option maxHeartbeats 4000000 in
theorem wk_X6_tryDeed (l : Launch) (G : GT) (b0 : Nat) (bs : Nat) (s0 : Nat) (s1 : Nat) (d0 : Nat) (d1 : Nat) (i0 : Nat) (i1 : Nat) (c0 : Nat) (c1 : Nat) (c2 : Nat) (x0 : Nat) (r0 : Nat) (j0 : Nat) (e0 : Nat) (lf : Int32) (tr : Int32) (sla : Int32) (sle : Int32) (dat : Int32) (dcut : Int32) (dfw : Int32) (hi : Int32) (wi : Int32) (fr : Int32) (fc : Int32) (lc : Int32) (cnt : Int32) (sn : Nat → Int32) (dstr : Nat → Int32) (str : Nat → Int32) (ck : Nat → Int32) (cwt : Nat → Int32) (sh : Nat → Option Nat) (a : Int32) (b : Int32) (ce : Int32) (sheet : Int32) (lane : Int32) (i : Int32) (n : Int32) (R : Int32) (t4_1 : Int32) (t4_2 : Int32) (t4_3 : Int32) (t5 : Nat → Int32) (J65 : Nat → Int32 → Prop) (J115 : Nat → Int32 → Int32 → Int32 → Int32 → (Nat → Int32) → Prop) (h_X0_load : K_X0_load l G) (h_X1_begin : K_X1_begin l G) (h_X1_stroke : K_X1_stroke l G) (h_X6_isDeedKnown : K_X6_isDeedKnown l G) (h_X6_isWithin : K_X6_isWithin l G) (h_X6_refusalOfPart : K_X6_refusalOfPart l G) (h_X6_sheetAt : K_X6_sheetAt l G)
    (hv : s_shAt sh sheet = (some s0) ∧ (s_in sheet 0 3 = 0 ∨ vp_in sheet 4) ∧ (s_shAt sh sheet = some s0 ∧ (s_in sheet 0 3 = 0 ∨ vp_in sheet 4) ∧ ((¬ (x_dKn hi wi cnt a b ce) = 0 → (¬ (s_in n 0 40) = 0 → ((x_rp sla sle lane i n) = 0 → ∃ k4 : Nat, J65 k4 0) ∧ (¬ (x_rp sla sle lane i n) = 0 → (x_rp sla sle lane i n) = R ∧ dat = t4_1 ∧ dcut = t4_2 ∧ dfw = t4_3 ∧ dstr = t5)) ∧ ((s_in n 0 40) = 0 → (-2 : Int32) = R ∧ dat = t4_1 ∧ dcut = t4_2 ∧ dfw = t4_3 ∧ dstr = t5)) ∧ ((x_dKn hi wi cnt a b ce) = 0 → (-1 : Int32) = R ∧ dat = t4_1 ∧ dcut = t4_2 ∧ dfw = t4_3 ∧ dstr = t5))))
    (hv65 : ∀ (n65 : Nat) (x65_10 : Int32), J65 n65 x65_10 → (n ≤ x65_10 → ∃ k2 : Nat, J115 k2 0 ce 0 (-9) (s_cp20 str dstr)) ∧ (¬ n ≤ x65_10 → vp_in (i + x65_10) 60 ∧ ((¬ (s_in (sn (i + x65_10).toNatClampNeg) 0 3) = 0 → ∃ k3 : Nat, k3 < n65 ∧ J65 k3 (x65_10 + 1)) ∧ ((s_in (sn (i + x65_10).toNatClampNeg) 0 3) = 0 → (-2 : Int32) = R ∧ dat = t4_1 ∧ dcut = t4_2 ∧ dfw = t4_3 ∧ dstr = t5))))
    (hv115 : ∀ (n115 : Nat) (x115_10 : Int32) (y115_4_1 : Int32) (y115_4_2 : Int32) (y115_4_3 : Int32) (y115_5 : Nat → Int32), J115 n115 x115_10 y115_4_1 y115_4_2 y115_4_3 y115_5 → (n ≤ x115_10 → (0 : Int32) = R ∧ y115_4_1 = t4_1 ∧ y115_4_2 = t4_2 ∧ y115_4_3 = t4_3 ∧ y115_5 = t5) ∧ (¬ n ≤ x115_10 → (¬ y115_4_3 = (-9) → (0 : Int32) = R ∧ y115_4_1 = t4_1 ∧ y115_4_2 = t4_2 ∧ y115_4_3 = t4_3 ∧ y115_5 = t5) ∧ (y115_4_3 = (-9) → vp_in (i + x115_10) 60 ∧ ((∀ (v171 : Int32), v171 = (if (x115_10 - x115_10 / 2 * 2) = 0 then a else b) → vp_in v171 4 ∧ ((s_led hi wi fc lc y115_4_1 (sn (i + x115_10).toNatClampNeg) = -9 ∨ vp_in (s_led hi wi fc lc y115_4_1 (sn (i + x115_10).toNatClampNeg)) 20) ∧ (∃ k1 : Nat, k1 < n115 ∧ J115 k1 (x115_10 + 1) (s_stAt (s_led hi wi fc lc y115_4_1 (sn (i + x115_10).toNatClampNeg)) (s_load ck cwt v171) y115_5 y115_4_1) (s_stCut (s_led hi wi fc lc y115_4_1 (sn (i + x115_10).toNatClampNeg)) (s_load ck cwt v171) y115_5 y115_4_2) (s_stFw (s_led hi wi fc lc y115_4_1 (sn (i + x115_10).toNatClampNeg)) (s_load ck cwt v171) y115_5 y115_4_3 x115_10) (s_stStr (s_led hi wi fc lc y115_4_1 (sn (i + x115_10).toNatClampNeg)) (s_load ck cwt v171) y115_5)))))))) :
    MF l G yX6_tryDeed cX6_tryDeed 11 (some .int) rm_X6_tryDeed [.ref b0, .int a, .int b, .int ce, .int sheet, .int lane, .int i, .int n] [(b0, .inr (6, [.ref bs, .ref x0, .ref d0, .ref r0, .ref i0, .ref c0, .ref j0, .ref e0, .int lf, .int tr])), (bs, .inl (G.2.2.2, 4, .inr (.inr (.inr (.inr sh))))), (s0, .inr (4, [.ref s1, .int sla, .int sle])), (s1, .inl (G.2.1, 60, .inl sn)), (d0, .inr (1, [.ref d1, .int dat, .int dcut, .int dfw])), (d1, .inl (G.2.1, 20, .inl dstr)), (i0, .inr (2, [.ref i1, .int hi, .int wi, .int fr, .int fc, .int lc])), (i1, .inl (G.2.1, 20, .inl str)), (c0, .inr (0, [.ref c1, .ref c2, .int cnt])), (c1, .inl (G.2.1, 4, .inl ck)), (c2, .inl (G.2.1, 4, .inl cwt))] (some (.int R)) [(b0, .inr (6, [.ref bs, .ref x0, .ref d0, .ref r0, .ref i0, .ref c0, .ref j0, .ref e0, .int lf, .int tr])), (bs, .inl (G.2.2.2, 4, .inr (.inr (.inr (.inr sh))))), (s0, .inr (4, [.ref s1, .int sla, .int sle])), (s1, .inl (G.2.1, 60, .inl sn)), (d0, .inr (1, [.ref d1, .int t4_1, .int t4_2, .int t4_3])), (d1, .inl (G.2.1, 20, .inl t5)), (i0, .inr (2, [.ref i1, .int hi, .int wi, .int fr, .int fc, .int lc])), (i1, .inl (G.2.1, 20, .inl str)), (c0, .inr (0, [.ref c1, .ref c2, .int cnt])), (c1, .inl (G.2.1, 4, .inl ck)), (c2, .inl (G.2.1, 4, .inl cwt))] := by
  refine MF.of (by decide +kernel) (Nat.le_of_ble_eq_true rfl) ?_
  intro p e s m args below meth c A ls fx hh hl _
  have hx := fx.hx
  have hb := fx.hb
  have hl : lv_has ls 11 [(0, .ref b0), (1, .int a), (2, .int b), (3, .int ce), (4, .int sheet), (5, .int lane), (6, .int i), (7, .int n)] := hl
  obtain ⟨Q, hQ⟩ : ∃ Q, Q = ZZ G A (some (.int R)) [(b0, .inr (6, [.ref bs, .ref x0, .ref d0, .ref r0, .ref i0, .ref c0, .ref j0, .ref e0, .int lf, .int tr])), (bs, .inl (G.2.2.2, 4, .inr (.inr (.inr (.inr sh))))), (s0, .inr (4, [.ref s1, .int sla, .int sle])), (s1, .inl (G.2.1, 60, .inl sn)), (d0, .inr (1, [.ref d1, .int t4_1, .int t4_2, .int t4_3])), (d1, .inl (G.2.1, 20, .inl t5)), (i0, .inr (2, [.ref i1, .int hi, .int wi, .int fr, .int fc, .int lc])), (i1, .inl (G.2.1, 20, .inl str)), (c0, .inr (0, [.ref c1, .ref c2, .int cnt])), (c1, .inl (G.2.1, 4, .inl ck)), (c2, .inl (G.2.1, 4, .inl cwt))] below args s := ⟨_, rfl⟩
  rw [← hQ]
  have lp115 : ∀ (n115 : Nat) (x115_10 : Int32) (y115_4_1 : Int32) (y115_4_2 : Int32) (y115_4_3 : Int32) (y115_5 : Nat → Int32), J115 n115 x115_10 y115_4_1 y115_4_2 y115_4_3 y115_5 → ∀ (H : Heap) (locs : List Loc) (ls : Array Slot), HP G A [(b0, .inr (6, [.ref bs, .ref x0, .ref d0, .ref r0, .ref i0, .ref c0, .ref j0, .ref e0, .int lf, .int tr])), (bs, .inl (G.2.2.2, 4, .inr (.inr (.inr (.inr sh))))), (s0, .inr (4, [.ref s1, .int sla, .int sle])), (s1, .inl (G.2.1, 60, .inl sn)), (d0, .inr (1, [.ref d1, .int y115_4_1, .int y115_4_2, .int y115_4_3])), (d1, .inl (G.2.1, 20, .inl y115_5)), (i0, .inr (2, [.ref i1, .int hi, .int wi, .int fr, .int fc, .int lc])), (i1, .inl (G.2.1, 20, .inl str)), (c0, .inr (0, [.ref c1, .ref c2, .int cnt])), (c1, .inl (G.2.1, 4, .inl ck)), (c2, .inl (G.2.1, 4, .inl cwt))] s H locs → lv_has ls 11 [(0, .ref b0), (1, .int a), (2, .int b), (6, .int i), (7, .int n), (8, .ref s0), (10, .int x115_10)] → W p l e rm_X6_tryDeed s m args below meth c H locs 0 0 Q (F0 m 115 ls []) := by
    intro n115
    induction n115 using Nat.strongRecOn with
    | ind n115 ih115 =>
      intro x115_10 y115_4_1 y115_4_2 y115_4_3 y115_5 hj115 H locs ls hh hl
      have hv := hv115 n115 x115_10 y115_4_1 y115_4_2 y115_4_3 y115_5 hj115
      refine lv_iload (pc := 115) hx hb (dOk_at dX6_tryDeed 59 rfl) (lv_at hl 6 rfl) ?_
      refine lv_iload (pc := 117) hx hb (dOk_at dX6_tryDeed 60 rfl) (lv_at hl 4 rfl) ?_
      refine lv_icmp_ge (pc := 119) (tgt := 183) hx hb (dOk_at dX6_tryDeed 61 rfl) (by decide) (fun c119 => ?_) (fun c119 => ?_)
      · have hv := hv.1 c119
        refine lv_iconst (pc := 183) (v := 0) hx hb (dOk_at dX6_tryDeed 91 rfl) (by decide) ?_
        obtain ⟨e0, e1, e2, e3, e4⟩ := hv
        subst e0
        subst e1
        subst e2
        subst e3
        subst e4
        rw [hQ]
        exact r_iret (pc := 184) fx hh (dOk_at dX6_tryDeed 92 rfl)
      · have hv := hv.2 c119
        refine lv_aload_n (pc := 122) hx hb (dOk_at dX6_tryDeed 62 rfl) rfl (lv_at hl 0 rfl) ?_
        refine r_get (pc := 123) (ci := 6) fx hh inT6 rfl 2 (by decide) tFX6_27 rfl 0 rfl rfl (dOk_at dX6_tryDeed 63 rfl) ?_
        refine r_getN (pc := 126) (ci := 1) fx hh inT1 rfl 3 (by decide) nFX6_117 rfl 4 rfl rfl (dOk_at dX6_tryDeed 64 rfl) ?_
        refine lv_bipush (pc := 129) (v := (-9)) hx hb (dOk_at dX6_tryDeed 65 rfl) (by decide) ?_
        refine lv_icmp_ne (pc := 131) (tgt := 183) hx hb (dOk_at dX6_tryDeed 66 rfl) (by decide) (fun c131 => ?_) (fun c131 => ?_)
        · have hv := hv.1 c131
          refine lv_iconst (pc := 183) (v := 0) hx hb (dOk_at dX6_tryDeed 91 rfl) (by decide) ?_
          obtain ⟨e0, e1, e2, e3, e4⟩ := hv
          subst e0
          subst e1
          subst e2
          subst e3
          subst e4
          rw [hQ]
          exact r_iret (pc := 184) fx hh (dOk_at dX6_tryDeed 92 rfl)
        · have hv := hv.2 c131
          refine lv_aload_n (pc := 134) hx hb (dOk_at dX6_tryDeed 67 rfl) rfl (lv_at hl 0 rfl) ?_
          refine r_get (pc := 135) (ci := 6) fx hh inT6 rfl 2 (by decide) tFX6_27 rfl 0 rfl rfl (dOk_at dX6_tryDeed 68 rfl) ?_
          refine lv_aload_n (pc := 138) hx hb (dOk_at dX6_tryDeed 69 rfl) rfl (lv_at hl 0 rfl) ?_
          refine r_get (pc := 139) (ci := 6) fx hh inT6 rfl 4 (by decide) tFX6_41 rfl 0 rfl rfl (dOk_at dX6_tryDeed 70 rfl) ?_
          refine lv_iload (pc := 142) hx hb (dOk_at dX6_tryDeed 71 rfl) (lv_at hl 6 rfl) ?_
          refine lv_aload (pc := 144) hx hb (dOk_at dX6_tryDeed 72 rfl) (lv_at hl 5 rfl) ?_
          refine r_getN (pc := 146) (ci := 4) fx hh inT4 rfl 0 (by decide) nFX6_200 rfl 2 rfl rfl (dOk_at dX6_tryDeed 73 rfl) ?_
          refine lv_iload (pc := 149) hx hb (dOk_at dX6_tryDeed 74 rfl) (lv_at hl 3 rfl) ?_
          refine lv_iload (pc := 151) hx hb (dOk_at dX6_tryDeed 75 rfl) (lv_at hl 6 rfl) ?_
          refine lv_iadd (pc := 153) hx hb (dOk_at dX6_tryDeed 76 rfl) ?_
          refine r_iald (pc := 154) fx hh 3 rfl hv.1 (dOk_at dX6_tryDeed 77 rfl) ?_
          have hv := hv.2
          refine lv_aload_n (pc := 155) hx hb (dOk_at dX6_tryDeed 78 rfl) rfl (lv_at hl 0 rfl) ?_
          refine r_get (pc := 156) (ci := 6) fx hh inT6 rfl 5 (by decide) tFX6_48 rfl 0 rfl rfl (dOk_at dX6_tryDeed 79 rfl) ?_
          refine lv_iload (pc := 159) hx hb (dOk_at dX6_tryDeed 80 rfl) (lv_at hl 6 rfl) ?_
          refine lv_iconst (pc := 161) (v := 2) hx hb (dOk_at dX6_tryDeed 81 rfl) (by decide) ?_
          refine lv_irem (pc := 162) hx hb (dOk_at dX6_tryDeed 82 rfl) (by decide) ?_
          have k171_163 : ∀ (v171 : Int32), v171 = (if (x115_10 - x115_10 / 2 * 2) = 0 then a else b) → ∀ (H : Heap) (locs : List Loc) (ls : Array Slot), HP G A [(b0, .inr (6, [.ref bs, .ref x0, .ref d0, .ref r0, .ref i0, .ref c0, .ref j0, .ref e0, .int lf, .int tr])), (bs, .inl (G.2.2.2, 4, .inr (.inr (.inr (.inr sh))))), (s0, .inr (4, [.ref s1, .int sla, .int sle])), (s1, .inl (G.2.1, 60, .inl sn)), (d0, .inr (1, [.ref d1, .int y115_4_1, .int y115_4_2, .int y115_4_3])), (d1, .inl (G.2.1, 20, .inl y115_5)), (i0, .inr (2, [.ref i1, .int hi, .int wi, .int fr, .int fc, .int lc])), (i1, .inl (G.2.1, 20, .inl str)), (c0, .inr (0, [.ref c1, .ref c2, .int cnt])), (c1, .inl (G.2.1, 4, .inl ck)), (c2, .inl (G.2.1, 4, .inl cwt))] s H locs → lv_has ls 11 [(0, .ref b0), (1, .int a), (2, .int b), (6, .int i), (7, .int n), (8, .ref s0), (10, .int x115_10)] → W p l e rm_X6_tryDeed s m args below meth c H locs 0 0 Q (F0 m 171 ls [.int v171, .ref c0, .int (sn (i + x115_10).toNatClampNeg), .int x115_10, .ref i0, .ref d0]) := by
            intro v171 e171_0 H locs ls hh hl
            have hv := hv v171 e171_0
            refine cl_VN (pc := 171) (w' := [(b0, .inr (6, [.ref bs, .ref x0, .ref d0, .ref r0, .ref i0, .ref c0, .ref j0, .ref e0, .int lf, .int tr])), (bs, .inl (G.2.2.2, 4, .inr (.inr (.inr (.inr sh))))), (s0, .inr (4, [.ref s1, .int sla, .int sle])), (s1, .inl (G.2.1, 60, .inl sn)), (d0, .inr (1, [.ref d1, .int y115_4_1, .int y115_4_2, .int y115_4_3])), (d1, .inl (G.2.1, 20, .inl y115_5)), (i0, .inr (2, [.ref i1, .int hi, .int wi, .int fr, .int fc, .int lc])), (i1, .inl (G.2.1, 20, .inl str)), (c0, .inr (0, [.ref c1, .ref c2, .int cnt])), (c1, .inl (G.2.1, 4, .inl ck)), (c2, .inl (G.2.1, 4, .inl cwt))]) (wr := [(b0, .inr (6, [.ref bs, .ref x0, .ref d0, .ref r0, .ref i0, .ref c0, .ref j0, .ref e0, .int lf, .int tr])), (bs, .inl (G.2.2.2, 4, .inr (.inr (.inr (.inr sh))))), (s0, .inr (4, [.ref s1, .int sla, .int sle])), (s1, .inl (G.2.1, 60, .inl sn)), (d0, .inr (1, [.ref d1, .int y115_4_1, .int y115_4_2, .int y115_4_3])), (d1, .inl (G.2.1, 20, .inl y115_5)), (i0, .inr (2, [.ref i1, .int hi, .int wi, .int fr, .int fc, .int lc])), (i1, .inl (G.2.1, 20, .inl str))]) (rest := [.int (sn (i + x115_10).toNatClampNeg), .int x115_10, .ref i0, .ref d0]) fx hh hl.1 (h_X0_load c0 c1 c2 cnt v171 ck cwt hv.1) yV_X0_load nMX6_85 ⟨rfl, rfl, Nat.le_of_ble_eq_true rfl, Nat.le_of_ble_eq_true rfl⟩ 8 0 rfl rfl rfl [8, 9, 10] [0, 1, 2, 3, 4, 5, 6, 7] [0, 1, 2, 3, 4, 5, 6, 7, 8, 9, 10] rfl rfl rfl (by decide) (by decide) rfl rfl (Nat.le_of_ble_eq_true rfl) ⟨Nat.le_of_ble_eq_true rfl, Nat.le_of_ble_eq_true rfl⟩ (dOk_at dX6_tryDeed 87 rfl) (fun H locs hh => ?_)
            have hv := hv.2
            refine cl_VN (pc := 174) (w' := [(b0, .inr (6, [.ref bs, .ref x0, .ref d0, .ref r0, .ref i0, .ref c0, .ref j0, .ref e0, .int lf, .int tr])), (bs, .inl (G.2.2.2, 4, .inr (.inr (.inr (.inr sh))))), (s0, .inr (4, [.ref s1, .int sla, .int sle])), (s1, .inl (G.2.1, 60, .inl sn)), (d0, .inr (1, [.ref d1, .int (s_stAt (s_led hi wi fc lc y115_4_1 (sn (i + x115_10).toNatClampNeg)) (s_load ck cwt v171) y115_5 y115_4_1), .int (s_stCut (s_led hi wi fc lc y115_4_1 (sn (i + x115_10).toNatClampNeg)) (s_load ck cwt v171) y115_5 y115_4_2), .int (s_stFw (s_led hi wi fc lc y115_4_1 (sn (i + x115_10).toNatClampNeg)) (s_load ck cwt v171) y115_5 y115_4_3 x115_10)])), (d1, .inl (G.2.1, 20, .inl (s_stStr (s_led hi wi fc lc y115_4_1 (sn (i + x115_10).toNatClampNeg)) (s_load ck cwt v171) y115_5))), (i0, .inr (2, [.ref i1, .int hi, .int wi, .int fr, .int fc, .int lc])), (i1, .inl (G.2.1, 20, .inl str)), (c0, .inr (0, [.ref c1, .ref c2, .int cnt])), (c1, .inl (G.2.1, 4, .inl ck)), (c2, .inl (G.2.1, 4, .inl cwt))]) (wr := [(b0, .inr (6, [.ref bs, .ref x0, .ref d0, .ref r0, .ref i0, .ref c0, .ref j0, .ref e0, .int lf, .int tr])), (bs, .inl (G.2.2.2, 4, .inr (.inr (.inr (.inr sh))))), (s0, .inr (4, [.ref s1, .int sla, .int sle])), (s1, .inl (G.2.1, 60, .inl sn)), (i1, .inl (G.2.1, 20, .inl str)), (c0, .inr (0, [.ref c1, .ref c2, .int cnt])), (c1, .inl (G.2.1, 4, .inl ck)), (c2, .inl (G.2.1, 4, .inl cwt))]) (rest := []) fx hh hl.1 (h_X1_stroke d0 d1 i0 i1 y115_4_1 y115_4_2 y115_4_3 hi wi fr fc lc x115_10 (sn (i + x115_10).toNatClampNeg) (s_load ck cwt v171) y115_5 hv.1) yV_X1_stroke nMX6_263 ⟨rfl, rfl, Nat.le_of_ble_eq_true rfl, Nat.le_of_ble_eq_true rfl⟩ 4 1 rfl rfl rfl [4, 5, 6] [0, 1, 2, 3, 7, 8, 9, 10] [0, 1, 2, 3, 8, 9, 10, 4, 5, 6, 7] rfl rfl rfl (by decide) (by decide) rfl rfl (Nat.le_of_ble_eq_true rfl) ⟨Nat.le_of_ble_eq_true rfl, Nat.le_of_ble_eq_true rfl⟩ (dOk_at dX6_tryDeed 88 rfl) (fun H locs hh => ?_)
            have hv := hv.2
            refine lv_iinc (pc := 177) (v := x115_10 + 1) (lv' := [(10, .int (x115_10 + 1)), (0, .ref b0), (1, .int a), (2, .int b), (6, .int i), (7, .int n), (8, .ref s0)]) hx hb (dOk_at dX6_tryDeed 89 rfl) hl (k := 6) rfl rfl (by decide) rfl (fun ls hl => ?_)
            refine lv_goto (pc := 180) (tgt := 115) hx hb (dOk_at dX6_tryDeed 90 rfl) (by decide) ?_
            obtain ⟨k0, hk0, hj0⟩ := hv
            exact ih115 k0 hk0 (x115_10 + 1) (s_stAt (s_led hi wi fc lc y115_4_1 (sn (i + x115_10).toNatClampNeg)) (s_load ck cwt v171) y115_5 y115_4_1) (s_stCut (s_led hi wi fc lc y115_4_1 (sn (i + x115_10).toNatClampNeg)) (s_load ck cwt v171) y115_5 y115_4_2) (s_stFw (s_led hi wi fc lc y115_4_1 (sn (i + x115_10).toNatClampNeg)) (s_load ck cwt v171) y115_5 y115_4_3 x115_10) (s_stStr (s_led hi wi fc lc y115_4_1 (sn (i + x115_10).toNatClampNeg)) (s_load ck cwt v171) y115_5) hj0 _ _ _ hh (lv_sub hl [1, 2, 3, 4, 5, 6, 0] rfl)
          refine lv_if_ne (pc := 163) (tgt := 170) hx hb (dOk_at dX6_tryDeed 83 rfl) (by decide) (fun c163 => ?_) (fun c163 => ?_)
          · refine lv_iload_n (pc := 170) hx hb (dOk_at dX6_tryDeed 86 rfl) rfl (lv_at hl 2 rfl) ?_
            exact k171_163 _ (if_neg c163).symm _ _ _ hh (lv_sub hl [0, 1, 2, 3, 4, 5, 6] rfl)
          · refine lv_iload_n (pc := 166) hx hb (dOk_at dX6_tryDeed 84 rfl) rfl (lv_at hl 1 rfl) ?_
            refine lv_goto (pc := 167) (tgt := 171) hx hb (dOk_at dX6_tryDeed 85 rfl) (by decide) ?_
            exact k171_163 _ (if_pos c163).symm _ _ _ hh (lv_sub hl [0, 1, 2, 3, 4, 5, 6] rfl)
  have lp65 : ∀ (n65 : Nat) (x65_10 : Int32), J65 n65 x65_10 → ∀ (H : Heap) (locs : List Loc) (ls : Array Slot), HP G A [(b0, .inr (6, [.ref bs, .ref x0, .ref d0, .ref r0, .ref i0, .ref c0, .ref j0, .ref e0, .int lf, .int tr])), (bs, .inl (G.2.2.2, 4, .inr (.inr (.inr (.inr sh))))), (s0, .inr (4, [.ref s1, .int sla, .int sle])), (s1, .inl (G.2.1, 60, .inl sn)), (d0, .inr (1, [.ref d1, .int dat, .int dcut, .int dfw])), (d1, .inl (G.2.1, 20, .inl dstr)), (i0, .inr (2, [.ref i1, .int hi, .int wi, .int fr, .int fc, .int lc])), (i1, .inl (G.2.1, 20, .inl str)), (c0, .inr (0, [.ref c1, .ref c2, .int cnt])), (c1, .inl (G.2.1, 4, .inl ck)), (c2, .inl (G.2.1, 4, .inl cwt))] s H locs → lv_has ls 11 [(0, .ref b0), (1, .int a), (2, .int b), (3, .int ce), (6, .int i), (7, .int n), (8, .ref s0), (10, .int x65_10)] → W p l e rm_X6_tryDeed s m args below meth c H locs 0 0 Q (F0 m 65 ls []) := by
    intro n65
    induction n65 using Nat.strongRecOn with
    | ind n65 ih65 =>
      intro x65_10 hj65 H locs ls hh hl
      have hv := hv65 n65 x65_10 hj65
      refine lv_iload (pc := 65) hx hb (dOk_at dX6_tryDeed 34 rfl) (lv_at hl 7 rfl) ?_
      refine lv_iload (pc := 67) hx hb (dOk_at dX6_tryDeed 35 rfl) (lv_at hl 5 rfl) ?_
      refine lv_icmp_ge (pc := 69) (tgt := 100) hx hb (dOk_at dX6_tryDeed 36 rfl) (by decide) (fun c69 => ?_) (fun c69 => ?_)
      · have hv := hv.1 c69
        refine lv_aload_n (pc := 100) hx hb (dOk_at dX6_tryDeed 51 rfl) rfl (lv_at hl 0 rfl) ?_
        refine r_get (pc := 101) (ci := 6) fx hh inT6 rfl 2 (by decide) tFX6_27 rfl 0 rfl rfl (dOk_at dX6_tryDeed 52 rfl) ?_
        refine lv_aload_n (pc := 104) hx hb (dOk_at dX6_tryDeed 53 rfl) rfl (lv_at hl 0 rfl) ?_
        refine r_get (pc := 105) (ci := 6) fx hh inT6 rfl 4 (by decide) tFX6_41 rfl 0 rfl rfl (dOk_at dX6_tryDeed 54 rfl) ?_
        refine lv_iload_n (pc := 108) hx hb (dOk_at dX6_tryDeed 55 rfl) rfl (lv_at hl 3 rfl) ?_
        refine cl_VN (pc := 109) (w' := [(b0, .inr (6, [.ref bs, .ref x0, .ref d0, .ref r0, .ref i0, .ref c0, .ref j0, .ref e0, .int lf, .int tr])), (bs, .inl (G.2.2.2, 4, .inr (.inr (.inr (.inr sh))))), (s0, .inr (4, [.ref s1, .int sla, .int sle])), (s1, .inl (G.2.1, 60, .inl sn)), (d0, .inr (1, [.ref d1, .int ce, .int 0, .int (-9)])), (d1, .inl (G.2.1, 20, .inl (s_cp20 str dstr))), (i0, .inr (2, [.ref i1, .int hi, .int wi, .int fr, .int fc, .int lc])), (i1, .inl (G.2.1, 20, .inl str)), (c0, .inr (0, [.ref c1, .ref c2, .int cnt])), (c1, .inl (G.2.1, 4, .inl ck)), (c2, .inl (G.2.1, 4, .inl cwt))]) (wr := [(b0, .inr (6, [.ref bs, .ref x0, .ref d0, .ref r0, .ref i0, .ref c0, .ref j0, .ref e0, .int lf, .int tr])), (bs, .inl (G.2.2.2, 4, .inr (.inr (.inr (.inr sh))))), (s0, .inr (4, [.ref s1, .int sla, .int sle])), (s1, .inl (G.2.1, 60, .inl sn)), (c0, .inr (0, [.ref c1, .ref c2, .int cnt])), (c1, .inl (G.2.1, 4, .inl ck)), (c2, .inl (G.2.1, 4, .inl cwt))]) (rest := []) fx hh hl.1 (h_X1_begin d0 d1 i0 i1 dat dcut dfw hi wi fr fc lc ce dstr str) yV_X1_begin nMX6_260 ⟨rfl, rfl, Nat.le_of_ble_eq_true rfl, Nat.le_of_ble_eq_true rfl⟩ 4 1 rfl rfl rfl [4, 5, 6, 7] [0, 1, 2, 3, 8, 9, 10] [0, 1, 2, 3, 7, 8, 9, 10, 4, 5, 6] rfl rfl rfl (by decide) (by decide) rfl rfl (Nat.le_of_ble_eq_true rfl) ⟨Nat.le_of_ble_eq_true rfl, Nat.le_of_ble_eq_true rfl⟩ (dOk_at dX6_tryDeed 56 rfl) (fun H locs hh => ?_)
        refine lv_iconst (pc := 112) (v := 0) hx hb (dOk_at dX6_tryDeed 57 rfl) (by decide) ?_
        refine lv_istore (pc := 113) (lv' := [(10, .int 0), (0, .ref b0), (1, .int a), (2, .int b), (3, .int ce), (6, .int i), (7, .int n), (8, .ref s0)]) hx hb (dOk_at dX6_tryDeed 58 rfl) hl (by decide) rfl (fun ls hl => ?_)
        obtain ⟨k0, hj0⟩ := hv
        exact lp115 k0 0 ce 0 (-9) (s_cp20 str dstr) hj0 _ _ _ hh (lv_sub hl [1, 2, 3, 5, 6, 7, 0] rfl)
      · have hv := hv.2 c69
        refine lv_aload (pc := 72) hx hb (dOk_at dX6_tryDeed 37 rfl) (lv_at hl 6 rfl) ?_
        refine r_getN (pc := 74) (ci := 4) fx hh inT4 rfl 0 (by decide) nFX6_200 rfl 2 rfl rfl (dOk_at dX6_tryDeed 38 rfl) ?_
        refine lv_iload (pc := 77) hx hb (dOk_at dX6_tryDeed 39 rfl) (lv_at hl 4 rfl) ?_
        refine lv_iload (pc := 79) hx hb (dOk_at dX6_tryDeed 40 rfl) (lv_at hl 7 rfl) ?_
        refine lv_iadd (pc := 81) hx hb (dOk_at dX6_tryDeed 41 rfl) ?_
        refine r_iald (pc := 82) fx hh 3 rfl hv.1 (dOk_at dX6_tryDeed 42 rfl) ?_
        have hv := hv.2
        refine lv_iconst (pc := 83) (v := 0) hx hb (dOk_at dX6_tryDeed 43 rfl) (by decide) ?_
        refine lv_iconst (pc := 84) (v := 3) hx hb (dOk_at dX6_tryDeed 44 rfl) (by decide) ?_
        refine cl_S (pc := 85) (w' := [(b0, .inr (6, [.ref bs, .ref x0, .ref d0, .ref r0, .ref i0, .ref c0, .ref j0, .ref e0, .int lf, .int tr])), (bs, .inl (G.2.2.2, 4, .inr (.inr (.inr (.inr sh))))), (s0, .inr (4, [.ref s1, .int sla, .int sle])), (s1, .inl (G.2.1, 60, .inl sn)), (d0, .inr (1, [.ref d1, .int dat, .int dcut, .int dfw])), (d1, .inl (G.2.1, 20, .inl dstr)), (i0, .inr (2, [.ref i1, .int hi, .int wi, .int fr, .int fc, .int lc])), (i1, .inl (G.2.1, 20, .inl str)), (c0, .inr (0, [.ref c1, .ref c2, .int cnt])), (c1, .inl (G.2.1, 4, .inl ck)), (c2, .inl (G.2.1, 4, .inl cwt))]) (wr := [(b0, .inr (6, [.ref bs, .ref x0, .ref d0, .ref r0, .ref i0, .ref c0, .ref j0, .ref e0, .int lf, .int tr])), (bs, .inl (G.2.2.2, 4, .inr (.inr (.inr (.inr sh))))), (s0, .inr (4, [.ref s1, .int sla, .int sle])), (s1, .inl (G.2.1, 60, .inl sn)), (d0, .inr (1, [.ref d1, .int dat, .int dcut, .int dfw])), (d1, .inl (G.2.1, 20, .inl dstr)), (i0, .inr (2, [.ref i1, .int hi, .int wi, .int fr, .int fc, .int lc])), (i1, .inl (G.2.1, 20, .inl str)), (c0, .inr (0, [.ref c1, .ref c2, .int cnt])), (c1, .inl (G.2.1, 4, .inl ck)), (c2, .inl (G.2.1, 4, .inl cwt))]) (rest := []) fx hh hl.1 (h_X6_isWithin (sn (i + x65_10).toNatClampNeg) 0 3) yS_X6_isWithin tMX6_96 ⟨rfl, rfl, Nat.le_of_ble_eq_true rfl, Nat.le_of_ble_eq_true rfl⟩ [] [0, 1, 2, 3, 4, 5, 6, 7, 8, 9, 10] [0, 1, 2, 3, 4, 5, 6, 7, 8, 9, 10] rfl rfl rfl (by decide) (by decide) rfl rfl (Nat.le_of_ble_eq_true rfl) ⟨Nat.le_of_ble_eq_true rfl, Nat.le_of_ble_eq_true rfl⟩ (dOk_at dX6_tryDeed 45 rfl) (fun H locs hh => ?_)
        refine lv_if_ne (pc := 88) (tgt := 94) hx hb (dOk_at dX6_tryDeed 46 rfl) (by decide) (fun c88 => ?_) (fun c88 => ?_)
        · have hv := hv.1 c88
          refine lv_iinc (pc := 94) (v := x65_10 + 1) (lv' := [(10, .int (x65_10 + 1)), (0, .ref b0), (1, .int a), (2, .int b), (3, .int ce), (6, .int i), (7, .int n), (8, .ref s0)]) hx hb (dOk_at dX6_tryDeed 49 rfl) hl (k := 7) rfl rfl (by decide) rfl (fun ls hl => ?_)
          refine lv_goto (pc := 97) (tgt := 65) hx hb (dOk_at dX6_tryDeed 50 rfl) (by decide) ?_
          obtain ⟨k0, hk0, hj0⟩ := hv
          exact ih65 k0 hk0 (x65_10 + 1) hj0 _ _ _ hh (lv_sub hl [1, 2, 3, 4, 5, 6, 7, 0] rfl)
        · have hv := hv.2 c88
          refine lv_bipush (pc := 91) (v := (-2)) hx hb (dOk_at dX6_tryDeed 47 rfl) (by decide) ?_
          obtain ⟨e0, e1, e2, e3, e4⟩ := hv
          subst e0
          subst e1
          subst e2
          subst e3
          subst e4
          rw [hQ]
          exact r_iret (pc := 93) fx hh (dOk_at dX6_tryDeed 48 rfl)
  refine lv_aload_n (pc := 0) hx hb (dOk_at dX6_tryDeed 0 rfl) rfl (lv_at hl 0 rfl) ?_
  refine lv_iload (pc := 1) hx hb (dOk_at dX6_tryDeed 1 rfl) (lv_at hl 4 rfl) ?_
  refine cl_V (pc := 3) (w' := [(b0, .inr (6, [.ref bs, .ref x0, .ref d0, .ref r0, .ref i0, .ref c0, .ref j0, .ref e0, .int lf, .int tr])), (bs, .inl (G.2.2.2, 4, .inr (.inr (.inr (.inr sh))))), (s0, .inr (4, [.ref s1, .int sla, .int sle])), (s1, .inl (G.2.1, 60, .inl sn)), (d0, .inr (1, [.ref d1, .int dat, .int dcut, .int dfw])), (d1, .inl (G.2.1, 20, .inl dstr)), (i0, .inr (2, [.ref i1, .int hi, .int wi, .int fr, .int fc, .int lc])), (i1, .inl (G.2.1, 20, .inl str)), (c0, .inr (0, [.ref c1, .ref c2, .int cnt])), (c1, .inl (G.2.1, 4, .inl ck)), (c2, .inl (G.2.1, 4, .inl cwt))]) (wr := [(s0, .inr (4, [.ref s1, .int sla, .int sle])), (s1, .inl (G.2.1, 60, .inl sn)), (d0, .inr (1, [.ref d1, .int dat, .int dcut, .int dfw])), (d1, .inl (G.2.1, 20, .inl dstr)), (i0, .inr (2, [.ref i1, .int hi, .int wi, .int fr, .int fc, .int lc])), (i1, .inl (G.2.1, 20, .inl str)), (c0, .inr (0, [.ref c1, .ref c2, .int cnt])), (c1, .inl (G.2.1, 4, .inl ck)), (c2, .inl (G.2.1, 4, .inl cwt))]) (rest := []) fx hh hl.1 (h_X6_sheetAt b0 bs x0 d0 r0 i0 c0 j0 e0 lf tr sh sheet (some s0) hv.1 hv.2.1) yV_X6_sheetAt tMX6_182 ⟨rfl, rfl, Nat.le_of_ble_eq_true rfl, Nat.le_of_ble_eq_true rfl⟩ 0 6 rfl rfl rfl [0, 1] [2, 3, 4, 5, 6, 7, 8, 9, 10] [9, 10, 0, 1, 2, 3, 4, 5, 6, 7, 8] rfl rfl rfl (by decide) (by decide) rfl rfl (Nat.le_of_ble_eq_true rfl) ⟨Nat.le_of_ble_eq_true rfl, Nat.le_of_ble_eq_true rfl⟩ (dOk_at dX6_tryDeed 2 rfl) (fun H locs hh => ?_)
  have hv := hv.2.2
  refine lv_astore (pc := 6) (lv' := [(8, .ref s0), (0, .ref b0), (1, .int a), (2, .int b), (3, .int ce), (4, .int sheet), (5, .int lane), (6, .int i), (7, .int n)]) hx hb (dOk_at dX6_tryDeed 3 rfl) hl (by decide) rfl (fun ls hl => ?_)
  refine lv_aload (pc := 8) hx hb (dOk_at dX6_tryDeed 4 rfl) (lv_at hl 0 rfl) ?_
  refine lv_ifnull (pc := 10) hx hb (dOk_at dX6_tryDeed 5 rfl) ?_
  refine lv_aload_n (pc := 13) hx hb (dOk_at dX6_tryDeed 6 rfl) rfl (lv_at hl 1 rfl) ?_
  refine lv_iload_n (pc := 14) hx hb (dOk_at dX6_tryDeed 7 rfl) rfl (lv_at hl 2 rfl) ?_
  refine lv_iload_n (pc := 15) hx hb (dOk_at dX6_tryDeed 8 rfl) rfl (lv_at hl 3 rfl) ?_
  refine lv_iload_n (pc := 16) hx hb (dOk_at dX6_tryDeed 9 rfl) rfl (lv_at hl 4 rfl) ?_
  refine lv_iload (pc := 17) hx hb (dOk_at dX6_tryDeed 10 rfl) (lv_at hl 5 rfl) ?_
  refine cl_V (pc := 19) (w' := [(b0, .inr (6, [.ref bs, .ref x0, .ref d0, .ref r0, .ref i0, .ref c0, .ref j0, .ref e0, .int lf, .int tr])), (bs, .inl (G.2.2.2, 4, .inr (.inr (.inr (.inr sh))))), (s0, .inr (4, [.ref s1, .int sla, .int sle])), (s1, .inl (G.2.1, 60, .inl sn)), (d0, .inr (1, [.ref d1, .int dat, .int dcut, .int dfw])), (d1, .inl (G.2.1, 20, .inl dstr)), (i0, .inr (2, [.ref i1, .int hi, .int wi, .int fr, .int fc, .int lc])), (i1, .inl (G.2.1, 20, .inl str)), (c0, .inr (0, [.ref c1, .ref c2, .int cnt])), (c1, .inl (G.2.1, 4, .inl ck)), (c2, .inl (G.2.1, 4, .inl cwt))]) (wr := [(s0, .inr (4, [.ref s1, .int sla, .int sle])), (s1, .inl (G.2.1, 60, .inl sn)), (d0, .inr (1, [.ref d1, .int dat, .int dcut, .int dfw])), (d1, .inl (G.2.1, 20, .inl dstr)), (i1, .inl (G.2.1, 20, .inl str)), (c1, .inl (G.2.1, 4, .inl ck)), (c2, .inl (G.2.1, 4, .inl cwt))]) (rest := []) fx hh hl.1 (h_X6_isDeedKnown b0 bs c0 i0 x0 d0 r0 j0 e0 c1 c2 i1 lf tr cnt hi wi fr fc lc sh a b ce sheet s0 hv.1 hv.2.1) yV_X6_isDeedKnown tMX6_106 ⟨rfl, rfl, Nat.le_of_ble_eq_true rfl, Nat.le_of_ble_eq_true rfl⟩ 0 6 rfl rfl rfl [0, 1, 8, 6] [2, 3, 4, 5, 7, 9, 10] [7, 8, 0, 1, 2, 3, 10, 4, 9, 5, 6] rfl rfl rfl (by decide) (by decide) rfl rfl (Nat.le_of_ble_eq_true rfl) ⟨Nat.le_of_ble_eq_true rfl, Nat.le_of_ble_eq_true rfl⟩ (dOk_at dX6_tryDeed 11 rfl) (fun H locs hh => ?_)
  have hv := hv.2.2
  refine lv_if_ne (pc := 22) (tgt := 27) hx hb (dOk_at dX6_tryDeed 12 rfl) (by decide) (fun c22 => ?_) (fun c22 => ?_)
  · have hv := hv.1 c22
    refine lv_iload (pc := 27) hx hb (dOk_at dX6_tryDeed 15 rfl) (lv_at hl 8 rfl) ?_
    refine lv_iconst (pc := 29) (v := 0) hx hb (dOk_at dX6_tryDeed 16 rfl) (by decide) ?_
    refine lv_bipush (pc := 30) (v := 40) hx hb (dOk_at dX6_tryDeed 17 rfl) (by decide) ?_
    refine cl_S (pc := 32) (w' := [(b0, .inr (6, [.ref bs, .ref x0, .ref d0, .ref r0, .ref i0, .ref c0, .ref j0, .ref e0, .int lf, .int tr])), (bs, .inl (G.2.2.2, 4, .inr (.inr (.inr (.inr sh))))), (s0, .inr (4, [.ref s1, .int sla, .int sle])), (s1, .inl (G.2.1, 60, .inl sn)), (d0, .inr (1, [.ref d1, .int dat, .int dcut, .int dfw])), (d1, .inl (G.2.1, 20, .inl dstr)), (i0, .inr (2, [.ref i1, .int hi, .int wi, .int fr, .int fc, .int lc])), (i1, .inl (G.2.1, 20, .inl str)), (c0, .inr (0, [.ref c1, .ref c2, .int cnt])), (c1, .inl (G.2.1, 4, .inl ck)), (c2, .inl (G.2.1, 4, .inl cwt))]) (wr := [(b0, .inr (6, [.ref bs, .ref x0, .ref d0, .ref r0, .ref i0, .ref c0, .ref j0, .ref e0, .int lf, .int tr])), (bs, .inl (G.2.2.2, 4, .inr (.inr (.inr (.inr sh))))), (s0, .inr (4, [.ref s1, .int sla, .int sle])), (s1, .inl (G.2.1, 60, .inl sn)), (d0, .inr (1, [.ref d1, .int dat, .int dcut, .int dfw])), (d1, .inl (G.2.1, 20, .inl dstr)), (i0, .inr (2, [.ref i1, .int hi, .int wi, .int fr, .int fc, .int lc])), (i1, .inl (G.2.1, 20, .inl str)), (c0, .inr (0, [.ref c1, .ref c2, .int cnt])), (c1, .inl (G.2.1, 4, .inl ck)), (c2, .inl (G.2.1, 4, .inl cwt))]) (rest := []) fx hh hl.1 (h_X6_isWithin n 0 40) yS_X6_isWithin tMX6_96 ⟨rfl, rfl, Nat.le_of_ble_eq_true rfl, Nat.le_of_ble_eq_true rfl⟩ [] [0, 1, 2, 3, 4, 5, 6, 7, 8, 9, 10] [0, 1, 2, 3, 4, 5, 6, 7, 8, 9, 10] rfl rfl rfl (by decide) (by decide) rfl rfl (Nat.le_of_ble_eq_true rfl) ⟨Nat.le_of_ble_eq_true rfl, Nat.le_of_ble_eq_true rfl⟩ (dOk_at dX6_tryDeed 18 rfl) (fun H locs hh => ?_)
    refine lv_if_ne (pc := 35) (tgt := 41) hx hb (dOk_at dX6_tryDeed 19 rfl) (by decide) (fun c35 => ?_) (fun c35 => ?_)
    · have hv := hv.1 c35
      refine lv_aload (pc := 41) hx hb (dOk_at dX6_tryDeed 22 rfl) (lv_at hl 0 rfl) ?_
      refine lv_iload (pc := 43) hx hb (dOk_at dX6_tryDeed 23 rfl) (lv_at hl 6 rfl) ?_
      refine lv_iload (pc := 45) hx hb (dOk_at dX6_tryDeed 24 rfl) (lv_at hl 7 rfl) ?_
      refine lv_iload (pc := 47) hx hb (dOk_at dX6_tryDeed 25 rfl) (lv_at hl 8 rfl) ?_
      refine cl_S (pc := 49) (w' := [(b0, .inr (6, [.ref bs, .ref x0, .ref d0, .ref r0, .ref i0, .ref c0, .ref j0, .ref e0, .int lf, .int tr])), (bs, .inl (G.2.2.2, 4, .inr (.inr (.inr (.inr sh))))), (s0, .inr (4, [.ref s1, .int sla, .int sle])), (s1, .inl (G.2.1, 60, .inl sn)), (d0, .inr (1, [.ref d1, .int dat, .int dcut, .int dfw])), (d1, .inl (G.2.1, 20, .inl dstr)), (i0, .inr (2, [.ref i1, .int hi, .int wi, .int fr, .int fc, .int lc])), (i1, .inl (G.2.1, 20, .inl str)), (c0, .inr (0, [.ref c1, .ref c2, .int cnt])), (c1, .inl (G.2.1, 4, .inl ck)), (c2, .inl (G.2.1, 4, .inl cwt))]) (wr := [(b0, .inr (6, [.ref bs, .ref x0, .ref d0, .ref r0, .ref i0, .ref c0, .ref j0, .ref e0, .int lf, .int tr])), (bs, .inl (G.2.2.2, 4, .inr (.inr (.inr (.inr sh))))), (s1, .inl (G.2.1, 60, .inl sn)), (d0, .inr (1, [.ref d1, .int dat, .int dcut, .int dfw])), (d1, .inl (G.2.1, 20, .inl dstr)), (i0, .inr (2, [.ref i1, .int hi, .int wi, .int fr, .int fc, .int lc])), (i1, .inl (G.2.1, 20, .inl str)), (c0, .inr (0, [.ref c1, .ref c2, .int cnt])), (c1, .inl (G.2.1, 4, .inl ck)), (c2, .inl (G.2.1, 4, .inl cwt))]) (rest := []) fx hh hl.1 (h_X6_refusalOfPart s0 s1 sla sle lane i n) yS_X6_refusalOfPart tMX6_196 ⟨rfl, rfl, Nat.le_of_ble_eq_true rfl, Nat.le_of_ble_eq_true rfl⟩ [2] [0, 1, 3, 4, 5, 6, 7, 8, 9, 10] [0, 1, 10, 2, 3, 4, 5, 6, 7, 8, 9] rfl rfl rfl (by decide) (by decide) rfl rfl (Nat.le_of_ble_eq_true rfl) ⟨Nat.le_of_ble_eq_true rfl, Nat.le_of_ble_eq_true rfl⟩ (dOk_at dX6_tryDeed 26 rfl) (fun H locs hh => ?_)
      refine lv_istore (pc := 52) (lv' := [(9, .int (x_rp sla sle lane i n)), (8, .ref s0), (0, .ref b0), (1, .int a), (2, .int b), (3, .int ce), (4, .int sheet), (5, .int lane), (6, .int i), (7, .int n)]) hx hb (dOk_at dX6_tryDeed 27 rfl) hl (by decide) rfl (fun ls hl => ?_)
      refine lv_iload (pc := 54) hx hb (dOk_at dX6_tryDeed 28 rfl) (lv_at hl 0 rfl) ?_
      refine lv_if_eq (pc := 56) (tgt := 62) hx hb (dOk_at dX6_tryDeed 29 rfl) (by decide) (fun c56 => ?_) (fun c56 => ?_)
      · have hv := hv.1 c56
        refine lv_iconst (pc := 62) (v := 0) hx hb (dOk_at dX6_tryDeed 32 rfl) (by decide) ?_
        refine lv_istore (pc := 63) (lv' := [(10, .int 0), (9, .int (x_rp sla sle lane i n)), (8, .ref s0), (0, .ref b0), (1, .int a), (2, .int b), (3, .int ce), (4, .int sheet), (5, .int lane), (6, .int i), (7, .int n)]) hx hb (dOk_at dX6_tryDeed 33 rfl) hl (by decide) rfl (fun ls hl => ?_)
        obtain ⟨k0, hj0⟩ := hv
        exact lp65 k0 0 hj0 _ _ _ hh (lv_sub hl [3, 4, 5, 6, 9, 10, 2, 0] rfl)
      · have hv := hv.2 c56
        refine lv_iload (pc := 59) hx hb (dOk_at dX6_tryDeed 30 rfl) (lv_at hl 0 rfl) ?_
        obtain ⟨e0, e1, e2, e3, e4⟩ := hv
        subst e0
        subst e1
        subst e2
        subst e3
        subst e4
        rw [hQ]
        exact r_iret (pc := 61) fx hh (dOk_at dX6_tryDeed 31 rfl)
    · have hv := hv.2 c35
      refine lv_bipush (pc := 38) (v := (-2)) hx hb (dOk_at dX6_tryDeed 20 rfl) (by decide) ?_
      obtain ⟨e0, e1, e2, e3, e4⟩ := hv
      subst e0
      subst e1
      subst e2
      subst e3
      subst e4
      rw [hQ]
      exact r_iret (pc := 40) fx hh (dOk_at dX6_tryDeed 21 rfl)
  · have hv := hv.2 c22
    refine lv_iconst (pc := 25) (v := (-1)) hx hb (dOk_at dX6_tryDeed 13 rfl) (by decide) ?_
    obtain ⟨e0, e1, e2, e3, e4⟩ := hv
    subst e0
    subst e1
    subst e2
    subst e3
    subst e4
    rw [hQ]
    exact r_iret (pc := 26) fx hh (dOk_at dX6_tryDeed 14 rfl)
set_option maxRecDepth 100000 in
set_option maxHeartbeats 4000000 in
theorem wk_X6_tryDeed_n (l : Launch) (G : GT) (b0 : Nat) (bs : Nat) (x0 : Nat) (d0 : Nat) (r0 : Nat) (i0 : Nat) (c0 : Nat) (j0 : Nat) (e0 : Nat) (lf : Int32) (tr : Int32) (sh : Nat → Option Nat) (a : Int32) (b : Int32) (ce : Int32) (sheet : Int32) (lane : Int32) (i : Int32) (n : Int32) (R : Int32) (h_X6_sheetAt : K_X6_sheetAt l G)
    (hv : s_shAt sh sheet = none ∧ (s_in sheet 0 3 = 0 ∨ vp_in sheet 4) ∧ (-1 : Int32) = R) :
    MF l G yX6_tryDeed cX6_tryDeed 11 (some .int) rm_X6_tryDeed [.ref b0, .int a, .int b, .int ce, .int sheet, .int lane, .int i, .int n] [(b0, .inr (6, [.ref bs, .ref x0, .ref d0, .ref r0, .ref i0, .ref c0, .ref j0, .ref e0, .int lf, .int tr])), (bs, .inl (G.2.2.2, 4, .inr (.inr (.inr (.inr sh)))))] (some (.int R)) [(b0, .inr (6, [.ref bs, .ref x0, .ref d0, .ref r0, .ref i0, .ref c0, .ref j0, .ref e0, .int lf, .int tr])), (bs, .inl (G.2.2.2, 4, .inr (.inr (.inr (.inr sh)))))] := by
  refine MF.of (by decide +kernel) (Nat.le_of_ble_eq_true rfl) ?_
  intro p e s m args below meth c A ls fx hh hl _
  have hx := fx.hx
  have hb := fx.hb
  have hl : lv_has ls 11 [(0, .ref b0), (1, .int a), (2, .int b), (3, .int ce), (4, .int sheet), (5, .int lane), (6, .int i), (7, .int n)] := hl
  obtain ⟨Q, hQ⟩ : ∃ Q, Q = ZZ G A (some (.int R)) [(b0, .inr (6, [.ref bs, .ref x0, .ref d0, .ref r0, .ref i0, .ref c0, .ref j0, .ref e0, .int lf, .int tr])), (bs, .inl (G.2.2.2, 4, .inr (.inr (.inr (.inr sh)))))] below args s := ⟨_, rfl⟩
  rw [← hQ]
  refine lv_aload_n (pc := 0) hx hb (dOk_at dX6_tryDeed 0 rfl) rfl (lv_at hl 0 rfl) ?_
  refine lv_iload (pc := 1) hx hb (dOk_at dX6_tryDeed 1 rfl) (lv_at hl 4 rfl) ?_
  refine cl_V (pc := 3) (w' := [(b0, .inr (6, [.ref bs, .ref x0, .ref d0, .ref r0, .ref i0, .ref c0, .ref j0, .ref e0, .int lf, .int tr])), (bs, .inl (G.2.2.2, 4, .inr (.inr (.inr (.inr sh)))))]) (wr := []) (rest := []) fx hh hl.1 (h_X6_sheetAt b0 bs x0 d0 r0 i0 c0 j0 e0 lf tr sh sheet none hv.1 hv.2.1) yV_X6_sheetAt tMX6_182 ⟨rfl, rfl, Nat.le_of_ble_eq_true rfl, Nat.le_of_ble_eq_true rfl⟩ 0 6 rfl rfl rfl [0, 1] [] [0, 1] rfl rfl rfl (by decide) (by decide) rfl rfl (Nat.le_of_ble_eq_true rfl) ⟨Nat.le_of_ble_eq_true rfl, Nat.le_of_ble_eq_true rfl⟩ (dOk_at dX6_tryDeed 2 rfl) (fun H locs hh => ?_)
  have hv := hv.2.2
  refine lv_astoreN (pc := 6) (lv' := [(8, .null), (0, .ref b0), (1, .int a), (2, .int b), (3, .int ce), (4, .int sheet), (5, .int lane), (6, .int i), (7, .int n)]) hx hb (dOk_at dX6_tryDeed 3 rfl) hl (by decide) rfl (fun ls hl => ?_)
  refine lv_aloadN (pc := 8) hx hb (dOk_at dX6_tryDeed 4 rfl) (lv_at hl 0 rfl) ?_
  refine lv_ifnullN (pc := 10) (tgt := 25) hx hb (dOk_at dX6_tryDeed 5 rfl) (by decide) ?_
  refine lv_iconst (pc := 25) (v := (-1)) hx hb (dOk_at dX6_tryDeed 13 rfl) (by decide) ?_
  have e0 := hv
  subst e0
  rw [hQ]
  exact r_iret (pc := 26) fx hh (dOk_at dX6_tryDeed 14 rfl)
set_option maxRecDepth 100000 in
set_option maxHeartbeats 4000000 in
theorem wk_X6_ofTrial (l : Launch) (G : GT) (b0 : Nat) (d0 : Nat) (d1 : Nat) (bs : Nat) (x0 : Nat) (r0 : Nat) (i0 : Nat) (c0 : Nat) (j0 : Nat) (e0 : Nat) (lf : Int32) (tr : Int32) (dat : Int32) (dcut : Int32) (dfw : Int32) (dstr : Nat → Int32) (n : Int32) (what : Int32) (R : Int32)
    (hv : (¬ what = 1 → (dfw = (-9) → (what = 0 → dat = R) ∧ (¬ what = 0 → (what = 1 → ((n + 1) / 2) = R) ∧ (¬ what = 1 → (what = 2 → dcut = R) ∧ (¬ what = 2 → (what = 3 → vp_in dat 20 ∧ (dstr dat.toNatClampNeg) = R) ∧ (¬ what = 3 → ((n + 1) / 2) = R))))) ∧ (¬ dfw = (-9) → ((-100) - dfw) = R)) ∧ (what = 1 → dfw = R)) :
    MF l G yX6_ofTrial cX6_ofTrial 3 (some .int) rm_X6_ofTrial [.ref b0, .int n, .int what] [(b0, .inr (6, [.ref bs, .ref x0, .ref d0, .ref r0, .ref i0, .ref c0, .ref j0, .ref e0, .int lf, .int tr])), (d0, .inr (1, [.ref d1, .int dat, .int dcut, .int dfw])), (d1, .inl (G.2.1, 20, .inl dstr))] (some (.int R)) [(b0, .inr (6, [.ref bs, .ref x0, .ref d0, .ref r0, .ref i0, .ref c0, .ref j0, .ref e0, .int lf, .int tr])), (d0, .inr (1, [.ref d1, .int dat, .int dcut, .int dfw])), (d1, .inl (G.2.1, 20, .inl dstr))] := by
  refine MF.of (by decide +kernel) (Nat.le_of_ble_eq_true rfl) ?_
  intro p e s m args below meth c A ls fx hh hl _
  have hx := fx.hx
  have hb := fx.hb
  have hl : lv_has ls 3 [(0, .ref b0), (1, .int n), (2, .int what)] := hl
  obtain ⟨Q, hQ⟩ : ∃ Q, Q = ZZ G A (some (.int R)) [(b0, .inr (6, [.ref bs, .ref x0, .ref d0, .ref r0, .ref i0, .ref c0, .ref j0, .ref e0, .int lf, .int tr])), (d0, .inr (1, [.ref d1, .int dat, .int dcut, .int dfw])), (d1, .inl (G.2.1, 20, .inl dstr))] below args s := ⟨_, rfl⟩
  rw [← hQ]
  refine lv_iload_n (pc := 0) hx hb (dOk_at dX6_ofTrial 0 rfl) rfl (lv_at hl 2 rfl) ?_
  refine lv_iconst (pc := 1) (v := 1) hx hb (dOk_at dX6_ofTrial 1 rfl) (by decide) ?_
  refine lv_icmp_ne (pc := 2) (tgt := 13) hx hb (dOk_at dX6_ofTrial 2 rfl) (by decide) (fun c2 => ?_) (fun c2 => ?_)
  · have hv := hv.1 c2
    refine lv_aload_n (pc := 13) hx hb (dOk_at dX6_ofTrial 7 rfl) rfl (lv_at hl 0 rfl) ?_
    refine r_get (pc := 14) (ci := 6) fx hh inT6 rfl 2 (by decide) tFX6_27 rfl 0 rfl rfl (dOk_at dX6_ofTrial 8 rfl) ?_
    refine r_getN (pc := 17) (ci := 1) fx hh inT1 rfl 3 (by decide) nFX6_117 rfl 1 rfl rfl (dOk_at dX6_ofTrial 9 rfl) ?_
    refine lv_bipush (pc := 20) (v := (-9)) hx hb (dOk_at dX6_ofTrial 10 rfl) (by decide) ?_
    refine lv_icmp_eq (pc := 22) (tgt := 36) hx hb (dOk_at dX6_ofTrial 11 rfl) (by decide) (fun c22 => ?_) (fun c22 => ?_)
    · have hv := hv.1 c22
      refine lv_iload_n (pc := 36) hx hb (dOk_at dX6_ofTrial 18 rfl) rfl (lv_at hl 2 rfl) ?_
      by_cases c37_0 : what = 0
      · refine lv_tableIn (pc := 37) (tgt := 68) (off := 31) hx hb (dOk_at dX6_ofTrial 19 rfl) (by rw [c37_0]; decide) (by rw [c37_0]; decide) (by rw [c37_0]; rfl) (by decide) ?_
        have hv := hv.1 c37_0
        refine lv_aload_n (pc := 68) hx hb (dOk_at dX6_ofTrial 20 rfl) rfl (lv_at hl 0 rfl) ?_
        refine r_get (pc := 69) (ci := 6) fx hh inT6 rfl 2 (by decide) tFX6_27 rfl 0 rfl rfl (dOk_at dX6_ofTrial 21 rfl) ?_
        refine r_getN (pc := 72) (ci := 1) fx hh inT1 rfl 1 (by decide) nFX6_267 rfl 1 rfl rfl (dOk_at dX6_ofTrial 22 rfl) ?_
        have e0 := hv
        subst e0
        rw [hQ]
        exact r_iret (pc := 75) fx hh (dOk_at dX6_ofTrial 23 rfl)
      · have hv := hv.2 c37_0
        by_cases c37_1 : what = 1
        · refine lv_tableIn (pc := 37) (tgt := 100) (off := 63) hx hb (dOk_at dX6_ofTrial 19 rfl) (by rw [c37_1]; decide) (by rw [c37_1]; decide) (by rw [c37_1]; rfl) (by decide) ?_
          have hv := hv.1 c37_1
          refine lv_iload_n (pc := 100) hx hb (dOk_at dX6_ofTrial 36 rfl) rfl (lv_at hl 1 rfl) ?_
          refine lv_iconst (pc := 101) (v := 1) hx hb (dOk_at dX6_ofTrial 37 rfl) (by decide) ?_
          refine lv_iadd (pc := 102) hx hb (dOk_at dX6_ofTrial 38 rfl) ?_
          refine lv_iconst (pc := 103) (v := 2) hx hb (dOk_at dX6_ofTrial 39 rfl) (by decide) ?_
          refine lv_idiv (pc := 104) hx hb (dOk_at dX6_ofTrial 40 rfl) (by decide) ?_
          have e0 := hv
          subst e0
          rw [hQ]
          exact r_iret (pc := 105) fx hh (dOk_at dX6_ofTrial 41 rfl)
        · have hv := hv.2 c37_1
          by_cases c37_2 : what = 2
          · refine lv_tableIn (pc := 37) (tgt := 76) (off := 39) hx hb (dOk_at dX6_ofTrial 19 rfl) (by rw [c37_2]; decide) (by rw [c37_2]; decide) (by rw [c37_2]; rfl) (by decide) ?_
            have hv := hv.1 c37_2
            refine lv_aload_n (pc := 76) hx hb (dOk_at dX6_ofTrial 24 rfl) rfl (lv_at hl 0 rfl) ?_
            refine r_get (pc := 77) (ci := 6) fx hh inT6 rfl 2 (by decide) tFX6_27 rfl 0 rfl rfl (dOk_at dX6_ofTrial 25 rfl) ?_
            refine r_getN (pc := 80) (ci := 1) fx hh inT1 rfl 2 (by decide) nFX6_270 rfl 1 rfl rfl (dOk_at dX6_ofTrial 26 rfl) ?_
            have e0 := hv
            subst e0
            rw [hQ]
            exact r_iret (pc := 83) fx hh (dOk_at dX6_ofTrial 27 rfl)
          · have hv := hv.2 c37_2
            by_cases c37_3 : what = 3
            · refine lv_tableIn (pc := 37) (tgt := 84) (off := 47) hx hb (dOk_at dX6_ofTrial 19 rfl) (by rw [c37_3]; decide) (by rw [c37_3]; decide) (by rw [c37_3]; rfl) (by decide) ?_
              have hv := hv.1 c37_3
              refine lv_aload_n (pc := 84) hx hb (dOk_at dX6_ofTrial 28 rfl) rfl (lv_at hl 0 rfl) ?_
              refine r_get (pc := 85) (ci := 6) fx hh inT6 rfl 2 (by decide) tFX6_27 rfl 0 rfl rfl (dOk_at dX6_ofTrial 29 rfl) ?_
              refine r_getN (pc := 88) (ci := 1) fx hh inT1 rfl 0 (by decide) nFX6_120 rfl 1 rfl rfl (dOk_at dX6_ofTrial 30 rfl) ?_
              refine lv_aload_n (pc := 91) hx hb (dOk_at dX6_ofTrial 31 rfl) rfl (lv_at hl 0 rfl) ?_
              refine r_get (pc := 92) (ci := 6) fx hh inT6 rfl 2 (by decide) tFX6_27 rfl 0 rfl rfl (dOk_at dX6_ofTrial 32 rfl) ?_
              refine r_getN (pc := 95) (ci := 1) fx hh inT1 rfl 1 (by decide) nFX6_267 rfl 1 rfl rfl (dOk_at dX6_ofTrial 33 rfl) ?_
              refine r_iald (pc := 98) fx hh 2 rfl hv.1 (dOk_at dX6_ofTrial 34 rfl) ?_
              have hv := hv.2
              have e0 := hv
              subst e0
              rw [hQ]
              exact r_iret (pc := 99) fx hh (dOk_at dX6_ofTrial 35 rfl)
            · have hv := hv.2 c37_3
              refine lv_tableOut (pc := 37) (tgt := 100) hx hb (dOk_at dX6_ofTrial 19 rfl) (by have w0 := sw_ne c37_0 (b := 0) (by decide); have w1 := sw_ne c37_1 (b := 1) (by decide); have w2 := sw_ne c37_2 (b := 2) (by decide); have w3 := sw_ne c37_3 (b := 3) (by decide); omega) (by decide) ?_
              refine lv_iload_n (pc := 100) hx hb (dOk_at dX6_ofTrial 36 rfl) rfl (lv_at hl 1 rfl) ?_
              refine lv_iconst (pc := 101) (v := 1) hx hb (dOk_at dX6_ofTrial 37 rfl) (by decide) ?_
              refine lv_iadd (pc := 102) hx hb (dOk_at dX6_ofTrial 38 rfl) ?_
              refine lv_iconst (pc := 103) (v := 2) hx hb (dOk_at dX6_ofTrial 39 rfl) (by decide) ?_
              refine lv_idiv (pc := 104) hx hb (dOk_at dX6_ofTrial 40 rfl) (by decide) ?_
              have e0 := hv
              subst e0
              rw [hQ]
              exact r_iret (pc := 105) fx hh (dOk_at dX6_ofTrial 41 rfl)
    · have hv := hv.2 c22
      refine lv_bipush (pc := 25) (v := (-100)) hx hb (dOk_at dX6_ofTrial 12 rfl) (by decide) ?_
      refine lv_aload_n (pc := 27) hx hb (dOk_at dX6_ofTrial 13 rfl) rfl (lv_at hl 0 rfl) ?_
      refine r_get (pc := 28) (ci := 6) fx hh inT6 rfl 2 (by decide) tFX6_27 rfl 0 rfl rfl (dOk_at dX6_ofTrial 14 rfl) ?_
      refine r_getN (pc := 31) (ci := 1) fx hh inT1 rfl 3 (by decide) nFX6_117 rfl 1 rfl rfl (dOk_at dX6_ofTrial 15 rfl) ?_
      refine lv_isub (pc := 34) hx hb (dOk_at dX6_ofTrial 16 rfl) ?_
      have e0 := hv
      subst e0
      rw [hQ]
      exact r_iret (pc := 35) fx hh (dOk_at dX6_ofTrial 17 rfl)
  · have hv := hv.2 c2
    refine lv_aload_n (pc := 5) hx hb (dOk_at dX6_ofTrial 3 rfl) rfl (lv_at hl 0 rfl) ?_
    refine r_get (pc := 6) (ci := 6) fx hh inT6 rfl 2 (by decide) tFX6_27 rfl 0 rfl rfl (dOk_at dX6_ofTrial 4 rfl) ?_
    refine r_getN (pc := 9) (ci := 1) fx hh inT1 rfl 3 (by decide) nFX6_117 rfl 1 rfl rfl (dOk_at dX6_ofTrial 5 rfl) ?_
    have e0 := hv
    subst e0
    rw [hQ]
    exact r_iret (pc := 12) fx hh (dOk_at dX6_ofTrial 6 rfl)
set_option maxRecDepth 100000 in
set_option maxHeartbeats 4000000 in
theorem wk_X6_isBondKnown (l : Launch) (G : GT) (b0 : Nat) (c0 : Nat) (i0 : Nat) (bs : Nat) (x0 : Nat) (d0 : Nat) (r0 : Nat) (j0 : Nat) (e0 : Nat) (c1 : Nat) (c2 : Nat) (i1 : Nat) (lf : Int32) (tr : Int32) (cnt : Int32) (hi : Int32) (wi : Int32) (fr : Int32) (fc : Int32) (lc : Int32) (a : Int32) (b : Int32) (fro : Int32) (to : Int32) (R : Int32) (h_X2_has : K_X2_has l G) (h_X6_isPair : K_X6_isPair l G)
    (hv : ((x_pair cnt a b) = 0 → (0 : Int32) = R) ∧ (¬ (x_pair cnt a b) = 0 → ((s_ce hi wi fro) = 0 → (0 : Int32) = R) ∧ (¬ (s_ce hi wi fro) = 0 → ((s_ce hi wi to) = 0 → (0 : Int32) = R) ∧ (¬ (s_ce hi wi to) = 0 → (1 : Int32) = R)))) :
    MF l G yX6_isBondKnown cX6_isBondKnown 5 (some .boolean) rm_X6_isBondKnown [.ref b0, .int a, .int b, .int fro, .int to] [(b0, .inr (6, [.ref bs, .ref x0, .ref d0, .ref r0, .ref i0, .ref c0, .ref j0, .ref e0, .int lf, .int tr])), (c0, .inr (0, [.ref c1, .ref c2, .int cnt])), (i0, .inr (2, [.ref i1, .int hi, .int wi, .int fr, .int fc, .int lc]))] (some (.int R)) [(b0, .inr (6, [.ref bs, .ref x0, .ref d0, .ref r0, .ref i0, .ref c0, .ref j0, .ref e0, .int lf, .int tr])), (c0, .inr (0, [.ref c1, .ref c2, .int cnt])), (i0, .inr (2, [.ref i1, .int hi, .int wi, .int fr, .int fc, .int lc]))] := by
  refine MF.of (by decide +kernel) (Nat.le_of_ble_eq_true rfl) ?_
  intro p e s m args below meth c A ls fx hh hl _
  have hx := fx.hx
  have hb := fx.hb
  have hl : lv_has ls 5 [(0, .ref b0), (1, .int a), (2, .int b), (3, .int fro), (4, .int to)] := hl
  obtain ⟨Q, hQ⟩ : ∃ Q, Q = ZZ G A (some (.int R)) [(b0, .inr (6, [.ref bs, .ref x0, .ref d0, .ref r0, .ref i0, .ref c0, .ref j0, .ref e0, .int lf, .int tr])), (c0, .inr (0, [.ref c1, .ref c2, .int cnt])), (i0, .inr (2, [.ref i1, .int hi, .int wi, .int fr, .int fc, .int lc]))] below args s := ⟨_, rfl⟩
  rw [← hQ]
  refine lv_aload_n (pc := 0) hx hb (dOk_at dX6_isBondKnown 0 rfl) rfl (lv_at hl 0 rfl) ?_
  refine lv_iload_n (pc := 1) hx hb (dOk_at dX6_isBondKnown 1 rfl) rfl (lv_at hl 1 rfl) ?_
  refine lv_iload_n (pc := 2) hx hb (dOk_at dX6_isBondKnown 2 rfl) rfl (lv_at hl 2 rfl) ?_
  refine cl_V (pc := 3) (w' := [(b0, .inr (6, [.ref bs, .ref x0, .ref d0, .ref r0, .ref i0, .ref c0, .ref j0, .ref e0, .int lf, .int tr])), (c0, .inr (0, [.ref c1, .ref c2, .int cnt])), (i0, .inr (2, [.ref i1, .int hi, .int wi, .int fr, .int fc, .int lc]))]) (wr := [(i0, .inr (2, [.ref i1, .int hi, .int wi, .int fr, .int fc, .int lc]))]) (rest := []) fx hh hl.1 (h_X6_isPair b0 c0 bs x0 d0 r0 i0 j0 e0 c1 c2 lf tr cnt a b) yV_X6_isPair tMX6_257 ⟨rfl, rfl, Nat.le_of_ble_eq_true rfl, Nat.le_of_ble_eq_true rfl⟩ 0 6 rfl rfl rfl [0, 1] [2] [1, 2, 0] rfl rfl rfl (by decide) (by decide) rfl rfl (Nat.le_of_ble_eq_true rfl) ⟨Nat.le_of_ble_eq_true rfl, Nat.le_of_ble_eq_true rfl⟩ (dOk_at dX6_isBondKnown 3 rfl) (fun H locs hh => ?_)
  refine lv_if_eq (pc := 6) (tgt := 36) hx hb (dOk_at dX6_isBondKnown 4 rfl) (by decide) (fun c6 => ?_) (fun c6 => ?_)
  · have hv := hv.1 c6
    refine lv_iconst (pc := 36) (v := 0) hx hb (dOk_at dX6_isBondKnown 17 rfl) (by decide) ?_
    have e0 := hv
    subst e0
    rw [hQ]
    exact r_zret (pc := 37) fx hh rfl (dOk_at dX6_isBondKnown 18 rfl)
  · have hv := hv.2 c6
    refine lv_aload_n (pc := 9) hx hb (dOk_at dX6_isBondKnown 5 rfl) rfl (lv_at hl 0 rfl) ?_
    refine r_get (pc := 10) (ci := 6) fx hh inT6 rfl 4 (by decide) tFX6_41 rfl 0 rfl rfl (dOk_at dX6_isBondKnown 6 rfl) ?_
    refine lv_iload_n (pc := 13) hx hb (dOk_at dX6_isBondKnown 7 rfl) rfl (lv_at hl 3 rfl) ?_
    refine cl_VN (pc := 14) (w' := [(b0, .inr (6, [.ref bs, .ref x0, .ref d0, .ref r0, .ref i0, .ref c0, .ref j0, .ref e0, .int lf, .int tr])), (c0, .inr (0, [.ref c1, .ref c2, .int cnt])), (i0, .inr (2, [.ref i1, .int hi, .int wi, .int fr, .int fc, .int lc]))]) (wr := [(b0, .inr (6, [.ref bs, .ref x0, .ref d0, .ref r0, .ref i0, .ref c0, .ref j0, .ref e0, .int lf, .int tr])), (c0, .inr (0, [.ref c1, .ref c2, .int cnt]))]) (rest := []) fx hh hl.1 (h_X2_has i0 i1 hi wi fr fc lc fro) yV_X2_has nMX6_92 ⟨rfl, rfl, Nat.le_of_ble_eq_true rfl, Nat.le_of_ble_eq_true rfl⟩ 2 2 rfl rfl rfl [2] [0, 1] [0, 1, 2] rfl rfl rfl (by decide) (by decide) rfl rfl (Nat.le_of_ble_eq_true rfl) ⟨Nat.le_of_ble_eq_true rfl, Nat.le_of_ble_eq_true rfl⟩ (dOk_at dX6_isBondKnown 8 rfl) (fun H locs hh => ?_)
    refine lv_if_eq (pc := 17) (tgt := 36) hx hb (dOk_at dX6_isBondKnown 9 rfl) (by decide) (fun c17 => ?_) (fun c17 => ?_)
    · have hv := hv.1 c17
      refine lv_iconst (pc := 36) (v := 0) hx hb (dOk_at dX6_isBondKnown 17 rfl) (by decide) ?_
      have e0 := hv
      subst e0
      rw [hQ]
      exact r_zret (pc := 37) fx hh rfl (dOk_at dX6_isBondKnown 18 rfl)
    · have hv := hv.2 c17
      refine lv_aload_n (pc := 20) hx hb (dOk_at dX6_isBondKnown 10 rfl) rfl (lv_at hl 0 rfl) ?_
      refine r_get (pc := 21) (ci := 6) fx hh inT6 rfl 4 (by decide) tFX6_41 rfl 0 rfl rfl (dOk_at dX6_isBondKnown 11 rfl) ?_
      refine lv_iload (pc := 24) hx hb (dOk_at dX6_isBondKnown 12 rfl) (lv_at hl 4 rfl) ?_
      refine cl_VN (pc := 26) (w' := [(b0, .inr (6, [.ref bs, .ref x0, .ref d0, .ref r0, .ref i0, .ref c0, .ref j0, .ref e0, .int lf, .int tr])), (c0, .inr (0, [.ref c1, .ref c2, .int cnt])), (i0, .inr (2, [.ref i1, .int hi, .int wi, .int fr, .int fc, .int lc]))]) (wr := [(b0, .inr (6, [.ref bs, .ref x0, .ref d0, .ref r0, .ref i0, .ref c0, .ref j0, .ref e0, .int lf, .int tr])), (c0, .inr (0, [.ref c1, .ref c2, .int cnt]))]) (rest := []) fx hh hl.1 (h_X2_has i0 i1 hi wi fr fc lc to) yV_X2_has nMX6_92 ⟨rfl, rfl, Nat.le_of_ble_eq_true rfl, Nat.le_of_ble_eq_true rfl⟩ 2 2 rfl rfl rfl [2] [0, 1] [0, 1, 2] rfl rfl rfl (by decide) (by decide) rfl rfl (Nat.le_of_ble_eq_true rfl) ⟨Nat.le_of_ble_eq_true rfl, Nat.le_of_ble_eq_true rfl⟩ (dOk_at dX6_isBondKnown 13 rfl) (fun H locs hh => ?_)
      refine lv_if_eq (pc := 29) (tgt := 36) hx hb (dOk_at dX6_isBondKnown 14 rfl) (by decide) (fun c29 => ?_) (fun c29 => ?_)
      · have hv := hv.1 c29
        refine lv_iconst (pc := 36) (v := 0) hx hb (dOk_at dX6_isBondKnown 17 rfl) (by decide) ?_
        have e0 := hv
        subst e0
        rw [hQ]
        exact r_zret (pc := 37) fx hh rfl (dOk_at dX6_isBondKnown 18 rfl)
      · have hv := hv.2 c29
        refine lv_iconst (pc := 32) (v := 1) hx hb (dOk_at dX6_isBondKnown 15 rfl) (by decide) ?_
        refine lv_goto (pc := 33) (tgt := 37) hx hb (dOk_at dX6_isBondKnown 16 rfl) (by decide) ?_
        have e0 := hv
        subst e0
        rw [hQ]
        exact r_zret (pc := 37) fx hh rfl (dOk_at dX6_isBondKnown 18 rfl)
set_option maxRecDepth 100000 in
set_option maxHeartbeats 4000000 in
theorem wk_X6_isBond (l : Launch) (G : GT) (b0 : Nat) (c0 : Nat) (c1 : Nat) (c2 : Nat) (i0 : Nat) (i1 : Nat) (bs : Nat) (x0 : Nat) (d0 : Nat) (r0 : Nat) (j0 : Nat) (e0 : Nat) (lf : Int32) (tr : Int32) (cnt : Int32) (hi : Int32) (wi : Int32) (fr : Int32) (fc : Int32) (lc : Int32) (ck : Nat → Int32) (cwt : Nat → Int32) (str : Nat → Int32) (a : Int32) (b : Int32) (fro : Int32) (to : Int32) (broken : Int32) (R : Int32) (h_X0_load : K_X0_load l G) (h_X2_bearing : K_X2_bearing l G) (h_X2_shortest : K_X2_shortest l G)
    (hv : vp_in a 4 ∧ (okD hi wi ∧ (vp_in b 4 ∧ (okD hi wi ∧ (((s_shortest hi wi fc lc fro to ((s_bearing str (s_load ck cwt a) 0 (hi * wi).toNatClampNeg) &&& (broken ^^^ (-1))) ((s_bearing str (s_load ck cwt b) 0 (hi * wi).toNatClampNeg) &&& (broken ^^^ (-1)))) = (-9) → (0 : Int32) = R) ∧ (¬ (s_shortest hi wi fc lc fro to ((s_bearing str (s_load ck cwt a) 0 (hi * wi).toNatClampNeg) &&& (broken ^^^ (-1))) ((s_bearing str (s_load ck cwt b) 0 (hi * wi).toNatClampNeg) &&& (broken ^^^ (-1)))) = (-9) → (1 : Int32) = R)))))) :
    MF l G yX6_isBond cX6_isBond 8 (some .boolean) rm_X6_isBond [.ref b0, .int a, .int b, .int fro, .int to, .int broken] [(b0, .inr (6, [.ref bs, .ref x0, .ref d0, .ref r0, .ref i0, .ref c0, .ref j0, .ref e0, .int lf, .int tr])), (c0, .inr (0, [.ref c1, .ref c2, .int cnt])), (c1, .inl (G.2.1, 4, .inl ck)), (c2, .inl (G.2.1, 4, .inl cwt)), (i0, .inr (2, [.ref i1, .int hi, .int wi, .int fr, .int fc, .int lc])), (i1, .inl (G.2.1, 20, .inl str))] (some (.int R)) [(b0, .inr (6, [.ref bs, .ref x0, .ref d0, .ref r0, .ref i0, .ref c0, .ref j0, .ref e0, .int lf, .int tr])), (c0, .inr (0, [.ref c1, .ref c2, .int cnt])), (c1, .inl (G.2.1, 4, .inl ck)), (c2, .inl (G.2.1, 4, .inl cwt)), (i0, .inr (2, [.ref i1, .int hi, .int wi, .int fr, .int fc, .int lc])), (i1, .inl (G.2.1, 20, .inl str))] := by
  refine MF.of (by decide +kernel) (Nat.le_of_ble_eq_true rfl) ?_
  intro p e s m args below meth c A ls fx hh hl _
  have hx := fx.hx
  have hb := fx.hb
  have hl : lv_has ls 8 [(0, .ref b0), (1, .int a), (2, .int b), (3, .int fro), (4, .int to), (5, .int broken)] := hl
  obtain ⟨Q, hQ⟩ : ∃ Q, Q = ZZ G A (some (.int R)) [(b0, .inr (6, [.ref bs, .ref x0, .ref d0, .ref r0, .ref i0, .ref c0, .ref j0, .ref e0, .int lf, .int tr])), (c0, .inr (0, [.ref c1, .ref c2, .int cnt])), (c1, .inl (G.2.1, 4, .inl ck)), (c2, .inl (G.2.1, 4, .inl cwt)), (i0, .inr (2, [.ref i1, .int hi, .int wi, .int fr, .int fc, .int lc])), (i1, .inl (G.2.1, 20, .inl str))] below args s := ⟨_, rfl⟩
  rw [← hQ]
  refine lv_aload_n (pc := 0) hx hb (dOk_at dX6_isBond 0 rfl) rfl (lv_at hl 0 rfl) ?_
  refine r_get (pc := 1) (ci := 6) fx hh inT6 rfl 4 (by decide) tFX6_41 rfl 0 rfl rfl (dOk_at dX6_isBond 1 rfl) ?_
  refine lv_aload_n (pc := 4) hx hb (dOk_at dX6_isBond 2 rfl) rfl (lv_at hl 0 rfl) ?_
  refine r_get (pc := 5) (ci := 6) fx hh inT6 rfl 5 (by decide) tFX6_48 rfl 0 rfl rfl (dOk_at dX6_isBond 3 rfl) ?_
  refine lv_iload_n (pc := 8) hx hb (dOk_at dX6_isBond 4 rfl) rfl (lv_at hl 1 rfl) ?_
  refine cl_VN (pc := 9) (w' := [(b0, .inr (6, [.ref bs, .ref x0, .ref d0, .ref r0, .ref i0, .ref c0, .ref j0, .ref e0, .int lf, .int tr])), (c0, .inr (0, [.ref c1, .ref c2, .int cnt])), (c1, .inl (G.2.1, 4, .inl ck)), (c2, .inl (G.2.1, 4, .inl cwt)), (i0, .inr (2, [.ref i1, .int hi, .int wi, .int fr, .int fc, .int lc])), (i1, .inl (G.2.1, 20, .inl str))]) (wr := [(b0, .inr (6, [.ref bs, .ref x0, .ref d0, .ref r0, .ref i0, .ref c0, .ref j0, .ref e0, .int lf, .int tr])), (i0, .inr (2, [.ref i1, .int hi, .int wi, .int fr, .int fc, .int lc])), (i1, .inl (G.2.1, 20, .inl str))]) (rest := [.ref i0]) fx hh hl.1 (h_X0_load c0 c1 c2 cnt a ck cwt hv.1) yV_X0_load nMX6_85 ⟨rfl, rfl, Nat.le_of_ble_eq_true rfl, Nat.le_of_ble_eq_true rfl⟩ 1 0 rfl rfl rfl [1, 2, 3] [0, 4, 5] [0, 3, 4, 5, 1, 2] rfl rfl rfl (by decide) (by decide) rfl rfl (Nat.le_of_ble_eq_true rfl) ⟨Nat.le_of_ble_eq_true rfl, Nat.le_of_ble_eq_true rfl⟩ (dOk_at dX6_isBond 5 rfl) (fun H locs hh => ?_)
  have hv := hv.2
  refine lv_iconst (pc := 12) (v := 0) hx hb (dOk_at dX6_isBond 6 rfl) (by decide) ?_
  refine cl_VN (pc := 13) (w' := [(b0, .inr (6, [.ref bs, .ref x0, .ref d0, .ref r0, .ref i0, .ref c0, .ref j0, .ref e0, .int lf, .int tr])), (c0, .inr (0, [.ref c1, .ref c2, .int cnt])), (c1, .inl (G.2.1, 4, .inl ck)), (c2, .inl (G.2.1, 4, .inl cwt)), (i0, .inr (2, [.ref i1, .int hi, .int wi, .int fr, .int fc, .int lc])), (i1, .inl (G.2.1, 20, .inl str))]) (wr := [(b0, .inr (6, [.ref bs, .ref x0, .ref d0, .ref r0, .ref i0, .ref c0, .ref j0, .ref e0, .int lf, .int tr])), (c0, .inr (0, [.ref c1, .ref c2, .int cnt])), (c1, .inl (G.2.1, 4, .inl ck)), (c2, .inl (G.2.1, 4, .inl cwt))]) (rest := []) fx hh hl.1 (h_X2_bearing i0 i1 hi wi fr fc lc (s_load ck cwt a) 0 str hv.1) yV_X2_bearing nMX6_88 ⟨rfl, rfl, Nat.le_of_ble_eq_true rfl, Nat.le_of_ble_eq_true rfl⟩ 4 2 rfl rfl rfl [4, 5] [0, 1, 2, 3] [0, 1, 2, 3, 4, 5] rfl rfl rfl (by decide) (by decide) rfl rfl (Nat.le_of_ble_eq_true rfl) ⟨Nat.le_of_ble_eq_true rfl, Nat.le_of_ble_eq_true rfl⟩ (dOk_at dX6_isBond 7 rfl) (fun H locs hh => ?_)
  have hv := hv.2
  refine lv_iload (pc := 16) hx hb (dOk_at dX6_isBond 8 rfl) (lv_at hl 5 rfl) ?_
  refine lv_iconst (pc := 18) (v := (-1)) hx hb (dOk_at dX6_isBond 9 rfl) (by decide) ?_
  refine lv_ixor (pc := 19) hx hb (dOk_at dX6_isBond 10 rfl) ?_
  refine lv_iand (pc := 20) hx hb (dOk_at dX6_isBond 11 rfl) ?_
  refine lv_istore (pc := 21) (lv' := [(6, .int ((s_bearing str (s_load ck cwt a) 0 (hi * wi).toNatClampNeg) &&& (broken ^^^ (-1)))), (0, .ref b0), (1, .int a), (2, .int b), (3, .int fro), (4, .int to), (5, .int broken)]) hx hb (dOk_at dX6_isBond 12 rfl) hl (by decide) rfl (fun ls hl => ?_)
  refine lv_aload_n (pc := 23) hx hb (dOk_at dX6_isBond 13 rfl) rfl (lv_at hl 1 rfl) ?_
  refine r_get (pc := 24) (ci := 6) fx hh inT6 rfl 4 (by decide) tFX6_41 rfl 0 rfl rfl (dOk_at dX6_isBond 14 rfl) ?_
  refine lv_aload_n (pc := 27) hx hb (dOk_at dX6_isBond 15 rfl) rfl (lv_at hl 1 rfl) ?_
  refine r_get (pc := 28) (ci := 6) fx hh inT6 rfl 5 (by decide) tFX6_48 rfl 0 rfl rfl (dOk_at dX6_isBond 16 rfl) ?_
  refine lv_iload_n (pc := 31) hx hb (dOk_at dX6_isBond 17 rfl) rfl (lv_at hl 3 rfl) ?_
  refine cl_VN (pc := 32) (w' := [(b0, .inr (6, [.ref bs, .ref x0, .ref d0, .ref r0, .ref i0, .ref c0, .ref j0, .ref e0, .int lf, .int tr])), (c0, .inr (0, [.ref c1, .ref c2, .int cnt])), (c1, .inl (G.2.1, 4, .inl ck)), (c2, .inl (G.2.1, 4, .inl cwt)), (i0, .inr (2, [.ref i1, .int hi, .int wi, .int fr, .int fc, .int lc])), (i1, .inl (G.2.1, 20, .inl str))]) (wr := [(b0, .inr (6, [.ref bs, .ref x0, .ref d0, .ref r0, .ref i0, .ref c0, .ref j0, .ref e0, .int lf, .int tr])), (i0, .inr (2, [.ref i1, .int hi, .int wi, .int fr, .int fc, .int lc])), (i1, .inl (G.2.1, 20, .inl str))]) (rest := [.ref i0]) fx hh hl.1 (h_X0_load c0 c1 c2 cnt b ck cwt hv.1) yV_X0_load nMX6_85 ⟨rfl, rfl, Nat.le_of_ble_eq_true rfl, Nat.le_of_ble_eq_true rfl⟩ 1 0 rfl rfl rfl [1, 2, 3] [0, 4, 5] [0, 3, 4, 5, 1, 2] rfl rfl rfl (by decide) (by decide) rfl rfl (Nat.le_of_ble_eq_true rfl) ⟨Nat.le_of_ble_eq_true rfl, Nat.le_of_ble_eq_true rfl⟩ (dOk_at dX6_isBond 18 rfl) (fun H locs hh => ?_)
  have hv := hv.2
  refine lv_iconst (pc := 35) (v := 0) hx hb (dOk_at dX6_isBond 19 rfl) (by decide) ?_
  refine cl_VN (pc := 36) (w' := [(b0, .inr (6, [.ref bs, .ref x0, .ref d0, .ref r0, .ref i0, .ref c0, .ref j0, .ref e0, .int lf, .int tr])), (c0, .inr (0, [.ref c1, .ref c2, .int cnt])), (c1, .inl (G.2.1, 4, .inl ck)), (c2, .inl (G.2.1, 4, .inl cwt)), (i0, .inr (2, [.ref i1, .int hi, .int wi, .int fr, .int fc, .int lc])), (i1, .inl (G.2.1, 20, .inl str))]) (wr := [(b0, .inr (6, [.ref bs, .ref x0, .ref d0, .ref r0, .ref i0, .ref c0, .ref j0, .ref e0, .int lf, .int tr])), (c0, .inr (0, [.ref c1, .ref c2, .int cnt])), (c1, .inl (G.2.1, 4, .inl ck)), (c2, .inl (G.2.1, 4, .inl cwt))]) (rest := []) fx hh hl.1 (h_X2_bearing i0 i1 hi wi fr fc lc (s_load ck cwt b) 0 str hv.1) yV_X2_bearing nMX6_88 ⟨rfl, rfl, Nat.le_of_ble_eq_true rfl, Nat.le_of_ble_eq_true rfl⟩ 4 2 rfl rfl rfl [4, 5] [0, 1, 2, 3] [0, 1, 2, 3, 4, 5] rfl rfl rfl (by decide) (by decide) rfl rfl (Nat.le_of_ble_eq_true rfl) ⟨Nat.le_of_ble_eq_true rfl, Nat.le_of_ble_eq_true rfl⟩ (dOk_at dX6_isBond 20 rfl) (fun H locs hh => ?_)
  have hv := hv.2
  refine lv_iload (pc := 39) hx hb (dOk_at dX6_isBond 21 rfl) (lv_at hl 6 rfl) ?_
  refine lv_iconst (pc := 41) (v := (-1)) hx hb (dOk_at dX6_isBond 22 rfl) (by decide) ?_
  refine lv_ixor (pc := 42) hx hb (dOk_at dX6_isBond 23 rfl) ?_
  refine lv_iand (pc := 43) hx hb (dOk_at dX6_isBond 24 rfl) ?_
  refine lv_istore (pc := 44) (lv' := [(7, .int ((s_bearing str (s_load ck cwt b) 0 (hi * wi).toNatClampNeg) &&& (broken ^^^ (-1)))), (6, .int ((s_bearing str (s_load ck cwt a) 0 (hi * wi).toNatClampNeg) &&& (broken ^^^ (-1)))), (0, .ref b0), (1, .int a), (2, .int b), (3, .int fro), (4, .int to), (5, .int broken)]) hx hb (dOk_at dX6_isBond 25 rfl) hl (by decide) rfl (fun ls hl => ?_)
  refine lv_aload_n (pc := 46) hx hb (dOk_at dX6_isBond 26 rfl) rfl (lv_at hl 2 rfl) ?_
  refine r_get (pc := 47) (ci := 6) fx hh inT6 rfl 4 (by decide) tFX6_41 rfl 0 rfl rfl (dOk_at dX6_isBond 27 rfl) ?_
  refine lv_iload_n (pc := 50) hx hb (dOk_at dX6_isBond 28 rfl) rfl (lv_at hl 5 rfl) ?_
  refine lv_iload (pc := 51) hx hb (dOk_at dX6_isBond 29 rfl) (lv_at hl 6 rfl) ?_
  refine lv_iload (pc := 53) hx hb (dOk_at dX6_isBond 30 rfl) (lv_at hl 1 rfl) ?_
  refine lv_iload (pc := 55) hx hb (dOk_at dX6_isBond 31 rfl) (lv_at hl 0 rfl) ?_
  refine cl_VN (pc := 57) (w' := [(b0, .inr (6, [.ref bs, .ref x0, .ref d0, .ref r0, .ref i0, .ref c0, .ref j0, .ref e0, .int lf, .int tr])), (c0, .inr (0, [.ref c1, .ref c2, .int cnt])), (c1, .inl (G.2.1, 4, .inl ck)), (c2, .inl (G.2.1, 4, .inl cwt)), (i0, .inr (2, [.ref i1, .int hi, .int wi, .int fr, .int fc, .int lc])), (i1, .inl (G.2.1, 20, .inl str))]) (wr := [(b0, .inr (6, [.ref bs, .ref x0, .ref d0, .ref r0, .ref i0, .ref c0, .ref j0, .ref e0, .int lf, .int tr])), (c0, .inr (0, [.ref c1, .ref c2, .int cnt])), (c1, .inl (G.2.1, 4, .inl ck)), (c2, .inl (G.2.1, 4, .inl cwt)), (i1, .inl (G.2.1, 20, .inl str))]) (rest := []) fx hh hl.1 (h_X2_shortest i0 i1 hi wi fr fc lc fro to ((s_bearing str (s_load ck cwt a) 0 (hi * wi).toNatClampNeg) &&& (broken ^^^ (-1))) ((s_bearing str (s_load ck cwt b) 0 (hi * wi).toNatClampNeg) &&& (broken ^^^ (-1)))) yV_X2_shortest nMX6_137 ⟨rfl, rfl, Nat.le_of_ble_eq_true rfl, Nat.le_of_ble_eq_true rfl⟩ 4 2 rfl rfl rfl [4] [0, 1, 2, 3, 5] [0, 1, 2, 3, 5, 4] rfl rfl rfl (by decide) (by decide) rfl rfl (Nat.le_of_ble_eq_true rfl) ⟨Nat.le_of_ble_eq_true rfl, Nat.le_of_ble_eq_true rfl⟩ (dOk_at dX6_isBond 32 rfl) (fun H locs hh => ?_)
  refine lv_bipush (pc := 60) (v := (-9)) hx hb (dOk_at dX6_isBond 33 rfl) (by decide) ?_
  refine lv_icmp_eq (pc := 62) (tgt := 69) hx hb (dOk_at dX6_isBond 34 rfl) (by decide) (fun c62 => ?_) (fun c62 => ?_)
  · have hv := hv.1 c62
    refine lv_iconst (pc := 69) (v := 0) hx hb (dOk_at dX6_isBond 37 rfl) (by decide) ?_
    have e0 := hv
    subst e0
    rw [hQ]
    exact r_zret (pc := 70) fx hh rfl (dOk_at dX6_isBond 38 rfl)
  · have hv := hv.2 c62
    refine lv_iconst (pc := 65) (v := 1) hx hb (dOk_at dX6_isBond 35 rfl) (by decide) ?_
    refine lv_goto (pc := 66) (tgt := 70) hx hb (dOk_at dX6_isBond 36 rfl) (by decide) ?_
    have e0 := hv
    subst e0
    rw [hQ]
    exact r_zret (pc := 70) fx hh rfl (dOk_at dX6_isBond 38 rfl)
set_option maxRecDepth 100000 in
set_option maxHeartbeats 4000000 in
theorem wk_X6_bondsAsBreaking (l : Launch) (G : GT) (b0 : Nat) (c0 : Nat) (c1 : Nat) (c2 : Nat) (i0 : Nat) (i1 : Nat) (bs : Nat) (x0 : Nat) (d0 : Nat) (r0 : Nat) (j0 : Nat) (e0 : Nat) (lf : Int32) (tr : Int32) (cnt : Int32) (hi : Int32) (wi : Int32) (fr : Int32) (fc : Int32) (lc : Int32) (ck : Nat → Int32) (cwt : Nat → Int32) (str : Nat → Int32) (a : Int32) (b : Int32) (fro : Int32) (to : Int32) (set : Int32) (R : Int32) (J9 : Nat → Int32 → Int32 → Int32 → Prop) (h_J6_bitCount_0f7a4 : K_J6_bitCount_0f7a4 l G) (h_X6_isBond : K_X6_isBond l G)
    (hv : ∃ k2 : Nat, J9 k2 0 0 0)
    (hv9 : ∀ (n9 : Nat) (x9_6 : Int32) (x9_7 : Int32) (x9_8 : Int32), J9 n9 x9_6 x9_7 x9_8 → (((1 : Int32) <<< ((s_bitCount set) &&& 31)) ≤ x9_8 → x9_6 = R) ∧ (¬ ((1 : Int32) <<< ((s_bitCount set) &&& 31)) ≤ x9_8 → okD hi wi ∧ vp_in a 4 ∧ vp_in b 4 ∧ ((∀ (v42 : Int32), v42 = (if (x_isBd hi wi fc lc str ck cwt a b fro to x9_7) = 0 then (0 : Int32) else (1 : Int32)) → ∃ k1 : Nat, k1 < n9 ∧ J9 k1 (x9_6 + v42) ((x9_7 - set) &&& set) (x9_8 + 1))))) :
    MF l G yX6_bondsAsBreaking cX6_bondsAsBreaking 9 (some .int) rm_X6_bondsAsBreaking [.ref b0, .int a, .int b, .int fro, .int to, .int set] [(b0, .inr (6, [.ref bs, .ref x0, .ref d0, .ref r0, .ref i0, .ref c0, .ref j0, .ref e0, .int lf, .int tr])), (c0, .inr (0, [.ref c1, .ref c2, .int cnt])), (c1, .inl (G.2.1, 4, .inl ck)), (c2, .inl (G.2.1, 4, .inl cwt)), (i0, .inr (2, [.ref i1, .int hi, .int wi, .int fr, .int fc, .int lc])), (i1, .inl (G.2.1, 20, .inl str))] (some (.int R)) [(b0, .inr (6, [.ref bs, .ref x0, .ref d0, .ref r0, .ref i0, .ref c0, .ref j0, .ref e0, .int lf, .int tr])), (c0, .inr (0, [.ref c1, .ref c2, .int cnt])), (c1, .inl (G.2.1, 4, .inl ck)), (c2, .inl (G.2.1, 4, .inl cwt)), (i0, .inr (2, [.ref i1, .int hi, .int wi, .int fr, .int fc, .int lc])), (i1, .inl (G.2.1, 20, .inl str))] := by
  refine MF.of (by decide +kernel) (Nat.le_of_ble_eq_true rfl) ?_
  intro p e s m args below meth c A ls fx hh hl _
  have hx := fx.hx
  have hb := fx.hb
  have hl : lv_has ls 9 [(0, .ref b0), (1, .int a), (2, .int b), (3, .int fro), (4, .int to), (5, .int set)] := hl
  obtain ⟨Q, hQ⟩ : ∃ Q, Q = ZZ G A (some (.int R)) [(b0, .inr (6, [.ref bs, .ref x0, .ref d0, .ref r0, .ref i0, .ref c0, .ref j0, .ref e0, .int lf, .int tr])), (c0, .inr (0, [.ref c1, .ref c2, .int cnt])), (c1, .inl (G.2.1, 4, .inl ck)), (c2, .inl (G.2.1, 4, .inl cwt)), (i0, .inr (2, [.ref i1, .int hi, .int wi, .int fr, .int fc, .int lc])), (i1, .inl (G.2.1, 20, .inl str))] below args s := ⟨_, rfl⟩
  rw [← hQ]
  have lp9 : ∀ (n9 : Nat) (x9_6 : Int32) (x9_7 : Int32) (x9_8 : Int32), J9 n9 x9_6 x9_7 x9_8 → ∀ (H : Heap) (locs : List Loc) (ls : Array Slot), HP G A [(b0, .inr (6, [.ref bs, .ref x0, .ref d0, .ref r0, .ref i0, .ref c0, .ref j0, .ref e0, .int lf, .int tr])), (c0, .inr (0, [.ref c1, .ref c2, .int cnt])), (c1, .inl (G.2.1, 4, .inl ck)), (c2, .inl (G.2.1, 4, .inl cwt)), (i0, .inr (2, [.ref i1, .int hi, .int wi, .int fr, .int fc, .int lc])), (i1, .inl (G.2.1, 20, .inl str))] s H locs → lv_has ls 9 [(0, .ref b0), (1, .int a), (2, .int b), (3, .int fro), (4, .int to), (5, .int set), (6, .int x9_6), (7, .int x9_7), (8, .int x9_8)] → W p l e rm_X6_bondsAsBreaking s m args below meth c H locs 0 0 Q (F0 m 9 ls []) := by
    intro n9
    induction n9 using Nat.strongRecOn with
    | ind n9 ih9 =>
      intro x9_6 x9_7 x9_8 hj9 H locs ls hh hl
      have hv := hv9 n9 x9_6 x9_7 x9_8 hj9
      refine lv_iload (pc := 9) hx hb (dOk_at dX6_bondsAsBreaking 6 rfl) (lv_at hl 8 rfl) ?_
      refine lv_iconst (pc := 11) (v := 1) hx hb (dOk_at dX6_bondsAsBreaking 7 rfl) (by decide) ?_
      refine lv_iload (pc := 12) hx hb (dOk_at dX6_bondsAsBreaking 8 rfl) (lv_at hl 5 rfl) ?_
      refine cl_S (pc := 14) (w' := [(b0, .inr (6, [.ref bs, .ref x0, .ref d0, .ref r0, .ref i0, .ref c0, .ref j0, .ref e0, .int lf, .int tr])), (c0, .inr (0, [.ref c1, .ref c2, .int cnt])), (c1, .inl (G.2.1, 4, .inl ck)), (c2, .inl (G.2.1, 4, .inl cwt)), (i0, .inr (2, [.ref i1, .int hi, .int wi, .int fr, .int fc, .int lc])), (i1, .inl (G.2.1, 20, .inl str))]) (wr := [(b0, .inr (6, [.ref bs, .ref x0, .ref d0, .ref r0, .ref i0, .ref c0, .ref j0, .ref e0, .int lf, .int tr])), (c0, .inr (0, [.ref c1, .ref c2, .int cnt])), (c1, .inl (G.2.1, 4, .inl ck)), (c2, .inl (G.2.1, 4, .inl cwt)), (i0, .inr (2, [.ref i1, .int hi, .int wi, .int fr, .int fc, .int lc])), (i1, .inl (G.2.1, 20, .inl str))]) (rest := [.int 1, .int x9_8]) fx hh hl.1 (h_J6_bitCount_0f7a4 set) yS_J6_bitCount_0f7a4 tMX6_170 ⟨rfl, rfl, Nat.le_of_ble_eq_true rfl, Nat.le_of_ble_eq_true rfl⟩ [] [0, 1, 2, 3, 4, 5] [0, 1, 2, 3, 4, 5] rfl rfl rfl (by decide) (by decide) rfl rfl (Nat.le_of_ble_eq_true rfl) ⟨Nat.le_of_ble_eq_true rfl, Nat.le_of_ble_eq_true rfl⟩ (dOk_at dX6_bondsAsBreaking 9 rfl) (fun H locs hh => ?_)
      refine lv_ishl (pc := 17) hx hb (dOk_at dX6_bondsAsBreaking 10 rfl) ?_
      refine lv_icmp_ge (pc := 18) (tgt := 61) hx hb (dOk_at dX6_bondsAsBreaking 11 rfl) (by decide) (fun c18 => ?_) (fun c18 => ?_)
      · have hv := hv.1 c18
        refine lv_iload (pc := 61) hx hb (dOk_at dX6_bondsAsBreaking 34 rfl) (lv_at hl 6 rfl) ?_
        have e0 := hv
        subst e0
        rw [hQ]
        exact r_iret (pc := 63) fx hh (dOk_at dX6_bondsAsBreaking 35 rfl)
      · have hv := hv.2 c18
        refine lv_iload (pc := 21) hx hb (dOk_at dX6_bondsAsBreaking 12 rfl) (lv_at hl 6 rfl) ?_
        refine lv_aload_n (pc := 23) hx hb (dOk_at dX6_bondsAsBreaking 13 rfl) rfl (lv_at hl 0 rfl) ?_
        refine lv_iload_n (pc := 24) hx hb (dOk_at dX6_bondsAsBreaking 14 rfl) rfl (lv_at hl 1 rfl) ?_
        refine lv_iload_n (pc := 25) hx hb (dOk_at dX6_bondsAsBreaking 15 rfl) rfl (lv_at hl 2 rfl) ?_
        refine lv_iload_n (pc := 26) hx hb (dOk_at dX6_bondsAsBreaking 16 rfl) rfl (lv_at hl 3 rfl) ?_
        refine lv_iload (pc := 27) hx hb (dOk_at dX6_bondsAsBreaking 17 rfl) (lv_at hl 4 rfl) ?_
        refine lv_iload (pc := 29) hx hb (dOk_at dX6_bondsAsBreaking 18 rfl) (lv_at hl 7 rfl) ?_
        refine cl_V (pc := 31) (w' := [(b0, .inr (6, [.ref bs, .ref x0, .ref d0, .ref r0, .ref i0, .ref c0, .ref j0, .ref e0, .int lf, .int tr])), (c0, .inr (0, [.ref c1, .ref c2, .int cnt])), (c1, .inl (G.2.1, 4, .inl ck)), (c2, .inl (G.2.1, 4, .inl cwt)), (i0, .inr (2, [.ref i1, .int hi, .int wi, .int fr, .int fc, .int lc])), (i1, .inl (G.2.1, 20, .inl str))]) (wr := []) (rest := [.int x9_6]) fx hh hl.1 (h_X6_isBond b0 c0 c1 c2 i0 i1 bs x0 d0 r0 j0 e0 lf tr cnt hi wi fr fc lc ck cwt str a b fro to x9_7 hv.1 hv.2.1 hv.2.2.1) yV_X6_isBond tMX6_147 ⟨rfl, rfl, Nat.le_of_ble_eq_true rfl, Nat.le_of_ble_eq_true rfl⟩ 0 6 rfl rfl rfl [0, 1, 2, 3, 4, 5] [] [0, 1, 2, 3, 4, 5] rfl rfl rfl (by decide) (by decide) rfl rfl (Nat.le_of_ble_eq_true rfl) ⟨Nat.le_of_ble_eq_true rfl, Nat.le_of_ble_eq_true rfl⟩ (dOk_at dX6_bondsAsBreaking 19 rfl) (fun H locs hh => ?_)
        have hv := hv.2.2.2
        have k42_34 : ∀ (v42 : Int32), v42 = (if (x_isBd hi wi fc lc str ck cwt a b fro to x9_7) = 0 then (0 : Int32) else (1 : Int32)) → ∀ (H : Heap) (locs : List Loc) (ls : Array Slot), HP G A [(b0, .inr (6, [.ref bs, .ref x0, .ref d0, .ref r0, .ref i0, .ref c0, .ref j0, .ref e0, .int lf, .int tr])), (c0, .inr (0, [.ref c1, .ref c2, .int cnt])), (c1, .inl (G.2.1, 4, .inl ck)), (c2, .inl (G.2.1, 4, .inl cwt)), (i0, .inr (2, [.ref i1, .int hi, .int wi, .int fr, .int fc, .int lc])), (i1, .inl (G.2.1, 20, .inl str))] s H locs → lv_has ls 9 [(0, .ref b0), (1, .int a), (2, .int b), (3, .int fro), (4, .int to), (5, .int set), (7, .int x9_7), (8, .int x9_8)] → W p l e rm_X6_bondsAsBreaking s m args below meth c H locs 0 0 Q (F0 m 42 ls [.int v42, .int x9_6]) := by
          intro v42 e42_0 H locs ls hh hl
          have hv := hv v42 e42_0
          refine lv_iadd (pc := 42) hx hb (dOk_at dX6_bondsAsBreaking 24 rfl) ?_
          refine lv_istore (pc := 43) (lv' := [(6, .int (x9_6 + v42)), (0, .ref b0), (1, .int a), (2, .int b), (3, .int fro), (4, .int to), (5, .int set), (7, .int x9_7), (8, .int x9_8)]) hx hb (dOk_at dX6_bondsAsBreaking 25 rfl) hl (by decide) rfl (fun ls hl => ?_)
          refine lv_iload (pc := 45) hx hb (dOk_at dX6_bondsAsBreaking 26 rfl) (lv_at hl 7 rfl) ?_
          refine lv_iload (pc := 47) hx hb (dOk_at dX6_bondsAsBreaking 27 rfl) (lv_at hl 6 rfl) ?_
          refine lv_isub (pc := 49) hx hb (dOk_at dX6_bondsAsBreaking 28 rfl) ?_
          refine lv_iload (pc := 50) hx hb (dOk_at dX6_bondsAsBreaking 29 rfl) (lv_at hl 6 rfl) ?_
          refine lv_iand (pc := 52) hx hb (dOk_at dX6_bondsAsBreaking 30 rfl) ?_
          refine lv_istore (pc := 53) (lv' := [(7, .int ((x9_7 - set) &&& set)), (6, .int (x9_6 + v42)), (0, .ref b0), (1, .int a), (2, .int b), (3, .int fro), (4, .int to), (5, .int set), (8, .int x9_8)]) hx hb (dOk_at dX6_bondsAsBreaking 31 rfl) hl (by decide) rfl (fun ls hl => ?_)
          refine lv_iinc (pc := 55) (v := x9_8 + 1) (lv' := [(8, .int (x9_8 + 1)), (7, .int ((x9_7 - set) &&& set)), (6, .int (x9_6 + v42)), (0, .ref b0), (1, .int a), (2, .int b), (3, .int fro), (4, .int to), (5, .int set)]) hx hb (dOk_at dX6_bondsAsBreaking 32 rfl) hl (k := 8) rfl rfl (by decide) rfl (fun ls hl => ?_)
          refine lv_goto (pc := 58) (tgt := 9) hx hb (dOk_at dX6_bondsAsBreaking 33 rfl) (by decide) ?_
          obtain ⟨k0, hk0, hj0⟩ := hv
          exact ih9 k0 hk0 (x9_6 + v42) ((x9_7 - set) &&& set) (x9_8 + 1) hj0 _ _ _ hh (lv_sub hl [3, 4, 5, 6, 7, 8, 2, 1, 0] rfl)
        refine lv_if_eq (pc := 34) (tgt := 41) hx hb (dOk_at dX6_bondsAsBreaking 20 rfl) (by decide) (fun c34 => ?_) (fun c34 => ?_)
        · refine lv_iconst (pc := 41) (v := 0) hx hb (dOk_at dX6_bondsAsBreaking 23 rfl) (by decide) ?_
          exact k42_34 _ (if_pos c34).symm _ _ _ hh (lv_sub hl [0, 1, 2, 3, 4, 5, 7, 8] rfl)
        · refine lv_iconst (pc := 37) (v := 1) hx hb (dOk_at dX6_bondsAsBreaking 21 rfl) (by decide) ?_
          refine lv_goto (pc := 38) (tgt := 42) hx hb (dOk_at dX6_bondsAsBreaking 22 rfl) (by decide) ?_
          exact k42_34 _ (if_neg c34).symm _ _ _ hh (lv_sub hl [0, 1, 2, 3, 4, 5, 7, 8] rfl)
  refine lv_iconst (pc := 0) (v := 0) hx hb (dOk_at dX6_bondsAsBreaking 0 rfl) (by decide) ?_
  refine lv_istore (pc := 1) (lv' := [(6, .int 0), (0, .ref b0), (1, .int a), (2, .int b), (3, .int fro), (4, .int to), (5, .int set)]) hx hb (dOk_at dX6_bondsAsBreaking 1 rfl) hl (by decide) rfl (fun ls hl => ?_)
  refine lv_iconst (pc := 3) (v := 0) hx hb (dOk_at dX6_bondsAsBreaking 2 rfl) (by decide) ?_
  refine lv_istore (pc := 4) (lv' := [(7, .int 0), (6, .int 0), (0, .ref b0), (1, .int a), (2, .int b), (3, .int fro), (4, .int to), (5, .int set)]) hx hb (dOk_at dX6_bondsAsBreaking 3 rfl) hl (by decide) rfl (fun ls hl => ?_)
  refine lv_iconst (pc := 6) (v := 0) hx hb (dOk_at dX6_bondsAsBreaking 4 rfl) (by decide) ?_
  refine lv_istore (pc := 7) (lv' := [(8, .int 0), (7, .int 0), (6, .int 0), (0, .ref b0), (1, .int a), (2, .int b), (3, .int fro), (4, .int to), (5, .int set)]) hx hb (dOk_at dX6_bondsAsBreaking 5 rfl) hl (by decide) rfl (fun ls hl => ?_)
  obtain ⟨k0, hj0⟩ := hv
  exact lp9 k0 0 0 0 hj0 _ _ _ hh (lv_sub hl [3, 4, 5, 6, 7, 8, 2, 1, 0] rfl)
set_option maxRecDepth 100000 in
set_option maxHeartbeats 4000000 in
theorem wk_X6_newRow (l : Launch) (G : GT) (b0 : Nat) (bs : Nat) (s0 : Nat) (s1 : Nat) (x0 : Nat) (d0 : Nat) (r0 : Nat) (i0 : Nat) (c0 : Nat) (j0 : Nat) (e0 : Nat) (lf : Int32) (tr : Int32) (sla : Int32) (sle : Int32) (sn : Nat → Int32) (sh : Nat → Option Nat) (k : Int32) (lane : Int32) (n : Int32) (R : Int32) (t2_1 : Int32) (t2_2 : Int32) (t3 : Nat → Int32) (h_X4_begin : K_X4_begin l G) (h_X6_isWithin : K_X6_isWithin l G) (h_X6_sheetAt : K_X6_sheetAt l G)
    (hv : s_shAt sh k = (some s0) ∧ (s_in k 0 3 = 0 ∨ vp_in k 4) ∧ (((s_in lane 0 2) = 0 → (-2 : Int32) = R ∧ sla = t2_1 ∧ sle = t2_2 ∧ sn = t3) ∧ (¬ (s_in lane 0 2) = 0 → (n ≤ 60 → (0 ≤ n → (1 : Int32) = R ∧ lane = t2_1 ∧ n = t2_2 ∧ (s_fill 0 sn) = t3) ∧ (¬ 0 ≤ n → (-14 : Int32) = R ∧ sla = t2_1 ∧ sle = t2_2 ∧ sn = t3)) ∧ (¬ n ≤ 60 → (-2 : Int32) = R ∧ sla = t2_1 ∧ sle = t2_2 ∧ sn = t3)))) :
    MF l G yX6_newRow cX6_newRow 5 (some .int) rm_X6_newRow [.ref b0, .int k, .int lane, .int n] [(b0, .inr (6, [.ref bs, .ref x0, .ref d0, .ref r0, .ref i0, .ref c0, .ref j0, .ref e0, .int lf, .int tr])), (bs, .inl (G.2.2.2, 4, .inr (.inr (.inr (.inr sh))))), (s0, .inr (4, [.ref s1, .int sla, .int sle])), (s1, .inl (G.2.1, 60, .inl sn))] (some (.int R)) [(b0, .inr (6, [.ref bs, .ref x0, .ref d0, .ref r0, .ref i0, .ref c0, .ref j0, .ref e0, .int lf, .int tr])), (bs, .inl (G.2.2.2, 4, .inr (.inr (.inr (.inr sh))))), (s0, .inr (4, [.ref s1, .int t2_1, .int t2_2])), (s1, .inl (G.2.1, 60, .inl t3))] := by
  refine MF.of (by decide +kernel) (Nat.le_of_ble_eq_true rfl) ?_
  intro p e s m args below meth c A ls fx hh hl _
  have hx := fx.hx
  have hb := fx.hb
  have hl : lv_has ls 5 [(0, .ref b0), (1, .int k), (2, .int lane), (3, .int n)] := hl
  obtain ⟨Q, hQ⟩ : ∃ Q, Q = ZZ G A (some (.int R)) [(b0, .inr (6, [.ref bs, .ref x0, .ref d0, .ref r0, .ref i0, .ref c0, .ref j0, .ref e0, .int lf, .int tr])), (bs, .inl (G.2.2.2, 4, .inr (.inr (.inr (.inr sh))))), (s0, .inr (4, [.ref s1, .int t2_1, .int t2_2])), (s1, .inl (G.2.1, 60, .inl t3))] below args s := ⟨_, rfl⟩
  rw [← hQ]
  refine lv_aload_n (pc := 0) hx hb (dOk_at dX6_newRow 0 rfl) rfl (lv_at hl 0 rfl) ?_
  refine lv_iload_n (pc := 1) hx hb (dOk_at dX6_newRow 1 rfl) rfl (lv_at hl 1 rfl) ?_
  refine cl_V (pc := 2) (w' := [(b0, .inr (6, [.ref bs, .ref x0, .ref d0, .ref r0, .ref i0, .ref c0, .ref j0, .ref e0, .int lf, .int tr])), (bs, .inl (G.2.2.2, 4, .inr (.inr (.inr (.inr sh))))), (s0, .inr (4, [.ref s1, .int sla, .int sle])), (s1, .inl (G.2.1, 60, .inl sn))]) (wr := [(s0, .inr (4, [.ref s1, .int sla, .int sle])), (s1, .inl (G.2.1, 60, .inl sn))]) (rest := []) fx hh hl.1 (h_X6_sheetAt b0 bs x0 d0 r0 i0 c0 j0 e0 lf tr sh k (some s0) hv.1 hv.2.1) yV_X6_sheetAt tMX6_182 ⟨rfl, rfl, Nat.le_of_ble_eq_true rfl, Nat.le_of_ble_eq_true rfl⟩ 0 6 rfl rfl rfl [0, 1] [2, 3] [2, 3, 0, 1] rfl rfl rfl (by decide) (by decide) rfl rfl (Nat.le_of_ble_eq_true rfl) ⟨Nat.le_of_ble_eq_true rfl, Nat.le_of_ble_eq_true rfl⟩ (dOk_at dX6_newRow 2 rfl) (fun H locs hh => ?_)
  have hv := hv.2.2
  refine lv_astore (pc := 5) (lv' := [(4, .ref s0), (0, .ref b0), (1, .int k), (2, .int lane), (3, .int n)]) hx hb (dOk_at dX6_newRow 3 rfl) hl (by decide) rfl (fun ls hl => ?_)
  refine lv_aload (pc := 7) hx hb (dOk_at dX6_newRow 4 rfl) (lv_at hl 0 rfl) ?_
  refine lv_ifnonnull (pc := 9) (tgt := 14) hx hb (dOk_at dX6_newRow 5 rfl) (by decide) ?_
  refine lv_iload_n (pc := 14) hx hb (dOk_at dX6_newRow 8 rfl) rfl (lv_at hl 3 rfl) ?_
  refine lv_iconst (pc := 15) (v := 0) hx hb (dOk_at dX6_newRow 9 rfl) (by decide) ?_
  refine lv_iconst (pc := 16) (v := 2) hx hb (dOk_at dX6_newRow 10 rfl) (by decide) ?_
  refine cl_S (pc := 17) (w' := [(b0, .inr (6, [.ref bs, .ref x0, .ref d0, .ref r0, .ref i0, .ref c0, .ref j0, .ref e0, .int lf, .int tr])), (bs, .inl (G.2.2.2, 4, .inr (.inr (.inr (.inr sh))))), (s0, .inr (4, [.ref s1, .int sla, .int sle])), (s1, .inl (G.2.1, 60, .inl sn))]) (wr := [(b0, .inr (6, [.ref bs, .ref x0, .ref d0, .ref r0, .ref i0, .ref c0, .ref j0, .ref e0, .int lf, .int tr])), (bs, .inl (G.2.2.2, 4, .inr (.inr (.inr (.inr sh))))), (s0, .inr (4, [.ref s1, .int sla, .int sle])), (s1, .inl (G.2.1, 60, .inl sn))]) (rest := []) fx hh hl.1 (h_X6_isWithin lane 0 2) yS_X6_isWithin tMX6_96 ⟨rfl, rfl, Nat.le_of_ble_eq_true rfl, Nat.le_of_ble_eq_true rfl⟩ [] [0, 1, 2, 3] [0, 1, 2, 3] rfl rfl rfl (by decide) (by decide) rfl rfl (Nat.le_of_ble_eq_true rfl) ⟨Nat.le_of_ble_eq_true rfl, Nat.le_of_ble_eq_true rfl⟩ (dOk_at dX6_newRow 11 rfl) (fun H locs hh => ?_)
  refine lv_if_eq (pc := 20) (tgt := 29) hx hb (dOk_at dX6_newRow 12 rfl) (by decide) (fun c20 => ?_) (fun c20 => ?_)
  · have hv := hv.1 c20
    refine lv_bipush (pc := 29) (v := (-2)) hx hb (dOk_at dX6_newRow 16 rfl) (by decide) ?_
    obtain ⟨e0, e1, e2, e3⟩ := hv
    subst e0
    subst e1
    subst e2
    subst e3
    rw [hQ]
    exact r_iret (pc := 31) fx hh (dOk_at dX6_newRow 17 rfl)
  · have hv := hv.2 c20
    refine lv_iload_n (pc := 23) hx hb (dOk_at dX6_newRow 13 rfl) rfl (lv_at hl 4 rfl) ?_
    refine lv_bipush (pc := 24) (v := 60) hx hb (dOk_at dX6_newRow 14 rfl) (by decide) ?_
    refine lv_icmp_le (pc := 26) (tgt := 32) hx hb (dOk_at dX6_newRow 15 rfl) (by decide) (fun c26 => ?_) (fun c26 => ?_)
    · have hv := hv.1 c26
      refine lv_iload_n (pc := 32) hx hb (dOk_at dX6_newRow 18 rfl) rfl (lv_at hl 4 rfl) ?_
      refine lv_if_ge (pc := 33) (tgt := 39) hx hb (dOk_at dX6_newRow 19 rfl) (by decide) (fun c33 => ?_) (fun c33 => ?_)
      · have hv := hv.1 c33
        refine lv_aload (pc := 39) hx hb (dOk_at dX6_newRow 22 rfl) (lv_at hl 0 rfl) ?_
        refine lv_iload_n (pc := 41) hx hb (dOk_at dX6_newRow 23 rfl) rfl (lv_at hl 3 rfl) ?_
        refine lv_iload_n (pc := 42) hx hb (dOk_at dX6_newRow 24 rfl) rfl (lv_at hl 4 rfl) ?_
        refine cl_VN (pc := 43) (w' := [(b0, .inr (6, [.ref bs, .ref x0, .ref d0, .ref r0, .ref i0, .ref c0, .ref j0, .ref e0, .int lf, .int tr])), (bs, .inl (G.2.2.2, 4, .inr (.inr (.inr (.inr sh))))), (s0, .inr (4, [.ref s1, .int lane, .int n])), (s1, .inl (G.2.1, 60, .inl (s_fill 0 sn)))]) (wr := [(b0, .inr (6, [.ref bs, .ref x0, .ref d0, .ref r0, .ref i0, .ref c0, .ref j0, .ref e0, .int lf, .int tr])), (bs, .inl (G.2.2.2, 4, .inr (.inr (.inr (.inr sh)))))]) (rest := []) fx hh hl.1 (h_X4_begin s0 s1 sla sle lane n sn) yV_X4_begin nMX6_273 ⟨rfl, rfl, Nat.le_of_ble_eq_true rfl, Nat.le_of_ble_eq_true rfl⟩ 2 4 rfl rfl rfl [2, 3] [0, 1] [0, 1, 2, 3] rfl rfl rfl (by decide) (by decide) rfl rfl (Nat.le_of_ble_eq_true rfl) ⟨Nat.le_of_ble_eq_true rfl, Nat.le_of_ble_eq_true rfl⟩ (dOk_at dX6_newRow 25 rfl) (fun H locs hh => ?_)
        refine lv_iconst (pc := 46) (v := 1) hx hb (dOk_at dX6_newRow 26 rfl) (by decide) ?_
        obtain ⟨e0, e1, e2, e3⟩ := hv
        subst e0
        subst e1
        subst e2
        subst e3
        rw [hQ]
        exact r_iret (pc := 47) fx hh (dOk_at dX6_newRow 27 rfl)
      · have hv := hv.2 c33
        refine lv_bipush (pc := 36) (v := (-14)) hx hb (dOk_at dX6_newRow 20 rfl) (by decide) ?_
        obtain ⟨e0, e1, e2, e3⟩ := hv
        subst e0
        subst e1
        subst e2
        subst e3
        rw [hQ]
        exact r_iret (pc := 38) fx hh (dOk_at dX6_newRow 21 rfl)
    · have hv := hv.2 c26
      refine lv_bipush (pc := 29) (v := (-2)) hx hb (dOk_at dX6_newRow 16 rfl) (by decide) ?_
      obtain ⟨e0, e1, e2, e3⟩ := hv
      subst e0
      subst e1
      subst e2
      subst e3
      rw [hQ]
      exact r_iret (pc := 31) fx hh (dOk_at dX6_newRow 17 rfl)
set_option maxRecDepth 100000 in
set_option maxHeartbeats 4000000 in
theorem wk_X6_newRow_n (l : Launch) (G : GT) (b0 : Nat) (bs : Nat) (x0 : Nat) (d0 : Nat) (r0 : Nat) (i0 : Nat) (c0 : Nat) (j0 : Nat) (e0 : Nat) (lf : Int32) (tr : Int32) (sh : Nat → Option Nat) (k : Int32) (lane : Int32) (n : Int32) (R : Int32) (h_X6_sheetAt : K_X6_sheetAt l G)
    (hv : s_shAt sh k = none ∧ (s_in k 0 3 = 0 ∨ vp_in k 4) ∧ (-1 : Int32) = R) :
    MF l G yX6_newRow cX6_newRow 5 (some .int) rm_X6_newRow [.ref b0, .int k, .int lane, .int n] [(b0, .inr (6, [.ref bs, .ref x0, .ref d0, .ref r0, .ref i0, .ref c0, .ref j0, .ref e0, .int lf, .int tr])), (bs, .inl (G.2.2.2, 4, .inr (.inr (.inr (.inr sh)))))] (some (.int R)) [(b0, .inr (6, [.ref bs, .ref x0, .ref d0, .ref r0, .ref i0, .ref c0, .ref j0, .ref e0, .int lf, .int tr])), (bs, .inl (G.2.2.2, 4, .inr (.inr (.inr (.inr sh)))))] := by
  refine MF.of (by decide +kernel) (Nat.le_of_ble_eq_true rfl) ?_
  intro p e s m args below meth c A ls fx hh hl _
  have hx := fx.hx
  have hb := fx.hb
  have hl : lv_has ls 5 [(0, .ref b0), (1, .int k), (2, .int lane), (3, .int n)] := hl
  obtain ⟨Q, hQ⟩ : ∃ Q, Q = ZZ G A (some (.int R)) [(b0, .inr (6, [.ref bs, .ref x0, .ref d0, .ref r0, .ref i0, .ref c0, .ref j0, .ref e0, .int lf, .int tr])), (bs, .inl (G.2.2.2, 4, .inr (.inr (.inr (.inr sh)))))] below args s := ⟨_, rfl⟩
  rw [← hQ]
  refine lv_aload_n (pc := 0) hx hb (dOk_at dX6_newRow 0 rfl) rfl (lv_at hl 0 rfl) ?_
  refine lv_iload_n (pc := 1) hx hb (dOk_at dX6_newRow 1 rfl) rfl (lv_at hl 1 rfl) ?_
  refine cl_V (pc := 2) (w' := [(b0, .inr (6, [.ref bs, .ref x0, .ref d0, .ref r0, .ref i0, .ref c0, .ref j0, .ref e0, .int lf, .int tr])), (bs, .inl (G.2.2.2, 4, .inr (.inr (.inr (.inr sh)))))]) (wr := []) (rest := []) fx hh hl.1 (h_X6_sheetAt b0 bs x0 d0 r0 i0 c0 j0 e0 lf tr sh k none hv.1 hv.2.1) yV_X6_sheetAt tMX6_182 ⟨rfl, rfl, Nat.le_of_ble_eq_true rfl, Nat.le_of_ble_eq_true rfl⟩ 0 6 rfl rfl rfl [0, 1] [] [0, 1] rfl rfl rfl (by decide) (by decide) rfl rfl (Nat.le_of_ble_eq_true rfl) ⟨Nat.le_of_ble_eq_true rfl, Nat.le_of_ble_eq_true rfl⟩ (dOk_at dX6_newRow 2 rfl) (fun H locs hh => ?_)
  have hv := hv.2.2
  refine lv_astoreN (pc := 5) (lv' := [(4, .null), (0, .ref b0), (1, .int k), (2, .int lane), (3, .int n)]) hx hb (dOk_at dX6_newRow 3 rfl) hl (by decide) rfl (fun ls hl => ?_)
  refine lv_aloadN (pc := 7) hx hb (dOk_at dX6_newRow 4 rfl) (lv_at hl 0 rfl) ?_
  refine lv_ifnonnullN (pc := 9) hx hb (dOk_at dX6_newRow 5 rfl) ?_
  refine lv_iconst (pc := 12) (v := (-1)) hx hb (dOk_at dX6_newRow 6 rfl) (by decide) ?_
  have e0 := hv
  subst e0
  rw [hQ]
  exact r_iret (pc := 13) fx hh (dOk_at dX6_newRow 7 rfl)
set_option maxRecDepth 100000 in
set_option maxHeartbeats 4000000 in
theorem wk_X6_putNumber (l : Launch) (G : GT) (b0 : Nat) (bs : Nat) (s0 : Nat) (s1 : Nat) (x0 : Nat) (d0 : Nat) (r0 : Nat) (i0 : Nat) (c0 : Nat) (j0 : Nat) (e0 : Nat) (lf : Int32) (tr : Int32) (sla : Int32) (sle : Int32) (sn : Nat → Int32) (sh : Nat → Option Nat) (k : Int32) (ii : Int32) (v : Int32) (R : Int32) (t3 : Nat → Int32) (h_X4_has : K_X4_has l G) (h_X4_isNothing : K_X4_isNothing l G) (h_X4_set : K_X4_set l G) (h_X6_sheetAt : K_X6_sheetAt l G)
    (hv : s_shAt sh k = (some s0) ∧ (s_in k 0 3 = 0 ∨ vp_in k 4) ∧ (((s_nothing sla) = 0 → (¬ (s_shas sle ii 1) = 0 → vp_in ii 60 ∧ ((1 : Int32) = R ∧ (upd sn ii.toNatClampNeg (s_cut sla v)) = t3)) ∧ ((s_shas sle ii 1) = 0 → (-13 : Int32) = R ∧ sn = t3)) ∧ (¬ (s_nothing sla) = 0 → (-11 : Int32) = R ∧ sn = t3))) :
    MF l G yX6_putNumber cX6_putNumber 5 (some .int) rm_X6_putNumber [.ref b0, .int k, .int ii, .int v] [(b0, .inr (6, [.ref bs, .ref x0, .ref d0, .ref r0, .ref i0, .ref c0, .ref j0, .ref e0, .int lf, .int tr])), (bs, .inl (G.2.2.2, 4, .inr (.inr (.inr (.inr sh))))), (s0, .inr (4, [.ref s1, .int sla, .int sle])), (s1, .inl (G.2.1, 60, .inl sn))] (some (.int R)) [(b0, .inr (6, [.ref bs, .ref x0, .ref d0, .ref r0, .ref i0, .ref c0, .ref j0, .ref e0, .int lf, .int tr])), (bs, .inl (G.2.2.2, 4, .inr (.inr (.inr (.inr sh))))), (s0, .inr (4, [.ref s1, .int sla, .int sle])), (s1, .inl (G.2.1, 60, .inl t3))] := by
  refine MF.of (by decide +kernel) (Nat.le_of_ble_eq_true rfl) ?_
  intro p e s m args below meth c A ls fx hh hl _
  have hx := fx.hx
  have hb := fx.hb
  have hl : lv_has ls 5 [(0, .ref b0), (1, .int k), (2, .int ii), (3, .int v)] := hl
  obtain ⟨Q, hQ⟩ : ∃ Q, Q = ZZ G A (some (.int R)) [(b0, .inr (6, [.ref bs, .ref x0, .ref d0, .ref r0, .ref i0, .ref c0, .ref j0, .ref e0, .int lf, .int tr])), (bs, .inl (G.2.2.2, 4, .inr (.inr (.inr (.inr sh))))), (s0, .inr (4, [.ref s1, .int sla, .int sle])), (s1, .inl (G.2.1, 60, .inl t3))] below args s := ⟨_, rfl⟩
  rw [← hQ]
  refine lv_aload_n (pc := 0) hx hb (dOk_at dX6_putNumber 0 rfl) rfl (lv_at hl 0 rfl) ?_
  refine lv_iload_n (pc := 1) hx hb (dOk_at dX6_putNumber 1 rfl) rfl (lv_at hl 1 rfl) ?_
  refine cl_V (pc := 2) (w' := [(b0, .inr (6, [.ref bs, .ref x0, .ref d0, .ref r0, .ref i0, .ref c0, .ref j0, .ref e0, .int lf, .int tr])), (bs, .inl (G.2.2.2, 4, .inr (.inr (.inr (.inr sh))))), (s0, .inr (4, [.ref s1, .int sla, .int sle])), (s1, .inl (G.2.1, 60, .inl sn))]) (wr := [(s0, .inr (4, [.ref s1, .int sla, .int sle])), (s1, .inl (G.2.1, 60, .inl sn))]) (rest := []) fx hh hl.1 (h_X6_sheetAt b0 bs x0 d0 r0 i0 c0 j0 e0 lf tr sh k (some s0) hv.1 hv.2.1) yV_X6_sheetAt tMX6_182 ⟨rfl, rfl, Nat.le_of_ble_eq_true rfl, Nat.le_of_ble_eq_true rfl⟩ 0 6 rfl rfl rfl [0, 1] [2, 3] [2, 3, 0, 1] rfl rfl rfl (by decide) (by decide) rfl rfl (Nat.le_of_ble_eq_true rfl) ⟨Nat.le_of_ble_eq_true rfl, Nat.le_of_ble_eq_true rfl⟩ (dOk_at dX6_putNumber 2 rfl) (fun H locs hh => ?_)
  have hv := hv.2.2
  refine lv_astore (pc := 5) (lv' := [(4, .ref s0), (0, .ref b0), (1, .int k), (2, .int ii), (3, .int v)]) hx hb (dOk_at dX6_putNumber 3 rfl) hl (by decide) rfl (fun ls hl => ?_)
  refine lv_aload (pc := 7) hx hb (dOk_at dX6_putNumber 4 rfl) (lv_at hl 0 rfl) ?_
  refine lv_ifnonnull (pc := 9) (tgt := 14) hx hb (dOk_at dX6_putNumber 5 rfl) (by decide) ?_
  refine lv_aload (pc := 14) hx hb (dOk_at dX6_putNumber 8 rfl) (lv_at hl 0 rfl) ?_
  refine cl_VN (pc := 16) (w' := [(b0, .inr (6, [.ref bs, .ref x0, .ref d0, .ref r0, .ref i0, .ref c0, .ref j0, .ref e0, .int lf, .int tr])), (bs, .inl (G.2.2.2, 4, .inr (.inr (.inr (.inr sh))))), (s0, .inr (4, [.ref s1, .int sla, .int sle])), (s1, .inl (G.2.1, 60, .inl sn))]) (wr := [(b0, .inr (6, [.ref bs, .ref x0, .ref d0, .ref r0, .ref i0, .ref c0, .ref j0, .ref e0, .int lf, .int tr])), (bs, .inl (G.2.2.2, 4, .inr (.inr (.inr (.inr sh))))), (s1, .inl (G.2.1, 60, .inl sn))]) (rest := []) fx hh hl.1 (h_X4_isNothing s0 s1 sla sle) yV_X4_isNothing nMX6_186 ⟨rfl, rfl, Nat.le_of_ble_eq_true rfl, Nat.le_of_ble_eq_true rfl⟩ 2 4 rfl rfl rfl [2] [0, 1, 3] [0, 1, 3, 2] rfl rfl rfl (by decide) (by decide) rfl rfl (Nat.le_of_ble_eq_true rfl) ⟨Nat.le_of_ble_eq_true rfl, Nat.le_of_ble_eq_true rfl⟩ (dOk_at dX6_putNumber 9 rfl) (fun H locs hh => ?_)
  refine lv_if_eq (pc := 19) (tgt := 25) hx hb (dOk_at dX6_putNumber 10 rfl) (by decide) (fun c19 => ?_) (fun c19 => ?_)
  · have hv := hv.1 c19
    refine lv_aload (pc := 25) hx hb (dOk_at dX6_putNumber 13 rfl) (lv_at hl 0 rfl) ?_
    refine lv_iload_n (pc := 27) hx hb (dOk_at dX6_putNumber 14 rfl) rfl (lv_at hl 3 rfl) ?_
    refine lv_iconst (pc := 28) (v := 1) hx hb (dOk_at dX6_putNumber 15 rfl) (by decide) ?_
    refine cl_VN (pc := 29) (w' := [(b0, .inr (6, [.ref bs, .ref x0, .ref d0, .ref r0, .ref i0, .ref c0, .ref j0, .ref e0, .int lf, .int tr])), (bs, .inl (G.2.2.2, 4, .inr (.inr (.inr (.inr sh))))), (s0, .inr (4, [.ref s1, .int sla, .int sle])), (s1, .inl (G.2.1, 60, .inl sn))]) (wr := [(b0, .inr (6, [.ref bs, .ref x0, .ref d0, .ref r0, .ref i0, .ref c0, .ref j0, .ref e0, .int lf, .int tr])), (bs, .inl (G.2.2.2, 4, .inr (.inr (.inr (.inr sh))))), (s1, .inl (G.2.1, 60, .inl sn))]) (rest := []) fx hh hl.1 (h_X4_has s0 s1 sla sle ii 1) yV_X4_has nMX6_232 ⟨rfl, rfl, Nat.le_of_ble_eq_true rfl, Nat.le_of_ble_eq_true rfl⟩ 2 4 rfl rfl rfl [2] [0, 1, 3] [0, 1, 3, 2] rfl rfl rfl (by decide) (by decide) rfl rfl (Nat.le_of_ble_eq_true rfl) ⟨Nat.le_of_ble_eq_true rfl, Nat.le_of_ble_eq_true rfl⟩ (dOk_at dX6_putNumber 16 rfl) (fun H locs hh => ?_)
    refine lv_if_ne (pc := 32) (tgt := 38) hx hb (dOk_at dX6_putNumber 17 rfl) (by decide) (fun c32 => ?_) (fun c32 => ?_)
    · have hv := hv.1 c32
      refine lv_aload (pc := 38) hx hb (dOk_at dX6_putNumber 20 rfl) (lv_at hl 0 rfl) ?_
      refine lv_iload_n (pc := 40) hx hb (dOk_at dX6_putNumber 21 rfl) rfl (lv_at hl 3 rfl) ?_
      refine lv_iload_n (pc := 41) hx hb (dOk_at dX6_putNumber 22 rfl) rfl (lv_at hl 4 rfl) ?_
      refine cl_VN (pc := 42) (w' := [(b0, .inr (6, [.ref bs, .ref x0, .ref d0, .ref r0, .ref i0, .ref c0, .ref j0, .ref e0, .int lf, .int tr])), (bs, .inl (G.2.2.2, 4, .inr (.inr (.inr (.inr sh))))), (s0, .inr (4, [.ref s1, .int sla, .int sle])), (s1, .inl (G.2.1, 60, .inl (upd sn ii.toNatClampNeg (s_cut sla v))))]) (wr := [(b0, .inr (6, [.ref bs, .ref x0, .ref d0, .ref r0, .ref i0, .ref c0, .ref j0, .ref e0, .int lf, .int tr])), (bs, .inl (G.2.2.2, 4, .inr (.inr (.inr (.inr sh)))))]) (rest := []) fx hh hl.1 (h_X4_set s0 s1 sla sle ii v sn hv.1) yV_X4_set nMX6_276 ⟨rfl, rfl, Nat.le_of_ble_eq_true rfl, Nat.le_of_ble_eq_true rfl⟩ 2 4 rfl rfl rfl [2, 3] [0, 1] [0, 1, 2, 3] rfl rfl rfl (by decide) (by decide) rfl rfl (Nat.le_of_ble_eq_true rfl) ⟨Nat.le_of_ble_eq_true rfl, Nat.le_of_ble_eq_true rfl⟩ (dOk_at dX6_putNumber 23 rfl) (fun H locs hh => ?_)
      have hv := hv.2
      refine lv_iconst (pc := 45) (v := 1) hx hb (dOk_at dX6_putNumber 24 rfl) (by decide) ?_
      obtain ⟨e0, e1⟩ := hv
      subst e0
      subst e1
      rw [hQ]
      exact r_iret (pc := 46) fx hh (dOk_at dX6_putNumber 25 rfl)
    · have hv := hv.2 c32
      refine lv_bipush (pc := 35) (v := (-13)) hx hb (dOk_at dX6_putNumber 18 rfl) (by decide) ?_
      obtain ⟨e0, e1⟩ := hv
      subst e0
      subst e1
      rw [hQ]
      exact r_iret (pc := 37) fx hh (dOk_at dX6_putNumber 19 rfl)
  · have hv := hv.2 c19
    refine lv_bipush (pc := 22) (v := (-11)) hx hb (dOk_at dX6_putNumber 11 rfl) (by decide) ?_
    obtain ⟨e0, e1⟩ := hv
    subst e0
    subst e1
    rw [hQ]
    exact r_iret (pc := 24) fx hh (dOk_at dX6_putNumber 12 rfl)
set_option maxRecDepth 100000 in
set_option maxHeartbeats 4000000 in
theorem wk_X6_putNumber_n (l : Launch) (G : GT) (b0 : Nat) (bs : Nat) (x0 : Nat) (d0 : Nat) (r0 : Nat) (i0 : Nat) (c0 : Nat) (j0 : Nat) (e0 : Nat) (lf : Int32) (tr : Int32) (sh : Nat → Option Nat) (k : Int32) (ii : Int32) (v : Int32) (R : Int32) (h_X6_sheetAt : K_X6_sheetAt l G)
    (hv : s_shAt sh k = none ∧ (s_in k 0 3 = 0 ∨ vp_in k 4) ∧ (-1 : Int32) = R) :
    MF l G yX6_putNumber cX6_putNumber 5 (some .int) rm_X6_putNumber [.ref b0, .int k, .int ii, .int v] [(b0, .inr (6, [.ref bs, .ref x0, .ref d0, .ref r0, .ref i0, .ref c0, .ref j0, .ref e0, .int lf, .int tr])), (bs, .inl (G.2.2.2, 4, .inr (.inr (.inr (.inr sh)))))] (some (.int R)) [(b0, .inr (6, [.ref bs, .ref x0, .ref d0, .ref r0, .ref i0, .ref c0, .ref j0, .ref e0, .int lf, .int tr])), (bs, .inl (G.2.2.2, 4, .inr (.inr (.inr (.inr sh)))))] := by
  refine MF.of (by decide +kernel) (Nat.le_of_ble_eq_true rfl) ?_
  intro p e s m args below meth c A ls fx hh hl _
  have hx := fx.hx
  have hb := fx.hb
  have hl : lv_has ls 5 [(0, .ref b0), (1, .int k), (2, .int ii), (3, .int v)] := hl
  obtain ⟨Q, hQ⟩ : ∃ Q, Q = ZZ G A (some (.int R)) [(b0, .inr (6, [.ref bs, .ref x0, .ref d0, .ref r0, .ref i0, .ref c0, .ref j0, .ref e0, .int lf, .int tr])), (bs, .inl (G.2.2.2, 4, .inr (.inr (.inr (.inr sh)))))] below args s := ⟨_, rfl⟩
  rw [← hQ]
  refine lv_aload_n (pc := 0) hx hb (dOk_at dX6_putNumber 0 rfl) rfl (lv_at hl 0 rfl) ?_
  refine lv_iload_n (pc := 1) hx hb (dOk_at dX6_putNumber 1 rfl) rfl (lv_at hl 1 rfl) ?_
  refine cl_V (pc := 2) (w' := [(b0, .inr (6, [.ref bs, .ref x0, .ref d0, .ref r0, .ref i0, .ref c0, .ref j0, .ref e0, .int lf, .int tr])), (bs, .inl (G.2.2.2, 4, .inr (.inr (.inr (.inr sh)))))]) (wr := []) (rest := []) fx hh hl.1 (h_X6_sheetAt b0 bs x0 d0 r0 i0 c0 j0 e0 lf tr sh k none hv.1 hv.2.1) yV_X6_sheetAt tMX6_182 ⟨rfl, rfl, Nat.le_of_ble_eq_true rfl, Nat.le_of_ble_eq_true rfl⟩ 0 6 rfl rfl rfl [0, 1] [] [0, 1] rfl rfl rfl (by decide) (by decide) rfl rfl (Nat.le_of_ble_eq_true rfl) ⟨Nat.le_of_ble_eq_true rfl, Nat.le_of_ble_eq_true rfl⟩ (dOk_at dX6_putNumber 2 rfl) (fun H locs hh => ?_)
  have hv := hv.2.2
  refine lv_astoreN (pc := 5) (lv' := [(4, .null), (0, .ref b0), (1, .int k), (2, .int ii), (3, .int v)]) hx hb (dOk_at dX6_putNumber 3 rfl) hl (by decide) rfl (fun ls hl => ?_)
  refine lv_aloadN (pc := 7) hx hb (dOk_at dX6_putNumber 4 rfl) (lv_at hl 0 rfl) ?_
  refine lv_ifnonnullN (pc := 9) hx hb (dOk_at dX6_putNumber 5 rfl) ?_
  refine lv_iconst (pc := 12) (v := (-1)) hx hb (dOk_at dX6_putNumber 6 rfl) (by decide) ?_
  have e0 := hv
  subst e0
  rw [hQ]
  exact r_iret (pc := 13) fx hh (dOk_at dX6_putNumber 7 rfl)
set_option maxRecDepth 100000 in
set_option maxHeartbeats 4000000 in
theorem wk_X6_copyNumbers (l : Launch) (G : GT) (b0 : Nat) (bs : Nat) (s0 : Nat) (s1 : Nat) (u0 : Nat) (u1 : Nat) (x0 : Nat) (d0 : Nat) (r0 : Nat) (i0 : Nat) (c0 : Nat) (j0 : Nat) (e0 : Nat) (lf : Int32) (tr : Int32) (sla : Int32) (sle : Int32) (ula : Int32) (ule : Int32) (sn : Nat → Int32) (un : Nat → Int32) (sh : Nat → Option Nat) (k : Int32) (i : Int32) (other : Int32) (j : Int32) (n : Int32) (R : Int32) (t5 : Nat → Int32) (h_X4_has : K_X4_has l G) (h_X4_isNothing : K_X4_isNothing l G) (h_X6_sheetAt : K_X6_sheetAt l G)
    (hv : s_shAt sh k = (some s0) ∧ (s_in k 0 3 = 0 ∨ vp_in k 4) ∧ (s_shAt sh other = (some u0) ∧ (s_in other 0 3 = 0 ∨ vp_in other 4) ∧ ((¬ (s_nothing sla) = 0 → (-11 : Int32) = R ∧ un = t5) ∧ ((s_nothing sla) = 0 → ((s_nothing ula) = 0 → (sla = ula → ((s_shas sle i n) = 0 → (-13 : Int32) = R ∧ un = t5) ∧ (¬ (s_shas sle i n) = 0 → (¬ (s_shas ule j n) = 0 → ¬ i < 0 ∧ ¬ j < 0 ∧ ¬ n < 0 ∧ i.toNatClampNeg + n.toNatClampNeg ≤ 60 ∧ j.toNatClampNeg + n.toNatClampNeg ≤ 60 ∧ (n = R ∧ (va_cpy sn un i.toNatClampNeg j.toNatClampNeg n.toNatClampNeg) = t5)) ∧ ((s_shas ule j n) = 0 → (-13 : Int32) = R ∧ un = t5))) ∧ (¬ sla = ula → (-12 : Int32) = R ∧ un = t5)) ∧ (¬ (s_nothing ula) = 0 → (-11 : Int32) = R ∧ un = t5))))) :
    MF l G yX6_copyNumbers cX6_copyNumbers 8 (some .int) rm_X6_copyNumbers [.ref b0, .int k, .int i, .int other, .int j, .int n] [(b0, .inr (6, [.ref bs, .ref x0, .ref d0, .ref r0, .ref i0, .ref c0, .ref j0, .ref e0, .int lf, .int tr])), (bs, .inl (G.2.2.2, 4, .inr (.inr (.inr (.inr sh))))), (s0, .inr (4, [.ref s1, .int sla, .int sle])), (s1, .inl (G.2.1, 60, .inl sn)), (u0, .inr (4, [.ref u1, .int ula, .int ule])), (u1, .inl (G.2.1, 60, .inl un))] (some (.int R)) [(b0, .inr (6, [.ref bs, .ref x0, .ref d0, .ref r0, .ref i0, .ref c0, .ref j0, .ref e0, .int lf, .int tr])), (bs, .inl (G.2.2.2, 4, .inr (.inr (.inr (.inr sh))))), (s0, .inr (4, [.ref s1, .int sla, .int sle])), (s1, .inl (G.2.1, 60, .inl sn)), (u0, .inr (4, [.ref u1, .int ula, .int ule])), (u1, .inl (G.2.1, 60, .inl t5))] := by
  refine MF.of (by decide +kernel) (Nat.le_of_ble_eq_true rfl) ?_
  intro p e s m args below meth c A ls fx hh hl _
  have hx := fx.hx
  have hb := fx.hb
  have hl : lv_has ls 8 [(0, .ref b0), (1, .int k), (2, .int i), (3, .int other), (4, .int j), (5, .int n)] := hl
  obtain ⟨Q, hQ⟩ : ∃ Q, Q = ZZ G A (some (.int R)) [(b0, .inr (6, [.ref bs, .ref x0, .ref d0, .ref r0, .ref i0, .ref c0, .ref j0, .ref e0, .int lf, .int tr])), (bs, .inl (G.2.2.2, 4, .inr (.inr (.inr (.inr sh))))), (s0, .inr (4, [.ref s1, .int sla, .int sle])), (s1, .inl (G.2.1, 60, .inl sn)), (u0, .inr (4, [.ref u1, .int ula, .int ule])), (u1, .inl (G.2.1, 60, .inl t5))] below args s := ⟨_, rfl⟩
  rw [← hQ]
  refine lv_aload_n (pc := 0) hx hb (dOk_at dX6_copyNumbers 0 rfl) rfl (lv_at hl 0 rfl) ?_
  refine lv_iload_n (pc := 1) hx hb (dOk_at dX6_copyNumbers 1 rfl) rfl (lv_at hl 1 rfl) ?_
  refine cl_V (pc := 2) (w' := [(b0, .inr (6, [.ref bs, .ref x0, .ref d0, .ref r0, .ref i0, .ref c0, .ref j0, .ref e0, .int lf, .int tr])), (bs, .inl (G.2.2.2, 4, .inr (.inr (.inr (.inr sh))))), (s0, .inr (4, [.ref s1, .int sla, .int sle])), (s1, .inl (G.2.1, 60, .inl sn)), (u0, .inr (4, [.ref u1, .int ula, .int ule])), (u1, .inl (G.2.1, 60, .inl un))]) (wr := [(s0, .inr (4, [.ref s1, .int sla, .int sle])), (s1, .inl (G.2.1, 60, .inl sn)), (u0, .inr (4, [.ref u1, .int ula, .int ule])), (u1, .inl (G.2.1, 60, .inl un))]) (rest := []) fx hh hl.1 (h_X6_sheetAt b0 bs x0 d0 r0 i0 c0 j0 e0 lf tr sh k (some s0) hv.1 hv.2.1) yV_X6_sheetAt tMX6_182 ⟨rfl, rfl, Nat.le_of_ble_eq_true rfl, Nat.le_of_ble_eq_true rfl⟩ 0 6 rfl rfl rfl [0, 1] [2, 3, 4, 5] [4, 5, 0, 1, 2, 3] rfl rfl rfl (by decide) (by decide) rfl rfl (Nat.le_of_ble_eq_true rfl) ⟨Nat.le_of_ble_eq_true rfl, Nat.le_of_ble_eq_true rfl⟩ (dOk_at dX6_copyNumbers 2 rfl) (fun H locs hh => ?_)
  have hv := hv.2.2
  refine lv_astore (pc := 5) (lv' := [(6, .ref s0), (0, .ref b0), (1, .int k), (2, .int i), (3, .int other), (4, .int j), (5, .int n)]) hx hb (dOk_at dX6_copyNumbers 3 rfl) hl (by decide) rfl (fun ls hl => ?_)
  refine lv_aload_n (pc := 7) hx hb (dOk_at dX6_copyNumbers 4 rfl) rfl (lv_at hl 1 rfl) ?_
  refine lv_iload_n (pc := 8) hx hb (dOk_at dX6_copyNumbers 5 rfl) rfl (lv_at hl 4 rfl) ?_
  refine cl_V (pc := 9) (w' := [(b0, .inr (6, [.ref bs, .ref x0, .ref d0, .ref r0, .ref i0, .ref c0, .ref j0, .ref e0, .int lf, .int tr])), (bs, .inl (G.2.2.2, 4, .inr (.inr (.inr (.inr sh))))), (s0, .inr (4, [.ref s1, .int sla, .int sle])), (s1, .inl (G.2.1, 60, .inl sn)), (u0, .inr (4, [.ref u1, .int ula, .int ule])), (u1, .inl (G.2.1, 60, .inl un))]) (wr := [(s0, .inr (4, [.ref s1, .int sla, .int sle])), (s1, .inl (G.2.1, 60, .inl sn)), (u0, .inr (4, [.ref u1, .int ula, .int ule])), (u1, .inl (G.2.1, 60, .inl un))]) (rest := []) fx hh hl.1 (h_X6_sheetAt b0 bs x0 d0 r0 i0 c0 j0 e0 lf tr sh other (some u0) hv.1 hv.2.1) yV_X6_sheetAt tMX6_182 ⟨rfl, rfl, Nat.le_of_ble_eq_true rfl, Nat.le_of_ble_eq_true rfl⟩ 0 6 rfl rfl rfl [0, 1] [2, 3, 4, 5] [4, 5, 0, 1, 2, 3] rfl rfl rfl (by decide) (by decide) rfl rfl (Nat.le_of_ble_eq_true rfl) ⟨Nat.le_of_ble_eq_true rfl, Nat.le_of_ble_eq_true rfl⟩ (dOk_at dX6_copyNumbers 6 rfl) (fun H locs hh => ?_)
  have hv := hv.2.2
  refine lv_astore (pc := 12) (lv' := [(7, .ref u0), (6, .ref s0), (0, .ref b0), (1, .int k), (2, .int i), (3, .int other), (4, .int j), (5, .int n)]) hx hb (dOk_at dX6_copyNumbers 7 rfl) hl (by decide) rfl (fun ls hl => ?_)
  refine lv_aload (pc := 14) hx hb (dOk_at dX6_copyNumbers 8 rfl) (lv_at hl 1 rfl) ?_
  refine lv_ifnull (pc := 16) hx hb (dOk_at dX6_copyNumbers 9 rfl) ?_
  refine lv_aload (pc := 19) hx hb (dOk_at dX6_copyNumbers 10 rfl) (lv_at hl 0 rfl) ?_
  refine lv_ifnonnull (pc := 21) (tgt := 26) hx hb (dOk_at dX6_copyNumbers 11 rfl) (by decide) ?_
  refine lv_aload (pc := 26) hx hb (dOk_at dX6_copyNumbers 14 rfl) (lv_at hl 1 rfl) ?_
  refine cl_VN (pc := 28) (w' := [(b0, .inr (6, [.ref bs, .ref x0, .ref d0, .ref r0, .ref i0, .ref c0, .ref j0, .ref e0, .int lf, .int tr])), (bs, .inl (G.2.2.2, 4, .inr (.inr (.inr (.inr sh))))), (s0, .inr (4, [.ref s1, .int sla, .int sle])), (s1, .inl (G.2.1, 60, .inl sn)), (u0, .inr (4, [.ref u1, .int ula, .int ule])), (u1, .inl (G.2.1, 60, .inl un))]) (wr := [(b0, .inr (6, [.ref bs, .ref x0, .ref d0, .ref r0, .ref i0, .ref c0, .ref j0, .ref e0, .int lf, .int tr])), (bs, .inl (G.2.2.2, 4, .inr (.inr (.inr (.inr sh))))), (s1, .inl (G.2.1, 60, .inl sn)), (u0, .inr (4, [.ref u1, .int ula, .int ule])), (u1, .inl (G.2.1, 60, .inl un))]) (rest := []) fx hh hl.1 (h_X4_isNothing s0 s1 sla sle) yV_X4_isNothing nMX6_186 ⟨rfl, rfl, Nat.le_of_ble_eq_true rfl, Nat.le_of_ble_eq_true rfl⟩ 2 4 rfl rfl rfl [2] [0, 1, 3, 4, 5] [0, 1, 5, 2, 3, 4] rfl rfl rfl (by decide) (by decide) rfl rfl (Nat.le_of_ble_eq_true rfl) ⟨Nat.le_of_ble_eq_true rfl, Nat.le_of_ble_eq_true rfl⟩ (dOk_at dX6_copyNumbers 15 rfl) (fun H locs hh => ?_)
  refine lv_if_ne (pc := 31) (tgt := 42) hx hb (dOk_at dX6_copyNumbers 16 rfl) (by decide) (fun c31 => ?_) (fun c31 => ?_)
  · have hv := hv.1 c31
    refine lv_bipush (pc := 42) (v := (-11)) hx hb (dOk_at dX6_copyNumbers 20 rfl) (by decide) ?_
    obtain ⟨e0, e1⟩ := hv
    subst e0
    subst e1
    rw [hQ]
    exact r_iret (pc := 44) fx hh (dOk_at dX6_copyNumbers 21 rfl)
  · have hv := hv.2 c31
    refine lv_aload (pc := 34) hx hb (dOk_at dX6_copyNumbers 17 rfl) (lv_at hl 0 rfl) ?_
    refine cl_VN (pc := 36) (w' := [(b0, .inr (6, [.ref bs, .ref x0, .ref d0, .ref r0, .ref i0, .ref c0, .ref j0, .ref e0, .int lf, .int tr])), (bs, .inl (G.2.2.2, 4, .inr (.inr (.inr (.inr sh))))), (s0, .inr (4, [.ref s1, .int sla, .int sle])), (s1, .inl (G.2.1, 60, .inl sn)), (u0, .inr (4, [.ref u1, .int ula, .int ule])), (u1, .inl (G.2.1, 60, .inl un))]) (wr := [(b0, .inr (6, [.ref bs, .ref x0, .ref d0, .ref r0, .ref i0, .ref c0, .ref j0, .ref e0, .int lf, .int tr])), (bs, .inl (G.2.2.2, 4, .inr (.inr (.inr (.inr sh))))), (s0, .inr (4, [.ref s1, .int sla, .int sle])), (s1, .inl (G.2.1, 60, .inl sn)), (u1, .inl (G.2.1, 60, .inl un))]) (rest := []) fx hh hl.1 (h_X4_isNothing u0 u1 ula ule) yV_X4_isNothing nMX6_186 ⟨rfl, rfl, Nat.le_of_ble_eq_true rfl, Nat.le_of_ble_eq_true rfl⟩ 4 4 rfl rfl rfl [4] [0, 1, 2, 3, 5] [0, 1, 2, 3, 5, 4] rfl rfl rfl (by decide) (by decide) rfl rfl (Nat.le_of_ble_eq_true rfl) ⟨Nat.le_of_ble_eq_true rfl, Nat.le_of_ble_eq_true rfl⟩ (dOk_at dX6_copyNumbers 18 rfl) (fun H locs hh => ?_)
    refine lv_if_eq (pc := 39) (tgt := 45) hx hb (dOk_at dX6_copyNumbers 19 rfl) (by decide) (fun c39 => ?_) (fun c39 => ?_)
    · have hv := hv.1 c39
      refine lv_aload (pc := 45) hx hb (dOk_at dX6_copyNumbers 22 rfl) (lv_at hl 1 rfl) ?_
      refine r_getN (pc := 47) (ci := 4) fx hh inT4 rfl 1 (by decide) nFX6_225 rfl 2 rfl rfl (dOk_at dX6_copyNumbers 23 rfl) ?_
      refine lv_aload (pc := 50) hx hb (dOk_at dX6_copyNumbers 24 rfl) (lv_at hl 0 rfl) ?_
      refine r_getN (pc := 52) (ci := 4) fx hh inT4 rfl 1 (by decide) nFX6_225 rfl 4 rfl rfl (dOk_at dX6_copyNumbers 25 rfl) ?_
      refine lv_icmp_eq (pc := 55) (tgt := 61) hx hb (dOk_at dX6_copyNumbers 26 rfl) (by decide) (fun c55 => ?_) (fun c55 => ?_)
      · have hv := hv.1 c55
        refine lv_aload (pc := 61) hx hb (dOk_at dX6_copyNumbers 29 rfl) (lv_at hl 1 rfl) ?_
        refine lv_iload_n (pc := 63) hx hb (dOk_at dX6_copyNumbers 30 rfl) rfl (lv_at hl 4 rfl) ?_
        refine lv_iload (pc := 64) hx hb (dOk_at dX6_copyNumbers 31 rfl) (lv_at hl 7 rfl) ?_
        refine cl_VN (pc := 66) (w' := [(b0, .inr (6, [.ref bs, .ref x0, .ref d0, .ref r0, .ref i0, .ref c0, .ref j0, .ref e0, .int lf, .int tr])), (bs, .inl (G.2.2.2, 4, .inr (.inr (.inr (.inr sh))))), (s0, .inr (4, [.ref s1, .int sla, .int sle])), (s1, .inl (G.2.1, 60, .inl sn)), (u0, .inr (4, [.ref u1, .int ula, .int ule])), (u1, .inl (G.2.1, 60, .inl un))]) (wr := [(b0, .inr (6, [.ref bs, .ref x0, .ref d0, .ref r0, .ref i0, .ref c0, .ref j0, .ref e0, .int lf, .int tr])), (bs, .inl (G.2.2.2, 4, .inr (.inr (.inr (.inr sh))))), (s1, .inl (G.2.1, 60, .inl sn)), (u0, .inr (4, [.ref u1, .int ula, .int ule])), (u1, .inl (G.2.1, 60, .inl un))]) (rest := []) fx hh hl.1 (h_X4_has s0 s1 sla sle i n) yV_X4_has nMX6_232 ⟨rfl, rfl, Nat.le_of_ble_eq_true rfl, Nat.le_of_ble_eq_true rfl⟩ 2 4 rfl rfl rfl [2] [0, 1, 3, 4, 5] [0, 1, 5, 2, 3, 4] rfl rfl rfl (by decide) (by decide) rfl rfl (Nat.le_of_ble_eq_true rfl) ⟨Nat.le_of_ble_eq_true rfl, Nat.le_of_ble_eq_true rfl⟩ (dOk_at dX6_copyNumbers 32 rfl) (fun H locs hh => ?_)
        refine lv_if_eq (pc := 69) (tgt := 84) hx hb (dOk_at dX6_copyNumbers 33 rfl) (by decide) (fun c69 => ?_) (fun c69 => ?_)
        · have hv := hv.1 c69
          refine lv_bipush (pc := 84) (v := (-13)) hx hb (dOk_at dX6_copyNumbers 39 rfl) (by decide) ?_
          obtain ⟨e0, e1⟩ := hv
          subst e0
          subst e1
          rw [hQ]
          exact r_iret (pc := 86) fx hh (dOk_at dX6_copyNumbers 40 rfl)
        · have hv := hv.2 c69
          refine lv_aload (pc := 72) hx hb (dOk_at dX6_copyNumbers 34 rfl) (lv_at hl 0 rfl) ?_
          refine lv_iload (pc := 74) hx hb (dOk_at dX6_copyNumbers 35 rfl) (lv_at hl 6 rfl) ?_
          refine lv_iload (pc := 76) hx hb (dOk_at dX6_copyNumbers 36 rfl) (lv_at hl 7 rfl) ?_
          refine cl_VN (pc := 78) (w' := [(b0, .inr (6, [.ref bs, .ref x0, .ref d0, .ref r0, .ref i0, .ref c0, .ref j0, .ref e0, .int lf, .int tr])), (bs, .inl (G.2.2.2, 4, .inr (.inr (.inr (.inr sh))))), (s0, .inr (4, [.ref s1, .int sla, .int sle])), (s1, .inl (G.2.1, 60, .inl sn)), (u0, .inr (4, [.ref u1, .int ula, .int ule])), (u1, .inl (G.2.1, 60, .inl un))]) (wr := [(b0, .inr (6, [.ref bs, .ref x0, .ref d0, .ref r0, .ref i0, .ref c0, .ref j0, .ref e0, .int lf, .int tr])), (bs, .inl (G.2.2.2, 4, .inr (.inr (.inr (.inr sh))))), (s0, .inr (4, [.ref s1, .int sla, .int sle])), (s1, .inl (G.2.1, 60, .inl sn)), (u1, .inl (G.2.1, 60, .inl un))]) (rest := []) fx hh hl.1 (h_X4_has u0 u1 ula ule j n) yV_X4_has nMX6_232 ⟨rfl, rfl, Nat.le_of_ble_eq_true rfl, Nat.le_of_ble_eq_true rfl⟩ 4 4 rfl rfl rfl [4] [0, 1, 2, 3, 5] [0, 1, 2, 3, 5, 4] rfl rfl rfl (by decide) (by decide) rfl rfl (Nat.le_of_ble_eq_true rfl) ⟨Nat.le_of_ble_eq_true rfl, Nat.le_of_ble_eq_true rfl⟩ (dOk_at dX6_copyNumbers 37 rfl) (fun H locs hh => ?_)
          refine lv_if_ne (pc := 81) (tgt := 87) hx hb (dOk_at dX6_copyNumbers 38 rfl) (by decide) (fun c81 => ?_) (fun c81 => ?_)
          · have hv := hv.1 c81
            refine lv_aload (pc := 87) hx hb (dOk_at dX6_copyNumbers 41 rfl) (lv_at hl 1 rfl) ?_
            refine r_getN (pc := 89) (ci := 4) fx hh inT4 rfl 0 (by decide) nFX6_200 rfl 2 rfl rfl (dOk_at dX6_copyNumbers 42 rfl) ?_
            refine lv_iload_n (pc := 92) hx hb (dOk_at dX6_copyNumbers 43 rfl) rfl (lv_at hl 4 rfl) ?_
            refine lv_aload (pc := 93) hx hb (dOk_at dX6_copyNumbers 44 rfl) (lv_at hl 0 rfl) ?_
            refine r_getN (pc := 95) (ci := 4) fx hh inT4 rfl 0 (by decide) nFX6_200 rfl 4 rfl rfl (dOk_at dX6_copyNumbers 45 rfl) ?_
            refine lv_iload (pc := 98) hx hb (dOk_at dX6_copyNumbers 46 rfl) (lv_at hl 6 rfl) ?_
            refine lv_iload (pc := 100) hx hb (dOk_at dX6_copyNumbers 47 rfl) (lv_at hl 7 rfl) ?_
            refine r_copyi (pc := 102) (w' := [(b0, .inr (6, [.ref bs, .ref x0, .ref d0, .ref r0, .ref i0, .ref c0, .ref j0, .ref e0, .int lf, .int tr])), (bs, .inl (G.2.2.2, 4, .inr (.inr (.inr (.inr sh))))), (s0, .inr (4, [.ref s1, .int sla, .int sle])), (s1, .inl (G.2.1, 60, .inl sn)), (u0, .inr (4, [.ref u1, .int ula, .int ule])), (u1, .inl (G.2.1, 60, .inl (va_cpy sn un i.toNatClampNeg j.toNatClampNeg n.toNatClampNeg)))]) fx hh hl.1 tMX6_121 3 5 rfl rfl hv.1 hv.2.1 hv.2.2.1 hv.2.2.2.1 hv.2.2.2.2.1 rfl (Nat.le_of_ble_eq_true rfl) (Nat.le_of_ble_eq_true rfl) (dOk_at dX6_copyNumbers 48 rfl) (fun H locs hh => ?_)
            have hv := hv.2.2.2.2.2
            refine lv_iload (pc := 105) hx hb (dOk_at dX6_copyNumbers 49 rfl) (lv_at hl 7 rfl) ?_
            obtain ⟨e0, e1⟩ := hv
            subst e0
            subst e1
            rw [hQ]
            exact r_iret (pc := 107) fx hh (dOk_at dX6_copyNumbers 50 rfl)
          · have hv := hv.2 c81
            refine lv_bipush (pc := 84) (v := (-13)) hx hb (dOk_at dX6_copyNumbers 39 rfl) (by decide) ?_
            obtain ⟨e0, e1⟩ := hv
            subst e0
            subst e1
            rw [hQ]
            exact r_iret (pc := 86) fx hh (dOk_at dX6_copyNumbers 40 rfl)
      · have hv := hv.2 c55
        refine lv_bipush (pc := 58) (v := (-12)) hx hb (dOk_at dX6_copyNumbers 27 rfl) (by decide) ?_
        obtain ⟨e0, e1⟩ := hv
        subst e0
        subst e1
        rw [hQ]
        exact r_iret (pc := 60) fx hh (dOk_at dX6_copyNumbers 28 rfl)
    · have hv := hv.2 c39
      refine lv_bipush (pc := 42) (v := (-11)) hx hb (dOk_at dX6_copyNumbers 20 rfl) (by decide) ?_
      obtain ⟨e0, e1⟩ := hv
      subst e0
      subst e1
      rw [hQ]
      exact r_iret (pc := 44) fx hh (dOk_at dX6_copyNumbers 21 rfl)
set_option maxRecDepth 100000 in
set_option maxHeartbeats 4000000 in
theorem wk_X6_copyNumbers_s (l : Launch) (G : GT) (b0 : Nat) (bs : Nat) (s0 : Nat) (s1 : Nat) (x0 : Nat) (d0 : Nat) (r0 : Nat) (i0 : Nat) (c0 : Nat) (j0 : Nat) (e0 : Nat) (lf : Int32) (tr : Int32) (sla : Int32) (sle : Int32) (sn : Nat → Int32) (sh : Nat → Option Nat) (k : Int32) (i : Int32) (other : Int32) (j : Int32) (n : Int32) (R : Int32) (t3 : Nat → Int32) (h_X4_has : K_X4_has l G) (h_X4_isNothing : K_X4_isNothing l G) (h_X6_sheetAt : K_X6_sheetAt l G)
    (hv : s_shAt sh k = (some s0) ∧ (s_in k 0 3 = 0 ∨ vp_in k 4) ∧ (s_shAt sh other = (some s0) ∧ (s_in other 0 3 = 0 ∨ vp_in other 4) ∧ ((¬ (s_nothing sla) = 0 → (-11 : Int32) = R ∧ sn = t3) ∧ ((s_nothing sla) = 0 → ((s_nothing sla) = 0 → (sla = sla → ((s_shas sle i n) = 0 → (-13 : Int32) = R ∧ sn = t3) ∧ (¬ (s_shas sle i n) = 0 → (¬ (s_shas sle j n) = 0 → ¬ i < 0 ∧ ¬ j < 0 ∧ ¬ n < 0 ∧ i.toNatClampNeg + n.toNatClampNeg ≤ 60 ∧ j.toNatClampNeg + n.toNatClampNeg ≤ 60 ∧ (n = R ∧ (va_cpy sn sn i.toNatClampNeg j.toNatClampNeg n.toNatClampNeg) = t3)) ∧ ((s_shas sle j n) = 0 → (-13 : Int32) = R ∧ sn = t3))) ∧ (¬ sla = sla → (-12 : Int32) = R ∧ sn = t3)) ∧ (¬ (s_nothing sla) = 0 → (-11 : Int32) = R ∧ sn = t3))))) :
    MF l G yX6_copyNumbers cX6_copyNumbers 8 (some .int) rm_X6_copyNumbers [.ref b0, .int k, .int i, .int other, .int j, .int n] [(b0, .inr (6, [.ref bs, .ref x0, .ref d0, .ref r0, .ref i0, .ref c0, .ref j0, .ref e0, .int lf, .int tr])), (bs, .inl (G.2.2.2, 4, .inr (.inr (.inr (.inr sh))))), (s0, .inr (4, [.ref s1, .int sla, .int sle])), (s1, .inl (G.2.1, 60, .inl sn))] (some (.int R)) [(b0, .inr (6, [.ref bs, .ref x0, .ref d0, .ref r0, .ref i0, .ref c0, .ref j0, .ref e0, .int lf, .int tr])), (bs, .inl (G.2.2.2, 4, .inr (.inr (.inr (.inr sh))))), (s0, .inr (4, [.ref s1, .int sla, .int sle])), (s1, .inl (G.2.1, 60, .inl t3))] := by
  refine MF.of (by decide +kernel) (Nat.le_of_ble_eq_true rfl) ?_
  intro p e s m args below meth c A ls fx hh hl _
  have hx := fx.hx
  have hb := fx.hb
  have hl : lv_has ls 8 [(0, .ref b0), (1, .int k), (2, .int i), (3, .int other), (4, .int j), (5, .int n)] := hl
  obtain ⟨Q, hQ⟩ : ∃ Q, Q = ZZ G A (some (.int R)) [(b0, .inr (6, [.ref bs, .ref x0, .ref d0, .ref r0, .ref i0, .ref c0, .ref j0, .ref e0, .int lf, .int tr])), (bs, .inl (G.2.2.2, 4, .inr (.inr (.inr (.inr sh))))), (s0, .inr (4, [.ref s1, .int sla, .int sle])), (s1, .inl (G.2.1, 60, .inl t3))] below args s := ⟨_, rfl⟩
  rw [← hQ]
  refine lv_aload_n (pc := 0) hx hb (dOk_at dX6_copyNumbers 0 rfl) rfl (lv_at hl 0 rfl) ?_
  refine lv_iload_n (pc := 1) hx hb (dOk_at dX6_copyNumbers 1 rfl) rfl (lv_at hl 1 rfl) ?_
  refine cl_V (pc := 2) (w' := [(b0, .inr (6, [.ref bs, .ref x0, .ref d0, .ref r0, .ref i0, .ref c0, .ref j0, .ref e0, .int lf, .int tr])), (bs, .inl (G.2.2.2, 4, .inr (.inr (.inr (.inr sh))))), (s0, .inr (4, [.ref s1, .int sla, .int sle])), (s1, .inl (G.2.1, 60, .inl sn))]) (wr := [(s0, .inr (4, [.ref s1, .int sla, .int sle])), (s1, .inl (G.2.1, 60, .inl sn))]) (rest := []) fx hh hl.1 (h_X6_sheetAt b0 bs x0 d0 r0 i0 c0 j0 e0 lf tr sh k (some s0) hv.1 hv.2.1) yV_X6_sheetAt tMX6_182 ⟨rfl, rfl, Nat.le_of_ble_eq_true rfl, Nat.le_of_ble_eq_true rfl⟩ 0 6 rfl rfl rfl [0, 1] [2, 3] [2, 3, 0, 1] rfl rfl rfl (by decide) (by decide) rfl rfl (Nat.le_of_ble_eq_true rfl) ⟨Nat.le_of_ble_eq_true rfl, Nat.le_of_ble_eq_true rfl⟩ (dOk_at dX6_copyNumbers 2 rfl) (fun H locs hh => ?_)
  have hv := hv.2.2
  refine lv_astore (pc := 5) (lv' := [(6, .ref s0), (0, .ref b0), (1, .int k), (2, .int i), (3, .int other), (4, .int j), (5, .int n)]) hx hb (dOk_at dX6_copyNumbers 3 rfl) hl (by decide) rfl (fun ls hl => ?_)
  refine lv_aload_n (pc := 7) hx hb (dOk_at dX6_copyNumbers 4 rfl) rfl (lv_at hl 1 rfl) ?_
  refine lv_iload_n (pc := 8) hx hb (dOk_at dX6_copyNumbers 5 rfl) rfl (lv_at hl 4 rfl) ?_
  refine cl_V (pc := 9) (w' := [(b0, .inr (6, [.ref bs, .ref x0, .ref d0, .ref r0, .ref i0, .ref c0, .ref j0, .ref e0, .int lf, .int tr])), (bs, .inl (G.2.2.2, 4, .inr (.inr (.inr (.inr sh))))), (s0, .inr (4, [.ref s1, .int sla, .int sle])), (s1, .inl (G.2.1, 60, .inl sn))]) (wr := [(s0, .inr (4, [.ref s1, .int sla, .int sle])), (s1, .inl (G.2.1, 60, .inl sn))]) (rest := []) fx hh hl.1 (h_X6_sheetAt b0 bs x0 d0 r0 i0 c0 j0 e0 lf tr sh other (some s0) hv.1 hv.2.1) yV_X6_sheetAt tMX6_182 ⟨rfl, rfl, Nat.le_of_ble_eq_true rfl, Nat.le_of_ble_eq_true rfl⟩ 0 6 rfl rfl rfl [0, 1] [2, 3] [2, 3, 0, 1] rfl rfl rfl (by decide) (by decide) rfl rfl (Nat.le_of_ble_eq_true rfl) ⟨Nat.le_of_ble_eq_true rfl, Nat.le_of_ble_eq_true rfl⟩ (dOk_at dX6_copyNumbers 6 rfl) (fun H locs hh => ?_)
  have hv := hv.2.2
  refine lv_astore (pc := 12) (lv' := [(7, .ref s0), (6, .ref s0), (0, .ref b0), (1, .int k), (2, .int i), (3, .int other), (4, .int j), (5, .int n)]) hx hb (dOk_at dX6_copyNumbers 7 rfl) hl (by decide) rfl (fun ls hl => ?_)
  refine lv_aload (pc := 14) hx hb (dOk_at dX6_copyNumbers 8 rfl) (lv_at hl 1 rfl) ?_
  refine lv_ifnull (pc := 16) hx hb (dOk_at dX6_copyNumbers 9 rfl) ?_
  refine lv_aload (pc := 19) hx hb (dOk_at dX6_copyNumbers 10 rfl) (lv_at hl 0 rfl) ?_
  refine lv_ifnonnull (pc := 21) (tgt := 26) hx hb (dOk_at dX6_copyNumbers 11 rfl) (by decide) ?_
  refine lv_aload (pc := 26) hx hb (dOk_at dX6_copyNumbers 14 rfl) (lv_at hl 1 rfl) ?_
  refine cl_VN (pc := 28) (w' := [(b0, .inr (6, [.ref bs, .ref x0, .ref d0, .ref r0, .ref i0, .ref c0, .ref j0, .ref e0, .int lf, .int tr])), (bs, .inl (G.2.2.2, 4, .inr (.inr (.inr (.inr sh))))), (s0, .inr (4, [.ref s1, .int sla, .int sle])), (s1, .inl (G.2.1, 60, .inl sn))]) (wr := [(b0, .inr (6, [.ref bs, .ref x0, .ref d0, .ref r0, .ref i0, .ref c0, .ref j0, .ref e0, .int lf, .int tr])), (bs, .inl (G.2.2.2, 4, .inr (.inr (.inr (.inr sh))))), (s1, .inl (G.2.1, 60, .inl sn))]) (rest := []) fx hh hl.1 (h_X4_isNothing s0 s1 sla sle) yV_X4_isNothing nMX6_186 ⟨rfl, rfl, Nat.le_of_ble_eq_true rfl, Nat.le_of_ble_eq_true rfl⟩ 2 4 rfl rfl rfl [2] [0, 1, 3] [0, 1, 3, 2] rfl rfl rfl (by decide) (by decide) rfl rfl (Nat.le_of_ble_eq_true rfl) ⟨Nat.le_of_ble_eq_true rfl, Nat.le_of_ble_eq_true rfl⟩ (dOk_at dX6_copyNumbers 15 rfl) (fun H locs hh => ?_)
  refine lv_if_ne (pc := 31) (tgt := 42) hx hb (dOk_at dX6_copyNumbers 16 rfl) (by decide) (fun c31 => ?_) (fun c31 => ?_)
  · have hv := hv.1 c31
    refine lv_bipush (pc := 42) (v := (-11)) hx hb (dOk_at dX6_copyNumbers 20 rfl) (by decide) ?_
    obtain ⟨e0, e1⟩ := hv
    subst e0
    subst e1
    rw [hQ]
    exact r_iret (pc := 44) fx hh (dOk_at dX6_copyNumbers 21 rfl)
  · have hv := hv.2 c31
    refine lv_aload (pc := 34) hx hb (dOk_at dX6_copyNumbers 17 rfl) (lv_at hl 0 rfl) ?_
    refine cl_VN (pc := 36) (w' := [(b0, .inr (6, [.ref bs, .ref x0, .ref d0, .ref r0, .ref i0, .ref c0, .ref j0, .ref e0, .int lf, .int tr])), (bs, .inl (G.2.2.2, 4, .inr (.inr (.inr (.inr sh))))), (s0, .inr (4, [.ref s1, .int sla, .int sle])), (s1, .inl (G.2.1, 60, .inl sn))]) (wr := [(b0, .inr (6, [.ref bs, .ref x0, .ref d0, .ref r0, .ref i0, .ref c0, .ref j0, .ref e0, .int lf, .int tr])), (bs, .inl (G.2.2.2, 4, .inr (.inr (.inr (.inr sh))))), (s1, .inl (G.2.1, 60, .inl sn))]) (rest := []) fx hh hl.1 (h_X4_isNothing s0 s1 sla sle) yV_X4_isNothing nMX6_186 ⟨rfl, rfl, Nat.le_of_ble_eq_true rfl, Nat.le_of_ble_eq_true rfl⟩ 2 4 rfl rfl rfl [2] [0, 1, 3] [0, 1, 3, 2] rfl rfl rfl (by decide) (by decide) rfl rfl (Nat.le_of_ble_eq_true rfl) ⟨Nat.le_of_ble_eq_true rfl, Nat.le_of_ble_eq_true rfl⟩ (dOk_at dX6_copyNumbers 18 rfl) (fun H locs hh => ?_)
    refine lv_if_eq (pc := 39) (tgt := 45) hx hb (dOk_at dX6_copyNumbers 19 rfl) (by decide) (fun c39 => ?_) (fun c39 => ?_)
    · have hv := hv.1 c39
      refine lv_aload (pc := 45) hx hb (dOk_at dX6_copyNumbers 22 rfl) (lv_at hl 1 rfl) ?_
      refine r_getN (pc := 47) (ci := 4) fx hh inT4 rfl 1 (by decide) nFX6_225 rfl 2 rfl rfl (dOk_at dX6_copyNumbers 23 rfl) ?_
      refine lv_aload (pc := 50) hx hb (dOk_at dX6_copyNumbers 24 rfl) (lv_at hl 0 rfl) ?_
      refine r_getN (pc := 52) (ci := 4) fx hh inT4 rfl 1 (by decide) nFX6_225 rfl 2 rfl rfl (dOk_at dX6_copyNumbers 25 rfl) ?_
      refine lv_icmp_eq (pc := 55) (tgt := 61) hx hb (dOk_at dX6_copyNumbers 26 rfl) (by decide) (fun c55 => ?_) (fun c55 => ?_)
      · have hv := hv.1 c55
        refine lv_aload (pc := 61) hx hb (dOk_at dX6_copyNumbers 29 rfl) (lv_at hl 1 rfl) ?_
        refine lv_iload_n (pc := 63) hx hb (dOk_at dX6_copyNumbers 30 rfl) rfl (lv_at hl 4 rfl) ?_
        refine lv_iload (pc := 64) hx hb (dOk_at dX6_copyNumbers 31 rfl) (lv_at hl 7 rfl) ?_
        refine cl_VN (pc := 66) (w' := [(b0, .inr (6, [.ref bs, .ref x0, .ref d0, .ref r0, .ref i0, .ref c0, .ref j0, .ref e0, .int lf, .int tr])), (bs, .inl (G.2.2.2, 4, .inr (.inr (.inr (.inr sh))))), (s0, .inr (4, [.ref s1, .int sla, .int sle])), (s1, .inl (G.2.1, 60, .inl sn))]) (wr := [(b0, .inr (6, [.ref bs, .ref x0, .ref d0, .ref r0, .ref i0, .ref c0, .ref j0, .ref e0, .int lf, .int tr])), (bs, .inl (G.2.2.2, 4, .inr (.inr (.inr (.inr sh))))), (s1, .inl (G.2.1, 60, .inl sn))]) (rest := []) fx hh hl.1 (h_X4_has s0 s1 sla sle i n) yV_X4_has nMX6_232 ⟨rfl, rfl, Nat.le_of_ble_eq_true rfl, Nat.le_of_ble_eq_true rfl⟩ 2 4 rfl rfl rfl [2] [0, 1, 3] [0, 1, 3, 2] rfl rfl rfl (by decide) (by decide) rfl rfl (Nat.le_of_ble_eq_true rfl) ⟨Nat.le_of_ble_eq_true rfl, Nat.le_of_ble_eq_true rfl⟩ (dOk_at dX6_copyNumbers 32 rfl) (fun H locs hh => ?_)
        refine lv_if_eq (pc := 69) (tgt := 84) hx hb (dOk_at dX6_copyNumbers 33 rfl) (by decide) (fun c69 => ?_) (fun c69 => ?_)
        · have hv := hv.1 c69
          refine lv_bipush (pc := 84) (v := (-13)) hx hb (dOk_at dX6_copyNumbers 39 rfl) (by decide) ?_
          obtain ⟨e0, e1⟩ := hv
          subst e0
          subst e1
          rw [hQ]
          exact r_iret (pc := 86) fx hh (dOk_at dX6_copyNumbers 40 rfl)
        · have hv := hv.2 c69
          refine lv_aload (pc := 72) hx hb (dOk_at dX6_copyNumbers 34 rfl) (lv_at hl 0 rfl) ?_
          refine lv_iload (pc := 74) hx hb (dOk_at dX6_copyNumbers 35 rfl) (lv_at hl 6 rfl) ?_
          refine lv_iload (pc := 76) hx hb (dOk_at dX6_copyNumbers 36 rfl) (lv_at hl 7 rfl) ?_
          refine cl_VN (pc := 78) (w' := [(b0, .inr (6, [.ref bs, .ref x0, .ref d0, .ref r0, .ref i0, .ref c0, .ref j0, .ref e0, .int lf, .int tr])), (bs, .inl (G.2.2.2, 4, .inr (.inr (.inr (.inr sh))))), (s0, .inr (4, [.ref s1, .int sla, .int sle])), (s1, .inl (G.2.1, 60, .inl sn))]) (wr := [(b0, .inr (6, [.ref bs, .ref x0, .ref d0, .ref r0, .ref i0, .ref c0, .ref j0, .ref e0, .int lf, .int tr])), (bs, .inl (G.2.2.2, 4, .inr (.inr (.inr (.inr sh))))), (s1, .inl (G.2.1, 60, .inl sn))]) (rest := []) fx hh hl.1 (h_X4_has s0 s1 sla sle j n) yV_X4_has nMX6_232 ⟨rfl, rfl, Nat.le_of_ble_eq_true rfl, Nat.le_of_ble_eq_true rfl⟩ 2 4 rfl rfl rfl [2] [0, 1, 3] [0, 1, 3, 2] rfl rfl rfl (by decide) (by decide) rfl rfl (Nat.le_of_ble_eq_true rfl) ⟨Nat.le_of_ble_eq_true rfl, Nat.le_of_ble_eq_true rfl⟩ (dOk_at dX6_copyNumbers 37 rfl) (fun H locs hh => ?_)
          refine lv_if_ne (pc := 81) (tgt := 87) hx hb (dOk_at dX6_copyNumbers 38 rfl) (by decide) (fun c81 => ?_) (fun c81 => ?_)
          · have hv := hv.1 c81
            refine lv_aload (pc := 87) hx hb (dOk_at dX6_copyNumbers 41 rfl) (lv_at hl 1 rfl) ?_
            refine r_getN (pc := 89) (ci := 4) fx hh inT4 rfl 0 (by decide) nFX6_200 rfl 2 rfl rfl (dOk_at dX6_copyNumbers 42 rfl) ?_
            refine lv_iload_n (pc := 92) hx hb (dOk_at dX6_copyNumbers 43 rfl) rfl (lv_at hl 4 rfl) ?_
            refine lv_aload (pc := 93) hx hb (dOk_at dX6_copyNumbers 44 rfl) (lv_at hl 0 rfl) ?_
            refine r_getN (pc := 95) (ci := 4) fx hh inT4 rfl 0 (by decide) nFX6_200 rfl 2 rfl rfl (dOk_at dX6_copyNumbers 45 rfl) ?_
            refine lv_iload (pc := 98) hx hb (dOk_at dX6_copyNumbers 46 rfl) (lv_at hl 6 rfl) ?_
            refine lv_iload (pc := 100) hx hb (dOk_at dX6_copyNumbers 47 rfl) (lv_at hl 7 rfl) ?_
            refine r_copyi (pc := 102) (w' := [(b0, .inr (6, [.ref bs, .ref x0, .ref d0, .ref r0, .ref i0, .ref c0, .ref j0, .ref e0, .int lf, .int tr])), (bs, .inl (G.2.2.2, 4, .inr (.inr (.inr (.inr sh))))), (s0, .inr (4, [.ref s1, .int sla, .int sle])), (s1, .inl (G.2.1, 60, .inl (va_cpy sn sn i.toNatClampNeg j.toNatClampNeg n.toNatClampNeg)))]) fx hh hl.1 tMX6_121 3 3 rfl rfl hv.1 hv.2.1 hv.2.2.1 hv.2.2.2.1 hv.2.2.2.2.1 rfl (Nat.le_of_ble_eq_true rfl) (Nat.le_of_ble_eq_true rfl) (dOk_at dX6_copyNumbers 48 rfl) (fun H locs hh => ?_)
            have hv := hv.2.2.2.2.2
            refine lv_iload (pc := 105) hx hb (dOk_at dX6_copyNumbers 49 rfl) (lv_at hl 7 rfl) ?_
            obtain ⟨e0, e1⟩ := hv
            subst e0
            subst e1
            rw [hQ]
            exact r_iret (pc := 107) fx hh (dOk_at dX6_copyNumbers 50 rfl)
          · have hv := hv.2 c81
            refine lv_bipush (pc := 84) (v := (-13)) hx hb (dOk_at dX6_copyNumbers 39 rfl) (by decide) ?_
            obtain ⟨e0, e1⟩ := hv
            subst e0
            subst e1
            rw [hQ]
            exact r_iret (pc := 86) fx hh (dOk_at dX6_copyNumbers 40 rfl)
      · have hv := hv.2 c55
        refine lv_bipush (pc := 58) (v := (-12)) hx hb (dOk_at dX6_copyNumbers 27 rfl) (by decide) ?_
        obtain ⟨e0, e1⟩ := hv
        subst e0
        subst e1
        rw [hQ]
        exact r_iret (pc := 60) fx hh (dOk_at dX6_copyNumbers 28 rfl)
    · have hv := hv.2 c39
      refine lv_bipush (pc := 42) (v := (-11)) hx hb (dOk_at dX6_copyNumbers 20 rfl) (by decide) ?_
      obtain ⟨e0, e1⟩ := hv
      subst e0
      subst e1
      rw [hQ]
      exact r_iret (pc := 44) fx hh (dOk_at dX6_copyNumbers 21 rfl)
set_option maxRecDepth 100000 in
set_option maxHeartbeats 4000000 in
theorem wk_X6_copyNumbers_n (l : Launch) (G : GT) (b0 : Nat) (bs : Nat) (x0 : Nat) (d0 : Nat) (r0 : Nat) (i0 : Nat) (c0 : Nat) (j0 : Nat) (e0 : Nat) (lf : Int32) (tr : Int32) (sh : Nat → Option Nat) (k : Int32) (i : Int32) (other : Int32) (j : Int32) (n : Int32) (R : Int32) (h_X6_sheetAt : K_X6_sheetAt l G)
    (hv : s_shAt sh k = none ∧ (s_in k 0 3 = 0 ∨ vp_in k 4) ∧ (s_shAt sh other = none ∧ (s_in other 0 3 = 0 ∨ vp_in other 4) ∧ (-1 : Int32) = R)) :
    MF l G yX6_copyNumbers cX6_copyNumbers 8 (some .int) rm_X6_copyNumbers [.ref b0, .int k, .int i, .int other, .int j, .int n] [(b0, .inr (6, [.ref bs, .ref x0, .ref d0, .ref r0, .ref i0, .ref c0, .ref j0, .ref e0, .int lf, .int tr])), (bs, .inl (G.2.2.2, 4, .inr (.inr (.inr (.inr sh)))))] (some (.int R)) [(b0, .inr (6, [.ref bs, .ref x0, .ref d0, .ref r0, .ref i0, .ref c0, .ref j0, .ref e0, .int lf, .int tr])), (bs, .inl (G.2.2.2, 4, .inr (.inr (.inr (.inr sh)))))] := by
  refine MF.of (by decide +kernel) (Nat.le_of_ble_eq_true rfl) ?_
  intro p e s m args below meth c A ls fx hh hl _
  have hx := fx.hx
  have hb := fx.hb
  have hl : lv_has ls 8 [(0, .ref b0), (1, .int k), (2, .int i), (3, .int other), (4, .int j), (5, .int n)] := hl
  obtain ⟨Q, hQ⟩ : ∃ Q, Q = ZZ G A (some (.int R)) [(b0, .inr (6, [.ref bs, .ref x0, .ref d0, .ref r0, .ref i0, .ref c0, .ref j0, .ref e0, .int lf, .int tr])), (bs, .inl (G.2.2.2, 4, .inr (.inr (.inr (.inr sh)))))] below args s := ⟨_, rfl⟩
  rw [← hQ]
  refine lv_aload_n (pc := 0) hx hb (dOk_at dX6_copyNumbers 0 rfl) rfl (lv_at hl 0 rfl) ?_
  refine lv_iload_n (pc := 1) hx hb (dOk_at dX6_copyNumbers 1 rfl) rfl (lv_at hl 1 rfl) ?_
  refine cl_V (pc := 2) (w' := [(b0, .inr (6, [.ref bs, .ref x0, .ref d0, .ref r0, .ref i0, .ref c0, .ref j0, .ref e0, .int lf, .int tr])), (bs, .inl (G.2.2.2, 4, .inr (.inr (.inr (.inr sh)))))]) (wr := []) (rest := []) fx hh hl.1 (h_X6_sheetAt b0 bs x0 d0 r0 i0 c0 j0 e0 lf tr sh k none hv.1 hv.2.1) yV_X6_sheetAt tMX6_182 ⟨rfl, rfl, Nat.le_of_ble_eq_true rfl, Nat.le_of_ble_eq_true rfl⟩ 0 6 rfl rfl rfl [0, 1] [] [0, 1] rfl rfl rfl (by decide) (by decide) rfl rfl (Nat.le_of_ble_eq_true rfl) ⟨Nat.le_of_ble_eq_true rfl, Nat.le_of_ble_eq_true rfl⟩ (dOk_at dX6_copyNumbers 2 rfl) (fun H locs hh => ?_)
  have hv := hv.2.2
  refine lv_astoreN (pc := 5) (lv' := [(6, .null), (0, .ref b0), (1, .int k), (2, .int i), (3, .int other), (4, .int j), (5, .int n)]) hx hb (dOk_at dX6_copyNumbers 3 rfl) hl (by decide) rfl (fun ls hl => ?_)
  refine lv_aload_n (pc := 7) hx hb (dOk_at dX6_copyNumbers 4 rfl) rfl (lv_at hl 1 rfl) ?_
  refine lv_iload_n (pc := 8) hx hb (dOk_at dX6_copyNumbers 5 rfl) rfl (lv_at hl 4 rfl) ?_
  refine cl_V (pc := 9) (w' := [(b0, .inr (6, [.ref bs, .ref x0, .ref d0, .ref r0, .ref i0, .ref c0, .ref j0, .ref e0, .int lf, .int tr])), (bs, .inl (G.2.2.2, 4, .inr (.inr (.inr (.inr sh)))))]) (wr := []) (rest := []) fx hh hl.1 (h_X6_sheetAt b0 bs x0 d0 r0 i0 c0 j0 e0 lf tr sh other none hv.1 hv.2.1) yV_X6_sheetAt tMX6_182 ⟨rfl, rfl, Nat.le_of_ble_eq_true rfl, Nat.le_of_ble_eq_true rfl⟩ 0 6 rfl rfl rfl [0, 1] [] [0, 1] rfl rfl rfl (by decide) (by decide) rfl rfl (Nat.le_of_ble_eq_true rfl) ⟨Nat.le_of_ble_eq_true rfl, Nat.le_of_ble_eq_true rfl⟩ (dOk_at dX6_copyNumbers 6 rfl) (fun H locs hh => ?_)
  have hv := hv.2.2
  refine lv_astoreN (pc := 12) (lv' := [(7, .null), (6, .null), (0, .ref b0), (1, .int k), (2, .int i), (3, .int other), (4, .int j), (5, .int n)]) hx hb (dOk_at dX6_copyNumbers 7 rfl) hl (by decide) rfl (fun ls hl => ?_)
  refine lv_aloadN (pc := 14) hx hb (dOk_at dX6_copyNumbers 8 rfl) (lv_at hl 1 rfl) ?_
  refine lv_ifnullN (pc := 16) (tgt := 24) hx hb (dOk_at dX6_copyNumbers 9 rfl) (by decide) ?_
  refine lv_iconst (pc := 24) (v := (-1)) hx hb (dOk_at dX6_copyNumbers 12 rfl) (by decide) ?_
  have e0 := hv
  subst e0
  rw [hQ]
  exact r_iret (pc := 25) fx hh (dOk_at dX6_copyNumbers 13 rfl)
set_option maxRecDepth 100000 in
set_option maxHeartbeats 4000000 in
theorem wk_X6_copyNumbers_n1 (l : Launch) (G : GT) (b0 : Nat) (bs : Nat) (x0 : Nat) (d0 : Nat) (r0 : Nat) (i0 : Nat) (c0 : Nat) (j0 : Nat) (e0 : Nat) (lf : Int32) (tr : Int32) (sh : Nat → Option Nat) (k : Int32) (i : Int32) (other : Int32) (j : Int32) (n : Int32) (u0 : Nat) (R : Int32) (h_X6_sheetAt : K_X6_sheetAt l G)
    (hv : s_shAt sh k = none ∧ (s_in k 0 3 = 0 ∨ vp_in k 4) ∧ (s_shAt sh other = (some u0) ∧ (s_in other 0 3 = 0 ∨ vp_in other 4) ∧ (-1 : Int32) = R)) :
    MF l G yX6_copyNumbers cX6_copyNumbers 8 (some .int) rm_X6_copyNumbers [.ref b0, .int k, .int i, .int other, .int j, .int n] [(b0, .inr (6, [.ref bs, .ref x0, .ref d0, .ref r0, .ref i0, .ref c0, .ref j0, .ref e0, .int lf, .int tr])), (bs, .inl (G.2.2.2, 4, .inr (.inr (.inr (.inr sh)))))] (some (.int R)) [(b0, .inr (6, [.ref bs, .ref x0, .ref d0, .ref r0, .ref i0, .ref c0, .ref j0, .ref e0, .int lf, .int tr])), (bs, .inl (G.2.2.2, 4, .inr (.inr (.inr (.inr sh)))))] := by
  refine MF.of (by decide +kernel) (Nat.le_of_ble_eq_true rfl) ?_
  intro p e s m args below meth c A ls fx hh hl _
  have hx := fx.hx
  have hb := fx.hb
  have hl : lv_has ls 8 [(0, .ref b0), (1, .int k), (2, .int i), (3, .int other), (4, .int j), (5, .int n)] := hl
  obtain ⟨Q, hQ⟩ : ∃ Q, Q = ZZ G A (some (.int R)) [(b0, .inr (6, [.ref bs, .ref x0, .ref d0, .ref r0, .ref i0, .ref c0, .ref j0, .ref e0, .int lf, .int tr])), (bs, .inl (G.2.2.2, 4, .inr (.inr (.inr (.inr sh)))))] below args s := ⟨_, rfl⟩
  rw [← hQ]
  refine lv_aload_n (pc := 0) hx hb (dOk_at dX6_copyNumbers 0 rfl) rfl (lv_at hl 0 rfl) ?_
  refine lv_iload_n (pc := 1) hx hb (dOk_at dX6_copyNumbers 1 rfl) rfl (lv_at hl 1 rfl) ?_
  refine cl_V (pc := 2) (w' := [(b0, .inr (6, [.ref bs, .ref x0, .ref d0, .ref r0, .ref i0, .ref c0, .ref j0, .ref e0, .int lf, .int tr])), (bs, .inl (G.2.2.2, 4, .inr (.inr (.inr (.inr sh)))))]) (wr := []) (rest := []) fx hh hl.1 (h_X6_sheetAt b0 bs x0 d0 r0 i0 c0 j0 e0 lf tr sh k none hv.1 hv.2.1) yV_X6_sheetAt tMX6_182 ⟨rfl, rfl, Nat.le_of_ble_eq_true rfl, Nat.le_of_ble_eq_true rfl⟩ 0 6 rfl rfl rfl [0, 1] [] [0, 1] rfl rfl rfl (by decide) (by decide) rfl rfl (Nat.le_of_ble_eq_true rfl) ⟨Nat.le_of_ble_eq_true rfl, Nat.le_of_ble_eq_true rfl⟩ (dOk_at dX6_copyNumbers 2 rfl) (fun H locs hh => ?_)
  have hv := hv.2.2
  refine lv_astoreN (pc := 5) (lv' := [(6, .null), (0, .ref b0), (1, .int k), (2, .int i), (3, .int other), (4, .int j), (5, .int n)]) hx hb (dOk_at dX6_copyNumbers 3 rfl) hl (by decide) rfl (fun ls hl => ?_)
  refine lv_aload_n (pc := 7) hx hb (dOk_at dX6_copyNumbers 4 rfl) rfl (lv_at hl 1 rfl) ?_
  refine lv_iload_n (pc := 8) hx hb (dOk_at dX6_copyNumbers 5 rfl) rfl (lv_at hl 4 rfl) ?_
  refine cl_V (pc := 9) (w' := [(b0, .inr (6, [.ref bs, .ref x0, .ref d0, .ref r0, .ref i0, .ref c0, .ref j0, .ref e0, .int lf, .int tr])), (bs, .inl (G.2.2.2, 4, .inr (.inr (.inr (.inr sh)))))]) (wr := []) (rest := []) fx hh hl.1 (h_X6_sheetAt b0 bs x0 d0 r0 i0 c0 j0 e0 lf tr sh other (some u0) hv.1 hv.2.1) yV_X6_sheetAt tMX6_182 ⟨rfl, rfl, Nat.le_of_ble_eq_true rfl, Nat.le_of_ble_eq_true rfl⟩ 0 6 rfl rfl rfl [0, 1] [] [0, 1] rfl rfl rfl (by decide) (by decide) rfl rfl (Nat.le_of_ble_eq_true rfl) ⟨Nat.le_of_ble_eq_true rfl, Nat.le_of_ble_eq_true rfl⟩ (dOk_at dX6_copyNumbers 6 rfl) (fun H locs hh => ?_)
  have hv := hv.2.2
  refine lv_astore (pc := 12) (lv' := [(7, .ref u0), (6, .null), (0, .ref b0), (1, .int k), (2, .int i), (3, .int other), (4, .int j), (5, .int n)]) hx hb (dOk_at dX6_copyNumbers 7 rfl) hl (by decide) rfl (fun ls hl => ?_)
  refine lv_aloadN (pc := 14) hx hb (dOk_at dX6_copyNumbers 8 rfl) (lv_at hl 1 rfl) ?_
  refine lv_ifnullN (pc := 16) (tgt := 24) hx hb (dOk_at dX6_copyNumbers 9 rfl) (by decide) ?_
  refine lv_iconst (pc := 24) (v := (-1)) hx hb (dOk_at dX6_copyNumbers 12 rfl) (by decide) ?_
  have e0 := hv
  subst e0
  rw [hQ]
  exact r_iret (pc := 25) fx hh (dOk_at dX6_copyNumbers 13 rfl)
set_option maxRecDepth 100000 in
set_option maxHeartbeats 4000000 in
theorem wk_X6_copyNumbers_n2 (l : Launch) (G : GT) (b0 : Nat) (bs : Nat) (x0 : Nat) (d0 : Nat) (r0 : Nat) (i0 : Nat) (c0 : Nat) (j0 : Nat) (e0 : Nat) (lf : Int32) (tr : Int32) (sh : Nat → Option Nat) (k : Int32) (i : Int32) (other : Int32) (j : Int32) (n : Int32) (s0 : Nat) (R : Int32) (h_X6_sheetAt : K_X6_sheetAt l G)
    (hv : s_shAt sh k = (some s0) ∧ (s_in k 0 3 = 0 ∨ vp_in k 4) ∧ (s_shAt sh other = none ∧ (s_in other 0 3 = 0 ∨ vp_in other 4) ∧ (-1 : Int32) = R)) :
    MF l G yX6_copyNumbers cX6_copyNumbers 8 (some .int) rm_X6_copyNumbers [.ref b0, .int k, .int i, .int other, .int j, .int n] [(b0, .inr (6, [.ref bs, .ref x0, .ref d0, .ref r0, .ref i0, .ref c0, .ref j0, .ref e0, .int lf, .int tr])), (bs, .inl (G.2.2.2, 4, .inr (.inr (.inr (.inr sh)))))] (some (.int R)) [(b0, .inr (6, [.ref bs, .ref x0, .ref d0, .ref r0, .ref i0, .ref c0, .ref j0, .ref e0, .int lf, .int tr])), (bs, .inl (G.2.2.2, 4, .inr (.inr (.inr (.inr sh)))))] := by
  refine MF.of (by decide +kernel) (Nat.le_of_ble_eq_true rfl) ?_
  intro p e s m args below meth c A ls fx hh hl _
  have hx := fx.hx
  have hb := fx.hb
  have hl : lv_has ls 8 [(0, .ref b0), (1, .int k), (2, .int i), (3, .int other), (4, .int j), (5, .int n)] := hl
  obtain ⟨Q, hQ⟩ : ∃ Q, Q = ZZ G A (some (.int R)) [(b0, .inr (6, [.ref bs, .ref x0, .ref d0, .ref r0, .ref i0, .ref c0, .ref j0, .ref e0, .int lf, .int tr])), (bs, .inl (G.2.2.2, 4, .inr (.inr (.inr (.inr sh)))))] below args s := ⟨_, rfl⟩
  rw [← hQ]
  refine lv_aload_n (pc := 0) hx hb (dOk_at dX6_copyNumbers 0 rfl) rfl (lv_at hl 0 rfl) ?_
  refine lv_iload_n (pc := 1) hx hb (dOk_at dX6_copyNumbers 1 rfl) rfl (lv_at hl 1 rfl) ?_
  refine cl_V (pc := 2) (w' := [(b0, .inr (6, [.ref bs, .ref x0, .ref d0, .ref r0, .ref i0, .ref c0, .ref j0, .ref e0, .int lf, .int tr])), (bs, .inl (G.2.2.2, 4, .inr (.inr (.inr (.inr sh)))))]) (wr := []) (rest := []) fx hh hl.1 (h_X6_sheetAt b0 bs x0 d0 r0 i0 c0 j0 e0 lf tr sh k (some s0) hv.1 hv.2.1) yV_X6_sheetAt tMX6_182 ⟨rfl, rfl, Nat.le_of_ble_eq_true rfl, Nat.le_of_ble_eq_true rfl⟩ 0 6 rfl rfl rfl [0, 1] [] [0, 1] rfl rfl rfl (by decide) (by decide) rfl rfl (Nat.le_of_ble_eq_true rfl) ⟨Nat.le_of_ble_eq_true rfl, Nat.le_of_ble_eq_true rfl⟩ (dOk_at dX6_copyNumbers 2 rfl) (fun H locs hh => ?_)
  have hv := hv.2.2
  refine lv_astore (pc := 5) (lv' := [(6, .ref s0), (0, .ref b0), (1, .int k), (2, .int i), (3, .int other), (4, .int j), (5, .int n)]) hx hb (dOk_at dX6_copyNumbers 3 rfl) hl (by decide) rfl (fun ls hl => ?_)
  refine lv_aload_n (pc := 7) hx hb (dOk_at dX6_copyNumbers 4 rfl) rfl (lv_at hl 1 rfl) ?_
  refine lv_iload_n (pc := 8) hx hb (dOk_at dX6_copyNumbers 5 rfl) rfl (lv_at hl 4 rfl) ?_
  refine cl_V (pc := 9) (w' := [(b0, .inr (6, [.ref bs, .ref x0, .ref d0, .ref r0, .ref i0, .ref c0, .ref j0, .ref e0, .int lf, .int tr])), (bs, .inl (G.2.2.2, 4, .inr (.inr (.inr (.inr sh)))))]) (wr := []) (rest := []) fx hh hl.1 (h_X6_sheetAt b0 bs x0 d0 r0 i0 c0 j0 e0 lf tr sh other none hv.1 hv.2.1) yV_X6_sheetAt tMX6_182 ⟨rfl, rfl, Nat.le_of_ble_eq_true rfl, Nat.le_of_ble_eq_true rfl⟩ 0 6 rfl rfl rfl [0, 1] [] [0, 1] rfl rfl rfl (by decide) (by decide) rfl rfl (Nat.le_of_ble_eq_true rfl) ⟨Nat.le_of_ble_eq_true rfl, Nat.le_of_ble_eq_true rfl⟩ (dOk_at dX6_copyNumbers 6 rfl) (fun H locs hh => ?_)
  have hv := hv.2.2
  refine lv_astoreN (pc := 12) (lv' := [(7, .null), (6, .ref s0), (0, .ref b0), (1, .int k), (2, .int i), (3, .int other), (4, .int j), (5, .int n)]) hx hb (dOk_at dX6_copyNumbers 7 rfl) hl (by decide) rfl (fun ls hl => ?_)
  refine lv_aload (pc := 14) hx hb (dOk_at dX6_copyNumbers 8 rfl) (lv_at hl 1 rfl) ?_
  refine lv_ifnull (pc := 16) hx hb (dOk_at dX6_copyNumbers 9 rfl) ?_
  refine lv_aloadN (pc := 19) hx hb (dOk_at dX6_copyNumbers 10 rfl) (lv_at hl 0 rfl) ?_
  refine lv_ifnonnullN (pc := 21) hx hb (dOk_at dX6_copyNumbers 11 rfl) ?_
  refine lv_iconst (pc := 24) (v := (-1)) hx hb (dOk_at dX6_copyNumbers 12 rfl) (by decide) ?_
  have e0 := hv
  subst e0
  rw [hQ]
  exact r_iret (pc := 25) fx hh (dOk_at dX6_copyNumbers 13 rfl)
set_option maxRecDepth 100000 in
set_option maxHeartbeats 4000000 in
theorem wk_X6_leave (l : Launch) (G : GT) (b0 : Nat) (bs : Nat) (x0 : Nat) (d0 : Nat) (r0 : Nat) (i0 : Nat) (c0 : Nat) (j0 : Nat) (e0 : Nat) (lf : Int32) (tr : Int32) (body : Int32) (t0_9 : Int32)
    (hv : ((31 * tr) + body) = t0_9) :
    MF l G yX6_leave cX6_leave 2 none rm_X6_leave [.ref b0, .int body] [(b0, .inr (6, [.ref bs, .ref x0, .ref d0, .ref r0, .ref i0, .ref c0, .ref j0, .ref e0, .int lf, .int tr]))] none [(b0, .inr (6, [.ref bs, .ref x0, .ref d0, .ref r0, .ref i0, .ref c0, .ref j0, .ref e0, .int lf, .int t0_9]))] := by
  refine MF.of (by decide +kernel) (Nat.le_of_ble_eq_true rfl) ?_
  intro p e s m args below meth c A ls fx hh hl _
  have hx := fx.hx
  have hb := fx.hb
  have hl : lv_has ls 2 [(0, .ref b0), (1, .int body)] := hl
  obtain ⟨Q, hQ⟩ : ∃ Q, Q = ZZ G A none [(b0, .inr (6, [.ref bs, .ref x0, .ref d0, .ref r0, .ref i0, .ref c0, .ref j0, .ref e0, .int lf, .int t0_9]))] below args s := ⟨_, rfl⟩
  rw [← hQ]
  refine lv_aload_n (pc := 0) hx hb (dOk_at dX6_leave 0 rfl) rfl (lv_at hl 0 rfl) ?_
  refine lv_bipush (pc := 1) (v := 31) hx hb (dOk_at dX6_leave 1 rfl) (by decide) ?_
  refine lv_aload_n (pc := 3) hx hb (dOk_at dX6_leave 2 rfl) rfl (lv_at hl 0 rfl) ?_
  refine r_get (pc := 4) (ci := 6) fx hh inT6 rfl 9 (by decide) tFX6_62 rfl 0 rfl rfl (dOk_at dX6_leave 3 rfl) ?_
  refine lv_imul (pc := 7) hx hb (dOk_at dX6_leave 4 rfl) ?_
  refine lv_iload_n (pc := 8) hx hb (dOk_at dX6_leave 5 rfl) rfl (lv_at hl 1 rfl) ?_
  refine lv_iadd (pc := 9) hx hb (dOk_at dX6_leave 6 rfl) ?_
  refine r_put (pc := 10) (ci := 6) (w' := [(b0, .inr (6, [.ref bs, .ref x0, .ref d0, .ref r0, .ref i0, .ref c0, .ref j0, .ref e0, .int lf, .int ((31 * tr) + body)]))]) fx hh inT6 tyX6 tyX6_ok nmX6 rfl 9 (by decide) tFX6_62 rfl rfl 0 rfl rfl rfl (Nat.le_of_ble_eq_true rfl) rfl (dOk_at dX6_leave 7 rfl) (fun H locs hh => ?_)
  have e0 := hv
  subst e0
  rw [hQ]
  exact r_vret (pc := 13) fx hh (dOk_at dX6_leave 8 rfl)
