/-! the constructors -/
abbrev rm_X0_init : Room := { frames := 1, cells := 2, slots := 8, locals := 12 }
theorem k_X0_init (l : Launch) (G : GT) (z0 : Nat) : MN l G yX0_init cX0_init 1 rm_X0_init [.ref z0] [(z0, .inr (0, [.null, .null, .int 0]))] (fun _ => True) (fun jj : Nat × Nat => [(z0, .inr (0, [.ref jj.1, .ref jj.2, .int 0])), (jj.1, .inl (G.2.1, 4, .inl (fun _ => 0))), (jj.2, .inl (G.2.1, 4, .inl (fun _ => 0)))]) := by
  refine MN.of (by decide +kernel) (Nat.le_of_ble_eq_true rfl) ?_
  intro p e s m args below meth c A ls fx hE hh hl hin
  have hx := fx.hx
  have hb := fx.hb
  have hin2 := hin rfl
  obtain ⟨H, hH⟩ : ∃ z, z = s.heap := ⟨_, rfl⟩
  obtain ⟨locs, hlo⟩ : ∃ z : List Loc, z = [] := ⟨_, rfl⟩
  rw [← hH, ← hlo]
  have hh : HP G A [(z0, .inr (0, [.null, .null, .int 0]))] s H locs := by rw [hH, hlo]; exact hh
  refine lv_aload_n (pc := 0) hx hb (dOk_at dX0_init 0 rfl) rfl (lv_at hl 0 rfl) ?_
  refine r_objInit (pc := 1) fx hl.1 tMX0_3 (dOk_at dX0_init 1 rfl) (Nat.le_of_ble_eq_true rfl) (Nat.le_of_ble_eq_true rfl) ?_
  refine lv_aload_n (pc := 4) hx hb (dOk_at dX0_init 2 rfl) rfl (lv_at hl 0 rfl) ?_
  refine lv_iconst (pc := 5) (v := 4) hx hb (dOk_at dX0_init 3 rfl) (by decide) ?_
  refine r_newaI (pc := 6) (N := 4) fx hh (by decide) (by decide) (Nat.le_of_ble_eq_true rfl) (Nat.le_of_ble_eq_true rfl) (Nat.le_of_ble_eq_true rfl) (dOk_at dX0_init 4 rfl) (fun q1 H hh => ?_)
  have hh : HP G A [(z0, .inr (0, [.null, .null, .int 0])), (q1, .inl (G.2.1, 4, .inl (fun _ => 0)))] s H locs := hh
  refine r_putF (pc := 8) (ci := 0) (w' := [(z0, .inr (0, [.ref q1, .null, .int 0])), (q1, .inl (G.2.1, 4, .inl (fun _ => 0)))]) fx hh hin2 inT0 tyX0 tyX0_ok nmX0 rfl 0 (by decide) tFX0_9 rfl rfl rfl 0 rfl rfl rfl (Nat.le_of_ble_eq_true rfl) rfl (dOk_at dX0_init 5 rfl) (fun H locs hh => ?_)
  refine lv_aload_n (pc := 11) hx hb (dOk_at dX0_init 6 rfl) rfl (lv_at hl 0 rfl) ?_
  refine lv_iconst (pc := 12) (v := 4) hx hb (dOk_at dX0_init 7 rfl) (by decide) ?_
  refine r_newaI (pc := 13) (N := 4) fx hh (by decide) (by decide) (Nat.le_of_ble_eq_true rfl) (Nat.le_of_ble_eq_true rfl) (Nat.le_of_ble_eq_true rfl) (dOk_at dX0_init 8 rfl) (fun q2 H hh => ?_)
  have hh : HP G A [(z0, .inr (0, [.ref q1, .null, .int 0])), (q1, .inl (G.2.1, 4, .inl (fun _ => 0))), (q2, .inl (G.2.1, 4, .inl (fun _ => 0)))] s H locs := hh
  refine r_putF (pc := 15) (ci := 0) (w' := [(z0, .inr (0, [.ref q1, .ref q2, .int 0])), (q1, .inl (G.2.1, 4, .inl (fun _ => 0))), (q2, .inl (G.2.1, 4, .inl (fun _ => 0)))]) fx hh hin2 inT0 tyX0 tyX0_ok nmX0 rfl 1 (by decide) tFX0_15 rfl rfl rfl 0 rfl rfl rfl (Nat.le_of_ble_eq_true rfl) rfl (dOk_at dX0_init 9 rfl) (fun H locs hh => ?_)
  refine lv_aload_n (pc := 18) hx hb (dOk_at dX0_init 10 rfl) rfl (lv_at hl 0 rfl) ?_
  refine lv_iconst (pc := 19) (v := 0) hx hb (dOk_at dX0_init 11 rfl) (by decide) ?_
  refine r_put (pc := 20) (ci := 0) (w' := [(z0, .inr (0, [.ref q1, .ref q2, .int 0])), (q1, .inl (G.2.1, 4, .inl (fun _ => 0))), (q2, .inl (G.2.1, 4, .inl (fun _ => 0)))]) fx hh inT0 tyX0 tyX0_ok nmX0 rfl 2 (by decide) tFX0_18 rfl rfl 0 rfl rfl rfl (Nat.le_of_ble_eq_true rfl) rfl (dOk_at dX0_init 12 rfl) (fun H locs hh => ?_)
  refine W.widen (k := 2) (n := 8) (Nat.le_of_ble_eq_true rfl) (Nat.le_of_ble_eq_true rfl) ?_
  exact r_vretN (q1, q2) fx hh (dOk_at dX0_init 13 rfl)
abbrev rm_X1_init : Room := { frames := 1, cells := 1, slots := 20, locals := 12 }
theorem k_X1_init (l : Launch) (G : GT) (z0 : Nat) : MN l G yX1_init cX1_init 1 rm_X1_init [.ref z0] [(z0, .inr (1, [.null, .int 0, .int 0, .int 0]))] (fun _ => True) (fun jj : Nat => [(z0, .inr (1, [.ref jj, .int 0, .int 0, .int (-9)])), (jj, .inl (G.2.1, 20, .inl (fun _ => 0)))]) := by
  refine MN.of (by decide +kernel) (Nat.le_of_ble_eq_true rfl) ?_
  intro p e s m args below meth c A ls fx hE hh hl hin
  have hx := fx.hx
  have hb := fx.hb
  have hin2 := hin rfl
  obtain ⟨H, hH⟩ : ∃ z, z = s.heap := ⟨_, rfl⟩
  obtain ⟨locs, hlo⟩ : ∃ z : List Loc, z = [] := ⟨_, rfl⟩
  rw [← hH, ← hlo]
  have hh : HP G A [(z0, .inr (1, [.null, .int 0, .int 0, .int 0]))] s H locs := by rw [hH, hlo]; exact hh
  refine lv_aload_n (pc := 0) hx hb (dOk_at dX1_init 0 rfl) rfl (lv_at hl 0 rfl) ?_
  refine r_objInit (pc := 1) fx hl.1 tMX1_3 (dOk_at dX1_init 1 rfl) (Nat.le_of_ble_eq_true rfl) (Nat.le_of_ble_eq_true rfl) ?_
  refine lv_aload_n (pc := 4) hx hb (dOk_at dX1_init 2 rfl) rfl (lv_at hl 0 rfl) ?_
  refine lv_bipush (pc := 5) (v := 20) hx hb (dOk_at dX1_init 3 rfl) (by decide) ?_
  refine r_newaI (pc := 7) (N := 20) fx hh (by decide) (by decide) (Nat.le_of_ble_eq_true rfl) (Nat.le_of_ble_eq_true rfl) (Nat.le_of_ble_eq_true rfl) (dOk_at dX1_init 4 rfl) (fun q1 H hh => ?_)
  have hh : HP G A [(z0, .inr (1, [.null, .int 0, .int 0, .int 0])), (q1, .inl (G.2.1, 20, .inl (fun _ => 0)))] s H locs := hh
  refine r_putF (pc := 9) (ci := 1) (w' := [(z0, .inr (1, [.ref q1, .int 0, .int 0, .int 0])), (q1, .inl (G.2.1, 20, .inl (fun _ => 0)))]) fx hh hin2 inT1 tyX1 tyX1_ok nmX1 rfl 0 (by decide) tFX1_9 rfl rfl rfl 0 rfl rfl rfl (Nat.le_of_ble_eq_true rfl) rfl (dOk_at dX1_init 5 rfl) (fun H locs hh => ?_)
  refine lv_aload_n (pc := 12) hx hb (dOk_at dX1_init 6 rfl) rfl (lv_at hl 0 rfl) ?_
  refine lv_iconst (pc := 13) (v := 0) hx hb (dOk_at dX1_init 7 rfl) (by decide) ?_
  refine r_put (pc := 14) (ci := 1) (w' := [(z0, .inr (1, [.ref q1, .int 0, .int 0, .int 0])), (q1, .inl (G.2.1, 20, .inl (fun _ => 0)))]) fx hh inT1 tyX1 tyX1_ok nmX1 rfl 1 (by decide) tFX1_15 rfl rfl 0 rfl rfl rfl (Nat.le_of_ble_eq_true rfl) rfl (dOk_at dX1_init 8 rfl) (fun H locs hh => ?_)
  refine lv_aload_n (pc := 17) hx hb (dOk_at dX1_init 9 rfl) rfl (lv_at hl 0 rfl) ?_
  refine lv_iconst (pc := 18) (v := 0) hx hb (dOk_at dX1_init 10 rfl) (by decide) ?_
  refine r_put (pc := 19) (ci := 1) (w' := [(z0, .inr (1, [.ref q1, .int 0, .int 0, .int 0])), (q1, .inl (G.2.1, 20, .inl (fun _ => 0)))]) fx hh inT1 tyX1 tyX1_ok nmX1 rfl 2 (by decide) tFX1_19 rfl rfl 0 rfl rfl rfl (Nat.le_of_ble_eq_true rfl) rfl (dOk_at dX1_init 11 rfl) (fun H locs hh => ?_)
  refine lv_aload_n (pc := 22) hx hb (dOk_at dX1_init 12 rfl) rfl (lv_at hl 0 rfl) ?_
  refine lv_bipush (pc := 23) (v := (-9)) hx hb (dOk_at dX1_init 13 rfl) (by decide) ?_
  refine r_put (pc := 25) (ci := 1) (w' := [(z0, .inr (1, [.ref q1, .int 0, .int 0, .int (-9)])), (q1, .inl (G.2.1, 20, .inl (fun _ => 0)))]) fx hh inT1 tyX1 tyX1_ok nmX1 rfl 3 (by decide) tFX1_22 rfl rfl 0 rfl rfl rfl (Nat.le_of_ble_eq_true rfl) rfl (dOk_at dX1_init 14 rfl) (fun H locs hh => ?_)
  refine W.widen (k := 1) (n := 20) (Nat.le_of_ble_eq_true rfl) (Nat.le_of_ble_eq_true rfl) ?_
  exact r_vretN q1 fx hh (dOk_at dX1_init 15 rfl)
abbrev rm_X2_init : Room := { frames := 1, cells := 1, slots := 20, locals := 12 }
theorem k_X2_init (l : Launch) (G : GT) (z0 : Nat) : MN l G yX2_init cX2_init 1 rm_X2_init [.ref z0] [(z0, .inr (2, [.null, .int 0, .int 0, .int 0, .int 0, .int 0]))] (fun _ => True) (fun jj : Nat => [(z0, .inr (2, [.ref jj, .int 0, .int 0, .int 0, .int 0, .int 0])), (jj, .inl (G.2.1, 20, .inl (fun _ => 0)))]) := by
  refine MN.of (by decide +kernel) (Nat.le_of_ble_eq_true rfl) ?_
  intro p e s m args below meth c A ls fx hE hh hl hin
  have hx := fx.hx
  have hb := fx.hb
  have hin2 := hin rfl
  obtain ⟨H, hH⟩ : ∃ z, z = s.heap := ⟨_, rfl⟩
  obtain ⟨locs, hlo⟩ : ∃ z : List Loc, z = [] := ⟨_, rfl⟩
  rw [← hH, ← hlo]
  have hh : HP G A [(z0, .inr (2, [.null, .int 0, .int 0, .int 0, .int 0, .int 0]))] s H locs := by rw [hH, hlo]; exact hh
  refine lv_aload_n (pc := 0) hx hb (dOk_at dX2_init 0 rfl) rfl (lv_at hl 0 rfl) ?_
  refine r_objInit (pc := 1) fx hl.1 tMX2_3 (dOk_at dX2_init 1 rfl) (Nat.le_of_ble_eq_true rfl) (Nat.le_of_ble_eq_true rfl) ?_
  refine lv_aload_n (pc := 4) hx hb (dOk_at dX2_init 2 rfl) rfl (lv_at hl 0 rfl) ?_
  refine lv_bipush (pc := 5) (v := 20) hx hb (dOk_at dX2_init 3 rfl) (by decide) ?_
  refine r_newaI (pc := 7) (N := 20) fx hh (by decide) (by decide) (Nat.le_of_ble_eq_true rfl) (Nat.le_of_ble_eq_true rfl) (Nat.le_of_ble_eq_true rfl) (dOk_at dX2_init 4 rfl) (fun q1 H hh => ?_)
  have hh : HP G A [(z0, .inr (2, [.null, .int 0, .int 0, .int 0, .int 0, .int 0])), (q1, .inl (G.2.1, 20, .inl (fun _ => 0)))] s H locs := hh
  refine r_putF (pc := 9) (ci := 2) (w' := [(z0, .inr (2, [.ref q1, .int 0, .int 0, .int 0, .int 0, .int 0])), (q1, .inl (G.2.1, 20, .inl (fun _ => 0)))]) fx hh hin2 inT2 tyX2 tyX2_ok nmX2 rfl 0 (by decide) tFX2_9 rfl rfl rfl 0 rfl rfl rfl (Nat.le_of_ble_eq_true rfl) rfl (dOk_at dX2_init 5 rfl) (fun H locs hh => ?_)
  refine lv_aload_n (pc := 12) hx hb (dOk_at dX2_init 6 rfl) rfl (lv_at hl 0 rfl) ?_
  refine lv_iconst (pc := 13) (v := 0) hx hb (dOk_at dX2_init 7 rfl) (by decide) ?_
  refine r_put (pc := 14) (ci := 2) (w' := [(z0, .inr (2, [.ref q1, .int 0, .int 0, .int 0, .int 0, .int 0])), (q1, .inl (G.2.1, 20, .inl (fun _ => 0)))]) fx hh inT2 tyX2 tyX2_ok nmX2 rfl 1 (by decide) tFX2_15 rfl rfl 0 rfl rfl rfl (Nat.le_of_ble_eq_true rfl) rfl (dOk_at dX2_init 8 rfl) (fun H locs hh => ?_)
  refine lv_aload_n (pc := 17) hx hb (dOk_at dX2_init 9 rfl) rfl (lv_at hl 0 rfl) ?_
  refine lv_iconst (pc := 18) (v := 0) hx hb (dOk_at dX2_init 10 rfl) (by decide) ?_
  refine r_put (pc := 19) (ci := 2) (w' := [(z0, .inr (2, [.ref q1, .int 0, .int 0, .int 0, .int 0, .int 0])), (q1, .inl (G.2.1, 20, .inl (fun _ => 0)))]) fx hh inT2 tyX2 tyX2_ok nmX2 rfl 2 (by decide) tFX2_19 rfl rfl 0 rfl rfl rfl (Nat.le_of_ble_eq_true rfl) rfl (dOk_at dX2_init 11 rfl) (fun H locs hh => ?_)
  refine lv_aload_n (pc := 22) hx hb (dOk_at dX2_init 12 rfl) rfl (lv_at hl 0 rfl) ?_
  refine lv_iconst (pc := 23) (v := 0) hx hb (dOk_at dX2_init 13 rfl) (by decide) ?_
  refine r_put (pc := 24) (ci := 2) (w' := [(z0, .inr (2, [.ref q1, .int 0, .int 0, .int 0, .int 0, .int 0])), (q1, .inl (G.2.1, 20, .inl (fun _ => 0)))]) fx hh inT2 tyX2 tyX2_ok nmX2 rfl 3 (by decide) tFX2_22 rfl rfl 0 rfl rfl rfl (Nat.le_of_ble_eq_true rfl) rfl (dOk_at dX2_init 14 rfl) (fun H locs hh => ?_)
  refine lv_aload_n (pc := 27) hx hb (dOk_at dX2_init 15 rfl) rfl (lv_at hl 0 rfl) ?_
  refine lv_iconst (pc := 28) (v := 0) hx hb (dOk_at dX2_init 16 rfl) (by decide) ?_
  refine r_put (pc := 29) (ci := 2) (w' := [(z0, .inr (2, [.ref q1, .int 0, .int 0, .int 0, .int 0, .int 0])), (q1, .inl (G.2.1, 20, .inl (fun _ => 0)))]) fx hh inT2 tyX2 tyX2_ok nmX2 rfl 4 (by decide) tFX2_25 rfl rfl 0 rfl rfl rfl (Nat.le_of_ble_eq_true rfl) rfl (dOk_at dX2_init 17 rfl) (fun H locs hh => ?_)
  refine lv_aload_n (pc := 32) hx hb (dOk_at dX2_init 18 rfl) rfl (lv_at hl 0 rfl) ?_
  refine lv_iconst (pc := 33) (v := 0) hx hb (dOk_at dX2_init 19 rfl) (by decide) ?_
  refine r_put (pc := 34) (ci := 2) (w' := [(z0, .inr (2, [.ref q1, .int 0, .int 0, .int 0, .int 0, .int 0])), (q1, .inl (G.2.1, 20, .inl (fun _ => 0)))]) fx hh inT2 tyX2 tyX2_ok nmX2 rfl 5 (by decide) tFX2_28 rfl rfl 0 rfl rfl rfl (Nat.le_of_ble_eq_true rfl) rfl (dOk_at dX2_init 20 rfl) (fun H locs hh => ?_)
  refine W.widen (k := 1) (n := 20) (Nat.le_of_ble_eq_true rfl) (Nat.le_of_ble_eq_true rfl) ?_
  exact r_vretN q1 fx hh (dOk_at dX2_init 21 rfl)
abbrev rm_X3_init : Room := { frames := 1, cells := 3, slots := 24, locals := 12 }
theorem k_X3_init (l : Launch) (G : GT) (z0 : Nat) : MN l G yX3_init cX3_init 1 rm_X3_init [.ref z0] [(z0, .inr (3, [.null, .null, .null, .int 0]))] (fun _ => True) (fun jj : Nat × Nat × Nat => [(z0, .inr (3, [.ref jj.1, .ref jj.2.1, .ref jj.2.2, .int 0])), (jj.1, .inl (G.2.1, 8, .inl (fun _ => 0))), (jj.2.1, .inl (G.2.1, 8, .inl (fun _ => 0))), (jj.2.2, .inl (G.2.2.1, 8, .inl (fun _ => 0)))]) := by
  refine MN.of (by decide +kernel) (Nat.le_of_ble_eq_true rfl) ?_
  intro p e s m args below meth c A ls fx hE hh hl hin
  have hx := fx.hx
  have hb := fx.hb
  have hin2 := hin rfl
  obtain ⟨H, hH⟩ : ∃ z, z = s.heap := ⟨_, rfl⟩
  obtain ⟨locs, hlo⟩ : ∃ z : List Loc, z = [] := ⟨_, rfl⟩
  rw [← hH, ← hlo]
  have hh : HP G A [(z0, .inr (3, [.null, .null, .null, .int 0]))] s H locs := by rw [hH, hlo]; exact hh
  refine lv_aload_n (pc := 0) hx hb (dOk_at dX3_init 0 rfl) rfl (lv_at hl 0 rfl) ?_
  refine r_objInit (pc := 1) fx hl.1 tMX3_3 (dOk_at dX3_init 1 rfl) (Nat.le_of_ble_eq_true rfl) (Nat.le_of_ble_eq_true rfl) ?_
  refine lv_aload_n (pc := 4) hx hb (dOk_at dX3_init 2 rfl) rfl (lv_at hl 0 rfl) ?_
  refine lv_bipush (pc := 5) (v := 8) hx hb (dOk_at dX3_init 3 rfl) (by decide) ?_
  refine r_newaI (pc := 7) (N := 8) fx hh (by decide) (by decide) (Nat.le_of_ble_eq_true rfl) (Nat.le_of_ble_eq_true rfl) (Nat.le_of_ble_eq_true rfl) (dOk_at dX3_init 4 rfl) (fun q1 H hh => ?_)
  have hh : HP G A [(z0, .inr (3, [.null, .null, .null, .int 0])), (q1, .inl (G.2.1, 8, .inl (fun _ => 0)))] s H locs := hh
  refine r_putF (pc := 9) (ci := 3) (w' := [(z0, .inr (3, [.ref q1, .null, .null, .int 0])), (q1, .inl (G.2.1, 8, .inl (fun _ => 0)))]) fx hh hin2 inT3 tyX3 tyX3_ok nmX3 rfl 0 (by decide) tFX3_9 rfl rfl rfl 0 rfl rfl rfl (Nat.le_of_ble_eq_true rfl) rfl (dOk_at dX3_init 5 rfl) (fun H locs hh => ?_)
  refine lv_aload_n (pc := 12) hx hb (dOk_at dX3_init 6 rfl) rfl (lv_at hl 0 rfl) ?_
  refine lv_bipush (pc := 13) (v := 8) hx hb (dOk_at dX3_init 7 rfl) (by decide) ?_
  refine r_newaI (pc := 15) (N := 8) fx hh (by decide) (by decide) (Nat.le_of_ble_eq_true rfl) (Nat.le_of_ble_eq_true rfl) (Nat.le_of_ble_eq_true rfl) (dOk_at dX3_init 8 rfl) (fun q2 H hh => ?_)
  have hh : HP G A [(z0, .inr (3, [.ref q1, .null, .null, .int 0])), (q1, .inl (G.2.1, 8, .inl (fun _ => 0))), (q2, .inl (G.2.1, 8, .inl (fun _ => 0)))] s H locs := hh
  refine r_putF (pc := 17) (ci := 3) (w' := [(z0, .inr (3, [.ref q1, .ref q2, .null, .int 0])), (q1, .inl (G.2.1, 8, .inl (fun _ => 0))), (q2, .inl (G.2.1, 8, .inl (fun _ => 0)))]) fx hh hin2 inT3 tyX3 tyX3_ok nmX3 rfl 1 (by decide) tFX3_15 rfl rfl rfl 0 rfl rfl rfl (Nat.le_of_ble_eq_true rfl) rfl (dOk_at dX3_init 9 rfl) (fun H locs hh => ?_)
  refine lv_aload_n (pc := 20) hx hb (dOk_at dX3_init 10 rfl) rfl (lv_at hl 0 rfl) ?_
  refine lv_bipush (pc := 21) (v := 8) hx hb (dOk_at dX3_init 11 rfl) (by decide) ?_
  refine r_newaZ (pc := 23) (N := 8) fx hh (by decide) (by decide) (Nat.le_of_ble_eq_true rfl) (Nat.le_of_ble_eq_true rfl) (Nat.le_of_ble_eq_true rfl) (dOk_at dX3_init 12 rfl) (fun q3 H hh => ?_)
  have hh : HP G A [(z0, .inr (3, [.ref q1, .ref q2, .null, .int 0])), (q1, .inl (G.2.1, 8, .inl (fun _ => 0))), (q2, .inl (G.2.1, 8, .inl (fun _ => 0))), (q3, .inl (G.2.2.1, 8, .inl (fun _ => 0)))] s H locs := hh
  refine r_putF (pc := 25) (ci := 3) (w' := [(z0, .inr (3, [.ref q1, .ref q2, .ref q3, .int 0])), (q1, .inl (G.2.1, 8, .inl (fun _ => 0))), (q2, .inl (G.2.1, 8, .inl (fun _ => 0))), (q3, .inl (G.2.2.1, 8, .inl (fun _ => 0)))]) fx hh hin2 inT3 tyX3 tyX3_ok nmX3 rfl 2 (by decide) tFX3_18 rfl rfl rfl 0 rfl rfl rfl (Nat.le_of_ble_eq_true rfl) rfl (dOk_at dX3_init 13 rfl) (fun H locs hh => ?_)
  refine lv_aload_n (pc := 28) hx hb (dOk_at dX3_init 14 rfl) rfl (lv_at hl 0 rfl) ?_
  refine lv_iconst (pc := 29) (v := 0) hx hb (dOk_at dX3_init 15 rfl) (by decide) ?_
  refine r_put (pc := 30) (ci := 3) (w' := [(z0, .inr (3, [.ref q1, .ref q2, .ref q3, .int 0])), (q1, .inl (G.2.1, 8, .inl (fun _ => 0))), (q2, .inl (G.2.1, 8, .inl (fun _ => 0))), (q3, .inl (G.2.2.1, 8, .inl (fun _ => 0)))]) fx hh inT3 tyX3 tyX3_ok nmX3 rfl 3 (by decide) tFX3_22 rfl rfl 0 rfl rfl rfl (Nat.le_of_ble_eq_true rfl) rfl (dOk_at dX3_init 16 rfl) (fun H locs hh => ?_)
  refine W.widen (k := 3) (n := 24) (Nat.le_of_ble_eq_true rfl) (Nat.le_of_ble_eq_true rfl) ?_
  exact r_vretN (q1, q2, q3) fx hh (dOk_at dX3_init 17 rfl)
abbrev rm_X4_init : Room := { frames := 1, cells := 1, slots := 60, locals := 12 }
theorem k_X4_init (l : Launch) (G : GT) (z0 : Nat) : MN l G yX4_init cX4_init 1 rm_X4_init [.ref z0] [(z0, .inr (4, [.null, .int 0, .int 0]))] (fun _ => True) (fun jj : Nat => [(z0, .inr (4, [.ref jj, .int (-1), .int 0])), (jj, .inl (G.2.1, 60, .inl (fun _ => 0)))]) := by
  refine MN.of (by decide +kernel) (Nat.le_of_ble_eq_true rfl) ?_
  intro p e s m args below meth c A ls fx hE hh hl hin
  have hx := fx.hx
  have hb := fx.hb
  have hin2 := hin rfl
  obtain ⟨H, hH⟩ : ∃ z, z = s.heap := ⟨_, rfl⟩
  obtain ⟨locs, hlo⟩ : ∃ z : List Loc, z = [] := ⟨_, rfl⟩
  rw [← hH, ← hlo]
  have hh : HP G A [(z0, .inr (4, [.null, .int 0, .int 0]))] s H locs := by rw [hH, hlo]; exact hh
  refine lv_aload_n (pc := 0) hx hb (dOk_at dX4_init 0 rfl) rfl (lv_at hl 0 rfl) ?_
  refine r_objInit (pc := 1) fx hl.1 tMX4_3 (dOk_at dX4_init 1 rfl) (Nat.le_of_ble_eq_true rfl) (Nat.le_of_ble_eq_true rfl) ?_
  refine lv_aload_n (pc := 4) hx hb (dOk_at dX4_init 2 rfl) rfl (lv_at hl 0 rfl) ?_
  refine lv_bipush (pc := 5) (v := 60) hx hb (dOk_at dX4_init 3 rfl) (by decide) ?_
  refine r_newaI (pc := 7) (N := 60) fx hh (by decide) (by decide) (Nat.le_of_ble_eq_true rfl) (Nat.le_of_ble_eq_true rfl) (Nat.le_of_ble_eq_true rfl) (dOk_at dX4_init 4 rfl) (fun q1 H hh => ?_)
  have hh : HP G A [(z0, .inr (4, [.null, .int 0, .int 0])), (q1, .inl (G.2.1, 60, .inl (fun _ => 0)))] s H locs := hh
  refine r_putF (pc := 9) (ci := 4) (w' := [(z0, .inr (4, [.ref q1, .int 0, .int 0])), (q1, .inl (G.2.1, 60, .inl (fun _ => 0)))]) fx hh hin2 inT4 tyX4 tyX4_ok nmX4 rfl 0 (by decide) tFX4_9 rfl rfl rfl 0 rfl rfl rfl (Nat.le_of_ble_eq_true rfl) rfl (dOk_at dX4_init 5 rfl) (fun H locs hh => ?_)
  refine lv_aload_n (pc := 12) hx hb (dOk_at dX4_init 6 rfl) rfl (lv_at hl 0 rfl) ?_
  refine lv_iconst (pc := 13) (v := (-1)) hx hb (dOk_at dX4_init 7 rfl) (by decide) ?_
  refine r_put (pc := 14) (ci := 4) (w' := [(z0, .inr (4, [.ref q1, .int (-1), .int 0])), (q1, .inl (G.2.1, 60, .inl (fun _ => 0)))]) fx hh inT4 tyX4 tyX4_ok nmX4 rfl 1 (by decide) tFX4_15 rfl rfl 0 rfl rfl rfl (Nat.le_of_ble_eq_true rfl) rfl (dOk_at dX4_init 8 rfl) (fun H locs hh => ?_)
  refine lv_aload_n (pc := 17) hx hb (dOk_at dX4_init 9 rfl) rfl (lv_at hl 0 rfl) ?_
  refine lv_iconst (pc := 18) (v := 0) hx hb (dOk_at dX4_init 10 rfl) (by decide) ?_
  refine r_put (pc := 19) (ci := 4) (w' := [(z0, .inr (4, [.ref q1, .int (-1), .int 0])), (q1, .inl (G.2.1, 60, .inl (fun _ => 0)))]) fx hh inT4 tyX4 tyX4_ok nmX4 rfl 2 (by decide) tFX4_19 rfl rfl 0 rfl rfl rfl (Nat.le_of_ble_eq_true rfl) rfl (dOk_at dX4_init 11 rfl) (fun H locs hh => ?_)
  refine W.widen (k := 1) (n := 60) (Nat.le_of_ble_eq_true rfl) (Nat.le_of_ble_eq_true rfl) ?_
  exact r_vretN q1 fx hh (dOk_at dX4_init 12 rfl)
abbrev rm_X5_init : Room := { frames := 1, cells := 1, slots := 60, locals := 12 }
theorem k_X5_init (l : Launch) (G : GT) (z0 : Nat) : MN l G yX5_init cX5_init 1 rm_X5_init [.ref z0] [(z0, .inr (5, [.null, .int 0, .int 0, .int 0]))] (fun _ => True) (fun jj : Nat => [(z0, .inr (5, [.ref jj, .int 0, .int 0, .int 0])), (jj, .inl (G.2.1, 60, .inl (fun _ => 0)))]) := by
  refine MN.of (by decide +kernel) (Nat.le_of_ble_eq_true rfl) ?_
  intro p e s m args below meth c A ls fx hE hh hl hin
  have hx := fx.hx
  have hb := fx.hb
  have hin2 := hin rfl
  obtain ⟨H, hH⟩ : ∃ z, z = s.heap := ⟨_, rfl⟩
  obtain ⟨locs, hlo⟩ : ∃ z : List Loc, z = [] := ⟨_, rfl⟩
  rw [← hH, ← hlo]
  have hh : HP G A [(z0, .inr (5, [.null, .int 0, .int 0, .int 0]))] s H locs := by rw [hH, hlo]; exact hh
  refine lv_aload_n (pc := 0) hx hb (dOk_at dX5_init 0 rfl) rfl (lv_at hl 0 rfl) ?_
  refine r_objInit (pc := 1) fx hl.1 tMX5_3 (dOk_at dX5_init 1 rfl) (Nat.le_of_ble_eq_true rfl) (Nat.le_of_ble_eq_true rfl) ?_
  refine lv_aload_n (pc := 4) hx hb (dOk_at dX5_init 2 rfl) rfl (lv_at hl 0 rfl) ?_
  refine lv_bipush (pc := 5) (v := 60) hx hb (dOk_at dX5_init 3 rfl) (by decide) ?_
  refine r_newaI (pc := 7) (N := 60) fx hh (by decide) (by decide) (Nat.le_of_ble_eq_true rfl) (Nat.le_of_ble_eq_true rfl) (Nat.le_of_ble_eq_true rfl) (dOk_at dX5_init 4 rfl) (fun q1 H hh => ?_)
  have hh : HP G A [(z0, .inr (5, [.null, .int 0, .int 0, .int 0])), (q1, .inl (G.2.1, 60, .inl (fun _ => 0)))] s H locs := hh
  refine r_putF (pc := 9) (ci := 5) (w' := [(z0, .inr (5, [.ref q1, .int 0, .int 0, .int 0])), (q1, .inl (G.2.1, 60, .inl (fun _ => 0)))]) fx hh hin2 inT5 tyX5 tyX5_ok nmX5 rfl 0 (by decide) tFX5_9 rfl rfl rfl 0 rfl rfl rfl (Nat.le_of_ble_eq_true rfl) rfl (dOk_at dX5_init 5 rfl) (fun H locs hh => ?_)
  refine lv_aload_n (pc := 12) hx hb (dOk_at dX5_init 6 rfl) rfl (lv_at hl 0 rfl) ?_
  refine lv_iconst (pc := 13) (v := 0) hx hb (dOk_at dX5_init 7 rfl) (by decide) ?_
  refine r_put (pc := 14) (ci := 5) (w' := [(z0, .inr (5, [.ref q1, .int 0, .int 0, .int 0])), (q1, .inl (G.2.1, 60, .inl (fun _ => 0)))]) fx hh inT5 tyX5 tyX5_ok nmX5 rfl 1 (by decide) tFX5_15 rfl rfl 0 rfl rfl rfl (Nat.le_of_ble_eq_true rfl) rfl (dOk_at dX5_init 8 rfl) (fun H locs hh => ?_)
  refine lv_aload_n (pc := 17) hx hb (dOk_at dX5_init 9 rfl) rfl (lv_at hl 0 rfl) ?_
  refine lv_iconst (pc := 18) (v := 0) hx hb (dOk_at dX5_init 10 rfl) (by decide) ?_
  refine r_put (pc := 19) (ci := 5) (w' := [(z0, .inr (5, [.ref q1, .int 0, .int 0, .int 0])), (q1, .inl (G.2.1, 60, .inl (fun _ => 0)))]) fx hh inT5 tyX5 tyX5_ok nmX5 rfl 2 (by decide) tFX5_19 rfl rfl 0 rfl rfl rfl (Nat.le_of_ble_eq_true rfl) rfl (dOk_at dX5_init 11 rfl) (fun H locs hh => ?_)
  refine lv_aload_n (pc := 22) hx hb (dOk_at dX5_init 12 rfl) rfl (lv_at hl 0 rfl) ?_
  refine lv_iconst (pc := 23) (v := 0) hx hb (dOk_at dX5_init 13 rfl) (by decide) ?_
  refine r_put (pc := 24) (ci := 5) (w' := [(z0, .inr (5, [.ref q1, .int 0, .int 0, .int 0])), (q1, .inl (G.2.1, 60, .inl (fun _ => 0)))]) fx hh inT5 tyX5 tyX5_ok nmX5 rfl 3 (by decide) tFX5_22 rfl rfl 0 rfl rfl rfl (Nat.le_of_ble_eq_true rfl) rfl (dOk_at dX5_init 14 rfl) (fun H locs hh => ?_)
  refine W.widen (k := 1) (n := 60) (Nat.le_of_ble_eq_true rfl) (Nat.le_of_ble_eq_true rfl) ?_
  exact r_vretN q1 fx hh (dOk_at dX5_init 15 rfl)
