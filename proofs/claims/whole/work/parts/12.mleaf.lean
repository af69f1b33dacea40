set_option maxRecDepth 100000 in
set_option maxHeartbeats 4000000 in
theorem wk_X7_in (l : Launch) (G : GT) (v : Int64) (a : Int64) (b : Int64) (R : Int32)
    (hv : ((lg_cmp v a) < 0 → (0 : Int32) = R) ∧ (¬ (lg_cmp v a) < 0 → (0 < (lg_cmp v b) → (0 : Int32) = R) ∧ (¬ 0 < (lg_cmp v b) → (1 : Int32) = R))) :
    MF l G yX7_in cX7_in 6 (some .boolean) rm_X7_in [.long v, .long a, .long b] [] (some (.int R)) [] := by
  refine MF.of (by decide +kernel) (Nat.le_of_ble_eq_true rfl) ?_
  intro p e s m args below meth c A ls fx hh hl _
  have hx := fx.hx
  have hb := fx.hb
  have hl : lv_has ls 6 [(0, .long v), (2, .long a), (4, .long b)] := hl
  obtain ⟨Q, hQ⟩ : ∃ Q, Q = ZZ G A (some (.int R)) [] below args s := ⟨_, rfl⟩
  rw [← hQ]
  refine lv_lload_n (pc := 0) hx hb (dOk_at dX7_in 0 rfl) rfl (lv_at hl 0 rfl) ?_
  refine lv_lload_n (pc := 1) hx hb (dOk_at dX7_in 1 rfl) rfl (lv_at hl 1 rfl) ?_
  refine W.lcmp (pc := 2) hx hb (dOk_at dX7_in 2 rfl) ?_
  refine lv_if_lt (pc := 3) (tgt := 17) hx hb (dOk_at dX7_in 3 rfl) (by decide) (fun c3 => ?_) (fun c3 => ?_)
  · have hv := hv.1 c3
    refine lv_iconst (pc := 17) (v := 0) hx hb (dOk_at dX7_in 10 rfl) (by decide) ?_
    have e0 := hv
    subst e0
    rw [hQ]
    exact r_zret (pc := 18) fx hh rfl (dOk_at dX7_in 11 rfl)
  · have hv := hv.2 c3
    refine lv_lload_n (pc := 6) hx hb (dOk_at dX7_in 4 rfl) rfl (lv_at hl 0 rfl) ?_
    refine lv_lload (pc := 7) hx hb (dOk_at dX7_in 5 rfl) (lv_at hl 2 rfl) ?_
    refine W.lcmp (pc := 9) hx hb (dOk_at dX7_in 6 rfl) ?_
    refine lv_if_gt (pc := 10) (tgt := 17) hx hb (dOk_at dX7_in 7 rfl) (by decide) (fun c10 => ?_) (fun c10 => ?_)
    · have hv := hv.1 c10
      refine lv_iconst (pc := 17) (v := 0) hx hb (dOk_at dX7_in 10 rfl) (by decide) ?_
      have e0 := hv
      subst e0
      rw [hQ]
      exact r_zret (pc := 18) fx hh rfl (dOk_at dX7_in 11 rfl)
    · have hv := hv.2 c10
      refine lv_iconst (pc := 13) (v := 1) hx hb (dOk_at dX7_in 8 rfl) (by decide) ?_
      refine lv_goto (pc := 14) (tgt := 18) hx hb (dOk_at dX7_in 9 rfl) (by decide) ?_
      have e0 := hv
      subst e0
      rw [hQ]
      exact r_zret (pc := 18) fx hh rfl (dOk_at dX7_in 11 rfl)
set_option maxRecDepth 100000 in
set_option maxHeartbeats 4000000 in
theorem wk_X7_lost (l : Launch) (G : GT) (R : Int64)
    (hv : ((-9223372036854775808) : Int64) = R) :
    MF l G yX7_lost cX7_lost 0 (some .long) rm_X7_lost [] [] (some (.long R)) [] := by
  refine MF.of (by decide +kernel) (Nat.le_of_ble_eq_true rfl) ?_
  intro p e s m args below meth c A ls fx hh hl _
  have hx := fx.hx
  have hb := fx.hb
  have hl : lv_has ls 0 [] := hl
  obtain ⟨Q, hQ⟩ : ∃ Q, Q = ZZ G A (some (.long R)) [] below args s := ⟨_, rfl⟩
  rw [← hQ]
  refine lv_ldc2 (pc := 0) (v := (-9223372036854775808)) hx hb fx.hown (fx.hts _ tLX7_56) (dOk_at dX7_lost 0 rfl) ?_
  have e0 := hv
  subst e0
  rw [hQ]
  exact r_lret (pc := 3) fx hh (dOk_at dX7_lost 1 rfl)
set_option maxRecDepth 100000 in
set_option maxHeartbeats 4000000 in
theorem wk_X7_isIn (l : Launch) (G : GT) (set : Int32) (k : Int32) (R : Int32)
    (hv : (¬ ((set >>> (k &&& 31)) &&& 1) = 1 → (0 : Int32) = R) ∧ (((set >>> (k &&& 31)) &&& 1) = 1 → (1 : Int32) = R)) :
    MF l G yX7_isIn cX7_isIn 2 (some .boolean) rm_X7_isIn [.int set, .int k] [] (some (.int R)) [] := by
  refine MF.of (by decide +kernel) (Nat.le_of_ble_eq_true rfl) ?_
  intro p e s m args below meth c A ls fx hh hl _
  have hx := fx.hx
  have hb := fx.hb
  have hl : lv_has ls 2 [(0, .int set), (1, .int k)] := hl
  obtain ⟨Q, hQ⟩ : ∃ Q, Q = ZZ G A (some (.int R)) [] below args s := ⟨_, rfl⟩
  rw [← hQ]
  refine lv_iload_n (pc := 0) hx hb (dOk_at dX7_isIn 0 rfl) rfl (lv_at hl 0 rfl) ?_
  refine lv_iload_n (pc := 1) hx hb (dOk_at dX7_isIn 1 rfl) rfl (lv_at hl 1 rfl) ?_
  refine lv_ishr (pc := 2) hx hb (dOk_at dX7_isIn 2 rfl) ?_
  refine lv_iconst (pc := 3) (v := 1) hx hb (dOk_at dX7_isIn 3 rfl) (by decide) ?_
  refine lv_iand (pc := 4) hx hb (dOk_at dX7_isIn 4 rfl) ?_
  refine lv_iconst (pc := 5) (v := 1) hx hb (dOk_at dX7_isIn 5 rfl) (by decide) ?_
  refine lv_icmp_ne (pc := 6) (tgt := 13) hx hb (dOk_at dX7_isIn 6 rfl) (by decide) (fun c6 => ?_) (fun c6 => ?_)
  · have hv := hv.1 c6
    refine lv_iconst (pc := 13) (v := 0) hx hb (dOk_at dX7_isIn 9 rfl) (by decide) ?_
    have e0 := hv
    subst e0
    rw [hQ]
    exact r_zret (pc := 14) fx hh rfl (dOk_at dX7_isIn 10 rfl)
  · have hv := hv.2 c6
    refine lv_iconst (pc := 9) (v := 1) hx hb (dOk_at dX7_isIn 7 rfl) (by decide) ?_
    refine lv_goto (pc := 10) (tgt := 14) hx hb (dOk_at dX7_isIn 8 rfl) (by decide) ?_
    have e0 := hv
    subst e0
    rw [hQ]
    exact r_zret (pc := 14) fx hh rfl (dOk_at dX7_isIn 10 rfl)
set_option maxRecDepth 100000 in
set_option maxHeartbeats 4000000 in
theorem wk_X7_bits (l : Launch) (G : GT) (set : Int32) (R : Int32) (J4 : Nat → Int32 → Int32 → Prop)
    (hv : ∃ k2 : Nat, J4 k2 0 set)
    (hv4 : ∀ (n4 : Nat) (x4_1 : Int32) (x4_2 : Int32), J4 n4 x4_1 x4_2 → (x4_2 ≤ 0 → x4_1 = R) ∧ (¬ x4_2 ≤ 0 → ∃ k1 : Nat, k1 < n4 ∧ J4 k1 (x4_1 + (x4_2 &&& 1)) (x4_2 >>> (1 &&& 31)))) :
    MF l G yX7_bits cX7_bits 3 (some .int) rm_X7_bits [.int set] [] (some (.int R)) [] := by
  refine MF.of (by decide +kernel) (Nat.le_of_ble_eq_true rfl) ?_
  intro p e s m args below meth c A ls fx hh hl _
  have hx := fx.hx
  have hb := fx.hb
  have hl : lv_has ls 3 [(0, .int set)] := hl
  obtain ⟨Q, hQ⟩ : ∃ Q, Q = ZZ G A (some (.int R)) [] below args s := ⟨_, rfl⟩
  rw [← hQ]
  have lp4 : ∀ (n4 : Nat) (x4_1 : Int32) (x4_2 : Int32), J4 n4 x4_1 x4_2 → ∀ (H : Heap) (locs : List Loc) (ls : Array Slot), HP G A [] s H locs → lv_has ls 3 [(1, .int x4_1), (2, .int x4_2)] → W p l e rm_X7_bits s m args below meth c H locs 0 0 Q (F0 m 4 ls []) := by
    intro n4
    induction n4 using Nat.strongRecOn with
    | ind n4 ih4 =>
      intro x4_1 x4_2 hj4 H locs ls hh hl
      have hv := hv4 n4 x4_1 x4_2 hj4
      refine lv_iload_n (pc := 4) hx hb (dOk_at dX7_bits 4 rfl) rfl (lv_at hl 1 rfl) ?_
      refine lv_if_le (pc := 5) (tgt := 21) hx hb (dOk_at dX7_bits 5 rfl) (by decide) (fun c5 => ?_) (fun c5 => ?_)
      · have hv := hv.1 c5
        refine lv_iload_n (pc := 21) hx hb (dOk_at dX7_bits 17 rfl) rfl (lv_at hl 0 rfl) ?_
        have e0 := hv
        subst e0
        rw [hQ]
        exact r_iret (pc := 22) fx hh (dOk_at dX7_bits 18 rfl)
      · have hv := hv.2 c5
        refine lv_iload_n (pc := 8) hx hb (dOk_at dX7_bits 6 rfl) rfl (lv_at hl 0 rfl) ?_
        refine lv_iload_n (pc := 9) hx hb (dOk_at dX7_bits 7 rfl) rfl (lv_at hl 1 rfl) ?_
        refine lv_iconst (pc := 10) (v := 1) hx hb (dOk_at dX7_bits 8 rfl) (by decide) ?_
        refine lv_iand (pc := 11) hx hb (dOk_at dX7_bits 9 rfl) ?_
        refine lv_iadd (pc := 12) hx hb (dOk_at dX7_bits 10 rfl) ?_
        refine lv_istore_n (pc := 13) (lv' := [(1, .int (x4_1 + (x4_2 &&& 1))), (2, .int x4_2)]) hx hb (dOk_at dX7_bits 11 rfl) rfl hl (by decide) rfl (fun ls hl => ?_)
        refine lv_iload_n (pc := 14) hx hb (dOk_at dX7_bits 12 rfl) rfl (lv_at hl 1 rfl) ?_
        refine lv_iconst (pc := 15) (v := 1) hx hb (dOk_at dX7_bits 13 rfl) (by decide) ?_
        refine lv_ishr (pc := 16) hx hb (dOk_at dX7_bits 14 rfl) ?_
        refine lv_istore_n (pc := 17) (lv' := [(2, .int (x4_2 >>> (1 &&& 31))), (1, .int (x4_1 + (x4_2 &&& 1)))]) hx hb (dOk_at dX7_bits 15 rfl) rfl hl (by decide) rfl (fun ls hl => ?_)
        refine lv_goto (pc := 18) (tgt := 4) hx hb (dOk_at dX7_bits 16 rfl) (by decide) ?_
        obtain ⟨k0, hk0, hj0⟩ := hv
        exact ih4 k0 hk0 (x4_1 + (x4_2 &&& 1)) (x4_2 >>> (1 &&& 31)) hj0 _ _ _ hh (lv_sub hl [1, 0] rfl)
  refine lv_iconst (pc := 0) (v := 0) hx hb (dOk_at dX7_bits 0 rfl) (by decide) ?_
  refine lv_istore_n (pc := 1) (lv' := [(1, .int 0), (0, .int set)]) hx hb (dOk_at dX7_bits 1 rfl) rfl hl (by decide) rfl (fun ls hl => ?_)
  refine lv_iload_n (pc := 2) hx hb (dOk_at dX7_bits 2 rfl) rfl (lv_at hl 1 rfl) ?_
  refine lv_istore_n (pc := 3) (lv' := [(2, .int set), (1, .int 0), (0, .int set)]) hx hb (dOk_at dX7_bits 3 rfl) rfl hl (by decide) rfl (fun ls hl => ?_)
  obtain ⟨k0, hj0⟩ := hv
  exact lp4 k0 0 set hj0 _ _ _ hh (lv_sub hl [1, 0] rfl)
set_option maxRecDepth 100000 in
set_option maxHeartbeats 4000000 in
theorem wk_X7_share (l : Launch) (G : GT) (up : Int64) (down : Int64) (which : Int32) (R : Int64) (J6 : Nat → Int64 → Int64 → Prop)
    (hv : ∃ k2 : Nat, J6 k2 up down)
    (hv6 : ∀ (n6 : Nat) (x6_5 : Int64) (x6_7 : Int64), J6 n6 x6_5 x6_7 → ((lg_cmp x6_7 0) = 0 → (∀ (v41 : Int64), v41 = (if which = 0 then up else down) → ¬ x6_5 = 0 ∧ (v41 / x6_5) = R)) ∧ (¬ (lg_cmp x6_7 0) = 0 → ¬ x6_7 = 0 ∧ (∃ k1 : Nat, k1 < n6 ∧ J6 k1 x6_7 (x6_5 - x6_5 / x6_7 * x6_7)))) :
    MF l G yX7_share cX7_share 11 (some .long) rm_X7_share [.long up, .long down, .int which] [] (some (.long R)) [] := by
  refine MF.of (by decide +kernel) (Nat.le_of_ble_eq_true rfl) ?_
  intro p e s m args below meth c A ls fx hh hl _
  have hx := fx.hx
  have hb := fx.hb
  have hl : lv_has ls 11 [(0, .long up), (2, .long down), (4, .int which)] := hl
  obtain ⟨Q, hQ⟩ : ∃ Q, Q = ZZ G A (some (.long R)) [] below args s := ⟨_, rfl⟩
  rw [← hQ]
  have lp6 : ∀ (n6 : Nat) (x6_5 : Int64) (x6_7 : Int64), J6 n6 x6_5 x6_7 → ∀ (H : Heap) (locs : List Loc) (ls : Array Slot), HP G A [] s H locs → lv_has ls 11 [(0, .long up), (2, .long down), (4, .int which), (5, .long x6_5), (7, .long x6_7)] → W p l e rm_X7_share s m args below meth c H locs 0 0 Q (F0 m 6 ls []) := by
    intro n6
    induction n6 using Nat.strongRecOn with
    | ind n6 ih6 =>
      intro x6_5 x6_7 hj6 H locs ls hh hl
      have hv := hv6 n6 x6_5 x6_7 hj6
      refine lv_lload (pc := 6) hx hb (dOk_at dX7_share 4 rfl) (lv_at hl 4 rfl) ?_
      refine lv_lconst (pc := 8) (v := 0) hx hb (dOk_at dX7_share 5 rfl) (by decide) ?_
      refine W.lcmp (pc := 9) hx hb (dOk_at dX7_share 6 rfl) ?_
      refine lv_if_eq (pc := 10) (tgt := 31) hx hb (dOk_at dX7_share 7 rfl) (by decide) (fun c10 => ?_) (fun c10 => ?_)
      · have hv := hv.1 c10
        refine lv_iload (pc := 31) hx hb (dOk_at dX7_share 17 rfl) (lv_at hl 2 rfl) ?_
        have k41_33 : ∀ (v41 : Int64), v41 = (if which = 0 then up else down) → ∀ (H : Heap) (locs : List Loc) (ls : Array Slot), HP G A [] s H locs → lv_has ls 11 [(5, .long x6_5)] → W p l e rm_X7_share s m args below meth c H locs 0 0 Q (F0 m 41 ls [.long v41]) := by
          intro v41 e41_0 H locs ls hh hl
          have hv := hv v41 e41_0
          refine lv_lload (pc := 41) hx hb (dOk_at dX7_share 22 rfl) (lv_at hl 0 rfl) ?_
          refine lv_ldiv (pc := 43) hx hb (dOk_at dX7_share 23 rfl) hv.1 ?_
          have hv := hv.2
          have e0 := hv
          subst e0
          rw [hQ]
          exact r_lret (pc := 44) fx hh (dOk_at dX7_share 24 rfl)
        refine lv_if_ne (pc := 33) (tgt := 40) hx hb (dOk_at dX7_share 18 rfl) (by decide) (fun c33 => ?_) (fun c33 => ?_)
        · refine lv_lload_n (pc := 40) hx hb (dOk_at dX7_share 21 rfl) rfl (lv_at hl 1 rfl) ?_
          exact k41_33 _ (if_neg c33).symm _ _ _ hh (lv_sub hl [3] rfl)
        · refine lv_lload_n (pc := 36) hx hb (dOk_at dX7_share 19 rfl) rfl (lv_at hl 0 rfl) ?_
          refine lv_goto (pc := 37) (tgt := 41) hx hb (dOk_at dX7_share 20 rfl) (by decide) ?_
          exact k41_33 _ (if_pos c33).symm _ _ _ hh (lv_sub hl [3] rfl)
      · have hv := hv.2 c10
        refine lv_lload (pc := 13) hx hb (dOk_at dX7_share 8 rfl) (lv_at hl 3 rfl) ?_
        refine lv_lload (pc := 15) hx hb (dOk_at dX7_share 9 rfl) (lv_at hl 4 rfl) ?_
        refine lv_lrem (pc := 17) hx hb (dOk_at dX7_share 10 rfl) hv.1 ?_
        have hv := hv.2
        refine lv_lstore (pc := 18) (lv' := [(9, .long (x6_5 - x6_5 / x6_7 * x6_7)), (0, .long up), (2, .long down), (4, .int which), (5, .long x6_5), (7, .long x6_7)]) hx hb (dOk_at dX7_share 11 rfl) hl (by decide) rfl (fun ls hl => ?_)
        refine lv_lload (pc := 20) hx hb (dOk_at dX7_share 12 rfl) (lv_at hl 5 rfl) ?_
        refine lv_lstore (pc := 22) (lv' := [(5, .long x6_7), (9, .long (x6_5 - x6_5 / x6_7 * x6_7)), (0, .long up), (2, .long down), (4, .int which), (7, .long x6_7)]) hx hb (dOk_at dX7_share 13 rfl) hl (by decide) rfl (fun ls hl => ?_)
        refine lv_lload (pc := 24) hx hb (dOk_at dX7_share 14 rfl) (lv_at hl 1 rfl) ?_
        refine lv_lstore (pc := 26) (lv' := [(7, .long (x6_5 - x6_5 / x6_7 * x6_7)), (5, .long x6_7), (9, .long (x6_5 - x6_5 / x6_7 * x6_7)), (0, .long up), (2, .long down), (4, .int which)]) hx hb (dOk_at dX7_share 15 rfl) hl (by decide) rfl (fun ls hl => ?_)
        refine lv_goto (pc := 28) (tgt := 6) hx hb (dOk_at dX7_share 16 rfl) (by decide) ?_
        obtain ⟨k0, hk0, hj0⟩ := hv
        exact ih6 k0 hk0 x6_7 (x6_5 - x6_5 / x6_7 * x6_7) hj0 _ _ _ hh (lv_sub hl [3, 4, 5, 1, 0] rfl)
  refine lv_lload_n (pc := 0) hx hb (dOk_at dX7_share 0 rfl) rfl (lv_at hl 0 rfl) ?_
  refine lv_lstore (pc := 1) (lv' := [(5, .long up), (0, .long up), (2, .long down), (4, .int which)]) hx hb (dOk_at dX7_share 1 rfl) hl (by decide) rfl (fun ls hl => ?_)
  refine lv_lload_n (pc := 3) hx hb (dOk_at dX7_share 2 rfl) rfl (lv_at hl 2 rfl) ?_
  refine lv_lstore (pc := 4) (lv' := [(7, .long down), (5, .long up), (0, .long up), (2, .long down), (4, .int which)]) hx hb (dOk_at dX7_share 3 rfl) hl (by decide) rfl (fun ls hl => ?_)
  obtain ⟨k0, hj0⟩ := hv
  exact lp6 k0 up down hj0 _ _ _ hh (lv_sub hl [2, 3, 4, 1, 0] rfl)
set_option maxRecDepth 100000 in
set_option maxHeartbeats 4000000 in
theorem wk_X7_noSheet (l : Launch) (G : GT) (k : Int32) (R : Int32) (h_X7_in : K_X7_in l G)
    (hv : (¬ (q_in k.toInt64 0 3) = 0 → (0 : Int32) = R) ∧ ((q_in k.toInt64 0 3) = 0 → (1 : Int32) = R)) :
    MF l G yX7_noSheet cX7_noSheet 1 (some .boolean) rm_X7_noSheet [.int k] [] (some (.int R)) [] := by
  refine MF.of (by decide +kernel) (Nat.le_of_ble_eq_true rfl) ?_
  intro p e s m args below meth c A ls fx hh hl _
  have hx := fx.hx
  have hb := fx.hb
  have hl : lv_has ls 1 [(0, .int k)] := hl
  obtain ⟨Q, hQ⟩ : ∃ Q, Q = ZZ G A (some (.int R)) [] below args s := ⟨_, rfl⟩
  rw [← hQ]
  refine lv_iload_n (pc := 0) hx hb (dOk_at dX7_noSheet 0 rfl) rfl (lv_at hl 0 rfl) ?_
  refine lv_i2l (pc := 1) (v := k.toInt64) hx hb (dOk_at dX7_noSheet 1 rfl) rfl ?_
  refine lv_lconst (pc := 2) (v := 0) hx hb (dOk_at dX7_noSheet 2 rfl) (by decide) ?_
  refine lv_ldc2 (pc := 3) (v := 3) hx hb fx.hown (fx.hts _ tLX7_182) (dOk_at dX7_noSheet 3 rfl) ?_
  refine cl_S (pc := 6) (w' := []) (wr := []) (rest := []) fx hh hl.1 (h_X7_in k.toInt64 0 3) yS_X7_in tMX7_76 ⟨rfl, rfl, Nat.le_of_ble_eq_true rfl, Nat.le_of_ble_eq_true rfl⟩ [] [] [] rfl rfl rfl (by decide) (by decide) rfl rfl (Nat.le_of_ble_eq_true rfl) ⟨Nat.le_of_ble_eq_true rfl, Nat.le_of_ble_eq_true rfl⟩ (dOk_at dX7_noSheet 4 rfl) (fun H locs hh => ?_)
  refine lv_if_ne (pc := 9) (tgt := 16) hx hb (dOk_at dX7_noSheet 5 rfl) (by decide) (fun c9 => ?_) (fun c9 => ?_)
  · have hv := hv.1 c9
    refine lv_iconst (pc := 16) (v := 0) hx hb (dOk_at dX7_noSheet 8 rfl) (by decide) ?_
    have e0 := hv
    subst e0
    rw [hQ]
    exact r_zret (pc := 17) fx hh rfl (dOk_at dX7_noSheet 9 rfl)
  · have hv := hv.2 c9
    refine lv_iconst (pc := 12) (v := 1) hx hb (dOk_at dX7_noSheet 6 rfl) (by decide) ?_
    refine lv_goto (pc := 13) (tgt := 17) hx hb (dOk_at dX7_noSheet 7 rfl) (by decide) ?_
    have e0 := hv
    subst e0
    rw [hQ]
    exact r_zret (pc := 17) fx hh rfl (dOk_at dX7_noSheet 9 rfl)
set_option maxRecDepth 100000 in
set_option maxHeartbeats 4000000 in
theorem wk_X7_isBeyond (l : Launch) (G : GT) (i : Int32) (n : Int64) (all : Int32) (R : Int32)
    (hv : (i < 0 → (1 : Int32) = R) ∧ (¬ i < 0 → ((lg_cmp n 0) < 0 → (1 : Int32) = R) ∧ (¬ (lg_cmp n 0) < 0 → ((lg_cmp (i.toInt64 + n) all.toInt64) ≤ 0 → (0 : Int32) = R) ∧ (¬ (lg_cmp (i.toInt64 + n) all.toInt64) ≤ 0 → (1 : Int32) = R)))) :
    MF l G yX7_isBeyond cX7_isBeyond 4 (some .boolean) rm_X7_isBeyond [.int i, .long n, .int all] [] (some (.int R)) [] := by
  refine MF.of (by decide +kernel) (Nat.le_of_ble_eq_true rfl) ?_
  intro p e s m args below meth c A ls fx hh hl _
  have hx := fx.hx
  have hb := fx.hb
  have hl : lv_has ls 4 [(0, .int i), (1, .long n), (3, .int all)] := hl
  obtain ⟨Q, hQ⟩ : ∃ Q, Q = ZZ G A (some (.int R)) [] below args s := ⟨_, rfl⟩
  rw [← hQ]
  refine lv_iload_n (pc := 0) hx hb (dOk_at dX7_isBeyond 0 rfl) rfl (lv_at hl 0 rfl) ?_
  refine lv_if_lt (pc := 1) (tgt := 20) hx hb (dOk_at dX7_isBeyond 1 rfl) (by decide) (fun c1 => ?_) (fun c1 => ?_)
  · have hv := hv.1 c1
    refine lv_iconst (pc := 20) (v := 1) hx hb (dOk_at dX7_isBeyond 14 rfl) (by decide) ?_
    refine lv_goto (pc := 21) (tgt := 25) hx hb (dOk_at dX7_isBeyond 15 rfl) (by decide) ?_
    have e0 := hv
    subst e0
    rw [hQ]
    exact r_zret (pc := 25) fx hh rfl (dOk_at dX7_isBeyond 17 rfl)
  · have hv := hv.2 c1
    refine lv_lload_n (pc := 4) hx hb (dOk_at dX7_isBeyond 2 rfl) rfl (lv_at hl 1 rfl) ?_
    refine lv_lconst (pc := 5) (v := 0) hx hb (dOk_at dX7_isBeyond 3 rfl) (by decide) ?_
    refine W.lcmp (pc := 6) hx hb (dOk_at dX7_isBeyond 4 rfl) ?_
    refine lv_if_lt (pc := 7) (tgt := 20) hx hb (dOk_at dX7_isBeyond 5 rfl) (by decide) (fun c7 => ?_) (fun c7 => ?_)
    · have hv := hv.1 c7
      refine lv_iconst (pc := 20) (v := 1) hx hb (dOk_at dX7_isBeyond 14 rfl) (by decide) ?_
      refine lv_goto (pc := 21) (tgt := 25) hx hb (dOk_at dX7_isBeyond 15 rfl) (by decide) ?_
      have e0 := hv
      subst e0
      rw [hQ]
      exact r_zret (pc := 25) fx hh rfl (dOk_at dX7_isBeyond 17 rfl)
    · have hv := hv.2 c7
      refine lv_iload_n (pc := 10) hx hb (dOk_at dX7_isBeyond 6 rfl) rfl (lv_at hl 0 rfl) ?_
      refine lv_i2l (pc := 11) (v := i.toInt64) hx hb (dOk_at dX7_isBeyond 7 rfl) rfl ?_
      refine lv_lload_n (pc := 12) hx hb (dOk_at dX7_isBeyond 8 rfl) rfl (lv_at hl 1 rfl) ?_
      refine lv_ladd (pc := 13) hx hb (dOk_at dX7_isBeyond 9 rfl) ?_
      refine lv_iload_n (pc := 14) hx hb (dOk_at dX7_isBeyond 10 rfl) rfl (lv_at hl 2 rfl) ?_
      refine lv_i2l (pc := 15) (v := all.toInt64) hx hb (dOk_at dX7_isBeyond 11 rfl) rfl ?_
      refine W.lcmp (pc := 16) hx hb (dOk_at dX7_isBeyond 12 rfl) ?_
      refine lv_if_le (pc := 17) (tgt := 24) hx hb (dOk_at dX7_isBeyond 13 rfl) (by decide) (fun c17 => ?_) (fun c17 => ?_)
      · have hv := hv.1 c17
        refine lv_iconst (pc := 24) (v := 0) hx hb (dOk_at dX7_isBeyond 16 rfl) (by decide) ?_
        have e0 := hv
        subst e0
        rw [hQ]
        exact r_zret (pc := 25) fx hh rfl (dOk_at dX7_isBeyond 17 rfl)
      · have hv := hv.2 c17
        refine lv_iconst (pc := 20) (v := 1) hx hb (dOk_at dX7_isBeyond 14 rfl) (by decide) ?_
        refine lv_goto (pc := 21) (tgt := 25) hx hb (dOk_at dX7_isBeyond 15 rfl) (by decide) ?_
        have e0 := hv
        subst e0
        rw [hQ]
        exact r_zret (pc := 25) fx hh rfl (dOk_at dX7_isBeyond 17 rfl)
set_option maxRecDepth 100000 in
set_option maxHeartbeats 4000000 in
theorem wk_X7_refused (l : Launch) (G : GT) (m0 : Nat) (a4 : Nat) (a6 : Nat) (a7 : Nat) (a15 : Nat) (a16 : Nat) (a17 : Nat) (a21 : Nat) (a22 : Nat) (a24 : Nat) (a25 : Nat) (a26 : Nat) (a27 : Nat) (a28 : Nat) (a29 : Nat) (a30 : Nat) (f0 : Int32) (f1 : Int32) (f2 : Int32) (f3 : Int32) (f5 : Int32) (f8 : Int32) (f9 : Int32) (f10 : Int32) (f11 : Int32) (f12 : Int32) (f13 : Int32) (f14 : Int32) (f18 : Int32) (f19 : Int32) (f20 : Int32) (f23 : Int32) (f31 : Int32) (g4 : Nat → Int32) (g6 : Nat → Int32) (g7 : Nat → Int32) (g15 : Nat → Int32) (g16 : Nat → Int32) (g17 : Nat → Int32) (g21 : Nat → Int32) (g22 : Nat → Int32) (g24 : Nat → Int32) (g25 : Nat → Int32) (g26 : Nat → Int32) (g27 : Nat → Int32) (g28 : Nat → Int32) (g29 : Nat → Int32) (g30 : Nat → Int32) (code : Int32) (R : Int32) (t0_0 : Int32)
    (hv : code = R ∧ (0 : Int32) = t0_0) :
    MF l G yX7_refused cX7_refused 2 (some .int) rm_X7_refused [.ref m0, .int code] [(m0, .inr (7, [.int f0, .int f1, .int f2, .int f3, .ref a4, .int f5, .ref a6, .ref a7, .int f8, .int f9, .int f10, .int f11, .int f12, .int f13, .int f14, .ref a15, .ref a16, .ref a17, .int f18, .int f19, .int f20, .ref a21, .ref a22, .int f23, .ref a24, .ref a25, .ref a26, .ref a27, .ref a28, .ref a29, .ref a30, .int f31])), (a4, .inl (G.2.1, 20, .inl g4)), (a6, .inl (G.2.1, 4, .inl g6)), (a7, .inl (G.2.1, 4, .inl g7)), (a15, .inl (G.2.1, 20, .inl g15)), (a16, .inl (G.2.1, 4, .inl g16)), (a17, .inl (G.2.1, 4, .inl g17)), (a21, .inl (G.2.1, 20, .inl g21)), (a22, .inl (G.2.1, 40, .inl g22)), (a24, .inl (G.2.1, 8, .inl g24)), (a25, .inl (G.2.1, 8, .inl g25)), (a26, .inl (G.2.2.1, 8, .inl g26)), (a27, .inl (G.2.1, 4, .inl g27)), (a28, .inl (G.2.1, 4, .inl g28)), (a29, .inl (G.2.1, 240, .inl g29)), (a30, .inl (G.2.1, 60, .inl g30))] (some (.int R)) [(m0, .inr (7, [.int t0_0, .int f1, .int f2, .int f3, .ref a4, .int f5, .ref a6, .ref a7, .int f8, .int f9, .int f10, .int f11, .int f12, .int f13, .int f14, .ref a15, .ref a16, .ref a17, .int f18, .int f19, .int f20, .ref a21, .ref a22, .int f23, .ref a24, .ref a25, .ref a26, .ref a27, .ref a28, .ref a29, .ref a30, .int f31])), (a4, .inl (G.2.1, 20, .inl g4)), (a6, .inl (G.2.1, 4, .inl g6)), (a7, .inl (G.2.1, 4, .inl g7)), (a15, .inl (G.2.1, 20, .inl g15)), (a16, .inl (G.2.1, 4, .inl g16)), (a17, .inl (G.2.1, 4, .inl g17)), (a21, .inl (G.2.1, 20, .inl g21)), (a22, .inl (G.2.1, 40, .inl g22)), (a24, .inl (G.2.1, 8, .inl g24)), (a25, .inl (G.2.1, 8, .inl g25)), (a26, .inl (G.2.2.1, 8, .inl g26)), (a27, .inl (G.2.1, 4, .inl g27)), (a28, .inl (G.2.1, 4, .inl g28)), (a29, .inl (G.2.1, 240, .inl g29)), (a30, .inl (G.2.1, 60, .inl g30))] := by
  refine MF.of (by decide +kernel) (Nat.le_of_ble_eq_true rfl) ?_
  intro p e s m args below meth c A ls fx hh hl _
  have hx := fx.hx
  have hb := fx.hb
  have hl : lv_has ls 2 [(0, .ref m0), (1, .int code)] := hl
  obtain ⟨Q, hQ⟩ : ∃ Q, Q = ZZ G A (some (.int R)) [(m0, .inr (7, [.int t0_0, .int f1, .int f2, .int f3, .ref a4, .int f5, .ref a6, .ref a7, .int f8, .int f9, .int f10, .int f11, .int f12, .int f13, .int f14, .ref a15, .ref a16, .ref a17, .int f18, .int f19, .int f20, .ref a21, .ref a22, .int f23, .ref a24, .ref a25, .ref a26, .ref a27, .ref a28, .ref a29, .ref a30, .int f31])), (a4, .inl (G.2.1, 20, .inl g4)), (a6, .inl (G.2.1, 4, .inl g6)), (a7, .inl (G.2.1, 4, .inl g7)), (a15, .inl (G.2.1, 20, .inl g15)), (a16, .inl (G.2.1, 4, .inl g16)), (a17, .inl (G.2.1, 4, .inl g17)), (a21, .inl (G.2.1, 20, .inl g21)), (a22, .inl (G.2.1, 40, .inl g22)), (a24, .inl (G.2.1, 8, .inl g24)), (a25, .inl (G.2.1, 8, .inl g25)), (a26, .inl (G.2.2.1, 8, .inl g26)), (a27, .inl (G.2.1, 4, .inl g27)), (a28, .inl (G.2.1, 4, .inl g28)), (a29, .inl (G.2.1, 240, .inl g29)), (a30, .inl (G.2.1, 60, .inl g30))] below args s := ⟨_, rfl⟩
  rw [← hQ]
  refine lv_aload_n (pc := 0) hx hb (dOk_at dX7_refused 0 rfl) rfl (lv_at hl 0 rfl) ?_
  refine lv_iconst (pc := 1) (v := 0) hx hb (dOk_at dX7_refused 1 rfl) (by decide) ?_
  refine r_put (pc := 2) (ci := 7) (w' := [(m0, .inr (7, [.int 0, .int f1, .int f2, .int f3, .ref a4, .int f5, .ref a6, .ref a7, .int f8, .int f9, .int f10, .int f11, .int f12, .int f13, .int f14, .ref a15, .ref a16, .ref a17, .int f18, .int f19, .int f20, .ref a21, .ref a22, .int f23, .ref a24, .ref a25, .ref a26, .ref a27, .ref a28, .ref a29, .ref a30, .int f31])), (a4, .inl (G.2.1, 20, .inl g4)), (a6, .inl (G.2.1, 4, .inl g6)), (a7, .inl (G.2.1, 4, .inl g7)), (a15, .inl (G.2.1, 20, .inl g15)), (a16, .inl (G.2.1, 4, .inl g16)), (a17, .inl (G.2.1, 4, .inl g17)), (a21, .inl (G.2.1, 20, .inl g21)), (a22, .inl (G.2.1, 40, .inl g22)), (a24, .inl (G.2.1, 8, .inl g24)), (a25, .inl (G.2.1, 8, .inl g25)), (a26, .inl (G.2.2.1, 8, .inl g26)), (a27, .inl (G.2.1, 4, .inl g27)), (a28, .inl (G.2.1, 4, .inl g28)), (a29, .inl (G.2.1, 240, .inl g29)), (a30, .inl (G.2.1, 60, .inl g30))]) fx hh inT7 tyX7 tyX7_ok nmX7 rfl 0 (by decide) tFX7_58 rfl rfl 0 rfl rfl rfl (Nat.le_of_ble_eq_true rfl) rfl (dOk_at dX7_refused 2 rfl) (fun H locs hh => ?_)
  refine lv_iload_n (pc := 5) hx hb (dOk_at dX7_refused 3 rfl) rfl (lv_at hl 1 rfl) ?_
  obtain ⟨e0, e1⟩ := hv
  subst e0
  subst e1
  rw [hQ]
  exact r_iret (pc := 6) fx hh (dOk_at dX7_refused 4 rfl)
set_option maxRecDepth 100000 in
set_option maxHeartbeats 4000000 in
theorem wk_X7_failed (l : Launch) (G : GT) (m0 : Nat) (a4 : Nat) (a6 : Nat) (a7 : Nat) (a15 : Nat) (a16 : Nat) (a17 : Nat) (a21 : Nat) (a22 : Nat) (a24 : Nat) (a25 : Nat) (a26 : Nat) (a27 : Nat) (a28 : Nat) (a29 : Nat) (a30 : Nat) (f0 : Int32) (f1 : Int32) (f2 : Int32) (f3 : Int32) (f5 : Int32) (f8 : Int32) (f9 : Int32) (f10 : Int32) (f11 : Int32) (f12 : Int32) (f13 : Int32) (f14 : Int32) (f18 : Int32) (f19 : Int32) (f20 : Int32) (f23 : Int32) (f31 : Int32) (g4 : Nat → Int32) (g6 : Nat → Int32) (g7 : Nat → Int32) (g15 : Nat → Int32) (g16 : Nat → Int32) (g17 : Nat → Int32) (g21 : Nat → Int32) (g22 : Nat → Int32) (g24 : Nat → Int32) (g25 : Nat → Int32) (g26 : Nat → Int32) (g27 : Nat → Int32) (g28 : Nat → Int32) (g29 : Nat → Int32) (g30 : Nat → Int32) (f : Int32) (R : Int32) (t0_0 : Int32)
    (hv : ((-10) - f) = R ∧ f = t0_0) :
    MF l G yX7_failed cX7_failed 2 (some .int) rm_X7_failed [.ref m0, .int f] [(m0, .inr (7, [.int f0, .int f1, .int f2, .int f3, .ref a4, .int f5, .ref a6, .ref a7, .int f8, .int f9, .int f10, .int f11, .int f12, .int f13, .int f14, .ref a15, .ref a16, .ref a17, .int f18, .int f19, .int f20, .ref a21, .ref a22, .int f23, .ref a24, .ref a25, .ref a26, .ref a27, .ref a28, .ref a29, .ref a30, .int f31])), (a4, .inl (G.2.1, 20, .inl g4)), (a6, .inl (G.2.1, 4, .inl g6)), (a7, .inl (G.2.1, 4, .inl g7)), (a15, .inl (G.2.1, 20, .inl g15)), (a16, .inl (G.2.1, 4, .inl g16)), (a17, .inl (G.2.1, 4, .inl g17)), (a21, .inl (G.2.1, 20, .inl g21)), (a22, .inl (G.2.1, 40, .inl g22)), (a24, .inl (G.2.1, 8, .inl g24)), (a25, .inl (G.2.1, 8, .inl g25)), (a26, .inl (G.2.2.1, 8, .inl g26)), (a27, .inl (G.2.1, 4, .inl g27)), (a28, .inl (G.2.1, 4, .inl g28)), (a29, .inl (G.2.1, 240, .inl g29)), (a30, .inl (G.2.1, 60, .inl g30))] (some (.int R)) [(m0, .inr (7, [.int t0_0, .int f1, .int f2, .int f3, .ref a4, .int f5, .ref a6, .ref a7, .int f8, .int f9, .int f10, .int f11, .int f12, .int f13, .int f14, .ref a15, .ref a16, .ref a17, .int f18, .int f19, .int f20, .ref a21, .ref a22, .int f23, .ref a24, .ref a25, .ref a26, .ref a27, .ref a28, .ref a29, .ref a30, .int f31])), (a4, .inl (G.2.1, 20, .inl g4)), (a6, .inl (G.2.1, 4, .inl g6)), (a7, .inl (G.2.1, 4, .inl g7)), (a15, .inl (G.2.1, 20, .inl g15)), (a16, .inl (G.2.1, 4, .inl g16)), (a17, .inl (G.2.1, 4, .inl g17)), (a21, .inl (G.2.1, 20, .inl g21)), (a22, .inl (G.2.1, 40, .inl g22)), (a24, .inl (G.2.1, 8, .inl g24)), (a25, .inl (G.2.1, 8, .inl g25)), (a26, .inl (G.2.2.1, 8, .inl g26)), (a27, .inl (G.2.1, 4, .inl g27)), (a28, .inl (G.2.1, 4, .inl g28)), (a29, .inl (G.2.1, 240, .inl g29)), (a30, .inl (G.2.1, 60, .inl g30))] := by
  refine MF.of (by decide +kernel) (Nat.le_of_ble_eq_true rfl) ?_
  intro p e s m args below meth c A ls fx hh hl _
  have hx := fx.hx
  have hb := fx.hb
  have hl : lv_has ls 2 [(0, .ref m0), (1, .int f)] := hl
  obtain ⟨Q, hQ⟩ : ∃ Q, Q = ZZ G A (some (.int R)) [(m0, .inr (7, [.int t0_0, .int f1, .int f2, .int f3, .ref a4, .int f5, .ref a6, .ref a7, .int f8, .int f9, .int f10, .int f11, .int f12, .int f13, .int f14, .ref a15, .ref a16, .ref a17, .int f18, .int f19, .int f20, .ref a21, .ref a22, .int f23, .ref a24, .ref a25, .ref a26, .ref a27, .ref a28, .ref a29, .ref a30, .int f31])), (a4, .inl (G.2.1, 20, .inl g4)), (a6, .inl (G.2.1, 4, .inl g6)), (a7, .inl (G.2.1, 4, .inl g7)), (a15, .inl (G.2.1, 20, .inl g15)), (a16, .inl (G.2.1, 4, .inl g16)), (a17, .inl (G.2.1, 4, .inl g17)), (a21, .inl (G.2.1, 20, .inl g21)), (a22, .inl (G.2.1, 40, .inl g22)), (a24, .inl (G.2.1, 8, .inl g24)), (a25, .inl (G.2.1, 8, .inl g25)), (a26, .inl (G.2.2.1, 8, .inl g26)), (a27, .inl (G.2.1, 4, .inl g27)), (a28, .inl (G.2.1, 4, .inl g28)), (a29, .inl (G.2.1, 240, .inl g29)), (a30, .inl (G.2.1, 60, .inl g30))] below args s := ⟨_, rfl⟩
  rw [← hQ]
  refine lv_aload_n (pc := 0) hx hb (dOk_at dX7_failed 0 rfl) rfl (lv_at hl 0 rfl) ?_
  refine lv_iload_n (pc := 1) hx hb (dOk_at dX7_failed 1 rfl) rfl (lv_at hl 1 rfl) ?_
  refine r_put (pc := 2) (ci := 7) (w' := [(m0, .inr (7, [.int f, .int f1, .int f2, .int f3, .ref a4, .int f5, .ref a6, .ref a7, .int f8, .int f9, .int f10, .int f11, .int f12, .int f13, .int f14, .ref a15, .ref a16, .ref a17, .int f18, .int f19, .int f20, .ref a21, .ref a22, .int f23, .ref a24, .ref a25, .ref a26, .ref a27, .ref a28, .ref a29, .ref a30, .int f31])), (a4, .inl (G.2.1, 20, .inl g4)), (a6, .inl (G.2.1, 4, .inl g6)), (a7, .inl (G.2.1, 4, .inl g7)), (a15, .inl (G.2.1, 20, .inl g15)), (a16, .inl (G.2.1, 4, .inl g16)), (a17, .inl (G.2.1, 4, .inl g17)), (a21, .inl (G.2.1, 20, .inl g21)), (a22, .inl (G.2.1, 40, .inl g22)), (a24, .inl (G.2.1, 8, .inl g24)), (a25, .inl (G.2.1, 8, .inl g25)), (a26, .inl (G.2.2.1, 8, .inl g26)), (a27, .inl (G.2.1, 4, .inl g27)), (a28, .inl (G.2.1, 4, .inl g28)), (a29, .inl (G.2.1, 240, .inl g29)), (a30, .inl (G.2.1, 60, .inl g30))]) fx hh inT7 tyX7 tyX7_ok nmX7 rfl 0 (by decide) tFX7_58 rfl rfl 0 rfl rfl rfl (Nat.le_of_ble_eq_true rfl) rfl (dOk_at dX7_failed 2 rfl) (fun H locs hh => ?_)
  refine lv_bipush (pc := 5) (v := (-10)) hx hb (dOk_at dX7_failed 3 rfl) (by decide) ?_
  refine lv_iload_n (pc := 7) hx hb (dOk_at dX7_failed 4 rfl) rfl (lv_at hl 1 rfl) ?_
  refine lv_isub (pc := 8) hx hb (dOk_at dX7_failed 5 rfl) ?_
  obtain ⟨e0, e1⟩ := hv
  subst e0
  subst e1
  rw [hQ]
  exact r_iret (pc := 9) fx hh (dOk_at dX7_failed 6 rfl)
set_option maxRecDepth 100000 in
set_option maxHeartbeats 4000000 in
theorem wk_X7_failedLong (l : Launch) (G : GT) (m0 : Nat) (a4 : Nat) (a6 : Nat) (a7 : Nat) (a15 : Nat) (a16 : Nat) (a17 : Nat) (a21 : Nat) (a22 : Nat) (a24 : Nat) (a25 : Nat) (a26 : Nat) (a27 : Nat) (a28 : Nat) (a29 : Nat) (a30 : Nat) (f0 : Int32) (f1 : Int32) (f2 : Int32) (f3 : Int32) (f5 : Int32) (f8 : Int32) (f9 : Int32) (f10 : Int32) (f11 : Int32) (f12 : Int32) (f13 : Int32) (f14 : Int32) (f18 : Int32) (f19 : Int32) (f20 : Int32) (f23 : Int32) (f31 : Int32) (g4 : Nat → Int32) (g6 : Nat → Int32) (g7 : Nat → Int32) (g15 : Nat → Int32) (g16 : Nat → Int32) (g17 : Nat → Int32) (g21 : Nat → Int32) (g22 : Nat → Int32) (g24 : Nat → Int32) (g25 : Nat → Int32) (g26 : Nat → Int32) (g27 : Nat → Int32) (g28 : Nat → Int32) (g29 : Nat → Int32) (g30 : Nat → Int32) (f : Int32) (R : Int64) (t0_0 : Int32) (h_X7_lost : K_X7_lost l G)
    (hv : (-9223372036854775808 : Int64) = R ∧ f = t0_0) :
    MF l G yX7_failedLong cX7_failedLong 2 (some .long) rm_X7_failedLong [.ref m0, .int f] [(m0, .inr (7, [.int f0, .int f1, .int f2, .int f3, .ref a4, .int f5, .ref a6, .ref a7, .int f8, .int f9, .int f10, .int f11, .int f12, .int f13, .int f14, .ref a15, .ref a16, .ref a17, .int f18, .int f19, .int f20, .ref a21, .ref a22, .int f23, .ref a24, .ref a25, .ref a26, .ref a27, .ref a28, .ref a29, .ref a30, .int f31])), (a4, .inl (G.2.1, 20, .inl g4)), (a6, .inl (G.2.1, 4, .inl g6)), (a7, .inl (G.2.1, 4, .inl g7)), (a15, .inl (G.2.1, 20, .inl g15)), (a16, .inl (G.2.1, 4, .inl g16)), (a17, .inl (G.2.1, 4, .inl g17)), (a21, .inl (G.2.1, 20, .inl g21)), (a22, .inl (G.2.1, 40, .inl g22)), (a24, .inl (G.2.1, 8, .inl g24)), (a25, .inl (G.2.1, 8, .inl g25)), (a26, .inl (G.2.2.1, 8, .inl g26)), (a27, .inl (G.2.1, 4, .inl g27)), (a28, .inl (G.2.1, 4, .inl g28)), (a29, .inl (G.2.1, 240, .inl g29)), (a30, .inl (G.2.1, 60, .inl g30))] (some (.long R)) [(m0, .inr (7, [.int t0_0, .int f1, .int f2, .int f3, .ref a4, .int f5, .ref a6, .ref a7, .int f8, .int f9, .int f10, .int f11, .int f12, .int f13, .int f14, .ref a15, .ref a16, .ref a17, .int f18, .int f19, .int f20, .ref a21, .ref a22, .int f23, .ref a24, .ref a25, .ref a26, .ref a27, .ref a28, .ref a29, .ref a30, .int f31])), (a4, .inl (G.2.1, 20, .inl g4)), (a6, .inl (G.2.1, 4, .inl g6)), (a7, .inl (G.2.1, 4, .inl g7)), (a15, .inl (G.2.1, 20, .inl g15)), (a16, .inl (G.2.1, 4, .inl g16)), (a17, .inl (G.2.1, 4, .inl g17)), (a21, .inl (G.2.1, 20, .inl g21)), (a22, .inl (G.2.1, 40, .inl g22)), (a24, .inl (G.2.1, 8, .inl g24)), (a25, .inl (G.2.1, 8, .inl g25)), (a26, .inl (G.2.2.1, 8, .inl g26)), (a27, .inl (G.2.1, 4, .inl g27)), (a28, .inl (G.2.1, 4, .inl g28)), (a29, .inl (G.2.1, 240, .inl g29)), (a30, .inl (G.2.1, 60, .inl g30))] := by
  refine MF.of (by decide +kernel) (Nat.le_of_ble_eq_true rfl) ?_
  intro p e s m args below meth c A ls fx hh hl _
  have hx := fx.hx
  have hb := fx.hb
  have hl : lv_has ls 2 [(0, .ref m0), (1, .int f)] := hl
  obtain ⟨Q, hQ⟩ : ∃ Q, Q = ZZ G A (some (.long R)) [(m0, .inr (7, [.int t0_0, .int f1, .int f2, .int f3, .ref a4, .int f5, .ref a6, .ref a7, .int f8, .int f9, .int f10, .int f11, .int f12, .int f13, .int f14, .ref a15, .ref a16, .ref a17, .int f18, .int f19, .int f20, .ref a21, .ref a22, .int f23, .ref a24, .ref a25, .ref a26, .ref a27, .ref a28, .ref a29, .ref a30, .int f31])), (a4, .inl (G.2.1, 20, .inl g4)), (a6, .inl (G.2.1, 4, .inl g6)), (a7, .inl (G.2.1, 4, .inl g7)), (a15, .inl (G.2.1, 20, .inl g15)), (a16, .inl (G.2.1, 4, .inl g16)), (a17, .inl (G.2.1, 4, .inl g17)), (a21, .inl (G.2.1, 20, .inl g21)), (a22, .inl (G.2.1, 40, .inl g22)), (a24, .inl (G.2.1, 8, .inl g24)), (a25, .inl (G.2.1, 8, .inl g25)), (a26, .inl (G.2.2.1, 8, .inl g26)), (a27, .inl (G.2.1, 4, .inl g27)), (a28, .inl (G.2.1, 4, .inl g28)), (a29, .inl (G.2.1, 240, .inl g29)), (a30, .inl (G.2.1, 60, .inl g30))] below args s := ⟨_, rfl⟩
  rw [← hQ]
  refine lv_aload_n (pc := 0) hx hb (dOk_at dX7_failedLong 0 rfl) rfl (lv_at hl 0 rfl) ?_
  refine lv_iload_n (pc := 1) hx hb (dOk_at dX7_failedLong 1 rfl) rfl (lv_at hl 1 rfl) ?_
  refine r_put (pc := 2) (ci := 7) (w' := [(m0, .inr (7, [.int f, .int f1, .int f2, .int f3, .ref a4, .int f5, .ref a6, .ref a7, .int f8, .int f9, .int f10, .int f11, .int f12, .int f13, .int f14, .ref a15, .ref a16, .ref a17, .int f18, .int f19, .int f20, .ref a21, .ref a22, .int f23, .ref a24, .ref a25, .ref a26, .ref a27, .ref a28, .ref a29, .ref a30, .int f31])), (a4, .inl (G.2.1, 20, .inl g4)), (a6, .inl (G.2.1, 4, .inl g6)), (a7, .inl (G.2.1, 4, .inl g7)), (a15, .inl (G.2.1, 20, .inl g15)), (a16, .inl (G.2.1, 4, .inl g16)), (a17, .inl (G.2.1, 4, .inl g17)), (a21, .inl (G.2.1, 20, .inl g21)), (a22, .inl (G.2.1, 40, .inl g22)), (a24, .inl (G.2.1, 8, .inl g24)), (a25, .inl (G.2.1, 8, .inl g25)), (a26, .inl (G.2.2.1, 8, .inl g26)), (a27, .inl (G.2.1, 4, .inl g27)), (a28, .inl (G.2.1, 4, .inl g28)), (a29, .inl (G.2.1, 240, .inl g29)), (a30, .inl (G.2.1, 60, .inl g30))]) fx hh inT7 tyX7 tyX7_ok nmX7 rfl 0 (by decide) tFX7_58 rfl rfl 0 rfl rfl rfl (Nat.le_of_ble_eq_true rfl) rfl (dOk_at dX7_failedLong 2 rfl) (fun H locs hh => ?_)
  refine cl_S (pc := 5) (w' := [(m0, .inr (7, [.int f, .int f1, .int f2, .int f3, .ref a4, .int f5, .ref a6, .ref a7, .int f8, .int f9, .int f10, .int f11, .int f12, .int f13, .int f14, .ref a15, .ref a16, .ref a17, .int f18, .int f19, .int f20, .ref a21, .ref a22, .int f23, .ref a24, .ref a25, .ref a26, .ref a27, .ref a28, .ref a29, .ref a30, .int f31])), (a4, .inl (G.2.1, 20, .inl g4)), (a6, .inl (G.2.1, 4, .inl g6)), (a7, .inl (G.2.1, 4, .inl g7)), (a15, .inl (G.2.1, 20, .inl g15)), (a16, .inl (G.2.1, 4, .inl g16)), (a17, .inl (G.2.1, 4, .inl g17)), (a21, .inl (G.2.1, 20, .inl g21)), (a22, .inl (G.2.1, 40, .inl g22)), (a24, .inl (G.2.1, 8, .inl g24)), (a25, .inl (G.2.1, 8, .inl g25)), (a26, .inl (G.2.2.1, 8, .inl g26)), (a27, .inl (G.2.1, 4, .inl g27)), (a28, .inl (G.2.1, 4, .inl g28)), (a29, .inl (G.2.1, 240, .inl g29)), (a30, .inl (G.2.1, 60, .inl g30))]) (wr := [(m0, .inr (7, [.int f, .int f1, .int f2, .int f3, .ref a4, .int f5, .ref a6, .ref a7, .int f8, .int f9, .int f10, .int f11, .int f12, .int f13, .int f14, .ref a15, .ref a16, .ref a17, .int f18, .int f19, .int f20, .ref a21, .ref a22, .int f23, .ref a24, .ref a25, .ref a26, .ref a27, .ref a28, .ref a29, .ref a30, .int f31])), (a4, .inl (G.2.1, 20, .inl g4)), (a6, .inl (G.2.1, 4, .inl g6)), (a7, .inl (G.2.1, 4, .inl g7)), (a15, .inl (G.2.1, 20, .inl g15)), (a16, .inl (G.2.1, 4, .inl g16)), (a17, .inl (G.2.1, 4, .inl g17)), (a21, .inl (G.2.1, 20, .inl g21)), (a22, .inl (G.2.1, 40, .inl g22)), (a24, .inl (G.2.1, 8, .inl g24)), (a25, .inl (G.2.1, 8, .inl g25)), (a26, .inl (G.2.2.1, 8, .inl g26)), (a27, .inl (G.2.1, 4, .inl g27)), (a28, .inl (G.2.1, 4, .inl g28)), (a29, .inl (G.2.1, 240, .inl g29)), (a30, .inl (G.2.1, 60, .inl g30))]) (rest := []) fx hh hl.1 (h_X7_lost) yS_X7_lost tMX7_62 ⟨rfl, rfl, Nat.le_of_ble_eq_true rfl, Nat.le_of_ble_eq_true rfl⟩ [] [0, 1, 2, 3, 4, 5, 6, 7, 8, 9, 10, 11, 12, 13, 14, 15] [0, 1, 2, 3, 4, 5, 6, 7, 8, 9, 10, 11, 12, 13, 14, 15] rfl rfl rfl (by decide) (by decide) rfl rfl (Nat.le_of_ble_eq_true rfl) ⟨Nat.le_of_ble_eq_true rfl, Nat.le_of_ble_eq_true rfl⟩ (dOk_at dX7_failedLong 3 rfl) (fun H locs hh => ?_)
  obtain ⟨e0, e1⟩ := hv
  subst e0
  subst e1
  rw [hQ]
  exact r_lret (pc := 8) fx hh (dOk_at dX7_failedLong 4 rfl)
set_option maxRecDepth 100000 in
set_option maxHeartbeats 4000000 in
theorem wk_X7_cells (l : Launch) (G : GT) (m0 : Nat) (a4 : Nat) (a6 : Nat) (a7 : Nat) (a15 : Nat) (a16 : Nat) (a17 : Nat) (a21 : Nat) (a22 : Nat) (a24 : Nat) (a25 : Nat) (a26 : Nat) (a27 : Nat) (a28 : Nat) (a29 : Nat) (a30 : Nat) (f0 : Int32) (f1 : Int32) (f2 : Int32) (f3 : Int32) (f5 : Int32) (f8 : Int32) (f9 : Int32) (f10 : Int32) (f11 : Int32) (f12 : Int32) (f13 : Int32) (f14 : Int32) (f18 : Int32) (f19 : Int32) (f20 : Int32) (f23 : Int32) (f31 : Int32) (g4 : Nat → Int32) (g6 : Nat → Int32) (g7 : Nat → Int32) (g15 : Nat → Int32) (g16 : Nat → Int32) (g17 : Nat → Int32) (g21 : Nat → Int32) (g22 : Nat → Int32) (g24 : Nat → Int32) (g25 : Nat → Int32) (g26 : Nat → Int32) (g27 : Nat → Int32) (g28 : Nat → Int32) (g29 : Nat → Int32) (g30 : Nat → Int32) (R : Int32)
    (hv : (f1 * f2) = R) :
    MF l G yX7_cells cX7_cells 1 (some .int) rm_X7_cells [.ref m0] [(m0, .inr (7, [.int f0, .int f1, .int f2, .int f3, .ref a4, .int f5, .ref a6, .ref a7, .int f8, .int f9, .int f10, .int f11, .int f12, .int f13, .int f14, .ref a15, .ref a16, .ref a17, .int f18, .int f19, .int f20, .ref a21, .ref a22, .int f23, .ref a24, .ref a25, .ref a26, .ref a27, .ref a28, .ref a29, .ref a30, .int f31])), (a4, .inl (G.2.1, 20, .inl g4)), (a6, .inl (G.2.1, 4, .inl g6)), (a7, .inl (G.2.1, 4, .inl g7)), (a15, .inl (G.2.1, 20, .inl g15)), (a16, .inl (G.2.1, 4, .inl g16)), (a17, .inl (G.2.1, 4, .inl g17)), (a21, .inl (G.2.1, 20, .inl g21)), (a22, .inl (G.2.1, 40, .inl g22)), (a24, .inl (G.2.1, 8, .inl g24)), (a25, .inl (G.2.1, 8, .inl g25)), (a26, .inl (G.2.2.1, 8, .inl g26)), (a27, .inl (G.2.1, 4, .inl g27)), (a28, .inl (G.2.1, 4, .inl g28)), (a29, .inl (G.2.1, 240, .inl g29)), (a30, .inl (G.2.1, 60, .inl g30))] (some (.int R)) [(m0, .inr (7, [.int f0, .int f1, .int f2, .int f3, .ref a4, .int f5, .ref a6, .ref a7, .int f8, .int f9, .int f10, .int f11, .int f12, .int f13, .int f14, .ref a15, .ref a16, .ref a17, .int f18, .int f19, .int f20, .ref a21, .ref a22, .int f23, .ref a24, .ref a25, .ref a26, .ref a27, .ref a28, .ref a29, .ref a30, .int f31])), (a4, .inl (G.2.1, 20, .inl g4)), (a6, .inl (G.2.1, 4, .inl g6)), (a7, .inl (G.2.1, 4, .inl g7)), (a15, .inl (G.2.1, 20, .inl g15)), (a16, .inl (G.2.1, 4, .inl g16)), (a17, .inl (G.2.1, 4, .inl g17)), (a21, .inl (G.2.1, 20, .inl g21)), (a22, .inl (G.2.1, 40, .inl g22)), (a24, .inl (G.2.1, 8, .inl g24)), (a25, .inl (G.2.1, 8, .inl g25)), (a26, .inl (G.2.2.1, 8, .inl g26)), (a27, .inl (G.2.1, 4, .inl g27)), (a28, .inl (G.2.1, 4, .inl g28)), (a29, .inl (G.2.1, 240, .inl g29)), (a30, .inl (G.2.1, 60, .inl g30))] := by
  refine MF.of (by decide +kernel) (Nat.le_of_ble_eq_true rfl) ?_
  intro p e s m args below meth c A ls fx hh hl _
  have hx := fx.hx
  have hb := fx.hb
  have hl : lv_has ls 1 [(0, .ref m0)] := hl
  obtain ⟨Q, hQ⟩ : ∃ Q, Q = ZZ G A (some (.int R)) [(m0, .inr (7, [.int f0, .int f1, .int f2, .int f3, .ref a4, .int f5, .ref a6, .ref a7, .int f8, .int f9, .int f10, .int f11, .int f12, .int f13, .int f14, .ref a15, .ref a16, .ref a17, .int f18, .int f19, .int f20, .ref a21, .ref a22, .int f23, .ref a24, .ref a25, .ref a26, .ref a27, .ref a28, .ref a29, .ref a30, .int f31])), (a4, .inl (G.2.1, 20, .inl g4)), (a6, .inl (G.2.1, 4, .inl g6)), (a7, .inl (G.2.1, 4, .inl g7)), (a15, .inl (G.2.1, 20, .inl g15)), (a16, .inl (G.2.1, 4, .inl g16)), (a17, .inl (G.2.1, 4, .inl g17)), (a21, .inl (G.2.1, 20, .inl g21)), (a22, .inl (G.2.1, 40, .inl g22)), (a24, .inl (G.2.1, 8, .inl g24)), (a25, .inl (G.2.1, 8, .inl g25)), (a26, .inl (G.2.2.1, 8, .inl g26)), (a27, .inl (G.2.1, 4, .inl g27)), (a28, .inl (G.2.1, 4, .inl g28)), (a29, .inl (G.2.1, 240, .inl g29)), (a30, .inl (G.2.1, 60, .inl g30))] below args s := ⟨_, rfl⟩
  rw [← hQ]
  refine lv_aload_n (pc := 0) hx hb (dOk_at dX7_cells 0 rfl) rfl (lv_at hl 0 rfl) ?_
  refine r_get (pc := 1) (ci := 7) fx hh inT7 rfl 1 (by decide) tFX7_66 rfl 0 rfl rfl (dOk_at dX7_cells 1 rfl) ?_
  refine lv_aload_n (pc := 4) hx hb (dOk_at dX7_cells 2 rfl) rfl (lv_at hl 0 rfl) ?_
  refine r_get (pc := 5) (ci := 7) fx hh inT7 rfl 2 (by decide) tFX7_69 rfl 0 rfl rfl (dOk_at dX7_cells 3 rfl) ?_
  refine lv_imul (pc := 8) hx hb (dOk_at dX7_cells 4 rfl) ?_
  have e0 := hv
  subst e0
  rw [hQ]
  exact r_iret (pc := 9) fx hh (dOk_at dX7_cells 5 rfl)
set_option maxRecDepth 100000 in
set_option maxHeartbeats 4000000 in
theorem wk_X7_noPlace (l : Launch) (G : GT) (m0 : Nat) (a4 : Nat) (a6 : Nat) (a7 : Nat) (a15 : Nat) (a16 : Nat) (a17 : Nat) (a21 : Nat) (a22 : Nat) (a24 : Nat) (a25 : Nat) (a26 : Nat) (a27 : Nat) (a28 : Nat) (a29 : Nat) (a30 : Nat) (f0 : Int32) (f1 : Int32) (f2 : Int32) (f3 : Int32) (f5 : Int32) (f8 : Int32) (f9 : Int32) (f10 : Int32) (f11 : Int32) (f12 : Int32) (f13 : Int32) (f14 : Int32) (f18 : Int32) (f19 : Int32) (f20 : Int32) (f23 : Int32) (f31 : Int32) (g4 : Nat → Int32) (g6 : Nat → Int32) (g7 : Nat → Int32) (g15 : Nat → Int32) (g16 : Nat → Int32) (g17 : Nat → Int32) (g21 : Nat → Int32) (g22 : Nat → Int32) (g24 : Nat → Int32) (g25 : Nat → Int32) (g26 : Nat → Int32) (g27 : Nat → Int32) (g28 : Nat → Int32) (g29 : Nat → Int32) (g30 : Nat → Int32) (ce : Int32) (R : Int32) (h_X7_cells : K_X7_cells l G) (h_X7_in : K_X7_in l G)
    (hv : (¬ (q_in ce.toInt64 0 (((f1 * f2).toInt64) - 1)) = 0 → (0 : Int32) = R) ∧ ((q_in ce.toInt64 0 (((f1 * f2).toInt64) - 1)) = 0 → (1 : Int32) = R)) :
    MF l G yX7_noPlace cX7_noPlace 2 (some .boolean) rm_X7_noPlace [.ref m0, .int ce] [(m0, .inr (7, [.int f0, .int f1, .int f2, .int f3, .ref a4, .int f5, .ref a6, .ref a7, .int f8, .int f9, .int f10, .int f11, .int f12, .int f13, .int f14, .ref a15, .ref a16, .ref a17, .int f18, .int f19, .int f20, .ref a21, .ref a22, .int f23, .ref a24, .ref a25, .ref a26, .ref a27, .ref a28, .ref a29, .ref a30, .int f31])), (a4, .inl (G.2.1, 20, .inl g4)), (a6, .inl (G.2.1, 4, .inl g6)), (a7, .inl (G.2.1, 4, .inl g7)), (a15, .inl (G.2.1, 20, .inl g15)), (a16, .inl (G.2.1, 4, .inl g16)), (a17, .inl (G.2.1, 4, .inl g17)), (a21, .inl (G.2.1, 20, .inl g21)), (a22, .inl (G.2.1, 40, .inl g22)), (a24, .inl (G.2.1, 8, .inl g24)), (a25, .inl (G.2.1, 8, .inl g25)), (a26, .inl (G.2.2.1, 8, .inl g26)), (a27, .inl (G.2.1, 4, .inl g27)), (a28, .inl (G.2.1, 4, .inl g28)), (a29, .inl (G.2.1, 240, .inl g29)), (a30, .inl (G.2.1, 60, .inl g30))] (some (.int R)) [(m0, .inr (7, [.int f0, .int f1, .int f2, .int f3, .ref a4, .int f5, .ref a6, .ref a7, .int f8, .int f9, .int f10, .int f11, .int f12, .int f13, .int f14, .ref a15, .ref a16, .ref a17, .int f18, .int f19, .int f20, .ref a21, .ref a22, .int f23, .ref a24, .ref a25, .ref a26, .ref a27, .ref a28, .ref a29, .ref a30, .int f31])), (a4, .inl (G.2.1, 20, .inl g4)), (a6, .inl (G.2.1, 4, .inl g6)), (a7, .inl (G.2.1, 4, .inl g7)), (a15, .inl (G.2.1, 20, .inl g15)), (a16, .inl (G.2.1, 4, .inl g16)), (a17, .inl (G.2.1, 4, .inl g17)), (a21, .inl (G.2.1, 20, .inl g21)), (a22, .inl (G.2.1, 40, .inl g22)), (a24, .inl (G.2.1, 8, .inl g24)), (a25, .inl (G.2.1, 8, .inl g25)), (a26, .inl (G.2.2.1, 8, .inl g26)), (a27, .inl (G.2.1, 4, .inl g27)), (a28, .inl (G.2.1, 4, .inl g28)), (a29, .inl (G.2.1, 240, .inl g29)), (a30, .inl (G.2.1, 60, .inl g30))] := by
  refine MF.of (by decide +kernel) (Nat.le_of_ble_eq_true rfl) ?_
  intro p e s m args below meth c A ls fx hh hl _
  have hx := fx.hx
  have hb := fx.hb
  have hl : lv_has ls 2 [(0, .ref m0), (1, .int ce)] := hl
  obtain ⟨Q, hQ⟩ : ∃ Q, Q = ZZ G A (some (.int R)) [(m0, .inr (7, [.int f0, .int f1, .int f2, .int f3, .ref a4, .int f5, .ref a6, .ref a7, .int f8, .int f9, .int f10, .int f11, .int f12, .int f13, .int f14, .ref a15, .ref a16, .ref a17, .int f18, .int f19, .int f20, .ref a21, .ref a22, .int f23, .ref a24, .ref a25, .ref a26, .ref a27, .ref a28, .ref a29, .ref a30, .int f31])), (a4, .inl (G.2.1, 20, .inl g4)), (a6, .inl (G.2.1, 4, .inl g6)), (a7, .inl (G.2.1, 4, .inl g7)), (a15, .inl (G.2.1, 20, .inl g15)), (a16, .inl (G.2.1, 4, .inl g16)), (a17, .inl (G.2.1, 4, .inl g17)), (a21, .inl (G.2.1, 20, .inl g21)), (a22, .inl (G.2.1, 40, .inl g22)), (a24, .inl (G.2.1, 8, .inl g24)), (a25, .inl (G.2.1, 8, .inl g25)), (a26, .inl (G.2.2.1, 8, .inl g26)), (a27, .inl (G.2.1, 4, .inl g27)), (a28, .inl (G.2.1, 4, .inl g28)), (a29, .inl (G.2.1, 240, .inl g29)), (a30, .inl (G.2.1, 60, .inl g30))] below args s := ⟨_, rfl⟩
  rw [← hQ]
  refine lv_iload_n (pc := 0) hx hb (dOk_at dX7_noPlace 0 rfl) rfl (lv_at hl 1 rfl) ?_
  refine lv_i2l (pc := 1) (v := ce.toInt64) hx hb (dOk_at dX7_noPlace 1 rfl) rfl ?_
  refine lv_lconst (pc := 2) (v := 0) hx hb (dOk_at dX7_noPlace 2 rfl) (by decide) ?_
  refine lv_aload_n (pc := 3) hx hb (dOk_at dX7_noPlace 3 rfl) rfl (lv_at hl 0 rfl) ?_
  refine cl_V (pc := 4) (w' := [(m0, .inr (7, [.int f0, .int f1, .int f2, .int f3, .ref a4, .int f5, .ref a6, .ref a7, .int f8, .int f9, .int f10, .int f11, .int f12, .int f13, .int f14, .ref a15, .ref a16, .ref a17, .int f18, .int f19, .int f20, .ref a21, .ref a22, .int f23, .ref a24, .ref a25, .ref a26, .ref a27, .ref a28, .ref a29, .ref a30, .int f31])), (a4, .inl (G.2.1, 20, .inl g4)), (a6, .inl (G.2.1, 4, .inl g6)), (a7, .inl (G.2.1, 4, .inl g7)), (a15, .inl (G.2.1, 20, .inl g15)), (a16, .inl (G.2.1, 4, .inl g16)), (a17, .inl (G.2.1, 4, .inl g17)), (a21, .inl (G.2.1, 20, .inl g21)), (a22, .inl (G.2.1, 40, .inl g22)), (a24, .inl (G.2.1, 8, .inl g24)), (a25, .inl (G.2.1, 8, .inl g25)), (a26, .inl (G.2.2.1, 8, .inl g26)), (a27, .inl (G.2.1, 4, .inl g27)), (a28, .inl (G.2.1, 4, .inl g28)), (a29, .inl (G.2.1, 240, .inl g29)), (a30, .inl (G.2.1, 60, .inl g30))]) (wr := []) (rest := [.long 0, .long ce.toInt64]) fx hh hl.1 (h_X7_cells m0 a4 a6 a7 a15 a16 a17 a21 a22 a24 a25 a26 a27 a28 a29 a30 f0 f1 f2 f3 f5 f8 f9 f10 f11 f12 f13 f14 f18 f19 f20 f23 f31 g4 g6 g7 g15 g16 g17 g21 g22 g24 g25 g26 g27 g28 g29 g30) yV_X7_cells tMX7_72 ⟨rfl, rfl, Nat.le_of_ble_eq_true rfl, Nat.le_of_ble_eq_true rfl⟩ 0 7 rfl rfl rfl [0, 1, 2, 3, 4, 5, 6, 7, 8, 9, 10, 11, 12, 13, 14, 15] [] [0, 1, 2, 3, 4, 5, 6, 7, 8, 9, 10, 11, 12, 13, 14, 15] rfl rfl rfl (by decide) (by decide) rfl rfl (Nat.le_of_ble_eq_true rfl) ⟨Nat.le_of_ble_eq_true rfl, Nat.le_of_ble_eq_true rfl⟩ (dOk_at dX7_noPlace 4 rfl) (fun H locs hh => ?_)
  refine lv_i2l (pc := 7) (v := (f1 * f2).toInt64) hx hb (dOk_at dX7_noPlace 5 rfl) rfl ?_
  refine lv_lconst (pc := 8) (v := 1) hx hb (dOk_at dX7_noPlace 6 rfl) (by decide) ?_
  refine lv_lsub (pc := 9) hx hb (dOk_at dX7_noPlace 7 rfl) ?_
  refine cl_S (pc := 10) (w' := [(m0, .inr (7, [.int f0, .int f1, .int f2, .int f3, .ref a4, .int f5, .ref a6, .ref a7, .int f8, .int f9, .int f10, .int f11, .int f12, .int f13, .int f14, .ref a15, .ref a16, .ref a17, .int f18, .int f19, .int f20, .ref a21, .ref a22, .int f23, .ref a24, .ref a25, .ref a26, .ref a27, .ref a28, .ref a29, .ref a30, .int f31])), (a4, .inl (G.2.1, 20, .inl g4)), (a6, .inl (G.2.1, 4, .inl g6)), (a7, .inl (G.2.1, 4, .inl g7)), (a15, .inl (G.2.1, 20, .inl g15)), (a16, .inl (G.2.1, 4, .inl g16)), (a17, .inl (G.2.1, 4, .inl g17)), (a21, .inl (G.2.1, 20, .inl g21)), (a22, .inl (G.2.1, 40, .inl g22)), (a24, .inl (G.2.1, 8, .inl g24)), (a25, .inl (G.2.1, 8, .inl g25)), (a26, .inl (G.2.2.1, 8, .inl g26)), (a27, .inl (G.2.1, 4, .inl g27)), (a28, .inl (G.2.1, 4, .inl g28)), (a29, .inl (G.2.1, 240, .inl g29)), (a30, .inl (G.2.1, 60, .inl g30))]) (wr := [(m0, .inr (7, [.int f0, .int f1, .int f2, .int f3, .ref a4, .int f5, .ref a6, .ref a7, .int f8, .int f9, .int f10, .int f11, .int f12, .int f13, .int f14, .ref a15, .ref a16, .ref a17, .int f18, .int f19, .int f20, .ref a21, .ref a22, .int f23, .ref a24, .ref a25, .ref a26, .ref a27, .ref a28, .ref a29, .ref a30, .int f31])), (a4, .inl (G.2.1, 20, .inl g4)), (a6, .inl (G.2.1, 4, .inl g6)), (a7, .inl (G.2.1, 4, .inl g7)), (a15, .inl (G.2.1, 20, .inl g15)), (a16, .inl (G.2.1, 4, .inl g16)), (a17, .inl (G.2.1, 4, .inl g17)), (a21, .inl (G.2.1, 20, .inl g21)), (a22, .inl (G.2.1, 40, .inl g22)), (a24, .inl (G.2.1, 8, .inl g24)), (a25, .inl (G.2.1, 8, .inl g25)), (a26, .inl (G.2.2.1, 8, .inl g26)), (a27, .inl (G.2.1, 4, .inl g27)), (a28, .inl (G.2.1, 4, .inl g28)), (a29, .inl (G.2.1, 240, .inl g29)), (a30, .inl (G.2.1, 60, .inl g30))]) (rest := []) fx hh hl.1 (h_X7_in ce.toInt64 0 (((f1 * f2).toInt64) - 1)) yS_X7_in tMX7_76 ⟨rfl, rfl, Nat.le_of_ble_eq_true rfl, Nat.le_of_ble_eq_true rfl⟩ [] [0, 1, 2, 3, 4, 5, 6, 7, 8, 9, 10, 11, 12, 13, 14, 15] [0, 1, 2, 3, 4, 5, 6, 7, 8, 9, 10, 11, 12, 13, 14, 15] rfl rfl rfl (by decide) (by decide) rfl rfl (Nat.le_of_ble_eq_true rfl) ⟨Nat.le_of_ble_eq_true rfl, Nat.le_of_ble_eq_true rfl⟩ (dOk_at dX7_noPlace 8 rfl) (fun H locs hh => ?_)
  refine lv_if_ne (pc := 13) (tgt := 20) hx hb (dOk_at dX7_noPlace 9 rfl) (by decide) (fun c13 => ?_) (fun c13 => ?_)
  · have hv := hv.1 c13
    refine lv_iconst (pc := 20) (v := 0) hx hb (dOk_at dX7_noPlace 12 rfl) (by decide) ?_
    have e0 := hv
    subst e0
    rw [hQ]
    exact r_zret (pc := 21) fx hh rfl (dOk_at dX7_noPlace 13 rfl)
  · have hv := hv.2 c13
    refine lv_iconst (pc := 16) (v := 1) hx hb (dOk_at dX7_noPlace 10 rfl) (by decide) ?_
    refine lv_goto (pc := 17) (tgt := 21) hx hb (dOk_at dX7_noPlace 11 rfl) (by decide) ?_
    have e0 := hv
    subst e0
    rw [hQ]
    exact r_zret (pc := 21) fx hh rfl (dOk_at dX7_noPlace 13 rfl)
set_option maxRecDepth 100000 in
set_option maxHeartbeats 4000000 in
theorem wk_X7_noSkater (l : Launch) (G : GT) (m0 : Nat) (a4 : Nat) (a6 : Nat) (a7 : Nat) (a15 : Nat) (a16 : Nat) (a17 : Nat) (a21 : Nat) (a22 : Nat) (a24 : Nat) (a25 : Nat) (a26 : Nat) (a27 : Nat) (a28 : Nat) (a29 : Nat) (a30 : Nat) (f0 : Int32) (f1 : Int32) (f2 : Int32) (f3 : Int32) (f5 : Int32) (f8 : Int32) (f9 : Int32) (f10 : Int32) (f11 : Int32) (f12 : Int32) (f13 : Int32) (f14 : Int32) (f18 : Int32) (f19 : Int32) (f20 : Int32) (f23 : Int32) (f31 : Int32) (g4 : Nat → Int32) (g6 : Nat → Int32) (g7 : Nat → Int32) (g15 : Nat → Int32) (g16 : Nat → Int32) (g17 : Nat → Int32) (g21 : Nat → Int32) (g22 : Nat → Int32) (g24 : Nat → Int32) (g25 : Nat → Int32) (g26 : Nat → Int32) (g27 : Nat → Int32) (g28 : Nat → Int32) (g29 : Nat → Int32) (g30 : Nat → Int32) (a : Int32) (R : Int32) (h_X7_in : K_X7_in l G)
    (hv : (¬ (q_in a.toInt64 0 (f5.toInt64 - 1)) = 0 → (0 : Int32) = R) ∧ ((q_in a.toInt64 0 (f5.toInt64 - 1)) = 0 → (1 : Int32) = R)) :
    MF l G yX7_noSkater cX7_noSkater 2 (some .boolean) rm_X7_noSkater [.ref m0, .int a] [(m0, .inr (7, [.int f0, .int f1, .int f2, .int f3, .ref a4, .int f5, .ref a6, .ref a7, .int f8, .int f9, .int f10, .int f11, .int f12, .int f13, .int f14, .ref a15, .ref a16, .ref a17, .int f18, .int f19, .int f20, .ref a21, .ref a22, .int f23, .ref a24, .ref a25, .ref a26, .ref a27, .ref a28, .ref a29, .ref a30, .int f31])), (a4, .inl (G.2.1, 20, .inl g4)), (a6, .inl (G.2.1, 4, .inl g6)), (a7, .inl (G.2.1, 4, .inl g7)), (a15, .inl (G.2.1, 20, .inl g15)), (a16, .inl (G.2.1, 4, .inl g16)), (a17, .inl (G.2.1, 4, .inl g17)), (a21, .inl (G.2.1, 20, .inl g21)), (a22, .inl (G.2.1, 40, .inl g22)), (a24, .inl (G.2.1, 8, .inl g24)), (a25, .inl (G.2.1, 8, .inl g25)), (a26, .inl (G.2.2.1, 8, .inl g26)), (a27, .inl (G.2.1, 4, .inl g27)), (a28, .inl (G.2.1, 4, .inl g28)), (a29, .inl (G.2.1, 240, .inl g29)), (a30, .inl (G.2.1, 60, .inl g30))] (some (.int R)) [(m0, .inr (7, [.int f0, .int f1, .int f2, .int f3, .ref a4, .int f5, .ref a6, .ref a7, .int f8, .int f9, .int f10, .int f11, .int f12, .int f13, .int f14, .ref a15, .ref a16, .ref a17, .int f18, .int f19, .int f20, .ref a21, .ref a22, .int f23, .ref a24, .ref a25, .ref a26, .ref a27, .ref a28, .ref a29, .ref a30, .int f31])), (a4, .inl (G.2.1, 20, .inl g4)), (a6, .inl (G.2.1, 4, .inl g6)), (a7, .inl (G.2.1, 4, .inl g7)), (a15, .inl (G.2.1, 20, .inl g15)), (a16, .inl (G.2.1, 4, .inl g16)), (a17, .inl (G.2.1, 4, .inl g17)), (a21, .inl (G.2.1, 20, .inl g21)), (a22, .inl (G.2.1, 40, .inl g22)), (a24, .inl (G.2.1, 8, .inl g24)), (a25, .inl (G.2.1, 8, .inl g25)), (a26, .inl (G.2.2.1, 8, .inl g26)), (a27, .inl (G.2.1, 4, .inl g27)), (a28, .inl (G.2.1, 4, .inl g28)), (a29, .inl (G.2.1, 240, .inl g29)), (a30, .inl (G.2.1, 60, .inl g30))] := by
  refine MF.of (by decide +kernel) (Nat.le_of_ble_eq_true rfl) ?_
  intro p e s m args below meth c A ls fx hh hl _
  have hx := fx.hx
  have hb := fx.hb
  have hl : lv_has ls 2 [(0, .ref m0), (1, .int a)] := hl
  obtain ⟨Q, hQ⟩ : ∃ Q, Q = ZZ G A (some (.int R)) [(m0, .inr (7, [.int f0, .int f1, .int f2, .int f3, .ref a4, .int f5, .ref a6, .ref a7, .int f8, .int f9, .int f10, .int f11, .int f12, .int f13, .int f14, .ref a15, .ref a16, .ref a17, .int f18, .int f19, .int f20, .ref a21, .ref a22, .int f23, .ref a24, .ref a25, .ref a26, .ref a27, .ref a28, .ref a29, .ref a30, .int f31])), (a4, .inl (G.2.1, 20, .inl g4)), (a6, .inl (G.2.1, 4, .inl g6)), (a7, .inl (G.2.1, 4, .inl g7)), (a15, .inl (G.2.1, 20, .inl g15)), (a16, .inl (G.2.1, 4, .inl g16)), (a17, .inl (G.2.1, 4, .inl g17)), (a21, .inl (G.2.1, 20, .inl g21)), (a22, .inl (G.2.1, 40, .inl g22)), (a24, .inl (G.2.1, 8, .inl g24)), (a25, .inl (G.2.1, 8, .inl g25)), (a26, .inl (G.2.2.1, 8, .inl g26)), (a27, .inl (G.2.1, 4, .inl g27)), (a28, .inl (G.2.1, 4, .inl g28)), (a29, .inl (G.2.1, 240, .inl g29)), (a30, .inl (G.2.1, 60, .inl g30))] below args s := ⟨_, rfl⟩
  rw [← hQ]
  refine lv_iload_n (pc := 0) hx hb (dOk_at dX7_noSkater 0 rfl) rfl (lv_at hl 1 rfl) ?_
  refine lv_i2l (pc := 1) (v := a.toInt64) hx hb (dOk_at dX7_noSkater 1 rfl) rfl ?_
  refine lv_lconst (pc := 2) (v := 0) hx hb (dOk_at dX7_noSkater 2 rfl) (by decide) ?_
  refine lv_aload_n (pc := 3) hx hb (dOk_at dX7_noSkater 3 rfl) rfl (lv_at hl 0 rfl) ?_
  refine r_get (pc := 4) (ci := 7) fx hh inT7 rfl 5 (by decide) tFX7_80 rfl 0 rfl rfl (dOk_at dX7_noSkater 4 rfl) ?_
  refine lv_i2l (pc := 7) (v := f5.toInt64) hx hb (dOk_at dX7_noSkater 5 rfl) rfl ?_
  refine lv_lconst (pc := 8) (v := 1) hx hb (dOk_at dX7_noSkater 6 rfl) (by decide) ?_
  refine lv_lsub (pc := 9) hx hb (dOk_at dX7_noSkater 7 rfl) ?_
  refine cl_S (pc := 10) (w' := [(m0, .inr (7, [.int f0, .int f1, .int f2, .int f3, .ref a4, .int f5, .ref a6, .ref a7, .int f8, .int f9, .int f10, .int f11, .int f12, .int f13, .int f14, .ref a15, .ref a16, .ref a17, .int f18, .int f19, .int f20, .ref a21, .ref a22, .int f23, .ref a24, .ref a25, .ref a26, .ref a27, .ref a28, .ref a29, .ref a30, .int f31])), (a4, .inl (G.2.1, 20, .inl g4)), (a6, .inl (G.2.1, 4, .inl g6)), (a7, .inl (G.2.1, 4, .inl g7)), (a15, .inl (G.2.1, 20, .inl g15)), (a16, .inl (G.2.1, 4, .inl g16)), (a17, .inl (G.2.1, 4, .inl g17)), (a21, .inl (G.2.1, 20, .inl g21)), (a22, .inl (G.2.1, 40, .inl g22)), (a24, .inl (G.2.1, 8, .inl g24)), (a25, .inl (G.2.1, 8, .inl g25)), (a26, .inl (G.2.2.1, 8, .inl g26)), (a27, .inl (G.2.1, 4, .inl g27)), (a28, .inl (G.2.1, 4, .inl g28)), (a29, .inl (G.2.1, 240, .inl g29)), (a30, .inl (G.2.1, 60, .inl g30))]) (wr := [(m0, .inr (7, [.int f0, .int f1, .int f2, .int f3, .ref a4, .int f5, .ref a6, .ref a7, .int f8, .int f9, .int f10, .int f11, .int f12, .int f13, .int f14, .ref a15, .ref a16, .ref a17, .int f18, .int f19, .int f20, .ref a21, .ref a22, .int f23, .ref a24, .ref a25, .ref a26, .ref a27, .ref a28, .ref a29, .ref a30, .int f31])), (a4, .inl (G.2.1, 20, .inl g4)), (a6, .inl (G.2.1, 4, .inl g6)), (a7, .inl (G.2.1, 4, .inl g7)), (a15, .inl (G.2.1, 20, .inl g15)), (a16, .inl (G.2.1, 4, .inl g16)), (a17, .inl (G.2.1, 4, .inl g17)), (a21, .inl (G.2.1, 20, .inl g21)), (a22, .inl (G.2.1, 40, .inl g22)), (a24, .inl (G.2.1, 8, .inl g24)), (a25, .inl (G.2.1, 8, .inl g25)), (a26, .inl (G.2.2.1, 8, .inl g26)), (a27, .inl (G.2.1, 4, .inl g27)), (a28, .inl (G.2.1, 4, .inl g28)), (a29, .inl (G.2.1, 240, .inl g29)), (a30, .inl (G.2.1, 60, .inl g30))]) (rest := []) fx hh hl.1 (h_X7_in a.toInt64 0 (f5.toInt64 - 1)) yS_X7_in tMX7_76 ⟨rfl, rfl, Nat.le_of_ble_eq_true rfl, Nat.le_of_ble_eq_true rfl⟩ [] [0, 1, 2, 3, 4, 5, 6, 7, 8, 9, 10, 11, 12, 13, 14, 15] [0, 1, 2, 3, 4, 5, 6, 7, 8, 9, 10, 11, 12, 13, 14, 15] rfl rfl rfl (by decide) (by decide) rfl rfl (Nat.le_of_ble_eq_true rfl) ⟨Nat.le_of_ble_eq_true rfl, Nat.le_of_ble_eq_true rfl⟩ (dOk_at dX7_noSkater 8 rfl) (fun H locs hh => ?_)
  refine lv_if_ne (pc := 13) (tgt := 20) hx hb (dOk_at dX7_noSkater 9 rfl) (by decide) (fun c13 => ?_) (fun c13 => ?_)
  · have hv := hv.1 c13
    refine lv_iconst (pc := 20) (v := 0) hx hb (dOk_at dX7_noSkater 12 rfl) (by decide) ?_
    have e0 := hv
    subst e0
    rw [hQ]
    exact r_zret (pc := 21) fx hh rfl (dOk_at dX7_noSkater 13 rfl)
  · have hv := hv.2 c13
    refine lv_iconst (pc := 16) (v := 1) hx hb (dOk_at dX7_noSkater 10 rfl) (by decide) ?_
    refine lv_goto (pc := 17) (tgt := 21) hx hb (dOk_at dX7_noSkater 11 rfl) (by decide) ?_
    have e0 := hv
    subst e0
    rw [hQ]
    exact r_zret (pc := 21) fx hh rfl (dOk_at dX7_noSkater 13 rfl)
set_option maxRecDepth 100000 in
set_option maxHeartbeats 4000000 in
theorem wk_X7_noTwo (l : Launch) (G : GT) (m0 : Nat) (a4 : Nat) (a6 : Nat) (a7 : Nat) (a15 : Nat) (a16 : Nat) (a17 : Nat) (a21 : Nat) (a22 : Nat) (a24 : Nat) (a25 : Nat) (a26 : Nat) (a27 : Nat) (a28 : Nat) (a29 : Nat) (a30 : Nat) (f0 : Int32) (f1 : Int32) (f2 : Int32) (f3 : Int32) (f5 : Int32) (f8 : Int32) (f9 : Int32) (f10 : Int32) (f11 : Int32) (f12 : Int32) (f13 : Int32) (f14 : Int32) (f18 : Int32) (f19 : Int32) (f20 : Int32) (f23 : Int32) (f31 : Int32) (g4 : Nat → Int32) (g6 : Nat → Int32) (g7 : Nat → Int32) (g15 : Nat → Int32) (g16 : Nat → Int32) (g17 : Nat → Int32) (g21 : Nat → Int32) (g22 : Nat → Int32) (g24 : Nat → Int32) (g25 : Nat → Int32) (g26 : Nat → Int32) (g27 : Nat → Int32) (g28 : Nat → Int32) (g29 : Nat → Int32) (g30 : Nat → Int32) (a : Int32) (b : Int32) (R : Int32) (h_X7_noSkater : K_X7_noSkater l G)
    (hv : (¬ (q_noSk f5 a) = 0 → (1 : Int32) = R) ∧ ((q_noSk f5 a) = 0 → (¬ (q_noSk f5 b) = 0 → (1 : Int32) = R) ∧ ((q_noSk f5 b) = 0 → (¬ a = b → (0 : Int32) = R) ∧ (a = b → (1 : Int32) = R)))) :
    MF l G yX7_noTwo cX7_noTwo 3 (some .boolean) rm_X7_noTwo [.ref m0, .int a, .int b] [(m0, .inr (7, [.int f0, .int f1, .int f2, .int f3, .ref a4, .int f5, .ref a6, .ref a7, .int f8, .int f9, .int f10, .int f11, .int f12, .int f13, .int f14, .ref a15, .ref a16, .ref a17, .int f18, .int f19, .int f20, .ref a21, .ref a22, .int f23, .ref a24, .ref a25, .ref a26, .ref a27, .ref a28, .ref a29, .ref a30, .int f31])), (a4, .inl (G.2.1, 20, .inl g4)), (a6, .inl (G.2.1, 4, .inl g6)), (a7, .inl (G.2.1, 4, .inl g7)), (a15, .inl (G.2.1, 20, .inl g15)), (a16, .inl (G.2.1, 4, .inl g16)), (a17, .inl (G.2.1, 4, .inl g17)), (a21, .inl (G.2.1, 20, .inl g21)), (a22, .inl (G.2.1, 40, .inl g22)), (a24, .inl (G.2.1, 8, .inl g24)), (a25, .inl (G.2.1, 8, .inl g25)), (a26, .inl (G.2.2.1, 8, .inl g26)), (a27, .inl (G.2.1, 4, .inl g27)), (a28, .inl (G.2.1, 4, .inl g28)), (a29, .inl (G.2.1, 240, .inl g29)), (a30, .inl (G.2.1, 60, .inl g30))] (some (.int R)) [(m0, .inr (7, [.int f0, .int f1, .int f2, .int f3, .ref a4, .int f5, .ref a6, .ref a7, .int f8, .int f9, .int f10, .int f11, .int f12, .int f13, .int f14, .ref a15, .ref a16, .ref a17, .int f18, .int f19, .int f20, .ref a21, .ref a22, .int f23, .ref a24, .ref a25, .ref a26, .ref a27, .ref a28, .ref a29, .ref a30, .int f31])), (a4, .inl (G.2.1, 20, .inl g4)), (a6, .inl (G.2.1, 4, .inl g6)), (a7, .inl (G.2.1, 4, .inl g7)), (a15, .inl (G.2.1, 20, .inl g15)), (a16, .inl (G.2.1, 4, .inl g16)), (a17, .inl (G.2.1, 4, .inl g17)), (a21, .inl (G.2.1, 20, .inl g21)), (a22, .inl (G.2.1, 40, .inl g22)), (a24, .inl (G.2.1, 8, .inl g24)), (a25, .inl (G.2.1, 8, .inl g25)), (a26, .inl (G.2.2.1, 8, .inl g26)), (a27, .inl (G.2.1, 4, .inl g27)), (a28, .inl (G.2.1, 4, .inl g28)), (a29, .inl (G.2.1, 240, .inl g29)), (a30, .inl (G.2.1, 60, .inl g30))] := by
  refine MF.of (by decide +kernel) (Nat.le_of_ble_eq_true rfl) ?_
  intro p e s m args below meth c A ls fx hh hl _
  have hx := fx.hx
  have hb := fx.hb
  have hl : lv_has ls 3 [(0, .ref m0), (1, .int a), (2, .int b)] := hl
  obtain ⟨Q, hQ⟩ : ∃ Q, Q = ZZ G A (some (.int R)) [(m0, .inr (7, [.int f0, .int f1, .int f2, .int f3, .ref a4, .int f5, .ref a6, .ref a7, .int f8, .int f9, .int f10, .int f11, .int f12, .int f13, .int f14, .ref a15, .ref a16, .ref a17, .int f18, .int f19, .int f20, .ref a21, .ref a22, .int f23, .ref a24, .ref a25, .ref a26, .ref a27, .ref a28, .ref a29, .ref a30, .int f31])), (a4, .inl (G.2.1, 20, .inl g4)), (a6, .inl (G.2.1, 4, .inl g6)), (a7, .inl (G.2.1, 4, .inl g7)), (a15, .inl (G.2.1, 20, .inl g15)), (a16, .inl (G.2.1, 4, .inl g16)), (a17, .inl (G.2.1, 4, .inl g17)), (a21, .inl (G.2.1, 20, .inl g21)), (a22, .inl (G.2.1, 40, .inl g22)), (a24, .inl (G.2.1, 8, .inl g24)), (a25, .inl (G.2.1, 8, .inl g25)), (a26, .inl (G.2.2.1, 8, .inl g26)), (a27, .inl (G.2.1, 4, .inl g27)), (a28, .inl (G.2.1, 4, .inl g28)), (a29, .inl (G.2.1, 240, .inl g29)), (a30, .inl (G.2.1, 60, .inl g30))] below args s := ⟨_, rfl⟩
  rw [← hQ]
  refine lv_aload_n (pc := 0) hx hb (dOk_at dX7_noTwo 0 rfl) rfl (lv_at hl 0 rfl) ?_
  refine lv_iload_n (pc := 1) hx hb (dOk_at dX7_noTwo 1 rfl) rfl (lv_at hl 1 rfl) ?_
  refine cl_V (pc := 2) (w' := [(m0, .inr (7, [.int f0, .int f1, .int f2, .int f3, .ref a4, .int f5, .ref a6, .ref a7, .int f8, .int f9, .int f10, .int f11, .int f12, .int f13, .int f14, .ref a15, .ref a16, .ref a17, .int f18, .int f19, .int f20, .ref a21, .ref a22, .int f23, .ref a24, .ref a25, .ref a26, .ref a27, .ref a28, .ref a29, .ref a30, .int f31])), (a4, .inl (G.2.1, 20, .inl g4)), (a6, .inl (G.2.1, 4, .inl g6)), (a7, .inl (G.2.1, 4, .inl g7)), (a15, .inl (G.2.1, 20, .inl g15)), (a16, .inl (G.2.1, 4, .inl g16)), (a17, .inl (G.2.1, 4, .inl g17)), (a21, .inl (G.2.1, 20, .inl g21)), (a22, .inl (G.2.1, 40, .inl g22)), (a24, .inl (G.2.1, 8, .inl g24)), (a25, .inl (G.2.1, 8, .inl g25)), (a26, .inl (G.2.2.1, 8, .inl g26)), (a27, .inl (G.2.1, 4, .inl g27)), (a28, .inl (G.2.1, 4, .inl g28)), (a29, .inl (G.2.1, 240, .inl g29)), (a30, .inl (G.2.1, 60, .inl g30))]) (wr := []) (rest := []) fx hh hl.1 (h_X7_noSkater m0 a4 a6 a7 a15 a16 a17 a21 a22 a24 a25 a26 a27 a28 a29 a30 f0 f1 f2 f3 f5 f8 f9 f10 f11 f12 f13 f14 f18 f19 f20 f23 f31 g4 g6 g7 g15 g16 g17 g21 g22 g24 g25 g26 g27 g28 g29 g30 a) yV_X7_noSkater tMX7_83 ⟨rfl, rfl, Nat.le_of_ble_eq_true rfl, Nat.le_of_ble_eq_true rfl⟩ 0 7 rfl rfl rfl [0, 1, 2, 3, 4, 5, 6, 7, 8, 9, 10, 11, 12, 13, 14, 15] [] [0, 1, 2, 3, 4, 5, 6, 7, 8, 9, 10, 11, 12, 13, 14, 15] rfl rfl rfl (by decide) (by decide) rfl rfl (Nat.le_of_ble_eq_true rfl) ⟨Nat.le_of_ble_eq_true rfl, Nat.le_of_ble_eq_true rfl⟩ (dOk_at dX7_noTwo 2 rfl) (fun H locs hh => ?_)
  refine lv_if_ne (pc := 5) (tgt := 21) hx hb (dOk_at dX7_noTwo 3 rfl) (by decide) (fun c5 => ?_) (fun c5 => ?_)
  · have hv := hv.1 c5
    refine lv_iconst (pc := 21) (v := 1) hx hb (dOk_at dX7_noTwo 11 rfl) (by decide) ?_
    refine lv_goto (pc := 22) (tgt := 26) hx hb (dOk_at dX7_noTwo 12 rfl) (by decide) ?_
    have e0 := hv
    subst e0
    rw [hQ]
    exact r_zret (pc := 26) fx hh rfl (dOk_at dX7_noTwo 14 rfl)
  · have hv := hv.2 c5
    refine lv_aload_n (pc := 8) hx hb (dOk_at dX7_noTwo 4 rfl) rfl (lv_at hl 0 rfl) ?_
    refine lv_iload_n (pc := 9) hx hb (dOk_at dX7_noTwo 5 rfl) rfl (lv_at hl 2 rfl) ?_
    refine cl_V (pc := 10) (w' := [(m0, .inr (7, [.int f0, .int f1, .int f2, .int f3, .ref a4, .int f5, .ref a6, .ref a7, .int f8, .int f9, .int f10, .int f11, .int f12, .int f13, .int f14, .ref a15, .ref a16, .ref a17, .int f18, .int f19, .int f20, .ref a21, .ref a22, .int f23, .ref a24, .ref a25, .ref a26, .ref a27, .ref a28, .ref a29, .ref a30, .int f31])), (a4, .inl (G.2.1, 20, .inl g4)), (a6, .inl (G.2.1, 4, .inl g6)), (a7, .inl (G.2.1, 4, .inl g7)), (a15, .inl (G.2.1, 20, .inl g15)), (a16, .inl (G.2.1, 4, .inl g16)), (a17, .inl (G.2.1, 4, .inl g17)), (a21, .inl (G.2.1, 20, .inl g21)), (a22, .inl (G.2.1, 40, .inl g22)), (a24, .inl (G.2.1, 8, .inl g24)), (a25, .inl (G.2.1, 8, .inl g25)), (a26, .inl (G.2.2.1, 8, .inl g26)), (a27, .inl (G.2.1, 4, .inl g27)), (a28, .inl (G.2.1, 4, .inl g28)), (a29, .inl (G.2.1, 240, .inl g29)), (a30, .inl (G.2.1, 60, .inl g30))]) (wr := []) (rest := []) fx hh hl.1 (h_X7_noSkater m0 a4 a6 a7 a15 a16 a17 a21 a22 a24 a25 a26 a27 a28 a29 a30 f0 f1 f2 f3 f5 f8 f9 f10 f11 f12 f13 f14 f18 f19 f20 f23 f31 g4 g6 g7 g15 g16 g17 g21 g22 g24 g25 g26 g27 g28 g29 g30 b) yV_X7_noSkater tMX7_83 ⟨rfl, rfl, Nat.le_of_ble_eq_true rfl, Nat.le_of_ble_eq_true rfl⟩ 0 7 rfl rfl rfl [0, 1, 2, 3, 4, 5, 6, 7, 8, 9, 10, 11, 12, 13, 14, 15] [] [0, 1, 2, 3, 4, 5, 6, 7, 8, 9, 10, 11, 12, 13, 14, 15] rfl rfl rfl (by decide) (by decide) rfl rfl (Nat.le_of_ble_eq_true rfl) ⟨Nat.le_of_ble_eq_true rfl, Nat.le_of_ble_eq_true rfl⟩ (dOk_at dX7_noTwo 6 rfl) (fun H locs hh => ?_)
    refine lv_if_ne (pc := 13) (tgt := 21) hx hb (dOk_at dX7_noTwo 7 rfl) (by decide) (fun c13 => ?_) (fun c13 => ?_)
    · have hv := hv.1 c13
      refine lv_iconst (pc := 21) (v := 1) hx hb (dOk_at dX7_noTwo 11 rfl) (by decide) ?_
      refine lv_goto (pc := 22) (tgt := 26) hx hb (dOk_at dX7_noTwo 12 rfl) (by decide) ?_
      have e0 := hv
      subst e0
      rw [hQ]
      exact r_zret (pc := 26) fx hh rfl (dOk_at dX7_noTwo 14 rfl)
    · have hv := hv.2 c13
      refine lv_iload_n (pc := 16) hx hb (dOk_at dX7_noTwo 8 rfl) rfl (lv_at hl 1 rfl) ?_
      refine lv_iload_n (pc := 17) hx hb (dOk_at dX7_noTwo 9 rfl) rfl (lv_at hl 2 rfl) ?_
      refine lv_icmp_ne (pc := 18) (tgt := 25) hx hb (dOk_at dX7_noTwo 10 rfl) (by decide) (fun c18 => ?_) (fun c18 => ?_)
      · have hv := hv.1 c18
        refine lv_iconst (pc := 25) (v := 0) hx hb (dOk_at dX7_noTwo 13 rfl) (by decide) ?_
        have e0 := hv
        subst e0
        rw [hQ]
        exact r_zret (pc := 26) fx hh rfl (dOk_at dX7_noTwo 14 rfl)
      · have hv := hv.2 c18
        refine lv_iconst (pc := 21) (v := 1) hx hb (dOk_at dX7_noTwo 11 rfl) (by decide) ?_
        refine lv_goto (pc := 22) (tgt := 26) hx hb (dOk_at dX7_noTwo 12 rfl) (by decide) ?_
        have e0 := hv
        subst e0
        rw [hQ]
        exact r_zret (pc := 26) fx hh rfl (dOk_at dX7_noTwo 14 rfl)
set_option maxRecDepth 100000 in
set_option maxHeartbeats 4000000 in
theorem wk_X7_codeAt (l : Launch) (G : GT) (m0 : Nat) (a4 : Nat) (a6 : Nat) (a7 : Nat) (a15 : Nat) (a16 : Nat) (a17 : Nat) (a21 : Nat) (a22 : Nat) (a24 : Nat) (a25 : Nat) (a26 : Nat) (a27 : Nat) (a28 : Nat) (a29 : Nat) (a30 : Nat) (f0 : Int32) (f1 : Int32) (f2 : Int32) (f3 : Int32) (f5 : Int32) (f8 : Int32) (f9 : Int32) (f10 : Int32) (f11 : Int32) (f12 : Int32) (f13 : Int32) (f14 : Int32) (f18 : Int32) (f19 : Int32) (f20 : Int32) (f23 : Int32) (f31 : Int32) (g4 : Nat → Int32) (g6 : Nat → Int32) (g7 : Nat → Int32) (g15 : Nat → Int32) (g16 : Nat → Int32) (g17 : Nat → Int32) (g21 : Nat → Int32) (g22 : Nat → Int32) (g24 : Nat → Int32) (g25 : Nat → Int32) (g26 : Nat → Int32) (g27 : Nat → Int32) (g28 : Nat → Int32) (g29 : Nat → Int32) (g30 : Nat → Int32) (fro : Int32) (n : Int32) (R : Int32)
    (hv : (n ≤ f10 → (-9 : Int32) = R) ∧ (¬ n ≤ f10 → vp_in (fro + f10) 240 ∧ (g29 (fro + f10).toNatClampNeg) = R)) :
    MF l G yX7_codeAt cX7_codeAt 3 (some .int) rm_X7_codeAt [.ref m0, .int fro, .int n] [(m0, .inr (7, [.int f0, .int f1, .int f2, .int f3, .ref a4, .int f5, .ref a6, .ref a7, .int f8, .int f9, .int f10, .int f11, .int f12, .int f13, .int f14, .ref a15, .ref a16, .ref a17, .int f18, .int f19, .int f20, .ref a21, .ref a22, .int f23, .ref a24, .ref a25, .ref a26, .ref a27, .ref a28, .ref a29, .ref a30, .int f31])), (a4, .inl (G.2.1, 20, .inl g4)), (a6, .inl (G.2.1, 4, .inl g6)), (a7, .inl (G.2.1, 4, .inl g7)), (a15, .inl (G.2.1, 20, .inl g15)), (a16, .inl (G.2.1, 4, .inl g16)), (a17, .inl (G.2.1, 4, .inl g17)), (a21, .inl (G.2.1, 20, .inl g21)), (a22, .inl (G.2.1, 40, .inl g22)), (a24, .inl (G.2.1, 8, .inl g24)), (a25, .inl (G.2.1, 8, .inl g25)), (a26, .inl (G.2.2.1, 8, .inl g26)), (a27, .inl (G.2.1, 4, .inl g27)), (a28, .inl (G.2.1, 4, .inl g28)), (a29, .inl (G.2.1, 240, .inl g29)), (a30, .inl (G.2.1, 60, .inl g30))] (some (.int R)) [(m0, .inr (7, [.int f0, .int f1, .int f2, .int f3, .ref a4, .int f5, .ref a6, .ref a7, .int f8, .int f9, .int f10, .int f11, .int f12, .int f13, .int f14, .ref a15, .ref a16, .ref a17, .int f18, .int f19, .int f20, .ref a21, .ref a22, .int f23, .ref a24, .ref a25, .ref a26, .ref a27, .ref a28, .ref a29, .ref a30, .int f31])), (a4, .inl (G.2.1, 20, .inl g4)), (a6, .inl (G.2.1, 4, .inl g6)), (a7, .inl (G.2.1, 4, .inl g7)), (a15, .inl (G.2.1, 20, .inl g15)), (a16, .inl (G.2.1, 4, .inl g16)), (a17, .inl (G.2.1, 4, .inl g17)), (a21, .inl (G.2.1, 20, .inl g21)), (a22, .inl (G.2.1, 40, .inl g22)), (a24, .inl (G.2.1, 8, .inl g24)), (a25, .inl (G.2.1, 8, .inl g25)), (a26, .inl (G.2.2.1, 8, .inl g26)), (a27, .inl (G.2.1, 4, .inl g27)), (a28, .inl (G.2.1, 4, .inl g28)), (a29, .inl (G.2.1, 240, .inl g29)), (a30, .inl (G.2.1, 60, .inl g30))] := by
  refine MF.of (by decide +kernel) (Nat.le_of_ble_eq_true rfl) ?_
  intro p e s m args below meth c A ls fx hh hl _
  have hx := fx.hx
  have hb := fx.hb
  have hl : lv_has ls 3 [(0, .ref m0), (1, .int fro), (2, .int n)] := hl
  obtain ⟨Q, hQ⟩ : ∃ Q, Q = ZZ G A (some (.int R)) [(m0, .inr (7, [.int f0, .int f1, .int f2, .int f3, .ref a4, .int f5, .ref a6, .ref a7, .int f8, .int f9, .int f10, .int f11, .int f12, .int f13, .int f14, .ref a15, .ref a16, .ref a17, .int f18, .int f19, .int f20, .ref a21, .ref a22, .int f23, .ref a24, .ref a25, .ref a26, .ref a27, .ref a28, .ref a29, .ref a30, .int f31])), (a4, .inl (G.2.1, 20, .inl g4)), (a6, .inl (G.2.1, 4, .inl g6)), (a7, .inl (G.2.1, 4, .inl g7)), (a15, .inl (G.2.1, 20, .inl g15)), (a16, .inl (G.2.1, 4, .inl g16)), (a17, .inl (G.2.1, 4, .inl g17)), (a21, .inl (G.2.1, 20, .inl g21)), (a22, .inl (G.2.1, 40, .inl g22)), (a24, .inl (G.2.1, 8, .inl g24)), (a25, .inl (G.2.1, 8, .inl g25)), (a26, .inl (G.2.2.1, 8, .inl g26)), (a27, .inl (G.2.1, 4, .inl g27)), (a28, .inl (G.2.1, 4, .inl g28)), (a29, .inl (G.2.1, 240, .inl g29)), (a30, .inl (G.2.1, 60, .inl g30))] below args s := ⟨_, rfl⟩
  rw [← hQ]
  refine lv_aload_n (pc := 0) hx hb (dOk_at dX7_codeAt 0 rfl) rfl (lv_at hl 0 rfl) ?_
  refine r_get (pc := 1) (ci := 7) fx hh inT7 rfl 10 (by decide) tFX7_87 rfl 0 rfl rfl (dOk_at dX7_codeAt 1 rfl) ?_
  refine lv_iload_n (pc := 4) hx hb (dOk_at dX7_codeAt 2 rfl) rfl (lv_at hl 2 rfl) ?_
  refine lv_icmp_ge (pc := 5) (tgt := 22) hx hb (dOk_at dX7_codeAt 3 rfl) (by decide) (fun c5 => ?_) (fun c5 => ?_)
  · have hv := hv.1 c5
    refine lv_bipush (pc := 22) (v := (-9)) hx hb (dOk_at dX7_codeAt 12 rfl) (by decide) ?_
    have e0 := hv
    subst e0
    rw [hQ]
    exact r_iret (pc := 24) fx hh (dOk_at dX7_codeAt 13 rfl)
  · have hv := hv.2 c5
    refine lv_aload_n (pc := 8) hx hb (dOk_at dX7_codeAt 4 rfl) rfl (lv_at hl 0 rfl) ?_
    refine r_get (pc := 9) (ci := 7) fx hh inT7 rfl 29 (by decide) tFX7_50 rfl 0 rfl rfl (dOk_at dX7_codeAt 5 rfl) ?_
    refine lv_iload_n (pc := 12) hx hb (dOk_at dX7_codeAt 6 rfl) rfl (lv_at hl 1 rfl) ?_
    refine lv_aload_n (pc := 13) hx hb (dOk_at dX7_codeAt 7 rfl) rfl (lv_at hl 0 rfl) ?_
    refine r_get (pc := 14) (ci := 7) fx hh inT7 rfl 10 (by decide) tFX7_87 rfl 0 rfl rfl (dOk_at dX7_codeAt 8 rfl) ?_
    refine lv_iadd (pc := 17) hx hb (dOk_at dX7_codeAt 9 rfl) ?_
    refine r_iald (pc := 18) fx hh 14 rfl hv.1 (dOk_at dX7_codeAt 10 rfl) ?_
    have hv := hv.2
    refine lv_goto (pc := 19) (tgt := 24) hx hb (dOk_at dX7_codeAt 11 rfl) (by decide) ?_
    have e0 := hv
    subst e0
    rw [hQ]
    exact r_iret (pc := 24) fx hh (dOk_at dX7_codeAt 13 rfl)
set_option maxRecDepth 100000 in
set_option maxHeartbeats 4000000 in
theorem wk_X7_figure (l : Launch) (G : GT) (m0 : Nat) (a4 : Nat) (a6 : Nat) (a7 : Nat) (a15 : Nat) (a16 : Nat) (a17 : Nat) (a21 : Nat) (a22 : Nat) (a24 : Nat) (a25 : Nat) (a26 : Nat) (a27 : Nat) (a28 : Nat) (a29 : Nat) (a30 : Nat) (f0 : Int32) (f1 : Int32) (f2 : Int32) (f3 : Int32) (f5 : Int32) (f8 : Int32) (f9 : Int32) (f10 : Int32) (f11 : Int32) (f12 : Int32) (f13 : Int32) (f14 : Int32) (f18 : Int32) (f19 : Int32) (f20 : Int32) (f23 : Int32) (f31 : Int32) (g4 : Nat → Int32) (g6 : Nat → Int32) (g7 : Nat → Int32) (g15 : Nat → Int32) (g16 : Nat → Int32) (g17 : Nat → Int32) (g21 : Nat → Int32) (g22 : Nat → Int32) (g24 : Nat → Int32) (g25 : Nat → Int32) (g26 : Nat → Int32) (g27 : Nat → Int32) (g28 : Nat → Int32) (g29 : Nat → Int32) (g30 : Nat → Int32) (fro : Int32) (n : Int32) (lo : Int32) (mo : Int32) (R : Int32) (t0_10 : Int32) (h_X7_codeAt : K_X7_codeAt l G) (h_X7_in : K_X7_in l G)
    (hv : okC f10 fro n ∧ ((∀ (v39 : Int32), v39 = (if (q_in (((q_code f10 fro n g29) - 48).toInt64) lo.toInt64 mo.toInt64) = 0 then (0 : Int32) else (1 : Int32)) → ((q_in (((q_code f10 fro n g29) - 48).toInt64) lo.toInt64 mo.toInt64) = 0 → (-9 : Int32) = R ∧ (f10 + v39) = t0_10) ∧ (¬ (q_in (((q_code f10 fro n g29) - 48).toInt64) lo.toInt64 mo.toInt64) = 0 → ((q_code f10 fro n g29) - 48) = R ∧ (f10 + v39) = t0_10)))) :
    MF l G yX7_figure cX7_figure 7 (some .int) rm_X7_figure [.ref m0, .int fro, .int n, .int lo, .int mo] [(m0, .inr (7, [.int f0, .int f1, .int f2, .int f3, .ref a4, .int f5, .ref a6, .ref a7, .int f8, .int f9, .int f10, .int f11, .int f12, .int f13, .int f14, .ref a15, .ref a16, .ref a17, .int f18, .int f19, .int f20, .ref a21, .ref a22, .int f23, .ref a24, .ref a25, .ref a26, .ref a27, .ref a28, .ref a29, .ref a30, .int f31])), (a4, .inl (G.2.1, 20, .inl g4)), (a6, .inl (G.2.1, 4, .inl g6)), (a7, .inl (G.2.1, 4, .inl g7)), (a15, .inl (G.2.1, 20, .inl g15)), (a16, .inl (G.2.1, 4, .inl g16)), (a17, .inl (G.2.1, 4, .inl g17)), (a21, .inl (G.2.1, 20, .inl g21)), (a22, .inl (G.2.1, 40, .inl g22)), (a24, .inl (G.2.1, 8, .inl g24)), (a25, .inl (G.2.1, 8, .inl g25)), (a26, .inl (G.2.2.1, 8, .inl g26)), (a27, .inl (G.2.1, 4, .inl g27)), (a28, .inl (G.2.1, 4, .inl g28)), (a29, .inl (G.2.1, 240, .inl g29)), (a30, .inl (G.2.1, 60, .inl g30))] (some (.int R)) [(m0, .inr (7, [.int f0, .int f1, .int f2, .int f3, .ref a4, .int f5, .ref a6, .ref a7, .int f8, .int f9, .int t0_10, .int f11, .int f12, .int f13, .int f14, .ref a15, .ref a16, .ref a17, .int f18, .int f19, .int f20, .ref a21, .ref a22, .int f23, .ref a24, .ref a25, .ref a26, .ref a27, .ref a28, .ref a29, .ref a30, .int f31])), (a4, .inl (G.2.1, 20, .inl g4)), (a6, .inl (G.2.1, 4, .inl g6)), (a7, .inl (G.2.1, 4, .inl g7)), (a15, .inl (G.2.1, 20, .inl g15)), (a16, .inl (G.2.1, 4, .inl g16)), (a17, .inl (G.2.1, 4, .inl g17)), (a21, .inl (G.2.1, 20, .inl g21)), (a22, .inl (G.2.1, 40, .inl g22)), (a24, .inl (G.2.1, 8, .inl g24)), (a25, .inl (G.2.1, 8, .inl g25)), (a26, .inl (G.2.2.1, 8, .inl g26)), (a27, .inl (G.2.1, 4, .inl g27)), (a28, .inl (G.2.1, 4, .inl g28)), (a29, .inl (G.2.1, 240, .inl g29)), (a30, .inl (G.2.1, 60, .inl g30))] := by
  refine MF.of (by decide +kernel) (Nat.le_of_ble_eq_true rfl) ?_
  intro p e s m args below meth c A ls fx hh hl _
  have hx := fx.hx
  have hb := fx.hb
  have hl : lv_has ls 7 [(0, .ref m0), (1, .int fro), (2, .int n), (3, .int lo), (4, .int mo)] := hl
  obtain ⟨Q, hQ⟩ : ∃ Q, Q = ZZ G A (some (.int R)) [(m0, .inr (7, [.int f0, .int f1, .int f2, .int f3, .ref a4, .int f5, .ref a6, .ref a7, .int f8, .int f9, .int t0_10, .int f11, .int f12, .int f13, .int f14, .ref a15, .ref a16, .ref a17, .int f18, .int f19, .int f20, .ref a21, .ref a22, .int f23, .ref a24, .ref a25, .ref a26, .ref a27, .ref a28, .ref a29, .ref a30, .int f31])), (a4, .inl (G.2.1, 20, .inl g4)), (a6, .inl (G.2.1, 4, .inl g6)), (a7, .inl (G.2.1, 4, .inl g7)), (a15, .inl (G.2.1, 20, .inl g15)), (a16, .inl (G.2.1, 4, .inl g16)), (a17, .inl (G.2.1, 4, .inl g17)), (a21, .inl (G.2.1, 20, .inl g21)), (a22, .inl (G.2.1, 40, .inl g22)), (a24, .inl (G.2.1, 8, .inl g24)), (a25, .inl (G.2.1, 8, .inl g25)), (a26, .inl (G.2.2.1, 8, .inl g26)), (a27, .inl (G.2.1, 4, .inl g27)), (a28, .inl (G.2.1, 4, .inl g28)), (a29, .inl (G.2.1, 240, .inl g29)), (a30, .inl (G.2.1, 60, .inl g30))] below args s := ⟨_, rfl⟩
  rw [← hQ]
  refine lv_aload_n (pc := 0) hx hb (dOk_at dX7_figure 0 rfl) rfl (lv_at hl 0 rfl) ?_
  refine lv_iload_n (pc := 1) hx hb (dOk_at dX7_figure 1 rfl) rfl (lv_at hl 1 rfl) ?_
  refine lv_iload_n (pc := 2) hx hb (dOk_at dX7_figure 2 rfl) rfl (lv_at hl 2 rfl) ?_
  refine cl_V (pc := 3) (w' := [(m0, .inr (7, [.int f0, .int f1, .int f2, .int f3, .ref a4, .int f5, .ref a6, .ref a7, .int f8, .int f9, .int f10, .int f11, .int f12, .int f13, .int f14, .ref a15, .ref a16, .ref a17, .int f18, .int f19, .int f20, .ref a21, .ref a22, .int f23, .ref a24, .ref a25, .ref a26, .ref a27, .ref a28, .ref a29, .ref a30, .int f31])), (a4, .inl (G.2.1, 20, .inl g4)), (a6, .inl (G.2.1, 4, .inl g6)), (a7, .inl (G.2.1, 4, .inl g7)), (a15, .inl (G.2.1, 20, .inl g15)), (a16, .inl (G.2.1, 4, .inl g16)), (a17, .inl (G.2.1, 4, .inl g17)), (a21, .inl (G.2.1, 20, .inl g21)), (a22, .inl (G.2.1, 40, .inl g22)), (a24, .inl (G.2.1, 8, .inl g24)), (a25, .inl (G.2.1, 8, .inl g25)), (a26, .inl (G.2.2.1, 8, .inl g26)), (a27, .inl (G.2.1, 4, .inl g27)), (a28, .inl (G.2.1, 4, .inl g28)), (a29, .inl (G.2.1, 240, .inl g29)), (a30, .inl (G.2.1, 60, .inl g30))]) (wr := []) (rest := []) fx hh hl.1 (h_X7_codeAt m0 a4 a6 a7 a15 a16 a17 a21 a22 a24 a25 a26 a27 a28 a29 a30 f0 f1 f2 f3 f5 f8 f9 f10 f11 f12 f13 f14 f18 f19 f20 f23 f31 g4 g6 g7 g15 g16 g17 g21 g22 g24 g25 g26 g27 g28 g29 g30 fro n hv.1) yV_X7_codeAt tMX7_90 ⟨rfl, rfl, Nat.le_of_ble_eq_true rfl, Nat.le_of_ble_eq_true rfl⟩ 0 7 rfl rfl rfl [0, 1, 2, 3, 4, 5, 6, 7, 8, 9, 10, 11, 12, 13, 14, 15] [] [0, 1, 2, 3, 4, 5, 6, 7, 8, 9, 10, 11, 12, 13, 14, 15] rfl rfl rfl (by decide) (by decide) rfl rfl (Nat.le_of_ble_eq_true rfl) ⟨Nat.le_of_ble_eq_true rfl, Nat.le_of_ble_eq_true rfl⟩ (dOk_at dX7_figure 3 rfl) (fun H locs hh => ?_)
  have hv := hv.2
  refine lv_bipush (pc := 6) (v := 48) hx hb (dOk_at dX7_figure 4 rfl) (by decide) ?_
  refine lv_isub (pc := 8) hx hb (dOk_at dX7_figure 5 rfl) ?_
  refine lv_istore (pc := 9) (lv' := [(5, .int ((q_code f10 fro n g29) - 48)), (0, .ref m0), (1, .int fro), (2, .int n), (3, .int lo), (4, .int mo)]) hx hb (dOk_at dX7_figure 6 rfl) hl (by decide) rfl (fun ls hl => ?_)
  refine lv_iload (pc := 11) hx hb (dOk_at dX7_figure 7 rfl) (lv_at hl 0 rfl) ?_
  refine lv_i2l (pc := 13) (v := ((q_code f10 fro n g29) - 48).toInt64) hx hb (dOk_at dX7_figure 8 rfl) rfl ?_
  refine lv_iload_n (pc := 14) hx hb (dOk_at dX7_figure 9 rfl) rfl (lv_at hl 4 rfl) ?_
  refine lv_i2l (pc := 15) (v := lo.toInt64) hx hb (dOk_at dX7_figure 10 rfl) rfl ?_
  refine lv_iload (pc := 16) hx hb (dOk_at dX7_figure 11 rfl) (lv_at hl 5 rfl) ?_
  refine lv_i2l (pc := 18) (v := mo.toInt64) hx hb (dOk_at dX7_figure 12 rfl) rfl ?_
  refine cl_S (pc := 19) (w' := [(m0, .inr (7, [.int f0, .int f1, .int f2, .int f3, .ref a4, .int f5, .ref a6, .ref a7, .int f8, .int f9, .int f10, .int f11, .int f12, .int f13, .int f14, .ref a15, .ref a16, .ref a17, .int f18, .int f19, .int f20, .ref a21, .ref a22, .int f23, .ref a24, .ref a25, .ref a26, .ref a27, .ref a28, .ref a29, .ref a30, .int f31])), (a4, .inl (G.2.1, 20, .inl g4)), (a6, .inl (G.2.1, 4, .inl g6)), (a7, .inl (G.2.1, 4, .inl g7)), (a15, .inl (G.2.1, 20, .inl g15)), (a16, .inl (G.2.1, 4, .inl g16)), (a17, .inl (G.2.1, 4, .inl g17)), (a21, .inl (G.2.1, 20, .inl g21)), (a22, .inl (G.2.1, 40, .inl g22)), (a24, .inl (G.2.1, 8, .inl g24)), (a25, .inl (G.2.1, 8, .inl g25)), (a26, .inl (G.2.2.1, 8, .inl g26)), (a27, .inl (G.2.1, 4, .inl g27)), (a28, .inl (G.2.1, 4, .inl g28)), (a29, .inl (G.2.1, 240, .inl g29)), (a30, .inl (G.2.1, 60, .inl g30))]) (wr := [(m0, .inr (7, [.int f0, .int f1, .int f2, .int f3, .ref a4, .int f5, .ref a6, .ref a7, .int f8, .int f9, .int f10, .int f11, .int f12, .int f13, .int f14, .ref a15, .ref a16, .ref a17, .int f18, .int f19, .int f20, .ref a21, .ref a22, .int f23, .ref a24, .ref a25, .ref a26, .ref a27, .ref a28, .ref a29, .ref a30, .int f31])), (a4, .inl (G.2.1, 20, .inl g4)), (a6, .inl (G.2.1, 4, .inl g6)), (a7, .inl (G.2.1, 4, .inl g7)), (a15, .inl (G.2.1, 20, .inl g15)), (a16, .inl (G.2.1, 4, .inl g16)), (a17, .inl (G.2.1, 4, .inl g17)), (a21, .inl (G.2.1, 20, .inl g21)), (a22, .inl (G.2.1, 40, .inl g22)), (a24, .inl (G.2.1, 8, .inl g24)), (a25, .inl (G.2.1, 8, .inl g25)), (a26, .inl (G.2.2.1, 8, .inl g26)), (a27, .inl (G.2.1, 4, .inl g27)), (a28, .inl (G.2.1, 4, .inl g28)), (a29, .inl (G.2.1, 240, .inl g29)), (a30, .inl (G.2.1, 60, .inl g30))]) (rest := []) fx hh hl.1 (h_X7_in (((q_code f10 fro n g29) - 48).toInt64) lo.toInt64 mo.toInt64) yS_X7_in tMX7_76 ⟨rfl, rfl, Nat.le_of_ble_eq_true rfl, Nat.le_of_ble_eq_true rfl⟩ [] [0, 1, 2, 3, 4, 5, 6, 7, 8, 9, 10, 11, 12, 13, 14, 15] [0, 1, 2, 3, 4, 5, 6, 7, 8, 9, 10, 11, 12, 13, 14, 15] rfl rfl rfl (by decide) (by decide) rfl rfl (Nat.le_of_ble_eq_true rfl) ⟨Nat.le_of_ble_eq_true rfl, Nat.le_of_ble_eq_true rfl⟩ (dOk_at dX7_figure 13 rfl) (fun H locs hh => ?_)
  refine lv_istore (pc := 22) (lv' := [(6, .int (q_in (((q_code f10 fro n g29) - 48).toInt64) lo.toInt64 mo.toInt64)), (5, .int ((q_code f10 fro n g29) - 48)), (0, .ref m0), (1, .int fro), (2, .int n), (3, .int lo), (4, .int mo)]) hx hb (dOk_at dX7_figure 14 rfl) hl (by decide) rfl (fun ls hl => ?_)
  refine lv_aload_n (pc := 24) hx hb (dOk_at dX7_figure 15 rfl) rfl (lv_at hl 2 rfl) ?_
  refine lv_dup (pc := 25) hx hb (dOk_at dX7_figure 16 rfl) rfl ?_
  refine r_get (pc := 26) (ci := 7) fx hh inT7 rfl 10 (by decide) tFX7_87 rfl 0 rfl rfl (dOk_at dX7_figure 17 rfl) ?_
  refine lv_iload (pc := 29) hx hb (dOk_at dX7_figure 18 rfl) (lv_at hl 0 rfl) ?_
  have k39_31 : ∀ (v39 : Int32), v39 = (if (q_in (((q_code f10 fro n g29) - 48).toInt64) lo.toInt64 mo.toInt64) = 0 then (0 : Int32) else (1 : Int32)) → ∀ (H : Heap) (locs : List Loc) (ls : Array Slot), HP G A [(m0, .inr (7, [.int f0, .int f1, .int f2, .int f3, .ref a4, .int f5, .ref a6, .ref a7, .int f8, .int f9, .int f10, .int f11, .int f12, .int f13, .int f14, .ref a15, .ref a16, .ref a17, .int f18, .int f19, .int f20, .ref a21, .ref a22, .int f23, .ref a24, .ref a25, .ref a26, .ref a27, .ref a28, .ref a29, .ref a30, .int f31])), (a4, .inl (G.2.1, 20, .inl g4)), (a6, .inl (G.2.1, 4, .inl g6)), (a7, .inl (G.2.1, 4, .inl g7)), (a15, .inl (G.2.1, 20, .inl g15)), (a16, .inl (G.2.1, 4, .inl g16)), (a17, .inl (G.2.1, 4, .inl g17)), (a21, .inl (G.2.1, 20, .inl g21)), (a22, .inl (G.2.1, 40, .inl g22)), (a24, .inl (G.2.1, 8, .inl g24)), (a25, .inl (G.2.1, 8, .inl g25)), (a26, .inl (G.2.2.1, 8, .inl g26)), (a27, .inl (G.2.1, 4, .inl g27)), (a28, .inl (G.2.1, 4, .inl g28)), (a29, .inl (G.2.1, 240, .inl g29)), (a30, .inl (G.2.1, 60, .inl g30))] s H locs → lv_has ls 7 [(5, .int ((q_code f10 fro n g29) - 48)), (6, .int (q_in (((q_code f10 fro n g29) - 48).toInt64) lo.toInt64 mo.toInt64))] → W p l e rm_X7_figure s m args below meth c H locs 0 0 Q (F0 m 39 ls [.int v39, .int f10, .ref m0]) := by
    intro v39 e39_0 H locs ls hh hl
    have hv := hv v39 e39_0
    refine lv_iadd (pc := 39) hx hb (dOk_at dX7_figure 23 rfl) ?_
    refine r_put (pc := 40) (ci := 7) (w' := [(m0, .inr (7, [.int f0, .int f1, .int f2, .int f3, .ref a4, .int f5, .ref a6, .ref a7, .int f8, .int f9, .int (f10 + v39), .int f11, .int f12, .int f13, .int f14, .ref a15, .ref a16, .ref a17, .int f18, .int f19, .int f20, .ref a21, .ref a22, .int f23, .ref a24, .ref a25, .ref a26, .ref a27, .ref a28, .ref a29, .ref a30, .int f31])), (a4, .inl (G.2.1, 20, .inl g4)), (a6, .inl (G.2.1, 4, .inl g6)), (a7, .inl (G.2.1, 4, .inl g7)), (a15, .inl (G.2.1, 20, .inl g15)), (a16, .inl (G.2.1, 4, .inl g16)), (a17, .inl (G.2.1, 4, .inl g17)), (a21, .inl (G.2.1, 20, .inl g21)), (a22, .inl (G.2.1, 40, .inl g22)), (a24, .inl (G.2.1, 8, .inl g24)), (a25, .inl (G.2.1, 8, .inl g25)), (a26, .inl (G.2.2.1, 8, .inl g26)), (a27, .inl (G.2.1, 4, .inl g27)), (a28, .inl (G.2.1, 4, .inl g28)), (a29, .inl (G.2.1, 240, .inl g29)), (a30, .inl (G.2.1, 60, .inl g30))]) fx hh inT7 tyX7 tyX7_ok nmX7 rfl 10 (by decide) tFX7_87 rfl rfl 0 rfl rfl rfl (Nat.le_of_ble_eq_true rfl) rfl (dOk_at dX7_figure 24 rfl) (fun H locs hh => ?_)
    refine lv_iload (pc := 43) hx hb (dOk_at dX7_figure 25 rfl) (lv_at hl 1 rfl) ?_
    refine lv_if_eq (pc := 45) (tgt := 53) hx hb (dOk_at dX7_figure 26 rfl) (by decide) (fun c45 => ?_) (fun c45 => ?_)
    · have hv := hv.1 c45
      refine lv_bipush (pc := 53) (v := (-9)) hx hb (dOk_at dX7_figure 29 rfl) (by decide) ?_
      obtain ⟨e0, e1⟩ := hv
      subst e0
      subst e1
      rw [hQ]
      exact r_iret (pc := 55) fx hh (dOk_at dX7_figure 30 rfl)
    · have hv := hv.2 c45
      refine lv_iload (pc := 48) hx hb (dOk_at dX7_figure 27 rfl) (lv_at hl 0 rfl) ?_
      refine lv_goto (pc := 50) (tgt := 55) hx hb (dOk_at dX7_figure 28 rfl) (by decide) ?_
      obtain ⟨e0, e1⟩ := hv
      subst e0
      subst e1
      rw [hQ]
      exact r_iret (pc := 55) fx hh (dOk_at dX7_figure 30 rfl)
  refine lv_if_eq (pc := 31) (tgt := 38) hx hb (dOk_at dX7_figure 19 rfl) (by decide) (fun c31 => ?_) (fun c31 => ?_)
  · refine lv_iconst (pc := 38) (v := 0) hx hb (dOk_at dX7_figure 22 rfl) (by decide) ?_
    exact k39_31 _ (if_pos c31).symm _ _ _ hh (lv_sub hl [1, 0] rfl)
  · refine lv_iconst (pc := 34) (v := 1) hx hb (dOk_at dX7_figure 20 rfl) (by decide) ?_
    refine lv_goto (pc := 35) (tgt := 39) hx hb (dOk_at dX7_figure 21 rfl) (by decide) ?_
    exact k39_31 _ (if_neg c31).symm _ _ _ hh (lv_sub hl [1, 0] rfl)
set_option maxRecDepth 100000 in
set_option maxHeartbeats 4000000 in
theorem wk_X7_readsPlace (l : Launch) (G : GT) (m0 : Nat) (a4 : Nat) (a6 : Nat) (a7 : Nat) (a15 : Nat) (a16 : Nat) (a17 : Nat) (a21 : Nat) (a22 : Nat) (a24 : Nat) (a25 : Nat) (a26 : Nat) (a27 : Nat) (a28 : Nat) (a29 : Nat) (a30 : Nat) (f0 : Int32) (f1 : Int32) (f2 : Int32) (f3 : Int32) (f5 : Int32) (f8 : Int32) (f9 : Int32) (f10 : Int32) (f11 : Int32) (f12 : Int32) (f13 : Int32) (f14 : Int32) (f18 : Int32) (f19 : Int32) (f20 : Int32) (f23 : Int32) (f31 : Int32) (g4 : Nat → Int32) (g6 : Nat → Int32) (g7 : Nat → Int32) (g15 : Nat → Int32) (g16 : Nat → Int32) (g17 : Nat → Int32) (g21 : Nat → Int32) (g22 : Nat → Int32) (g24 : Nat → Int32) (g25 : Nat → Int32) (g26 : Nat → Int32) (g27 : Nat → Int32) (g28 : Nat → Int32) (g29 : Nat → Int32) (g30 : Nat → Int32) (fro : Int32) (n : Int32) (ce : Int32) (R : Int32) (t0_10 : Int32) (t4 : Nat → Int32) (h_X7_codeAt : K_X7_codeAt l G) (h_X7_figure : K_X7_figure l G)
    (hv : ¬ f12 = 0 ∧ ((¬ (ce - ce / f12 * f12) = 0 → okC f10 fro n ∧ (vp_in ce 20 ∧ (vp_in ce 20 ∧ ((((upd g15 ce.toNatClampNeg (q_figR f10 fro n g29 0 9)) ce.toNatClampNeg) < 0 → (0 : Int32) = R ∧ (q_figP f10 fro n g29 0 9) = t0_10 ∧ (upd g15 ce.toNatClampNeg (q_figR f10 fro n g29 0 9)) = t4) ∧ (¬ ((upd g15 ce.toNatClampNeg (q_figR f10 fro n g29 0 9)) ce.toNatClampNeg) < 0 → (1 : Int32) = R ∧ (q_figP f10 fro n g29 0 9) = t0_10 ∧ (upd g15 ce.toNatClampNeg (q_figR f10 fro n g29 0 9)) = t4))))) ∧ ((ce - ce / f12 * f12) = 0 → okC f10 fro n ∧ (((q_code f10 fro n g29) = 59 → okC (f10 + 1) fro n ∧ (vp_in ce 20 ∧ (vp_in ce 20 ∧ ((((upd g15 ce.toNatClampNeg (q_figR (f10 + 1) fro n g29 0 9)) ce.toNatClampNeg) < 0 → (0 : Int32) = R ∧ (q_figP (f10 + 1) fro n g29 0 9) = t0_10 ∧ (upd g15 ce.toNatClampNeg (q_figR (f10 + 1) fro n g29 0 9)) = t4) ∧ (¬ ((upd g15 ce.toNatClampNeg (q_figR (f10 + 1) fro n g29 0 9)) ce.toNatClampNeg) < 0 → (1 : Int32) = R ∧ (q_figP (f10 + 1) fro n g29 0 9) = t0_10 ∧ (upd g15 ce.toNatClampNeg (q_figR (f10 + 1) fro n g29 0 9)) = t4))))) ∧ (¬ (q_code f10 fro n g29) = 59 → (0 : Int32) = R ∧ f10 = t0_10 ∧ g15 = t4))))) :
    MF l G yX7_readsPlace cX7_readsPlace 4 (some .boolean) rm_X7_readsPlace [.ref m0, .int fro, .int n, .int ce] [(m0, .inr (7, [.int f0, .int f1, .int f2, .int f3, .ref a4, .int f5, .ref a6, .ref a7, .int f8, .int f9, .int f10, .int f11, .int f12, .int f13, .int f14, .ref a15, .ref a16, .ref a17, .int f18, .int f19, .int f20, .ref a21, .ref a22, .int f23, .ref a24, .ref a25, .ref a26, .ref a27, .ref a28, .ref a29, .ref a30, .int f31])), (a4, .inl (G.2.1, 20, .inl g4)), (a6, .inl (G.2.1, 4, .inl g6)), (a7, .inl (G.2.1, 4, .inl g7)), (a15, .inl (G.2.1, 20, .inl g15)), (a16, .inl (G.2.1, 4, .inl g16)), (a17, .inl (G.2.1, 4, .inl g17)), (a21, .inl (G.2.1, 20, .inl g21)), (a22, .inl (G.2.1, 40, .inl g22)), (a24, .inl (G.2.1, 8, .inl g24)), (a25, .inl (G.2.1, 8, .inl g25)), (a26, .inl (G.2.2.1, 8, .inl g26)), (a27, .inl (G.2.1, 4, .inl g27)), (a28, .inl (G.2.1, 4, .inl g28)), (a29, .inl (G.2.1, 240, .inl g29)), (a30, .inl (G.2.1, 60, .inl g30))] (some (.int R)) [(m0, .inr (7, [.int f0, .int f1, .int f2, .int f3, .ref a4, .int f5, .ref a6, .ref a7, .int f8, .int f9, .int t0_10, .int f11, .int f12, .int f13, .int f14, .ref a15, .ref a16, .ref a17, .int f18, .int f19, .int f20, .ref a21, .ref a22, .int f23, .ref a24, .ref a25, .ref a26, .ref a27, .ref a28, .ref a29, .ref a30, .int f31])), (a4, .inl (G.2.1, 20, .inl g4)), (a6, .inl (G.2.1, 4, .inl g6)), (a7, .inl (G.2.1, 4, .inl g7)), (a15, .inl (G.2.1, 20, .inl t4)), (a16, .inl (G.2.1, 4, .inl g16)), (a17, .inl (G.2.1, 4, .inl g17)), (a21, .inl (G.2.1, 20, .inl g21)), (a22, .inl (G.2.1, 40, .inl g22)), (a24, .inl (G.2.1, 8, .inl g24)), (a25, .inl (G.2.1, 8, .inl g25)), (a26, .inl (G.2.2.1, 8, .inl g26)), (a27, .inl (G.2.1, 4, .inl g27)), (a28, .inl (G.2.1, 4, .inl g28)), (a29, .inl (G.2.1, 240, .inl g29)), (a30, .inl (G.2.1, 60, .inl g30))] := by
  refine MF.of (by decide +kernel) (Nat.le_of_ble_eq_true rfl) ?_
  intro p e s m args below meth c A ls fx hh hl _
  have hx := fx.hx
  have hb := fx.hb
  have hl : lv_has ls 4 [(0, .ref m0), (1, .int fro), (2, .int n), (3, .int ce)] := hl
  obtain ⟨Q, hQ⟩ : ∃ Q, Q = ZZ G A (some (.int R)) [(m0, .inr (7, [.int f0, .int f1, .int f2, .int f3, .ref a4, .int f5, .ref a6, .ref a7, .int f8, .int f9, .int t0_10, .int f11, .int f12, .int f13, .int f14, .ref a15, .ref a16, .ref a17, .int f18, .int f19, .int f20, .ref a21, .ref a22, .int f23, .ref a24, .ref a25, .ref a26, .ref a27, .ref a28, .ref a29, .ref a30, .int f31])), (a4, .inl (G.2.1, 20, .inl g4)), (a6, .inl (G.2.1, 4, .inl g6)), (a7, .inl (G.2.1, 4, .inl g7)), (a15, .inl (G.2.1, 20, .inl t4)), (a16, .inl (G.2.1, 4, .inl g16)), (a17, .inl (G.2.1, 4, .inl g17)), (a21, .inl (G.2.1, 20, .inl g21)), (a22, .inl (G.2.1, 40, .inl g22)), (a24, .inl (G.2.1, 8, .inl g24)), (a25, .inl (G.2.1, 8, .inl g25)), (a26, .inl (G.2.2.1, 8, .inl g26)), (a27, .inl (G.2.1, 4, .inl g27)), (a28, .inl (G.2.1, 4, .inl g28)), (a29, .inl (G.2.1, 240, .inl g29)), (a30, .inl (G.2.1, 60, .inl g30))] below args s := ⟨_, rfl⟩
  rw [← hQ]
  refine lv_iload_n (pc := 0) hx hb (dOk_at dX7_readsPlace 0 rfl) rfl (lv_at hl 3 rfl) ?_
  refine lv_aload_n (pc := 1) hx hb (dOk_at dX7_readsPlace 1 rfl) rfl (lv_at hl 0 rfl) ?_
  refine r_get (pc := 2) (ci := 7) fx hh inT7 rfl 12 (by decide) tFX7_94 rfl 0 rfl rfl (dOk_at dX7_readsPlace 2 rfl) ?_
  refine lv_irem (pc := 5) hx hb (dOk_at dX7_readsPlace 3 rfl) hv.1 ?_
  have hv := hv.2
  refine lv_if_ne (pc := 6) (tgt := 32) hx hb (dOk_at dX7_readsPlace 4 rfl) (by decide) (fun c6 => ?_) (fun c6 => ?_)
  · have hv := hv.1 c6
    refine lv_aload_n (pc := 32) hx hb (dOk_at dX7_readsPlace 19 rfl) rfl (lv_at hl 0 rfl) ?_
    refine r_get (pc := 33) (ci := 7) fx hh inT7 rfl 15 (by decide) tFX7_19 rfl 0 rfl rfl (dOk_at dX7_readsPlace 20 rfl) ?_
    refine lv_iload_n (pc := 36) hx hb (dOk_at dX7_readsPlace 21 rfl) rfl (lv_at hl 3 rfl) ?_
    refine lv_aload_n (pc := 37) hx hb (dOk_at dX7_readsPlace 22 rfl) rfl (lv_at hl 0 rfl) ?_
    refine lv_iload_n (pc := 38) hx hb (dOk_at dX7_readsPlace 23 rfl) rfl (lv_at hl 1 rfl) ?_
    refine lv_iload_n (pc := 39) hx hb (dOk_at dX7_readsPlace 24 rfl) rfl (lv_at hl 2 rfl) ?_
    refine lv_iconst (pc := 40) (v := 0) hx hb (dOk_at dX7_readsPlace 25 rfl) (by decide) ?_
    refine lv_bipush (pc := 41) (v := 9) hx hb (dOk_at dX7_readsPlace 26 rfl) (by decide) ?_
    refine cl_V (pc := 43) (w' := [(m0, .inr (7, [.int f0, .int f1, .int f2, .int f3, .ref a4, .int f5, .ref a6, .ref a7, .int f8, .int f9, .int (q_figP f10 fro n g29 0 9), .int f11, .int f12, .int f13, .int f14, .ref a15, .ref a16, .ref a17, .int f18, .int f19, .int f20, .ref a21, .ref a22, .int f23, .ref a24, .ref a25, .ref a26, .ref a27, .ref a28, .ref a29, .ref a30, .int f31])), (a4, .inl (G.2.1, 20, .inl g4)), (a6, .inl (G.2.1, 4, .inl g6)), (a7, .inl (G.2.1, 4, .inl g7)), (a15, .inl (G.2.1, 20, .inl g15)), (a16, .inl (G.2.1, 4, .inl g16)), (a17, .inl (G.2.1, 4, .inl g17)), (a21, .inl (G.2.1, 20, .inl g21)), (a22, .inl (G.2.1, 40, .inl g22)), (a24, .inl (G.2.1, 8, .inl g24)), (a25, .inl (G.2.1, 8, .inl g25)), (a26, .inl (G.2.2.1, 8, .inl g26)), (a27, .inl (G.2.1, 4, .inl g27)), (a28, .inl (G.2.1, 4, .inl g28)), (a29, .inl (G.2.1, 240, .inl g29)), (a30, .inl (G.2.1, 60, .inl g30))]) (wr := []) (rest := [.int ce, .ref a15]) fx hh hl.1 (h_X7_figure m0 a4 a6 a7 a15 a16 a17 a21 a22 a24 a25 a26 a27 a28 a29 a30 f0 f1 f2 f3 f5 f8 f9 f10 f11 f12 f13 f14 f18 f19 f20 f23 f31 g4 g6 g7 g15 g16 g17 g21 g22 g24 g25 g26 g27 g28 g29 g30 fro n 0 9 hv.1) yV_X7_figure tMX7_97 ⟨rfl, rfl, Nat.le_of_ble_eq_true rfl, Nat.le_of_ble_eq_true rfl⟩ 0 7 rfl rfl rfl [0, 1, 2, 3, 4, 5, 6, 7, 8, 9, 10, 11, 12, 13, 14, 15] [] [0, 1, 2, 3, 4, 5, 6, 7, 8, 9, 10, 11, 12, 13, 14, 15] rfl rfl rfl (by decide) (by decide) rfl rfl (Nat.le_of_ble_eq_true rfl) ⟨Nat.le_of_ble_eq_true rfl, Nat.le_of_ble_eq_true rfl⟩ (dOk_at dX7_readsPlace 27 rfl) (fun H locs hh => ?_)
    have hv := hv.2
    refine r_iast (pc := 46) (w' := [(m0, .inr (7, [.int f0, .int f1, .int f2, .int f3, .ref a4, .int f5, .ref a6, .ref a7, .int f8, .int f9, .int (q_figP f10 fro n g29 0 9), .int f11, .int f12, .int f13, .int f14, .ref a15, .ref a16, .ref a17, .int f18, .int f19, .int f20, .ref a21, .ref a22, .int f23, .ref a24, .ref a25, .ref a26, .ref a27, .ref a28, .ref a29, .ref a30, .int f31])), (a4, .inl (G.2.1, 20, .inl g4)), (a6, .inl (G.2.1, 4, .inl g6)), (a7, .inl (G.2.1, 4, .inl g7)), (a15, .inl (G.2.1, 20, .inl (upd g15 ce.toNatClampNeg (q_figR f10 fro n g29 0 9)))), (a16, .inl (G.2.1, 4, .inl g16)), (a17, .inl (G.2.1, 4, .inl g17)), (a21, .inl (G.2.1, 20, .inl g21)), (a22, .inl (G.2.1, 40, .inl g22)), (a24, .inl (G.2.1, 8, .inl g24)), (a25, .inl (G.2.1, 8, .inl g25)), (a26, .inl (G.2.2.1, 8, .inl g26)), (a27, .inl (G.2.1, 4, .inl g27)), (a28, .inl (G.2.1, 4, .inl g28)), (a29, .inl (G.2.1, 240, .inl g29)), (a30, .inl (G.2.1, 60, .inl g30))]) fx hh 4 rfl hv.1 rfl (dOk_at dX7_readsPlace 28 rfl) (fun H locs hh => ?_)
    have hv := hv.2
    refine lv_aload_n (pc := 47) hx hb (dOk_at dX7_readsPlace 29 rfl) rfl (lv_at hl 0 rfl) ?_
    refine r_get (pc := 48) (ci := 7) fx hh inT7 rfl 15 (by decide) tFX7_19 rfl 0 rfl rfl (dOk_at dX7_readsPlace 30 rfl) ?_
    refine lv_iload_n (pc := 51) hx hb (dOk_at dX7_readsPlace 31 rfl) rfl (lv_at hl 3 rfl) ?_
    refine r_iald (pc := 52) fx hh 4 rfl hv.1 (dOk_at dX7_readsPlace 32 rfl) ?_
    have hv := hv.2
    refine lv_if_lt (pc := 53) (tgt := 60) hx hb (dOk_at dX7_readsPlace 33 rfl) (by decide) (fun c53 => ?_) (fun c53 => ?_)
    · have hv := hv.1 c53
      refine lv_iconst (pc := 60) (v := 0) hx hb (dOk_at dX7_readsPlace 36 rfl) (by decide) ?_
      obtain ⟨e0, e1, e2⟩ := hv
      subst e0
      subst e1
      subst e2
      rw [hQ]
      exact r_zret (pc := 61) fx hh rfl (dOk_at dX7_readsPlace 37 rfl)
    · have hv := hv.2 c53
      refine lv_iconst (pc := 56) (v := 1) hx hb (dOk_at dX7_readsPlace 34 rfl) (by decide) ?_
      refine lv_goto (pc := 57) (tgt := 61) hx hb (dOk_at dX7_readsPlace 35 rfl) (by decide) ?_
      obtain ⟨e0, e1, e2⟩ := hv
      subst e0
      subst e1
      subst e2
      rw [hQ]
      exact r_zret (pc := 61) fx hh rfl (dOk_at dX7_readsPlace 37 rfl)
  · have hv := hv.2 c6
    refine lv_aload_n (pc := 9) hx hb (dOk_at dX7_readsPlace 5 rfl) rfl (lv_at hl 0 rfl) ?_
    refine lv_iload_n (pc := 10) hx hb (dOk_at dX7_readsPlace 6 rfl) rfl (lv_at hl 1 rfl) ?_
    refine lv_iload_n (pc := 11) hx hb (dOk_at dX7_readsPlace 7 rfl) rfl (lv_at hl 2 rfl) ?_
    refine cl_V (pc := 12) (w' := [(m0, .inr (7, [.int f0, .int f1, .int f2, .int f3, .ref a4, .int f5, .ref a6, .ref a7, .int f8, .int f9, .int f10, .int f11, .int f12, .int f13, .int f14, .ref a15, .ref a16, .ref a17, .int f18, .int f19, .int f20, .ref a21, .ref a22, .int f23, .ref a24, .ref a25, .ref a26, .ref a27, .ref a28, .ref a29, .ref a30, .int f31])), (a4, .inl (G.2.1, 20, .inl g4)), (a6, .inl (G.2.1, 4, .inl g6)), (a7, .inl (G.2.1, 4, .inl g7)), (a15, .inl (G.2.1, 20, .inl g15)), (a16, .inl (G.2.1, 4, .inl g16)), (a17, .inl (G.2.1, 4, .inl g17)), (a21, .inl (G.2.1, 20, .inl g21)), (a22, .inl (G.2.1, 40, .inl g22)), (a24, .inl (G.2.1, 8, .inl g24)), (a25, .inl (G.2.1, 8, .inl g25)), (a26, .inl (G.2.2.1, 8, .inl g26)), (a27, .inl (G.2.1, 4, .inl g27)), (a28, .inl (G.2.1, 4, .inl g28)), (a29, .inl (G.2.1, 240, .inl g29)), (a30, .inl (G.2.1, 60, .inl g30))]) (wr := []) (rest := []) fx hh hl.1 (h_X7_codeAt m0 a4 a6 a7 a15 a16 a17 a21 a22 a24 a25 a26 a27 a28 a29 a30 f0 f1 f2 f3 f5 f8 f9 f10 f11 f12 f13 f14 f18 f19 f20 f23 f31 g4 g6 g7 g15 g16 g17 g21 g22 g24 g25 g26 g27 g28 g29 g30 fro n hv.1) yV_X7_codeAt tMX7_90 ⟨rfl, rfl, Nat.le_of_ble_eq_true rfl, Nat.le_of_ble_eq_true rfl⟩ 0 7 rfl rfl rfl [0, 1, 2, 3, 4, 5, 6, 7, 8, 9, 10, 11, 12, 13, 14, 15] [] [0, 1, 2, 3, 4, 5, 6, 7, 8, 9, 10, 11, 12, 13, 14, 15] rfl rfl rfl (by decide) (by decide) rfl rfl (Nat.le_of_ble_eq_true rfl) ⟨Nat.le_of_ble_eq_true rfl, Nat.le_of_ble_eq_true rfl⟩ (dOk_at dX7_readsPlace 8 rfl) (fun H locs hh => ?_)
    have hv := hv.2
    refine lv_bipush (pc := 15) (v := 59) hx hb (dOk_at dX7_readsPlace 9 rfl) (by decide) ?_
    refine lv_icmp_eq (pc := 17) (tgt := 22) hx hb (dOk_at dX7_readsPlace 10 rfl) (by decide) (fun c17 => ?_) (fun c17 => ?_)
    · have hv := hv.1 c17
      refine lv_aload_n (pc := 22) hx hb (dOk_at dX7_readsPlace 13 rfl) rfl (lv_at hl 0 rfl) ?_
      refine lv_dup (pc := 23) hx hb (dOk_at dX7_readsPlace 14 rfl) rfl ?_
      refine r_get (pc := 24) (ci := 7) fx hh inT7 rfl 10 (by decide) tFX7_87 rfl 0 rfl rfl (dOk_at dX7_readsPlace 15 rfl) ?_
      refine lv_iconst (pc := 27) (v := 1) hx hb (dOk_at dX7_readsPlace 16 rfl) (by decide) ?_
      refine lv_iadd (pc := 28) hx hb (dOk_at dX7_readsPlace 17 rfl) ?_
      refine r_put (pc := 29) (ci := 7) (w' := [(m0, .inr (7, [.int f0, .int f1, .int f2, .int f3, .ref a4, .int f5, .ref a6, .ref a7, .int f8, .int f9, .int (f10 + 1), .int f11, .int f12, .int f13, .int f14, .ref a15, .ref a16, .ref a17, .int f18, .int f19, .int f20, .ref a21, .ref a22, .int f23, .ref a24, .ref a25, .ref a26, .ref a27, .ref a28, .ref a29, .ref a30, .int f31])), (a4, .inl (G.2.1, 20, .inl g4)), (a6, .inl (G.2.1, 4, .inl g6)), (a7, .inl (G.2.1, 4, .inl g7)), (a15, .inl (G.2.1, 20, .inl g15)), (a16, .inl (G.2.1, 4, .inl g16)), (a17, .inl (G.2.1, 4, .inl g17)), (a21, .inl (G.2.1, 20, .inl g21)), (a22, .inl (G.2.1, 40, .inl g22)), (a24, .inl (G.2.1, 8, .inl g24)), (a25, .inl (G.2.1, 8, .inl g25)), (a26, .inl (G.2.2.1, 8, .inl g26)), (a27, .inl (G.2.1, 4, .inl g27)), (a28, .inl (G.2.1, 4, .inl g28)), (a29, .inl (G.2.1, 240, .inl g29)), (a30, .inl (G.2.1, 60, .inl g30))]) fx hh inT7 tyX7 tyX7_ok nmX7 rfl 10 (by decide) tFX7_87 rfl rfl 0 rfl rfl rfl (Nat.le_of_ble_eq_true rfl) rfl (dOk_at dX7_readsPlace 18 rfl) (fun H locs hh => ?_)
      refine lv_aload_n (pc := 32) hx hb (dOk_at dX7_readsPlace 19 rfl) rfl (lv_at hl 0 rfl) ?_
      refine r_get (pc := 33) (ci := 7) fx hh inT7 rfl 15 (by decide) tFX7_19 rfl 0 rfl rfl (dOk_at dX7_readsPlace 20 rfl) ?_
      refine lv_iload_n (pc := 36) hx hb (dOk_at dX7_readsPlace 21 rfl) rfl (lv_at hl 3 rfl) ?_
      refine lv_aload_n (pc := 37) hx hb (dOk_at dX7_readsPlace 22 rfl) rfl (lv_at hl 0 rfl) ?_
      refine lv_iload_n (pc := 38) hx hb (dOk_at dX7_readsPlace 23 rfl) rfl (lv_at hl 1 rfl) ?_
      refine lv_iload_n (pc := 39) hx hb (dOk_at dX7_readsPlace 24 rfl) rfl (lv_at hl 2 rfl) ?_
      refine lv_iconst (pc := 40) (v := 0) hx hb (dOk_at dX7_readsPlace 25 rfl) (by decide) ?_
      refine lv_bipush (pc := 41) (v := 9) hx hb (dOk_at dX7_readsPlace 26 rfl) (by decide) ?_
      refine cl_V (pc := 43) (w' := [(m0, .inr (7, [.int f0, .int f1, .int f2, .int f3, .ref a4, .int f5, .ref a6, .ref a7, .int f8, .int f9, .int (q_figP (f10 + 1) fro n g29 0 9), .int f11, .int f12, .int f13, .int f14, .ref a15, .ref a16, .ref a17, .int f18, .int f19, .int f20, .ref a21, .ref a22, .int f23, .ref a24, .ref a25, .ref a26, .ref a27, .ref a28, .ref a29, .ref a30, .int f31])), (a4, .inl (G.2.1, 20, .inl g4)), (a6, .inl (G.2.1, 4, .inl g6)), (a7, .inl (G.2.1, 4, .inl g7)), (a15, .inl (G.2.1, 20, .inl g15)), (a16, .inl (G.2.1, 4, .inl g16)), (a17, .inl (G.2.1, 4, .inl g17)), (a21, .inl (G.2.1, 20, .inl g21)), (a22, .inl (G.2.1, 40, .inl g22)), (a24, .inl (G.2.1, 8, .inl g24)), (a25, .inl (G.2.1, 8, .inl g25)), (a26, .inl (G.2.2.1, 8, .inl g26)), (a27, .inl (G.2.1, 4, .inl g27)), (a28, .inl (G.2.1, 4, .inl g28)), (a29, .inl (G.2.1, 240, .inl g29)), (a30, .inl (G.2.1, 60, .inl g30))]) (wr := []) (rest := [.int ce, .ref a15]) fx hh hl.1 (h_X7_figure m0 a4 a6 a7 a15 a16 a17 a21 a22 a24 a25 a26 a27 a28 a29 a30 f0 f1 f2 f3 f5 f8 f9 (f10 + 1) f11 f12 f13 f14 f18 f19 f20 f23 f31 g4 g6 g7 g15 g16 g17 g21 g22 g24 g25 g26 g27 g28 g29 g30 fro n 0 9 hv.1) yV_X7_figure tMX7_97 ⟨rfl, rfl, Nat.le_of_ble_eq_true rfl, Nat.le_of_ble_eq_true rfl⟩ 0 7 rfl rfl rfl [0, 1, 2, 3, 4, 5, 6, 7, 8, 9, 10, 11, 12, 13, 14, 15] [] [0, 1, 2, 3, 4, 5, 6, 7, 8, 9, 10, 11, 12, 13, 14, 15] rfl rfl rfl (by decide) (by decide) rfl rfl (Nat.le_of_ble_eq_true rfl) ⟨Nat.le_of_ble_eq_true rfl, Nat.le_of_ble_eq_true rfl⟩ (dOk_at dX7_readsPlace 27 rfl) (fun H locs hh => ?_)
      have hv := hv.2
      refine r_iast (pc := 46) (w' := [(m0, .inr (7, [.int f0, .int f1, .int f2, .int f3, .ref a4, .int f5, .ref a6, .ref a7, .int f8, .int f9, .int (q_figP (f10 + 1) fro n g29 0 9), .int f11, .int f12, .int f13, .int f14, .ref a15, .ref a16, .ref a17, .int f18, .int f19, .int f20, .ref a21, .ref a22, .int f23, .ref a24, .ref a25, .ref a26, .ref a27, .ref a28, .ref a29, .ref a30, .int f31])), (a4, .inl (G.2.1, 20, .inl g4)), (a6, .inl (G.2.1, 4, .inl g6)), (a7, .inl (G.2.1, 4, .inl g7)), (a15, .inl (G.2.1, 20, .inl (upd g15 ce.toNatClampNeg (q_figR (f10 + 1) fro n g29 0 9)))), (a16, .inl (G.2.1, 4, .inl g16)), (a17, .inl (G.2.1, 4, .inl g17)), (a21, .inl (G.2.1, 20, .inl g21)), (a22, .inl (G.2.1, 40, .inl g22)), (a24, .inl (G.2.1, 8, .inl g24)), (a25, .inl (G.2.1, 8, .inl g25)), (a26, .inl (G.2.2.1, 8, .inl g26)), (a27, .inl (G.2.1, 4, .inl g27)), (a28, .inl (G.2.1, 4, .inl g28)), (a29, .inl (G.2.1, 240, .inl g29)), (a30, .inl (G.2.1, 60, .inl g30))]) fx hh 4 rfl hv.1 rfl (dOk_at dX7_readsPlace 28 rfl) (fun H locs hh => ?_)
      have hv := hv.2
      refine lv_aload_n (pc := 47) hx hb (dOk_at dX7_readsPlace 29 rfl) rfl (lv_at hl 0 rfl) ?_
      refine r_get (pc := 48) (ci := 7) fx hh inT7 rfl 15 (by decide) tFX7_19 rfl 0 rfl rfl (dOk_at dX7_readsPlace 30 rfl) ?_
      refine lv_iload_n (pc := 51) hx hb (dOk_at dX7_readsPlace 31 rfl) rfl (lv_at hl 3 rfl) ?_
      refine r_iald (pc := 52) fx hh 4 rfl hv.1 (dOk_at dX7_readsPlace 32 rfl) ?_
      have hv := hv.2
      refine lv_if_lt (pc := 53) (tgt := 60) hx hb (dOk_at dX7_readsPlace 33 rfl) (by decide) (fun c53 => ?_) (fun c53 => ?_)
      · have hv := hv.1 c53
        refine lv_iconst (pc := 60) (v := 0) hx hb (dOk_at dX7_readsPlace 36 rfl) (by decide) ?_
        obtain ⟨e0, e1, e2⟩ := hv
        subst e0
        subst e1
        subst e2
        rw [hQ]
        exact r_zret (pc := 61) fx hh rfl (dOk_at dX7_readsPlace 37 rfl)
      · have hv := hv.2 c53
        refine lv_iconst (pc := 56) (v := 1) hx hb (dOk_at dX7_readsPlace 34 rfl) (by decide) ?_
        refine lv_goto (pc := 57) (tgt := 61) hx hb (dOk_at dX7_readsPlace 35 rfl) (by decide) ?_
        obtain ⟨e0, e1, e2⟩ := hv
        subst e0
        subst e1
        subst e2
        rw [hQ]
        exact r_zret (pc := 61) fx hh rfl (dOk_at dX7_readsPlace 37 rfl)
    · have hv := hv.2 c17
      refine lv_iconst (pc := 20) (v := 0) hx hb (dOk_at dX7_readsPlace 11 rfl) (by decide) ?_
      obtain ⟨e0, e1, e2⟩ := hv
      subst e0
      subst e1
      subst e2
      rw [hQ]
      exact r_zret (pc := 21) fx hh rfl (dOk_at dX7_readsPlace 12 rfl)
set_option maxRecDepth 100000 in
set_option maxHeartbeats 4000000 in
theorem wk_X7_readsSkater (l : Launch) (G : GT) (m0 : Nat) (a4 : Nat) (a6 : Nat) (a7 : Nat) (a15 : Nat) (a16 : Nat) (a17 : Nat) (a21 : Nat) (a22 : Nat) (a24 : Nat) (a25 : Nat) (a26 : Nat) (a27 : Nat) (a28 : Nat) (a29 : Nat) (a30 : Nat) (f0 : Int32) (f1 : Int32) (f2 : Int32) (f3 : Int32) (f5 : Int32) (f8 : Int32) (f9 : Int32) (f10 : Int32) (f11 : Int32) (f12 : Int32) (f13 : Int32) (f14 : Int32) (f18 : Int32) (f19 : Int32) (f20 : Int32) (f23 : Int32) (f31 : Int32) (g4 : Nat → Int32) (g6 : Nat → Int32) (g7 : Nat → Int32) (g15 : Nat → Int32) (g16 : Nat → Int32) (g17 : Nat → Int32) (g21 : Nat → Int32) (g22 : Nat → Int32) (g24 : Nat → Int32) (g25 : Nat → Int32) (g26 : Nat → Int32) (g27 : Nat → Int32) (g28 : Nat → Int32) (g29 : Nat → Int32) (g30 : Nat → Int32) (fro : Int32) (n : Int32) (R : Int32) (t0_10 : Int32) (t0_14 : Int32) (t5 : Nat → Int32) (t6 : Nat → Int32) (h_X7_codeAt : K_X7_codeAt l G) (h_X7_figure : K_X7_figure l G)
    (hv : (f14 = 4 → (0 : Int32) = R ∧ f10 = t0_10 ∧ f14 = t0_14 ∧ g16 = t5 ∧ g17 = t6) ∧ (¬ f14 = 4 → okC f10 fro n ∧ (((q_code f10 fro n g29) = 44 → okC (f10 + 1) fro n ∧ (((q_code (f10 + 1) fro n g29) = 115 → okC ((f10 + 1) + 1) fro n ∧ ((0 ≤ (q_figR ((f10 + 1) + 1) fro n g29 1 9) → (∀ (v115 : Int32), v115 = (if (q_code (f10 + 1) fro n g29) = 115 then (0 : Int32) else (if (q_code (f10 + 1) fro n g29) = 107 then (1 : Int32) else (2 : Int32))) → vp_in f14 4 ∧ (vp_in f14 4 ∧ ((1 : Int32) = R ∧ (q_figP ((f10 + 1) + 1) fro n g29 1 9) = t0_10 ∧ (f14 + 1) = t0_14 ∧ (upd g16 f14.toNatClampNeg v115) = t5 ∧ (upd g17 f14.toNatClampNeg (q_figR ((f10 + 1) + 1) fro n g29 1 9)) = t6)))) ∧ (¬ 0 ≤ (q_figR ((f10 + 1) + 1) fro n g29 1 9) → (0 : Int32) = R ∧ (q_figP ((f10 + 1) + 1) fro n g29 1 9) = t0_10 ∧ f14 = t0_14 ∧ g16 = t5 ∧ g17 = t6))) ∧ (¬ (q_code (f10 + 1) fro n g29) = 115 → ((q_code (f10 + 1) fro n g29) = 107 → okC ((f10 + 1) + 1) fro n ∧ ((0 ≤ (q_figR ((f10 + 1) + 1) fro n g29 1 9) → (∀ (v115 : Int32), v115 = (if (q_code (f10 + 1) fro n g29) = 115 then (0 : Int32) else (if (q_code (f10 + 1) fro n g29) = 107 then (1 : Int32) else (2 : Int32))) → vp_in f14 4 ∧ (vp_in f14 4 ∧ ((1 : Int32) = R ∧ (q_figP ((f10 + 1) + 1) fro n g29 1 9) = t0_10 ∧ (f14 + 1) = t0_14 ∧ (upd g16 f14.toNatClampNeg v115) = t5 ∧ (upd g17 f14.toNatClampNeg (q_figR ((f10 + 1) + 1) fro n g29 1 9)) = t6)))) ∧ (¬ 0 ≤ (q_figR ((f10 + 1) + 1) fro n g29 1 9) → (0 : Int32) = R ∧ (q_figP ((f10 + 1) + 1) fro n g29 1 9) = t0_10 ∧ f14 = t0_14 ∧ g16 = t5 ∧ g17 = t6))) ∧ (¬ (q_code (f10 + 1) fro n g29) = 107 → ((q_code (f10 + 1) fro n g29) = 98 → okC ((f10 + 1) + 1) fro n ∧ ((0 ≤ (q_figR ((f10 + 1) + 1) fro n g29 1 9) → (∀ (v115 : Int32), v115 = (if (q_code (f10 + 1) fro n g29) = 115 then (0 : Int32) else (if (q_code (f10 + 1) fro n g29) = 107 then (1 : Int32) else (2 : Int32))) → vp_in f14 4 ∧ (vp_in f14 4 ∧ ((1 : Int32) = R ∧ (q_figP ((f10 + 1) + 1) fro n g29 1 9) = t0_10 ∧ (f14 + 1) = t0_14 ∧ (upd g16 f14.toNatClampNeg v115) = t5 ∧ (upd g17 f14.toNatClampNeg (q_figR ((f10 + 1) + 1) fro n g29 1 9)) = t6)))) ∧ (¬ 0 ≤ (q_figR ((f10 + 1) + 1) fro n g29 1 9) → (0 : Int32) = R ∧ (q_figP ((f10 + 1) + 1) fro n g29 1 9) = t0_10 ∧ f14 = t0_14 ∧ g16 = t5 ∧ g17 = t6))) ∧ (¬ (q_code (f10 + 1) fro n g29) = 98 → (0 : Int32) = R ∧ (f10 + 1) = t0_10 ∧ f14 = t0_14 ∧ g16 = t5 ∧ g17 = t6))))) ∧ (¬ (q_code f10 fro n g29) = 44 → (0 : Int32) = R ∧ f10 = t0_10 ∧ f14 = t0_14 ∧ g16 = t5 ∧ g17 = t6)))) :
    MF l G yX7_readsSkater cX7_readsSkater 5 (some .boolean) rm_X7_readsSkater [.ref m0, .int fro, .int n] [(m0, .inr (7, [.int f0, .int f1, .int f2, .int f3, .ref a4, .int f5, .ref a6, .ref a7, .int f8, .int f9, .int f10, .int f11, .int f12, .int f13, .int f14, .ref a15, .ref a16, .ref a17, .int f18, .int f19, .int f20, .ref a21, .ref a22, .int f23, .ref a24, .ref a25, .ref a26, .ref a27, .ref a28, .ref a29, .ref a30, .int f31])), (a4, .inl (G.2.1, 20, .inl g4)), (a6, .inl (G.2.1, 4, .inl g6)), (a7, .inl (G.2.1, 4, .inl g7)), (a15, .inl (G.2.1, 20, .inl g15)), (a16, .inl (G.2.1, 4, .inl g16)), (a17, .inl (G.2.1, 4, .inl g17)), (a21, .inl (G.2.1, 20, .inl g21)), (a22, .inl (G.2.1, 40, .inl g22)), (a24, .inl (G.2.1, 8, .inl g24)), (a25, .inl (G.2.1, 8, .inl g25)), (a26, .inl (G.2.2.1, 8, .inl g26)), (a27, .inl (G.2.1, 4, .inl g27)), (a28, .inl (G.2.1, 4, .inl g28)), (a29, .inl (G.2.1, 240, .inl g29)), (a30, .inl (G.2.1, 60, .inl g30))] (some (.int R)) [(m0, .inr (7, [.int f0, .int f1, .int f2, .int f3, .ref a4, .int f5, .ref a6, .ref a7, .int f8, .int f9, .int t0_10, .int f11, .int f12, .int f13, .int t0_14, .ref a15, .ref a16, .ref a17, .int f18, .int f19, .int f20, .ref a21, .ref a22, .int f23, .ref a24, .ref a25, .ref a26, .ref a27, .ref a28, .ref a29, .ref a30, .int f31])), (a4, .inl (G.2.1, 20, .inl g4)), (a6, .inl (G.2.1, 4, .inl g6)), (a7, .inl (G.2.1, 4, .inl g7)), (a15, .inl (G.2.1, 20, .inl g15)), (a16, .inl (G.2.1, 4, .inl t5)), (a17, .inl (G.2.1, 4, .inl t6)), (a21, .inl (G.2.1, 20, .inl g21)), (a22, .inl (G.2.1, 40, .inl g22)), (a24, .inl (G.2.1, 8, .inl g24)), (a25, .inl (G.2.1, 8, .inl g25)), (a26, .inl (G.2.2.1, 8, .inl g26)), (a27, .inl (G.2.1, 4, .inl g27)), (a28, .inl (G.2.1, 4, .inl g28)), (a29, .inl (G.2.1, 240, .inl g29)), (a30, .inl (G.2.1, 60, .inl g30))] := by
  refine MF.of (by decide +kernel) (Nat.le_of_ble_eq_true rfl) ?_
  intro p e s m args below meth c A ls fx hh hl _
  have hx := fx.hx
  have hb := fx.hb
  have hl : lv_has ls 5 [(0, .ref m0), (1, .int fro), (2, .int n)] := hl
  obtain ⟨Q, hQ⟩ : ∃ Q, Q = ZZ G A (some (.int R)) [(m0, .inr (7, [.int f0, .int f1, .int f2, .int f3, .ref a4, .int f5, .ref a6, .ref a7, .int f8, .int f9, .int t0_10, .int f11, .int f12, .int f13, .int t0_14, .ref a15, .ref a16, .ref a17, .int f18, .int f19, .int f20, .ref a21, .ref a22, .int f23, .ref a24, .ref a25, .ref a26, .ref a27, .ref a28, .ref a29, .ref a30, .int f31])), (a4, .inl (G.2.1, 20, .inl g4)), (a6, .inl (G.2.1, 4, .inl g6)), (a7, .inl (G.2.1, 4, .inl g7)), (a15, .inl (G.2.1, 20, .inl g15)), (a16, .inl (G.2.1, 4, .inl t5)), (a17, .inl (G.2.1, 4, .inl t6)), (a21, .inl (G.2.1, 20, .inl g21)), (a22, .inl (G.2.1, 40, .inl g22)), (a24, .inl (G.2.1, 8, .inl g24)), (a25, .inl (G.2.1, 8, .inl g25)), (a26, .inl (G.2.2.1, 8, .inl g26)), (a27, .inl (G.2.1, 4, .inl g27)), (a28, .inl (G.2.1, 4, .inl g28)), (a29, .inl (G.2.1, 240, .inl g29)), (a30, .inl (G.2.1, 60, .inl g30))] below args s := ⟨_, rfl⟩
  rw [← hQ]
  refine lv_aload_n (pc := 0) hx hb (dOk_at dX7_readsSkater 0 rfl) rfl (lv_at hl 0 rfl) ?_
  refine r_get (pc := 1) (ci := 7) fx hh inT7 rfl 14 (by decide) tFX7_101 rfl 0 rfl rfl (dOk_at dX7_readsSkater 1 rfl) ?_
  refine lv_iconst (pc := 4) (v := 4) hx hb (dOk_at dX7_readsSkater 2 rfl) (by decide) ?_
  refine lv_icmp_eq (pc := 5) (tgt := 19) hx hb (dOk_at dX7_readsSkater 3 rfl) (by decide) (fun c5 => ?_) (fun c5 => ?_)
  · have hv := hv.1 c5
    refine lv_iconst (pc := 19) (v := 0) hx hb (dOk_at dX7_readsSkater 10 rfl) (by decide) ?_
    obtain ⟨e0, e1, e2, e3, e4⟩ := hv
    subst e0
    subst e1
    subst e2
    subst e3
    subst e4
    rw [hQ]
    exact r_zret (pc := 20) fx hh rfl (dOk_at dX7_readsSkater 11 rfl)
  · have hv := hv.2 c5
    refine lv_aload_n (pc := 8) hx hb (dOk_at dX7_readsSkater 4 rfl) rfl (lv_at hl 0 rfl) ?_
    refine lv_iload_n (pc := 9) hx hb (dOk_at dX7_readsSkater 5 rfl) rfl (lv_at hl 1 rfl) ?_
    refine lv_iload_n (pc := 10) hx hb (dOk_at dX7_readsSkater 6 rfl) rfl (lv_at hl 2 rfl) ?_
    refine cl_V (pc := 11) (w' := [(m0, .inr (7, [.int f0, .int f1, .int f2, .int f3, .ref a4, .int f5, .ref a6, .ref a7, .int f8, .int f9, .int f10, .int f11, .int f12, .int f13, .int f14, .ref a15, .ref a16, .ref a17, .int f18, .int f19, .int f20, .ref a21, .ref a22, .int f23, .ref a24, .ref a25, .ref a26, .ref a27, .ref a28, .ref a29, .ref a30, .int f31])), (a4, .inl (G.2.1, 20, .inl g4)), (a6, .inl (G.2.1, 4, .inl g6)), (a7, .inl (G.2.1, 4, .inl g7)), (a15, .inl (G.2.1, 20, .inl g15)), (a16, .inl (G.2.1, 4, .inl g16)), (a17, .inl (G.2.1, 4, .inl g17)), (a21, .inl (G.2.1, 20, .inl g21)), (a22, .inl (G.2.1, 40, .inl g22)), (a24, .inl (G.2.1, 8, .inl g24)), (a25, .inl (G.2.1, 8, .inl g25)), (a26, .inl (G.2.2.1, 8, .inl g26)), (a27, .inl (G.2.1, 4, .inl g27)), (a28, .inl (G.2.1, 4, .inl g28)), (a29, .inl (G.2.1, 240, .inl g29)), (a30, .inl (G.2.1, 60, .inl g30))]) (wr := []) (rest := []) fx hh hl.1 (h_X7_codeAt m0 a4 a6 a7 a15 a16 a17 a21 a22 a24 a25 a26 a27 a28 a29 a30 f0 f1 f2 f3 f5 f8 f9 f10 f11 f12 f13 f14 f18 f19 f20 f23 f31 g4 g6 g7 g15 g16 g17 g21 g22 g24 g25 g26 g27 g28 g29 g30 fro n hv.1) yV_X7_codeAt tMX7_90 ⟨rfl, rfl, Nat.le_of_ble_eq_true rfl, Nat.le_of_ble_eq_true rfl⟩ 0 7 rfl rfl rfl [0, 1, 2, 3, 4, 5, 6, 7, 8, 9, 10, 11, 12, 13, 14, 15] [] [0, 1, 2, 3, 4, 5, 6, 7, 8, 9, 10, 11, 12, 13, 14, 15] rfl rfl rfl (by decide) (by decide) rfl rfl (Nat.le_of_ble_eq_true rfl) ⟨Nat.le_of_ble_eq_true rfl, Nat.le_of_ble_eq_true rfl⟩ (dOk_at dX7_readsSkater 7 rfl) (fun H locs hh => ?_)
    have hv := hv.2
    refine lv_bipush (pc := 14) (v := 44) hx hb (dOk_at dX7_readsSkater 8 rfl) (by decide) ?_
    refine lv_icmp_eq (pc := 16) (tgt := 21) hx hb (dOk_at dX7_readsSkater 9 rfl) (by decide) (fun c16 => ?_) (fun c16 => ?_)
    · have hv := hv.1 c16
      refine lv_aload_n (pc := 21) hx hb (dOk_at dX7_readsSkater 12 rfl) rfl (lv_at hl 0 rfl) ?_
      refine lv_dup (pc := 22) hx hb (dOk_at dX7_readsSkater 13 rfl) rfl ?_
      refine r_get (pc := 23) (ci := 7) fx hh inT7 rfl 10 (by decide) tFX7_87 rfl 0 rfl rfl (dOk_at dX7_readsSkater 14 rfl) ?_
      refine lv_iconst (pc := 26) (v := 1) hx hb (dOk_at dX7_readsSkater 15 rfl) (by decide) ?_
      refine lv_iadd (pc := 27) hx hb (dOk_at dX7_readsSkater 16 rfl) ?_
      refine r_put (pc := 28) (ci := 7) (w' := [(m0, .inr (7, [.int f0, .int f1, .int f2, .int f3, .ref a4, .int f5, .ref a6, .ref a7, .int f8, .int f9, .int (f10 + 1), .int f11, .int f12, .int f13, .int f14, .ref a15, .ref a16, .ref a17, .int f18, .int f19, .int f20, .ref a21, .ref a22, .int f23, .ref a24, .ref a25, .ref a26, .ref a27, .ref a28, .ref a29, .ref a30, .int f31])), (a4, .inl (G.2.1, 20, .inl g4)), (a6, .inl (G.2.1, 4, .inl g6)), (a7, .inl (G.2.1, 4, .inl g7)), (a15, .inl (G.2.1, 20, .inl g15)), (a16, .inl (G.2.1, 4, .inl g16)), (a17, .inl (G.2.1, 4, .inl g17)), (a21, .inl (G.2.1, 20, .inl g21)), (a22, .inl (G.2.1, 40, .inl g22)), (a24, .inl (G.2.1, 8, .inl g24)), (a25, .inl (G.2.1, 8, .inl g25)), (a26, .inl (G.2.2.1, 8, .inl g26)), (a27, .inl (G.2.1, 4, .inl g27)), (a28, .inl (G.2.1, 4, .inl g28)), (a29, .inl (G.2.1, 240, .inl g29)), (a30, .inl (G.2.1, 60, .inl g30))]) fx hh inT7 tyX7 tyX7_ok nmX7 rfl 10 (by decide) tFX7_87 rfl rfl 0 rfl rfl rfl (Nat.le_of_ble_eq_true rfl) rfl (dOk_at dX7_readsSkater 17 rfl) (fun H locs hh => ?_)
      refine lv_aload_n (pc := 31) hx hb (dOk_at dX7_readsSkater 18 rfl) rfl (lv_at hl 0 rfl) ?_
      refine lv_iload_n (pc := 32) hx hb (dOk_at dX7_readsSkater 19 rfl) rfl (lv_at hl 1 rfl) ?_
      refine lv_iload_n (pc := 33) hx hb (dOk_at dX7_readsSkater 20 rfl) rfl (lv_at hl 2 rfl) ?_
      refine cl_V (pc := 34) (w' := [(m0, .inr (7, [.int f0, .int f1, .int f2, .int f3, .ref a4, .int f5, .ref a6, .ref a7, .int f8, .int f9, .int (f10 + 1), .int f11, .int f12, .int f13, .int f14, .ref a15, .ref a16, .ref a17, .int f18, .int f19, .int f20, .ref a21, .ref a22, .int f23, .ref a24, .ref a25, .ref a26, .ref a27, .ref a28, .ref a29, .ref a30, .int f31])), (a4, .inl (G.2.1, 20, .inl g4)), (a6, .inl (G.2.1, 4, .inl g6)), (a7, .inl (G.2.1, 4, .inl g7)), (a15, .inl (G.2.1, 20, .inl g15)), (a16, .inl (G.2.1, 4, .inl g16)), (a17, .inl (G.2.1, 4, .inl g17)), (a21, .inl (G.2.1, 20, .inl g21)), (a22, .inl (G.2.1, 40, .inl g22)), (a24, .inl (G.2.1, 8, .inl g24)), (a25, .inl (G.2.1, 8, .inl g25)), (a26, .inl (G.2.2.1, 8, .inl g26)), (a27, .inl (G.2.1, 4, .inl g27)), (a28, .inl (G.2.1, 4, .inl g28)), (a29, .inl (G.2.1, 240, .inl g29)), (a30, .inl (G.2.1, 60, .inl g30))]) (wr := []) (rest := []) fx hh hl.1 (h_X7_codeAt m0 a4 a6 a7 a15 a16 a17 a21 a22 a24 a25 a26 a27 a28 a29 a30 f0 f1 f2 f3 f5 f8 f9 (f10 + 1) f11 f12 f13 f14 f18 f19 f20 f23 f31 g4 g6 g7 g15 g16 g17 g21 g22 g24 g25 g26 g27 g28 g29 g30 fro n hv.1) yV_X7_codeAt tMX7_90 ⟨rfl, rfl, Nat.le_of_ble_eq_true rfl, Nat.le_of_ble_eq_true rfl⟩ 0 7 rfl rfl rfl [0, 1, 2, 3, 4, 5, 6, 7, 8, 9, 10, 11, 12, 13, 14, 15] [] [0, 1, 2, 3, 4, 5, 6, 7, 8, 9, 10, 11, 12, 13, 14, 15] rfl rfl rfl (by decide) (by decide) rfl rfl (Nat.le_of_ble_eq_true rfl) ⟨Nat.le_of_ble_eq_true rfl, Nat.le_of_ble_eq_true rfl⟩ (dOk_at dX7_readsSkater 21 rfl) (fun H locs hh => ?_)
      have hv := hv.2
      refine lv_istore_n (pc := 37) (lv' := [(3, .int (q_code (f10 + 1) fro n g29)), (0, .ref m0), (1, .int fro), (2, .int n)]) hx hb (dOk_at dX7_readsSkater 22 rfl) rfl hl (by decide) rfl (fun ls hl => ?_)
      refine lv_iload_n (pc := 38) hx hb (dOk_at dX7_readsSkater 23 rfl) rfl (lv_at hl 0 rfl) ?_
      refine lv_bipush (pc := 39) (v := 115) hx hb (dOk_at dX7_readsSkater 24 rfl) (by decide) ?_
      refine lv_icmp_eq (pc := 41) (tgt := 58) hx hb (dOk_at dX7_readsSkater 25 rfl) (by decide) (fun c41 => ?_) (fun c41 => ?_)
      · have hv := hv.1 c41
        refine lv_aload_n (pc := 58) hx hb (dOk_at dX7_readsSkater 34 rfl) rfl (lv_at hl 1 rfl) ?_
        refine lv_dup (pc := 59) hx hb (dOk_at dX7_readsSkater 35 rfl) rfl ?_
        refine r_get (pc := 60) (ci := 7) fx hh inT7 rfl 10 (by decide) tFX7_87 rfl 0 rfl rfl (dOk_at dX7_readsSkater 36 rfl) ?_
        refine lv_iconst (pc := 63) (v := 1) hx hb (dOk_at dX7_readsSkater 37 rfl) (by decide) ?_
        refine lv_iadd (pc := 64) hx hb (dOk_at dX7_readsSkater 38 rfl) ?_
        refine r_put (pc := 65) (ci := 7) (w' := [(m0, .inr (7, [.int f0, .int f1, .int f2, .int f3, .ref a4, .int f5, .ref a6, .ref a7, .int f8, .int f9, .int ((f10 + 1) + 1), .int f11, .int f12, .int f13, .int f14, .ref a15, .ref a16, .ref a17, .int f18, .int f19, .int f20, .ref a21, .ref a22, .int f23, .ref a24, .ref a25, .ref a26, .ref a27, .ref a28, .ref a29, .ref a30, .int f31])), (a4, .inl (G.2.1, 20, .inl g4)), (a6, .inl (G.2.1, 4, .inl g6)), (a7, .inl (G.2.1, 4, .inl g7)), (a15, .inl (G.2.1, 20, .inl g15)), (a16, .inl (G.2.1, 4, .inl g16)), (a17, .inl (G.2.1, 4, .inl g17)), (a21, .inl (G.2.1, 20, .inl g21)), (a22, .inl (G.2.1, 40, .inl g22)), (a24, .inl (G.2.1, 8, .inl g24)), (a25, .inl (G.2.1, 8, .inl g25)), (a26, .inl (G.2.2.1, 8, .inl g26)), (a27, .inl (G.2.1, 4, .inl g27)), (a28, .inl (G.2.1, 4, .inl g28)), (a29, .inl (G.2.1, 240, .inl g29)), (a30, .inl (G.2.1, 60, .inl g30))]) fx hh inT7 tyX7 tyX7_ok nmX7 rfl 10 (by decide) tFX7_87 rfl rfl 0 rfl rfl rfl (Nat.le_of_ble_eq_true rfl) rfl (dOk_at dX7_readsSkater 39 rfl) (fun H locs hh => ?_)
        refine lv_aload_n (pc := 68) hx hb (dOk_at dX7_readsSkater 40 rfl) rfl (lv_at hl 1 rfl) ?_
        refine lv_iload_n (pc := 69) hx hb (dOk_at dX7_readsSkater 41 rfl) rfl (lv_at hl 2 rfl) ?_
        refine lv_iload_n (pc := 70) hx hb (dOk_at dX7_readsSkater 42 rfl) rfl (lv_at hl 3 rfl) ?_
        refine lv_iconst (pc := 71) (v := 1) hx hb (dOk_at dX7_readsSkater 43 rfl) (by decide) ?_
        refine lv_bipush (pc := 72) (v := 9) hx hb (dOk_at dX7_readsSkater 44 rfl) (by decide) ?_
        refine cl_V (pc := 74) (w' := [(m0, .inr (7, [.int f0, .int f1, .int f2, .int f3, .ref a4, .int f5, .ref a6, .ref a7, .int f8, .int f9, .int (q_figP ((f10 + 1) + 1) fro n g29 1 9), .int f11, .int f12, .int f13, .int f14, .ref a15, .ref a16, .ref a17, .int f18, .int f19, .int f20, .ref a21, .ref a22, .int f23, .ref a24, .ref a25, .ref a26, .ref a27, .ref a28, .ref a29, .ref a30, .int f31])), (a4, .inl (G.2.1, 20, .inl g4)), (a6, .inl (G.2.1, 4, .inl g6)), (a7, .inl (G.2.1, 4, .inl g7)), (a15, .inl (G.2.1, 20, .inl g15)), (a16, .inl (G.2.1, 4, .inl g16)), (a17, .inl (G.2.1, 4, .inl g17)), (a21, .inl (G.2.1, 20, .inl g21)), (a22, .inl (G.2.1, 40, .inl g22)), (a24, .inl (G.2.1, 8, .inl g24)), (a25, .inl (G.2.1, 8, .inl g25)), (a26, .inl (G.2.2.1, 8, .inl g26)), (a27, .inl (G.2.1, 4, .inl g27)), (a28, .inl (G.2.1, 4, .inl g28)), (a29, .inl (G.2.1, 240, .inl g29)), (a30, .inl (G.2.1, 60, .inl g30))]) (wr := []) (rest := []) fx hh hl.1 (h_X7_figure m0 a4 a6 a7 a15 a16 a17 a21 a22 a24 a25 a26 a27 a28 a29 a30 f0 f1 f2 f3 f5 f8 f9 ((f10 + 1) + 1) f11 f12 f13 f14 f18 f19 f20 f23 f31 g4 g6 g7 g15 g16 g17 g21 g22 g24 g25 g26 g27 g28 g29 g30 fro n 1 9 hv.1) yV_X7_figure tMX7_97 ⟨rfl, rfl, Nat.le_of_ble_eq_true rfl, Nat.le_of_ble_eq_true rfl⟩ 0 7 rfl rfl rfl [0, 1, 2, 3, 4, 5, 6, 7, 8, 9, 10, 11, 12, 13, 14, 15] [] [0, 1, 2, 3, 4, 5, 6, 7, 8, 9, 10, 11, 12, 13, 14, 15] rfl rfl rfl (by decide) (by decide) rfl rfl (Nat.le_of_ble_eq_true rfl) ⟨Nat.le_of_ble_eq_true rfl, Nat.le_of_ble_eq_true rfl⟩ (dOk_at dX7_readsSkater 45 rfl) (fun H locs hh => ?_)
        have hv := hv.2
        refine lv_istore (pc := 77) (lv' := [(4, .int (q_figR ((f10 + 1) + 1) fro n g29 1 9)), (3, .int (q_code (f10 + 1) fro n g29)), (0, .ref m0), (1, .int fro), (2, .int n)]) hx hb (dOk_at dX7_readsSkater 46 rfl) hl (by decide) rfl (fun ls hl => ?_)
        refine lv_iload (pc := 79) hx hb (dOk_at dX7_readsSkater 47 rfl) (lv_at hl 0 rfl) ?_
        refine lv_if_ge (pc := 81) (tgt := 86) hx hb (dOk_at dX7_readsSkater 48 rfl) (by decide) (fun c81 => ?_) (fun c81 => ?_)
        · have hv := hv.1 c81
          refine lv_aload_n (pc := 86) hx hb (dOk_at dX7_readsSkater 51 rfl) rfl (lv_at hl 2 rfl) ?_
          refine r_get (pc := 87) (ci := 7) fx hh inT7 rfl 16 (by decide) tFX7_22 rfl 0 rfl rfl (dOk_at dX7_readsSkater 52 rfl) ?_
          refine lv_aload_n (pc := 90) hx hb (dOk_at dX7_readsSkater 53 rfl) rfl (lv_at hl 2 rfl) ?_
          refine r_get (pc := 91) (ci := 7) fx hh inT7 rfl 14 (by decide) tFX7_101 rfl 0 rfl rfl (dOk_at dX7_readsSkater 54 rfl) ?_
          refine lv_iload_n (pc := 94) hx hb (dOk_at dX7_readsSkater 55 rfl) rfl (lv_at hl 1 rfl) ?_
          refine lv_bipush (pc := 95) (v := 115) hx hb (dOk_at dX7_readsSkater 56 rfl) (by decide) ?_
          have k115_97 : ∀ (v115 : Int32), v115 = (if (q_code (f10 + 1) fro n g29) = 115 then (0 : Int32) else (if (q_code (f10 + 1) fro n g29) = 107 then (1 : Int32) else (2 : Int32))) → ∀ (H : Heap) (locs : List Loc) (ls : Array Slot), HP G A [(m0, .inr (7, [.int f0, .int f1, .int f2, .int f3, .ref a4, .int f5, .ref a6, .ref a7, .int f8, .int f9, .int (q_figP ((f10 + 1) + 1) fro n g29 1 9), .int f11, .int f12, .int f13, .int f14, .ref a15, .ref a16, .ref a17, .int f18, .int f19, .int f20, .ref a21, .ref a22, .int f23, .ref a24, .ref a25, .ref a26, .ref a27, .ref a28, .ref a29, .ref a30, .int f31])), (a4, .inl (G.2.1, 20, .inl g4)), (a6, .inl (G.2.1, 4, .inl g6)), (a7, .inl (G.2.1, 4, .inl g7)), (a15, .inl (G.2.1, 20, .inl g15)), (a16, .inl (G.2.1, 4, .inl g16)), (a17, .inl (G.2.1, 4, .inl g17)), (a21, .inl (G.2.1, 20, .inl g21)), (a22, .inl (G.2.1, 40, .inl g22)), (a24, .inl (G.2.1, 8, .inl g24)), (a25, .inl (G.2.1, 8, .inl g25)), (a26, .inl (G.2.2.1, 8, .inl g26)), (a27, .inl (G.2.1, 4, .inl g27)), (a28, .inl (G.2.1, 4, .inl g28)), (a29, .inl (G.2.1, 240, .inl g29)), (a30, .inl (G.2.1, 60, .inl g30))] s H locs → lv_has ls 5 [(0, .ref m0), (4, .int (q_figR ((f10 + 1) + 1) fro n g29 1 9))] → W p l e rm_X7_readsSkater s m args below meth c H locs 0 0 Q (F0 m 115 ls [.int v115, .int f14, .ref a16]) := by
            intro v115 e115_0 H locs ls hh hl
            have hv := hv v115 e115_0
            refine r_iast (pc := 115) (w' := [(m0, .inr (7, [.int f0, .int f1, .int f2, .int f3, .ref a4, .int f5, .ref a6, .ref a7, .int f8, .int f9, .int (q_figP ((f10 + 1) + 1) fro n g29 1 9), .int f11, .int f12, .int f13, .int f14, .ref a15, .ref a16, .ref a17, .int f18, .int f19, .int f20, .ref a21, .ref a22, .int f23, .ref a24, .ref a25, .ref a26, .ref a27, .ref a28, .ref a29, .ref a30, .int f31])), (a4, .inl (G.2.1, 20, .inl g4)), (a6, .inl (G.2.1, 4, .inl g6)), (a7, .inl (G.2.1, 4, .inl g7)), (a15, .inl (G.2.1, 20, .inl g15)), (a16, .inl (G.2.1, 4, .inl (upd g16 f14.toNatClampNeg v115))), (a17, .inl (G.2.1, 4, .inl g17)), (a21, .inl (G.2.1, 20, .inl g21)), (a22, .inl (G.2.1, 40, .inl g22)), (a24, .inl (G.2.1, 8, .inl g24)), (a25, .inl (G.2.1, 8, .inl g25)), (a26, .inl (G.2.2.1, 8, .inl g26)), (a27, .inl (G.2.1, 4, .inl g27)), (a28, .inl (G.2.1, 4, .inl g28)), (a29, .inl (G.2.1, 240, .inl g29)), (a30, .inl (G.2.1, 60, .inl g30))]) fx hh 5 rfl hv.1 rfl (dOk_at dX7_readsSkater 66 rfl) (fun H locs hh => ?_)
            have hv := hv.2
            refine lv_aload_n (pc := 116) hx hb (dOk_at dX7_readsSkater 67 rfl) rfl (lv_at hl 0 rfl) ?_
            refine r_get (pc := 117) (ci := 7) fx hh inT7 rfl 17 (by decide) tFX7_25 rfl 0 rfl rfl (dOk_at dX7_readsSkater 68 rfl) ?_
            refine lv_aload_n (pc := 120) hx hb (dOk_at dX7_readsSkater 69 rfl) rfl (lv_at hl 0 rfl) ?_
            refine r_get (pc := 121) (ci := 7) fx hh inT7 rfl 14 (by decide) tFX7_101 rfl 0 rfl rfl (dOk_at dX7_readsSkater 70 rfl) ?_
            refine lv_iload (pc := 124) hx hb (dOk_at dX7_readsSkater 71 rfl) (lv_at hl 1 rfl) ?_
            refine r_iast (pc := 126) (w' := [(m0, .inr (7, [.int f0, .int f1, .int f2, .int f3, .ref a4, .int f5, .ref a6, .ref a7, .int f8, .int f9, .int (q_figP ((f10 + 1) + 1) fro n g29 1 9), .int f11, .int f12, .int f13, .int f14, .ref a15, .ref a16, .ref a17, .int f18, .int f19, .int f20, .ref a21, .ref a22, .int f23, .ref a24, .ref a25, .ref a26, .ref a27, .ref a28, .ref a29, .ref a30, .int f31])), (a4, .inl (G.2.1, 20, .inl g4)), (a6, .inl (G.2.1, 4, .inl g6)), (a7, .inl (G.2.1, 4, .inl g7)), (a15, .inl (G.2.1, 20, .inl g15)), (a16, .inl (G.2.1, 4, .inl (upd g16 f14.toNatClampNeg v115))), (a17, .inl (G.2.1, 4, .inl (upd g17 f14.toNatClampNeg (q_figR ((f10 + 1) + 1) fro n g29 1 9)))), (a21, .inl (G.2.1, 20, .inl g21)), (a22, .inl (G.2.1, 40, .inl g22)), (a24, .inl (G.2.1, 8, .inl g24)), (a25, .inl (G.2.1, 8, .inl g25)), (a26, .inl (G.2.2.1, 8, .inl g26)), (a27, .inl (G.2.1, 4, .inl g27)), (a28, .inl (G.2.1, 4, .inl g28)), (a29, .inl (G.2.1, 240, .inl g29)), (a30, .inl (G.2.1, 60, .inl g30))]) fx hh 6 rfl hv.1 rfl (dOk_at dX7_readsSkater 72 rfl) (fun H locs hh => ?_)
            have hv := hv.2
            refine lv_aload_n (pc := 127) hx hb (dOk_at dX7_readsSkater 73 rfl) rfl (lv_at hl 0 rfl) ?_
            refine lv_dup (pc := 128) hx hb (dOk_at dX7_readsSkater 74 rfl) rfl ?_
            refine r_get (pc := 129) (ci := 7) fx hh inT7 rfl 14 (by decide) tFX7_101 rfl 0 rfl rfl (dOk_at dX7_readsSkater 75 rfl) ?_
            refine lv_iconst (pc := 132) (v := 1) hx hb (dOk_at dX7_readsSkater 76 rfl) (by decide) ?_
            refine lv_iadd (pc := 133) hx hb (dOk_at dX7_readsSkater 77 rfl) ?_
            refine r_put (pc := 134) (ci := 7) (w' := [(m0, .inr (7, [.int f0, .int f1, .int f2, .int f3, .ref a4, .int f5, .ref a6, .ref a7, .int f8, .int f9, .int (q_figP ((f10 + 1) + 1) fro n g29 1 9), .int f11, .int f12, .int f13, .int (f14 + 1), .ref a15, .ref a16, .ref a17, .int f18, .int f19, .int f20, .ref a21, .ref a22, .int f23, .ref a24, .ref a25, .ref a26, .ref a27, .ref a28, .ref a29, .ref a30, .int f31])), (a4, .inl (G.2.1, 20, .inl g4)), (a6, .inl (G.2.1, 4, .inl g6)), (a7, .inl (G.2.1, 4, .inl g7)), (a15, .inl (G.2.1, 20, .inl g15)), (a16, .inl (G.2.1, 4, .inl (upd g16 f14.toNatClampNeg v115))), (a17, .inl (G.2.1, 4, .inl (upd g17 f14.toNatClampNeg (q_figR ((f10 + 1) + 1) fro n g29 1 9)))), (a21, .inl (G.2.1, 20, .inl g21)), (a22, .inl (G.2.1, 40, .inl g22)), (a24, .inl (G.2.1, 8, .inl g24)), (a25, .inl (G.2.1, 8, .inl g25)), (a26, .inl (G.2.2.1, 8, .inl g26)), (a27, .inl (G.2.1, 4, .inl g27)), (a28, .inl (G.2.1, 4, .inl g28)), (a29, .inl (G.2.1, 240, .inl g29)), (a30, .inl (G.2.1, 60, .inl g30))]) fx hh inT7 tyX7 tyX7_ok nmX7 rfl 14 (by decide) tFX7_101 rfl rfl 0 rfl rfl rfl (Nat.le_of_ble_eq_true rfl) rfl (dOk_at dX7_readsSkater 78 rfl) (fun H locs hh => ?_)
            refine lv_iconst (pc := 137) (v := 1) hx hb (dOk_at dX7_readsSkater 79 rfl) (by decide) ?_
            obtain ⟨e0, e1, e2, e3, e4⟩ := hv
            subst e0
            subst e1
            subst e2
            subst e3
            subst e4
            rw [hQ]
            exact r_zret (pc := 138) fx hh rfl (dOk_at dX7_readsSkater 80 rfl)
          refine lv_icmp_ne (pc := 97) (tgt := 104) hx hb (dOk_at dX7_readsSkater 57 rfl) (by decide) (fun c97 => ?_) (fun c97 => ?_)
          · refine lv_iload_n (pc := 104) hx hb (dOk_at dX7_readsSkater 60 rfl) rfl (lv_at hl 1 rfl) ?_
            refine lv_bipush (pc := 105) (v := 107) hx hb (dOk_at dX7_readsSkater 61 rfl) (by decide) ?_
            refine lv_icmp_ne (pc := 107) (tgt := 114) hx hb (dOk_at dX7_readsSkater 62 rfl) (by decide) (fun c107 => ?_) (fun c107 => ?_)
            · refine lv_iconst (pc := 114) (v := 2) hx hb (dOk_at dX7_readsSkater 65 rfl) (by decide) ?_
              exact k115_97 _ ((if_neg c97).trans (if_neg c107)).symm _ _ _ hh (lv_sub hl [2, 0] rfl)
            · refine lv_iconst (pc := 110) (v := 1) hx hb (dOk_at dX7_readsSkater 63 rfl) (by decide) ?_
              refine lv_goto (pc := 111) (tgt := 115) hx hb (dOk_at dX7_readsSkater 64 rfl) (by decide) ?_
              exact k115_97 _ ((if_neg c97).trans (if_pos c107)).symm _ _ _ hh (lv_sub hl [2, 0] rfl)
          · refine lv_iconst (pc := 100) (v := 0) hx hb (dOk_at dX7_readsSkater 58 rfl) (by decide) ?_
            refine lv_goto (pc := 101) (tgt := 115) hx hb (dOk_at dX7_readsSkater 59 rfl) (by decide) ?_
            exact k115_97 _ (if_pos c97).symm _ _ _ hh (lv_sub hl [2, 0] rfl)
        · have hv := hv.2 c81
          refine lv_iconst (pc := 84) (v := 0) hx hb (dOk_at dX7_readsSkater 49 rfl) (by decide) ?_
          obtain ⟨e0, e1, e2, e3, e4⟩ := hv
          subst e0
          subst e1
          subst e2
          subst e3
          subst e4
          rw [hQ]
          exact r_zret (pc := 85) fx hh rfl (dOk_at dX7_readsSkater 50 rfl)
      · have hv := hv.2 c41
        refine lv_iload_n (pc := 44) hx hb (dOk_at dX7_readsSkater 26 rfl) rfl (lv_at hl 0 rfl) ?_
        refine lv_bipush (pc := 45) (v := 107) hx hb (dOk_at dX7_readsSkater 27 rfl) (by decide) ?_
        refine lv_icmp_eq (pc := 47) (tgt := 58) hx hb (dOk_at dX7_readsSkater 28 rfl) (by decide) (fun c47 => ?_) (fun c47 => ?_)
        · have hv := hv.1 c47
          refine lv_aload_n (pc := 58) hx hb (dOk_at dX7_readsSkater 34 rfl) rfl (lv_at hl 1 rfl) ?_
          refine lv_dup (pc := 59) hx hb (dOk_at dX7_readsSkater 35 rfl) rfl ?_
          refine r_get (pc := 60) (ci := 7) fx hh inT7 rfl 10 (by decide) tFX7_87 rfl 0 rfl rfl (dOk_at dX7_readsSkater 36 rfl) ?_
          refine lv_iconst (pc := 63) (v := 1) hx hb (dOk_at dX7_readsSkater 37 rfl) (by decide) ?_
          refine lv_iadd (pc := 64) hx hb (dOk_at dX7_readsSkater 38 rfl) ?_
          refine r_put (pc := 65) (ci := 7) (w' := [(m0, .inr (7, [.int f0, .int f1, .int f2, .int f3, .ref a4, .int f5, .ref a6, .ref a7, .int f8, .int f9, .int ((f10 + 1) + 1), .int f11, .int f12, .int f13, .int f14, .ref a15, .ref a16, .ref a17, .int f18, .int f19, .int f20, .ref a21, .ref a22, .int f23, .ref a24, .ref a25, .ref a26, .ref a27, .ref a28, .ref a29, .ref a30, .int f31])), (a4, .inl (G.2.1, 20, .inl g4)), (a6, .inl (G.2.1, 4, .inl g6)), (a7, .inl (G.2.1, 4, .inl g7)), (a15, .inl (G.2.1, 20, .inl g15)), (a16, .inl (G.2.1, 4, .inl g16)), (a17, .inl (G.2.1, 4, .inl g17)), (a21, .inl (G.2.1, 20, .inl g21)), (a22, .inl (G.2.1, 40, .inl g22)), (a24, .inl (G.2.1, 8, .inl g24)), (a25, .inl (G.2.1, 8, .inl g25)), (a26, .inl (G.2.2.1, 8, .inl g26)), (a27, .inl (G.2.1, 4, .inl g27)), (a28, .inl (G.2.1, 4, .inl g28)), (a29, .inl (G.2.1, 240, .inl g29)), (a30, .inl (G.2.1, 60, .inl g30))]) fx hh inT7 tyX7 tyX7_ok nmX7 rfl 10 (by decide) tFX7_87 rfl rfl 0 rfl rfl rfl (Nat.le_of_ble_eq_true rfl) rfl (dOk_at dX7_readsSkater 39 rfl) (fun H locs hh => ?_)
          refine lv_aload_n (pc := 68) hx hb (dOk_at dX7_readsSkater 40 rfl) rfl (lv_at hl 1 rfl) ?_
          refine lv_iload_n (pc := 69) hx hb (dOk_at dX7_readsSkater 41 rfl) rfl (lv_at hl 2 rfl) ?_
          refine lv_iload_n (pc := 70) hx hb (dOk_at dX7_readsSkater 42 rfl) rfl (lv_at hl 3 rfl) ?_
          refine lv_iconst (pc := 71) (v := 1) hx hb (dOk_at dX7_readsSkater 43 rfl) (by decide) ?_
          refine lv_bipush (pc := 72) (v := 9) hx hb (dOk_at dX7_readsSkater 44 rfl) (by decide) ?_
          refine cl_V (pc := 74) (w' := [(m0, .inr (7, [.int f0, .int f1, .int f2, .int f3, .ref a4, .int f5, .ref a6, .ref a7, .int f8, .int f9, .int (q_figP ((f10 + 1) + 1) fro n g29 1 9), .int f11, .int f12, .int f13, .int f14, .ref a15, .ref a16, .ref a17, .int f18, .int f19, .int f20, .ref a21, .ref a22, .int f23, .ref a24, .ref a25, .ref a26, .ref a27, .ref a28, .ref a29, .ref a30, .int f31])), (a4, .inl (G.2.1, 20, .inl g4)), (a6, .inl (G.2.1, 4, .inl g6)), (a7, .inl (G.2.1, 4, .inl g7)), (a15, .inl (G.2.1, 20, .inl g15)), (a16, .inl (G.2.1, 4, .inl g16)), (a17, .inl (G.2.1, 4, .inl g17)), (a21, .inl (G.2.1, 20, .inl g21)), (a22, .inl (G.2.1, 40, .inl g22)), (a24, .inl (G.2.1, 8, .inl g24)), (a25, .inl (G.2.1, 8, .inl g25)), (a26, .inl (G.2.2.1, 8, .inl g26)), (a27, .inl (G.2.1, 4, .inl g27)), (a28, .inl (G.2.1, 4, .inl g28)), (a29, .inl (G.2.1, 240, .inl g29)), (a30, .inl (G.2.1, 60, .inl g30))]) (wr := []) (rest := []) fx hh hl.1 (h_X7_figure m0 a4 a6 a7 a15 a16 a17 a21 a22 a24 a25 a26 a27 a28 a29 a30 f0 f1 f2 f3 f5 f8 f9 ((f10 + 1) + 1) f11 f12 f13 f14 f18 f19 f20 f23 f31 g4 g6 g7 g15 g16 g17 g21 g22 g24 g25 g26 g27 g28 g29 g30 fro n 1 9 hv.1) yV_X7_figure tMX7_97 ⟨rfl, rfl, Nat.le_of_ble_eq_true rfl, Nat.le_of_ble_eq_true rfl⟩ 0 7 rfl rfl rfl [0, 1, 2, 3, 4, 5, 6, 7, 8, 9, 10, 11, 12, 13, 14, 15] [] [0, 1, 2, 3, 4, 5, 6, 7, 8, 9, 10, 11, 12, 13, 14, 15] rfl rfl rfl (by decide) (by decide) rfl rfl (Nat.le_of_ble_eq_true rfl) ⟨Nat.le_of_ble_eq_true rfl, Nat.le_of_ble_eq_true rfl⟩ (dOk_at dX7_readsSkater 45 rfl) (fun H locs hh => ?_)
          have hv := hv.2
          refine lv_istore (pc := 77) (lv' := [(4, .int (q_figR ((f10 + 1) + 1) fro n g29 1 9)), (3, .int (q_code (f10 + 1) fro n g29)), (0, .ref m0), (1, .int fro), (2, .int n)]) hx hb (dOk_at dX7_readsSkater 46 rfl) hl (by decide) rfl (fun ls hl => ?_)
          refine lv_iload (pc := 79) hx hb (dOk_at dX7_readsSkater 47 rfl) (lv_at hl 0 rfl) ?_
          refine lv_if_ge (pc := 81) (tgt := 86) hx hb (dOk_at dX7_readsSkater 48 rfl) (by decide) (fun c81 => ?_) (fun c81 => ?_)
          · have hv := hv.1 c81
            refine lv_aload_n (pc := 86) hx hb (dOk_at dX7_readsSkater 51 rfl) rfl (lv_at hl 2 rfl) ?_
            refine r_get (pc := 87) (ci := 7) fx hh inT7 rfl 16 (by decide) tFX7_22 rfl 0 rfl rfl (dOk_at dX7_readsSkater 52 rfl) ?_
            refine lv_aload_n (pc := 90) hx hb (dOk_at dX7_readsSkater 53 rfl) rfl (lv_at hl 2 rfl) ?_
            refine r_get (pc := 91) (ci := 7) fx hh inT7 rfl 14 (by decide) tFX7_101 rfl 0 rfl rfl (dOk_at dX7_readsSkater 54 rfl) ?_
            refine lv_iload_n (pc := 94) hx hb (dOk_at dX7_readsSkater 55 rfl) rfl (lv_at hl 1 rfl) ?_
            refine lv_bipush (pc := 95) (v := 115) hx hb (dOk_at dX7_readsSkater 56 rfl) (by decide) ?_
            have k115_97 : ∀ (v115 : Int32), v115 = (if (q_code (f10 + 1) fro n g29) = 115 then (0 : Int32) else (if (q_code (f10 + 1) fro n g29) = 107 then (1 : Int32) else (2 : Int32))) → ∀ (H : Heap) (locs : List Loc) (ls : Array Slot), HP G A [(m0, .inr (7, [.int f0, .int f1, .int f2, .int f3, .ref a4, .int f5, .ref a6, .ref a7, .int f8, .int f9, .int (q_figP ((f10 + 1) + 1) fro n g29 1 9), .int f11, .int f12, .int f13, .int f14, .ref a15, .ref a16, .ref a17, .int f18, .int f19, .int f20, .ref a21, .ref a22, .int f23, .ref a24, .ref a25, .ref a26, .ref a27, .ref a28, .ref a29, .ref a30, .int f31])), (a4, .inl (G.2.1, 20, .inl g4)), (a6, .inl (G.2.1, 4, .inl g6)), (a7, .inl (G.2.1, 4, .inl g7)), (a15, .inl (G.2.1, 20, .inl g15)), (a16, .inl (G.2.1, 4, .inl g16)), (a17, .inl (G.2.1, 4, .inl g17)), (a21, .inl (G.2.1, 20, .inl g21)), (a22, .inl (G.2.1, 40, .inl g22)), (a24, .inl (G.2.1, 8, .inl g24)), (a25, .inl (G.2.1, 8, .inl g25)), (a26, .inl (G.2.2.1, 8, .inl g26)), (a27, .inl (G.2.1, 4, .inl g27)), (a28, .inl (G.2.1, 4, .inl g28)), (a29, .inl (G.2.1, 240, .inl g29)), (a30, .inl (G.2.1, 60, .inl g30))] s H locs → lv_has ls 5 [(0, .ref m0), (4, .int (q_figR ((f10 + 1) + 1) fro n g29 1 9))] → W p l e rm_X7_readsSkater s m args below meth c H locs 0 0 Q (F0 m 115 ls [.int v115, .int f14, .ref a16]) := by
              intro v115 e115_0 H locs ls hh hl
              have hv := hv v115 e115_0
              refine r_iast (pc := 115) (w' := [(m0, .inr (7, [.int f0, .int f1, .int f2, .int f3, .ref a4, .int f5, .ref a6, .ref a7, .int f8, .int f9, .int (q_figP ((f10 + 1) + 1) fro n g29 1 9), .int f11, .int f12, .int f13, .int f14, .ref a15, .ref a16, .ref a17, .int f18, .int f19, .int f20, .ref a21, .ref a22, .int f23, .ref a24, .ref a25, .ref a26, .ref a27, .ref a28, .ref a29, .ref a30, .int f31])), (a4, .inl (G.2.1, 20, .inl g4)), (a6, .inl (G.2.1, 4, .inl g6)), (a7, .inl (G.2.1, 4, .inl g7)), (a15, .inl (G.2.1, 20, .inl g15)), (a16, .inl (G.2.1, 4, .inl (upd g16 f14.toNatClampNeg v115))), (a17, .inl (G.2.1, 4, .inl g17)), (a21, .inl (G.2.1, 20, .inl g21)), (a22, .inl (G.2.1, 40, .inl g22)), (a24, .inl (G.2.1, 8, .inl g24)), (a25, .inl (G.2.1, 8, .inl g25)), (a26, .inl (G.2.2.1, 8, .inl g26)), (a27, .inl (G.2.1, 4, .inl g27)), (a28, .inl (G.2.1, 4, .inl g28)), (a29, .inl (G.2.1, 240, .inl g29)), (a30, .inl (G.2.1, 60, .inl g30))]) fx hh 5 rfl hv.1 rfl (dOk_at dX7_readsSkater 66 rfl) (fun H locs hh => ?_)
              have hv := hv.2
              refine lv_aload_n (pc := 116) hx hb (dOk_at dX7_readsSkater 67 rfl) rfl (lv_at hl 0 rfl) ?_
              refine r_get (pc := 117) (ci := 7) fx hh inT7 rfl 17 (by decide) tFX7_25 rfl 0 rfl rfl (dOk_at dX7_readsSkater 68 rfl) ?_
              refine lv_aload_n (pc := 120) hx hb (dOk_at dX7_readsSkater 69 rfl) rfl (lv_at hl 0 rfl) ?_
              refine r_get (pc := 121) (ci := 7) fx hh inT7 rfl 14 (by decide) tFX7_101 rfl 0 rfl rfl (dOk_at dX7_readsSkater 70 rfl) ?_
              refine lv_iload (pc := 124) hx hb (dOk_at dX7_readsSkater 71 rfl) (lv_at hl 1 rfl) ?_
              refine r_iast (pc := 126) (w' := [(m0, .inr (7, [.int f0, .int f1, .int f2, .int f3, .ref a4, .int f5, .ref a6, .ref a7, .int f8, .int f9, .int (q_figP ((f10 + 1) + 1) fro n g29 1 9), .int f11, .int f12, .int f13, .int f14, .ref a15, .ref a16, .ref a17, .int f18, .int f19, .int f20, .ref a21, .ref a22, .int f23, .ref a24, .ref a25, .ref a26, .ref a27, .ref a28, .ref a29, .ref a30, .int f31])), (a4, .inl (G.2.1, 20, .inl g4)), (a6, .inl (G.2.1, 4, .inl g6)), (a7, .inl (G.2.1, 4, .inl g7)), (a15, .inl (G.2.1, 20, .inl g15)), (a16, .inl (G.2.1, 4, .inl (upd g16 f14.toNatClampNeg v115))), (a17, .inl (G.2.1, 4, .inl (upd g17 f14.toNatClampNeg (q_figR ((f10 + 1) + 1) fro n g29 1 9)))), (a21, .inl (G.2.1, 20, .inl g21)), (a22, .inl (G.2.1, 40, .inl g22)), (a24, .inl (G.2.1, 8, .inl g24)), (a25, .inl (G.2.1, 8, .inl g25)), (a26, .inl (G.2.2.1, 8, .inl g26)), (a27, .inl (G.2.1, 4, .inl g27)), (a28, .inl (G.2.1, 4, .inl g28)), (a29, .inl (G.2.1, 240, .inl g29)), (a30, .inl (G.2.1, 60, .inl g30))]) fx hh 6 rfl hv.1 rfl (dOk_at dX7_readsSkater 72 rfl) (fun H locs hh => ?_)
              have hv := hv.2
              refine lv_aload_n (pc := 127) hx hb (dOk_at dX7_readsSkater 73 rfl) rfl (lv_at hl 0 rfl) ?_
              refine lv_dup (pc := 128) hx hb (dOk_at dX7_readsSkater 74 rfl) rfl ?_
              refine r_get (pc := 129) (ci := 7) fx hh inT7 rfl 14 (by decide) tFX7_101 rfl 0 rfl rfl (dOk_at dX7_readsSkater 75 rfl) ?_
              refine lv_iconst (pc := 132) (v := 1) hx hb (dOk_at dX7_readsSkater 76 rfl) (by decide) ?_
              refine lv_iadd (pc := 133) hx hb (dOk_at dX7_readsSkater 77 rfl) ?_
              refine r_put (pc := 134) (ci := 7) (w' := [(m0, .inr (7, [.int f0, .int f1, .int f2, .int f3, .ref a4, .int f5, .ref a6, .ref a7, .int f8, .int f9, .int (q_figP ((f10 + 1) + 1) fro n g29 1 9), .int f11, .int f12, .int f13, .int (f14 + 1), .ref a15, .ref a16, .ref a17, .int f18, .int f19, .int f20, .ref a21, .ref a22, .int f23, .ref a24, .ref a25, .ref a26, .ref a27, .ref a28, .ref a29, .ref a30, .int f31])), (a4, .inl (G.2.1, 20, .inl g4)), (a6, .inl (G.2.1, 4, .inl g6)), (a7, .inl (G.2.1, 4, .inl g7)), (a15, .inl (G.2.1, 20, .inl g15)), (a16, .inl (G.2.1, 4, .inl (upd g16 f14.toNatClampNeg v115))), (a17, .inl (G.2.1, 4, .inl (upd g17 f14.toNatClampNeg (q_figR ((f10 + 1) + 1) fro n g29 1 9)))), (a21, .inl (G.2.1, 20, .inl g21)), (a22, .inl (G.2.1, 40, .inl g22)), (a24, .inl (G.2.1, 8, .inl g24)), (a25, .inl (G.2.1, 8, .inl g25)), (a26, .inl (G.2.2.1, 8, .inl g26)), (a27, .inl (G.2.1, 4, .inl g27)), (a28, .inl (G.2.1, 4, .inl g28)), (a29, .inl (G.2.1, 240, .inl g29)), (a30, .inl (G.2.1, 60, .inl g30))]) fx hh inT7 tyX7 tyX7_ok nmX7 rfl 14 (by decide) tFX7_101 rfl rfl 0 rfl rfl rfl (Nat.le_of_ble_eq_true rfl) rfl (dOk_at dX7_readsSkater 78 rfl) (fun H locs hh => ?_)
              refine lv_iconst (pc := 137) (v := 1) hx hb (dOk_at dX7_readsSkater 79 rfl) (by decide) ?_
              obtain ⟨e0, e1, e2, e3, e4⟩ := hv
              subst e0
              subst e1
              subst e2
              subst e3
              subst e4
              rw [hQ]
              exact r_zret (pc := 138) fx hh rfl (dOk_at dX7_readsSkater 80 rfl)
            refine lv_icmp_ne (pc := 97) (tgt := 104) hx hb (dOk_at dX7_readsSkater 57 rfl) (by decide) (fun c97 => ?_) (fun c97 => ?_)
            · refine lv_iload_n (pc := 104) hx hb (dOk_at dX7_readsSkater 60 rfl) rfl (lv_at hl 1 rfl) ?_
              refine lv_bipush (pc := 105) (v := 107) hx hb (dOk_at dX7_readsSkater 61 rfl) (by decide) ?_
              refine lv_icmp_ne (pc := 107) (tgt := 114) hx hb (dOk_at dX7_readsSkater 62 rfl) (by decide) (fun c107 => ?_) (fun c107 => ?_)
              · refine lv_iconst (pc := 114) (v := 2) hx hb (dOk_at dX7_readsSkater 65 rfl) (by decide) ?_
                exact k115_97 _ ((if_neg c97).trans (if_neg c107)).symm _ _ _ hh (lv_sub hl [2, 0] rfl)
              · refine lv_iconst (pc := 110) (v := 1) hx hb (dOk_at dX7_readsSkater 63 rfl) (by decide) ?_
                refine lv_goto (pc := 111) (tgt := 115) hx hb (dOk_at dX7_readsSkater 64 rfl) (by decide) ?_
                exact k115_97 _ ((if_neg c97).trans (if_pos c107)).symm _ _ _ hh (lv_sub hl [2, 0] rfl)
            · refine lv_iconst (pc := 100) (v := 0) hx hb (dOk_at dX7_readsSkater 58 rfl) (by decide) ?_
              refine lv_goto (pc := 101) (tgt := 115) hx hb (dOk_at dX7_readsSkater 59 rfl) (by decide) ?_
              exact k115_97 _ (if_pos c97).symm _ _ _ hh (lv_sub hl [2, 0] rfl)
          · have hv := hv.2 c81
            refine lv_iconst (pc := 84) (v := 0) hx hb (dOk_at dX7_readsSkater 49 rfl) (by decide) ?_
            obtain ⟨e0, e1, e2, e3, e4⟩ := hv
            subst e0
            subst e1
            subst e2
            subst e3
            subst e4
            rw [hQ]
            exact r_zret (pc := 85) fx hh rfl (dOk_at dX7_readsSkater 50 rfl)
        · have hv := hv.2 c47
          refine lv_iload_n (pc := 50) hx hb (dOk_at dX7_readsSkater 29 rfl) rfl (lv_at hl 0 rfl) ?_
          refine lv_bipush (pc := 51) (v := 98) hx hb (dOk_at dX7_readsSkater 30 rfl) (by decide) ?_
          refine lv_icmp_eq (pc := 53) (tgt := 58) hx hb (dOk_at dX7_readsSkater 31 rfl) (by decide) (fun c53 => ?_) (fun c53 => ?_)
          · have hv := hv.1 c53
            refine lv_aload_n (pc := 58) hx hb (dOk_at dX7_readsSkater 34 rfl) rfl (lv_at hl 1 rfl) ?_
            refine lv_dup (pc := 59) hx hb (dOk_at dX7_readsSkater 35 rfl) rfl ?_
            refine r_get (pc := 60) (ci := 7) fx hh inT7 rfl 10 (by decide) tFX7_87 rfl 0 rfl rfl (dOk_at dX7_readsSkater 36 rfl) ?_
            refine lv_iconst (pc := 63) (v := 1) hx hb (dOk_at dX7_readsSkater 37 rfl) (by decide) ?_
            refine lv_iadd (pc := 64) hx hb (dOk_at dX7_readsSkater 38 rfl) ?_
            refine r_put (pc := 65) (ci := 7) (w' := [(m0, .inr (7, [.int f0, .int f1, .int f2, .int f3, .ref a4, .int f5, .ref a6, .ref a7, .int f8, .int f9, .int ((f10 + 1) + 1), .int f11, .int f12, .int f13, .int f14, .ref a15, .ref a16, .ref a17, .int f18, .int f19, .int f20, .ref a21, .ref a22, .int f23, .ref a24, .ref a25, .ref a26, .ref a27, .ref a28, .ref a29, .ref a30, .int f31])), (a4, .inl (G.2.1, 20, .inl g4)), (a6, .inl (G.2.1, 4, .inl g6)), (a7, .inl (G.2.1, 4, .inl g7)), (a15, .inl (G.2.1, 20, .inl g15)), (a16, .inl (G.2.1, 4, .inl g16)), (a17, .inl (G.2.1, 4, .inl g17)), (a21, .inl (G.2.1, 20, .inl g21)), (a22, .inl (G.2.1, 40, .inl g22)), (a24, .inl (G.2.1, 8, .inl g24)), (a25, .inl (G.2.1, 8, .inl g25)), (a26, .inl (G.2.2.1, 8, .inl g26)), (a27, .inl (G.2.1, 4, .inl g27)), (a28, .inl (G.2.1, 4, .inl g28)), (a29, .inl (G.2.1, 240, .inl g29)), (a30, .inl (G.2.1, 60, .inl g30))]) fx hh inT7 tyX7 tyX7_ok nmX7 rfl 10 (by decide) tFX7_87 rfl rfl 0 rfl rfl rfl (Nat.le_of_ble_eq_true rfl) rfl (dOk_at dX7_readsSkater 39 rfl) (fun H locs hh => ?_)
            refine lv_aload_n (pc := 68) hx hb (dOk_at dX7_readsSkater 40 rfl) rfl (lv_at hl 1 rfl) ?_
            refine lv_iload_n (pc := 69) hx hb (dOk_at dX7_readsSkater 41 rfl) rfl (lv_at hl 2 rfl) ?_
            refine lv_iload_n (pc := 70) hx hb (dOk_at dX7_readsSkater 42 rfl) rfl (lv_at hl 3 rfl) ?_
            refine lv_iconst (pc := 71) (v := 1) hx hb (dOk_at dX7_readsSkater 43 rfl) (by decide) ?_
            refine lv_bipush (pc := 72) (v := 9) hx hb (dOk_at dX7_readsSkater 44 rfl) (by decide) ?_
            refine cl_V (pc := 74) (w' := [(m0, .inr (7, [.int f0, .int f1, .int f2, .int f3, .ref a4, .int f5, .ref a6, .ref a7, .int f8, .int f9, .int (q_figP ((f10 + 1) + 1) fro n g29 1 9), .int f11, .int f12, .int f13, .int f14, .ref a15, .ref a16, .ref a17, .int f18, .int f19, .int f20, .ref a21, .ref a22, .int f23, .ref a24, .ref a25, .ref a26, .ref a27, .ref a28, .ref a29, .ref a30, .int f31])), (a4, .inl (G.2.1, 20, .inl g4)), (a6, .inl (G.2.1, 4, .inl g6)), (a7, .inl (G.2.1, 4, .inl g7)), (a15, .inl (G.2.1, 20, .inl g15)), (a16, .inl (G.2.1, 4, .inl g16)), (a17, .inl (G.2.1, 4, .inl g17)), (a21, .inl (G.2.1, 20, .inl g21)), (a22, .inl (G.2.1, 40, .inl g22)), (a24, .inl (G.2.1, 8, .inl g24)), (a25, .inl (G.2.1, 8, .inl g25)), (a26, .inl (G.2.2.1, 8, .inl g26)), (a27, .inl (G.2.1, 4, .inl g27)), (a28, .inl (G.2.1, 4, .inl g28)), (a29, .inl (G.2.1, 240, .inl g29)), (a30, .inl (G.2.1, 60, .inl g30))]) (wr := []) (rest := []) fx hh hl.1 (h_X7_figure m0 a4 a6 a7 a15 a16 a17 a21 a22 a24 a25 a26 a27 a28 a29 a30 f0 f1 f2 f3 f5 f8 f9 ((f10 + 1) + 1) f11 f12 f13 f14 f18 f19 f20 f23 f31 g4 g6 g7 g15 g16 g17 g21 g22 g24 g25 g26 g27 g28 g29 g30 fro n 1 9 hv.1) yV_X7_figure tMX7_97 ⟨rfl, rfl, Nat.le_of_ble_eq_true rfl, Nat.le_of_ble_eq_true rfl⟩ 0 7 rfl rfl rfl [0, 1, 2, 3, 4, 5, 6, 7, 8, 9, 10, 11, 12, 13, 14, 15] [] [0, 1, 2, 3, 4, 5, 6, 7, 8, 9, 10, 11, 12, 13, 14, 15] rfl rfl rfl (by decide) (by decide) rfl rfl (Nat.le_of_ble_eq_true rfl) ⟨Nat.le_of_ble_eq_true rfl, Nat.le_of_ble_eq_true rfl⟩ (dOk_at dX7_readsSkater 45 rfl) (fun H locs hh => ?_)
            have hv := hv.2
            refine lv_istore (pc := 77) (lv' := [(4, .int (q_figR ((f10 + 1) + 1) fro n g29 1 9)), (3, .int (q_code (f10 + 1) fro n g29)), (0, .ref m0), (1, .int fro), (2, .int n)]) hx hb (dOk_at dX7_readsSkater 46 rfl) hl (by decide) rfl (fun ls hl => ?_)
            refine lv_iload (pc := 79) hx hb (dOk_at dX7_readsSkater 47 rfl) (lv_at hl 0 rfl) ?_
            refine lv_if_ge (pc := 81) (tgt := 86) hx hb (dOk_at dX7_readsSkater 48 rfl) (by decide) (fun c81 => ?_) (fun c81 => ?_)
            · have hv := hv.1 c81
              refine lv_aload_n (pc := 86) hx hb (dOk_at dX7_readsSkater 51 rfl) rfl (lv_at hl 2 rfl) ?_
              refine r_get (pc := 87) (ci := 7) fx hh inT7 rfl 16 (by decide) tFX7_22 rfl 0 rfl rfl (dOk_at dX7_readsSkater 52 rfl) ?_
              refine lv_aload_n (pc := 90) hx hb (dOk_at dX7_readsSkater 53 rfl) rfl (lv_at hl 2 rfl) ?_
              refine r_get (pc := 91) (ci := 7) fx hh inT7 rfl 14 (by decide) tFX7_101 rfl 0 rfl rfl (dOk_at dX7_readsSkater 54 rfl) ?_
              refine lv_iload_n (pc := 94) hx hb (dOk_at dX7_readsSkater 55 rfl) rfl (lv_at hl 1 rfl) ?_
              refine lv_bipush (pc := 95) (v := 115) hx hb (dOk_at dX7_readsSkater 56 rfl) (by decide) ?_
              have k115_97 : ∀ (v115 : Int32), v115 = (if (q_code (f10 + 1) fro n g29) = 115 then (0 : Int32) else (if (q_code (f10 + 1) fro n g29) = 107 then (1 : Int32) else (2 : Int32))) → ∀ (H : Heap) (locs : List Loc) (ls : Array Slot), HP G A [(m0, .inr (7, [.int f0, .int f1, .int f2, .int f3, .ref a4, .int f5, .ref a6, .ref a7, .int f8, .int f9, .int (q_figP ((f10 + 1) + 1) fro n g29 1 9), .int f11, .int f12, .int f13, .int f14, .ref a15, .ref a16, .ref a17, .int f18, .int f19, .int f20, .ref a21, .ref a22, .int f23, .ref a24, .ref a25, .ref a26, .ref a27, .ref a28, .ref a29, .ref a30, .int f31])), (a4, .inl (G.2.1, 20, .inl g4)), (a6, .inl (G.2.1, 4, .inl g6)), (a7, .inl (G.2.1, 4, .inl g7)), (a15, .inl (G.2.1, 20, .inl g15)), (a16, .inl (G.2.1, 4, .inl g16)), (a17, .inl (G.2.1, 4, .inl g17)), (a21, .inl (G.2.1, 20, .inl g21)), (a22, .inl (G.2.1, 40, .inl g22)), (a24, .inl (G.2.1, 8, .inl g24)), (a25, .inl (G.2.1, 8, .inl g25)), (a26, .inl (G.2.2.1, 8, .inl g26)), (a27, .inl (G.2.1, 4, .inl g27)), (a28, .inl (G.2.1, 4, .inl g28)), (a29, .inl (G.2.1, 240, .inl g29)), (a30, .inl (G.2.1, 60, .inl g30))] s H locs → lv_has ls 5 [(0, .ref m0), (4, .int (q_figR ((f10 + 1) + 1) fro n g29 1 9))] → W p l e rm_X7_readsSkater s m args below meth c H locs 0 0 Q (F0 m 115 ls [.int v115, .int f14, .ref a16]) := by
                intro v115 e115_0 H locs ls hh hl
                have hv := hv v115 e115_0
                refine r_iast (pc := 115) (w' := [(m0, .inr (7, [.int f0, .int f1, .int f2, .int f3, .ref a4, .int f5, .ref a6, .ref a7, .int f8, .int f9, .int (q_figP ((f10 + 1) + 1) fro n g29 1 9), .int f11, .int f12, .int f13, .int f14, .ref a15, .ref a16, .ref a17, .int f18, .int f19, .int f20, .ref a21, .ref a22, .int f23, .ref a24, .ref a25, .ref a26, .ref a27, .ref a28, .ref a29, .ref a30, .int f31])), (a4, .inl (G.2.1, 20, .inl g4)), (a6, .inl (G.2.1, 4, .inl g6)), (a7, .inl (G.2.1, 4, .inl g7)), (a15, .inl (G.2.1, 20, .inl g15)), (a16, .inl (G.2.1, 4, .inl (upd g16 f14.toNatClampNeg v115))), (a17, .inl (G.2.1, 4, .inl g17)), (a21, .inl (G.2.1, 20, .inl g21)), (a22, .inl (G.2.1, 40, .inl g22)), (a24, .inl (G.2.1, 8, .inl g24)), (a25, .inl (G.2.1, 8, .inl g25)), (a26, .inl (G.2.2.1, 8, .inl g26)), (a27, .inl (G.2.1, 4, .inl g27)), (a28, .inl (G.2.1, 4, .inl g28)), (a29, .inl (G.2.1, 240, .inl g29)), (a30, .inl (G.2.1, 60, .inl g30))]) fx hh 5 rfl hv.1 rfl (dOk_at dX7_readsSkater 66 rfl) (fun H locs hh => ?_)
                have hv := hv.2
                refine lv_aload_n (pc := 116) hx hb (dOk_at dX7_readsSkater 67 rfl) rfl (lv_at hl 0 rfl) ?_
                refine r_get (pc := 117) (ci := 7) fx hh inT7 rfl 17 (by decide) tFX7_25 rfl 0 rfl rfl (dOk_at dX7_readsSkater 68 rfl) ?_
                refine lv_aload_n (pc := 120) hx hb (dOk_at dX7_readsSkater 69 rfl) rfl (lv_at hl 0 rfl) ?_
                refine r_get (pc := 121) (ci := 7) fx hh inT7 rfl 14 (by decide) tFX7_101 rfl 0 rfl rfl (dOk_at dX7_readsSkater 70 rfl) ?_
                refine lv_iload (pc := 124) hx hb (dOk_at dX7_readsSkater 71 rfl) (lv_at hl 1 rfl) ?_
                refine r_iast (pc := 126) (w' := [(m0, .inr (7, [.int f0, .int f1, .int f2, .int f3, .ref a4, .int f5, .ref a6, .ref a7, .int f8, .int f9, .int (q_figP ((f10 + 1) + 1) fro n g29 1 9), .int f11, .int f12, .int f13, .int f14, .ref a15, .ref a16, .ref a17, .int f18, .int f19, .int f20, .ref a21, .ref a22, .int f23, .ref a24, .ref a25, .ref a26, .ref a27, .ref a28, .ref a29, .ref a30, .int f31])), (a4, .inl (G.2.1, 20, .inl g4)), (a6, .inl (G.2.1, 4, .inl g6)), (a7, .inl (G.2.1, 4, .inl g7)), (a15, .inl (G.2.1, 20, .inl g15)), (a16, .inl (G.2.1, 4, .inl (upd g16 f14.toNatClampNeg v115))), (a17, .inl (G.2.1, 4, .inl (upd g17 f14.toNatClampNeg (q_figR ((f10 + 1) + 1) fro n g29 1 9)))), (a21, .inl (G.2.1, 20, .inl g21)), (a22, .inl (G.2.1, 40, .inl g22)), (a24, .inl (G.2.1, 8, .inl g24)), (a25, .inl (G.2.1, 8, .inl g25)), (a26, .inl (G.2.2.1, 8, .inl g26)), (a27, .inl (G.2.1, 4, .inl g27)), (a28, .inl (G.2.1, 4, .inl g28)), (a29, .inl (G.2.1, 240, .inl g29)), (a30, .inl (G.2.1, 60, .inl g30))]) fx hh 6 rfl hv.1 rfl (dOk_at dX7_readsSkater 72 rfl) (fun H locs hh => ?_)
                have hv := hv.2
                refine lv_aload_n (pc := 127) hx hb (dOk_at dX7_readsSkater 73 rfl) rfl (lv_at hl 0 rfl) ?_
                refine lv_dup (pc := 128) hx hb (dOk_at dX7_readsSkater 74 rfl) rfl ?_
                refine r_get (pc := 129) (ci := 7) fx hh inT7 rfl 14 (by decide) tFX7_101 rfl 0 rfl rfl (dOk_at dX7_readsSkater 75 rfl) ?_
                refine lv_iconst (pc := 132) (v := 1) hx hb (dOk_at dX7_readsSkater 76 rfl) (by decide) ?_
                refine lv_iadd (pc := 133) hx hb (dOk_at dX7_readsSkater 77 rfl) ?_
                refine r_put (pc := 134) (ci := 7) (w' := [(m0, .inr (7, [.int f0, .int f1, .int f2, .int f3, .ref a4, .int f5, .ref a6, .ref a7, .int f8, .int f9, .int (q_figP ((f10 + 1) + 1) fro n g29 1 9), .int f11, .int f12, .int f13, .int (f14 + 1), .ref a15, .ref a16, .ref a17, .int f18, .int f19, .int f20, .ref a21, .ref a22, .int f23, .ref a24, .ref a25, .ref a26, .ref a27, .ref a28, .ref a29, .ref a30, .int f31])), (a4, .inl (G.2.1, 20, .inl g4)), (a6, .inl (G.2.1, 4, .inl g6)), (a7, .inl (G.2.1, 4, .inl g7)), (a15, .inl (G.2.1, 20, .inl g15)), (a16, .inl (G.2.1, 4, .inl (upd g16 f14.toNatClampNeg v115))), (a17, .inl (G.2.1, 4, .inl (upd g17 f14.toNatClampNeg (q_figR ((f10 + 1) + 1) fro n g29 1 9)))), (a21, .inl (G.2.1, 20, .inl g21)), (a22, .inl (G.2.1, 40, .inl g22)), (a24, .inl (G.2.1, 8, .inl g24)), (a25, .inl (G.2.1, 8, .inl g25)), (a26, .inl (G.2.2.1, 8, .inl g26)), (a27, .inl (G.2.1, 4, .inl g27)), (a28, .inl (G.2.1, 4, .inl g28)), (a29, .inl (G.2.1, 240, .inl g29)), (a30, .inl (G.2.1, 60, .inl g30))]) fx hh inT7 tyX7 tyX7_ok nmX7 rfl 14 (by decide) tFX7_101 rfl rfl 0 rfl rfl rfl (Nat.le_of_ble_eq_true rfl) rfl (dOk_at dX7_readsSkater 78 rfl) (fun H locs hh => ?_)
                refine lv_iconst (pc := 137) (v := 1) hx hb (dOk_at dX7_readsSkater 79 rfl) (by decide) ?_
                obtain ⟨e0, e1, e2, e3, e4⟩ := hv
                subst e0
                subst e1
                subst e2
                subst e3
                subst e4
                rw [hQ]
                exact r_zret (pc := 138) fx hh rfl (dOk_at dX7_readsSkater 80 rfl)
              refine lv_icmp_ne (pc := 97) (tgt := 104) hx hb (dOk_at dX7_readsSkater 57 rfl) (by decide) (fun c97 => ?_) (fun c97 => ?_)
              · refine lv_iload_n (pc := 104) hx hb (dOk_at dX7_readsSkater 60 rfl) rfl (lv_at hl 1 rfl) ?_
                refine lv_bipush (pc := 105) (v := 107) hx hb (dOk_at dX7_readsSkater 61 rfl) (by decide) ?_
                refine lv_icmp_ne (pc := 107) (tgt := 114) hx hb (dOk_at dX7_readsSkater 62 rfl) (by decide) (fun c107 => ?_) (fun c107 => ?_)
                · refine lv_iconst (pc := 114) (v := 2) hx hb (dOk_at dX7_readsSkater 65 rfl) (by decide) ?_
                  exact k115_97 _ ((if_neg c97).trans (if_neg c107)).symm _ _ _ hh (lv_sub hl [2, 0] rfl)
                · refine lv_iconst (pc := 110) (v := 1) hx hb (dOk_at dX7_readsSkater 63 rfl) (by decide) ?_
                  refine lv_goto (pc := 111) (tgt := 115) hx hb (dOk_at dX7_readsSkater 64 rfl) (by decide) ?_
                  exact k115_97 _ ((if_neg c97).trans (if_pos c107)).symm _ _ _ hh (lv_sub hl [2, 0] rfl)
              · refine lv_iconst (pc := 100) (v := 0) hx hb (dOk_at dX7_readsSkater 58 rfl) (by decide) ?_
                refine lv_goto (pc := 101) (tgt := 115) hx hb (dOk_at dX7_readsSkater 59 rfl) (by decide) ?_
                exact k115_97 _ (if_pos c97).symm _ _ _ hh (lv_sub hl [2, 0] rfl)
            · have hv := hv.2 c81
              refine lv_iconst (pc := 84) (v := 0) hx hb (dOk_at dX7_readsSkater 49 rfl) (by decide) ?_
              obtain ⟨e0, e1, e2, e3, e4⟩ := hv
              subst e0
              subst e1
              subst e2
              subst e3
              subst e4
              rw [hQ]
              exact r_zret (pc := 85) fx hh rfl (dOk_at dX7_readsSkater 50 rfl)
          · have hv := hv.2 c53
            refine lv_iconst (pc := 56) (v := 0) hx hb (dOk_at dX7_readsSkater 32 rfl) (by decide) ?_
            obtain ⟨e0, e1, e2, e3, e4⟩ := hv
            subst e0
            subst e1
            subst e2
            subst e3
            subst e4
            rw [hQ]
            exact r_zret (pc := 57) fx hh rfl (dOk_at dX7_readsSkater 33 rfl)
    · have hv := hv.2 c16
      refine lv_iconst (pc := 19) (v := 0) hx hb (dOk_at dX7_readsSkater 10 rfl) (by decide) ?_
      obtain ⟨e0, e1, e2, e3, e4⟩ := hv
      subst e0
      subst e1
      subst e2
      subst e3
      subst e4
      rw [hQ]
      exact r_zret (pc := 20) fx hh rfl (dOk_at dX7_readsSkater 11 rfl)
set_option maxRecDepth 100000 in
set_option maxHeartbeats 4000000 in
theorem wk_X7_readsCanal (l : Launch) (G : GT) (m0 : Nat) (a4 : Nat) (a6 : Nat) (a7 : Nat) (a15 : Nat) (a16 : Nat) (a17 : Nat) (a21 : Nat) (a22 : Nat) (a24 : Nat) (a25 : Nat) (a26 : Nat) (a27 : Nat) (a28 : Nat) (a29 : Nat) (a30 : Nat) (f0 : Int32) (f1 : Int32) (f2 : Int32) (f3 : Int32) (f5 : Int32) (f8 : Int32) (f9 : Int32) (f10 : Int32) (f11 : Int32) (f12 : Int32) (f13 : Int32) (f14 : Int32) (f18 : Int32) (f19 : Int32) (f20 : Int32) (f23 : Int32) (f31 : Int32) (g4 : Nat → Int32) (g6 : Nat → Int32) (g7 : Nat → Int32) (g15 : Nat → Int32) (g16 : Nat → Int32) (g17 : Nat → Int32) (g21 : Nat → Int32) (g22 : Nat → Int32) (g24 : Nat → Int32) (g25 : Nat → Int32) (g26 : Nat → Int32) (g27 : Nat → Int32) (g28 : Nat → Int32) (g29 : Nat → Int32) (g30 : Nat → Int32) (fro : Int32) (n : Int32) (R : Int32) (t0_10 : Int32) (t0_11 : Int32) (t0_12 : Int32) (t0_13 : Int32) (t0_14 : Int32) (t4 : Nat → Int32) (t5 : Nat → Int32) (t6 : Nat → Int32) (J131 : Nat → Int32 → Int32 → Int32 → Int32 → Int32 → Int32 → (Nat → Int32) → Prop) (J164 : Nat → Int32 → Int32 → Int32 → Int32 → Int32 → Int32 → (Nat → Int32) → (Nat → Int32) → (Nat → Int32) → Prop) (h_X7_codeAt : K_X7_codeAt l G) (h_X7_figure : K_X7_figure l G) (h_X7_readsPlace : K_X7_readsPlace l G) (h_X7_readsSkater : K_X7_readsSkater l G)
    (hv : okC 0 fro n ∧ ((∀ (v26 : Int32), v26 = (if (q_code 0 fro n g29) = 99 then (1 : Int32) else (0 : Int32)) → (∀ (v41 : Int32), v41 = (if v26 = 0 then (0 : Int32) else (1 : Int32)) → ((v26 = 0 → True) ∧ (¬ v26 = 0 → okC (0 + v41) fro n)) ∧ (∀ (v63_s0 : Int32) (v63_w0_10 : Int32), v63_s0 = (if v26 = 0 then (-9 : Int32) else q_figR (0 + v41) fro n g29 1 4) → v63_w0_10 = (if v26 = 0 then 0 + v41 else q_figP (0 + v41) fro n g29 1 4) → ((v63_s0 ≤ 0 → True) ∧ (¬ v63_s0 ≤ 0 → okC v63_w0_10 fro n)) ∧ (∀ (v87_s0 : Int32) (v87_w0_10 : Int32), v87_s0 = (if v63_s0 ≤ 0 then (-9 : Int32) else q_figR v63_w0_10 fro n g29 2 5) → v87_w0_10 = (if v63_s0 ≤ 0 then v63_w0_10 else q_figP v63_w0_10 fro n g29 2 5) → ((v87_s0 ≤ 0 → True) ∧ (¬ v87_s0 ≤ 0 → okC v87_w0_10 fro n)) ∧ (∀ (v112_s0 : Int32) (v112_w0_10 : Int32), v112_s0 = (if v87_s0 ≤ 0 then (-9 : Int32) else q_figR v87_w0_10 fro n g29 0 9) → v112_w0_10 = (if v87_s0 ≤ 0 then v87_w0_10 else q_figP v87_w0_10 fro n g29 0 9) → (∀ (v127 : Int32), v127 = (if v112_s0 < 0 then (0 : Int32) else (1 : Int32)) → ∃ k6 : Nat, J131 k6 v127 0 v112_w0_10 v63_s0 v87_s0 v112_s0 g15))))))))
    (hv131 : ∀ (n131 : Nat) (x131_3 : Int32) (x131_4 : Int32) (y131_0_10 : Int32) (y131_0_11 : Int32) (y131_0_12 : Int32) (y131_0_13 : Int32) (y131_4 : Nat → Int32), J131 n131 x131_3 x131_4 y131_0_10 y131_0_11 y131_0_12 y131_0_13 y131_4 → (x131_3 = 0 → ∃ k3 : Nat, J164 k3 x131_3 y131_0_10 y131_0_11 y131_0_12 y131_0_13 0 y131_4 g16 g17) ∧ (¬ x131_3 = 0 → ((y131_0_11 * y131_0_12) ≤ x131_4 → ∃ k4 : Nat, J164 k4 x131_3 y131_0_10 y131_0_11 y131_0_12 y131_0_13 0 y131_4 g16 g17) ∧ (¬ (y131_0_11 * y131_0_12) ≤ x131_4 → okC y131_0_10 fro n ∧ okC (y131_0_10 + 1) fro n ∧ ¬ y131_0_12 = 0 ∧ vp_in x131_4 20 ∧ (∃ k5 : Nat, k5 < n131 ∧ J131 k5 (q_plR y131_0_10 fro n g29 y131_0_12 x131_4) (x131_4 + 1) (q_plP y131_0_10 fro n g29 y131_0_12 x131_4) y131_0_11 y131_0_12 y131_0_13 (q_plS y131_0_10 fro n g29 y131_0_12 x131_4 y131_4)))))
    (hv164 : ∀ (n164 : Nat) (x164_3 : Int32) (y164_0_10 : Int32) (y164_0_11 : Int32) (y164_0_12 : Int32) (y164_0_13 : Int32) (y164_0_14 : Int32) (y164_4 : Nat → Int32) (y164_5 : Nat → Int32) (y164_6 : Nat → Int32), J164 n164 x164_3 y164_0_10 y164_0_11 y164_0_12 y164_0_13 y164_0_14 y164_4 y164_5 y164_6 → (x164_3 = 0 → ((x164_3 = 0 ∨ x164_3 = 1)) ∧ x164_3 = R ∧ y164_0_10 = t0_10 ∧ y164_0_11 = t0_11 ∧ y164_0_12 = t0_12 ∧ y164_0_13 = t0_13 ∧ y164_0_14 = t0_14 ∧ y164_4 = t4 ∧ y164_5 = t5 ∧ y164_6 = t6) ∧ (¬ x164_3 = 0 → (y164_0_14 < 2 → okC y164_0_10 fro n ∧ okC (y164_0_10 + 1) fro n ∧ okC (y164_0_10 + 1 + 1) fro n ∧ okN y164_0_14 ∧ (∃ k1 : Nat, k1 < n164 ∧ J164 k1 (q_skR y164_0_10 fro n g29 y164_0_14) (q_skP y164_0_10 fro n g29 y164_0_14) y164_0_11 y164_0_12 y164_0_13 (q_skN y164_0_10 fro n g29 y164_0_14) y164_4 (q_skK y164_0_10 fro n g29 y164_0_14 y164_5) (q_skV y164_0_10 fro n g29 y164_0_14 y164_6))) ∧ (¬ y164_0_14 < 2 → (n ≤ y164_0_10 → ((x164_3 = 0 ∨ x164_3 = 1)) ∧ x164_3 = R ∧ y164_0_10 = t0_10 ∧ y164_0_11 = t0_11 ∧ y164_0_12 = t0_12 ∧ y164_0_13 = t0_13 ∧ y164_0_14 = t0_14 ∧ y164_4 = t4 ∧ y164_5 = t5 ∧ y164_6 = t6) ∧ (¬ n ≤ y164_0_10 → okC y164_0_10 fro n ∧ okC (y164_0_10 + 1) fro n ∧ okC (y164_0_10 + 1 + 1) fro n ∧ okN y164_0_14 ∧ (∃ k2 : Nat, k2 < n164 ∧ J164 k2 (q_skR y164_0_10 fro n g29 y164_0_14) (q_skP y164_0_10 fro n g29 y164_0_14) y164_0_11 y164_0_12 y164_0_13 (q_skN y164_0_10 fro n g29 y164_0_14) y164_4 (q_skK y164_0_10 fro n g29 y164_0_14 y164_5) (q_skV y164_0_10 fro n g29 y164_0_14 y164_6)))))) :
    MF l G yX7_readsCanal cX7_readsCanal 5 (some .boolean) rm_X7_readsCanal [.ref m0, .int fro, .int n] [(m0, .inr (7, [.int f0, .int f1, .int f2, .int f3, .ref a4, .int f5, .ref a6, .ref a7, .int f8, .int f9, .int f10, .int f11, .int f12, .int f13, .int f14, .ref a15, .ref a16, .ref a17, .int f18, .int f19, .int f20, .ref a21, .ref a22, .int f23, .ref a24, .ref a25, .ref a26, .ref a27, .ref a28, .ref a29, .ref a30, .int f31])), (a4, .inl (G.2.1, 20, .inl g4)), (a6, .inl (G.2.1, 4, .inl g6)), (a7, .inl (G.2.1, 4, .inl g7)), (a15, .inl (G.2.1, 20, .inl g15)), (a16, .inl (G.2.1, 4, .inl g16)), (a17, .inl (G.2.1, 4, .inl g17)), (a21, .inl (G.2.1, 20, .inl g21)), (a22, .inl (G.2.1, 40, .inl g22)), (a24, .inl (G.2.1, 8, .inl g24)), (a25, .inl (G.2.1, 8, .inl g25)), (a26, .inl (G.2.2.1, 8, .inl g26)), (a27, .inl (G.2.1, 4, .inl g27)), (a28, .inl (G.2.1, 4, .inl g28)), (a29, .inl (G.2.1, 240, .inl g29)), (a30, .inl (G.2.1, 60, .inl g30))] (some (.int R)) [(m0, .inr (7, [.int f0, .int f1, .int f2, .int f3, .ref a4, .int f5, .ref a6, .ref a7, .int f8, .int f9, .int t0_10, .int t0_11, .int t0_12, .int t0_13, .int t0_14, .ref a15, .ref a16, .ref a17, .int f18, .int f19, .int f20, .ref a21, .ref a22, .int f23, .ref a24, .ref a25, .ref a26, .ref a27, .ref a28, .ref a29, .ref a30, .int f31])), (a4, .inl (G.2.1, 20, .inl g4)), (a6, .inl (G.2.1, 4, .inl g6)), (a7, .inl (G.2.1, 4, .inl g7)), (a15, .inl (G.2.1, 20, .inl t4)), (a16, .inl (G.2.1, 4, .inl t5)), (a17, .inl (G.2.1, 4, .inl t6)), (a21, .inl (G.2.1, 20, .inl g21)), (a22, .inl (G.2.1, 40, .inl g22)), (a24, .inl (G.2.1, 8, .inl g24)), (a25, .inl (G.2.1, 8, .inl g25)), (a26, .inl (G.2.2.1, 8, .inl g26)), (a27, .inl (G.2.1, 4, .inl g27)), (a28, .inl (G.2.1, 4, .inl g28)), (a29, .inl (G.2.1, 240, .inl g29)), (a30, .inl (G.2.1, 60, .inl g30))] := by
  refine MF.of (by decide +kernel) (Nat.le_of_ble_eq_true rfl) ?_
  intro p e s m args below meth c A ls fx hh hl _
  have hx := fx.hx
  have hb := fx.hb
  have hl : lv_has ls 5 [(0, .ref m0), (1, .int fro), (2, .int n)] := hl
  obtain ⟨Q, hQ⟩ : ∃ Q, Q = ZZ G A (some (.int R)) [(m0, .inr (7, [.int f0, .int f1, .int f2, .int f3, .ref a4, .int f5, .ref a6, .ref a7, .int f8, .int f9, .int t0_10, .int t0_11, .int t0_12, .int t0_13, .int t0_14, .ref a15, .ref a16, .ref a17, .int f18, .int f19, .int f20, .ref a21, .ref a22, .int f23, .ref a24, .ref a25, .ref a26, .ref a27, .ref a28, .ref a29, .ref a30, .int f31])), (a4, .inl (G.2.1, 20, .inl g4)), (a6, .inl (G.2.1, 4, .inl g6)), (a7, .inl (G.2.1, 4, .inl g7)), (a15, .inl (G.2.1, 20, .inl t4)), (a16, .inl (G.2.1, 4, .inl t5)), (a17, .inl (G.2.1, 4, .inl t6)), (a21, .inl (G.2.1, 20, .inl g21)), (a22, .inl (G.2.1, 40, .inl g22)), (a24, .inl (G.2.1, 8, .inl g24)), (a25, .inl (G.2.1, 8, .inl g25)), (a26, .inl (G.2.2.1, 8, .inl g26)), (a27, .inl (G.2.1, 4, .inl g27)), (a28, .inl (G.2.1, 4, .inl g28)), (a29, .inl (G.2.1, 240, .inl g29)), (a30, .inl (G.2.1, 60, .inl g30))] below args s := ⟨_, rfl⟩
  rw [← hQ]
  have lp164 : ∀ (n164 : Nat) (x164_3 : Int32) (y164_0_10 : Int32) (y164_0_11 : Int32) (y164_0_12 : Int32) (y164_0_13 : Int32) (y164_0_14 : Int32) (y164_4 : Nat → Int32) (y164_5 : Nat → Int32) (y164_6 : Nat → Int32), J164 n164 x164_3 y164_0_10 y164_0_11 y164_0_12 y164_0_13 y164_0_14 y164_4 y164_5 y164_6 → ∀ (H : Heap) (locs : List Loc) (ls : Array Slot), HP G A [(m0, .inr (7, [.int f0, .int f1, .int f2, .int f3, .ref a4, .int f5, .ref a6, .ref a7, .int f8, .int f9, .int y164_0_10, .int y164_0_11, .int y164_0_12, .int y164_0_13, .int y164_0_14, .ref a15, .ref a16, .ref a17, .int f18, .int f19, .int f20, .ref a21, .ref a22, .int f23, .ref a24, .ref a25, .ref a26, .ref a27, .ref a28, .ref a29, .ref a30, .int f31])), (a4, .inl (G.2.1, 20, .inl g4)), (a6, .inl (G.2.1, 4, .inl g6)), (a7, .inl (G.2.1, 4, .inl g7)), (a15, .inl (G.2.1, 20, .inl y164_4)), (a16, .inl (G.2.1, 4, .inl y164_5)), (a17, .inl (G.2.1, 4, .inl y164_6)), (a21, .inl (G.2.1, 20, .inl g21)), (a22, .inl (G.2.1, 40, .inl g22)), (a24, .inl (G.2.1, 8, .inl g24)), (a25, .inl (G.2.1, 8, .inl g25)), (a26, .inl (G.2.2.1, 8, .inl g26)), (a27, .inl (G.2.1, 4, .inl g27)), (a28, .inl (G.2.1, 4, .inl g28)), (a29, .inl (G.2.1, 240, .inl g29)), (a30, .inl (G.2.1, 60, .inl g30))] s H locs → lv_has ls 5 [(0, .ref m0), (1, .int fro), (2, .int n), (3, .int x164_3)] → W p l e rm_X7_readsCanal s m args below meth c H locs 0 0 Q (F0 m 164 ls []) := by
    intro n164
    induction n164 using Nat.strongRecOn with
    | ind n164 ih164 =>
      intro x164_3 y164_0_10 y164_0_11 y164_0_12 y164_0_13 y164_0_14 y164_4 y164_5 y164_6 hj164 H locs ls hh hl
      have hv := hv164 n164 x164_3 y164_0_10 y164_0_11 y164_0_12 y164_0_13 y164_0_14 y164_4 y164_5 y164_6 hj164
      refine lv_iload_n (pc := 164) hx hb (dOk_at dX7_readsCanal 90 rfl) rfl (lv_at hl 3 rfl) ?_
      refine lv_if_eq (pc := 165) (tgt := 194) hx hb (dOk_at dX7_readsCanal 91 rfl) (by decide) (fun c165 => ?_) (fun c165 => ?_)
      · have hv := hv.1 c165
        refine lv_iload_n (pc := 194) hx hb (dOk_at dX7_readsCanal 106 rfl) rfl (lv_at hl 3 rfl) ?_
        obtain ⟨e0, e1, e2, e3, e4, e5, e6, e7, e8, e9⟩ := hv
        subst e1
        subst e2
        subst e3
        subst e4
        subst e5
        subst e6
        subst e7
        subst e8
        subst e9
        rw [hQ]
        exact r_zret (pc := 195) fx hh (nar01 e0) (dOk_at dX7_readsCanal 107 rfl)
      · have hv := hv.2 c165
        refine lv_aload_n (pc := 168) hx hb (dOk_at dX7_readsCanal 92 rfl) rfl (lv_at hl 0 rfl) ?_
        refine r_get (pc := 169) (ci := 7) fx hh inT7 rfl 14 (by decide) tFX7_101 rfl 0 rfl rfl (dOk_at dX7_readsCanal 93 rfl) ?_
        refine lv_iconst (pc := 172) (v := 2) hx hb (dOk_at dX7_readsCanal 94 rfl) (by decide) ?_
        refine lv_icmp_lt (pc := 173) (tgt := 184) hx hb (dOk_at dX7_readsCanal 95 rfl) (by decide) (fun c173 => ?_) (fun c173 => ?_)
        · have hv := hv.1 c173
          refine lv_aload_n (pc := 184) hx hb (dOk_at dX7_readsCanal 100 rfl) rfl (lv_at hl 0 rfl) ?_
          refine lv_iload_n (pc := 185) hx hb (dOk_at dX7_readsCanal 101 rfl) rfl (lv_at hl 1 rfl) ?_
          refine lv_iload_n (pc := 186) hx hb (dOk_at dX7_readsCanal 102 rfl) rfl (lv_at hl 2 rfl) ?_
          refine cl_V (pc := 187) (w' := [(m0, .inr (7, [.int f0, .int f1, .int f2, .int f3, .ref a4, .int f5, .ref a6, .ref a7, .int f8, .int f9, .int (q_skP y164_0_10 fro n g29 y164_0_14), .int y164_0_11, .int y164_0_12, .int y164_0_13, .int (q_skN y164_0_10 fro n g29 y164_0_14), .ref a15, .ref a16, .ref a17, .int f18, .int f19, .int f20, .ref a21, .ref a22, .int f23, .ref a24, .ref a25, .ref a26, .ref a27, .ref a28, .ref a29, .ref a30, .int f31])), (a4, .inl (G.2.1, 20, .inl g4)), (a6, .inl (G.2.1, 4, .inl g6)), (a7, .inl (G.2.1, 4, .inl g7)), (a15, .inl (G.2.1, 20, .inl y164_4)), (a16, .inl (G.2.1, 4, .inl (q_skK y164_0_10 fro n g29 y164_0_14 y164_5))), (a17, .inl (G.2.1, 4, .inl (q_skV y164_0_10 fro n g29 y164_0_14 y164_6))), (a21, .inl (G.2.1, 20, .inl g21)), (a22, .inl (G.2.1, 40, .inl g22)), (a24, .inl (G.2.1, 8, .inl g24)), (a25, .inl (G.2.1, 8, .inl g25)), (a26, .inl (G.2.2.1, 8, .inl g26)), (a27, .inl (G.2.1, 4, .inl g27)), (a28, .inl (G.2.1, 4, .inl g28)), (a29, .inl (G.2.1, 240, .inl g29)), (a30, .inl (G.2.1, 60, .inl g30))]) (wr := []) (rest := []) fx hh hl.1 (h_X7_readsSkater m0 a4 a6 a7 a15 a16 a17 a21 a22 a24 a25 a26 a27 a28 a29 a30 f0 f1 f2 f3 f5 f8 f9 y164_0_10 y164_0_11 y164_0_12 y164_0_13 y164_0_14 f18 f19 f20 f23 f31 g4 g6 g7 y164_4 y164_5 y164_6 g21 g22 g24 g25 g26 g27 g28 g29 g30 fro n hv.1 hv.2.1 hv.2.2.1 hv.2.2.2.1) yV_X7_readsSkater tMX7_114 ⟨rfl, rfl, Nat.le_of_ble_eq_true rfl, Nat.le_of_ble_eq_true rfl⟩ 0 7 rfl rfl rfl [0, 1, 2, 3, 4, 5, 6, 7, 8, 9, 10, 11, 12, 13, 14, 15] [] [0, 1, 2, 3, 4, 5, 6, 7, 8, 9, 10, 11, 12, 13, 14, 15] rfl rfl rfl (by decide) (by decide) rfl rfl (Nat.le_of_ble_eq_true rfl) ⟨Nat.le_of_ble_eq_true rfl, Nat.le_of_ble_eq_true rfl⟩ (dOk_at dX7_readsCanal 103 rfl) (fun H locs hh => ?_)
          have hv := hv.2.2.2.2
          refine lv_istore_n (pc := 190) (lv' := [(3, .int (q_skR y164_0_10 fro n g29 y164_0_14)), (0, .ref m0), (1, .int fro), (2, .int n)]) hx hb (dOk_at dX7_readsCanal 104 rfl) rfl hl (by decide) rfl (fun ls hl => ?_)
          refine lv_goto (pc := 191) (tgt := 164) hx hb (dOk_at dX7_readsCanal 105 rfl) (by decide) ?_
          obtain ⟨k0, hk0, hj0⟩ := hv
          exact ih164 k0 hk0 (q_skR y164_0_10 fro n g29 y164_0_14) (q_skP y164_0_10 fro n g29 y164_0_14) y164_0_11 y164_0_12 y164_0_13 (q_skN y164_0_10 fro n g29 y164_0_14) y164_4 (q_skK y164_0_10 fro n g29 y164_0_14 y164_5) (q_skV y164_0_10 fro n g29 y164_0_14 y164_6) hj0 _ _ _ hh (lv_sub hl [1, 2, 3, 0] rfl)
        · have hv := hv.2 c173
          refine lv_aload_n (pc := 176) hx hb (dOk_at dX7_readsCanal 96 rfl) rfl (lv_at hl 0 rfl) ?_
          refine r_get (pc := 177) (ci := 7) fx hh inT7 rfl 10 (by decide) tFX7_87 rfl 0 rfl rfl (dOk_at dX7_readsCanal 97 rfl) ?_
          refine lv_iload_n (pc := 180) hx hb (dOk_at dX7_readsCanal 98 rfl) rfl (lv_at hl 2 rfl) ?_
          refine lv_icmp_ge (pc := 181) (tgt := 194) hx hb (dOk_at dX7_readsCanal 99 rfl) (by decide) (fun c181 => ?_) (fun c181 => ?_)
          · have hv := hv.1 c181
            refine lv_iload_n (pc := 194) hx hb (dOk_at dX7_readsCanal 106 rfl) rfl (lv_at hl 3 rfl) ?_
            obtain ⟨e0, e1, e2, e3, e4, e5, e6, e7, e8, e9⟩ := hv
            subst e1
            subst e2
            subst e3
            subst e4
            subst e5
            subst e6
            subst e7
            subst e8
            subst e9
            rw [hQ]
            exact r_zret (pc := 195) fx hh (nar01 e0) (dOk_at dX7_readsCanal 107 rfl)
          · have hv := hv.2 c181
            refine lv_aload_n (pc := 184) hx hb (dOk_at dX7_readsCanal 100 rfl) rfl (lv_at hl 0 rfl) ?_
            refine lv_iload_n (pc := 185) hx hb (dOk_at dX7_readsCanal 101 rfl) rfl (lv_at hl 1 rfl) ?_
            refine lv_iload_n (pc := 186) hx hb (dOk_at dX7_readsCanal 102 rfl) rfl (lv_at hl 2 rfl) ?_
            refine cl_V (pc := 187) (w' := [(m0, .inr (7, [.int f0, .int f1, .int f2, .int f3, .ref a4, .int f5, .ref a6, .ref a7, .int f8, .int f9, .int (q_skP y164_0_10 fro n g29 y164_0_14), .int y164_0_11, .int y164_0_12, .int y164_0_13, .int (q_skN y164_0_10 fro n g29 y164_0_14), .ref a15, .ref a16, .ref a17, .int f18, .int f19, .int f20, .ref a21, .ref a22, .int f23, .ref a24, .ref a25, .ref a26, .ref a27, .ref a28, .ref a29, .ref a30, .int f31])), (a4, .inl (G.2.1, 20, .inl g4)), (a6, .inl (G.2.1, 4, .inl g6)), (a7, .inl (G.2.1, 4, .inl g7)), (a15, .inl (G.2.1, 20, .inl y164_4)), (a16, .inl (G.2.1, 4, .inl (q_skK y164_0_10 fro n g29 y164_0_14 y164_5))), (a17, .inl (G.2.1, 4, .inl (q_skV y164_0_10 fro n g29 y164_0_14 y164_6))), (a21, .inl (G.2.1, 20, .inl g21)), (a22, .inl (G.2.1, 40, .inl g22)), (a24, .inl (G.2.1, 8, .inl g24)), (a25, .inl (G.2.1, 8, .inl g25)), (a26, .inl (G.2.2.1, 8, .inl g26)), (a27, .inl (G.2.1, 4, .inl g27)), (a28, .inl (G.2.1, 4, .inl g28)), (a29, .inl (G.2.1, 240, .inl g29)), (a30, .inl (G.2.1, 60, .inl g30))]) (wr := []) (rest := []) fx hh hl.1 (h_X7_readsSkater m0 a4 a6 a7 a15 a16 a17 a21 a22 a24 a25 a26 a27 a28 a29 a30 f0 f1 f2 f3 f5 f8 f9 y164_0_10 y164_0_11 y164_0_12 y164_0_13 y164_0_14 f18 f19 f20 f23 f31 g4 g6 g7 y164_4 y164_5 y164_6 g21 g22 g24 g25 g26 g27 g28 g29 g30 fro n hv.1 hv.2.1 hv.2.2.1 hv.2.2.2.1) yV_X7_readsSkater tMX7_114 ⟨rfl, rfl, Nat.le_of_ble_eq_true rfl, Nat.le_of_ble_eq_true rfl⟩ 0 7 rfl rfl rfl [0, 1, 2, 3, 4, 5, 6, 7, 8, 9, 10, 11, 12, 13, 14, 15] [] [0, 1, 2, 3, 4, 5, 6, 7, 8, 9, 10, 11, 12, 13, 14, 15] rfl rfl rfl (by decide) (by decide) rfl rfl (Nat.le_of_ble_eq_true rfl) ⟨Nat.le_of_ble_eq_true rfl, Nat.le_of_ble_eq_true rfl⟩ (dOk_at dX7_readsCanal 103 rfl) (fun H locs hh => ?_)
            have hv := hv.2.2.2.2
            refine lv_istore_n (pc := 190) (lv' := [(3, .int (q_skR y164_0_10 fro n g29 y164_0_14)), (0, .ref m0), (1, .int fro), (2, .int n)]) hx hb (dOk_at dX7_readsCanal 104 rfl) rfl hl (by decide) rfl (fun ls hl => ?_)
            refine lv_goto (pc := 191) (tgt := 164) hx hb (dOk_at dX7_readsCanal 105 rfl) (by decide) ?_
            obtain ⟨k0, hk0, hj0⟩ := hv
            exact ih164 k0 hk0 (q_skR y164_0_10 fro n g29 y164_0_14) (q_skP y164_0_10 fro n g29 y164_0_14) y164_0_11 y164_0_12 y164_0_13 (q_skN y164_0_10 fro n g29 y164_0_14) y164_4 (q_skK y164_0_10 fro n g29 y164_0_14 y164_5) (q_skV y164_0_10 fro n g29 y164_0_14 y164_6) hj0 _ _ _ hh (lv_sub hl [1, 2, 3, 0] rfl)
  have lp131 : ∀ (n131 : Nat) (x131_3 : Int32) (x131_4 : Int32) (y131_0_10 : Int32) (y131_0_11 : Int32) (y131_0_12 : Int32) (y131_0_13 : Int32) (y131_4 : Nat → Int32), J131 n131 x131_3 x131_4 y131_0_10 y131_0_11 y131_0_12 y131_0_13 y131_4 → ∀ (H : Heap) (locs : List Loc) (ls : Array Slot), HP G A [(m0, .inr (7, [.int f0, .int f1, .int f2, .int f3, .ref a4, .int f5, .ref a6, .ref a7, .int f8, .int f9, .int y131_0_10, .int y131_0_11, .int y131_0_12, .int y131_0_13, .int 0, .ref a15, .ref a16, .ref a17, .int f18, .int f19, .int f20, .ref a21, .ref a22, .int f23, .ref a24, .ref a25, .ref a26, .ref a27, .ref a28, .ref a29, .ref a30, .int f31])), (a4, .inl (G.2.1, 20, .inl g4)), (a6, .inl (G.2.1, 4, .inl g6)), (a7, .inl (G.2.1, 4, .inl g7)), (a15, .inl (G.2.1, 20, .inl y131_4)), (a16, .inl (G.2.1, 4, .inl g16)), (a17, .inl (G.2.1, 4, .inl g17)), (a21, .inl (G.2.1, 20, .inl g21)), (a22, .inl (G.2.1, 40, .inl g22)), (a24, .inl (G.2.1, 8, .inl g24)), (a25, .inl (G.2.1, 8, .inl g25)), (a26, .inl (G.2.2.1, 8, .inl g26)), (a27, .inl (G.2.1, 4, .inl g27)), (a28, .inl (G.2.1, 4, .inl g28)), (a29, .inl (G.2.1, 240, .inl g29)), (a30, .inl (G.2.1, 60, .inl g30))] s H locs → lv_has ls 5 [(0, .ref m0), (1, .int fro), (2, .int n), (3, .int x131_3), (4, .int x131_4)] → W p l e rm_X7_readsCanal s m args below meth c H locs 0 0 Q (F0 m 131 ls []) := by
    intro n131
    induction n131 using Nat.strongRecOn with
    | ind n131 ih131 =>
      intro x131_3 x131_4 y131_0_10 y131_0_11 y131_0_12 y131_0_13 y131_4 hj131 H locs ls hh hl
      have hv := hv131 n131 x131_3 x131_4 y131_0_10 y131_0_11 y131_0_12 y131_0_13 y131_4 hj131
      refine lv_iload_n (pc := 131) hx hb (dOk_at dX7_readsCanal 73 rfl) rfl (lv_at hl 3 rfl) ?_
      refine lv_if_eq (pc := 132) (tgt := 164) hx hb (dOk_at dX7_readsCanal 74 rfl) (by decide) (fun c132 => ?_) (fun c132 => ?_)
      · have hv := hv.1 c132
        obtain ⟨k0, hj0⟩ := hv
        exact lp164 k0 x131_3 y131_0_10 y131_0_11 y131_0_12 y131_0_13 0 y131_4 g16 g17 hj0 _ _ _ hh (lv_sub hl [0, 1, 2, 3] rfl)
      · have hv := hv.2 c132
        refine lv_iload (pc := 135) hx hb (dOk_at dX7_readsCanal 75 rfl) (lv_at hl 4 rfl) ?_
        refine lv_aload_n (pc := 137) hx hb (dOk_at dX7_readsCanal 76 rfl) rfl (lv_at hl 0 rfl) ?_
        refine r_get (pc := 138) (ci := 7) fx hh inT7 rfl 11 (by decide) tFX7_104 rfl 0 rfl rfl (dOk_at dX7_readsCanal 77 rfl) ?_
        refine lv_aload_n (pc := 141) hx hb (dOk_at dX7_readsCanal 78 rfl) rfl (lv_at hl 0 rfl) ?_
        refine r_get (pc := 142) (ci := 7) fx hh inT7 rfl 12 (by decide) tFX7_94 rfl 0 rfl rfl (dOk_at dX7_readsCanal 79 rfl) ?_
        refine lv_imul (pc := 145) hx hb (dOk_at dX7_readsCanal 80 rfl) ?_
        refine lv_icmp_ge (pc := 146) (tgt := 164) hx hb (dOk_at dX7_readsCanal 81 rfl) (by decide) (fun c146 => ?_) (fun c146 => ?_)
        · have hv := hv.1 c146
          obtain ⟨k0, hj0⟩ := hv
          exact lp164 k0 x131_3 y131_0_10 y131_0_11 y131_0_12 y131_0_13 0 y131_4 g16 g17 hj0 _ _ _ hh (lv_sub hl [0, 1, 2, 3] rfl)
        · have hv := hv.2 c146
          refine lv_aload_n (pc := 149) hx hb (dOk_at dX7_readsCanal 82 rfl) rfl (lv_at hl 0 rfl) ?_
          refine lv_iload_n (pc := 150) hx hb (dOk_at dX7_readsCanal 83 rfl) rfl (lv_at hl 1 rfl) ?_
          refine lv_iload_n (pc := 151) hx hb (dOk_at dX7_readsCanal 84 rfl) rfl (lv_at hl 2 rfl) ?_
          refine lv_iload (pc := 152) hx hb (dOk_at dX7_readsCanal 85 rfl) (lv_at hl 4 rfl) ?_
          refine cl_V (pc := 154) (w' := [(m0, .inr (7, [.int f0, .int f1, .int f2, .int f3, .ref a4, .int f5, .ref a6, .ref a7, .int f8, .int f9, .int (q_plP y131_0_10 fro n g29 y131_0_12 x131_4), .int y131_0_11, .int y131_0_12, .int y131_0_13, .int 0, .ref a15, .ref a16, .ref a17, .int f18, .int f19, .int f20, .ref a21, .ref a22, .int f23, .ref a24, .ref a25, .ref a26, .ref a27, .ref a28, .ref a29, .ref a30, .int f31])), (a4, .inl (G.2.1, 20, .inl g4)), (a6, .inl (G.2.1, 4, .inl g6)), (a7, .inl (G.2.1, 4, .inl g7)), (a15, .inl (G.2.1, 20, .inl (q_plS y131_0_10 fro n g29 y131_0_12 x131_4 y131_4))), (a16, .inl (G.2.1, 4, .inl g16)), (a17, .inl (G.2.1, 4, .inl g17)), (a21, .inl (G.2.1, 20, .inl g21)), (a22, .inl (G.2.1, 40, .inl g22)), (a24, .inl (G.2.1, 8, .inl g24)), (a25, .inl (G.2.1, 8, .inl g25)), (a26, .inl (G.2.2.1, 8, .inl g26)), (a27, .inl (G.2.1, 4, .inl g27)), (a28, .inl (G.2.1, 4, .inl g28)), (a29, .inl (G.2.1, 240, .inl g29)), (a30, .inl (G.2.1, 60, .inl g30))]) (wr := []) (rest := []) fx hh hl.1 (h_X7_readsPlace m0 a4 a6 a7 a15 a16 a17 a21 a22 a24 a25 a26 a27 a28 a29 a30 f0 f1 f2 f3 f5 f8 f9 y131_0_10 y131_0_11 y131_0_12 y131_0_13 0 f18 f19 f20 f23 f31 g4 g6 g7 y131_4 g16 g17 g21 g22 g24 g25 g26 g27 g28 g29 g30 fro n x131_4 hv.1 hv.2.1 hv.2.2.1 hv.2.2.2.1) yV_X7_readsPlace tMX7_110 ⟨rfl, rfl, Nat.le_of_ble_eq_true rfl, Nat.le_of_ble_eq_true rfl⟩ 0 7 rfl rfl rfl [0, 1, 2, 3, 4, 5, 6, 7, 8, 9, 10, 11, 12, 13, 14, 15] [] [0, 1, 2, 3, 4, 5, 6, 7, 8, 9, 10, 11, 12, 13, 14, 15] rfl rfl rfl (by decide) (by decide) rfl rfl (Nat.le_of_ble_eq_true rfl) ⟨Nat.le_of_ble_eq_true rfl, Nat.le_of_ble_eq_true rfl⟩ (dOk_at dX7_readsCanal 86 rfl) (fun H locs hh => ?_)
          have hv := hv.2.2.2.2
          refine lv_istore_n (pc := 157) (lv' := [(3, .int (q_plR y131_0_10 fro n g29 y131_0_12 x131_4)), (0, .ref m0), (1, .int fro), (2, .int n), (4, .int x131_4)]) hx hb (dOk_at dX7_readsCanal 87 rfl) rfl hl (by decide) rfl (fun ls hl => ?_)
          refine lv_iinc (pc := 158) (v := x131_4 + 1) (lv' := [(4, .int (x131_4 + 1)), (3, .int (q_plR y131_0_10 fro n g29 y131_0_12 x131_4)), (0, .ref m0), (1, .int fro), (2, .int n)]) hx hb (dOk_at dX7_readsCanal 88 rfl) hl (k := 4) rfl rfl (by decide) rfl (fun ls hl => ?_)
          refine lv_goto (pc := 161) (tgt := 131) hx hb (dOk_at dX7_readsCanal 89 rfl) (by decide) ?_
          obtain ⟨k0, hk0, hj0⟩ := hv
          exact ih131 k0 hk0 (q_plR y131_0_10 fro n g29 y131_0_12 x131_4) (x131_4 + 1) (q_plP y131_0_10 fro n g29 y131_0_12 x131_4) y131_0_11 y131_0_12 y131_0_13 (q_plS y131_0_10 fro n g29 y131_0_12 x131_4 y131_4) hj0 _ _ _ hh (lv_sub hl [2, 3, 4, 1, 0] rfl)
  refine lv_aload_n (pc := 0) hx hb (dOk_at dX7_readsCanal 0 rfl) rfl (lv_at hl 0 rfl) ?_
  refine lv_iconst (pc := 1) (v := 0) hx hb (dOk_at dX7_readsCanal 1 rfl) (by decide) ?_
  refine r_put (pc := 2) (ci := 7) (w' := [(m0, .inr (7, [.int f0, .int f1, .int f2, .int f3, .ref a4, .int f5, .ref a6, .ref a7, .int f8, .int f9, .int 0, .int f11, .int f12, .int f13, .int f14, .ref a15, .ref a16, .ref a17, .int f18, .int f19, .int f20, .ref a21, .ref a22, .int f23, .ref a24, .ref a25, .ref a26, .ref a27, .ref a28, .ref a29, .ref a30, .int f31])), (a4, .inl (G.2.1, 20, .inl g4)), (a6, .inl (G.2.1, 4, .inl g6)), (a7, .inl (G.2.1, 4, .inl g7)), (a15, .inl (G.2.1, 20, .inl g15)), (a16, .inl (G.2.1, 4, .inl g16)), (a17, .inl (G.2.1, 4, .inl g17)), (a21, .inl (G.2.1, 20, .inl g21)), (a22, .inl (G.2.1, 40, .inl g22)), (a24, .inl (G.2.1, 8, .inl g24)), (a25, .inl (G.2.1, 8, .inl g25)), (a26, .inl (G.2.2.1, 8, .inl g26)), (a27, .inl (G.2.1, 4, .inl g27)), (a28, .inl (G.2.1, 4, .inl g28)), (a29, .inl (G.2.1, 240, .inl g29)), (a30, .inl (G.2.1, 60, .inl g30))]) fx hh inT7 tyX7 tyX7_ok nmX7 rfl 10 (by decide) tFX7_87 rfl rfl 0 rfl rfl rfl (Nat.le_of_ble_eq_true rfl) rfl (dOk_at dX7_readsCanal 2 rfl) (fun H locs hh => ?_)
  refine lv_aload_n (pc := 5) hx hb (dOk_at dX7_readsCanal 3 rfl) rfl (lv_at hl 0 rfl) ?_
  refine lv_iconst (pc := 6) (v := 0) hx hb (dOk_at dX7_readsCanal 4 rfl) (by decide) ?_
  refine r_put (pc := 7) (ci := 7) (w' := [(m0, .inr (7, [.int f0, .int f1, .int f2, .int f3, .ref a4, .int f5, .ref a6, .ref a7, .int f8, .int f9, .int 0, .int f11, .int f12, .int f13, .int 0, .ref a15, .ref a16, .ref a17, .int f18, .int f19, .int f20, .ref a21, .ref a22, .int f23, .ref a24, .ref a25, .ref a26, .ref a27, .ref a28, .ref a29, .ref a30, .int f31])), (a4, .inl (G.2.1, 20, .inl g4)), (a6, .inl (G.2.1, 4, .inl g6)), (a7, .inl (G.2.1, 4, .inl g7)), (a15, .inl (G.2.1, 20, .inl g15)), (a16, .inl (G.2.1, 4, .inl g16)), (a17, .inl (G.2.1, 4, .inl g17)), (a21, .inl (G.2.1, 20, .inl g21)), (a22, .inl (G.2.1, 40, .inl g22)), (a24, .inl (G.2.1, 8, .inl g24)), (a25, .inl (G.2.1, 8, .inl g25)), (a26, .inl (G.2.2.1, 8, .inl g26)), (a27, .inl (G.2.1, 4, .inl g27)), (a28, .inl (G.2.1, 4, .inl g28)), (a29, .inl (G.2.1, 240, .inl g29)), (a30, .inl (G.2.1, 60, .inl g30))]) fx hh inT7 tyX7 tyX7_ok nmX7 rfl 14 (by decide) tFX7_101 rfl rfl 0 rfl rfl rfl (Nat.le_of_ble_eq_true rfl) rfl (dOk_at dX7_readsCanal 5 rfl) (fun H locs hh => ?_)
  refine lv_aload_n (pc := 10) hx hb (dOk_at dX7_readsCanal 6 rfl) rfl (lv_at hl 0 rfl) ?_
  refine lv_iload_n (pc := 11) hx hb (dOk_at dX7_readsCanal 7 rfl) rfl (lv_at hl 1 rfl) ?_
  refine lv_iload_n (pc := 12) hx hb (dOk_at dX7_readsCanal 8 rfl) rfl (lv_at hl 2 rfl) ?_
  refine cl_V (pc := 13) (w' := [(m0, .inr (7, [.int f0, .int f1, .int f2, .int f3, .ref a4, .int f5, .ref a6, .ref a7, .int f8, .int f9, .int 0, .int f11, .int f12, .int f13, .int 0, .ref a15, .ref a16, .ref a17, .int f18, .int f19, .int f20, .ref a21, .ref a22, .int f23, .ref a24, .ref a25, .ref a26, .ref a27, .ref a28, .ref a29, .ref a30, .int f31])), (a4, .inl (G.2.1, 20, .inl g4)), (a6, .inl (G.2.1, 4, .inl g6)), (a7, .inl (G.2.1, 4, .inl g7)), (a15, .inl (G.2.1, 20, .inl g15)), (a16, .inl (G.2.1, 4, .inl g16)), (a17, .inl (G.2.1, 4, .inl g17)), (a21, .inl (G.2.1, 20, .inl g21)), (a22, .inl (G.2.1, 40, .inl g22)), (a24, .inl (G.2.1, 8, .inl g24)), (a25, .inl (G.2.1, 8, .inl g25)), (a26, .inl (G.2.2.1, 8, .inl g26)), (a27, .inl (G.2.1, 4, .inl g27)), (a28, .inl (G.2.1, 4, .inl g28)), (a29, .inl (G.2.1, 240, .inl g29)), (a30, .inl (G.2.1, 60, .inl g30))]) (wr := []) (rest := []) fx hh hl.1 (h_X7_codeAt m0 a4 a6 a7 a15 a16 a17 a21 a22 a24 a25 a26 a27 a28 a29 a30 f0 f1 f2 f3 f5 f8 f9 0 f11 f12 f13 0 f18 f19 f20 f23 f31 g4 g6 g7 g15 g16 g17 g21 g22 g24 g25 g26 g27 g28 g29 g30 fro n hv.1) yV_X7_codeAt tMX7_90 ⟨rfl, rfl, Nat.le_of_ble_eq_true rfl, Nat.le_of_ble_eq_true rfl⟩ 0 7 rfl rfl rfl [0, 1, 2, 3, 4, 5, 6, 7, 8, 9, 10, 11, 12, 13, 14, 15] [] [0, 1, 2, 3, 4, 5, 6, 7, 8, 9, 10, 11, 12, 13, 14, 15] rfl rfl rfl (by decide) (by decide) rfl rfl (Nat.le_of_ble_eq_true rfl) ⟨Nat.le_of_ble_eq_true rfl, Nat.le_of_ble_eq_true rfl⟩ (dOk_at dX7_readsCanal 9 rfl) (fun H locs hh => ?_)
  have hv := hv.2
  refine lv_bipush (pc := 16) (v := 99) hx hb (dOk_at dX7_readsCanal 10 rfl) (by decide) ?_
  have k26_18 : ∀ (v26 : Int32), v26 = (if (q_code 0 fro n g29) = 99 then (1 : Int32) else (0 : Int32)) → ∀ (H : Heap) (locs : List Loc) (ls : Array Slot), HP G A [(m0, .inr (7, [.int f0, .int f1, .int f2, .int f3, .ref a4, .int f5, .ref a6, .ref a7, .int f8, .int f9, .int 0, .int f11, .int f12, .int f13, .int 0, .ref a15, .ref a16, .ref a17, .int f18, .int f19, .int f20, .ref a21, .ref a22, .int f23, .ref a24, .ref a25, .ref a26, .ref a27, .ref a28, .ref a29, .ref a30, .int f31])), (a4, .inl (G.2.1, 20, .inl g4)), (a6, .inl (G.2.1, 4, .inl g6)), (a7, .inl (G.2.1, 4, .inl g7)), (a15, .inl (G.2.1, 20, .inl g15)), (a16, .inl (G.2.1, 4, .inl g16)), (a17, .inl (G.2.1, 4, .inl g17)), (a21, .inl (G.2.1, 20, .inl g21)), (a22, .inl (G.2.1, 40, .inl g22)), (a24, .inl (G.2.1, 8, .inl g24)), (a25, .inl (G.2.1, 8, .inl g25)), (a26, .inl (G.2.2.1, 8, .inl g26)), (a27, .inl (G.2.1, 4, .inl g27)), (a28, .inl (G.2.1, 4, .inl g28)), (a29, .inl (G.2.1, 240, .inl g29)), (a30, .inl (G.2.1, 60, .inl g30))] s H locs → lv_has ls 5 [(0, .ref m0), (1, .int fro), (2, .int n)] → W p l e rm_X7_readsCanal s m args below meth c H locs 0 0 Q (F0 m 26 ls [.int v26]) := by
    intro v26 e26_0 H locs ls hh hl
    have hv := hv v26 e26_0
    refine lv_istore_n (pc := 26) (lv' := [(3, .int v26), (0, .ref m0), (1, .int fro), (2, .int n)]) hx hb (dOk_at dX7_readsCanal 15 rfl) rfl hl (by decide) rfl (fun ls hl => ?_)
    refine lv_aload_n (pc := 27) hx hb (dOk_at dX7_readsCanal 16 rfl) rfl (lv_at hl 1 rfl) ?_
    refine lv_dup (pc := 28) hx hb (dOk_at dX7_readsCanal 17 rfl) rfl ?_
    refine r_get (pc := 29) (ci := 7) fx hh inT7 rfl 10 (by decide) tFX7_87 rfl 0 rfl rfl (dOk_at dX7_readsCanal 18 rfl) ?_
    refine lv_iload_n (pc := 32) hx hb (dOk_at dX7_readsCanal 19 rfl) rfl (lv_at hl 0 rfl) ?_
    have k41_33 : ∀ (v41 : Int32), v41 = (if v26 = 0 then (0 : Int32) else (1 : Int32)) → ∀ (H : Heap) (locs : List Loc) (ls : Array Slot), HP G A [(m0, .inr (7, [.int f0, .int f1, .int f2, .int f3, .ref a4, .int f5, .ref a6, .ref a7, .int f8, .int f9, .int 0, .int f11, .int f12, .int f13, .int 0, .ref a15, .ref a16, .ref a17, .int f18, .int f19, .int f20, .ref a21, .ref a22, .int f23, .ref a24, .ref a25, .ref a26, .ref a27, .ref a28, .ref a29, .ref a30, .int f31])), (a4, .inl (G.2.1, 20, .inl g4)), (a6, .inl (G.2.1, 4, .inl g6)), (a7, .inl (G.2.1, 4, .inl g7)), (a15, .inl (G.2.1, 20, .inl g15)), (a16, .inl (G.2.1, 4, .inl g16)), (a17, .inl (G.2.1, 4, .inl g17)), (a21, .inl (G.2.1, 20, .inl g21)), (a22, .inl (G.2.1, 40, .inl g22)), (a24, .inl (G.2.1, 8, .inl g24)), (a25, .inl (G.2.1, 8, .inl g25)), (a26, .inl (G.2.2.1, 8, .inl g26)), (a27, .inl (G.2.1, 4, .inl g27)), (a28, .inl (G.2.1, 4, .inl g28)), (a29, .inl (G.2.1, 240, .inl g29)), (a30, .inl (G.2.1, 60, .inl g30))] s H locs → lv_has ls 5 [(0, .ref m0), (1, .int fro), (2, .int n), (3, .int v26)] → W p l e rm_X7_readsCanal s m args below meth c H locs 0 0 Q (F0 m 41 ls [.int v41, .int 0, .ref m0]) := by
      intro v41 e41_0 H locs ls hh hl
      have hv := hv v41 e41_0
      refine lv_iadd (pc := 41) hx hb (dOk_at dX7_readsCanal 24 rfl) ?_
      refine r_put (pc := 42) (ci := 7) (w' := [(m0, .inr (7, [.int f0, .int f1, .int f2, .int f3, .ref a4, .int f5, .ref a6, .ref a7, .int f8, .int f9, .int (0 + v41), .int f11, .int f12, .int f13, .int 0, .ref a15, .ref a16, .ref a17, .int f18, .int f19, .int f20, .ref a21, .ref a22, .int f23, .ref a24, .ref a25, .ref a26, .ref a27, .ref a28, .ref a29, .ref a30, .int f31])), (a4, .inl (G.2.1, 20, .inl g4)), (a6, .inl (G.2.1, 4, .inl g6)), (a7, .inl (G.2.1, 4, .inl g7)), (a15, .inl (G.2.1, 20, .inl g15)), (a16, .inl (G.2.1, 4, .inl g16)), (a17, .inl (G.2.1, 4, .inl g17)), (a21, .inl (G.2.1, 20, .inl g21)), (a22, .inl (G.2.1, 40, .inl g22)), (a24, .inl (G.2.1, 8, .inl g24)), (a25, .inl (G.2.1, 8, .inl g25)), (a26, .inl (G.2.2.1, 8, .inl g26)), (a27, .inl (G.2.1, 4, .inl g27)), (a28, .inl (G.2.1, 4, .inl g28)), (a29, .inl (G.2.1, 240, .inl g29)), (a30, .inl (G.2.1, 60, .inl g30))]) fx hh inT7 tyX7 tyX7_ok nmX7 rfl 10 (by decide) tFX7_87 rfl rfl 0 rfl rfl rfl (Nat.le_of_ble_eq_true rfl) rfl (dOk_at dX7_readsCanal 25 rfl) (fun H locs hh => ?_)
      refine lv_aload_n (pc := 45) hx hb (dOk_at dX7_readsCanal 26 rfl) rfl (lv_at hl 0 rfl) ?_
      refine lv_iload_n (pc := 46) hx hb (dOk_at dX7_readsCanal 27 rfl) rfl (lv_at hl 3 rfl) ?_
      have k63_47 : ∀ (v63_s0 : Int32) (v63_w0_10 : Int32), v63_s0 = (if v26 = 0 then (-9 : Int32) else q_figR (0 + v41) fro n g29 1 4) → v63_w0_10 = (if v26 = 0 then 0 + v41 else q_figP (0 + v41) fro n g29 1 4) → ∀ (H : Heap) (locs : List Loc) (ls : Array Slot), HP G A [(m0, .inr (7, [.int f0, .int f1, .int f2, .int f3, .ref a4, .int f5, .ref a6, .ref a7, .int f8, .int f9, .int v63_w0_10, .int f11, .int f12, .int f13, .int 0, .ref a15, .ref a16, .ref a17, .int f18, .int f19, .int f20, .ref a21, .ref a22, .int f23, .ref a24, .ref a25, .ref a26, .ref a27, .ref a28, .ref a29, .ref a30, .int f31])), (a4, .inl (G.2.1, 20, .inl g4)), (a6, .inl (G.2.1, 4, .inl g6)), (a7, .inl (G.2.1, 4, .inl g7)), (a15, .inl (G.2.1, 20, .inl g15)), (a16, .inl (G.2.1, 4, .inl g16)), (a17, .inl (G.2.1, 4, .inl g17)), (a21, .inl (G.2.1, 20, .inl g21)), (a22, .inl (G.2.1, 40, .inl g22)), (a24, .inl (G.2.1, 8, .inl g24)), (a25, .inl (G.2.1, 8, .inl g25)), (a26, .inl (G.2.2.1, 8, .inl g26)), (a27, .inl (G.2.1, 4, .inl g27)), (a28, .inl (G.2.1, 4, .inl g28)), (a29, .inl (G.2.1, 240, .inl g29)), (a30, .inl (G.2.1, 60, .inl g30))] s H locs → lv_has ls 5 [(0, .ref m0), (1, .int fro), (2, .int n)] → W p l e rm_X7_readsCanal s m args below meth c H locs 0 0 Q (F0 m 63 ls [.int v63_s0, .ref m0]) := by
        intro v63_s0 v63_w0_10 e63_0 e63_1 H locs ls hh hl
        have hv := hv.2 v63_s0 v63_w0_10 e63_0 e63_1
        refine r_put (pc := 63) (ci := 7) (w' := [(m0, .inr (7, [.int f0, .int f1, .int f2, .int f3, .ref a4, .int f5, .ref a6, .ref a7, .int f8, .int f9, .int v63_w0_10, .int v63_s0, .int f12, .int f13, .int 0, .ref a15, .ref a16, .ref a17, .int f18, .int f19, .int f20, .ref a21, .ref a22, .int f23, .ref a24, .ref a25, .ref a26, .ref a27, .ref a28, .ref a29, .ref a30, .int f31])), (a4, .inl (G.2.1, 20, .inl g4)), (a6, .inl (G.2.1, 4, .inl g6)), (a7, .inl (G.2.1, 4, .inl g7)), (a15, .inl (G.2.1, 20, .inl g15)), (a16, .inl (G.2.1, 4, .inl g16)), (a17, .inl (G.2.1, 4, .inl g17)), (a21, .inl (G.2.1, 20, .inl g21)), (a22, .inl (G.2.1, 40, .inl g22)), (a24, .inl (G.2.1, 8, .inl g24)), (a25, .inl (G.2.1, 8, .inl g25)), (a26, .inl (G.2.2.1, 8, .inl g26)), (a27, .inl (G.2.1, 4, .inl g27)), (a28, .inl (G.2.1, 4, .inl g28)), (a29, .inl (G.2.1, 240, .inl g29)), (a30, .inl (G.2.1, 60, .inl g30))]) fx hh inT7 tyX7 tyX7_ok nmX7 rfl 11 (by decide) tFX7_104 rfl rfl 0 rfl rfl rfl (Nat.le_of_ble_eq_true rfl) rfl (dOk_at dX7_readsCanal 37 rfl) (fun H locs hh => ?_)
        refine lv_aload_n (pc := 66) hx hb (dOk_at dX7_readsCanal 38 rfl) rfl (lv_at hl 0 rfl) ?_
        refine lv_aload_n (pc := 67) hx hb (dOk_at dX7_readsCanal 39 rfl) rfl (lv_at hl 0 rfl) ?_
        refine r_get (pc := 68) (ci := 7) fx hh inT7 rfl 11 (by decide) tFX7_104 rfl 0 rfl rfl (dOk_at dX7_readsCanal 40 rfl) ?_
        have k87_71 : ∀ (v87_s0 : Int32) (v87_w0_10 : Int32), v87_s0 = (if v63_s0 ≤ 0 then (-9 : Int32) else q_figR v63_w0_10 fro n g29 2 5) → v87_w0_10 = (if v63_s0 ≤ 0 then v63_w0_10 else q_figP v63_w0_10 fro n g29 2 5) → ∀ (H : Heap) (locs : List Loc) (ls : Array Slot), HP G A [(m0, .inr (7, [.int f0, .int f1, .int f2, .int f3, .ref a4, .int f5, .ref a6, .ref a7, .int f8, .int f9, .int v87_w0_10, .int v63_s0, .int f12, .int f13, .int 0, .ref a15, .ref a16, .ref a17, .int f18, .int f19, .int f20, .ref a21, .ref a22, .int f23, .ref a24, .ref a25, .ref a26, .ref a27, .ref a28, .ref a29, .ref a30, .int f31])), (a4, .inl (G.2.1, 20, .inl g4)), (a6, .inl (G.2.1, 4, .inl g6)), (a7, .inl (G.2.1, 4, .inl g7)), (a15, .inl (G.2.1, 20, .inl g15)), (a16, .inl (G.2.1, 4, .inl g16)), (a17, .inl (G.2.1, 4, .inl g17)), (a21, .inl (G.2.1, 20, .inl g21)), (a22, .inl (G.2.1, 40, .inl g22)), (a24, .inl (G.2.1, 8, .inl g24)), (a25, .inl (G.2.1, 8, .inl g25)), (a26, .inl (G.2.2.1, 8, .inl g26)), (a27, .inl (G.2.1, 4, .inl g27)), (a28, .inl (G.2.1, 4, .inl g28)), (a29, .inl (G.2.1, 240, .inl g29)), (a30, .inl (G.2.1, 60, .inl g30))] s H locs → lv_has ls 5 [(0, .ref m0), (1, .int fro), (2, .int n)] → W p l e rm_X7_readsCanal s m args below meth c H locs 0 0 Q (F0 m 87 ls [.int v87_s0, .ref m0]) := by
          intro v87_s0 v87_w0_10 e87_0 e87_1 H locs ls hh hl
          have hv := hv.2 v87_s0 v87_w0_10 e87_0 e87_1
          refine r_put (pc := 87) (ci := 7) (w' := [(m0, .inr (7, [.int f0, .int f1, .int f2, .int f3, .ref a4, .int f5, .ref a6, .ref a7, .int f8, .int f9, .int v87_w0_10, .int v63_s0, .int v87_s0, .int f13, .int 0, .ref a15, .ref a16, .ref a17, .int f18, .int f19, .int f20, .ref a21, .ref a22, .int f23, .ref a24, .ref a25, .ref a26, .ref a27, .ref a28, .ref a29, .ref a30, .int f31])), (a4, .inl (G.2.1, 20, .inl g4)), (a6, .inl (G.2.1, 4, .inl g6)), (a7, .inl (G.2.1, 4, .inl g7)), (a15, .inl (G.2.1, 20, .inl g15)), (a16, .inl (G.2.1, 4, .inl g16)), (a17, .inl (G.2.1, 4, .inl g17)), (a21, .inl (G.2.1, 20, .inl g21)), (a22, .inl (G.2.1, 40, .inl g22)), (a24, .inl (G.2.1, 8, .inl g24)), (a25, .inl (G.2.1, 8, .inl g25)), (a26, .inl (G.2.2.1, 8, .inl g26)), (a27, .inl (G.2.1, 4, .inl g27)), (a28, .inl (G.2.1, 4, .inl g28)), (a29, .inl (G.2.1, 240, .inl g29)), (a30, .inl (G.2.1, 60, .inl g30))]) fx hh inT7 tyX7 tyX7_ok nmX7 rfl 12 (by decide) tFX7_94 rfl rfl 0 rfl rfl rfl (Nat.le_of_ble_eq_true rfl) rfl (dOk_at dX7_readsCanal 50 rfl) (fun H locs hh => ?_)
          refine lv_aload_n (pc := 90) hx hb (dOk_at dX7_readsCanal 51 rfl) rfl (lv_at hl 0 rfl) ?_
          refine lv_aload_n (pc := 91) hx hb (dOk_at dX7_readsCanal 52 rfl) rfl (lv_at hl 0 rfl) ?_
          refine r_get (pc := 92) (ci := 7) fx hh inT7 rfl 12 (by decide) tFX7_94 rfl 0 rfl rfl (dOk_at dX7_readsCanal 53 rfl) ?_
          have k112_95 : ∀ (v112_s0 : Int32) (v112_w0_10 : Int32), v112_s0 = (if v87_s0 ≤ 0 then (-9 : Int32) else q_figR v87_w0_10 fro n g29 0 9) → v112_w0_10 = (if v87_s0 ≤ 0 then v87_w0_10 else q_figP v87_w0_10 fro n g29 0 9) → ∀ (H : Heap) (locs : List Loc) (ls : Array Slot), HP G A [(m0, .inr (7, [.int f0, .int f1, .int f2, .int f3, .ref a4, .int f5, .ref a6, .ref a7, .int f8, .int f9, .int v112_w0_10, .int v63_s0, .int v87_s0, .int f13, .int 0, .ref a15, .ref a16, .ref a17, .int f18, .int f19, .int f20, .ref a21, .ref a22, .int f23, .ref a24, .ref a25, .ref a26, .ref a27, .ref a28, .ref a29, .ref a30, .int f31])), (a4, .inl (G.2.1, 20, .inl g4)), (a6, .inl (G.2.1, 4, .inl g6)), (a7, .inl (G.2.1, 4, .inl g7)), (a15, .inl (G.2.1, 20, .inl g15)), (a16, .inl (G.2.1, 4, .inl g16)), (a17, .inl (G.2.1, 4, .inl g17)), (a21, .inl (G.2.1, 20, .inl g21)), (a22, .inl (G.2.1, 40, .inl g22)), (a24, .inl (G.2.1, 8, .inl g24)), (a25, .inl (G.2.1, 8, .inl g25)), (a26, .inl (G.2.2.1, 8, .inl g26)), (a27, .inl (G.2.1, 4, .inl g27)), (a28, .inl (G.2.1, 4, .inl g28)), (a29, .inl (G.2.1, 240, .inl g29)), (a30, .inl (G.2.1, 60, .inl g30))] s H locs → lv_has ls 5 [(0, .ref m0), (1, .int fro), (2, .int n)] → W p l e rm_X7_readsCanal s m args below meth c H locs 0 0 Q (F0 m 112 ls [.int v112_s0, .ref m0]) := by
            intro v112_s0 v112_w0_10 e112_0 e112_1 H locs ls hh hl
            have hv := hv.2 v112_s0 v112_w0_10 e112_0 e112_1
            refine r_put (pc := 112) (ci := 7) (w' := [(m0, .inr (7, [.int f0, .int f1, .int f2, .int f3, .ref a4, .int f5, .ref a6, .ref a7, .int f8, .int f9, .int v112_w0_10, .int v63_s0, .int v87_s0, .int v112_s0, .int 0, .ref a15, .ref a16, .ref a17, .int f18, .int f19, .int f20, .ref a21, .ref a22, .int f23, .ref a24, .ref a25, .ref a26, .ref a27, .ref a28, .ref a29, .ref a30, .int f31])), (a4, .inl (G.2.1, 20, .inl g4)), (a6, .inl (G.2.1, 4, .inl g6)), (a7, .inl (G.2.1, 4, .inl g7)), (a15, .inl (G.2.1, 20, .inl g15)), (a16, .inl (G.2.1, 4, .inl g16)), (a17, .inl (G.2.1, 4, .inl g17)), (a21, .inl (G.2.1, 20, .inl g21)), (a22, .inl (G.2.1, 40, .inl g22)), (a24, .inl (G.2.1, 8, .inl g24)), (a25, .inl (G.2.1, 8, .inl g25)), (a26, .inl (G.2.2.1, 8, .inl g26)), (a27, .inl (G.2.1, 4, .inl g27)), (a28, .inl (G.2.1, 4, .inl g28)), (a29, .inl (G.2.1, 240, .inl g29)), (a30, .inl (G.2.1, 60, .inl g30))]) fx hh inT7 tyX7 tyX7_ok nmX7 rfl 13 (by decide) tFX7_107 rfl rfl 0 rfl rfl rfl (Nat.le_of_ble_eq_true rfl) rfl (dOk_at dX7_readsCanal 63 rfl) (fun H locs hh => ?_)
            refine lv_aload_n (pc := 115) hx hb (dOk_at dX7_readsCanal 64 rfl) rfl (lv_at hl 0 rfl) ?_
            refine r_get (pc := 116) (ci := 7) fx hh inT7 rfl 13 (by decide) tFX7_107 rfl 0 rfl rfl (dOk_at dX7_readsCanal 65 rfl) ?_
            have k127_119 : ∀ (v127 : Int32), v127 = (if v112_s0 < 0 then (0 : Int32) else (1 : Int32)) → ∀ (H : Heap) (locs : List Loc) (ls : Array Slot), HP G A [(m0, .inr (7, [.int f0, .int f1, .int f2, .int f3, .ref a4, .int f5, .ref a6, .ref a7, .int f8, .int f9, .int v112_w0_10, .int v63_s0, .int v87_s0, .int v112_s0, .int 0, .ref a15, .ref a16, .ref a17, .int f18, .int f19, .int f20, .ref a21, .ref a22, .int f23, .ref a24, .ref a25, .ref a26, .ref a27, .ref a28, .ref a29, .ref a30, .int f31])), (a4, .inl (G.2.1, 20, .inl g4)), (a6, .inl (G.2.1, 4, .inl g6)), (a7, .inl (G.2.1, 4, .inl g7)), (a15, .inl (G.2.1, 20, .inl g15)), (a16, .inl (G.2.1, 4, .inl g16)), (a17, .inl (G.2.1, 4, .inl g17)), (a21, .inl (G.2.1, 20, .inl g21)), (a22, .inl (G.2.1, 40, .inl g22)), (a24, .inl (G.2.1, 8, .inl g24)), (a25, .inl (G.2.1, 8, .inl g25)), (a26, .inl (G.2.2.1, 8, .inl g26)), (a27, .inl (G.2.1, 4, .inl g27)), (a28, .inl (G.2.1, 4, .inl g28)), (a29, .inl (G.2.1, 240, .inl g29)), (a30, .inl (G.2.1, 60, .inl g30))] s H locs → lv_has ls 5 [(0, .ref m0), (1, .int fro), (2, .int n)] → W p l e rm_X7_readsCanal s m args below meth c H locs 0 0 Q (F0 m 127 ls [.int v127]) := by
              intro v127 e127_0 H locs ls hh hl
              have hv := hv v127 e127_0
              refine lv_istore_n (pc := 127) (lv' := [(3, .int v127), (0, .ref m0), (1, .int fro), (2, .int n)]) hx hb (dOk_at dX7_readsCanal 70 rfl) rfl hl (by decide) rfl (fun ls hl => ?_)
              refine lv_iconst (pc := 128) (v := 0) hx hb (dOk_at dX7_readsCanal 71 rfl) (by decide) ?_
              refine lv_istore (pc := 129) (lv' := [(4, .int 0), (3, .int v127), (0, .ref m0), (1, .int fro), (2, .int n)]) hx hb (dOk_at dX7_readsCanal 72 rfl) hl (by decide) rfl (fun ls hl => ?_)
              obtain ⟨k0, hj0⟩ := hv
              exact lp131 k0 v127 0 v112_w0_10 v63_s0 v87_s0 v112_s0 g15 hj0 _ _ _ hh (lv_sub hl [2, 3, 4, 1, 0] rfl)
            refine lv_if_lt (pc := 119) (tgt := 126) hx hb (dOk_at dX7_readsCanal 66 rfl) (by decide) (fun c119 => ?_) (fun c119 => ?_)
            · refine lv_iconst (pc := 126) (v := 0) hx hb (dOk_at dX7_readsCanal 69 rfl) (by decide) ?_
              exact k127_119 _ (if_pos c119).symm _ _ _ hh (lv_sub hl [0, 1, 2] rfl)
            · refine lv_iconst (pc := 122) (v := 1) hx hb (dOk_at dX7_readsCanal 67 rfl) (by decide) ?_
              refine lv_goto (pc := 123) (tgt := 127) hx hb (dOk_at dX7_readsCanal 68 rfl) (by decide) ?_
              exact k127_119 _ (if_neg c119).symm _ _ _ hh (lv_sub hl [0, 1, 2] rfl)
          have hv := hv.1
          refine lv_if_le (pc := 95) (tgt := 110) hx hb (dOk_at dX7_readsCanal 54 rfl) (by decide) (fun c95 => ?_) (fun c95 => ?_)
          · have hv := hv.1 c95
            refine lv_bipush (pc := 110) (v := (-9)) hx hb (dOk_at dX7_readsCanal 62 rfl) (by decide) ?_
            exact k112_95 _ _ (if_pos c95).symm (if_pos c95).symm _ _ _ hh (lv_sub hl [0, 1, 2] rfl)
          · have hv := hv.2 c95
            refine lv_aload_n (pc := 98) hx hb (dOk_at dX7_readsCanal 55 rfl) rfl (lv_at hl 0 rfl) ?_
            refine lv_iload_n (pc := 99) hx hb (dOk_at dX7_readsCanal 56 rfl) rfl (lv_at hl 1 rfl) ?_
            refine lv_iload_n (pc := 100) hx hb (dOk_at dX7_readsCanal 57 rfl) rfl (lv_at hl 2 rfl) ?_
            refine lv_iconst (pc := 101) (v := 0) hx hb (dOk_at dX7_readsCanal 58 rfl) (by decide) ?_
            refine lv_bipush (pc := 102) (v := 9) hx hb (dOk_at dX7_readsCanal 59 rfl) (by decide) ?_
            refine cl_V (pc := 104) (w' := [(m0, .inr (7, [.int f0, .int f1, .int f2, .int f3, .ref a4, .int f5, .ref a6, .ref a7, .int f8, .int f9, .int (q_figP v87_w0_10 fro n g29 0 9), .int v63_s0, .int v87_s0, .int f13, .int 0, .ref a15, .ref a16, .ref a17, .int f18, .int f19, .int f20, .ref a21, .ref a22, .int f23, .ref a24, .ref a25, .ref a26, .ref a27, .ref a28, .ref a29, .ref a30, .int f31])), (a4, .inl (G.2.1, 20, .inl g4)), (a6, .inl (G.2.1, 4, .inl g6)), (a7, .inl (G.2.1, 4, .inl g7)), (a15, .inl (G.2.1, 20, .inl g15)), (a16, .inl (G.2.1, 4, .inl g16)), (a17, .inl (G.2.1, 4, .inl g17)), (a21, .inl (G.2.1, 20, .inl g21)), (a22, .inl (G.2.1, 40, .inl g22)), (a24, .inl (G.2.1, 8, .inl g24)), (a25, .inl (G.2.1, 8, .inl g25)), (a26, .inl (G.2.2.1, 8, .inl g26)), (a27, .inl (G.2.1, 4, .inl g27)), (a28, .inl (G.2.1, 4, .inl g28)), (a29, .inl (G.2.1, 240, .inl g29)), (a30, .inl (G.2.1, 60, .inl g30))]) (wr := []) (rest := [.ref m0]) fx hh hl.1 (h_X7_figure m0 a4 a6 a7 a15 a16 a17 a21 a22 a24 a25 a26 a27 a28 a29 a30 f0 f1 f2 f3 f5 f8 f9 v87_w0_10 v63_s0 v87_s0 f13 0 f18 f19 f20 f23 f31 g4 g6 g7 g15 g16 g17 g21 g22 g24 g25 g26 g27 g28 g29 g30 fro n 0 9 hv) yV_X7_figure tMX7_97 ⟨rfl, rfl, Nat.le_of_ble_eq_true rfl, Nat.le_of_ble_eq_true rfl⟩ 0 7 rfl rfl rfl [0, 1, 2, 3, 4, 5, 6, 7, 8, 9, 10, 11, 12, 13, 14, 15] [] [0, 1, 2, 3, 4, 5, 6, 7, 8, 9, 10, 11, 12, 13, 14, 15] rfl rfl rfl (by decide) (by decide) rfl rfl (Nat.le_of_ble_eq_true rfl) ⟨Nat.le_of_ble_eq_true rfl, Nat.le_of_ble_eq_true rfl⟩ (dOk_at dX7_readsCanal 60 rfl) (fun H locs hh => ?_)
            refine lv_goto (pc := 107) (tgt := 112) hx hb (dOk_at dX7_readsCanal 61 rfl) (by decide) ?_
            exact k112_95 _ _ (if_neg c95).symm (if_neg c95).symm _ _ _ hh (lv_sub hl [0, 1, 2] rfl)
        have hv := hv.1
        refine lv_if_le (pc := 71) (tgt := 85) hx hb (dOk_at dX7_readsCanal 41 rfl) (by decide) (fun c71 => ?_) (fun c71 => ?_)
        · have hv := hv.1 c71
          refine lv_bipush (pc := 85) (v := (-9)) hx hb (dOk_at dX7_readsCanal 49 rfl) (by decide) ?_
          exact k87_71 _ _ (if_pos c71).symm (if_pos c71).symm _ _ _ hh (lv_sub hl [0, 1, 2] rfl)
        · have hv := hv.2 c71
          refine lv_aload_n (pc := 74) hx hb (dOk_at dX7_readsCanal 42 rfl) rfl (lv_at hl 0 rfl) ?_
          refine lv_iload_n (pc := 75) hx hb (dOk_at dX7_readsCanal 43 rfl) rfl (lv_at hl 1 rfl) ?_
          refine lv_iload_n (pc := 76) hx hb (dOk_at dX7_readsCanal 44 rfl) rfl (lv_at hl 2 rfl) ?_
          refine lv_iconst (pc := 77) (v := 2) hx hb (dOk_at dX7_readsCanal 45 rfl) (by decide) ?_
          refine lv_iconst (pc := 78) (v := 5) hx hb (dOk_at dX7_readsCanal 46 rfl) (by decide) ?_
          refine cl_V (pc := 79) (w' := [(m0, .inr (7, [.int f0, .int f1, .int f2, .int f3, .ref a4, .int f5, .ref a6, .ref a7, .int f8, .int f9, .int (q_figP v63_w0_10 fro n g29 2 5), .int v63_s0, .int f12, .int f13, .int 0, .ref a15, .ref a16, .ref a17, .int f18, .int f19, .int f20, .ref a21, .ref a22, .int f23, .ref a24, .ref a25, .ref a26, .ref a27, .ref a28, .ref a29, .ref a30, .int f31])), (a4, .inl (G.2.1, 20, .inl g4)), (a6, .inl (G.2.1, 4, .inl g6)), (a7, .inl (G.2.1, 4, .inl g7)), (a15, .inl (G.2.1, 20, .inl g15)), (a16, .inl (G.2.1, 4, .inl g16)), (a17, .inl (G.2.1, 4, .inl g17)), (a21, .inl (G.2.1, 20, .inl g21)), (a22, .inl (G.2.1, 40, .inl g22)), (a24, .inl (G.2.1, 8, .inl g24)), (a25, .inl (G.2.1, 8, .inl g25)), (a26, .inl (G.2.2.1, 8, .inl g26)), (a27, .inl (G.2.1, 4, .inl g27)), (a28, .inl (G.2.1, 4, .inl g28)), (a29, .inl (G.2.1, 240, .inl g29)), (a30, .inl (G.2.1, 60, .inl g30))]) (wr := []) (rest := [.ref m0]) fx hh hl.1 (h_X7_figure m0 a4 a6 a7 a15 a16 a17 a21 a22 a24 a25 a26 a27 a28 a29 a30 f0 f1 f2 f3 f5 f8 f9 v63_w0_10 v63_s0 f12 f13 0 f18 f19 f20 f23 f31 g4 g6 g7 g15 g16 g17 g21 g22 g24 g25 g26 g27 g28 g29 g30 fro n 2 5 hv) yV_X7_figure tMX7_97 ⟨rfl, rfl, Nat.le_of_ble_eq_true rfl, Nat.le_of_ble_eq_true rfl⟩ 0 7 rfl rfl rfl [0, 1, 2, 3, 4, 5, 6, 7, 8, 9, 10, 11, 12, 13, 14, 15] [] [0, 1, 2, 3, 4, 5, 6, 7, 8, 9, 10, 11, 12, 13, 14, 15] rfl rfl rfl (by decide) (by decide) rfl rfl (Nat.le_of_ble_eq_true rfl) ⟨Nat.le_of_ble_eq_true rfl, Nat.le_of_ble_eq_true rfl⟩ (dOk_at dX7_readsCanal 47 rfl) (fun H locs hh => ?_)
          refine lv_goto (pc := 82) (tgt := 87) hx hb (dOk_at dX7_readsCanal 48 rfl) (by decide) ?_
          exact k87_71 _ _ (if_neg c71).symm (if_neg c71).symm _ _ _ hh (lv_sub hl [0, 1, 2] rfl)
      have hv := hv.1
      refine lv_if_eq (pc := 47) (tgt := 61) hx hb (dOk_at dX7_readsCanal 28 rfl) (by decide) (fun c47 => ?_) (fun c47 => ?_)
      · have hv := hv.1 c47
        refine lv_bipush (pc := 61) (v := (-9)) hx hb (dOk_at dX7_readsCanal 36 rfl) (by decide) ?_
        exact k63_47 _ _ (if_pos c47).symm (if_pos c47).symm _ _ _ hh (lv_sub hl [0, 1, 2] rfl)
      · have hv := hv.2 c47
        refine lv_aload_n (pc := 50) hx hb (dOk_at dX7_readsCanal 29 rfl) rfl (lv_at hl 0 rfl) ?_
        refine lv_iload_n (pc := 51) hx hb (dOk_at dX7_readsCanal 30 rfl) rfl (lv_at hl 1 rfl) ?_
        refine lv_iload_n (pc := 52) hx hb (dOk_at dX7_readsCanal 31 rfl) rfl (lv_at hl 2 rfl) ?_
        refine lv_iconst (pc := 53) (v := 1) hx hb (dOk_at dX7_readsCanal 32 rfl) (by decide) ?_
        refine lv_iconst (pc := 54) (v := 4) hx hb (dOk_at dX7_readsCanal 33 rfl) (by decide) ?_
        refine cl_V (pc := 55) (w' := [(m0, .inr (7, [.int f0, .int f1, .int f2, .int f3, .ref a4, .int f5, .ref a6, .ref a7, .int f8, .int f9, .int (q_figP (0 + v41) fro n g29 1 4), .int f11, .int f12, .int f13, .int 0, .ref a15, .ref a16, .ref a17, .int f18, .int f19, .int f20, .ref a21, .ref a22, .int f23, .ref a24, .ref a25, .ref a26, .ref a27, .ref a28, .ref a29, .ref a30, .int f31])), (a4, .inl (G.2.1, 20, .inl g4)), (a6, .inl (G.2.1, 4, .inl g6)), (a7, .inl (G.2.1, 4, .inl g7)), (a15, .inl (G.2.1, 20, .inl g15)), (a16, .inl (G.2.1, 4, .inl g16)), (a17, .inl (G.2.1, 4, .inl g17)), (a21, .inl (G.2.1, 20, .inl g21)), (a22, .inl (G.2.1, 40, .inl g22)), (a24, .inl (G.2.1, 8, .inl g24)), (a25, .inl (G.2.1, 8, .inl g25)), (a26, .inl (G.2.2.1, 8, .inl g26)), (a27, .inl (G.2.1, 4, .inl g27)), (a28, .inl (G.2.1, 4, .inl g28)), (a29, .inl (G.2.1, 240, .inl g29)), (a30, .inl (G.2.1, 60, .inl g30))]) (wr := []) (rest := [.ref m0]) fx hh hl.1 (h_X7_figure m0 a4 a6 a7 a15 a16 a17 a21 a22 a24 a25 a26 a27 a28 a29 a30 f0 f1 f2 f3 f5 f8 f9 (0 + v41) f11 f12 f13 0 f18 f19 f20 f23 f31 g4 g6 g7 g15 g16 g17 g21 g22 g24 g25 g26 g27 g28 g29 g30 fro n 1 4 hv) yV_X7_figure tMX7_97 ⟨rfl, rfl, Nat.le_of_ble_eq_true rfl, Nat.le_of_ble_eq_true rfl⟩ 0 7 rfl rfl rfl [0, 1, 2, 3, 4, 5, 6, 7, 8, 9, 10, 11, 12, 13, 14, 15] [] [0, 1, 2, 3, 4, 5, 6, 7, 8, 9, 10, 11, 12, 13, 14, 15] rfl rfl rfl (by decide) (by decide) rfl rfl (Nat.le_of_ble_eq_true rfl) ⟨Nat.le_of_ble_eq_true rfl, Nat.le_of_ble_eq_true rfl⟩ (dOk_at dX7_readsCanal 34 rfl) (fun H locs hh => ?_)
        refine lv_goto (pc := 58) (tgt := 63) hx hb (dOk_at dX7_readsCanal 35 rfl) (by decide) ?_
        exact k63_47 _ _ (if_neg c47).symm (if_neg c47).symm _ _ _ hh (lv_sub hl [0, 1, 2] rfl)
    refine lv_if_eq (pc := 33) (tgt := 40) hx hb (dOk_at dX7_readsCanal 20 rfl) (by decide) (fun c33 => ?_) (fun c33 => ?_)
    · refine lv_iconst (pc := 40) (v := 0) hx hb (dOk_at dX7_readsCanal 23 rfl) (by decide) ?_
      exact k41_33 _ (if_pos c33).symm _ _ _ hh (lv_sub hl [1, 2, 3, 0] rfl)
    · refine lv_iconst (pc := 36) (v := 1) hx hb (dOk_at dX7_readsCanal 21 rfl) (by decide) ?_
      refine lv_goto (pc := 37) (tgt := 41) hx hb (dOk_at dX7_readsCanal 22 rfl) (by decide) ?_
      exact k41_33 _ (if_neg c33).symm _ _ _ hh (lv_sub hl [1, 2, 3, 0] rfl)
  refine lv_icmp_ne (pc := 18) (tgt := 25) hx hb (dOk_at dX7_readsCanal 11 rfl) (by decide) (fun c18 => ?_) (fun c18 => ?_)
  · refine lv_iconst (pc := 25) (v := 0) hx hb (dOk_at dX7_readsCanal 14 rfl) (by decide) ?_
    exact k26_18 _ (if_neg c18).symm _ _ _ hh (lv_sub hl [0, 1, 2] rfl)
  · refine lv_iconst (pc := 21) (v := 1) hx hb (dOk_at dX7_readsCanal 12 rfl) (by decide) ?_
    refine lv_goto (pc := 22) (tgt := 26) hx hb (dOk_at dX7_readsCanal 13 rfl) (by decide) ?_
    exact k26_18 _ (if_pos c18).symm _ _ _ hh (lv_sub hl [0, 1, 2] rfl)
set_option maxRecDepth 100000 in
set_option maxHeartbeats 4000000 in
theorem wk_X7_cellsBarred (l : Launch) (G : GT) (m0 : Nat) (a4 : Nat) (a6 : Nat) (a7 : Nat) (a15 : Nat) (a16 : Nat) (a17 : Nat) (a21 : Nat) (a22 : Nat) (a24 : Nat) (a25 : Nat) (a26 : Nat) (a27 : Nat) (a28 : Nat) (a29 : Nat) (a30 : Nat) (f0 : Int32) (f1 : Int32) (f2 : Int32) (f3 : Int32) (f5 : Int32) (f8 : Int32) (f9 : Int32) (f10 : Int32) (f11 : Int32) (f12 : Int32) (f13 : Int32) (f14 : Int32) (f18 : Int32) (f19 : Int32) (f20 : Int32) (f23 : Int32) (f31 : Int32) (g4 : Nat → Int32) (g6 : Nat → Int32) (g7 : Nat → Int32) (g15 : Nat → Int32) (g16 : Nat → Int32) (g17 : Nat → Int32) (g21 : Nat → Int32) (g22 : Nat → Int32) (g24 : Nat → Int32) (g25 : Nat → Int32) (g26 : Nat → Int32) (g27 : Nat → Int32) (g28 : Nat → Int32) (g29 : Nat → Int32) (g30 : Nat → Int32) (k : Int32) (lane : Int32) (i : Int32) (n : Int64) (R : Int32) (t0_0 : Int32) (h_X7_failed : K_X7_failed l G) (h_X7_isBeyond : K_X7_isBeyond l G)
    (hv : vp_in k 4 ∧ (((g27 k.toNatClampNeg) < 0 → vp_in k 4 ∧ ((0 ≤ (g27 k.toNatClampNeg) → (0 ≤ (lg_cmp n 0) → vp_in k 4 ∧ (((q_beyond i n (g27 k.toNatClampNeg)) = 0 → (0 : Int32) = R ∧ f0 = t0_0) ∧ (¬ (q_beyond i n (g27 k.toNatClampNeg)) = 0 → ((-10) - 3) = R ∧ (3 : Int32) = t0_0))) ∧ (¬ 0 ≤ (lg_cmp n 0) → ((-10) - 4) = R ∧ (4 : Int32) = t0_0)) ∧ (¬ 0 ≤ (g27 k.toNatClampNeg) → ((-10) - 1) = R ∧ (1 : Int32) = t0_0))) ∧ (¬ (g27 k.toNatClampNeg) < 0 → vp_in k 4 ∧ (((g28 k.toNatClampNeg) = lane → vp_in k 4 ∧ ((0 ≤ (g27 k.toNatClampNeg) → (0 ≤ (lg_cmp n 0) → vp_in k 4 ∧ (((q_beyond i n (g27 k.toNatClampNeg)) = 0 → (0 : Int32) = R ∧ f0 = t0_0) ∧ (¬ (q_beyond i n (g27 k.toNatClampNeg)) = 0 → ((-10) - 3) = R ∧ (3 : Int32) = t0_0))) ∧ (¬ 0 ≤ (lg_cmp n 0) → ((-10) - 4) = R ∧ (4 : Int32) = t0_0)) ∧ (¬ 0 ≤ (g27 k.toNatClampNeg) → ((-10) - 1) = R ∧ (1 : Int32) = t0_0))) ∧ (¬ (g28 k.toNatClampNeg) = lane → ((-10) - 2) = R ∧ (2 : Int32) = t0_0))))) :
    MF l G yX7_cellsBarred cX7_cellsBarred 6 (some .int) rm_X7_cellsBarred [.ref m0, .int k, .int lane, .int i, .long n] [(m0, .inr (7, [.int f0, .int f1, .int f2, .int f3, .ref a4, .int f5, .ref a6, .ref a7, .int f8, .int f9, .int f10, .int f11, .int f12, .int f13, .int f14, .ref a15, .ref a16, .ref a17, .int f18, .int f19, .int f20, .ref a21, .ref a22, .int f23, .ref a24, .ref a25, .ref a26, .ref a27, .ref a28, .ref a29, .ref a30, .int f31])), (a4, .inl (G.2.1, 20, .inl g4)), (a6, .inl (G.2.1, 4, .inl g6)), (a7, .inl (G.2.1, 4, .inl g7)), (a15, .inl (G.2.1, 20, .inl g15)), (a16, .inl (G.2.1, 4, .inl g16)), (a17, .inl (G.2.1, 4, .inl g17)), (a21, .inl (G.2.1, 20, .inl g21)), (a22, .inl (G.2.1, 40, .inl g22)), (a24, .inl (G.2.1, 8, .inl g24)), (a25, .inl (G.2.1, 8, .inl g25)), (a26, .inl (G.2.2.1, 8, .inl g26)), (a27, .inl (G.2.1, 4, .inl g27)), (a28, .inl (G.2.1, 4, .inl g28)), (a29, .inl (G.2.1, 240, .inl g29)), (a30, .inl (G.2.1, 60, .inl g30))] (some (.int R)) [(m0, .inr (7, [.int t0_0, .int f1, .int f2, .int f3, .ref a4, .int f5, .ref a6, .ref a7, .int f8, .int f9, .int f10, .int f11, .int f12, .int f13, .int f14, .ref a15, .ref a16, .ref a17, .int f18, .int f19, .int f20, .ref a21, .ref a22, .int f23, .ref a24, .ref a25, .ref a26, .ref a27, .ref a28, .ref a29, .ref a30, .int f31])), (a4, .inl (G.2.1, 20, .inl g4)), (a6, .inl (G.2.1, 4, .inl g6)), (a7, .inl (G.2.1, 4, .inl g7)), (a15, .inl (G.2.1, 20, .inl g15)), (a16, .inl (G.2.1, 4, .inl g16)), (a17, .inl (G.2.1, 4, .inl g17)), (a21, .inl (G.2.1, 20, .inl g21)), (a22, .inl (G.2.1, 40, .inl g22)), (a24, .inl (G.2.1, 8, .inl g24)), (a25, .inl (G.2.1, 8, .inl g25)), (a26, .inl (G.2.2.1, 8, .inl g26)), (a27, .inl (G.2.1, 4, .inl g27)), (a28, .inl (G.2.1, 4, .inl g28)), (a29, .inl (G.2.1, 240, .inl g29)), (a30, .inl (G.2.1, 60, .inl g30))] := by
  refine MF.of (by decide +kernel) (Nat.le_of_ble_eq_true rfl) ?_
  intro p e s m args below meth c A ls fx hh hl _
  have hx := fx.hx
  have hb := fx.hb
  have hl : lv_has ls 6 [(0, .ref m0), (1, .int k), (2, .int lane), (3, .int i), (4, .long n)] := hl
  obtain ⟨Q, hQ⟩ : ∃ Q, Q = ZZ G A (some (.int R)) [(m0, .inr (7, [.int t0_0, .int f1, .int f2, .int f3, .ref a4, .int f5, .ref a6, .ref a7, .int f8, .int f9, .int f10, .int f11, .int f12, .int f13, .int f14, .ref a15, .ref a16, .ref a17, .int f18, .int f19, .int f20, .ref a21, .ref a22, .int f23, .ref a24, .ref a25, .ref a26, .ref a27, .ref a28, .ref a29, .ref a30, .int f31])), (a4, .inl (G.2.1, 20, .inl g4)), (a6, .inl (G.2.1, 4, .inl g6)), (a7, .inl (G.2.1, 4, .inl g7)), (a15, .inl (G.2.1, 20, .inl g15)), (a16, .inl (G.2.1, 4, .inl g16)), (a17, .inl (G.2.1, 4, .inl g17)), (a21, .inl (G.2.1, 20, .inl g21)), (a22, .inl (G.2.1, 40, .inl g22)), (a24, .inl (G.2.1, 8, .inl g24)), (a25, .inl (G.2.1, 8, .inl g25)), (a26, .inl (G.2.2.1, 8, .inl g26)), (a27, .inl (G.2.1, 4, .inl g27)), (a28, .inl (G.2.1, 4, .inl g28)), (a29, .inl (G.2.1, 240, .inl g29)), (a30, .inl (G.2.1, 60, .inl g30))] below args s := ⟨_, rfl⟩
  rw [← hQ]
  refine lv_aload_n (pc := 0) hx hb (dOk_at dX7_cellsBarred 0 rfl) rfl (lv_at hl 0 rfl) ?_
  refine r_get (pc := 1) (ci := 7) fx hh inT7 rfl 27 (by decide) tFX7_44 rfl 0 rfl rfl (dOk_at dX7_cellsBarred 1 rfl) ?_
  refine lv_iload_n (pc := 4) hx hb (dOk_at dX7_cellsBarred 2 rfl) rfl (lv_at hl 1 rfl) ?_
  refine r_iald (pc := 5) fx hh 12 rfl hv.1 (dOk_at dX7_cellsBarred 3 rfl) ?_
  have hv := hv.2
  refine lv_if_lt (pc := 6) (tgt := 25) hx hb (dOk_at dX7_cellsBarred 4 rfl) (by decide) (fun c6 => ?_) (fun c6 => ?_)
  · have hv := hv.1 c6
    refine lv_aload_n (pc := 25) hx hb (dOk_at dX7_cellsBarred 15 rfl) rfl (lv_at hl 0 rfl) ?_
    refine r_get (pc := 26) (ci := 7) fx hh inT7 rfl 27 (by decide) tFX7_44 rfl 0 rfl rfl (dOk_at dX7_cellsBarred 16 rfl) ?_
    refine lv_iload_n (pc := 29) hx hb (dOk_at dX7_cellsBarred 17 rfl) rfl (lv_at hl 1 rfl) ?_
    refine r_iald (pc := 30) fx hh 12 rfl hv.1 (dOk_at dX7_cellsBarred 18 rfl) ?_
    have hv := hv.2
    refine lv_if_ge (pc := 31) (tgt := 40) hx hb (dOk_at dX7_cellsBarred 19 rfl) (by decide) (fun c31 => ?_) (fun c31 => ?_)
    · have hv := hv.1 c31
      refine lv_lload (pc := 40) hx hb (dOk_at dX7_cellsBarred 24 rfl) (lv_at hl 4 rfl) ?_
      refine lv_lconst (pc := 42) (v := 0) hx hb (dOk_at dX7_cellsBarred 25 rfl) (by decide) ?_
      refine W.lcmp (pc := 43) hx hb (dOk_at dX7_cellsBarred 26 rfl) ?_
      refine lv_if_ge (pc := 44) (tgt := 53) hx hb (dOk_at dX7_cellsBarred 27 rfl) (by decide) (fun c44 => ?_) (fun c44 => ?_)
      · have hv := hv.1 c44
        refine lv_iload_n (pc := 53) hx hb (dOk_at dX7_cellsBarred 32 rfl) rfl (lv_at hl 3 rfl) ?_
        refine lv_lload (pc := 54) hx hb (dOk_at dX7_cellsBarred 33 rfl) (lv_at hl 4 rfl) ?_
        refine lv_aload_n (pc := 56) hx hb (dOk_at dX7_cellsBarred 34 rfl) rfl (lv_at hl 0 rfl) ?_
        refine r_get (pc := 57) (ci := 7) fx hh inT7 rfl 27 (by decide) tFX7_44 rfl 0 rfl rfl (dOk_at dX7_cellsBarred 35 rfl) ?_
        refine lv_iload_n (pc := 60) hx hb (dOk_at dX7_cellsBarred 36 rfl) rfl (lv_at hl 1 rfl) ?_
        refine r_iald (pc := 61) fx hh 12 rfl hv.1 (dOk_at dX7_cellsBarred 37 rfl) ?_
        have hv := hv.2
        refine cl_S (pc := 62) (w' := [(m0, .inr (7, [.int f0, .int f1, .int f2, .int f3, .ref a4, .int f5, .ref a6, .ref a7, .int f8, .int f9, .int f10, .int f11, .int f12, .int f13, .int f14, .ref a15, .ref a16, .ref a17, .int f18, .int f19, .int f20, .ref a21, .ref a22, .int f23, .ref a24, .ref a25, .ref a26, .ref a27, .ref a28, .ref a29, .ref a30, .int f31])), (a4, .inl (G.2.1, 20, .inl g4)), (a6, .inl (G.2.1, 4, .inl g6)), (a7, .inl (G.2.1, 4, .inl g7)), (a15, .inl (G.2.1, 20, .inl g15)), (a16, .inl (G.2.1, 4, .inl g16)), (a17, .inl (G.2.1, 4, .inl g17)), (a21, .inl (G.2.1, 20, .inl g21)), (a22, .inl (G.2.1, 40, .inl g22)), (a24, .inl (G.2.1, 8, .inl g24)), (a25, .inl (G.2.1, 8, .inl g25)), (a26, .inl (G.2.2.1, 8, .inl g26)), (a27, .inl (G.2.1, 4, .inl g27)), (a28, .inl (G.2.1, 4, .inl g28)), (a29, .inl (G.2.1, 240, .inl g29)), (a30, .inl (G.2.1, 60, .inl g30))]) (wr := [(m0, .inr (7, [.int f0, .int f1, .int f2, .int f3, .ref a4, .int f5, .ref a6, .ref a7, .int f8, .int f9, .int f10, .int f11, .int f12, .int f13, .int f14, .ref a15, .ref a16, .ref a17, .int f18, .int f19, .int f20, .ref a21, .ref a22, .int f23, .ref a24, .ref a25, .ref a26, .ref a27, .ref a28, .ref a29, .ref a30, .int f31])), (a4, .inl (G.2.1, 20, .inl g4)), (a6, .inl (G.2.1, 4, .inl g6)), (a7, .inl (G.2.1, 4, .inl g7)), (a15, .inl (G.2.1, 20, .inl g15)), (a16, .inl (G.2.1, 4, .inl g16)), (a17, .inl (G.2.1, 4, .inl g17)), (a21, .inl (G.2.1, 20, .inl g21)), (a22, .inl (G.2.1, 40, .inl g22)), (a24, .inl (G.2.1, 8, .inl g24)), (a25, .inl (G.2.1, 8, .inl g25)), (a26, .inl (G.2.2.1, 8, .inl g26)), (a27, .inl (G.2.1, 4, .inl g27)), (a28, .inl (G.2.1, 4, .inl g28)), (a29, .inl (G.2.1, 240, .inl g29)), (a30, .inl (G.2.1, 60, .inl g30))]) (rest := []) fx hh hl.1 (h_X7_isBeyond i n (g27 k.toNatClampNeg)) yS_X7_isBeyond tMX7_122 ⟨rfl, rfl, Nat.le_of_ble_eq_true rfl, Nat.le_of_ble_eq_true rfl⟩ [] [0, 1, 2, 3, 4, 5, 6, 7, 8, 9, 10, 11, 12, 13, 14, 15] [0, 1, 2, 3, 4, 5, 6, 7, 8, 9, 10, 11, 12, 13, 14, 15] rfl rfl rfl (by decide) (by decide) rfl rfl (Nat.le_of_ble_eq_true rfl) ⟨Nat.le_of_ble_eq_true rfl, Nat.le_of_ble_eq_true rfl⟩ (dOk_at dX7_cellsBarred 38 rfl) (fun H locs hh => ?_)
        refine lv_if_eq (pc := 65) (tgt := 76) hx hb (dOk_at dX7_cellsBarred 39 rfl) (by decide) (fun c65 => ?_) (fun c65 => ?_)
        · have hv := hv.1 c65
          refine lv_iconst (pc := 76) (v := 0) hx hb (dOk_at dX7_cellsBarred 44 rfl) (by decide) ?_
          obtain ⟨e0, e1⟩ := hv
          subst e0
          subst e1
          rw [hQ]
          exact r_iret (pc := 77) fx hh (dOk_at dX7_cellsBarred 45 rfl)
        · have hv := hv.2 c65
          refine lv_aload_n (pc := 68) hx hb (dOk_at dX7_cellsBarred 40 rfl) rfl (lv_at hl 0 rfl) ?_
          refine lv_iconst (pc := 69) (v := 3) hx hb (dOk_at dX7_cellsBarred 41 rfl) (by decide) ?_
          refine cl_V (pc := 70) (w' := [(m0, .inr (7, [.int 3, .int f1, .int f2, .int f3, .ref a4, .int f5, .ref a6, .ref a7, .int f8, .int f9, .int f10, .int f11, .int f12, .int f13, .int f14, .ref a15, .ref a16, .ref a17, .int f18, .int f19, .int f20, .ref a21, .ref a22, .int f23, .ref a24, .ref a25, .ref a26, .ref a27, .ref a28, .ref a29, .ref a30, .int f31])), (a4, .inl (G.2.1, 20, .inl g4)), (a6, .inl (G.2.1, 4, .inl g6)), (a7, .inl (G.2.1, 4, .inl g7)), (a15, .inl (G.2.1, 20, .inl g15)), (a16, .inl (G.2.1, 4, .inl g16)), (a17, .inl (G.2.1, 4, .inl g17)), (a21, .inl (G.2.1, 20, .inl g21)), (a22, .inl (G.2.1, 40, .inl g22)), (a24, .inl (G.2.1, 8, .inl g24)), (a25, .inl (G.2.1, 8, .inl g25)), (a26, .inl (G.2.2.1, 8, .inl g26)), (a27, .inl (G.2.1, 4, .inl g27)), (a28, .inl (G.2.1, 4, .inl g28)), (a29, .inl (G.2.1, 240, .inl g29)), (a30, .inl (G.2.1, 60, .inl g30))]) (wr := []) (rest := []) fx hh hl.1 (h_X7_failed m0 a4 a6 a7 a15 a16 a17 a21 a22 a24 a25 a26 a27 a28 a29 a30 f0 f1 f2 f3 f5 f8 f9 f10 f11 f12 f13 f14 f18 f19 f20 f23 f31 g4 g6 g7 g15 g16 g17 g21 g22 g24 g25 g26 g27 g28 g29 g30 3) yV_X7_failed tMX7_118 ⟨rfl, rfl, Nat.le_of_ble_eq_true rfl, Nat.le_of_ble_eq_true rfl⟩ 0 7 rfl rfl rfl [0, 1, 2, 3, 4, 5, 6, 7, 8, 9, 10, 11, 12, 13, 14, 15] [] [0, 1, 2, 3, 4, 5, 6, 7, 8, 9, 10, 11, 12, 13, 14, 15] rfl rfl rfl (by decide) (by decide) rfl rfl (Nat.le_of_ble_eq_true rfl) ⟨Nat.le_of_ble_eq_true rfl, Nat.le_of_ble_eq_true rfl⟩ (dOk_at dX7_cellsBarred 42 rfl) (fun H locs hh => ?_)
          refine lv_goto (pc := 73) (tgt := 77) hx hb (dOk_at dX7_cellsBarred 43 rfl) (by decide) ?_
          obtain ⟨e0, e1⟩ := hv
          subst e0
          subst e1
          rw [hQ]
          exact r_iret (pc := 77) fx hh (dOk_at dX7_cellsBarred 45 rfl)
      · have hv := hv.2 c44
        refine lv_aload_n (pc := 47) hx hb (dOk_at dX7_cellsBarred 28 rfl) rfl (lv_at hl 0 rfl) ?_
        refine lv_iconst (pc := 48) (v := 4) hx hb (dOk_at dX7_cellsBarred 29 rfl) (by decide) ?_
        refine cl_V (pc := 49) (w' := [(m0, .inr (7, [.int 4, .int f1, .int f2, .int f3, .ref a4, .int f5, .ref a6, .ref a7, .int f8, .int f9, .int f10, .int f11, .int f12, .int f13, .int f14, .ref a15, .ref a16, .ref a17, .int f18, .int f19, .int f20, .ref a21, .ref a22, .int f23, .ref a24, .ref a25, .ref a26, .ref a27, .ref a28, .ref a29, .ref a30, .int f31])), (a4, .inl (G.2.1, 20, .inl g4)), (a6, .inl (G.2.1, 4, .inl g6)), (a7, .inl (G.2.1, 4, .inl g7)), (a15, .inl (G.2.1, 20, .inl g15)), (a16, .inl (G.2.1, 4, .inl g16)), (a17, .inl (G.2.1, 4, .inl g17)), (a21, .inl (G.2.1, 20, .inl g21)), (a22, .inl (G.2.1, 40, .inl g22)), (a24, .inl (G.2.1, 8, .inl g24)), (a25, .inl (G.2.1, 8, .inl g25)), (a26, .inl (G.2.2.1, 8, .inl g26)), (a27, .inl (G.2.1, 4, .inl g27)), (a28, .inl (G.2.1, 4, .inl g28)), (a29, .inl (G.2.1, 240, .inl g29)), (a30, .inl (G.2.1, 60, .inl g30))]) (wr := []) (rest := []) fx hh hl.1 (h_X7_failed m0 a4 a6 a7 a15 a16 a17 a21 a22 a24 a25 a26 a27 a28 a29 a30 f0 f1 f2 f3 f5 f8 f9 f10 f11 f12 f13 f14 f18 f19 f20 f23 f31 g4 g6 g7 g15 g16 g17 g21 g22 g24 g25 g26 g27 g28 g29 g30 4) yV_X7_failed tMX7_118 ⟨rfl, rfl, Nat.le_of_ble_eq_true rfl, Nat.le_of_ble_eq_true rfl⟩ 0 7 rfl rfl rfl [0, 1, 2, 3, 4, 5, 6, 7, 8, 9, 10, 11, 12, 13, 14, 15] [] [0, 1, 2, 3, 4, 5, 6, 7, 8, 9, 10, 11, 12, 13, 14, 15] rfl rfl rfl (by decide) (by decide) rfl rfl (Nat.le_of_ble_eq_true rfl) ⟨Nat.le_of_ble_eq_true rfl, Nat.le_of_ble_eq_true rfl⟩ (dOk_at dX7_cellsBarred 30 rfl) (fun H locs hh => ?_)
        obtain ⟨e0, e1⟩ := hv
        subst e0
        subst e1
        rw [hQ]
        exact r_iret (pc := 52) fx hh (dOk_at dX7_cellsBarred 31 rfl)
    · have hv := hv.2 c31
      refine lv_aload_n (pc := 34) hx hb (dOk_at dX7_cellsBarred 20 rfl) rfl (lv_at hl 0 rfl) ?_
      refine lv_iconst (pc := 35) (v := 1) hx hb (dOk_at dX7_cellsBarred 21 rfl) (by decide) ?_
      refine cl_V (pc := 36) (w' := [(m0, .inr (7, [.int 1, .int f1, .int f2, .int f3, .ref a4, .int f5, .ref a6, .ref a7, .int f8, .int f9, .int f10, .int f11, .int f12, .int f13, .int f14, .ref a15, .ref a16, .ref a17, .int f18, .int f19, .int f20, .ref a21, .ref a22, .int f23, .ref a24, .ref a25, .ref a26, .ref a27, .ref a28, .ref a29, .ref a30, .int f31])), (a4, .inl (G.2.1, 20, .inl g4)), (a6, .inl (G.2.1, 4, .inl g6)), (a7, .inl (G.2.1, 4, .inl g7)), (a15, .inl (G.2.1, 20, .inl g15)), (a16, .inl (G.2.1, 4, .inl g16)), (a17, .inl (G.2.1, 4, .inl g17)), (a21, .inl (G.2.1, 20, .inl g21)), (a22, .inl (G.2.1, 40, .inl g22)), (a24, .inl (G.2.1, 8, .inl g24)), (a25, .inl (G.2.1, 8, .inl g25)), (a26, .inl (G.2.2.1, 8, .inl g26)), (a27, .inl (G.2.1, 4, .inl g27)), (a28, .inl (G.2.1, 4, .inl g28)), (a29, .inl (G.2.1, 240, .inl g29)), (a30, .inl (G.2.1, 60, .inl g30))]) (wr := []) (rest := []) fx hh hl.1 (h_X7_failed m0 a4 a6 a7 a15 a16 a17 a21 a22 a24 a25 a26 a27 a28 a29 a30 f0 f1 f2 f3 f5 f8 f9 f10 f11 f12 f13 f14 f18 f19 f20 f23 f31 g4 g6 g7 g15 g16 g17 g21 g22 g24 g25 g26 g27 g28 g29 g30 1) yV_X7_failed tMX7_118 ⟨rfl, rfl, Nat.le_of_ble_eq_true rfl, Nat.le_of_ble_eq_true rfl⟩ 0 7 rfl rfl rfl [0, 1, 2, 3, 4, 5, 6, 7, 8, 9, 10, 11, 12, 13, 14, 15] [] [0, 1, 2, 3, 4, 5, 6, 7, 8, 9, 10, 11, 12, 13, 14, 15] rfl rfl rfl (by decide) (by decide) rfl rfl (Nat.le_of_ble_eq_true rfl) ⟨Nat.le_of_ble_eq_true rfl, Nat.le_of_ble_eq_true rfl⟩ (dOk_at dX7_cellsBarred 22 rfl) (fun H locs hh => ?_)
      obtain ⟨e0, e1⟩ := hv
      subst e0
      subst e1
      rw [hQ]
      exact r_iret (pc := 39) fx hh (dOk_at dX7_cellsBarred 23 rfl)
  · have hv := hv.2 c6
    refine lv_aload_n (pc := 9) hx hb (dOk_at dX7_cellsBarred 5 rfl) rfl (lv_at hl 0 rfl) ?_
    refine r_get (pc := 10) (ci := 7) fx hh inT7 rfl 28 (by decide) tFX7_47 rfl 0 rfl rfl (dOk_at dX7_cellsBarred 6 rfl) ?_
    refine lv_iload_n (pc := 13) hx hb (dOk_at dX7_cellsBarred 7 rfl) rfl (lv_at hl 1 rfl) ?_
    refine r_iald (pc := 14) fx hh 13 rfl hv.1 (dOk_at dX7_cellsBarred 8 rfl) ?_
    have hv := hv.2
    refine lv_iload_n (pc := 15) hx hb (dOk_at dX7_cellsBarred 9 rfl) rfl (lv_at hl 2 rfl) ?_
    refine lv_icmp_eq (pc := 16) (tgt := 25) hx hb (dOk_at dX7_cellsBarred 10 rfl) (by decide) (fun c16 => ?_) (fun c16 => ?_)
    · have hv := hv.1 c16
      refine lv_aload_n (pc := 25) hx hb (dOk_at dX7_cellsBarred 15 rfl) rfl (lv_at hl 0 rfl) ?_
      refine r_get (pc := 26) (ci := 7) fx hh inT7 rfl 27 (by decide) tFX7_44 rfl 0 rfl rfl (dOk_at dX7_cellsBarred 16 rfl) ?_
      refine lv_iload_n (pc := 29) hx hb (dOk_at dX7_cellsBarred 17 rfl) rfl (lv_at hl 1 rfl) ?_
      refine r_iald (pc := 30) fx hh 12 rfl hv.1 (dOk_at dX7_cellsBarred 18 rfl) ?_
      have hv := hv.2
      refine lv_if_ge (pc := 31) (tgt := 40) hx hb (dOk_at dX7_cellsBarred 19 rfl) (by decide) (fun c31 => ?_) (fun c31 => ?_)
      · have hv := hv.1 c31
        refine lv_lload (pc := 40) hx hb (dOk_at dX7_cellsBarred 24 rfl) (lv_at hl 4 rfl) ?_
        refine lv_lconst (pc := 42) (v := 0) hx hb (dOk_at dX7_cellsBarred 25 rfl) (by decide) ?_
        refine W.lcmp (pc := 43) hx hb (dOk_at dX7_cellsBarred 26 rfl) ?_
        refine lv_if_ge (pc := 44) (tgt := 53) hx hb (dOk_at dX7_cellsBarred 27 rfl) (by decide) (fun c44 => ?_) (fun c44 => ?_)
        · have hv := hv.1 c44
          refine lv_iload_n (pc := 53) hx hb (dOk_at dX7_cellsBarred 32 rfl) rfl (lv_at hl 3 rfl) ?_
          refine lv_lload (pc := 54) hx hb (dOk_at dX7_cellsBarred 33 rfl) (lv_at hl 4 rfl) ?_
          refine lv_aload_n (pc := 56) hx hb (dOk_at dX7_cellsBarred 34 rfl) rfl (lv_at hl 0 rfl) ?_
          refine r_get (pc := 57) (ci := 7) fx hh inT7 rfl 27 (by decide) tFX7_44 rfl 0 rfl rfl (dOk_at dX7_cellsBarred 35 rfl) ?_
          refine lv_iload_n (pc := 60) hx hb (dOk_at dX7_cellsBarred 36 rfl) rfl (lv_at hl 1 rfl) ?_
          refine r_iald (pc := 61) fx hh 12 rfl hv.1 (dOk_at dX7_cellsBarred 37 rfl) ?_
          have hv := hv.2
          refine cl_S (pc := 62) (w' := [(m0, .inr (7, [.int f0, .int f1, .int f2, .int f3, .ref a4, .int f5, .ref a6, .ref a7, .int f8, .int f9, .int f10, .int f11, .int f12, .int f13, .int f14, .ref a15, .ref a16, .ref a17, .int f18, .int f19, .int f20, .ref a21, .ref a22, .int f23, .ref a24, .ref a25, .ref a26, .ref a27, .ref a28, .ref a29, .ref a30, .int f31])), (a4, .inl (G.2.1, 20, .inl g4)), (a6, .inl (G.2.1, 4, .inl g6)), (a7, .inl (G.2.1, 4, .inl g7)), (a15, .inl (G.2.1, 20, .inl g15)), (a16, .inl (G.2.1, 4, .inl g16)), (a17, .inl (G.2.1, 4, .inl g17)), (a21, .inl (G.2.1, 20, .inl g21)), (a22, .inl (G.2.1, 40, .inl g22)), (a24, .inl (G.2.1, 8, .inl g24)), (a25, .inl (G.2.1, 8, .inl g25)), (a26, .inl (G.2.2.1, 8, .inl g26)), (a27, .inl (G.2.1, 4, .inl g27)), (a28, .inl (G.2.1, 4, .inl g28)), (a29, .inl (G.2.1, 240, .inl g29)), (a30, .inl (G.2.1, 60, .inl g30))]) (wr := [(m0, .inr (7, [.int f0, .int f1, .int f2, .int f3, .ref a4, .int f5, .ref a6, .ref a7, .int f8, .int f9, .int f10, .int f11, .int f12, .int f13, .int f14, .ref a15, .ref a16, .ref a17, .int f18, .int f19, .int f20, .ref a21, .ref a22, .int f23, .ref a24, .ref a25, .ref a26, .ref a27, .ref a28, .ref a29, .ref a30, .int f31])), (a4, .inl (G.2.1, 20, .inl g4)), (a6, .inl (G.2.1, 4, .inl g6)), (a7, .inl (G.2.1, 4, .inl g7)), (a15, .inl (G.2.1, 20, .inl g15)), (a16, .inl (G.2.1, 4, .inl g16)), (a17, .inl (G.2.1, 4, .inl g17)), (a21, .inl (G.2.1, 20, .inl g21)), (a22, .inl (G.2.1, 40, .inl g22)), (a24, .inl (G.2.1, 8, .inl g24)), (a25, .inl (G.2.1, 8, .inl g25)), (a26, .inl (G.2.2.1, 8, .inl g26)), (a27, .inl (G.2.1, 4, .inl g27)), (a28, .inl (G.2.1, 4, .inl g28)), (a29, .inl (G.2.1, 240, .inl g29)), (a30, .inl (G.2.1, 60, .inl g30))]) (rest := []) fx hh hl.1 (h_X7_isBeyond i n (g27 k.toNatClampNeg)) yS_X7_isBeyond tMX7_122 ⟨rfl, rfl, Nat.le_of_ble_eq_true rfl, Nat.le_of_ble_eq_true rfl⟩ [] [0, 1, 2, 3, 4, 5, 6, 7, 8, 9, 10, 11, 12, 13, 14, 15] [0, 1, 2, 3, 4, 5, 6, 7, 8, 9, 10, 11, 12, 13, 14, 15] rfl rfl rfl (by decide) (by decide) rfl rfl (Nat.le_of_ble_eq_true rfl) ⟨Nat.le_of_ble_eq_true rfl, Nat.le_of_ble_eq_true rfl⟩ (dOk_at dX7_cellsBarred 38 rfl) (fun H locs hh => ?_)
          refine lv_if_eq (pc := 65) (tgt := 76) hx hb (dOk_at dX7_cellsBarred 39 rfl) (by decide) (fun c65 => ?_) (fun c65 => ?_)
          · have hv := hv.1 c65
            refine lv_iconst (pc := 76) (v := 0) hx hb (dOk_at dX7_cellsBarred 44 rfl) (by decide) ?_
            obtain ⟨e0, e1⟩ := hv
            subst e0
            subst e1
            rw [hQ]
            exact r_iret (pc := 77) fx hh (dOk_at dX7_cellsBarred 45 rfl)
          · have hv := hv.2 c65
            refine lv_aload_n (pc := 68) hx hb (dOk_at dX7_cellsBarred 40 rfl) rfl (lv_at hl 0 rfl) ?_
            refine lv_iconst (pc := 69) (v := 3) hx hb (dOk_at dX7_cellsBarred 41 rfl) (by decide) ?_
            refine cl_V (pc := 70) (w' := [(m0, .inr (7, [.int 3, .int f1, .int f2, .int f3, .ref a4, .int f5, .ref a6, .ref a7, .int f8, .int f9, .int f10, .int f11, .int f12, .int f13, .int f14, .ref a15, .ref a16, .ref a17, .int f18, .int f19, .int f20, .ref a21, .ref a22, .int f23, .ref a24, .ref a25, .ref a26, .ref a27, .ref a28, .ref a29, .ref a30, .int f31])), (a4, .inl (G.2.1, 20, .inl g4)), (a6, .inl (G.2.1, 4, .inl g6)), (a7, .inl (G.2.1, 4, .inl g7)), (a15, .inl (G.2.1, 20, .inl g15)), (a16, .inl (G.2.1, 4, .inl g16)), (a17, .inl (G.2.1, 4, .inl g17)), (a21, .inl (G.2.1, 20, .inl g21)), (a22, .inl (G.2.1, 40, .inl g22)), (a24, .inl (G.2.1, 8, .inl g24)), (a25, .inl (G.2.1, 8, .inl g25)), (a26, .inl (G.2.2.1, 8, .inl g26)), (a27, .inl (G.2.1, 4, .inl g27)), (a28, .inl (G.2.1, 4, .inl g28)), (a29, .inl (G.2.1, 240, .inl g29)), (a30, .inl (G.2.1, 60, .inl g30))]) (wr := []) (rest := []) fx hh hl.1 (h_X7_failed m0 a4 a6 a7 a15 a16 a17 a21 a22 a24 a25 a26 a27 a28 a29 a30 f0 f1 f2 f3 f5 f8 f9 f10 f11 f12 f13 f14 f18 f19 f20 f23 f31 g4 g6 g7 g15 g16 g17 g21 g22 g24 g25 g26 g27 g28 g29 g30 3) yV_X7_failed tMX7_118 ⟨rfl, rfl, Nat.le_of_ble_eq_true rfl, Nat.le_of_ble_eq_true rfl⟩ 0 7 rfl rfl rfl [0, 1, 2, 3, 4, 5, 6, 7, 8, 9, 10, 11, 12, 13, 14, 15] [] [0, 1, 2, 3, 4, 5, 6, 7, 8, 9, 10, 11, 12, 13, 14, 15] rfl rfl rfl (by decide) (by decide) rfl rfl (Nat.le_of_ble_eq_true rfl) ⟨Nat.le_of_ble_eq_true rfl, Nat.le_of_ble_eq_true rfl⟩ (dOk_at dX7_cellsBarred 42 rfl) (fun H locs hh => ?_)
            refine lv_goto (pc := 73) (tgt := 77) hx hb (dOk_at dX7_cellsBarred 43 rfl) (by decide) ?_
            obtain ⟨e0, e1⟩ := hv
            subst e0
            subst e1
            rw [hQ]
            exact r_iret (pc := 77) fx hh (dOk_at dX7_cellsBarred 45 rfl)
        · have hv := hv.2 c44
          refine lv_aload_n (pc := 47) hx hb (dOk_at dX7_cellsBarred 28 rfl) rfl (lv_at hl 0 rfl) ?_
          refine lv_iconst (pc := 48) (v := 4) hx hb (dOk_at dX7_cellsBarred 29 rfl) (by decide) ?_
          refine cl_V (pc := 49) (w' := [(m0, .inr (7, [.int 4, .int f1, .int f2, .int f3, .ref a4, .int f5, .ref a6, .ref a7, .int f8, .int f9, .int f10, .int f11, .int f12, .int f13, .int f14, .ref a15, .ref a16, .ref a17, .int f18, .int f19, .int f20, .ref a21, .ref a22, .int f23, .ref a24, .ref a25, .ref a26, .ref a27, .ref a28, .ref a29, .ref a30, .int f31])), (a4, .inl (G.2.1, 20, .inl g4)), (a6, .inl (G.2.1, 4, .inl g6)), (a7, .inl (G.2.1, 4, .inl g7)), (a15, .inl (G.2.1, 20, .inl g15)), (a16, .inl (G.2.1, 4, .inl g16)), (a17, .inl (G.2.1, 4, .inl g17)), (a21, .inl (G.2.1, 20, .inl g21)), (a22, .inl (G.2.1, 40, .inl g22)), (a24, .inl (G.2.1, 8, .inl g24)), (a25, .inl (G.2.1, 8, .inl g25)), (a26, .inl (G.2.2.1, 8, .inl g26)), (a27, .inl (G.2.1, 4, .inl g27)), (a28, .inl (G.2.1, 4, .inl g28)), (a29, .inl (G.2.1, 240, .inl g29)), (a30, .inl (G.2.1, 60, .inl g30))]) (wr := []) (rest := []) fx hh hl.1 (h_X7_failed m0 a4 a6 a7 a15 a16 a17 a21 a22 a24 a25 a26 a27 a28 a29 a30 f0 f1 f2 f3 f5 f8 f9 f10 f11 f12 f13 f14 f18 f19 f20 f23 f31 g4 g6 g7 g15 g16 g17 g21 g22 g24 g25 g26 g27 g28 g29 g30 4) yV_X7_failed tMX7_118 ⟨rfl, rfl, Nat.le_of_ble_eq_true rfl, Nat.le_of_ble_eq_true rfl⟩ 0 7 rfl rfl rfl [0, 1, 2, 3, 4, 5, 6, 7, 8, 9, 10, 11, 12, 13, 14, 15] [] [0, 1, 2, 3, 4, 5, 6, 7, 8, 9, 10, 11, 12, 13, 14, 15] rfl rfl rfl (by decide) (by decide) rfl rfl (Nat.le_of_ble_eq_true rfl) ⟨Nat.le_of_ble_eq_true rfl, Nat.le_of_ble_eq_true rfl⟩ (dOk_at dX7_cellsBarred 30 rfl) (fun H locs hh => ?_)
          obtain ⟨e0, e1⟩ := hv
          subst e0
          subst e1
          rw [hQ]
          exact r_iret (pc := 52) fx hh (dOk_at dX7_cellsBarred 31 rfl)
      · have hv := hv.2 c31
        refine lv_aload_n (pc := 34) hx hb (dOk_at dX7_cellsBarred 20 rfl) rfl (lv_at hl 0 rfl) ?_
        refine lv_iconst (pc := 35) (v := 1) hx hb (dOk_at dX7_cellsBarred 21 rfl) (by decide) ?_
        refine cl_V (pc := 36) (w' := [(m0, .inr (7, [.int 1, .int f1, .int f2, .int f3, .ref a4, .int f5, .ref a6, .ref a7, .int f8, .int f9, .int f10, .int f11, .int f12, .int f13, .int f14, .ref a15, .ref a16, .ref a17, .int f18, .int f19, .int f20, .ref a21, .ref a22, .int f23, .ref a24, .ref a25, .ref a26, .ref a27, .ref a28, .ref a29, .ref a30, .int f31])), (a4, .inl (G.2.1, 20, .inl g4)), (a6, .inl (G.2.1, 4, .inl g6)), (a7, .inl (G.2.1, 4, .inl g7)), (a15, .inl (G.2.1, 20, .inl g15)), (a16, .inl (G.2.1, 4, .inl g16)), (a17, .inl (G.2.1, 4, .inl g17)), (a21, .inl (G.2.1, 20, .inl g21)), (a22, .inl (G.2.1, 40, .inl g22)), (a24, .inl (G.2.1, 8, .inl g24)), (a25, .inl (G.2.1, 8, .inl g25)), (a26, .inl (G.2.2.1, 8, .inl g26)), (a27, .inl (G.2.1, 4, .inl g27)), (a28, .inl (G.2.1, 4, .inl g28)), (a29, .inl (G.2.1, 240, .inl g29)), (a30, .inl (G.2.1, 60, .inl g30))]) (wr := []) (rest := []) fx hh hl.1 (h_X7_failed m0 a4 a6 a7 a15 a16 a17 a21 a22 a24 a25 a26 a27 a28 a29 a30 f0 f1 f2 f3 f5 f8 f9 f10 f11 f12 f13 f14 f18 f19 f20 f23 f31 g4 g6 g7 g15 g16 g17 g21 g22 g24 g25 g26 g27 g28 g29 g30 1) yV_X7_failed tMX7_118 ⟨rfl, rfl, Nat.le_of_ble_eq_true rfl, Nat.le_of_ble_eq_true rfl⟩ 0 7 rfl rfl rfl [0, 1, 2, 3, 4, 5, 6, 7, 8, 9, 10, 11, 12, 13, 14, 15] [] [0, 1, 2, 3, 4, 5, 6, 7, 8, 9, 10, 11, 12, 13, 14, 15] rfl rfl rfl (by decide) (by decide) rfl rfl (Nat.le_of_ble_eq_true rfl) ⟨Nat.le_of_ble_eq_true rfl, Nat.le_of_ble_eq_true rfl⟩ (dOk_at dX7_cellsBarred 22 rfl) (fun H locs hh => ?_)
        obtain ⟨e0, e1⟩ := hv
        subst e0
        subst e1
        rw [hQ]
        exact r_iret (pc := 39) fx hh (dOk_at dX7_cellsBarred 23 rfl)
    · have hv := hv.2 c16
      refine lv_aload_n (pc := 19) hx hb (dOk_at dX7_cellsBarred 11 rfl) rfl (lv_at hl 0 rfl) ?_
      refine lv_iconst (pc := 20) (v := 2) hx hb (dOk_at dX7_cellsBarred 12 rfl) (by decide) ?_
      refine cl_V (pc := 21) (w' := [(m0, .inr (7, [.int 2, .int f1, .int f2, .int f3, .ref a4, .int f5, .ref a6, .ref a7, .int f8, .int f9, .int f10, .int f11, .int f12, .int f13, .int f14, .ref a15, .ref a16, .ref a17, .int f18, .int f19, .int f20, .ref a21, .ref a22, .int f23, .ref a24, .ref a25, .ref a26, .ref a27, .ref a28, .ref a29, .ref a30, .int f31])), (a4, .inl (G.2.1, 20, .inl g4)), (a6, .inl (G.2.1, 4, .inl g6)), (a7, .inl (G.2.1, 4, .inl g7)), (a15, .inl (G.2.1, 20, .inl g15)), (a16, .inl (G.2.1, 4, .inl g16)), (a17, .inl (G.2.1, 4, .inl g17)), (a21, .inl (G.2.1, 20, .inl g21)), (a22, .inl (G.2.1, 40, .inl g22)), (a24, .inl (G.2.1, 8, .inl g24)), (a25, .inl (G.2.1, 8, .inl g25)), (a26, .inl (G.2.2.1, 8, .inl g26)), (a27, .inl (G.2.1, 4, .inl g27)), (a28, .inl (G.2.1, 4, .inl g28)), (a29, .inl (G.2.1, 240, .inl g29)), (a30, .inl (G.2.1, 60, .inl g30))]) (wr := []) (rest := []) fx hh hl.1 (h_X7_failed m0 a4 a6 a7 a15 a16 a17 a21 a22 a24 a25 a26 a27 a28 a29 a30 f0 f1 f2 f3 f5 f8 f9 f10 f11 f12 f13 f14 f18 f19 f20 f23 f31 g4 g6 g7 g15 g16 g17 g21 g22 g24 g25 g26 g27 g28 g29 g30 2) yV_X7_failed tMX7_118 ⟨rfl, rfl, Nat.le_of_ble_eq_true rfl, Nat.le_of_ble_eq_true rfl⟩ 0 7 rfl rfl rfl [0, 1, 2, 3, 4, 5, 6, 7, 8, 9, 10, 11, 12, 13, 14, 15] [] [0, 1, 2, 3, 4, 5, 6, 7, 8, 9, 10, 11, 12, 13, 14, 15] rfl rfl rfl (by decide) (by decide) rfl rfl (Nat.le_of_ble_eq_true rfl) ⟨Nat.le_of_ble_eq_true rfl, Nat.le_of_ble_eq_true rfl⟩ (dOk_at dX7_cellsBarred 13 rfl) (fun H locs hh => ?_)
      obtain ⟨e0, e1⟩ := hv
      subst e0
      subst e1
      rw [hQ]
      exact r_iret (pc := 24) fx hh (dOk_at dX7_cellsBarred 14 rfl)
