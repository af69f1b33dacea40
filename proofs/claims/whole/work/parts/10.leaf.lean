set_option maxRecDepth 100000 in
set_option maxHeartbeats 4000000 in
theorem wk_X6_isWithin (l : Launch) (G : GT) (v : Int32) (a : Int32) (b : Int32) (R : Int32)
    (hv : (v < a → (0 : Int32) = R) ∧ (¬ v < a → (b < v → (0 : Int32) = R) ∧ (¬ b < v → (1 : Int32) = R))) :
    MF l G yX6_isWithin cX6_isWithin 3 (some .boolean) rm_X6_isWithin [.int v, .int a, .int b] [] (some (.int R)) [] := by
  refine MF.of (by decide +kernel) (Nat.le_of_ble_eq_true rfl) ?_
  intro p e s m args below meth c A ls fx hh hl _
  have hx := fx.hx
  have hb := fx.hb
  have hl : lv_has ls 3 [(0, .int v), (1, .int a), (2, .int b)] := hl
  obtain ⟨Q, hQ⟩ : ∃ Q, Q = ZZ G A (some (.int R)) [] below args s := ⟨_, rfl⟩
  rw [← hQ]
  refine lv_iload_n (pc := 0) hx hb (dOk_at dX6_isWithin 0 rfl) rfl (lv_at hl 0 rfl) ?_
  refine lv_iload_n (pc := 1) hx hb (dOk_at dX6_isWithin 1 rfl) rfl (lv_at hl 1 rfl) ?_
  refine lv_icmp_lt (pc := 2) (tgt := 14) hx hb (dOk_at dX6_isWithin 2 rfl) (by decide) (fun c2 => ?_) (fun c2 => ?_)
  · have hv := hv.1 c2
    refine lv_iconst (pc := 14) (v := 0) hx hb (dOk_at dX6_isWithin 8 rfl) (by decide) ?_
    have e0 := hv
    subst e0
    rw [hQ]
    exact r_zret (pc := 15) fx hh rfl (dOk_at dX6_isWithin 9 rfl)
  · have hv := hv.2 c2
    refine lv_iload_n (pc := 5) hx hb (dOk_at dX6_isWithin 3 rfl) rfl (lv_at hl 0 rfl) ?_
    refine lv_iload_n (pc := 6) hx hb (dOk_at dX6_isWithin 4 rfl) rfl (lv_at hl 2 rfl) ?_
    refine lv_icmp_gt (pc := 7) (tgt := 14) hx hb (dOk_at dX6_isWithin 5 rfl) (by decide) (fun c7 => ?_) (fun c7 => ?_)
    · have hv := hv.1 c7
      refine lv_iconst (pc := 14) (v := 0) hx hb (dOk_at dX6_isWithin 8 rfl) (by decide) ?_
      have e0 := hv
      subst e0
      rw [hQ]
      exact r_zret (pc := 15) fx hh rfl (dOk_at dX6_isWithin 9 rfl)
    · have hv := hv.2 c7
      refine lv_iconst (pc := 10) (v := 1) hx hb (dOk_at dX6_isWithin 6 rfl) (by decide) ?_
      refine lv_goto (pc := 11) (tgt := 15) hx hb (dOk_at dX6_isWithin 7 rfl) (by decide) ?_
      have e0 := hv
      subst e0
      rw [hQ]
      exact r_zret (pc := 15) fx hh rfl (dOk_at dX6_isWithin 9 rfl)
set_option maxRecDepth 100000 in
set_option maxHeartbeats 4000000 in
theorem wk_X6_isIn (l : Launch) (G : GT) (set : Int32) (k : Int32) (R : Int32)
    (hv : (¬ ((set >>> (k &&& 31)) &&& 1) = 1 → (0 : Int32) = R) ∧ (((set >>> (k &&& 31)) &&& 1) = 1 → (1 : Int32) = R)) :
    MF l G yX6_isIn cX6_isIn 2 (some .boolean) rm_X6_isIn [.int set, .int k] [] (some (.int R)) [] := by
  refine MF.of (by decide +kernel) (Nat.le_of_ble_eq_true rfl) ?_
  intro p e s m args below meth c A ls fx hh hl _
  have hx := fx.hx
  have hb := fx.hb
  have hl : lv_has ls 2 [(0, .int set), (1, .int k)] := hl
  obtain ⟨Q, hQ⟩ : ∃ Q, Q = ZZ G A (some (.int R)) [] below args s := ⟨_, rfl⟩
  rw [← hQ]
  refine lv_iload_n (pc := 0) hx hb (dOk_at dX6_isIn 0 rfl) rfl (lv_at hl 0 rfl) ?_
  refine lv_iload_n (pc := 1) hx hb (dOk_at dX6_isIn 1 rfl) rfl (lv_at hl 1 rfl) ?_
  refine lv_ishr (pc := 2) hx hb (dOk_at dX6_isIn 2 rfl) ?_
  refine lv_iconst (pc := 3) (v := 1) hx hb (dOk_at dX6_isIn 3 rfl) (by decide) ?_
  refine lv_iand (pc := 4) hx hb (dOk_at dX6_isIn 4 rfl) ?_
  refine lv_iconst (pc := 5) (v := 1) hx hb (dOk_at dX6_isIn 5 rfl) (by decide) ?_
  refine lv_icmp_ne (pc := 6) (tgt := 13) hx hb (dOk_at dX6_isIn 6 rfl) (by decide) (fun c6 => ?_) (fun c6 => ?_)
  · have hv := hv.1 c6
    refine lv_iconst (pc := 13) (v := 0) hx hb (dOk_at dX6_isIn 9 rfl) (by decide) ?_
    have e0 := hv
    subst e0
    rw [hQ]
    exact r_zret (pc := 14) fx hh rfl (dOk_at dX6_isIn 10 rfl)
  · have hv := hv.2 c6
    refine lv_iconst (pc := 9) (v := 1) hx hb (dOk_at dX6_isIn 7 rfl) (by decide) ?_
    refine lv_goto (pc := 10) (tgt := 14) hx hb (dOk_at dX6_isIn 8 rfl) (by decide) ?_
    have e0 := hv
    subst e0
    rw [hQ]
    exact r_zret (pc := 14) fx hh rfl (dOk_at dX6_isIn 10 rfl)
set_option maxRecDepth 100000 in
set_option maxHeartbeats 4000000 in
theorem wk_J6_bitCount_0f7a4 (l : Launch) (G : GT) (x : Int32) (R : Int32)
    (hv : ((((((((x - (((x.toUInt32 >>> ((1 : Int32).toUInt32 &&& Int32.toUInt32 31)).toInt32) &&& 1431655765)) &&& 858993459) + ((((x - (((x.toUInt32 >>> ((1 : Int32).toUInt32 &&& Int32.toUInt32 31)).toInt32) &&& 1431655765)).toUInt32 >>> ((2 : Int32).toUInt32 &&& Int32.toUInt32 31)).toInt32) &&& 858993459)) + (((((x - (((x.toUInt32 >>> ((1 : Int32).toUInt32 &&& Int32.toUInt32 31)).toInt32) &&& 1431655765)) &&& 858993459) + ((((x - (((x.toUInt32 >>> ((1 : Int32).toUInt32 &&& Int32.toUInt32 31)).toInt32) &&& 1431655765)).toUInt32 >>> ((2 : Int32).toUInt32 &&& Int32.toUInt32 31)).toInt32) &&& 858993459)).toUInt32 >>> ((4 : Int32).toUInt32 &&& Int32.toUInt32 31)).toInt32)) &&& 252645135) + (((((((x - (((x.toUInt32 >>> ((1 : Int32).toUInt32 &&& Int32.toUInt32 31)).toInt32) &&& 1431655765)) &&& 858993459) + ((((x - (((x.toUInt32 >>> ((1 : Int32).toUInt32 &&& Int32.toUInt32 31)).toInt32) &&& 1431655765)).toUInt32 >>> ((2 : Int32).toUInt32 &&& Int32.toUInt32 31)).toInt32) &&& 858993459)) + (((((x - (((x.toUInt32 >>> ((1 : Int32).toUInt32 &&& Int32.toUInt32 31)).toInt32) &&& 1431655765)) &&& 858993459) + ((((x - (((x.toUInt32 >>> ((1 : Int32).toUInt32 &&& Int32.toUInt32 31)).toInt32) &&& 1431655765)).toUInt32 >>> ((2 : Int32).toUInt32 &&& Int32.toUInt32 31)).toInt32) &&& 858993459)).toUInt32 >>> ((4 : Int32).toUInt32 &&& Int32.toUInt32 31)).toInt32)) &&& 252645135).toUInt32 >>> ((8 : Int32).toUInt32 &&& Int32.toUInt32 31)).toInt32)) + ((((((((x - (((x.toUInt32 >>> ((1 : Int32).toUInt32 &&& Int32.toUInt32 31)).toInt32) &&& 1431655765)) &&& 858993459) + ((((x - (((x.toUInt32 >>> ((1 : Int32).toUInt32 &&& Int32.toUInt32 31)).toInt32) &&& 1431655765)).toUInt32 >>> ((2 : Int32).toUInt32 &&& Int32.toUInt32 31)).toInt32) &&& 858993459)) + (((((x - (((x.toUInt32 >>> ((1 : Int32).toUInt32 &&& Int32.toUInt32 31)).toInt32) &&& 1431655765)) &&& 858993459) + ((((x - (((x.toUInt32 >>> ((1 : Int32).toUInt32 &&& Int32.toUInt32 31)).toInt32) &&& 1431655765)).toUInt32 >>> ((2 : Int32).toUInt32 &&& Int32.toUInt32 31)).toInt32) &&& 858993459)).toUInt32 >>> ((4 : Int32).toUInt32 &&& Int32.toUInt32 31)).toInt32)) &&& 252645135) + (((((((x - (((x.toUInt32 >>> ((1 : Int32).toUInt32 &&& Int32.toUInt32 31)).toInt32) &&& 1431655765)) &&& 858993459) + ((((x - (((x.toUInt32 >>> ((1 : Int32).toUInt32 &&& Int32.toUInt32 31)).toInt32) &&& 1431655765)).toUInt32 >>> ((2 : Int32).toUInt32 &&& Int32.toUInt32 31)).toInt32) &&& 858993459)) + (((((x - (((x.toUInt32 >>> ((1 : Int32).toUInt32 &&& Int32.toUInt32 31)).toInt32) &&& 1431655765)) &&& 858993459) + ((((x - (((x.toUInt32 >>> ((1 : Int32).toUInt32 &&& Int32.toUInt32 31)).toInt32) &&& 1431655765)).toUInt32 >>> ((2 : Int32).toUInt32 &&& Int32.toUInt32 31)).toInt32) &&& 858993459)).toUInt32 >>> ((4 : Int32).toUInt32 &&& Int32.toUInt32 31)).toInt32)) &&& 252645135).toUInt32 >>> ((8 : Int32).toUInt32 &&& Int32.toUInt32 31)).toInt32)).toUInt32 >>> ((16 : Int32).toUInt32 &&& Int32.toUInt32 31)).toInt32)) &&& 63) = R) :
    MF l G yJ6_bitCount_0f7a4 cJ6_bitCount_0f7a4 1 (some .int) rm_J6_bitCount_0f7a4 [.int x] [] (some (.int R)) [] := by
  refine MF.of (by decide +kernel) (Nat.le_of_ble_eq_true rfl) ?_
  intro p e s m args below meth c A ls fx hh hl _
  have hx := fx.hx
  have hb := fx.hb
  have hl : lv_has ls 1 [(0, .int x)] := hl
  obtain ⟨Q, hQ⟩ : ∃ Q, Q = ZZ G A (some (.int R)) [] below args s := ⟨_, rfl⟩
  rw [← hQ]
  refine lv_iload_n (pc := 0) hx hb (dOk_at dJ6_bitCount_0f7a4 0 rfl) rfl (lv_at hl 0 rfl) ?_
  refine lv_iload_n (pc := 1) hx hb (dOk_at dJ6_bitCount_0f7a4 1 rfl) rfl (lv_at hl 0 rfl) ?_
  refine lv_iconst (pc := 2) (v := 1) hx hb (dOk_at dJ6_bitCount_0f7a4 2 rfl) (by decide) ?_
  refine lv_iushr (pc := 3) (v := (x.toUInt32 >>> ((1 : Int32).toUInt32 &&& Int32.toUInt32 31)).toInt32) hx hb (dOk_at dJ6_bitCount_0f7a4 3 rfl) rfl ?_
  refine lv_ldcw (pc := 4) (v := 1431655765) hx hb fx.hown (fx.hts _ tKJ6_265) (dOk_at dJ6_bitCount_0f7a4 4 rfl) ?_
  refine lv_iand (pc := 7) hx hb (dOk_at dJ6_bitCount_0f7a4 5 rfl) ?_
  refine lv_isub (pc := 8) hx hb (dOk_at dJ6_bitCount_0f7a4 6 rfl) ?_
  refine lv_istore_n (pc := 9) (lv' := [(0, .int (x - (((x.toUInt32 >>> ((1 : Int32).toUInt32 &&& Int32.toUInt32 31)).toInt32) &&& 1431655765)))]) hx hb (dOk_at dJ6_bitCount_0f7a4 7 rfl) rfl hl (by decide) rfl (fun ls hl => ?_)
  refine lv_iload_n (pc := 10) hx hb (dOk_at dJ6_bitCount_0f7a4 8 rfl) rfl (lv_at hl 0 rfl) ?_
  refine lv_ldcw (pc := 11) (v := 858993459) hx hb fx.hown (fx.hts _ tKJ6_266) (dOk_at dJ6_bitCount_0f7a4 9 rfl) ?_
  refine lv_iand (pc := 14) hx hb (dOk_at dJ6_bitCount_0f7a4 10 rfl) ?_
  refine lv_iload_n (pc := 15) hx hb (dOk_at dJ6_bitCount_0f7a4 11 rfl) rfl (lv_at hl 0 rfl) ?_
  refine lv_iconst (pc := 16) (v := 2) hx hb (dOk_at dJ6_bitCount_0f7a4 12 rfl) (by decide) ?_
  refine lv_iushr (pc := 17) (v := ((x - (((x.toUInt32 >>> ((1 : Int32).toUInt32 &&& Int32.toUInt32 31)).toInt32) &&& 1431655765)).toUInt32 >>> ((2 : Int32).toUInt32 &&& Int32.toUInt32 31)).toInt32) hx hb (dOk_at dJ6_bitCount_0f7a4 13 rfl) rfl ?_
  refine lv_ldcw (pc := 18) (v := 858993459) hx hb fx.hown (fx.hts _ tKJ6_266) (dOk_at dJ6_bitCount_0f7a4 14 rfl) ?_
  refine lv_iand (pc := 21) hx hb (dOk_at dJ6_bitCount_0f7a4 15 rfl) ?_
  refine lv_iadd (pc := 22) hx hb (dOk_at dJ6_bitCount_0f7a4 16 rfl) ?_
  refine lv_istore_n (pc := 23) (lv' := [(0, .int (((x - (((x.toUInt32 >>> ((1 : Int32).toUInt32 &&& Int32.toUInt32 31)).toInt32) &&& 1431655765)) &&& 858993459) + ((((x - (((x.toUInt32 >>> ((1 : Int32).toUInt32 &&& Int32.toUInt32 31)).toInt32) &&& 1431655765)).toUInt32 >>> ((2 : Int32).toUInt32 &&& Int32.toUInt32 31)).toInt32) &&& 858993459)))]) hx hb (dOk_at dJ6_bitCount_0f7a4 17 rfl) rfl hl (by decide) rfl (fun ls hl => ?_)
  refine lv_iload_n (pc := 24) hx hb (dOk_at dJ6_bitCount_0f7a4 18 rfl) rfl (lv_at hl 0 rfl) ?_
  refine lv_iload_n (pc := 25) hx hb (dOk_at dJ6_bitCount_0f7a4 19 rfl) rfl (lv_at hl 0 rfl) ?_
  refine lv_iconst (pc := 26) (v := 4) hx hb (dOk_at dJ6_bitCount_0f7a4 20 rfl) (by decide) ?_
  refine lv_iushr (pc := 27) (v := ((((x - (((x.toUInt32 >>> ((1 : Int32).toUInt32 &&& Int32.toUInt32 31)).toInt32) &&& 1431655765)) &&& 858993459) + ((((x - (((x.toUInt32 >>> ((1 : Int32).toUInt32 &&& Int32.toUInt32 31)).toInt32) &&& 1431655765)).toUInt32 >>> ((2 : Int32).toUInt32 &&& Int32.toUInt32 31)).toInt32) &&& 858993459)).toUInt32 >>> ((4 : Int32).toUInt32 &&& Int32.toUInt32 31)).toInt32) hx hb (dOk_at dJ6_bitCount_0f7a4 21 rfl) rfl ?_
  refine lv_iadd (pc := 28) hx hb (dOk_at dJ6_bitCount_0f7a4 22 rfl) ?_
  refine lv_ldcw (pc := 29) (v := 252645135) hx hb fx.hown (fx.hts _ tKJ6_267) (dOk_at dJ6_bitCount_0f7a4 23 rfl) ?_
  refine lv_iand (pc := 32) hx hb (dOk_at dJ6_bitCount_0f7a4 24 rfl) ?_
  refine lv_istore_n (pc := 33) (lv' := [(0, .int (((((x - (((x.toUInt32 >>> ((1 : Int32).toUInt32 &&& Int32.toUInt32 31)).toInt32) &&& 1431655765)) &&& 858993459) + ((((x - (((x.toUInt32 >>> ((1 : Int32).toUInt32 &&& Int32.toUInt32 31)).toInt32) &&& 1431655765)).toUInt32 >>> ((2 : Int32).toUInt32 &&& Int32.toUInt32 31)).toInt32) &&& 858993459)) + (((((x - (((x.toUInt32 >>> ((1 : Int32).toUInt32 &&& Int32.toUInt32 31)).toInt32) &&& 1431655765)) &&& 858993459) + ((((x - (((x.toUInt32 >>> ((1 : Int32).toUInt32 &&& Int32.toUInt32 31)).toInt32) &&& 1431655765)).toUInt32 >>> ((2 : Int32).toUInt32 &&& Int32.toUInt32 31)).toInt32) &&& 858993459)).toUInt32 >>> ((4 : Int32).toUInt32 &&& Int32.toUInt32 31)).toInt32)) &&& 252645135))]) hx hb (dOk_at dJ6_bitCount_0f7a4 25 rfl) rfl hl (by decide) rfl (fun ls hl => ?_)
  refine lv_iload_n (pc := 34) hx hb (dOk_at dJ6_bitCount_0f7a4 26 rfl) rfl (lv_at hl 0 rfl) ?_
  refine lv_iload_n (pc := 35) hx hb (dOk_at dJ6_bitCount_0f7a4 27 rfl) rfl (lv_at hl 0 rfl) ?_
  refine lv_bipush (pc := 36) (v := 8) hx hb (dOk_at dJ6_bitCount_0f7a4 28 rfl) (by decide) ?_
  refine lv_iushr (pc := 38) (v := ((((((x - (((x.toUInt32 >>> ((1 : Int32).toUInt32 &&& Int32.toUInt32 31)).toInt32) &&& 1431655765)) &&& 858993459) + ((((x - (((x.toUInt32 >>> ((1 : Int32).toUInt32 &&& Int32.toUInt32 31)).toInt32) &&& 1431655765)).toUInt32 >>> ((2 : Int32).toUInt32 &&& Int32.toUInt32 31)).toInt32) &&& 858993459)) + (((((x - (((x.toUInt32 >>> ((1 : Int32).toUInt32 &&& Int32.toUInt32 31)).toInt32) &&& 1431655765)) &&& 858993459) + ((((x - (((x.toUInt32 >>> ((1 : Int32).toUInt32 &&& Int32.toUInt32 31)).toInt32) &&& 1431655765)).toUInt32 >>> ((2 : Int32).toUInt32 &&& Int32.toUInt32 31)).toInt32) &&& 858993459)).toUInt32 >>> ((4 : Int32).toUInt32 &&& Int32.toUInt32 31)).toInt32)) &&& 252645135).toUInt32 >>> ((8 : Int32).toUInt32 &&& Int32.toUInt32 31)).toInt32) hx hb (dOk_at dJ6_bitCount_0f7a4 29 rfl) rfl ?_
  refine lv_iadd (pc := 39) hx hb (dOk_at dJ6_bitCount_0f7a4 30 rfl) ?_
  refine lv_istore_n (pc := 40) (lv' := [(0, .int ((((((x - (((x.toUInt32 >>> ((1 : Int32).toUInt32 &&& Int32.toUInt32 31)).toInt32) &&& 1431655765)) &&& 858993459) + ((((x - (((x.toUInt32 >>> ((1 : Int32).toUInt32 &&& Int32.toUInt32 31)).toInt32) &&& 1431655765)).toUInt32 >>> ((2 : Int32).toUInt32 &&& Int32.toUInt32 31)).toInt32) &&& 858993459)) + (((((x - (((x.toUInt32 >>> ((1 : Int32).toUInt32 &&& Int32.toUInt32 31)).toInt32) &&& 1431655765)) &&& 858993459) + ((((x - (((x.toUInt32 >>> ((1 : Int32).toUInt32 &&& Int32.toUInt32 31)).toInt32) &&& 1431655765)).toUInt32 >>> ((2 : Int32).toUInt32 &&& Int32.toUInt32 31)).toInt32) &&& 858993459)).toUInt32 >>> ((4 : Int32).toUInt32 &&& Int32.toUInt32 31)).toInt32)) &&& 252645135) + (((((((x - (((x.toUInt32 >>> ((1 : Int32).toUInt32 &&& Int32.toUInt32 31)).toInt32) &&& 1431655765)) &&& 858993459) + ((((x - (((x.toUInt32 >>> ((1 : Int32).toUInt32 &&& Int32.toUInt32 31)).toInt32) &&& 1431655765)).toUInt32 >>> ((2 : Int32).toUInt32 &&& Int32.toUInt32 31)).toInt32) &&& 858993459)) + (((((x - (((x.toUInt32 >>> ((1 : Int32).toUInt32 &&& Int32.toUInt32 31)).toInt32) &&& 1431655765)) &&& 858993459) + ((((x - (((x.toUInt32 >>> ((1 : Int32).toUInt32 &&& Int32.toUInt32 31)).toInt32) &&& 1431655765)).toUInt32 >>> ((2 : Int32).toUInt32 &&& Int32.toUInt32 31)).toInt32) &&& 858993459)).toUInt32 >>> ((4 : Int32).toUInt32 &&& Int32.toUInt32 31)).toInt32)) &&& 252645135).toUInt32 >>> ((8 : Int32).toUInt32 &&& Int32.toUInt32 31)).toInt32)))]) hx hb (dOk_at dJ6_bitCount_0f7a4 31 rfl) rfl hl (by decide) rfl (fun ls hl => ?_)
  refine lv_iload_n (pc := 41) hx hb (dOk_at dJ6_bitCount_0f7a4 32 rfl) rfl (lv_at hl 0 rfl) ?_
  refine lv_iload_n (pc := 42) hx hb (dOk_at dJ6_bitCount_0f7a4 33 rfl) rfl (lv_at hl 0 rfl) ?_
  refine lv_bipush (pc := 43) (v := 16) hx hb (dOk_at dJ6_bitCount_0f7a4 34 rfl) (by decide) ?_
  refine lv_iushr (pc := 45) (v := (((((((x - (((x.toUInt32 >>> ((1 : Int32).toUInt32 &&& Int32.toUInt32 31)).toInt32) &&& 1431655765)) &&& 858993459) + ((((x - (((x.toUInt32 >>> ((1 : Int32).toUInt32 &&& Int32.toUInt32 31)).toInt32) &&& 1431655765)).toUInt32 >>> ((2 : Int32).toUInt32 &&& Int32.toUInt32 31)).toInt32) &&& 858993459)) + (((((x - (((x.toUInt32 >>> ((1 : Int32).toUInt32 &&& Int32.toUInt32 31)).toInt32) &&& 1431655765)) &&& 858993459) + ((((x - (((x.toUInt32 >>> ((1 : Int32).toUInt32 &&& Int32.toUInt32 31)).toInt32) &&& 1431655765)).toUInt32 >>> ((2 : Int32).toUInt32 &&& Int32.toUInt32 31)).toInt32) &&& 858993459)).toUInt32 >>> ((4 : Int32).toUInt32 &&& Int32.toUInt32 31)).toInt32)) &&& 252645135) + (((((((x - (((x.toUInt32 >>> ((1 : Int32).toUInt32 &&& Int32.toUInt32 31)).toInt32) &&& 1431655765)) &&& 858993459) + ((((x - (((x.toUInt32 >>> ((1 : Int32).toUInt32 &&& Int32.toUInt32 31)).toInt32) &&& 1431655765)).toUInt32 >>> ((2 : Int32).toUInt32 &&& Int32.toUInt32 31)).toInt32) &&& 858993459)) + (((((x - (((x.toUInt32 >>> ((1 : Int32).toUInt32 &&& Int32.toUInt32 31)).toInt32) &&& 1431655765)) &&& 858993459) + ((((x - (((x.toUInt32 >>> ((1 : Int32).toUInt32 &&& Int32.toUInt32 31)).toInt32) &&& 1431655765)).toUInt32 >>> ((2 : Int32).toUInt32 &&& Int32.toUInt32 31)).toInt32) &&& 858993459)).toUInt32 >>> ((4 : Int32).toUInt32 &&& Int32.toUInt32 31)).toInt32)) &&& 252645135).toUInt32 >>> ((8 : Int32).toUInt32 &&& Int32.toUInt32 31)).toInt32)).toUInt32 >>> ((16 : Int32).toUInt32 &&& Int32.toUInt32 31)).toInt32) hx hb (dOk_at dJ6_bitCount_0f7a4 35 rfl) rfl ?_
  refine lv_iadd (pc := 46) hx hb (dOk_at dJ6_bitCount_0f7a4 36 rfl) ?_
  refine lv_istore_n (pc := 47) (lv' := [(0, .int (((((((x - (((x.toUInt32 >>> ((1 : Int32).toUInt32 &&& Int32.toUInt32 31)).toInt32) &&& 1431655765)) &&& 858993459) + ((((x - (((x.toUInt32 >>> ((1 : Int32).toUInt32 &&& Int32.toUInt32 31)).toInt32) &&& 1431655765)).toUInt32 >>> ((2 : Int32).toUInt32 &&& Int32.toUInt32 31)).toInt32) &&& 858993459)) + (((((x - (((x.toUInt32 >>> ((1 : Int32).toUInt32 &&& Int32.toUInt32 31)).toInt32) &&& 1431655765)) &&& 858993459) + ((((x - (((x.toUInt32 >>> ((1 : Int32).toUInt32 &&& Int32.toUInt32 31)).toInt32) &&& 1431655765)).toUInt32 >>> ((2 : Int32).toUInt32 &&& Int32.toUInt32 31)).toInt32) &&& 858993459)).toUInt32 >>> ((4 : Int32).toUInt32 &&& Int32.toUInt32 31)).toInt32)) &&& 252645135) + (((((((x - (((x.toUInt32 >>> ((1 : Int32).toUInt32 &&& Int32.toUInt32 31)).toInt32) &&& 1431655765)) &&& 858993459) + ((((x - (((x.toUInt32 >>> ((1 : Int32).toUInt32 &&& Int32.toUInt32 31)).toInt32) &&& 1431655765)).toUInt32 >>> ((2 : Int32).toUInt32 &&& Int32.toUInt32 31)).toInt32) &&& 858993459)) + (((((x - (((x.toUInt32 >>> ((1 : Int32).toUInt32 &&& Int32.toUInt32 31)).toInt32) &&& 1431655765)) &&& 858993459) + ((((x - (((x.toUInt32 >>> ((1 : Int32).toUInt32 &&& Int32.toUInt32 31)).toInt32) &&& 1431655765)).toUInt32 >>> ((2 : Int32).toUInt32 &&& Int32.toUInt32 31)).toInt32) &&& 858993459)).toUInt32 >>> ((4 : Int32).toUInt32 &&& Int32.toUInt32 31)).toInt32)) &&& 252645135).toUInt32 >>> ((8 : Int32).toUInt32 &&& Int32.toUInt32 31)).toInt32)) + ((((((((x - (((x.toUInt32 >>> ((1 : Int32).toUInt32 &&& Int32.toUInt32 31)).toInt32) &&& 1431655765)) &&& 858993459) + ((((x - (((x.toUInt32 >>> ((1 : Int32).toUInt32 &&& Int32.toUInt32 31)).toInt32) &&& 1431655765)).toUInt32 >>> ((2 : Int32).toUInt32 &&& Int32.toUInt32 31)).toInt32) &&& 858993459)) + (((((x - (((x.toUInt32 >>> ((1 : Int32).toUInt32 &&& Int32.toUInt32 31)).toInt32) &&& 1431655765)) &&& 858993459) + ((((x - (((x.toUInt32 >>> ((1 : Int32).toUInt32 &&& Int32.toUInt32 31)).toInt32) &&& 1431655765)).toUInt32 >>> ((2 : Int32).toUInt32 &&& Int32.toUInt32 31)).toInt32) &&& 858993459)).toUInt32 >>> ((4 : Int32).toUInt32 &&& Int32.toUInt32 31)).toInt32)) &&& 252645135) + (((((((x - (((x.toUInt32 >>> ((1 : Int32).toUInt32 &&& Int32.toUInt32 31)).toInt32) &&& 1431655765)) &&& 858993459) + ((((x - (((x.toUInt32 >>> ((1 : Int32).toUInt32 &&& Int32.toUInt32 31)).toInt32) &&& 1431655765)).toUInt32 >>> ((2 : Int32).toUInt32 &&& Int32.toUInt32 31)).toInt32) &&& 858993459)) + (((((x - (((x.toUInt32 >>> ((1 : Int32).toUInt32 &&& Int32.toUInt32 31)).toInt32) &&& 1431655765)) &&& 858993459) + ((((x - (((x.toUInt32 >>> ((1 : Int32).toUInt32 &&& Int32.toUInt32 31)).toInt32) &&& 1431655765)).toUInt32 >>> ((2 : Int32).toUInt32 &&& Int32.toUInt32 31)).toInt32) &&& 858993459)).toUInt32 >>> ((4 : Int32).toUInt32 &&& Int32.toUInt32 31)).toInt32)) &&& 252645135).toUInt32 >>> ((8 : Int32).toUInt32 &&& Int32.toUInt32 31)).toInt32)).toUInt32 >>> ((16 : Int32).toUInt32 &&& Int32.toUInt32 31)).toInt32)))]) hx hb (dOk_at dJ6_bitCount_0f7a4 37 rfl) rfl hl (by decide) rfl (fun ls hl => ?_)
  refine lv_iload_n (pc := 48) hx hb (dOk_at dJ6_bitCount_0f7a4 38 rfl) rfl (lv_at hl 0 rfl) ?_
  refine lv_bipush (pc := 49) (v := 63) hx hb (dOk_at dJ6_bitCount_0f7a4 39 rfl) (by decide) ?_
  refine lv_iand (pc := 51) hx hb (dOk_at dJ6_bitCount_0f7a4 40 rfl) ?_
  have e0 := hv
  subst e0
  rw [hQ]
  exact r_iret (pc := 52) fx hh (dOk_at dJ6_bitCount_0f7a4 41 rfl)
set_option maxRecDepth 100000 in
set_option maxHeartbeats 4000000 in
theorem wk_J7_fill_53178 (l : Launch) (G : GT) (q0 : Nat) (v : Int32) (g : Nat → Int32) (t0 : Nat → Int32) (J5 : Nat → Int32 → (Nat → Int32) → Prop)
    (hv : ∃ k2 : Nat, J5 k2 0 g)
    (hv5 : ∀ (n5 : Nat) (x5_2 : Int32) (y5_0 : Nat → Int32), J5 n5 x5_2 y5_0 → (60 ≤ x5_2 → y5_0 = t0) ∧ (¬ 60 ≤ x5_2 → vp_in x5_2 60 ∧ (∃ k1 : Nat, k1 < n5 ∧ J5 k1 (x5_2 + 1) (upd y5_0 x5_2.toNatClampNeg v)))) :
    MF l G yJ7_fill_53178 cJ7_fill_53178 4 none rm_J7_fill_53178 [.ref q0, .int v] [(q0, .inl (G.2.1, 60, .inl g))] none [(q0, .inl (G.2.1, 60, .inl t0))] := by
  refine MF.of (by decide +kernel) (Nat.le_of_ble_eq_true rfl) ?_
  intro p e s m args below meth c A ls fx hh hl _
  have hx := fx.hx
  have hb := fx.hb
  have hl : lv_has ls 4 [(0, .ref q0), (1, .int v)] := hl
  obtain ⟨Q, hQ⟩ : ∃ Q, Q = ZZ G A none [(q0, .inl (G.2.1, 60, .inl t0))] below args s := ⟨_, rfl⟩
  rw [← hQ]
  have lp5 : ∀ (n5 : Nat) (x5_2 : Int32) (y5_0 : Nat → Int32), J5 n5 x5_2 y5_0 → ∀ (H : Heap) (locs : List Loc) (ls : Array Slot), HP G A [(q0, .inl (G.2.1, 60, .inl y5_0))] s H locs → lv_has ls 4 [(0, .ref q0), (1, .int v), (2, .int x5_2), (3, .int 60)] → W p l e rm_J7_fill_53178 s m args below meth c H locs 0 0 Q (F0 m 5 ls []) := by
    intro n5
    induction n5 using Nat.strongRecOn with
    | ind n5 ih5 =>
      intro x5_2 y5_0 hj5 H locs ls hh hl
      have hv := hv5 n5 x5_2 y5_0 hj5
      refine lv_iload_n (pc := 5) hx hb (dOk_at dJ7_fill_53178 5 rfl) rfl (lv_at hl 2 rfl) ?_
      refine lv_iload_n (pc := 6) hx hb (dOk_at dJ7_fill_53178 6 rfl) rfl (lv_at hl 3 rfl) ?_
      refine lv_icmp_ge (pc := 7) (tgt := 20) hx hb (dOk_at dJ7_fill_53178 7 rfl) (by decide) (fun c7 => ?_) (fun c7 => ?_)
      · have hv := hv.1 c7
        have e0 := hv
        subst e0
        rw [hQ]
        exact r_vret (pc := 20) fx hh (dOk_at dJ7_fill_53178 14 rfl)
      · have hv := hv.2 c7
        refine lv_aload_n (pc := 10) hx hb (dOk_at dJ7_fill_53178 8 rfl) rfl (lv_at hl 0 rfl) ?_
        refine lv_iload_n (pc := 11) hx hb (dOk_at dJ7_fill_53178 9 rfl) rfl (lv_at hl 2 rfl) ?_
        refine lv_iload_n (pc := 12) hx hb (dOk_at dJ7_fill_53178 10 rfl) rfl (lv_at hl 1 rfl) ?_
        refine r_iast (pc := 13) (w' := [(q0, .inl (G.2.1, 60, .inl (upd y5_0 x5_2.toNatClampNeg v)))]) fx hh 0 rfl hv.1 rfl (dOk_at dJ7_fill_53178 11 rfl) (fun H locs hh => ?_)
        have hv := hv.2
        refine lv_iinc (pc := 14) (v := x5_2 + 1) (lv' := [(2, .int (x5_2 + 1)), (0, .ref q0), (1, .int v), (3, .int 60)]) hx hb (dOk_at dJ7_fill_53178 12 rfl) hl (k := 2) rfl rfl (by decide) rfl (fun ls hl => ?_)
        refine lv_goto (pc := 17) (tgt := 5) hx hb (dOk_at dJ7_fill_53178 13 rfl) (by decide) ?_
        obtain ⟨k0, hk0, hj0⟩ := hv
        exact ih5 k0 hk0 (x5_2 + 1) (upd y5_0 x5_2.toNatClampNeg v) hj0 _ _ _ hh (lv_sub hl [1, 2, 0, 3] rfl)
  refine lv_iconst (pc := 0) (v := 0) hx hb (dOk_at dJ7_fill_53178 0 rfl) (by decide) ?_
  refine lv_istore_n (pc := 1) (lv' := [(2, .int 0), (0, .ref q0), (1, .int v)]) hx hb (dOk_at dJ7_fill_53178 1 rfl) rfl hl (by decide) rfl (fun ls hl => ?_)
  refine lv_aload_n (pc := 2) hx hb (dOk_at dJ7_fill_53178 2 rfl) rfl (lv_at hl 1 rfl) ?_
  refine r_alen (pc := 3) (v := 60) fx hh 0 rfl rfl (dOk_at dJ7_fill_53178 3 rfl) ?_
  refine lv_istore_n (pc := 4) (lv' := [(3, .int 60), (2, .int 0), (0, .ref q0), (1, .int v)]) hx hb (dOk_at dJ7_fill_53178 4 rfl) rfl hl (by decide) rfl (fun ls hl => ?_)
  obtain ⟨k0, hj0⟩ := hv
  exact lp5 k0 0 g hj0 _ _ _ hh (lv_sub hl [2, 3, 1, 0] rfl)
set_option maxRecDepth 100000 in
set_option maxHeartbeats 4000000 in
theorem wk_X0_has (l : Launch) (G : GT) (c0 : Nat) (c1 : Nat) (c2 : Nat) (cnt : Int32) (a : Int32) (R : Int32) (h_X6_isWithin : K_X6_isWithin l G)
    (hv : (((s_in a 0 (cnt - 1)) = 0 ∨ (s_in a 0 (cnt - 1)) = 1)) ∧ (s_in a 0 (cnt - 1)) = R) :
    MF l G yX0_has cX0_has 2 (some .boolean) rm_X0_has [.ref c0, .int a] [(c0, .inr (0, [.ref c1, .ref c2, .int cnt]))] (some (.int R)) [(c0, .inr (0, [.ref c1, .ref c2, .int cnt]))] := by
  refine MF.of (by decide +kernel) (Nat.le_of_ble_eq_true rfl) ?_
  intro p e s m args below meth c A ls fx hh hl _
  have hx := fx.hx
  have hb := fx.hb
  have hl : lv_has ls 2 [(0, .ref c0), (1, .int a)] := hl
  obtain ⟨Q, hQ⟩ : ∃ Q, Q = ZZ G A (some (.int R)) [(c0, .inr (0, [.ref c1, .ref c2, .int cnt]))] below args s := ⟨_, rfl⟩
  rw [← hQ]
  refine lv_iload_n (pc := 0) hx hb (dOk_at dX0_has 0 rfl) rfl (lv_at hl 1 rfl) ?_
  refine lv_iconst (pc := 1) (v := 0) hx hb (dOk_at dX0_has 1 rfl) (by decide) ?_
  refine lv_aload_n (pc := 2) hx hb (dOk_at dX0_has 2 rfl) rfl (lv_at hl 0 rfl) ?_
  refine r_get (pc := 3) (ci := 0) fx hh inT0 rfl 2 (by decide) tFX0_18 rfl 0 rfl rfl (dOk_at dX0_has 3 rfl) ?_
  refine lv_iconst (pc := 6) (v := 1) hx hb (dOk_at dX0_has 4 rfl) (by decide) ?_
  refine lv_isub (pc := 7) hx hb (dOk_at dX0_has 5 rfl) ?_
  refine cl_SN (pc := 8) (w' := [(c0, .inr (0, [.ref c1, .ref c2, .int cnt]))]) (wr := [(c0, .inr (0, [.ref c1, .ref c2, .int cnt]))]) (rest := []) fx hh hl.1 (h_X6_isWithin a 0 (cnt - 1)) yS_X6_isWithin nMX0_40 ⟨rfl, rfl, Nat.le_of_ble_eq_true rfl, Nat.le_of_ble_eq_true rfl⟩ [] [0] [0] rfl rfl rfl (by decide) (by decide) rfl rfl (Nat.le_of_ble_eq_true rfl) ⟨Nat.le_of_ble_eq_true rfl, Nat.le_of_ble_eq_true rfl⟩ (dOk_at dX0_has 6 rfl) (fun H locs hh => ?_)
  obtain ⟨e0, e1⟩ := hv
  subst e1
  rw [hQ]
  exact r_zret (pc := 11) fx hh (nar01 e0) (dOk_at dX0_has 7 rfl)
set_option maxRecDepth 100000 in
set_option maxHeartbeats 4000000 in
theorem wk_X0_load (l : Launch) (G : GT) (c0 : Nat) (c1 : Nat) (c2 : Nat) (cnt : Int32) (a : Int32) (ck : Nat → Int32) (cwt : Nat → Int32) (R : Int32)
    (hv : vp_in a 4 ∧ (((ck a.toNatClampNeg) = 1 → vp_in a 4 ∧ ((cwt a.toNatClampNeg) + 1) = R) ∧ (¬ (ck a.toNatClampNeg) = 1 → ((ck a.toNatClampNeg) = 2 → vp_in a 4 ∧ (2 * ((cwt a.toNatClampNeg) + 1)) = R) ∧ (¬ (ck a.toNatClampNeg) = 2 → vp_in a 4 ∧ (cwt a.toNatClampNeg) = R)))) :
    MF l G yX0_load cX0_load 2 (some .int) rm_X0_load [.ref c0, .int a] [(c0, .inr (0, [.ref c1, .ref c2, .int cnt])), (c1, .inl (G.2.1, 4, .inl ck)), (c2, .inl (G.2.1, 4, .inl cwt))] (some (.int R)) [(c0, .inr (0, [.ref c1, .ref c2, .int cnt])), (c1, .inl (G.2.1, 4, .inl ck)), (c2, .inl (G.2.1, 4, .inl cwt))] := by
  refine MF.of (by decide +kernel) (Nat.le_of_ble_eq_true rfl) ?_
  intro p e s m args below meth c A ls fx hh hl _
  have hx := fx.hx
  have hb := fx.hb
  have hl : lv_has ls 2 [(0, .ref c0), (1, .int a)] := hl
  obtain ⟨Q, hQ⟩ : ∃ Q, Q = ZZ G A (some (.int R)) [(c0, .inr (0, [.ref c1, .ref c2, .int cnt])), (c1, .inl (G.2.1, 4, .inl ck)), (c2, .inl (G.2.1, 4, .inl cwt))] below args s := ⟨_, rfl⟩
  rw [← hQ]
  refine lv_aload_n (pc := 0) hx hb (dOk_at dX0_load 0 rfl) rfl (lv_at hl 0 rfl) ?_
  refine r_get (pc := 1) (ci := 0) fx hh inT0 rfl 0 (by decide) tFX0_9 rfl 0 rfl rfl (dOk_at dX0_load 1 rfl) ?_
  refine lv_iload_n (pc := 4) hx hb (dOk_at dX0_load 2 rfl) rfl (lv_at hl 1 rfl) ?_
  refine r_iald (pc := 5) fx hh 1 rfl hv.1 (dOk_at dX0_load 3 rfl) ?_
  have hv := hv.2
  by_cases c6_0 : (ck a.toNatClampNeg) = 1
  · refine lv_lookup (pc := 6) (tgt := 43) (off := 37) hx hb (dOk_at dX0_load 4 rfl) (by decide) (by rw [c6_0]; decide) (by decide) ?_
    have hv := hv.1 c6_0
    refine lv_aload_n (pc := 43) hx hb (dOk_at dX0_load 14 rfl) rfl (lv_at hl 0 rfl) ?_
    refine r_get (pc := 44) (ci := 0) fx hh inT0 rfl 1 (by decide) tFX0_15 rfl 0 rfl rfl (dOk_at dX0_load 15 rfl) ?_
    refine lv_iload_n (pc := 47) hx hb (dOk_at dX0_load 16 rfl) rfl (lv_at hl 1 rfl) ?_
    refine r_iald (pc := 48) fx hh 2 rfl hv.1 (dOk_at dX0_load 17 rfl) ?_
    have hv := hv.2
    refine lv_iconst (pc := 49) (v := 1) hx hb (dOk_at dX0_load 18 rfl) (by decide) ?_
    refine lv_iadd (pc := 50) hx hb (dOk_at dX0_load 19 rfl) ?_
    have e0 := hv
    subst e0
    rw [hQ]
    exact r_iret (pc := 51) fx hh (dOk_at dX0_load 20 rfl)
  · have hv := hv.2 c6_0
    by_cases c6_1 : (ck a.toNatClampNeg) = 2
    · refine lv_lookup (pc := 6) (tgt := 32) (off := 26) hx hb (dOk_at dX0_load 4 rfl) (by decide) (by rw [c6_1]; decide) (by decide) ?_
      have hv := hv.1 c6_1
      refine lv_iconst (pc := 32) (v := 2) hx hb (dOk_at dX0_load 5 rfl) (by decide) ?_
      refine lv_aload_n (pc := 33) hx hb (dOk_at dX0_load 6 rfl) rfl (lv_at hl 0 rfl) ?_
      refine r_get (pc := 34) (ci := 0) fx hh inT0 rfl 1 (by decide) tFX0_15 rfl 0 rfl rfl (dOk_at dX0_load 7 rfl) ?_
      refine lv_iload_n (pc := 37) hx hb (dOk_at dX0_load 8 rfl) rfl (lv_at hl 1 rfl) ?_
      refine r_iald (pc := 38) fx hh 2 rfl hv.1 (dOk_at dX0_load 9 rfl) ?_
      have hv := hv.2
      refine lv_iconst (pc := 39) (v := 1) hx hb (dOk_at dX0_load 10 rfl) (by decide) ?_
      refine lv_iadd (pc := 40) hx hb (dOk_at dX0_load 11 rfl) ?_
      refine lv_imul (pc := 41) hx hb (dOk_at dX0_load 12 rfl) ?_
      have e0 := hv
      subst e0
      rw [hQ]
      exact r_iret (pc := 42) fx hh (dOk_at dX0_load 13 rfl)
    · have hv := hv.2 c6_1
      refine lv_lookup (pc := 6) (tgt := 52) (off := 46) hx hb (dOk_at dX0_load 4 rfl) (by decide) (by have w0 := sw_ne c6_0 (b := 1) (by decide); have w1 := sw_ne c6_1 (b := 2) (by decide); exact sw_look2 w0 w1) (by decide) ?_
      refine lv_aload_n (pc := 52) hx hb (dOk_at dX0_load 21 rfl) rfl (lv_at hl 0 rfl) ?_
      refine r_get (pc := 53) (ci := 0) fx hh inT0 rfl 1 (by decide) tFX0_15 rfl 0 rfl rfl (dOk_at dX0_load 22 rfl) ?_
      refine lv_iload_n (pc := 56) hx hb (dOk_at dX0_load 23 rfl) rfl (lv_at hl 1 rfl) ?_
      refine r_iald (pc := 57) fx hh 2 rfl hv.1 (dOk_at dX0_load 24 rfl) ?_
      have hv := hv.2
      have e0 := hv
      subst e0
      rw [hQ]
      exact r_iret (pc := 58) fx hh (dOk_at dX0_load 25 rfl)
set_option maxRecDepth 100000 in
set_option maxHeartbeats 4000000 in
theorem wk_X2_cells (l : Launch) (G : GT) (i0 : Nat) (i1 : Nat) (hi : Int32) (wi : Int32) (fr : Int32) (fc : Int32) (lc : Int32) (R : Int32)
    (hv : (hi * wi) = R) :
    MF l G yX2_cells cX2_cells 1 (some .int) rm_X2_cells [.ref i0] [(i0, .inr (2, [.ref i1, .int hi, .int wi, .int fr, .int fc, .int lc]))] (some (.int R)) [(i0, .inr (2, [.ref i1, .int hi, .int wi, .int fr, .int fc, .int lc]))] := by
  refine MF.of (by decide +kernel) (Nat.le_of_ble_eq_true rfl) ?_
  intro p e s m args below meth c A ls fx hh hl _
  have hx := fx.hx
  have hb := fx.hb
  have hl : lv_has ls 1 [(0, .ref i0)] := hl
  obtain ⟨Q, hQ⟩ : ∃ Q, Q = ZZ G A (some (.int R)) [(i0, .inr (2, [.ref i1, .int hi, .int wi, .int fr, .int fc, .int lc]))] below args s := ⟨_, rfl⟩
  rw [← hQ]
  refine lv_aload_n (pc := 0) hx hb (dOk_at dX2_cells 0 rfl) rfl (lv_at hl 0 rfl) ?_
  refine r_get (pc := 1) (ci := 2) fx hh inT2 rfl 1 (by decide) tFX2_15 rfl 0 rfl rfl (dOk_at dX2_cells 1 rfl) ?_
  refine lv_aload_n (pc := 4) hx hb (dOk_at dX2_cells 2 rfl) rfl (lv_at hl 0 rfl) ?_
  refine r_get (pc := 5) (ci := 2) fx hh inT2 rfl 2 (by decide) tFX2_19 rfl 0 rfl rfl (dOk_at dX2_cells 3 rfl) ?_
  refine lv_imul (pc := 8) hx hb (dOk_at dX2_cells 4 rfl) ?_
  have e0 := hv
  subst e0
  rw [hQ]
  exact r_iret (pc := 9) fx hh (dOk_at dX2_cells 5 rfl)
set_option maxRecDepth 100000 in
set_option maxHeartbeats 4000000 in
theorem wk_X2_all (l : Launch) (G : GT) (i0 : Nat) (i1 : Nat) (hi : Int32) (wi : Int32) (fr : Int32) (fc : Int32) (lc : Int32) (R : Int32) (h_X2_cells : K_X2_cells l G)
    (hv : (((1 : Int32) <<< ((hi * wi) &&& 31)) - 1) = R) :
    MF l G yX2_all cX2_all 1 (some .int) rm_X2_all [.ref i0] [(i0, .inr (2, [.ref i1, .int hi, .int wi, .int fr, .int fc, .int lc]))] (some (.int R)) [(i0, .inr (2, [.ref i1, .int hi, .int wi, .int fr, .int fc, .int lc]))] := by
  refine MF.of (by decide +kernel) (Nat.le_of_ble_eq_true rfl) ?_
  intro p e s m args below meth c A ls fx hh hl _
  have hx := fx.hx
  have hb := fx.hb
  have hl : lv_has ls 1 [(0, .ref i0)] := hl
  obtain ⟨Q, hQ⟩ : ∃ Q, Q = ZZ G A (some (.int R)) [(i0, .inr (2, [.ref i1, .int hi, .int wi, .int fr, .int fc, .int lc]))] below args s := ⟨_, rfl⟩
  rw [← hQ]
  refine lv_iconst (pc := 0) (v := 1) hx hb (dOk_at dX2_all 0 rfl) (by decide) ?_
  refine lv_aload_n (pc := 1) hx hb (dOk_at dX2_all 1 rfl) rfl (lv_at hl 0 rfl) ?_
  refine cl_V (pc := 2) (w' := [(i0, .inr (2, [.ref i1, .int hi, .int wi, .int fr, .int fc, .int lc]))]) (wr := []) (rest := [.int 1]) fx hh hl.1 (h_X2_cells i0 i1 hi wi fr fc lc) yV_X2_cells tMX2_41 ⟨rfl, rfl, Nat.le_of_ble_eq_true rfl, Nat.le_of_ble_eq_true rfl⟩ 0 2 rfl rfl rfl [0] [] [0] rfl rfl rfl (by decide) (by decide) rfl rfl (Nat.le_of_ble_eq_true rfl) ⟨Nat.le_of_ble_eq_true rfl, Nat.le_of_ble_eq_true rfl⟩ (dOk_at dX2_all 2 rfl) (fun H locs hh => ?_)
  refine lv_ishl (pc := 5) hx hb (dOk_at dX2_all 3 rfl) ?_
  refine lv_iconst (pc := 6) (v := 1) hx hb (dOk_at dX2_all 4 rfl) (by decide) ?_
  refine lv_isub (pc := 7) hx hb (dOk_at dX2_all 5 rfl) ?_
  have e0 := hv
  subst e0
  rw [hQ]
  exact r_iret (pc := 8) fx hh (dOk_at dX2_all 6 rfl)
set_option maxRecDepth 100000 in
set_option maxHeartbeats 4000000 in
theorem wk_X2_has (l : Launch) (G : GT) (i0 : Nat) (i1 : Nat) (hi : Int32) (wi : Int32) (fr : Int32) (fc : Int32) (lc : Int32) (ce : Int32) (R : Int32) (h_X2_cells : K_X2_cells l G) (h_X6_isWithin : K_X6_isWithin l G)
    (hv : (((s_in ce 0 ((hi * wi) - 1)) = 0 ∨ (s_in ce 0 ((hi * wi) - 1)) = 1)) ∧ (s_in ce 0 ((hi * wi) - 1)) = R) :
    MF l G yX2_has cX2_has 2 (some .boolean) rm_X2_has [.ref i0, .int ce] [(i0, .inr (2, [.ref i1, .int hi, .int wi, .int fr, .int fc, .int lc]))] (some (.int R)) [(i0, .inr (2, [.ref i1, .int hi, .int wi, .int fr, .int fc, .int lc]))] := by
  refine MF.of (by decide +kernel) (Nat.le_of_ble_eq_true rfl) ?_
  intro p e s m args below meth c A ls fx hh hl _
  have hx := fx.hx
  have hb := fx.hb
  have hl : lv_has ls 2 [(0, .ref i0), (1, .int ce)] := hl
  obtain ⟨Q, hQ⟩ : ∃ Q, Q = ZZ G A (some (.int R)) [(i0, .inr (2, [.ref i1, .int hi, .int wi, .int fr, .int fc, .int lc]))] below args s := ⟨_, rfl⟩
  rw [← hQ]
  refine lv_iload_n (pc := 0) hx hb (dOk_at dX2_has 0 rfl) rfl (lv_at hl 1 rfl) ?_
  refine lv_iconst (pc := 1) (v := 0) hx hb (dOk_at dX2_has 1 rfl) (by decide) ?_
  refine lv_aload_n (pc := 2) hx hb (dOk_at dX2_has 2 rfl) rfl (lv_at hl 0 rfl) ?_
  refine cl_V (pc := 3) (w' := [(i0, .inr (2, [.ref i1, .int hi, .int wi, .int fr, .int fc, .int lc]))]) (wr := []) (rest := [.int 0, .int ce]) fx hh hl.1 (h_X2_cells i0 i1 hi wi fr fc lc) yV_X2_cells tMX2_41 ⟨rfl, rfl, Nat.le_of_ble_eq_true rfl, Nat.le_of_ble_eq_true rfl⟩ 0 2 rfl rfl rfl [0] [] [0] rfl rfl rfl (by decide) (by decide) rfl rfl (Nat.le_of_ble_eq_true rfl) ⟨Nat.le_of_ble_eq_true rfl, Nat.le_of_ble_eq_true rfl⟩ (dOk_at dX2_has 3 rfl) (fun H locs hh => ?_)
  refine lv_iconst (pc := 6) (v := 1) hx hb (dOk_at dX2_has 4 rfl) (by decide) ?_
  refine lv_isub (pc := 7) hx hb (dOk_at dX2_has 5 rfl) ?_
  refine cl_SN (pc := 8) (w' := [(i0, .inr (2, [.ref i1, .int hi, .int wi, .int fr, .int fc, .int lc]))]) (wr := [(i0, .inr (2, [.ref i1, .int hi, .int wi, .int fr, .int fc, .int lc]))]) (rest := []) fx hh hl.1 (h_X6_isWithin ce 0 ((hi * wi) - 1)) yS_X6_isWithin nMX2_45 ⟨rfl, rfl, Nat.le_of_ble_eq_true rfl, Nat.le_of_ble_eq_true rfl⟩ [] [0] [0] rfl rfl rfl (by decide) (by decide) rfl rfl (Nat.le_of_ble_eq_true rfl) ⟨Nat.le_of_ble_eq_true rfl, Nat.le_of_ble_eq_true rfl⟩ (dOk_at dX2_has 6 rfl) (fun H locs hh => ?_)
  obtain ⟨e0, e1⟩ := hv
  subst e1
  rw [hQ]
  exact r_zret (pc := 11) fx hh (nar01 e0) (dOk_at dX2_has 7 rfl)
set_option maxRecDepth 100000 in
set_option maxHeartbeats 4000000 in
theorem wk_X2_strengthen (l : Launch) (G : GT) (i0 : Nat) (i1 : Nat) (hi : Int32) (wi : Int32) (fr : Int32) (fc : Int32) (lc : Int32) (more : Int32) (str : Nat → Int32) (t1 : Nat → Int32) (J2 : Nat → Int32 → (Nat → Int32) → Prop) (h_X2_cells : K_X2_cells l G)
    (hv : ∃ k2 : Nat, J2 k2 0 str)
    (hv2 : ∀ (n2 : Nat) (x2_2 : Int32) (y2_1 : Nat → Int32), J2 n2 x2_2 y2_1 → ((hi * wi) ≤ x2_2 → y2_1 = t1) ∧ (¬ (hi * wi) ≤ x2_2 → vp_in x2_2 20 ∧ (vp_in x2_2 20 ∧ (∃ k1 : Nat, k1 < n2 ∧ J2 k1 (x2_2 + 1) (upd y2_1 x2_2.toNatClampNeg (if 0 < (if ((y2_1 x2_2.toNatClampNeg) + more) < 9 then ((y2_1 x2_2.toNatClampNeg) + more) else 9) then (if ((y2_1 x2_2.toNatClampNeg) + more) < 9 then ((y2_1 x2_2.toNatClampNeg) + more) else 9) else 0)))))) :
    MF l G yX2_strengthen cX2_strengthen 3 none rm_X2_strengthen [.ref i0, .int more] [(i0, .inr (2, [.ref i1, .int hi, .int wi, .int fr, .int fc, .int lc])), (i1, .inl (G.2.1, 20, .inl str))] none [(i0, .inr (2, [.ref i1, .int hi, .int wi, .int fr, .int fc, .int lc])), (i1, .inl (G.2.1, 20, .inl t1))] := by
  refine MF.of (by decide +kernel) (Nat.le_of_ble_eq_true rfl) ?_
  intro p e s m args below meth c A ls fx hh hl _
  have hx := fx.hx
  have hb := fx.hb
  have hl : lv_has ls 3 [(0, .ref i0), (1, .int more)] := hl
  obtain ⟨Q, hQ⟩ : ∃ Q, Q = ZZ G A none [(i0, .inr (2, [.ref i1, .int hi, .int wi, .int fr, .int fc, .int lc])), (i1, .inl (G.2.1, 20, .inl t1))] below args s := ⟨_, rfl⟩
  rw [← hQ]
  have lp2 : ∀ (n2 : Nat) (x2_2 : Int32) (y2_1 : Nat → Int32), J2 n2 x2_2 y2_1 → ∀ (H : Heap) (locs : List Loc) (ls : Array Slot), HP G A [(i0, .inr (2, [.ref i1, .int hi, .int wi, .int fr, .int fc, .int lc])), (i1, .inl (G.2.1, 20, .inl y2_1))] s H locs → lv_has ls 3 [(0, .ref i0), (1, .int more), (2, .int x2_2)] → W p l e rm_X2_strengthen s m args below meth c H locs 0 0 Q (F0 m 2 ls []) := by
    intro n2
    induction n2 using Nat.strongRecOn with
    | ind n2 ih2 =>
      intro x2_2 y2_1 hj2 H locs ls hh hl
      have hv := hv2 n2 x2_2 y2_1 hj2
      refine lv_iload_n (pc := 2) hx hb (dOk_at dX2_strengthen 2 rfl) rfl (lv_at hl 2 rfl) ?_
      refine lv_aload_n (pc := 3) hx hb (dOk_at dX2_strengthen 3 rfl) rfl (lv_at hl 0 rfl) ?_
      refine cl_V (pc := 4) (w' := [(i0, .inr (2, [.ref i1, .int hi, .int wi, .int fr, .int fc, .int lc])), (i1, .inl (G.2.1, 20, .inl y2_1))]) (wr := [(i1, .inl (G.2.1, 20, .inl y2_1))]) (rest := [.int x2_2]) fx hh hl.1 (h_X2_cells i0 i1 hi wi fr fc lc) yV_X2_cells tMX2_41 ⟨rfl, rfl, Nat.le_of_ble_eq_true rfl, Nat.le_of_ble_eq_true rfl⟩ 0 2 rfl rfl rfl [0] [1] [1, 0] rfl rfl rfl (by decide) (by decide) rfl rfl (Nat.le_of_ble_eq_true rfl) ⟨Nat.le_of_ble_eq_true rfl, Nat.le_of_ble_eq_true rfl⟩ (dOk_at dX2_strengthen 4 rfl) (fun H locs hh => ?_)
      refine lv_icmp_ge (pc := 7) (tgt := 39) hx hb (dOk_at dX2_strengthen 5 rfl) (by decide) (fun c7 => ?_) (fun c7 => ?_)
      · have hv := hv.1 c7
        have e0 := hv
        subst e0
        rw [hQ]
        exact r_vret (pc := 39) fx hh (dOk_at dX2_strengthen 22 rfl)
      · have hv := hv.2 c7
        refine lv_aload_n (pc := 10) hx hb (dOk_at dX2_strengthen 6 rfl) rfl (lv_at hl 0 rfl) ?_
        refine r_get (pc := 11) (ci := 2) fx hh inT2 rfl 0 (by decide) tFX2_9 rfl 0 rfl rfl (dOk_at dX2_strengthen 7 rfl) ?_
        refine lv_iload_n (pc := 14) hx hb (dOk_at dX2_strengthen 8 rfl) rfl (lv_at hl 2 rfl) ?_
        refine lv_iconst (pc := 15) (v := 0) hx hb (dOk_at dX2_strengthen 9 rfl) (by decide) ?_
        refine lv_bipush (pc := 16) (v := 9) hx hb (dOk_at dX2_strengthen 10 rfl) (by decide) ?_
        refine lv_aload_n (pc := 18) hx hb (dOk_at dX2_strengthen 11 rfl) rfl (lv_at hl 0 rfl) ?_
        refine r_get (pc := 19) (ci := 2) fx hh inT2 rfl 0 (by decide) tFX2_9 rfl 0 rfl rfl (dOk_at dX2_strengthen 12 rfl) ?_
        refine lv_iload_n (pc := 22) hx hb (dOk_at dX2_strengthen 13 rfl) rfl (lv_at hl 2 rfl) ?_
        refine r_iald (pc := 23) fx hh 1 rfl hv.1 (dOk_at dX2_strengthen 14 rfl) ?_
        have hv := hv.2
        refine lv_iload_n (pc := 24) hx hb (dOk_at dX2_strengthen 15 rfl) rfl (lv_at hl 1 rfl) ?_
        refine lv_iadd (pc := 25) hx hb (dOk_at dX2_strengthen 16 rfl) ?_
        refine va_mmin (pc := 26) hx hb (fx.hml.trans hl.1.symm) fx.hown (fx.hts _ tMX2_49) (fx.hts _ yY_J9_min_7cf53) (fx.hts _ tZJ9) (fx.hts _ kC_J9_min_7cf53) (Nat.le_of_ble_eq_true rfl) (Nat.le_of_ble_eq_true rfl) (Nat.le_of_ble_eq_true rfl) (Nat.le_of_ble_eq_true rfl) (dOk_at dX2_strengthen 17 rfl) ?_
        refine va_mmax (pc := 29) hx hb (fx.hml.trans hl.1.symm) fx.hown (fx.hts _ tMX2_54) (fx.hts _ yY_J9_max_7cf53) (fx.hts _ tZJ9) (fx.hts _ kC_J9_max_7cf53) (Nat.le_of_ble_eq_true rfl) (Nat.le_of_ble_eq_true rfl) (Nat.le_of_ble_eq_true rfl) (Nat.le_of_ble_eq_true rfl) (dOk_at dX2_strengthen 18 rfl) ?_
        refine r_iast (pc := 32) (w' := [(i0, .inr (2, [.ref i1, .int hi, .int wi, .int fr, .int fc, .int lc])), (i1, .inl (G.2.1, 20, .inl (upd y2_1 x2_2.toNatClampNeg (if 0 < (if ((y2_1 x2_2.toNatClampNeg) + more) < 9 then ((y2_1 x2_2.toNatClampNeg) + more) else 9) then (if ((y2_1 x2_2.toNatClampNeg) + more) < 9 then ((y2_1 x2_2.toNatClampNeg) + more) else 9) else 0))))]) fx hh 1 rfl hv.1 rfl (dOk_at dX2_strengthen 19 rfl) (fun H locs hh => ?_)
        have hv := hv.2
        refine lv_iinc (pc := 33) (v := x2_2 + 1) (lv' := [(2, .int (x2_2 + 1)), (0, .ref i0), (1, .int more)]) hx hb (dOk_at dX2_strengthen 20 rfl) hl (k := 2) rfl rfl (by decide) rfl (fun ls hl => ?_)
        refine lv_goto (pc := 36) (tgt := 2) hx hb (dOk_at dX2_strengthen 21 rfl) (by decide) ?_
        obtain ⟨k0, hk0, hj0⟩ := hv
        exact ih2 k0 hk0 (x2_2 + 1) (upd y2_1 x2_2.toNatClampNeg (if 0 < (if ((y2_1 x2_2.toNatClampNeg) + more) < 9 then ((y2_1 x2_2.toNatClampNeg) + more) else 9) then (if ((y2_1 x2_2.toNatClampNeg) + more) < 9 then ((y2_1 x2_2.toNatClampNeg) + more) else 9) else 0)) hj0 _ _ _ hh (lv_sub hl [1, 2, 0] rfl)
  refine lv_iconst (pc := 0) (v := 0) hx hb (dOk_at dX2_strengthen 0 rfl) (by decide) ?_
  refine lv_istore_n (pc := 1) (lv' := [(2, .int 0), (0, .ref i0), (1, .int more)]) hx hb (dOk_at dX2_strengthen 1 rfl) rfl hl (by decide) rfl (fun ls hl => ?_)
  obtain ⟨k0, hj0⟩ := hv
  exact lp2 k0 0 str hj0 _ _ _ hh (lv_sub hl [1, 2, 0] rfl)
set_option maxRecDepth 100000 in
set_option maxHeartbeats 4000000 in
theorem wk_X2_count (l : Launch) (G : GT) (i0 : Nat) (i1 : Nat) (hi : Int32) (wi : Int32) (fr : Int32) (fc : Int32) (lc : Int32) (strong : Int32) (str : Nat → Int32) (R : Int32) (J4 : Nat → Int32 → Int32 → Prop) (h_X2_cells : K_X2_cells l G)
    (hv : ∃ k2 : Nat, J4 k2 0 0)
    (hv4 : ∀ (n4 : Nat) (x4_2 : Int32) (x4_3 : Int32), J4 n4 x4_2 x4_3 → ((hi * wi) ≤ x4_3 → x4_2 = R) ∧ (¬ (hi * wi) ≤ x4_3 → vp_in x4_3 20 ∧ ((∀ (v28 : Int32), v28 = (if (str x4_3.toNatClampNeg) = strong then (1 : Int32) else (0 : Int32)) → ∃ k1 : Nat, k1 < n4 ∧ J4 k1 (x4_2 + v28) (x4_3 + 1))))) :
    MF l G yX2_count cX2_count 4 (some .int) rm_X2_count [.ref i0, .int strong] [(i0, .inr (2, [.ref i1, .int hi, .int wi, .int fr, .int fc, .int lc])), (i1, .inl (G.2.1, 20, .inl str))] (some (.int R)) [(i0, .inr (2, [.ref i1, .int hi, .int wi, .int fr, .int fc, .int lc])), (i1, .inl (G.2.1, 20, .inl str))] := by
  refine MF.of (by decide +kernel) (Nat.le_of_ble_eq_true rfl) ?_
  intro p e s m args below meth c A ls fx hh hl _
  have hx := fx.hx
  have hb := fx.hb
  have hl : lv_has ls 4 [(0, .ref i0), (1, .int strong)] := hl
  obtain ⟨Q, hQ⟩ : ∃ Q, Q = ZZ G A (some (.int R)) [(i0, .inr (2, [.ref i1, .int hi, .int wi, .int fr, .int fc, .int lc])), (i1, .inl (G.2.1, 20, .inl str))] below args s := ⟨_, rfl⟩
  rw [← hQ]
  have lp4 : ∀ (n4 : Nat) (x4_2 : Int32) (x4_3 : Int32), J4 n4 x4_2 x4_3 → ∀ (H : Heap) (locs : List Loc) (ls : Array Slot), HP G A [(i0, .inr (2, [.ref i1, .int hi, .int wi, .int fr, .int fc, .int lc])), (i1, .inl (G.2.1, 20, .inl str))] s H locs → lv_has ls 4 [(0, .ref i0), (1, .int strong), (2, .int x4_2), (3, .int x4_3)] → W p l e rm_X2_count s m args below meth c H locs 0 0 Q (F0 m 4 ls []) := by
    intro n4
    induction n4 using Nat.strongRecOn with
    | ind n4 ih4 =>
      intro x4_2 x4_3 hj4 H locs ls hh hl
      have hv := hv4 n4 x4_2 x4_3 hj4
      refine lv_iload_n (pc := 4) hx hb (dOk_at dX2_count 4 rfl) rfl (lv_at hl 3 rfl) ?_
      refine lv_aload_n (pc := 5) hx hb (dOk_at dX2_count 5 rfl) rfl (lv_at hl 0 rfl) ?_
      refine cl_V (pc := 6) (w' := [(i0, .inr (2, [.ref i1, .int hi, .int wi, .int fr, .int fc, .int lc])), (i1, .inl (G.2.1, 20, .inl str))]) (wr := [(i1, .inl (G.2.1, 20, .inl str))]) (rest := [.int x4_3]) fx hh hl.1 (h_X2_cells i0 i1 hi wi fr fc lc) yV_X2_cells tMX2_41 ⟨rfl, rfl, Nat.le_of_ble_eq_true rfl, Nat.le_of_ble_eq_true rfl⟩ 0 2 rfl rfl rfl [0] [1] [1, 0] rfl rfl rfl (by decide) (by decide) rfl rfl (Nat.le_of_ble_eq_true rfl) ⟨Nat.le_of_ble_eq_true rfl, Nat.le_of_ble_eq_true rfl⟩ (dOk_at dX2_count 6 rfl) (fun H locs hh => ?_)
      refine lv_icmp_ge (pc := 9) (tgt := 36) hx hb (dOk_at dX2_count 7 rfl) (by decide) (fun c9 => ?_) (fun c9 => ?_)
      · have hv := hv.1 c9
        refine lv_iload_n (pc := 36) hx hb (dOk_at dX2_count 22 rfl) rfl (lv_at hl 2 rfl) ?_
        have e0 := hv
        subst e0
        rw [hQ]
        exact r_iret (pc := 37) fx hh (dOk_at dX2_count 23 rfl)
      · have hv := hv.2 c9
        refine lv_iload_n (pc := 12) hx hb (dOk_at dX2_count 8 rfl) rfl (lv_at hl 2 rfl) ?_
        refine lv_aload_n (pc := 13) hx hb (dOk_at dX2_count 9 rfl) rfl (lv_at hl 0 rfl) ?_
        refine r_get (pc := 14) (ci := 2) fx hh inT2 rfl 0 (by decide) tFX2_9 rfl 0 rfl rfl (dOk_at dX2_count 10 rfl) ?_
        refine lv_iload_n (pc := 17) hx hb (dOk_at dX2_count 11 rfl) rfl (lv_at hl 3 rfl) ?_
        refine r_iald (pc := 18) fx hh 1 rfl hv.1 (dOk_at dX2_count 12 rfl) ?_
        have hv := hv.2
        refine lv_iload_n (pc := 19) hx hb (dOk_at dX2_count 13 rfl) rfl (lv_at hl 1 rfl) ?_
        have k28_20 : ∀ (v28 : Int32), v28 = (if (str x4_3.toNatClampNeg) = strong then (1 : Int32) else (0 : Int32)) → ∀ (H : Heap) (locs : List Loc) (ls : Array Slot), HP G A [(i0, .inr (2, [.ref i1, .int hi, .int wi, .int fr, .int fc, .int lc])), (i1, .inl (G.2.1, 20, .inl str))] s H locs → lv_has ls 4 [(0, .ref i0), (1, .int strong), (3, .int x4_3)] → W p l e rm_X2_count s m args below meth c H locs 0 0 Q (F0 m 28 ls [.int v28, .int x4_2]) := by
          intro v28 e28_0 H locs ls hh hl
          have hv := hv v28 e28_0
          refine lv_iadd (pc := 28) hx hb (dOk_at dX2_count 18 rfl) ?_
          refine lv_istore_n (pc := 29) (lv' := [(2, .int (x4_2 + v28)), (0, .ref i0), (1, .int strong), (3, .int x4_3)]) hx hb (dOk_at dX2_count 19 rfl) rfl hl (by decide) rfl (fun ls hl => ?_)
          refine lv_iinc (pc := 30) (v := x4_3 + 1) (lv' := [(3, .int (x4_3 + 1)), (2, .int (x4_2 + v28)), (0, .ref i0), (1, .int strong)]) hx hb (dOk_at dX2_count 20 rfl) hl (k := 3) rfl rfl (by decide) rfl (fun ls hl => ?_)
          refine lv_goto (pc := 33) (tgt := 4) hx hb (dOk_at dX2_count 21 rfl) (by decide) ?_
          obtain ⟨k0, hk0, hj0⟩ := hv
          exact ih4 k0 hk0 (x4_2 + v28) (x4_3 + 1) hj0 _ _ _ hh (lv_sub hl [2, 3, 1, 0] rfl)
        refine lv_icmp_ne (pc := 20) (tgt := 27) hx hb (dOk_at dX2_count 14 rfl) (by decide) (fun c20 => ?_) (fun c20 => ?_)
        · refine lv_iconst (pc := 27) (v := 0) hx hb (dOk_at dX2_count 17 rfl) (by decide) ?_
          exact k28_20 _ (if_neg c20).symm _ _ _ hh (lv_sub hl [0, 1, 3] rfl)
        · refine lv_iconst (pc := 23) (v := 1) hx hb (dOk_at dX2_count 15 rfl) (by decide) ?_
          refine lv_goto (pc := 24) (tgt := 28) hx hb (dOk_at dX2_count 16 rfl) (by decide) ?_
          exact k28_20 _ (if_pos c20).symm _ _ _ hh (lv_sub hl [0, 1, 3] rfl)
  refine lv_iconst (pc := 0) (v := 0) hx hb (dOk_at dX2_count 0 rfl) (by decide) ?_
  refine lv_istore_n (pc := 1) (lv' := [(2, .int 0), (0, .ref i0), (1, .int strong)]) hx hb (dOk_at dX2_count 1 rfl) rfl hl (by decide) rfl (fun ls hl => ?_)
  refine lv_iconst (pc := 2) (v := 0) hx hb (dOk_at dX2_count 2 rfl) (by decide) ?_
  refine lv_istore_n (pc := 3) (lv' := [(3, .int 0), (2, .int 0), (0, .ref i0), (1, .int strong)]) hx hb (dOk_at dX2_count 3 rfl) rfl hl (by decide) rfl (fun ls hl => ?_)
  obtain ⟨k0, hj0⟩ := hv
  exact lp4 k0 0 0 hj0 _ _ _ hh (lv_sub hl [2, 3, 1, 0] rfl)
set_option maxRecDepth 100000 in
set_option maxHeartbeats 4000000 in
theorem wk_X2_bearing (l : Launch) (G : GT) (i0 : Nat) (i1 : Nat) (hi : Int32) (wi : Int32) (fr : Int32) (fc : Int32) (lc : Int32) (load : Int32) (days : Int32) (str : Nat → Int32) (R : Int32) (J5 : Nat → Int32 → Int32 → Prop) (h_X2_cells : K_X2_cells l G)
    (hv : ∃ k2 : Nat, J5 k2 0 0)
    (hv5 : ∀ (n5 : Nat) (x5_3 : Int32) (x5_4 : Int32), J5 n5 x5_3 x5_4 → ((hi * wi) ≤ x5_4 → x5_3 = R) ∧ (¬ (hi * wi) ≤ x5_4 → vp_in x5_4 20 ∧ ((∀ (v36 : Int32), v36 = (if ((str x5_4.toNatClampNeg) - days) < load then (0 : Int32) else (1 : Int32) <<< (x5_4 &&& 31)) → ∃ k1 : Nat, k1 < n5 ∧ J5 k1 (x5_3 ||| v36) (x5_4 + 1))))) :
    MF l G yX2_bearing cX2_bearing 5 (some .int) rm_X2_bearing [.ref i0, .int load, .int days] [(i0, .inr (2, [.ref i1, .int hi, .int wi, .int fr, .int fc, .int lc])), (i1, .inl (G.2.1, 20, .inl str))] (some (.int R)) [(i0, .inr (2, [.ref i1, .int hi, .int wi, .int fr, .int fc, .int lc])), (i1, .inl (G.2.1, 20, .inl str))] := by
  refine MF.of (by decide +kernel) (Nat.le_of_ble_eq_true rfl) ?_
  intro p e s m args below meth c A ls fx hh hl _
  have hx := fx.hx
  have hb := fx.hb
  have hl : lv_has ls 5 [(0, .ref i0), (1, .int load), (2, .int days)] := hl
  obtain ⟨Q, hQ⟩ : ∃ Q, Q = ZZ G A (some (.int R)) [(i0, .inr (2, [.ref i1, .int hi, .int wi, .int fr, .int fc, .int lc])), (i1, .inl (G.2.1, 20, .inl str))] below args s := ⟨_, rfl⟩
  rw [← hQ]
  have lp5 : ∀ (n5 : Nat) (x5_3 : Int32) (x5_4 : Int32), J5 n5 x5_3 x5_4 → ∀ (H : Heap) (locs : List Loc) (ls : Array Slot), HP G A [(i0, .inr (2, [.ref i1, .int hi, .int wi, .int fr, .int fc, .int lc])), (i1, .inl (G.2.1, 20, .inl str))] s H locs → lv_has ls 5 [(0, .ref i0), (1, .int load), (2, .int days), (3, .int x5_3), (4, .int x5_4)] → W p l e rm_X2_bearing s m args below meth c H locs 0 0 Q (F0 m 5 ls []) := by
    intro n5
    induction n5 using Nat.strongRecOn with
    | ind n5 ih5 =>
      intro x5_3 x5_4 hj5 H locs ls hh hl
      have hv := hv5 n5 x5_3 x5_4 hj5
      refine lv_iload (pc := 5) hx hb (dOk_at dX2_bearing 4 rfl) (lv_at hl 4 rfl) ?_
      refine lv_aload_n (pc := 7) hx hb (dOk_at dX2_bearing 5 rfl) rfl (lv_at hl 0 rfl) ?_
      refine cl_V (pc := 8) (w' := [(i0, .inr (2, [.ref i1, .int hi, .int wi, .int fr, .int fc, .int lc])), (i1, .inl (G.2.1, 20, .inl str))]) (wr := [(i1, .inl (G.2.1, 20, .inl str))]) (rest := [.int x5_4]) fx hh hl.1 (h_X2_cells i0 i1 hi wi fr fc lc) yV_X2_cells tMX2_41 ⟨rfl, rfl, Nat.le_of_ble_eq_true rfl, Nat.le_of_ble_eq_true rfl⟩ 0 2 rfl rfl rfl [0] [1] [1, 0] rfl rfl rfl (by decide) (by decide) rfl rfl (Nat.le_of_ble_eq_true rfl) ⟨Nat.le_of_ble_eq_true rfl, Nat.le_of_ble_eq_true rfl⟩ (dOk_at dX2_bearing 6 rfl) (fun H locs hh => ?_)
      refine lv_icmp_ge (pc := 11) (tgt := 44) hx hb (dOk_at dX2_bearing 7 rfl) (by decide) (fun c11 => ?_) (fun c11 => ?_)
      · have hv := hv.1 c11
        refine lv_iload_n (pc := 44) hx hb (dOk_at dX2_bearing 26 rfl) rfl (lv_at hl 3 rfl) ?_
        have e0 := hv
        subst e0
        rw [hQ]
        exact r_iret (pc := 45) fx hh (dOk_at dX2_bearing 27 rfl)
      · have hv := hv.2 c11
        refine lv_iload_n (pc := 14) hx hb (dOk_at dX2_bearing 8 rfl) rfl (lv_at hl 3 rfl) ?_
        refine lv_iload_n (pc := 15) hx hb (dOk_at dX2_bearing 9 rfl) rfl (lv_at hl 1 rfl) ?_
        refine lv_aload_n (pc := 16) hx hb (dOk_at dX2_bearing 10 rfl) rfl (lv_at hl 0 rfl) ?_
        refine r_get (pc := 17) (ci := 2) fx hh inT2 rfl 0 (by decide) tFX2_9 rfl 0 rfl rfl (dOk_at dX2_bearing 11 rfl) ?_
        refine lv_iload (pc := 20) hx hb (dOk_at dX2_bearing 12 rfl) (lv_at hl 4 rfl) ?_
        refine r_iald (pc := 22) fx hh 1 rfl hv.1 (dOk_at dX2_bearing 13 rfl) ?_
        have hv := hv.2
        refine lv_iload_n (pc := 23) hx hb (dOk_at dX2_bearing 14 rfl) rfl (lv_at hl 2 rfl) ?_
        refine lv_isub (pc := 24) hx hb (dOk_at dX2_bearing 15 rfl) ?_
        have k36_25 : ∀ (v36 : Int32), v36 = (if ((str x5_4.toNatClampNeg) - days) < load then (0 : Int32) else (1 : Int32) <<< (x5_4 &&& 31)) → ∀ (H : Heap) (locs : List Loc) (ls : Array Slot), HP G A [(i0, .inr (2, [.ref i1, .int hi, .int wi, .int fr, .int fc, .int lc])), (i1, .inl (G.2.1, 20, .inl str))] s H locs → lv_has ls 5 [(0, .ref i0), (1, .int load), (2, .int days), (4, .int x5_4)] → W p l e rm_X2_bearing s m args below meth c H locs 0 0 Q (F0 m 36 ls [.int v36, .int x5_3]) := by
          intro v36 e36_0 H locs ls hh hl
          have hv := hv v36 e36_0
          refine lv_ior (pc := 36) hx hb (dOk_at dX2_bearing 22 rfl) ?_
          refine lv_istore_n (pc := 37) (lv' := [(3, .int (x5_3 ||| v36)), (0, .ref i0), (1, .int load), (2, .int days), (4, .int x5_4)]) hx hb (dOk_at dX2_bearing 23 rfl) rfl hl (by decide) rfl (fun ls hl => ?_)
          refine lv_iinc (pc := 38) (v := x5_4 + 1) (lv' := [(4, .int (x5_4 + 1)), (3, .int (x5_3 ||| v36)), (0, .ref i0), (1, .int load), (2, .int days)]) hx hb (dOk_at dX2_bearing 24 rfl) hl (k := 4) rfl rfl (by decide) rfl (fun ls hl => ?_)
          refine lv_goto (pc := 41) (tgt := 5) hx hb (dOk_at dX2_bearing 25 rfl) (by decide) ?_
          obtain ⟨k0, hk0, hj0⟩ := hv
          exact ih5 k0 hk0 (x5_3 ||| v36) (x5_4 + 1) hj0 _ _ _ hh (lv_sub hl [2, 3, 4, 1, 0] rfl)
        refine lv_icmp_gt (pc := 25) (tgt := 35) hx hb (dOk_at dX2_bearing 16 rfl) (by decide) (fun c25 => ?_) (fun c25 => ?_)
        · refine lv_iconst (pc := 35) (v := 0) hx hb (dOk_at dX2_bearing 21 rfl) (by decide) ?_
          exact k36_25 _ (if_pos c25).symm _ _ _ hh (lv_sub hl [0, 1, 2, 4] rfl)
        · refine lv_iconst (pc := 28) (v := 1) hx hb (dOk_at dX2_bearing 17 rfl) (by decide) ?_
          refine lv_iload (pc := 29) hx hb (dOk_at dX2_bearing 18 rfl) (lv_at hl 4 rfl) ?_
          refine lv_ishl (pc := 31) hx hb (dOk_at dX2_bearing 19 rfl) ?_
          refine lv_goto (pc := 32) (tgt := 36) hx hb (dOk_at dX2_bearing 20 rfl) (by decide) ?_
          exact k36_25 _ (if_neg c25).symm _ _ _ hh (lv_sub hl [0, 1, 2, 4] rfl)
  refine lv_iconst (pc := 0) (v := 0) hx hb (dOk_at dX2_bearing 0 rfl) (by decide) ?_
  refine lv_istore_n (pc := 1) (lv' := [(3, .int 0), (0, .ref i0), (1, .int load), (2, .int days)]) hx hb (dOk_at dX2_bearing 1 rfl) rfl hl (by decide) rfl (fun ls hl => ?_)
  refine lv_iconst (pc := 2) (v := 0) hx hb (dOk_at dX2_bearing 2 rfl) (by decide) ?_
  refine lv_istore (pc := 3) (lv' := [(4, .int 0), (3, .int 0), (0, .ref i0), (1, .int load), (2, .int days)]) hx hb (dOk_at dX2_bearing 3 rfl) hl (by decide) rfl (fun ls hl => ?_)
  obtain ⟨k0, hj0⟩ := hv
  exact lp5 k0 0 0 hj0 _ _ _ hh (lv_sub hl [2, 3, 4, 1, 0] rfl)
set_option maxRecDepth 100000 in
set_option maxHeartbeats 4000000 in
theorem wk_X2_led (l : Launch) (G : GT) (i0 : Nat) (i1 : Nat) (hi : Int32) (wi : Int32) (fr : Int32) (fc : Int32) (lc : Int32) (ce : Int32) (stroke : Int32) (R : Int32) (h_X2_cells : K_X2_cells l G) (h_X6_isIn : K_X6_isIn l G)
    (hv : (stroke = 0 → (ce < wi → (-9 : Int32) = R) ∧ (¬ ce < wi → (ce - wi) = R)) ∧ (¬ stroke = 0 → (stroke = 1 → ((s_isIn lc ce) = 0 → (ce + 1) = R) ∧ (¬ (s_isIn lc ce) = 0 → (-9 : Int32) = R)) ∧ (¬ stroke = 1 → (stroke = 2 → ((hi * wi) ≤ (ce + wi) → (-9 : Int32) = R) ∧ (¬ (hi * wi) ≤ (ce + wi) → (ce + wi) = R)) ∧ (¬ stroke = 2 → (stroke = 3 → ((s_isIn fc ce) = 0 → (ce - 1) = R) ∧ (¬ (s_isIn fc ce) = 0 → (-9 : Int32) = R)) ∧ (¬ stroke = 3 → (-9 : Int32) = R))))) :
    MF l G yX2_led cX2_led 3 (some .int) rm_X2_led [.ref i0, .int ce, .int stroke] [(i0, .inr (2, [.ref i1, .int hi, .int wi, .int fr, .int fc, .int lc]))] (some (.int R)) [(i0, .inr (2, [.ref i1, .int hi, .int wi, .int fr, .int fc, .int lc]))] := by
  refine MF.of (by decide +kernel) (Nat.le_of_ble_eq_true rfl) ?_
  intro p e s m args below meth c A ls fx hh hl _
  have hx := fx.hx
  have hb := fx.hb
  have hl : lv_has ls 3 [(0, .ref i0), (1, .int ce), (2, .int stroke)] := hl
  obtain ⟨Q, hQ⟩ : ∃ Q, Q = ZZ G A (some (.int R)) [(i0, .inr (2, [.ref i1, .int hi, .int wi, .int fr, .int fc, .int lc]))] below args s := ⟨_, rfl⟩
  rw [← hQ]
  refine lv_iload_n (pc := 0) hx hb (dOk_at dX2_led 0 rfl) rfl (lv_at hl 2 rfl) ?_
  by_cases c1_0 : stroke = 0
  · refine lv_tableIn (pc := 1) (tgt := 32) (off := 31) hx hb (dOk_at dX2_led 1 rfl) (by rw [c1_0]; decide) (by rw [c1_0]; decide) (by rw [c1_0]; rfl) (by decide) ?_
    have hv := hv.1 c1_0
    refine lv_iload_n (pc := 32) hx hb (dOk_at dX2_led 2 rfl) rfl (lv_at hl 1 rfl) ?_
    refine lv_aload_n (pc := 33) hx hb (dOk_at dX2_led 3 rfl) rfl (lv_at hl 0 rfl) ?_
    refine r_get (pc := 34) (ci := 2) fx hh inT2 rfl 2 (by decide) tFX2_19 rfl 0 rfl rfl (dOk_at dX2_led 4 rfl) ?_
    refine lv_icmp_lt (pc := 37) (tgt := 49) hx hb (dOk_at dX2_led 5 rfl) (by decide) (fun c37 => ?_) (fun c37 => ?_)
    · have hv := hv.1 c37
      refine lv_bipush (pc := 49) (v := (-9)) hx hb (dOk_at dX2_led 11 rfl) (by decide) ?_
      have e0 := hv
      subst e0
      rw [hQ]
      exact r_iret (pc := 51) fx hh (dOk_at dX2_led 12 rfl)
    · have hv := hv.2 c37
      refine lv_iload_n (pc := 40) hx hb (dOk_at dX2_led 6 rfl) rfl (lv_at hl 1 rfl) ?_
      refine lv_aload_n (pc := 41) hx hb (dOk_at dX2_led 7 rfl) rfl (lv_at hl 0 rfl) ?_
      refine r_get (pc := 42) (ci := 2) fx hh inT2 rfl 2 (by decide) tFX2_19 rfl 0 rfl rfl (dOk_at dX2_led 8 rfl) ?_
      refine lv_isub (pc := 45) hx hb (dOk_at dX2_led 9 rfl) ?_
      refine lv_goto (pc := 46) (tgt := 51) hx hb (dOk_at dX2_led 10 rfl) (by decide) ?_
      have e0 := hv
      subst e0
      rw [hQ]
      exact r_iret (pc := 51) fx hh (dOk_at dX2_led 12 rfl)
  · have hv := hv.2 c1_0
    by_cases c1_1 : stroke = 1
    · refine lv_tableIn (pc := 1) (tgt := 52) (off := 51) hx hb (dOk_at dX2_led 1 rfl) (by rw [c1_1]; decide) (by rw [c1_1]; decide) (by rw [c1_1]; rfl) (by decide) ?_
      have hv := hv.1 c1_1
      refine lv_aload_n (pc := 52) hx hb (dOk_at dX2_led 13 rfl) rfl (lv_at hl 0 rfl) ?_
      refine r_get (pc := 53) (ci := 2) fx hh inT2 rfl 5 (by decide) tFX2_28 rfl 0 rfl rfl (dOk_at dX2_led 14 rfl) ?_
      refine lv_iload_n (pc := 56) hx hb (dOk_at dX2_led 15 rfl) rfl (lv_at hl 1 rfl) ?_
      refine cl_SN (pc := 57) (w' := [(i0, .inr (2, [.ref i1, .int hi, .int wi, .int fr, .int fc, .int lc]))]) (wr := [(i0, .inr (2, [.ref i1, .int hi, .int wi, .int fr, .int fc, .int lc]))]) (rest := []) fx hh hl.1 (h_X6_isIn lc ce) yS_X6_isIn nMX2_57 ⟨rfl, rfl, Nat.le_of_ble_eq_true rfl, Nat.le_of_ble_eq_true rfl⟩ [] [0] [0] rfl rfl rfl (by decide) (by decide) rfl rfl (Nat.le_of_ble_eq_true rfl) ⟨Nat.le_of_ble_eq_true rfl, Nat.le_of_ble_eq_true rfl⟩ (dOk_at dX2_led 16 rfl) (fun H locs hh => ?_)
      refine lv_if_eq (pc := 60) (tgt := 68) hx hb (dOk_at dX2_led 17 rfl) (by decide) (fun c60 => ?_) (fun c60 => ?_)
      · have hv := hv.1 c60
        refine lv_iload_n (pc := 68) hx hb (dOk_at dX2_led 20 rfl) rfl (lv_at hl 1 rfl) ?_
        refine lv_iconst (pc := 69) (v := 1) hx hb (dOk_at dX2_led 21 rfl) (by decide) ?_
        refine lv_iadd (pc := 70) hx hb (dOk_at dX2_led 22 rfl) ?_
        have e0 := hv
        subst e0
        rw [hQ]
        exact r_iret (pc := 71) fx hh (dOk_at dX2_led 23 rfl)
      · have hv := hv.2 c60
        refine lv_bipush (pc := 63) (v := (-9)) hx hb (dOk_at dX2_led 18 rfl) (by decide) ?_
        refine lv_goto (pc := 65) (tgt := 71) hx hb (dOk_at dX2_led 19 rfl) (by decide) ?_
        have e0 := hv
        subst e0
        rw [hQ]
        exact r_iret (pc := 71) fx hh (dOk_at dX2_led 23 rfl)
    · have hv := hv.2 c1_1
      by_cases c1_2 : stroke = 2
      · refine lv_tableIn (pc := 1) (tgt := 72) (off := 71) hx hb (dOk_at dX2_led 1 rfl) (by rw [c1_2]; decide) (by rw [c1_2]; decide) (by rw [c1_2]; rfl) (by decide) ?_
        have hv := hv.1 c1_2
        refine lv_iload_n (pc := 72) hx hb (dOk_at dX2_led 24 rfl) rfl (lv_at hl 1 rfl) ?_
        refine lv_aload_n (pc := 73) hx hb (dOk_at dX2_led 25 rfl) rfl (lv_at hl 0 rfl) ?_
        refine r_get (pc := 74) (ci := 2) fx hh inT2 rfl 2 (by decide) tFX2_19 rfl 0 rfl rfl (dOk_at dX2_led 26 rfl) ?_
        refine lv_iadd (pc := 77) hx hb (dOk_at dX2_led 27 rfl) ?_
        refine lv_aload_n (pc := 78) hx hb (dOk_at dX2_led 28 rfl) rfl (lv_at hl 0 rfl) ?_
        refine cl_V (pc := 79) (w' := [(i0, .inr (2, [.ref i1, .int hi, .int wi, .int fr, .int fc, .int lc]))]) (wr := []) (rest := [.int (ce + wi)]) fx hh hl.1 (h_X2_cells i0 i1 hi wi fr fc lc) yV_X2_cells tMX2_41 ⟨rfl, rfl, Nat.le_of_ble_eq_true rfl, Nat.le_of_ble_eq_true rfl⟩ 0 2 rfl rfl rfl [0] [] [0] rfl rfl rfl (by decide) (by decide) rfl rfl (Nat.le_of_ble_eq_true rfl) ⟨Nat.le_of_ble_eq_true rfl, Nat.le_of_ble_eq_true rfl⟩ (dOk_at dX2_led 29 rfl) (fun H locs hh => ?_)
        refine lv_icmp_ge (pc := 82) (tgt := 94) hx hb (dOk_at dX2_led 30 rfl) (by decide) (fun c82 => ?_) (fun c82 => ?_)
        · have hv := hv.1 c82
          refine lv_bipush (pc := 94) (v := (-9)) hx hb (dOk_at dX2_led 36 rfl) (by decide) ?_
          have e0 := hv
          subst e0
          rw [hQ]
          exact r_iret (pc := 96) fx hh (dOk_at dX2_led 37 rfl)
        · have hv := hv.2 c82
          refine lv_iload_n (pc := 85) hx hb (dOk_at dX2_led 31 rfl) rfl (lv_at hl 1 rfl) ?_
          refine lv_aload_n (pc := 86) hx hb (dOk_at dX2_led 32 rfl) rfl (lv_at hl 0 rfl) ?_
          refine r_get (pc := 87) (ci := 2) fx hh inT2 rfl 2 (by decide) tFX2_19 rfl 0 rfl rfl (dOk_at dX2_led 33 rfl) ?_
          refine lv_iadd (pc := 90) hx hb (dOk_at dX2_led 34 rfl) ?_
          refine lv_goto (pc := 91) (tgt := 96) hx hb (dOk_at dX2_led 35 rfl) (by decide) ?_
          have e0 := hv
          subst e0
          rw [hQ]
          exact r_iret (pc := 96) fx hh (dOk_at dX2_led 37 rfl)
      · have hv := hv.2 c1_2
        by_cases c1_3 : stroke = 3
        · refine lv_tableIn (pc := 1) (tgt := 97) (off := 96) hx hb (dOk_at dX2_led 1 rfl) (by rw [c1_3]; decide) (by rw [c1_3]; decide) (by rw [c1_3]; rfl) (by decide) ?_
          have hv := hv.1 c1_3
          refine lv_aload_n (pc := 97) hx hb (dOk_at dX2_led 38 rfl) rfl (lv_at hl 0 rfl) ?_
          refine r_get (pc := 98) (ci := 2) fx hh inT2 rfl 4 (by decide) tFX2_25 rfl 0 rfl rfl (dOk_at dX2_led 39 rfl) ?_
          refine lv_iload_n (pc := 101) hx hb (dOk_at dX2_led 40 rfl) rfl (lv_at hl 1 rfl) ?_
          refine cl_SN (pc := 102) (w' := [(i0, .inr (2, [.ref i1, .int hi, .int wi, .int fr, .int fc, .int lc]))]) (wr := [(i0, .inr (2, [.ref i1, .int hi, .int wi, .int fr, .int fc, .int lc]))]) (rest := []) fx hh hl.1 (h_X6_isIn fc ce) yS_X6_isIn nMX2_57 ⟨rfl, rfl, Nat.le_of_ble_eq_true rfl, Nat.le_of_ble_eq_true rfl⟩ [] [0] [0] rfl rfl rfl (by decide) (by decide) rfl rfl (Nat.le_of_ble_eq_true rfl) ⟨Nat.le_of_ble_eq_true rfl, Nat.le_of_ble_eq_true rfl⟩ (dOk_at dX2_led 41 rfl) (fun H locs hh => ?_)
          refine lv_if_eq (pc := 105) (tgt := 113) hx hb (dOk_at dX2_led 42 rfl) (by decide) (fun c105 => ?_) (fun c105 => ?_)
          · have hv := hv.1 c105
            refine lv_iload_n (pc := 113) hx hb (dOk_at dX2_led 45 rfl) rfl (lv_at hl 1 rfl) ?_
            refine lv_iconst (pc := 114) (v := 1) hx hb (dOk_at dX2_led 46 rfl) (by decide) ?_
            refine lv_isub (pc := 115) hx hb (dOk_at dX2_led 47 rfl) ?_
            have e0 := hv
            subst e0
            rw [hQ]
            exact r_iret (pc := 116) fx hh (dOk_at dX2_led 48 rfl)
          · have hv := hv.2 c105
            refine lv_bipush (pc := 108) (v := (-9)) hx hb (dOk_at dX2_led 43 rfl) (by decide) ?_
            refine lv_goto (pc := 110) (tgt := 116) hx hb (dOk_at dX2_led 44 rfl) (by decide) ?_
            have e0 := hv
            subst e0
            rw [hQ]
            exact r_iret (pc := 116) fx hh (dOk_at dX2_led 48 rfl)
        · have hv := hv.2 c1_3
          refine lv_tableOut (pc := 1) (tgt := 117) hx hb (dOk_at dX2_led 1 rfl) (by have w0 := sw_ne c1_0 (b := 0) (by decide); have w1 := sw_ne c1_1 (b := 1) (by decide); have w2 := sw_ne c1_2 (b := 2) (by decide); have w3 := sw_ne c1_3 (b := 3) (by decide); omega) (by decide) ?_
          refine lv_bipush (pc := 117) (v := (-9)) hx hb (dOk_at dX2_led 49 rfl) (by decide) ?_
          have e0 := hv
          subst e0
          rw [hQ]
          exact r_iret (pc := 119) fx hh (dOk_at dX2_led 50 rfl)
set_option maxRecDepth 100000 in
set_option maxHeartbeats 4000000 in
theorem wk_X2_nextTo (l : Launch) (G : GT) (i0 : Nat) (i1 : Nat) (hi : Int32) (wi : Int32) (fr : Int32) (fc : Int32) (lc : Int32) (set : Int32) (R : Int32) (h_X2_all : K_X2_all l G)
    (hv : (((((set &&& (lc ^^^ (-1))) <<< (1 &&& 31)) ||| ((set &&& (fc ^^^ (-1))) >>> (1 &&& 31))) ||| ((set <<< (wi &&& 31)) ||| (set >>> (wi &&& 31)))) &&& (s_all hi wi)) = R) :
    MF l G yX2_nextTo cX2_nextTo 4 (some .int) rm_X2_nextTo [.ref i0, .int set] [(i0, .inr (2, [.ref i1, .int hi, .int wi, .int fr, .int fc, .int lc]))] (some (.int R)) [(i0, .inr (2, [.ref i1, .int hi, .int wi, .int fr, .int fc, .int lc]))] := by
  refine MF.of (by decide +kernel) (Nat.le_of_ble_eq_true rfl) ?_
  intro p e s m args below meth c A ls fx hh hl _
  have hx := fx.hx
  have hb := fx.hb
  have hl : lv_has ls 4 [(0, .ref i0), (1, .int set)] := hl
  obtain ⟨Q, hQ⟩ : ∃ Q, Q = ZZ G A (some (.int R)) [(i0, .inr (2, [.ref i1, .int hi, .int wi, .int fr, .int fc, .int lc]))] below args s := ⟨_, rfl⟩
  rw [← hQ]
  refine lv_iload_n (pc := 0) hx hb (dOk_at dX2_nextTo 0 rfl) rfl (lv_at hl 1 rfl) ?_
  refine lv_aload_n (pc := 1) hx hb (dOk_at dX2_nextTo 1 rfl) rfl (lv_at hl 0 rfl) ?_
  refine r_get (pc := 2) (ci := 2) fx hh inT2 rfl 5 (by decide) tFX2_28 rfl 0 rfl rfl (dOk_at dX2_nextTo 2 rfl) ?_
  refine lv_iconst (pc := 5) (v := (-1)) hx hb (dOk_at dX2_nextTo 3 rfl) (by decide) ?_
  refine lv_ixor (pc := 6) hx hb (dOk_at dX2_nextTo 4 rfl) ?_
  refine lv_iand (pc := 7) hx hb (dOk_at dX2_nextTo 5 rfl) ?_
  refine lv_iconst (pc := 8) (v := 1) hx hb (dOk_at dX2_nextTo 6 rfl) (by decide) ?_
  refine lv_ishl (pc := 9) hx hb (dOk_at dX2_nextTo 7 rfl) ?_
  refine lv_iload_n (pc := 10) hx hb (dOk_at dX2_nextTo 8 rfl) rfl (lv_at hl 1 rfl) ?_
  refine lv_aload_n (pc := 11) hx hb (dOk_at dX2_nextTo 9 rfl) rfl (lv_at hl 0 rfl) ?_
  refine r_get (pc := 12) (ci := 2) fx hh inT2 rfl 4 (by decide) tFX2_25 rfl 0 rfl rfl (dOk_at dX2_nextTo 10 rfl) ?_
  refine lv_iconst (pc := 15) (v := (-1)) hx hb (dOk_at dX2_nextTo 11 rfl) (by decide) ?_
  refine lv_ixor (pc := 16) hx hb (dOk_at dX2_nextTo 12 rfl) ?_
  refine lv_iand (pc := 17) hx hb (dOk_at dX2_nextTo 13 rfl) ?_
  refine lv_iconst (pc := 18) (v := 1) hx hb (dOk_at dX2_nextTo 14 rfl) (by decide) ?_
  refine lv_ishr (pc := 19) hx hb (dOk_at dX2_nextTo 15 rfl) ?_
  refine lv_ior (pc := 20) hx hb (dOk_at dX2_nextTo 16 rfl) ?_
  refine lv_istore_n (pc := 21) (lv' := [(2, .int (((set &&& (lc ^^^ (-1))) <<< (1 &&& 31)) ||| ((set &&& (fc ^^^ (-1))) >>> (1 &&& 31)))), (0, .ref i0), (1, .int set)]) hx hb (dOk_at dX2_nextTo 17 rfl) rfl hl (by decide) rfl (fun ls hl => ?_)
  refine lv_iload_n (pc := 22) hx hb (dOk_at dX2_nextTo 18 rfl) rfl (lv_at hl 2 rfl) ?_
  refine lv_aload_n (pc := 23) hx hb (dOk_at dX2_nextTo 19 rfl) rfl (lv_at hl 1 rfl) ?_
  refine r_get (pc := 24) (ci := 2) fx hh inT2 rfl 2 (by decide) tFX2_19 rfl 0 rfl rfl (dOk_at dX2_nextTo 20 rfl) ?_
  refine lv_ishl (pc := 27) hx hb (dOk_at dX2_nextTo 21 rfl) ?_
  refine lv_iload_n (pc := 28) hx hb (dOk_at dX2_nextTo 22 rfl) rfl (lv_at hl 2 rfl) ?_
  refine lv_aload_n (pc := 29) hx hb (dOk_at dX2_nextTo 23 rfl) rfl (lv_at hl 1 rfl) ?_
  refine r_get (pc := 30) (ci := 2) fx hh inT2 rfl 2 (by decide) tFX2_19 rfl 0 rfl rfl (dOk_at dX2_nextTo 24 rfl) ?_
  refine lv_ishr (pc := 33) hx hb (dOk_at dX2_nextTo 25 rfl) ?_
  refine lv_ior (pc := 34) hx hb (dOk_at dX2_nextTo 26 rfl) ?_
  refine lv_istore_n (pc := 35) (lv' := [(3, .int ((set <<< (wi &&& 31)) ||| (set >>> (wi &&& 31)))), (2, .int (((set &&& (lc ^^^ (-1))) <<< (1 &&& 31)) ||| ((set &&& (fc ^^^ (-1))) >>> (1 &&& 31)))), (0, .ref i0), (1, .int set)]) hx hb (dOk_at dX2_nextTo 27 rfl) rfl hl (by decide) rfl (fun ls hl => ?_)
  refine lv_iload_n (pc := 36) hx hb (dOk_at dX2_nextTo 28 rfl) rfl (lv_at hl 1 rfl) ?_
  refine lv_iload_n (pc := 37) hx hb (dOk_at dX2_nextTo 29 rfl) rfl (lv_at hl 0 rfl) ?_
  refine lv_ior (pc := 38) hx hb (dOk_at dX2_nextTo 30 rfl) ?_
  refine lv_aload_n (pc := 39) hx hb (dOk_at dX2_nextTo 31 rfl) rfl (lv_at hl 2 rfl) ?_
  refine cl_V (pc := 40) (w' := [(i0, .inr (2, [.ref i1, .int hi, .int wi, .int fr, .int fc, .int lc]))]) (wr := []) (rest := [.int ((((set &&& (lc ^^^ (-1))) <<< (1 &&& 31)) ||| ((set &&& (fc ^^^ (-1))) >>> (1 &&& 31))) ||| ((set <<< (wi &&& 31)) ||| (set >>> (wi &&& 31))))]) fx hh hl.1 (h_X2_all i0 i1 hi wi fr fc lc) yV_X2_all tMX2_61 ⟨rfl, rfl, Nat.le_of_ble_eq_true rfl, Nat.le_of_ble_eq_true rfl⟩ 0 2 rfl rfl rfl [0] [] [0] rfl rfl rfl (by decide) (by decide) rfl rfl (Nat.le_of_ble_eq_true rfl) ⟨Nat.le_of_ble_eq_true rfl, Nat.le_of_ble_eq_true rfl⟩ (dOk_at dX2_nextTo 32 rfl) (fun H locs hh => ?_)
  refine lv_iand (pc := 43) hx hb (dOk_at dX2_nextTo 33 rfl) ?_
  have e0 := hv
  subst e0
  rw [hQ]
  exact r_iret (pc := 44) fx hh (dOk_at dX2_nextTo 34 rfl)
set_option maxRecDepth 100000 in
set_option maxHeartbeats 4000000 in
theorem wk_X2_reach (l : Launch) (G : GT) (i0 : Nat) (i1 : Nat) (hi : Int32) (wi : Int32) (fr : Int32) (fc : Int32) (lc : Int32) (fro : Int32) (bears : Int32) (R : Int32) (J7 : Nat → Int32 → Int32 → Prop) (h_X2_nextTo : K_X2_nextTo l G)
    (hv : ∃ k2 : Nat, J7 k2 ((1 : Int32) <<< (fro &&& 31)) 1)
    (hv7 : ∀ (n7 : Nat) (x7_3 : Int32) (x7_4 : Int32), J7 n7 x7_3 x7_4 → (20 ≤ x7_4 → x7_3 = R) ∧ (¬ 20 ≤ x7_4 → ∃ k1 : Nat, k1 < n7 ∧ J7 k1 (x7_3 ||| ((s_next hi wi fc lc x7_3) &&& bears)) (x7_4 + 1))) :
    MF l G yX2_reach cX2_reach 5 (some .int) rm_X2_reach [.ref i0, .int fro, .int bears] [(i0, .inr (2, [.ref i1, .int hi, .int wi, .int fr, .int fc, .int lc]))] (some (.int R)) [(i0, .inr (2, [.ref i1, .int hi, .int wi, .int fr, .int fc, .int lc]))] := by
  refine MF.of (by decide +kernel) (Nat.le_of_ble_eq_true rfl) ?_
  intro p e s m args below meth c A ls fx hh hl _
  have hx := fx.hx
  have hb := fx.hb
  have hl : lv_has ls 5 [(0, .ref i0), (1, .int fro), (2, .int bears)] := hl
  obtain ⟨Q, hQ⟩ : ∃ Q, Q = ZZ G A (some (.int R)) [(i0, .inr (2, [.ref i1, .int hi, .int wi, .int fr, .int fc, .int lc]))] below args s := ⟨_, rfl⟩
  rw [← hQ]
  have lp7 : ∀ (n7 : Nat) (x7_3 : Int32) (x7_4 : Int32), J7 n7 x7_3 x7_4 → ∀ (H : Heap) (locs : List Loc) (ls : Array Slot), HP G A [(i0, .inr (2, [.ref i1, .int hi, .int wi, .int fr, .int fc, .int lc]))] s H locs → lv_has ls 5 [(0, .ref i0), (2, .int bears), (3, .int x7_3), (4, .int x7_4)] → W p l e rm_X2_reach s m args below meth c H locs 0 0 Q (F0 m 7 ls []) := by
    intro n7
    induction n7 using Nat.strongRecOn with
    | ind n7 ih7 =>
      intro x7_3 x7_4 hj7 H locs ls hh hl
      have hv := hv7 n7 x7_3 x7_4 hj7
      refine lv_iload (pc := 7) hx hb (dOk_at dX2_reach 6 rfl) (lv_at hl 3 rfl) ?_
      refine lv_bipush (pc := 9) (v := 20) hx hb (dOk_at dX2_reach 7 rfl) (by decide) ?_
      refine lv_icmp_ge (pc := 11) (tgt := 30) hx hb (dOk_at dX2_reach 8 rfl) (by decide) (fun c11 => ?_) (fun c11 => ?_)
      · have hv := hv.1 c11
        refine lv_iload_n (pc := 30) hx hb (dOk_at dX2_reach 19 rfl) rfl (lv_at hl 2 rfl) ?_
        have e0 := hv
        subst e0
        rw [hQ]
        exact r_iret (pc := 31) fx hh (dOk_at dX2_reach 20 rfl)
      · have hv := hv.2 c11
        refine lv_iload_n (pc := 14) hx hb (dOk_at dX2_reach 9 rfl) rfl (lv_at hl 2 rfl) ?_
        refine lv_aload_n (pc := 15) hx hb (dOk_at dX2_reach 10 rfl) rfl (lv_at hl 0 rfl) ?_
        refine lv_iload_n (pc := 16) hx hb (dOk_at dX2_reach 11 rfl) rfl (lv_at hl 2 rfl) ?_
        refine cl_V (pc := 17) (w' := [(i0, .inr (2, [.ref i1, .int hi, .int wi, .int fr, .int fc, .int lc]))]) (wr := []) (rest := [.int x7_3]) fx hh hl.1 (h_X2_nextTo i0 i1 hi wi fr fc lc x7_3) yV_X2_nextTo tMX2_64 ⟨rfl, rfl, Nat.le_of_ble_eq_true rfl, Nat.le_of_ble_eq_true rfl⟩ 0 2 rfl rfl rfl [0] [] [0] rfl rfl rfl (by decide) (by decide) rfl rfl (Nat.le_of_ble_eq_true rfl) ⟨Nat.le_of_ble_eq_true rfl, Nat.le_of_ble_eq_true rfl⟩ (dOk_at dX2_reach 12 rfl) (fun H locs hh => ?_)
        refine lv_iload_n (pc := 20) hx hb (dOk_at dX2_reach 13 rfl) rfl (lv_at hl 1 rfl) ?_
        refine lv_iand (pc := 21) hx hb (dOk_at dX2_reach 14 rfl) ?_
        refine lv_ior (pc := 22) hx hb (dOk_at dX2_reach 15 rfl) ?_
        refine lv_istore_n (pc := 23) (lv' := [(3, .int (x7_3 ||| ((s_next hi wi fc lc x7_3) &&& bears))), (0, .ref i0), (2, .int bears), (4, .int x7_4)]) hx hb (dOk_at dX2_reach 16 rfl) rfl hl (by decide) rfl (fun ls hl => ?_)
        refine lv_iinc (pc := 24) (v := x7_4 + 1) (lv' := [(4, .int (x7_4 + 1)), (3, .int (x7_3 ||| ((s_next hi wi fc lc x7_3) &&& bears))), (0, .ref i0), (2, .int bears)]) hx hb (dOk_at dX2_reach 17 rfl) hl (k := 3) rfl rfl (by decide) rfl (fun ls hl => ?_)
        refine lv_goto (pc := 27) (tgt := 7) hx hb (dOk_at dX2_reach 18 rfl) (by decide) ?_
        obtain ⟨k0, hk0, hj0⟩ := hv
        exact ih7 k0 hk0 (x7_3 ||| ((s_next hi wi fc lc x7_3) &&& bears)) (x7_4 + 1) hj0 _ _ _ hh (lv_sub hl [2, 3, 1, 0] rfl)
  refine lv_iconst (pc := 0) (v := 1) hx hb (dOk_at dX2_reach 0 rfl) (by decide) ?_
  refine lv_iload_n (pc := 1) hx hb (dOk_at dX2_reach 1 rfl) rfl (lv_at hl 1 rfl) ?_
  refine lv_ishl (pc := 2) hx hb (dOk_at dX2_reach 2 rfl) ?_
  refine lv_istore_n (pc := 3) (lv' := [(3, .int ((1 : Int32) <<< (fro &&& 31))), (0, .ref i0), (1, .int fro), (2, .int bears)]) hx hb (dOk_at dX2_reach 3 rfl) rfl hl (by decide) rfl (fun ls hl => ?_)
  refine lv_iconst (pc := 4) (v := 1) hx hb (dOk_at dX2_reach 4 rfl) (by decide) ?_
  refine lv_istore (pc := 5) (lv' := [(4, .int 1), (3, .int ((1 : Int32) <<< (fro &&& 31))), (0, .ref i0), (1, .int fro), (2, .int bears)]) hx hb (dOk_at dX2_reach 5 rfl) hl (by decide) rfl (fun ls hl => ?_)
  obtain ⟨k0, hj0⟩ := hv
  exact lp7 k0 ((1 : Int32) <<< (fro &&& 31)) 1 hj0 _ _ _ hh (lv_sub hl [2, 4, 1, 0] rfl)
set_option maxRecDepth 100000 in
set_option maxHeartbeats 4000000 in
theorem wk_X2_shortest (l : Launch) (G : GT) (i0 : Nat) (i1 : Nat) (hi : Int32) (wi : Int32) (fr : Int32) (fc : Int32) (lc : Int32) (fro : Int32) (to : Int32) (bf : Int32) (bs : Int32) (R : Int32) (J12 : Nat → Int32 → Int32 → Int32 → Prop) (h_X2_nextTo : K_X2_nextTo l G) (h_X6_isIn : K_X6_isIn l G)
    (hv : ∃ k2 : Nat, J12 k2 ((1 : Int32) <<< (fro &&& 31)) ((1 : Int32) <<< (fro &&& 31)) 0)
    (hv12 : ∀ (n12 : Nat) (x12_5 : Int32) (x12_6 : Int32) (x12_7 : Int32), J12 n12 x12_5 x12_6 x12_7 → (20 ≤ x12_7 → (-9 : Int32) = R) ∧ (¬ 20 ≤ x12_7 → (x12_5 = 0 → (-9 : Int32) = R) ∧ (¬ x12_5 = 0 → ((s_isIn x12_5 to) = 0 → (∀ (v55 : Int32), v55 = (if (x12_7 - x12_7 / 2 * 2) = 0 then bf else bs) → ∃ k1 : Nat, k1 < n12 ∧ J12 k1 (((s_next hi wi fc lc x12_5) &&& v55) &&& (x12_6 ^^^ (-1))) (x12_6 ||| (((s_next hi wi fc lc x12_5) &&& v55) &&& (x12_6 ^^^ (-1)))) (x12_7 + 1))) ∧ (¬ (s_isIn x12_5 to) = 0 → x12_7 = R)))) :
    MF l G yX2_shortest cX2_shortest 8 (some .int) rm_X2_shortest [.ref i0, .int fro, .int to, .int bf, .int bs] [(i0, .inr (2, [.ref i1, .int hi, .int wi, .int fr, .int fc, .int lc]))] (some (.int R)) [(i0, .inr (2, [.ref i1, .int hi, .int wi, .int fr, .int fc, .int lc]))] := by
  refine MF.of (by decide +kernel) (Nat.le_of_ble_eq_true rfl) ?_
  intro p e s m args below meth c A ls fx hh hl _
  have hx := fx.hx
  have hb := fx.hb
  have hl : lv_has ls 8 [(0, .ref i0), (1, .int fro), (2, .int to), (3, .int bf), (4, .int bs)] := hl
  obtain ⟨Q, hQ⟩ : ∃ Q, Q = ZZ G A (some (.int R)) [(i0, .inr (2, [.ref i1, .int hi, .int wi, .int fr, .int fc, .int lc]))] below args s := ⟨_, rfl⟩
  rw [← hQ]
  have lp12 : ∀ (n12 : Nat) (x12_5 : Int32) (x12_6 : Int32) (x12_7 : Int32), J12 n12 x12_5 x12_6 x12_7 → ∀ (H : Heap) (locs : List Loc) (ls : Array Slot), HP G A [(i0, .inr (2, [.ref i1, .int hi, .int wi, .int fr, .int fc, .int lc]))] s H locs → lv_has ls 8 [(0, .ref i0), (2, .int to), (3, .int bf), (4, .int bs), (5, .int x12_5), (6, .int x12_6), (7, .int x12_7)] → W p l e rm_X2_shortest s m args below meth c H locs 0 0 Q (F0 m 12 ls []) := by
    intro n12
    induction n12 using Nat.strongRecOn with
    | ind n12 ih12 =>
      intro x12_5 x12_6 x12_7 hj12 H locs ls hh hl
      have hv := hv12 n12 x12_5 x12_6 x12_7 hj12
      refine lv_iload (pc := 12) hx hb (dOk_at dX2_shortest 8 rfl) (lv_at hl 6 rfl) ?_
      refine lv_bipush (pc := 14) (v := 20) hx hb (dOk_at dX2_shortest 9 rfl) (by decide) ?_
      refine lv_icmp_ge (pc := 16) (tgt := 76) hx hb (dOk_at dX2_shortest 10 rfl) (by decide) (fun c16 => ?_) (fun c16 => ?_)
      · have hv := hv.1 c16
        refine lv_bipush (pc := 76) (v := (-9)) hx hb (dOk_at dX2_shortest 41 rfl) (by decide) ?_
        have e0 := hv
        subst e0
        rw [hQ]
        exact r_iret (pc := 78) fx hh (dOk_at dX2_shortest 42 rfl)
      · have hv := hv.2 c16
        refine lv_iload (pc := 19) hx hb (dOk_at dX2_shortest 11 rfl) (lv_at hl 4 rfl) ?_
        refine lv_if_eq (pc := 21) (tgt := 76) hx hb (dOk_at dX2_shortest 12 rfl) (by decide) (fun c21 => ?_) (fun c21 => ?_)
        · have hv := hv.1 c21
          refine lv_bipush (pc := 76) (v := (-9)) hx hb (dOk_at dX2_shortest 41 rfl) (by decide) ?_
          have e0 := hv
          subst e0
          rw [hQ]
          exact r_iret (pc := 78) fx hh (dOk_at dX2_shortest 42 rfl)
        · have hv := hv.2 c21
          refine lv_iload (pc := 24) hx hb (dOk_at dX2_shortest 13 rfl) (lv_at hl 4 rfl) ?_
          refine lv_iload_n (pc := 26) hx hb (dOk_at dX2_shortest 14 rfl) rfl (lv_at hl 1 rfl) ?_
          refine cl_SN (pc := 27) (w' := [(i0, .inr (2, [.ref i1, .int hi, .int wi, .int fr, .int fc, .int lc]))]) (wr := [(i0, .inr (2, [.ref i1, .int hi, .int wi, .int fr, .int fc, .int lc]))]) (rest := []) fx hh hl.1 (h_X6_isIn x12_5 to) yS_X6_isIn nMX2_57 ⟨rfl, rfl, Nat.le_of_ble_eq_true rfl, Nat.le_of_ble_eq_true rfl⟩ [] [0] [0] rfl rfl rfl (by decide) (by decide) rfl rfl (Nat.le_of_ble_eq_true rfl) ⟨Nat.le_of_ble_eq_true rfl, Nat.le_of_ble_eq_true rfl⟩ (dOk_at dX2_shortest 15 rfl) (fun H locs hh => ?_)
          refine lv_if_eq (pc := 30) (tgt := 36) hx hb (dOk_at dX2_shortest 16 rfl) (by decide) (fun c30 => ?_) (fun c30 => ?_)
          · have hv := hv.1 c30
            refine lv_aload_n (pc := 36) hx hb (dOk_at dX2_shortest 19 rfl) rfl (lv_at hl 0 rfl) ?_
            refine lv_iload (pc := 37) hx hb (dOk_at dX2_shortest 20 rfl) (lv_at hl 4 rfl) ?_
            refine cl_V (pc := 39) (w' := [(i0, .inr (2, [.ref i1, .int hi, .int wi, .int fr, .int fc, .int lc]))]) (wr := []) (rest := []) fx hh hl.1 (h_X2_nextTo i0 i1 hi wi fr fc lc x12_5) yV_X2_nextTo tMX2_64 ⟨rfl, rfl, Nat.le_of_ble_eq_true rfl, Nat.le_of_ble_eq_true rfl⟩ 0 2 rfl rfl rfl [0] [] [0] rfl rfl rfl (by decide) (by decide) rfl rfl (Nat.le_of_ble_eq_true rfl) ⟨Nat.le_of_ble_eq_true rfl, Nat.le_of_ble_eq_true rfl⟩ (dOk_at dX2_shortest 21 rfl) (fun H locs hh => ?_)
            refine lv_iload (pc := 42) hx hb (dOk_at dX2_shortest 22 rfl) (lv_at hl 6 rfl) ?_
            refine lv_iconst (pc := 44) (v := 2) hx hb (dOk_at dX2_shortest 23 rfl) (by decide) ?_
            refine lv_irem (pc := 45) hx hb (dOk_at dX2_shortest 24 rfl) (by decide) ?_
            have k55_46 : ∀ (v55 : Int32), v55 = (if (x12_7 - x12_7 / 2 * 2) = 0 then bf else bs) → ∀ (H : Heap) (locs : List Loc) (ls : Array Slot), HP G A [(i0, .inr (2, [.ref i1, .int hi, .int wi, .int fr, .int fc, .int lc]))] s H locs → lv_has ls 8 [(0, .ref i0), (2, .int to), (3, .int bf), (4, .int bs), (6, .int x12_6), (7, .int x12_7)] → W p l e rm_X2_shortest s m args below meth c H locs 0 0 Q (F0 m 55 ls [.int v55, .int (s_next hi wi fc lc x12_5)]) := by
              intro v55 e55_0 H locs ls hh hl
              have hv := hv v55 e55_0
              refine lv_iand (pc := 55) hx hb (dOk_at dX2_shortest 29 rfl) ?_
              refine lv_iload (pc := 56) hx hb (dOk_at dX2_shortest 30 rfl) (lv_at hl 4 rfl) ?_
              refine lv_iconst (pc := 58) (v := (-1)) hx hb (dOk_at dX2_shortest 31 rfl) (by decide) ?_
              refine lv_ixor (pc := 59) hx hb (dOk_at dX2_shortest 32 rfl) ?_
              refine lv_iand (pc := 60) hx hb (dOk_at dX2_shortest 33 rfl) ?_
              refine lv_istore (pc := 61) (lv' := [(5, .int (((s_next hi wi fc lc x12_5) &&& v55) &&& (x12_6 ^^^ (-1)))), (0, .ref i0), (2, .int to), (3, .int bf), (4, .int bs), (6, .int x12_6), (7, .int x12_7)]) hx hb (dOk_at dX2_shortest 34 rfl) hl (by decide) rfl (fun ls hl => ?_)
              refine lv_iload (pc := 63) hx hb (dOk_at dX2_shortest 35 rfl) (lv_at hl 5 rfl) ?_
              refine lv_iload (pc := 65) hx hb (dOk_at dX2_shortest 36 rfl) (lv_at hl 0 rfl) ?_
              refine lv_ior (pc := 67) hx hb (dOk_at dX2_shortest 37 rfl) ?_
              refine lv_istore (pc := 68) (lv' := [(6, .int (x12_6 ||| (((s_next hi wi fc lc x12_5) &&& v55) &&& (x12_6 ^^^ (-1))))), (5, .int (((s_next hi wi fc lc x12_5) &&& v55) &&& (x12_6 ^^^ (-1)))), (0, .ref i0), (2, .int to), (3, .int bf), (4, .int bs), (7, .int x12_7)]) hx hb (dOk_at dX2_shortest 38 rfl) hl (by decide) rfl (fun ls hl => ?_)
              refine lv_iinc (pc := 70) (v := x12_7 + 1) (lv' := [(7, .int (x12_7 + 1)), (6, .int (x12_6 ||| (((s_next hi wi fc lc x12_5) &&& v55) &&& (x12_6 ^^^ (-1))))), (5, .int (((s_next hi wi fc lc x12_5) &&& v55) &&& (x12_6 ^^^ (-1)))), (0, .ref i0), (2, .int to), (3, .int bf), (4, .int bs)]) hx hb (dOk_at dX2_shortest 39 rfl) hl (k := 6) rfl rfl (by decide) rfl (fun ls hl => ?_)
              refine lv_goto (pc := 73) (tgt := 12) hx hb (dOk_at dX2_shortest 40 rfl) (by decide) ?_
              obtain ⟨k0, hk0, hj0⟩ := hv
              exact ih12 k0 hk0 (((s_next hi wi fc lc x12_5) &&& v55) &&& (x12_6 ^^^ (-1))) (x12_6 ||| (((s_next hi wi fc lc x12_5) &&& v55) &&& (x12_6 ^^^ (-1)))) (x12_7 + 1) hj0 _ _ _ hh (lv_sub hl [3, 4, 5, 6, 2, 1, 0] rfl)
            refine lv_if_ne (pc := 46) (tgt := 53) hx hb (dOk_at dX2_shortest 25 rfl) (by decide) (fun c46 => ?_) (fun c46 => ?_)
            · refine lv_iload (pc := 53) hx hb (dOk_at dX2_shortest 28 rfl) (lv_at hl 3 rfl) ?_
              exact k55_46 _ (if_neg c46).symm _ _ _ hh (lv_sub hl [0, 1, 2, 3, 5, 6] rfl)
            · refine lv_iload_n (pc := 49) hx hb (dOk_at dX2_shortest 26 rfl) rfl (lv_at hl 2 rfl) ?_
              refine lv_goto (pc := 50) (tgt := 55) hx hb (dOk_at dX2_shortest 27 rfl) (by decide) ?_
              exact k55_46 _ (if_pos c46).symm _ _ _ hh (lv_sub hl [0, 1, 2, 3, 5, 6] rfl)
          · have hv := hv.2 c30
            refine lv_iload (pc := 33) hx hb (dOk_at dX2_shortest 17 rfl) (lv_at hl 6 rfl) ?_
            have e0 := hv
            subst e0
            rw [hQ]
            exact r_iret (pc := 35) fx hh (dOk_at dX2_shortest 18 rfl)
  refine lv_iconst (pc := 0) (v := 1) hx hb (dOk_at dX2_shortest 0 rfl) (by decide) ?_
  refine lv_iload_n (pc := 1) hx hb (dOk_at dX2_shortest 1 rfl) rfl (lv_at hl 1 rfl) ?_
  refine lv_ishl (pc := 2) hx hb (dOk_at dX2_shortest 2 rfl) ?_
  refine lv_istore (pc := 3) (lv' := [(5, .int ((1 : Int32) <<< (fro &&& 31))), (0, .ref i0), (1, .int fro), (2, .int to), (3, .int bf), (4, .int bs)]) hx hb (dOk_at dX2_shortest 3 rfl) hl (by decide) rfl (fun ls hl => ?_)
  refine lv_iload (pc := 5) hx hb (dOk_at dX2_shortest 4 rfl) (lv_at hl 0 rfl) ?_
  refine lv_istore (pc := 7) (lv' := [(6, .int ((1 : Int32) <<< (fro &&& 31))), (5, .int ((1 : Int32) <<< (fro &&& 31))), (0, .ref i0), (1, .int fro), (2, .int to), (3, .int bf), (4, .int bs)]) hx hb (dOk_at dX2_shortest 5 rfl) hl (by decide) rfl (fun ls hl => ?_)
  refine lv_iconst (pc := 9) (v := 0) hx hb (dOk_at dX2_shortest 6 rfl) (by decide) ?_
  refine lv_istore (pc := 10) (lv' := [(7, .int 0), (6, .int ((1 : Int32) <<< (fro &&& 31))), (5, .int ((1 : Int32) <<< (fro &&& 31))), (0, .ref i0), (1, .int fro), (2, .int to), (3, .int bf), (4, .int bs)]) hx hb (dOk_at dX2_shortest 7 rfl) hl (by decide) rfl (fun ls hl => ?_)
  obtain ⟨k0, hj0⟩ := hv
  exact lp12 k0 ((1 : Int32) <<< (fro &&& 31)) ((1 : Int32) <<< (fro &&& 31)) 0 hj0 _ _ _ hh (lv_sub hl [3, 5, 6, 7, 2, 1, 0] rfl)
set_option maxRecDepth 100000 in
set_option maxHeartbeats 4000000 in
theorem wk_X2_beginOfBond (l : Launch) (G : GT) (i0 : Nat) (i1 : Nat) (hi : Int32) (wi : Int32) (fr : Int32) (fc : Int32) (lc : Int32) (fro : Int32) (to : Int32) (bf : Int32) (bs : Int32) (R : Int32) (J14 : Nat → Int32 → Prop) (h_X2_led : K_X2_led l G) (h_X2_shortest : K_X2_shortest l G) (h_X6_isIn : K_X6_isIn l G)
    (hv : ∃ k4 : Nat, J14 k4 0)
    (hv14 : ∀ (n14 : Nat) (x14_6 : Int32), J14 n14 x14_6 → (3 < x14_6 → (-9 : Int32) = R) ∧ (¬ 3 < x14_6 → ((s_led hi wi fc lc fro x14_6) = (-9) → ∃ k1 : Nat, k1 < n14 ∧ J14 k1 (x14_6 + 1)) ∧ (¬ (s_led hi wi fc lc fro x14_6) = (-9) → ((s_isIn bf (s_led hi wi fc lc fro x14_6)) = 0 → ∃ k2 : Nat, k2 < n14 ∧ J14 k2 (x14_6 + 1)) ∧ (¬ (s_isIn bf (s_led hi wi fc lc fro x14_6)) = 0 → (¬ (s_shortest hi wi fc lc (s_led hi wi fc lc fro x14_6) to bs bf) = ((s_shortest hi wi fc lc fro to bf bs) - 1) → ∃ k3 : Nat, k3 < n14 ∧ J14 k3 (x14_6 + 1)) ∧ ((s_shortest hi wi fc lc (s_led hi wi fc lc fro x14_6) to bs bf) = ((s_shortest hi wi fc lc fro to bf bs) - 1) → x14_6 = R))))) :
    MF l G yX2_beginOfBond cX2_beginOfBond 8 (some .int) rm_X2_beginOfBond [.ref i0, .int fro, .int to, .int bf, .int bs] [(i0, .inr (2, [.ref i1, .int hi, .int wi, .int fr, .int fc, .int lc]))] (some (.int R)) [(i0, .inr (2, [.ref i1, .int hi, .int wi, .int fr, .int fc, .int lc]))] := by
  refine MF.of (by decide +kernel) (Nat.le_of_ble_eq_true rfl) ?_
  intro p e s m args below meth c A ls fx hh hl _
  have hx := fx.hx
  have hb := fx.hb
  have hl : lv_has ls 8 [(0, .ref i0), (1, .int fro), (2, .int to), (3, .int bf), (4, .int bs)] := hl
  obtain ⟨Q, hQ⟩ : ∃ Q, Q = ZZ G A (some (.int R)) [(i0, .inr (2, [.ref i1, .int hi, .int wi, .int fr, .int fc, .int lc]))] below args s := ⟨_, rfl⟩
  rw [← hQ]
  have lp14 : ∀ (n14 : Nat) (x14_6 : Int32), J14 n14 x14_6 → ∀ (H : Heap) (locs : List Loc) (ls : Array Slot), HP G A [(i0, .inr (2, [.ref i1, .int hi, .int wi, .int fr, .int fc, .int lc]))] s H locs → lv_has ls 8 [(0, .ref i0), (1, .int fro), (2, .int to), (3, .int bf), (4, .int bs), (5, .int (s_shortest hi wi fc lc fro to bf bs)), (6, .int x14_6)] → W p l e rm_X2_beginOfBond s m args below meth c H locs 0 0 Q (F0 m 14 ls []) := by
    intro n14
    induction n14 using Nat.strongRecOn with
    | ind n14 ih14 =>
      intro x14_6 hj14 H locs ls hh hl
      have hv := hv14 n14 x14_6 hj14
      refine lv_iload (pc := 14) hx hb (dOk_at dX2_beginOfBond 9 rfl) (lv_at hl 6 rfl) ?_
      refine lv_iconst (pc := 16) (v := 3) hx hb (dOk_at dX2_beginOfBond 10 rfl) (by decide) ?_
      refine lv_icmp_gt (pc := 17) (tgt := 71) hx hb (dOk_at dX2_beginOfBond 11 rfl) (by decide) (fun c17 => ?_) (fun c17 => ?_)
      · have hv := hv.1 c17
        refine lv_bipush (pc := 71) (v := (-9)) hx hb (dOk_at dX2_beginOfBond 38 rfl) (by decide) ?_
        have e0 := hv
        subst e0
        rw [hQ]
        exact r_iret (pc := 73) fx hh (dOk_at dX2_beginOfBond 39 rfl)
      · have hv := hv.2 c17
        refine lv_aload_n (pc := 20) hx hb (dOk_at dX2_beginOfBond 12 rfl) rfl (lv_at hl 0 rfl) ?_
        refine lv_iload_n (pc := 21) hx hb (dOk_at dX2_beginOfBond 13 rfl) rfl (lv_at hl 1 rfl) ?_
        refine lv_iload (pc := 22) hx hb (dOk_at dX2_beginOfBond 14 rfl) (lv_at hl 6 rfl) ?_
        refine cl_V (pc := 24) (w' := [(i0, .inr (2, [.ref i1, .int hi, .int wi, .int fr, .int fc, .int lc]))]) (wr := []) (rest := []) fx hh hl.1 (h_X2_led i0 i1 hi wi fr fc lc fro x14_6) yV_X2_led tMX2_72 ⟨rfl, rfl, Nat.le_of_ble_eq_true rfl, Nat.le_of_ble_eq_true rfl⟩ 0 2 rfl rfl rfl [0] [] [0] rfl rfl rfl (by decide) (by decide) rfl rfl (Nat.le_of_ble_eq_true rfl) ⟨Nat.le_of_ble_eq_true rfl, Nat.le_of_ble_eq_true rfl⟩ (dOk_at dX2_beginOfBond 15 rfl) (fun H locs hh => ?_)
        refine lv_istore (pc := 27) (lv' := [(7, .int (s_led hi wi fc lc fro x14_6)), (0, .ref i0), (1, .int fro), (2, .int to), (3, .int bf), (4, .int bs), (5, .int (s_shortest hi wi fc lc fro to bf bs)), (6, .int x14_6)]) hx hb (dOk_at dX2_beginOfBond 16 rfl) hl (by decide) rfl (fun ls hl => ?_)
        refine lv_iload (pc := 29) hx hb (dOk_at dX2_beginOfBond 17 rfl) (lv_at hl 0 rfl) ?_
        refine lv_bipush (pc := 31) (v := (-9)) hx hb (dOk_at dX2_beginOfBond 18 rfl) (by decide) ?_
        refine lv_icmp_eq (pc := 33) (tgt := 65) hx hb (dOk_at dX2_beginOfBond 19 rfl) (by decide) (fun c33 => ?_) (fun c33 => ?_)
        · have hv := hv.1 c33
          refine lv_iinc (pc := 65) (v := x14_6 + 1) (lv' := [(6, .int (x14_6 + 1)), (7, .int (s_led hi wi fc lc fro x14_6)), (0, .ref i0), (1, .int fro), (2, .int to), (3, .int bf), (4, .int bs), (5, .int (s_shortest hi wi fc lc fro to bf bs))]) hx hb (dOk_at dX2_beginOfBond 36 rfl) hl (k := 7) rfl rfl (by decide) rfl (fun ls hl => ?_)
          refine lv_goto (pc := 68) (tgt := 14) hx hb (dOk_at dX2_beginOfBond 37 rfl) (by decide) ?_
          obtain ⟨k0, hk0, hj0⟩ := hv
          exact ih14 k0 hk0 (x14_6 + 1) hj0 _ _ _ hh (lv_sub hl [2, 3, 4, 5, 6, 7, 0] rfl)
        · have hv := hv.2 c33
          refine lv_iload_n (pc := 36) hx hb (dOk_at dX2_beginOfBond 20 rfl) rfl (lv_at hl 4 rfl) ?_
          refine lv_iload (pc := 37) hx hb (dOk_at dX2_beginOfBond 21 rfl) (lv_at hl 0 rfl) ?_
          refine cl_SN (pc := 39) (w' := [(i0, .inr (2, [.ref i1, .int hi, .int wi, .int fr, .int fc, .int lc]))]) (wr := [(i0, .inr (2, [.ref i1, .int hi, .int wi, .int fr, .int fc, .int lc]))]) (rest := []) fx hh hl.1 (h_X6_isIn bf (s_led hi wi fc lc fro x14_6)) yS_X6_isIn nMX2_57 ⟨rfl, rfl, Nat.le_of_ble_eq_true rfl, Nat.le_of_ble_eq_true rfl⟩ [] [0] [0] rfl rfl rfl (by decide) (by decide) rfl rfl (Nat.le_of_ble_eq_true rfl) ⟨Nat.le_of_ble_eq_true rfl, Nat.le_of_ble_eq_true rfl⟩ (dOk_at dX2_beginOfBond 22 rfl) (fun H locs hh => ?_)
          refine lv_if_eq (pc := 42) (tgt := 65) hx hb (dOk_at dX2_beginOfBond 23 rfl) (by decide) (fun c42 => ?_) (fun c42 => ?_)
          · have hv := hv.1 c42
            refine lv_iinc (pc := 65) (v := x14_6 + 1) (lv' := [(6, .int (x14_6 + 1)), (7, .int (s_led hi wi fc lc fro x14_6)), (0, .ref i0), (1, .int fro), (2, .int to), (3, .int bf), (4, .int bs), (5, .int (s_shortest hi wi fc lc fro to bf bs))]) hx hb (dOk_at dX2_beginOfBond 36 rfl) hl (k := 7) rfl rfl (by decide) rfl (fun ls hl => ?_)
            refine lv_goto (pc := 68) (tgt := 14) hx hb (dOk_at dX2_beginOfBond 37 rfl) (by decide) ?_
            obtain ⟨k0, hk0, hj0⟩ := hv
            exact ih14 k0 hk0 (x14_6 + 1) hj0 _ _ _ hh (lv_sub hl [2, 3, 4, 5, 6, 7, 0] rfl)
          · have hv := hv.2 c42
            refine lv_aload_n (pc := 45) hx hb (dOk_at dX2_beginOfBond 24 rfl) rfl (lv_at hl 1 rfl) ?_
            refine lv_iload (pc := 46) hx hb (dOk_at dX2_beginOfBond 25 rfl) (lv_at hl 0 rfl) ?_
            refine lv_iload_n (pc := 48) hx hb (dOk_at dX2_beginOfBond 26 rfl) rfl (lv_at hl 3 rfl) ?_
            refine lv_iload (pc := 49) hx hb (dOk_at dX2_beginOfBond 27 rfl) (lv_at hl 5 rfl) ?_
            refine lv_iload_n (pc := 51) hx hb (dOk_at dX2_beginOfBond 28 rfl) rfl (lv_at hl 4 rfl) ?_
            refine cl_V (pc := 52) (w' := [(i0, .inr (2, [.ref i1, .int hi, .int wi, .int fr, .int fc, .int lc]))]) (wr := []) (rest := []) fx hh hl.1 (h_X2_shortest i0 i1 hi wi fr fc lc (s_led hi wi fc lc fro x14_6) to bs bf) yV_X2_shortest tMX2_75 ⟨rfl, rfl, Nat.le_of_ble_eq_true rfl, Nat.le_of_ble_eq_true rfl⟩ 0 2 rfl rfl rfl [0] [] [0] rfl rfl rfl (by decide) (by decide) rfl rfl (Nat.le_of_ble_eq_true rfl) ⟨Nat.le_of_ble_eq_true rfl, Nat.le_of_ble_eq_true rfl⟩ (dOk_at dX2_beginOfBond 29 rfl) (fun H locs hh => ?_)
            refine lv_iload (pc := 55) hx hb (dOk_at dX2_beginOfBond 30 rfl) (lv_at hl 6 rfl) ?_
            refine lv_iconst (pc := 57) (v := 1) hx hb (dOk_at dX2_beginOfBond 31 rfl) (by decide) ?_
            refine lv_isub (pc := 58) hx hb (dOk_at dX2_beginOfBond 32 rfl) ?_
            refine lv_icmp_ne (pc := 59) (tgt := 65) hx hb (dOk_at dX2_beginOfBond 33 rfl) (by decide) (fun c59 => ?_) (fun c59 => ?_)
            · have hv := hv.1 c59
              refine lv_iinc (pc := 65) (v := x14_6 + 1) (lv' := [(6, .int (x14_6 + 1)), (7, .int (s_led hi wi fc lc fro x14_6)), (0, .ref i0), (1, .int fro), (2, .int to), (3, .int bf), (4, .int bs), (5, .int (s_shortest hi wi fc lc fro to bf bs))]) hx hb (dOk_at dX2_beginOfBond 36 rfl) hl (k := 7) rfl rfl (by decide) rfl (fun ls hl => ?_)
              refine lv_goto (pc := 68) (tgt := 14) hx hb (dOk_at dX2_beginOfBond 37 rfl) (by decide) ?_
              obtain ⟨k0, hk0, hj0⟩ := hv
              exact ih14 k0 hk0 (x14_6 + 1) hj0 _ _ _ hh (lv_sub hl [2, 3, 4, 5, 6, 7, 0] rfl)
            · have hv := hv.2 c59
              refine lv_iload (pc := 62) hx hb (dOk_at dX2_beginOfBond 34 rfl) (lv_at hl 7 rfl) ?_
              have e0 := hv
              subst e0
              rw [hQ]
              exact r_iret (pc := 64) fx hh (dOk_at dX2_beginOfBond 35 rfl)
  refine lv_aload_n (pc := 0) hx hb (dOk_at dX2_beginOfBond 0 rfl) rfl (lv_at hl 0 rfl) ?_
  refine lv_iload_n (pc := 1) hx hb (dOk_at dX2_beginOfBond 1 rfl) rfl (lv_at hl 1 rfl) ?_
  refine lv_iload_n (pc := 2) hx hb (dOk_at dX2_beginOfBond 2 rfl) rfl (lv_at hl 2 rfl) ?_
  refine lv_iload_n (pc := 3) hx hb (dOk_at dX2_beginOfBond 3 rfl) rfl (lv_at hl 3 rfl) ?_
  refine lv_iload (pc := 4) hx hb (dOk_at dX2_beginOfBond 4 rfl) (lv_at hl 4 rfl) ?_
  refine cl_V (pc := 6) (w' := [(i0, .inr (2, [.ref i1, .int hi, .int wi, .int fr, .int fc, .int lc]))]) (wr := []) (rest := []) fx hh hl.1 (h_X2_shortest i0 i1 hi wi fr fc lc fro to bf bs) yV_X2_shortest tMX2_75 ⟨rfl, rfl, Nat.le_of_ble_eq_true rfl, Nat.le_of_ble_eq_true rfl⟩ 0 2 rfl rfl rfl [0] [] [0] rfl rfl rfl (by decide) (by decide) rfl rfl (Nat.le_of_ble_eq_true rfl) ⟨Nat.le_of_ble_eq_true rfl, Nat.le_of_ble_eq_true rfl⟩ (dOk_at dX2_beginOfBond 5 rfl) (fun H locs hh => ?_)
  refine lv_istore (pc := 9) (lv' := [(5, .int (s_shortest hi wi fc lc fro to bf bs)), (0, .ref i0), (1, .int fro), (2, .int to), (3, .int bf), (4, .int bs)]) hx hb (dOk_at dX2_beginOfBond 6 rfl) hl (by decide) rfl (fun ls hl => ?_)
  refine lv_iconst (pc := 11) (v := 0) hx hb (dOk_at dX2_beginOfBond 7 rfl) (by decide) ?_
  refine lv_istore (pc := 12) (lv' := [(6, .int 0), (5, .int (s_shortest hi wi fc lc fro to bf bs)), (0, .ref i0), (1, .int fro), (2, .int to), (3, .int bf), (4, .int bs)]) hx hb (dOk_at dX2_beginOfBond 8 rfl) hl (by decide) rfl (fun ls hl => ?_)
  obtain ⟨k0, hj0⟩ := hv
  exact lp14 k0 0 hj0 _ _ _ hh (lv_sub hl [2, 3, 4, 5, 6, 1, 0] rfl)
set_option maxRecDepth 100000 in
set_option maxHeartbeats 4000000 in
theorem wk_X2_strokeOfBond (l : Launch) (G : GT) (i0 : Nat) (i1 : Nat) (hi : Int32) (wi : Int32) (fr : Int32) (fc : Int32) (lc : Int32) (k : Int32) (fro : Int32) (to : Int32) (bf : Int32) (bs : Int32) (R : Int32) (J10 : Nat → Int32 → Int32 → Int32 → Prop) (h_X2_beginOfBond : K_X2_beginOfBond l G) (h_X2_led : K_X2_led l G)
    (hv : ∃ k2 : Nat, J10 k2 fro (-9) 0)
    (hv10 : ∀ (n10 : Nat) (x10_6 : Int32) (x10_7 : Int32) (x10_8 : Int32), J10 n10 x10_6 x10_7 x10_8 → (k < x10_8 → x10_7 = R) ∧ (¬ k < x10_8 → (x10_6 = (-9) → x10_7 = R) ∧ (¬ x10_6 = (-9) → (∀ (v35 : Int32), v35 = (if (x10_8 - x10_8 / 2 * 2) = 0 then (1 : Int32) else (0 : Int32)) → (∀ (v53 : Int32), v53 = (if v35 = 0 then bs else bf) → (∀ (v65 : Int32), v65 = (if v35 = 0 then bf else bs) → ∃ k1 : Nat, k1 < n10 ∧ J10 k1 (s_led hi wi fc lc x10_6 (s_begin hi wi fc lc x10_6 to v53 v65)) (s_begin hi wi fc lc x10_6 to v53 v65) (x10_8 + 1))))))) :
    MF l G yX2_strokeOfBond cX2_strokeOfBond 10 (some .int) rm_X2_strokeOfBond [.ref i0, .int k, .int fro, .int to, .int bf, .int bs] [(i0, .inr (2, [.ref i1, .int hi, .int wi, .int fr, .int fc, .int lc]))] (some (.int R)) [(i0, .inr (2, [.ref i1, .int hi, .int wi, .int fr, .int fc, .int lc]))] := by
  refine MF.of (by decide +kernel) (Nat.le_of_ble_eq_true rfl) ?_
  intro p e s m args below meth c A ls fx hh hl _
  have hx := fx.hx
  have hb := fx.hb
  have hl : lv_has ls 10 [(0, .ref i0), (1, .int k), (2, .int fro), (3, .int to), (4, .int bf), (5, .int bs)] := hl
  obtain ⟨Q, hQ⟩ : ∃ Q, Q = ZZ G A (some (.int R)) [(i0, .inr (2, [.ref i1, .int hi, .int wi, .int fr, .int fc, .int lc]))] below args s := ⟨_, rfl⟩
  rw [← hQ]
  have lp10 : ∀ (n10 : Nat) (x10_6 : Int32) (x10_7 : Int32) (x10_8 : Int32), J10 n10 x10_6 x10_7 x10_8 → ∀ (H : Heap) (locs : List Loc) (ls : Array Slot), HP G A [(i0, .inr (2, [.ref i1, .int hi, .int wi, .int fr, .int fc, .int lc]))] s H locs → lv_has ls 10 [(0, .ref i0), (1, .int k), (3, .int to), (4, .int bf), (5, .int bs), (6, .int x10_6), (7, .int x10_7), (8, .int x10_8)] → W p l e rm_X2_strokeOfBond s m args below meth c H locs 0 0 Q (F0 m 10 ls []) := by
    intro n10
    induction n10 using Nat.strongRecOn with
    | ind n10 ih10 =>
      intro x10_6 x10_7 x10_8 hj10 H locs ls hh hl
      have hv := hv10 n10 x10_6 x10_7 x10_8 hj10
      refine lv_iload (pc := 10) hx hb (dOk_at dX2_strokeOfBond 6 rfl) (lv_at hl 7 rfl) ?_
      refine lv_iload_n (pc := 12) hx hb (dOk_at dX2_strokeOfBond 7 rfl) rfl (lv_at hl 1 rfl) ?_
      refine lv_icmp_gt (pc := 13) (tgt := 86) hx hb (dOk_at dX2_strokeOfBond 8 rfl) (by decide) (fun c13 => ?_) (fun c13 => ?_)
      · have hv := hv.1 c13
        refine lv_iload (pc := 86) hx hb (dOk_at dX2_strokeOfBond 42 rfl) (lv_at hl 6 rfl) ?_
        have e0 := hv
        subst e0
        rw [hQ]
        exact r_iret (pc := 88) fx hh (dOk_at dX2_strokeOfBond 43 rfl)
      · have hv := hv.2 c13
        refine lv_iload (pc := 16) hx hb (dOk_at dX2_strokeOfBond 9 rfl) (lv_at hl 5 rfl) ?_
        refine lv_bipush (pc := 18) (v := (-9)) hx hb (dOk_at dX2_strokeOfBond 10 rfl) (by decide) ?_
        refine lv_icmp_eq (pc := 20) (tgt := 86) hx hb (dOk_at dX2_strokeOfBond 11 rfl) (by decide) (fun c20 => ?_) (fun c20 => ?_)
        · have hv := hv.1 c20
          refine lv_iload (pc := 86) hx hb (dOk_at dX2_strokeOfBond 42 rfl) (lv_at hl 6 rfl) ?_
          have e0 := hv
          subst e0
          rw [hQ]
          exact r_iret (pc := 88) fx hh (dOk_at dX2_strokeOfBond 43 rfl)
        · have hv := hv.2 c20
          refine lv_iload (pc := 23) hx hb (dOk_at dX2_strokeOfBond 12 rfl) (lv_at hl 7 rfl) ?_
          refine lv_iconst (pc := 25) (v := 2) hx hb (dOk_at dX2_strokeOfBond 13 rfl) (by decide) ?_
          refine lv_irem (pc := 26) hx hb (dOk_at dX2_strokeOfBond 14 rfl) (by decide) ?_
          have k35_27 : ∀ (v35 : Int32), v35 = (if (x10_8 - x10_8 / 2 * 2) = 0 then (1 : Int32) else (0 : Int32)) → ∀ (H : Heap) (locs : List Loc) (ls : Array Slot), HP G A [(i0, .inr (2, [.ref i1, .int hi, .int wi, .int fr, .int fc, .int lc]))] s H locs → lv_has ls 10 [(0, .ref i0), (1, .int k), (3, .int to), (4, .int bf), (5, .int bs), (6, .int x10_6), (8, .int x10_8)] → W p l e rm_X2_strokeOfBond s m args below meth c H locs 0 0 Q (F0 m 35 ls [.int v35]) := by
            intro v35 e35_0 H locs ls hh hl
            have hv := hv v35 e35_0
            refine lv_istore (pc := 35) (lv' := [(9, .int v35), (0, .ref i0), (1, .int k), (3, .int to), (4, .int bf), (5, .int bs), (6, .int x10_6), (8, .int x10_8)]) hx hb (dOk_at dX2_strokeOfBond 19 rfl) hl (by decide) rfl (fun ls hl => ?_)
            refine lv_aload_n (pc := 37) hx hb (dOk_at dX2_strokeOfBond 20 rfl) rfl (lv_at hl 1 rfl) ?_
            refine lv_iload (pc := 38) hx hb (dOk_at dX2_strokeOfBond 21 rfl) (lv_at hl 6 rfl) ?_
            refine lv_iload_n (pc := 40) hx hb (dOk_at dX2_strokeOfBond 22 rfl) rfl (lv_at hl 3 rfl) ?_
            refine lv_iload (pc := 41) hx hb (dOk_at dX2_strokeOfBond 23 rfl) (lv_at hl 0 rfl) ?_
            have k53_43 : ∀ (v53 : Int32), v53 = (if v35 = 0 then bs else bf) → ∀ (H : Heap) (locs : List Loc) (ls : Array Slot), HP G A [(i0, .inr (2, [.ref i1, .int hi, .int wi, .int fr, .int fc, .int lc]))] s H locs → lv_has ls 10 [(0, .ref i0), (1, .int k), (3, .int to), (4, .int bf), (5, .int bs), (6, .int x10_6), (8, .int x10_8), (9, .int v35)] → W p l e rm_X2_strokeOfBond s m args below meth c H locs 0 0 Q (F0 m 53 ls [.int v53, .int to, .int x10_6, .ref i0]) := by
              intro v53 e53_0 H locs ls hh hl
              have hv := hv v53 e53_0
              refine lv_iload (pc := 53) hx hb (dOk_at dX2_strokeOfBond 28 rfl) (lv_at hl 7 rfl) ?_
              have k65_55 : ∀ (v65 : Int32), v65 = (if v35 = 0 then bf else bs) → ∀ (H : Heap) (locs : List Loc) (ls : Array Slot), HP G A [(i0, .inr (2, [.ref i1, .int hi, .int wi, .int fr, .int fc, .int lc]))] s H locs → lv_has ls 10 [(0, .ref i0), (1, .int k), (3, .int to), (4, .int bf), (5, .int bs), (6, .int x10_6), (8, .int x10_8)] → W p l e rm_X2_strokeOfBond s m args below meth c H locs 0 0 Q (F0 m 65 ls [.int v65, .int v53, .int to, .int x10_6, .ref i0]) := by
                intro v65 e65_0 H locs ls hh hl
                have hv := hv v65 e65_0
                refine cl_V (pc := 65) (w' := [(i0, .inr (2, [.ref i1, .int hi, .int wi, .int fr, .int fc, .int lc]))]) (wr := []) (rest := []) fx hh hl.1 (h_X2_beginOfBond i0 i1 hi wi fr fc lc x10_6 to v53 v65) yV_X2_beginOfBond tMX2_68 ⟨rfl, rfl, Nat.le_of_ble_eq_true rfl, Nat.le_of_ble_eq_true rfl⟩ 0 2 rfl rfl rfl [0] [] [0] rfl rfl rfl (by decide) (by decide) rfl rfl (Nat.le_of_ble_eq_true rfl) ⟨Nat.le_of_ble_eq_true rfl, Nat.le_of_ble_eq_true rfl⟩ (dOk_at dX2_strokeOfBond 33 rfl) (fun H locs hh => ?_)
                refine lv_istore (pc := 68) (lv' := [(7, .int (s_begin hi wi fc lc x10_6 to v53 v65)), (0, .ref i0), (1, .int k), (3, .int to), (4, .int bf), (5, .int bs), (6, .int x10_6), (8, .int x10_8)]) hx hb (dOk_at dX2_strokeOfBond 34 rfl) hl (by decide) rfl (fun ls hl => ?_)
                refine lv_aload_n (pc := 70) hx hb (dOk_at dX2_strokeOfBond 35 rfl) rfl (lv_at hl 1 rfl) ?_
                refine lv_iload (pc := 71) hx hb (dOk_at dX2_strokeOfBond 36 rfl) (lv_at hl 6 rfl) ?_
                refine lv_iload (pc := 73) hx hb (dOk_at dX2_strokeOfBond 37 rfl) (lv_at hl 0 rfl) ?_
                refine cl_V (pc := 75) (w' := [(i0, .inr (2, [.ref i1, .int hi, .int wi, .int fr, .int fc, .int lc]))]) (wr := []) (rest := []) fx hh hl.1 (h_X2_led i0 i1 hi wi fr fc lc x10_6 (s_begin hi wi fc lc x10_6 to v53 v65)) yV_X2_led tMX2_72 ⟨rfl, rfl, Nat.le_of_ble_eq_true rfl, Nat.le_of_ble_eq_true rfl⟩ 0 2 rfl rfl rfl [0] [] [0] rfl rfl rfl (by decide) (by decide) rfl rfl (Nat.le_of_ble_eq_true rfl) ⟨Nat.le_of_ble_eq_true rfl, Nat.le_of_ble_eq_true rfl⟩ (dOk_at dX2_strokeOfBond 38 rfl) (fun H locs hh => ?_)
                refine lv_istore (pc := 78) (lv' := [(6, .int (s_led hi wi fc lc x10_6 (s_begin hi wi fc lc x10_6 to v53 v65))), (7, .int (s_begin hi wi fc lc x10_6 to v53 v65)), (0, .ref i0), (1, .int k), (3, .int to), (4, .int bf), (5, .int bs), (8, .int x10_8)]) hx hb (dOk_at dX2_strokeOfBond 39 rfl) hl (by decide) rfl (fun ls hl => ?_)
                refine lv_iinc (pc := 80) (v := x10_8 + 1) (lv' := [(8, .int (x10_8 + 1)), (6, .int (s_led hi wi fc lc x10_6 (s_begin hi wi fc lc x10_6 to v53 v65))), (7, .int (s_begin hi wi fc lc x10_6 to v53 v65)), (0, .ref i0), (1, .int k), (3, .int to), (4, .int bf), (5, .int bs)]) hx hb (dOk_at dX2_strokeOfBond 40 rfl) hl (k := 7) rfl rfl (by decide) rfl (fun ls hl => ?_)
                refine lv_goto (pc := 83) (tgt := 10) hx hb (dOk_at dX2_strokeOfBond 41 rfl) (by decide) ?_
                obtain ⟨k0, hk0, hj0⟩ := hv
                exact ih10 k0 hk0 (s_led hi wi fc lc x10_6 (s_begin hi wi fc lc x10_6 to v53 v65)) (s_begin hi wi fc lc x10_6 to v53 v65) (x10_8 + 1) hj0 _ _ _ hh (lv_sub hl [3, 4, 5, 6, 7, 1, 2, 0] rfl)
              refine lv_if_eq (pc := 55) (tgt := 63) hx hb (dOk_at dX2_strokeOfBond 29 rfl) (by decide) (fun c55 => ?_) (fun c55 => ?_)
              · refine lv_iload (pc := 63) hx hb (dOk_at dX2_strokeOfBond 32 rfl) (lv_at hl 3 rfl) ?_
                exact k65_55 _ (if_pos c55).symm _ _ _ hh (lv_sub hl [0, 1, 2, 3, 4, 5, 6] rfl)
              · refine lv_iload (pc := 58) hx hb (dOk_at dX2_strokeOfBond 30 rfl) (lv_at hl 4 rfl) ?_
                refine lv_goto (pc := 60) (tgt := 65) hx hb (dOk_at dX2_strokeOfBond 31 rfl) (by decide) ?_
                exact k65_55 _ (if_neg c55).symm _ _ _ hh (lv_sub hl [0, 1, 2, 3, 4, 5, 6] rfl)
            refine lv_if_eq (pc := 43) (tgt := 51) hx hb (dOk_at dX2_strokeOfBond 24 rfl) (by decide) (fun c43 => ?_) (fun c43 => ?_)
            · refine lv_iload (pc := 51) hx hb (dOk_at dX2_strokeOfBond 27 rfl) (lv_at hl 5 rfl) ?_
              exact k53_43 _ (if_pos c43).symm _ _ _ hh (lv_sub hl [1, 2, 3, 4, 5, 6, 7, 0] rfl)
            · refine lv_iload (pc := 46) hx hb (dOk_at dX2_strokeOfBond 25 rfl) (lv_at hl 4 rfl) ?_
              refine lv_goto (pc := 48) (tgt := 53) hx hb (dOk_at dX2_strokeOfBond 26 rfl) (by decide) ?_
              exact k53_43 _ (if_neg c43).symm _ _ _ hh (lv_sub hl [1, 2, 3, 4, 5, 6, 7, 0] rfl)
          refine lv_if_ne (pc := 27) (tgt := 34) hx hb (dOk_at dX2_strokeOfBond 15 rfl) (by decide) (fun c27 => ?_) (fun c27 => ?_)
          · refine lv_iconst (pc := 34) (v := 0) hx hb (dOk_at dX2_strokeOfBond 18 rfl) (by decide) ?_
            exact k35_27 _ (if_neg c27).symm _ _ _ hh (lv_sub hl [0, 1, 2, 3, 4, 5, 7] rfl)
          · refine lv_iconst (pc := 30) (v := 1) hx hb (dOk_at dX2_strokeOfBond 16 rfl) (by decide) ?_
            refine lv_goto (pc := 31) (tgt := 35) hx hb (dOk_at dX2_strokeOfBond 17 rfl) (by decide) ?_
            exact k35_27 _ (if_pos c27).symm _ _ _ hh (lv_sub hl [0, 1, 2, 3, 4, 5, 7] rfl)
  refine lv_iload_n (pc := 0) hx hb (dOk_at dX2_strokeOfBond 0 rfl) rfl (lv_at hl 2 rfl) ?_
  refine lv_istore (pc := 1) (lv' := [(6, .int fro), (0, .ref i0), (1, .int k), (2, .int fro), (3, .int to), (4, .int bf), (5, .int bs)]) hx hb (dOk_at dX2_strokeOfBond 1 rfl) hl (by decide) rfl (fun ls hl => ?_)
  refine lv_bipush (pc := 3) (v := (-9)) hx hb (dOk_at dX2_strokeOfBond 2 rfl) (by decide) ?_
  refine lv_istore (pc := 5) (lv' := [(7, .int (-9)), (6, .int fro), (0, .ref i0), (1, .int k), (2, .int fro), (3, .int to), (4, .int bf), (5, .int bs)]) hx hb (dOk_at dX2_strokeOfBond 3 rfl) hl (by decide) rfl (fun ls hl => ?_)
  refine lv_iconst (pc := 7) (v := 0) hx hb (dOk_at dX2_strokeOfBond 4 rfl) (by decide) ?_
  refine lv_istore (pc := 8) (lv' := [(8, .int 0), (7, .int (-9)), (6, .int fro), (0, .ref i0), (1, .int k), (2, .int fro), (3, .int to), (4, .int bf), (5, .int bs)]) hx hb (dOk_at dX2_strokeOfBond 5 rfl) hl (by decide) rfl (fun ls hl => ?_)
  obtain ⟨k0, hj0⟩ := hv
  exact lp10 k0 fro (-9) 0 hj0 _ _ _ hh (lv_sub hl [3, 4, 6, 7, 8, 2, 1, 0] rfl)
