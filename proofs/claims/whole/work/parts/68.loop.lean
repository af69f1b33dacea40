/-! the law: its loop -/
section LAW
variable {p : Program} {l : Launch} {e : Env} {s : State} {m : MethodId} {below : List Frame} {meth : Method} {c : Code} {Q : State → Prop}
variable {G : GT} {A : Nat → Prop} {b L j xa ma : Nat} {xs : Nat → Int32} {W0 : va_W} {H : Heap} {locs : List Loc} {ls : Array Slot}
theorem lix_of (hL : L ≤ 576) (hj : j + 9 ≤ L) : LIX j L := by
  have h : ∀ k, k < 9 → vp_in (nI (j + k)) L := fun k hk => by
    rw [vp_in, nI_clamp (by omega)]
    have h1 : ¬ nI (j + k) < 0 := by
      rw [Int32.lt_iff_toInt_lt, nI_toInt (by omega)]
      have z : (0 : Int32).toInt = 0 := by decide
      omega
    exact fun q => q.elim h1 (fun q => by omega)
  refine ⟨h 0 (by omega), ?_, ?_, ?_, ?_, ?_, ?_, ?_, ?_⟩
  · have := h 1 (by omega); rw [← nI_add] at this; exact this
  · have := h 2 (by omega); rw [← nI_add] at this; exact this
  · have := h 3 (by omega); rw [← nI_add] at this; exact this
  · have := h 4 (by omega); rw [← nI_add] at this; exact this
  · have := h 5 (by omega); rw [← nI_add] at this; exact this
  · have := h 6 (by omega); rw [← nI_add] at this; exact this
  · have := h 7 (by omega); rw [← nI_add] at this; exact this
  · have := h 8 (by omega); rw [← nI_add] at this; exact this
theorem lw_in (hL : L ≤ 576) (hj : j ≤ L) (h : ¬ Int32.ofNat L - 9 < nI j) : j + 9 ≤ L := by
  have z9 : (9 : Int32).toInt = 9 := by decide
  have e1 : (Int32.ofNat L).toInt = (L : Int) := nI_toInt (by omega)
  have e2 : (nI j).toInt = (j : Int) := nI_toInt (by omega)
  rw [Int32.lt_iff_toInt_lt, i32sub (by omega) (by omega), e1, e2, z9] at h
  omega
theorem law_loop (fx : FX G RL cL_law 4 (some .boolean) p s m #[.ref b] meth c A) (hX : va_X b L xs s s.heap) (hbl : b < s.heap.size) (hbA : ¬ A b) (hL : L ≤ 576)
    (kend : ∀ (H : Heap) (locs : List Loc) (ls : Array Slot), va_S A s.heap H locs → W p l e room_1 s m #[.ref b] below meth c H locs 44 936 Q (F0 m 1344 ls [])) :
    ∀ (n j : Nat) (W0 : va_W) (H : Heap) (locs : List Loc) (ls : Array Slot), j ≤ L → L < j + n → lv_has ls 4 (lwL b xa ma j) → INV G xa ma W0 → HP G A W0 s H locs → W p l e room_1 s m #[.ref b] below meth c H locs 44 936 Q (F0 m 18 ls []) := by
  have hx := fx.hx; have hb := fx.hb
  intro n
  induction n with
  | zero => intro j W0 H locs ls h1 h2; omega
  | succ n ih =>
    intro j W0 H locs ls h1 h2 hl hI hh
    refine lv_iload_n (pc := 18) hx hb (dOk_at dL_law_0 10 rfl) rfl (lv_at hl 3 rfl) ?_
    refine lv_aload_n (pc := 19) hx hb (dOk_at dL_law_0 11 rfl) rfl (lv_at hl 0 rfl) ?_
    refine va_slen (pc := 20) hx hb hX hbl hbA hh.2.2 (dOk_at dL_law_0 12 rfl) ?_
    refine lv_bipush (pc := 21) (v := 9) hx hb (dOk_at dL_law_0 13 rfl) rfl ?_
    refine lv_isub (pc := 23) hx hb (dOk_at dL_law_0 14 rfl) ?_
    refine lv_icmp_gt (pc := 24) (tgt := 1344) hx hb (dOk_at dL_law_0 15 rfl) (by decide) (fun _ => kend H locs ls hh.2.2) (fun c24 => ?_)
    have hj := lw_in hL h1 c24
    have hix := lix_of hL hj
    have kk : ∀ (W1 : va_W) (H : Heap) (locs : List Loc), INV G xa ma W1 → HP G A W1 s H locs → W p l e room_1 s m #[.ref b] below meth c H locs 44 936 Q (F0 m 1338 ls []) := by
      intro W1 H locs hI hh
      refine lv_iinc (pc := 1338) (v := nI (j + 9)) (lv' := [(3, .int (nI (j + 9))), (0, .ref b), (1, .ref xa), (2, .ref ma)]) hx hb (dOk_at dL_law_8 32 rfl) hl (k := 3) rfl (nI_add j 9) (by decide) rfl (fun ls hl => ?_)
      refine lv_goto (pc := 1341) (tgt := 18) hx hb (dOk_at dL_law_8 33 rfl) (by decide) ?_
      exact ih (j + 9) W1 H locs ls (by omega) (by omega) (lv_sub hl [1, 2, 3, 0] rfl) hI hh
    refine lv_aload_n (pc := 27) hx hb (dOk_at dL_law_0 16 rfl) rfl (lv_at hl 0 rfl) ?_
    refine lv_iload_n (pc := 28) hx hb (dOk_at dL_law_0 17 rfl) rfl (lv_at hl 3 rfl) ?_
    refine va_sld (pc := 29) hx hb hX hbl hbA hh.2.2 hix.1 (dOk_at dL_law_0 18 rfl) ?_
    refine lv_bipush (pc := 30) (v := 31) hx hb (dOk_at dL_law_0 19 rfl) rfl ?_
    refine lv_iand (pc := 32) hx hb (dOk_at dL_law_0 20 rfl) ?_
    generalize xs (nI j).toNatClampNeg &&& 31 = x
    by_cases c0 : x = 0
    · exact lv_tableIn (pc := 33) (tgt := 168) (off := 135) hx hb (dOk_at dL_law_0 21 rfl) (by rw [c0]; decide) (by rw [c0]; decide) (by rw [c0]; rfl) (by decide) (law_canal fx hX hbl hbA hix hl hI hh kk)
    by_cases c1 : x = 1
    · exact lv_tableIn (pc := 33) (tgt := 221) (off := 188) hx hb (dOk_at dL_law_0 21 rfl) (by rw [c1]; decide) (by rw [c1]; decide) (by rw [c1]; rfl) (by decide) (law_ofSkater fx hX hbl hbA hix hl hI hh kk)
    by_cases c2 : x = 2
    · exact lv_tableIn (pc := 33) (tgt := 254) (off := 221) hx hb (dOk_at dL_law_0 21 rfl) (by rw [c2]; decide) (by rw [c2]; decide) (by rw [c2]; rfl) (by decide) (law_strength fx hX hbl hbA hix hl hI hh kk)
    by_cases c3 : x = 3
    · exact lv_tableIn (pc := 33) (tgt := 277) (off := 244) hx hb (dOk_at dL_law_0 21 rfl) (by rw [c3]; decide) (by rw [c3]; decide) (by rw [c3]; rfl) (by decide) (law_freeze fx hX hbl hbA hix hl hI hh kk)
    by_cases c4 : x = 4
    · exact lv_tableIn (pc := 33) (tgt := 310) (off := 277) hx hb (dOk_at dL_law_0 21 rfl) (by rw [c4]; decide) (by rw [c4]; decide) (by rw [c4]; rfl) (by decide) (law_frost fx hX hbl hbA hix hl hI hh kk)
    by_cases c5 : x = 5
    · exact lv_tableIn (pc := 33) (tgt := 333) (off := 300) hx hb (dOk_at dL_law_0 21 rfl) (by rw [c5]; decide) (by rw [c5]; decide) (by rw [c5]; rfl) (by decide) (law_deed fx hX hbl hbA hix hl hI hh kk)
    by_cases c6 : x = 6
    · exact lv_tableIn (pc := 33) (tgt := 432) (off := 399) hx hb (dOk_at dL_law_0 21 rfl) (by rw [c6]; decide) (by rw [c6]; decide) (by rw [c6]; rfl) (by decide) (law_write fx hX hbl hbA hix hl hI hh kk)
    by_cases c7 : x = 7
    · exact lv_tableIn (pc := 33) (tgt := 519) (off := 486) hx hb (dOk_at dL_law_0 21 rfl) (by rw [c7]; decide) (by rw [c7]; decide) (by rw [c7]; rfl) (by decide) (law_nights fx hX hbl hbA hix hl hI hh kk)
    by_cases c8 : x = 8
    · exact lv_tableIn (pc := 33) (tgt := 542) (off := 509) hx hb (dOk_at dL_law_0 21 rfl) (by rw [c8]; decide) (by rw [c8]; decide) (by rw [c8]; rfl) (by decide) (law_thaw fx hX hbl hbA hix hl hI hh kk)
    by_cases c9 : x = 9
    · exact lv_tableIn (pc := 33) (tgt := 565) (off := 532) hx hb (dOk_at dL_law_0 21 rfl) (by rw [c9]; decide) (by rw [c9]; decide) (by rw [c9]; rfl) (by decide) (law_bond fx hX hbl hbA hix hl hI hh kk)
    by_cases c10 : x = 10
    · exact lv_tableIn (pc := 33) (tgt := 628) (off := 595) hx hb (dOk_at dL_law_0 21 rfl) (by rw [c10]; decide) (by rw [c10]; decide) (by rw [c10]; rfl) (by decide) (law_holds fx hX hbl hbA hix hl hI hh kk)
    by_cases c11 : x = 11
    · exact lv_tableIn (pc := 33) (tgt := 681) (off := 648) hx hb (dOk_at dL_law_0 21 rfl) (by rw [c11]; decide) (by rw [c11]; decide) (by rw [c11]; rfl) (by decide) (law_alone fx hX hbl hbA hix hl hI hh kk)
    by_cases c12 : x = 12
    · exact lv_tableIn (pc := 33) (tgt := 714) (off := 681) hx hb (dOk_at dL_law_0 21 rfl) (by rw [c12]; decide) (by rw [c12]; decide) (by rw [c12]; rfl) (by decide) (law_neck fx hX hbl hbA hix hl hI hh kk)
    by_cases c13 : x = 13
    · exact lv_tableIn (pc := 33) (tgt := 767) (off := 734) hx hb (dOk_at dL_law_0 21 rfl) (by rw [c13]; decide) (by rw [c13]; decide) (by rw [c13]; rfl) (by decide) (law_reading fx hX hbl hbA hix hl hI hh kk)
    by_cases c14 : x = 14
    · exact lv_tableIn (pc := 33) (tgt := 826) (off := 793) hx hb (dOk_at dL_law_0 21 rfl) (by rw [c14]; decide) (by rw [c14]; decide) (by rw [c14]; rfl) (by decide) (law_back fx hX hbl hbA hix hl hI hh kk)
    by_cases c15 : x = 15
    · exact lv_tableIn (pc := 33) (tgt := 849) (off := 816) hx hb (dOk_at dL_law_0 21 rfl) (by rw [c15]; decide) (by rw [c15]; decide) (by rw [c15]; rfl) (by decide) (law_weights fx hX hbl hbA hix hl hI hh kk)
    by_cases c16 : x = 16
    · exact lv_tableIn (pc := 33) (tgt := 872) (off := 839) hx hb (dOk_at dL_law_0 21 rfl) (by rw [c16]; decide) (by rw [c16]; decide) (by rw [c16]; rfl) (by decide) (law_kinds fx hX hbl hbA hix hl hI hh kk)
    by_cases c17 : x = 17
    · exact lv_tableIn (pc := 33) (tgt := 895) (off := 862) hx hb (dOk_at dL_law_0 21 rfl) (by rw [c17]; decide) (by rw [c17]; decide) (by rw [c17]; rfl) (by decide) (law_strengths fx hX hbl hbA hix hl hI hh kk)
    by_cases c18 : x = 18
    · exact lv_tableIn (pc := 33) (tgt := 918) (off := 885) hx hb (dOk_at dL_law_0 21 rfl) (by rw [c18]; decide) (by rw [c18]; decide) (by rw [c18]; rfl) (by decide) (law_odds fx hX hbl hbA hix hl hI hh kk)
    by_cases c19 : x = 19
    · exact lv_tableIn (pc := 33) (tgt := 994) (off := 961) hx hb (dOk_at dL_law_0 21 rfl) (by rw [c19]; decide) (by rw [c19]; decide) (by rw [c19]; rfl) (by decide) (law_sheet fx hX hbl hbA hix hl hI hh kk)
    by_cases c20 : x = 20
    · exact lv_tableIn (pc := 33) (tgt := 1037) (off := 1004) hx hb (dOk_at dL_law_0 21 rfl) (by rw [c20]; decide) (by rw [c20]; decide) (by rw [c20]; rfl) (by decide) (law_lose fx hX hbl hbA hix hl hI hh kk)
    by_cases c21 : x = 21
    · exact lv_tableIn (pc := 33) (tgt := 1060) (off := 1027) hx hb (dOk_at dL_law_0 21 rfl) (by rw [c21]; decide) (by rw [c21]; decide) (by rw [c21]; rfl) (by decide) (law_put fx hX hbl hbA hix hl hI hh kk)
    by_cases c22 : x = 22
    · exact lv_tableIn (pc := 33) (tgt := 1103) (off := 1070) hx hb (dOk_at dL_law_0 21 rfl) (by rw [c22]; decide) (by rw [c22]; decide) (by rw [c22]; rfl) (by decide) (law_cell fx hX hbl hbA hix hl hI hh kk)
    by_cases c23 : x = 23
    · exact lv_tableIn (pc := 33) (tgt := 1147) (off := 1114) hx hb (dOk_at dL_law_0 21 rfl) (by rw [c23]; decide) (by rw [c23]; decide) (by rw [c23]; rfl) (by decide) (law_copy fx hX hbl hbA hix hl hI hh kk)
    by_cases c24 : x = 24
    · exact lv_tableIn (pc := 33) (tgt := 1210) (off := 1177) hx hb (dOk_at dL_law_0 21 rfl) (by rw [c24]; decide) (by rw [c24]; decide) (by rw [c24]; rfl) (by decide) (law_tell fx hX hbl hbA hix hl hI hh kk)
    by_cases c25 : x = 25
    · exact lv_tableIn (pc := 33) (tgt := 1233) (off := 1200) hx hb (dOk_at dL_law_0 21 rfl) (by rw [c25]; decide) (by rw [c25]; decide) (by rw [c25]; rfl) (by decide) (law_signed fx hX hbl hbA hix hl hI hh kk)
    by_cases c26 : x = 26
    · exact lv_tableIn (pc := 33) (tgt := 1256) (off := 1223) hx hb (dOk_at dL_law_0 21 rfl) (by rw [c26]; decide) (by rw [c26]; decide) (by rw [c26]; rfl) (by decide) (law_as fx hX hbl hbA hix hl hI hh kk)
    by_cases c27 : x = 27
    · exact lv_tableIn (pc := 33) (tgt := 1289) (off := 1256) hx hb (dOk_at dL_law_0 21 rfl) (by rw [c27]; decide) (by rw [c27]; decide) (by rw [c27]; rfl) (by decide) (law_trace fx hX hbl hbA hix hl hI hh kk)
    by_cases c28 : x = 28
    · exact lv_tableIn (pc := 33) (tgt := 1302) (off := 1269) hx hb (dOk_at dL_law_0 21 rfl) (by rw [c28]; decide) (by rw [c28]; decide) (by rw [c28]; rfl) (by decide) (law_fault fx hX hbl hbA hix hl hI hh kk)
    by_cases c29 : x = 29
    · exact lv_tableIn (pc := 33) (tgt := 1315) (off := 1282) hx hb (dOk_at dL_law_0 21 rfl) (by rw [c29]; decide) (by rw [c29]; decide) (by rw [c29]; rfl) (by decide) (law_many fx hX hbl hbA hix hl hI hh kk)
    exact lv_tableOut (pc := 33) (tgt := 1338) hx hb (dOk_at dL_law_0 21 rfl) (by have w0 := sw_ne c0 (b := 0) (by decide); have w1 := sw_ne c1 (b := 1) (by decide); have w2 := sw_ne c2 (b := 2) (by decide); have w3 := sw_ne c3 (b := 3) (by decide); have w4 := sw_ne c4 (b := 4) (by decide); have w5 := sw_ne c5 (b := 5) (by decide); have w6 := sw_ne c6 (b := 6) (by decide); have w7 := sw_ne c7 (b := 7) (by decide); have w8 := sw_ne c8 (b := 8) (by decide); have w9 := sw_ne c9 (b := 9) (by decide); have w10 := sw_ne c10 (b := 10) (by decide); have w11 := sw_ne c11 (b := 11) (by decide); have w12 := sw_ne c12 (b := 12) (by decide); have w13 := sw_ne c13 (b := 13) (by decide); have w14 := sw_ne c14 (b := 14) (by decide); have w15 := sw_ne c15 (b := 15) (by decide); have w16 := sw_ne c16 (b := 16) (by decide); have w17 := sw_ne c17 (b := 17) (by decide); have w18 := sw_ne c18 (b := 18) (by decide); have w19 := sw_ne c19 (b := 19) (by decide); have w20 := sw_ne c20 (b := 20) (by decide); have w21 := sw_ne c21 (b := 21) (by decide); have w22 := sw_ne c22 (b := 22) (by decide); have w23 := sw_ne c23 (b := 23) (by decide); have w24 := sw_ne c24 (b := 24) (by decide); have w25 := sw_ne c25 (b := 25) (by decide); have w26 := sw_ne c26 (b := 26) (by decide); have w27 := sw_ne c27 (b := 27) (by decide); have w28 := sw_ne c28 (b := 28) (by decide); have w29 := sw_ne c29 (b := 29) (by decide); omega) (by decide) (kk W0 H locs hI hh)
end LAW
