/-! the law: one call of the script, of class and reference -/
abbrev lwL (b xa ma j : Nat) : List (Nat × Value) := [(0, .ref b), (1, .ref xa), (2, .ref ma), (3, .int (nI j))]
def LIX (j L : Nat) : Prop := vp_in (nI j) L ∧ vp_in (nI j + 1) L ∧ vp_in (nI j + 2) L ∧ vp_in (nI j + 3) L ∧ vp_in (nI j + 4) L ∧ vp_in (nI j + 5) L ∧ vp_in (nI j + 6) L ∧ vp_in (nI j + 7) L ∧ vp_in (nI j + 8) L
section LAW
variable {p : Program} {l : Launch} {e : Env} {s : State} {m : MethodId} {below : List Frame} {meth : Method} {c : Code} {Q : State → Prop}
variable {G : GT} {A : Nat → Prop} {b L j xa ma : Nat} {xs : Nat → Int32} {W0 : va_W} {H : Heap} {locs : List Loc} {ls : Array Slot}
theorem law_canal (fx : FX G RL cL_law 4 (some .boolean) p s m #[.ref b] meth c A) (hX : va_X b L xs s s.heap) (hbl : b < s.heap.size) (hbA : ¬ A b) (hix : LIX j L) (hl : lv_has ls 4 (lwL b xa ma j)) (hI : INV G xa ma W0) (hh : HP G A W0 s H locs) (kk : ∀ (W1 : va_W) (H : Heap) (locs : List Loc), INV G xa ma W1 → HP G A W1 s H locs → W p l e room_1 s m #[.ref b] below meth c H locs 44 936 Q (F0 m 1338 ls [])) : W p l e room_1 s m #[.ref b] below meth c H locs 44 936 Q (F0 m 168 ls []) := by
  have hx := fx.hx; have hb := fx.hb
  refine lv_aload_n (pc := 168) hx hb (dOk_at dL_law_0 22 rfl) rfl (lv_at hl 1 rfl) ?_
  refine lv_aload_n (pc := 169) hx hb (dOk_at dL_law_0 23 rfl) rfl (lv_at hl 0 rfl) ?_
  refine lv_iload_n (pc := 170) hx hb (dOk_at dL_law_0 24 rfl) rfl (lv_at hl 3 rfl) ?_
  refine lv_iconst (pc := 171) (v := 1) hx hb (dOk_at dL_law_0 25 rfl) rfl ?_
  refine lv_iadd (pc := 172) hx hb (dOk_at dL_law_0 26 rfl) ?_
  refine va_sld (pc := 173) hx hb hX hbl hbA hh.2.2 hix.2.1 (dOk_at dL_law_0 27 rfl) ?_
  refine lv_aload_n (pc := 174) hx hb (dOk_at dL_law_0 28 rfl) rfl (lv_at hl 0 rfl) ?_
  refine lv_iload_n (pc := 175) hx hb (dOk_at dL_law_0 29 rfl) rfl (lv_at hl 3 rfl) ?_
  refine lv_iconst (pc := 176) (v := 2) hx hb (dOk_at dL_law_0 30 rfl) rfl ?_
  refine lv_iadd (pc := 177) hx hb (dOk_at dL_law_0 31 rfl) ?_
  refine va_sld (pc := 178) hx hb hX hbl hbA hh.2.2 hix.2.2.1 (dOk_at dL_law_0 32 rfl) ?_
  refine lv_aload_n (pc := 179) hx hb (dOk_at dL_law_0 33 rfl) rfl (lv_at hl 0 rfl) ?_
  refine lv_iload_n (pc := 180) hx hb (dOk_at dL_law_0 34 rfl) rfl (lv_at hl 3 rfl) ?_
  refine lv_iconst (pc := 181) (v := 3) hx hb (dOk_at dL_law_0 35 rfl) rfl ?_
  refine lv_iadd (pc := 182) hx hb (dOk_at dL_law_0 36 rfl) ?_
  refine va_sld (pc := 183) hx hb hX hbl hbA hh.2.2 hix.2.2.2.1 (dOk_at dL_law_0 37 rfl) ?_
  refine lv_aload_n (pc := 184) hx hb (dOk_at dL_law_0 38 rfl) rfl (lv_at hl 0 rfl) ?_
  refine lv_iload_n (pc := 185) hx hb (dOk_at dL_law_0 39 rfl) rfl (lv_at hl 3 rfl) ?_
  refine lv_iconst (pc := 186) (v := 4) hx hb (dOk_at dL_law_0 40 rfl) rfl ?_
  refine lv_iadd (pc := 187) hx hb (dOk_at dL_law_0 41 rfl) ?_
  refine va_sld (pc := 188) hx hb hX hbl hbA hh.2.2 hix.2.2.2.2.1 (dOk_at dL_law_0 42 rfl) ?_
  obtain ⟨r, P, hx1, hm1⟩ := st_canal l G hI (xs (nI j + 1).toNatClampNeg) (xs (nI j + 2).toNatClampNeg) (xs (nI j + 3).toNatClampNeg) (xs (nI j + 4).toNatClampNeg)
  obtain ⟨fs0, hw0⟩ := hI.at0
  refine cl_W (pc := 189) (As := [.int (xs (nI j + 1).toNatClampNeg), .int (xs (nI j + 2).toNatClampNeg), .int (xs (nI j + 3).toNatClampNeg), .int (xs (nI j + 4).toNatClampNeg)]) (rest := []) fx hh hl.1 hx1 yV_X6_canal tML_13 ⟨rfl, rfl, Nat.le_of_ble_eq_true rfl, Nat.le_of_ble_eq_true rfl⟩ 0 6 hw0 rfl rfl rfl rfl (Nat.le_of_ble_eq_true rfl) ⟨Nat.le_of_ble_eq_true rfl, Nat.le_of_ble_eq_true rfl⟩ (dOk_at dL_law_0 43 rfl) (fun W1 H locs hp1 hh => ?_)
  obtain ⟨⟨fs1, hw1⟩, hm2⟩ := hm1 W1 hp1
  refine lv_aload_n (pc := 192) hx hb (dOk_at dL_law_0 44 rfl) rfl (lv_at hl 2 rfl) ?_
  refine lv_aload_n (pc := 193) hx hb (dOk_at dL_law_0 45 rfl) rfl (lv_at hl 0 rfl) ?_
  refine lv_iload_n (pc := 194) hx hb (dOk_at dL_law_0 46 rfl) rfl (lv_at hl 3 rfl) ?_
  refine lv_iconst (pc := 195) (v := 1) hx hb (dOk_at dL_law_0 47 rfl) rfl ?_
  refine lv_iadd (pc := 196) hx hb (dOk_at dL_law_0 48 rfl) ?_
  refine va_sld (pc := 197) hx hb hX hbl hbA hh.2.2 hix.2.1 (dOk_at dL_law_0 49 rfl) ?_
  refine lv_aload_n (pc := 198) hx hb (dOk_at dL_law_0 50 rfl) rfl (lv_at hl 0 rfl) ?_
  refine lv_iload_n (pc := 199) hx hb (dOk_at dL_law_0 51 rfl) rfl (lv_at hl 3 rfl) ?_
  refine lv_iconst (pc := 200) (v := 2) hx hb (dOk_at dL_law_0 52 rfl) rfl ?_
  refine lv_iadd (pc := 201) hx hb (dOk_at dL_law_0 53 rfl) ?_
  refine va_sld (pc := 202) hx hb hX hbl hbA hh.2.2 hix.2.2.1 (dOk_at dL_law_0 54 rfl) ?_
  refine lv_aload_n (pc := 203) hx hb (dOk_at dL_law_0 55 rfl) rfl (lv_at hl 0 rfl) ?_
  refine lv_iload_n (pc := 204) hx hb (dOk_at dL_law_0 56 rfl) rfl (lv_at hl 3 rfl) ?_
  refine lv_iconst (pc := 205) (v := 3) hx hb (dOk_at dL_law_0 57 rfl) rfl ?_
  refine lv_iadd (pc := 206) hx hb (dOk_at dL_law_0 58 rfl) ?_
  refine va_sld (pc := 207) hx hb hX hbl hbA hh.2.2 hix.2.2.2.1 (dOk_at dL_law_0 59 rfl) ?_
  refine lv_aload_n (pc := 208) hx hb (dOk_at dL_law_0 60 rfl) rfl (lv_at hl 0 rfl) ?_
  refine lv_iload_n (pc := 209) hx hb (dOk_at dL_law_0 61 rfl) rfl (lv_at hl 3 rfl) ?_
  refine lv_iconst (pc := 210) (v := 4) hx hb (dOk_at dL_law_0 62 rfl) rfl ?_
  refine lv_iadd (pc := 211) hx hb (dOk_at dL_law_0 63 rfl) ?_
  refine va_sld (pc := 212) hx hb hX hbl hbA hh.2.2 hix.2.2.2.2.1 (dOk_at dL_law_0 64 rfl) ?_
  refine cl_W (pc := 213) (As := [.int (xs (nI j + 1).toNatClampNeg), .int (xs (nI j + 2).toNatClampNeg), .int (xs (nI j + 3).toNatClampNeg), .int (xs (nI j + 4).toNatClampNeg)]) (rest := [.int r]) fx hh hl.1 hm2 yV_X7_canal tML_17 ⟨rfl, rfl, Nat.le_of_ble_eq_true rfl, Nat.le_of_ble_eq_true rfl⟩ 28 7 hw1 rfl rfl rfl rfl (Nat.le_of_ble_eq_true rfl) ⟨Nat.le_of_ble_eq_true rfl, Nat.le_of_ble_eq_true rfl⟩ (dOk_at dL_law_0 65 rfl) (fun W2 H locs hI2 hh => ?_)
  exact lv_icmp_eq (pc := 216) (tgt := 1338) hx hb (dOk_at dL_law_0 66 rfl) (by decide) (fun _ => kk W2 H locs hI2 hh) (fun c2 => absurd rfl c2)
theorem law_ofSkater (fx : FX G RL cL_law 4 (some .boolean) p s m #[.ref b] meth c A) (hX : va_X b L xs s s.heap) (hbl : b < s.heap.size) (hbA : ¬ A b) (hix : LIX j L) (hl : lv_has ls 4 (lwL b xa ma j)) (hI : INV G xa ma W0) (hh : HP G A W0 s H locs) (kk : ∀ (W1 : va_W) (H : Heap) (locs : List Loc), INV G xa ma W1 → HP G A W1 s H locs → W p l e room_1 s m #[.ref b] below meth c H locs 44 936 Q (F0 m 1338 ls [])) : W p l e room_1 s m #[.ref b] below meth c H locs 44 936 Q (F0 m 221 ls []) := by
  have hx := fx.hx; have hb := fx.hb
  refine lv_aload_n (pc := 221) hx hb (dOk_at dL_law_0 69 rfl) rfl (lv_at hl 1 rfl) ?_
  refine lv_aload_n (pc := 222) hx hb (dOk_at dL_law_0 70 rfl) rfl (lv_at hl 0 rfl) ?_
  refine lv_iload_n (pc := 223) hx hb (dOk_at dL_law_0 71 rfl) rfl (lv_at hl 3 rfl) ?_
  refine lv_iconst (pc := 224) (v := 1) hx hb (dOk_at dL_law_0 72 rfl) rfl ?_
  refine lv_iadd (pc := 225) hx hb (dOk_at dL_law_0 73 rfl) ?_
  refine va_sld (pc := 226) hx hb hX hbl hbA hh.2.2 hix.2.1 (dOk_at dL_law_0 74 rfl) ?_
  refine lv_aload_n (pc := 227) hx hb (dOk_at dL_law_0 75 rfl) rfl (lv_at hl 0 rfl) ?_
  refine lv_iload_n (pc := 228) hx hb (dOk_at dL_law_0 76 rfl) rfl (lv_at hl 3 rfl) ?_
  refine lv_iconst (pc := 229) (v := 2) hx hb (dOk_at dL_law_0 77 rfl) rfl ?_
  refine lv_iadd (pc := 230) hx hb (dOk_at dL_law_0 78 rfl) ?_
  refine va_sld (pc := 231) hx hb hX hbl hbA hh.2.2 hix.2.2.1 (dOk_at dL_law_0 79 rfl) ?_
  obtain ⟨r, P, hx1, hm1⟩ := st_ofSkater l G hI (xs (nI j + 1).toNatClampNeg) (xs (nI j + 2).toNatClampNeg)
  obtain ⟨fs0, hw0⟩ := hI.at0
  refine cl_W (pc := 232) (As := [.int (xs (nI j + 1).toNatClampNeg), .int (xs (nI j + 2).toNatClampNeg)]) (rest := []) fx hh hl.1 hx1 yV_X6_ofSkater tML_18 ⟨rfl, rfl, Nat.le_of_ble_eq_true rfl, Nat.le_of_ble_eq_true rfl⟩ 0 6 hw0 rfl rfl rfl rfl (Nat.le_of_ble_eq_true rfl) ⟨Nat.le_of_ble_eq_true rfl, Nat.le_of_ble_eq_true rfl⟩ (dOk_at dL_law_0 80 rfl) (fun W1 H locs hp1 hh => ?_)
  obtain ⟨⟨fs1, hw1⟩, hm2⟩ := hm1 W1 hp1
  refine lv_aload_n (pc := 235) hx hb (dOk_at dL_law_0 81 rfl) rfl (lv_at hl 2 rfl) ?_
  refine lv_aload_n (pc := 236) hx hb (dOk_at dL_law_0 82 rfl) rfl (lv_at hl 0 rfl) ?_
  refine lv_iload_n (pc := 237) hx hb (dOk_at dL_law_0 83 rfl) rfl (lv_at hl 3 rfl) ?_
  refine lv_iconst (pc := 238) (v := 1) hx hb (dOk_at dL_law_0 84 rfl) rfl ?_
  refine lv_iadd (pc := 239) hx hb (dOk_at dL_law_0 85 rfl) ?_
  refine va_sld (pc := 240) hx hb hX hbl hbA hh.2.2 hix.2.1 (dOk_at dL_law_0 86 rfl) ?_
  refine lv_aload_n (pc := 241) hx hb (dOk_at dL_law_0 87 rfl) rfl (lv_at hl 0 rfl) ?_
  refine lv_iload_n (pc := 242) hx hb (dOk_at dL_law_0 88 rfl) rfl (lv_at hl 3 rfl) ?_
  refine lv_iconst (pc := 243) (v := 2) hx hb (dOk_at dL_law_0 89 rfl) rfl ?_
  refine lv_iadd (pc := 244) hx hb (dOk_at dL_law_0 90 rfl) ?_
  refine va_sld (pc := 245) hx hb hX hbl hbA hh.2.2 hix.2.2.1 (dOk_at dL_law_0 91 rfl) ?_
  refine cl_W (pc := 246) (As := [.int (xs (nI j + 1).toNatClampNeg), .int (xs (nI j + 2).toNatClampNeg)]) (rest := [.int r]) fx hh hl.1 hm2 yV_X7_ofSkater tML_22 ⟨rfl, rfl, Nat.le_of_ble_eq_true rfl, Nat.le_of_ble_eq_true rfl⟩ 28 7 hw1 rfl rfl rfl rfl (Nat.le_of_ble_eq_true rfl) ⟨Nat.le_of_ble_eq_true rfl, Nat.le_of_ble_eq_true rfl⟩ (dOk_at dL_law_0 92 rfl) (fun W2 H locs hI2 hh => ?_)
  exact lv_icmp_eq (pc := 249) (tgt := 1338) hx hb (dOk_at dL_law_0 93 rfl) (by decide) (fun _ => kk W2 H locs hI2 hh) (fun c2 => absurd rfl c2)
theorem law_strength (fx : FX G RL cL_law 4 (some .boolean) p s m #[.ref b] meth c A) (hX : va_X b L xs s s.heap) (hbl : b < s.heap.size) (hbA : ¬ A b) (hix : LIX j L) (hl : lv_has ls 4 (lwL b xa ma j)) (hI : INV G xa ma W0) (hh : HP G A W0 s H locs) (kk : ∀ (W1 : va_W) (H : Heap) (locs : List Loc), INV G xa ma W1 → HP G A W1 s H locs → W p l e room_1 s m #[.ref b] below meth c H locs 44 936 Q (F0 m 1338 ls [])) : W p l e room_1 s m #[.ref b] below meth c H locs 44 936 Q (F0 m 254 ls []) := by
  have hx := fx.hx; have hb := fx.hb
  refine lv_aload_n (pc := 254) hx hb (dOk_at dL_law_0 96 rfl) rfl (lv_at hl 1 rfl) ?_
  refine lv_aload_n (pc := 255) hx hb (dOk_at dL_law_0 97 rfl) rfl (lv_at hl 0 rfl) ?_
  refine lv_iload_n (pc := 256) hx hb (dOk_at dL_law_0 98 rfl) rfl (lv_at hl 3 rfl) ?_
  refine lv_iconst (pc := 257) (v := 1) hx hb (dOk_at dL_law_0 99 rfl) rfl ?_
  refine lv_iadd (pc := 258) hx hb (dOk_at dL_law_0 100 rfl) ?_
  refine va_sld (pc := 259) hx hb hX hbl hbA hh.2.2 hix.2.1 (dOk_at dL_law_0 101 rfl) ?_
  obtain ⟨r, P, hx1, hm1⟩ := st_strength l G hI (xs (nI j + 1).toNatClampNeg)
  obtain ⟨fs0, hw0⟩ := hI.at0
  refine cl_W (pc := 260) (As := [.int (xs (nI j + 1).toNatClampNeg)]) (rest := []) fx hh hl.1 hx1 yV_X6_strength tML_23 ⟨rfl, rfl, Nat.le_of_ble_eq_true rfl, Nat.le_of_ble_eq_true rfl⟩ 0 6 hw0 rfl rfl rfl rfl (Nat.le_of_ble_eq_true rfl) ⟨Nat.le_of_ble_eq_true rfl, Nat.le_of_ble_eq_true rfl⟩ (dOk_at dL_law_0 102 rfl) (fun W1 H locs hp1 hh => ?_)
  obtain ⟨⟨fs1, hw1⟩, hm2⟩ := hm1 W1 hp1
  refine lv_aload_n (pc := 263) hx hb (dOk_at dL_law_0 103 rfl) rfl (lv_at hl 2 rfl) ?_
  refine lv_aload_n (pc := 264) hx hb (dOk_at dL_law_0 104 rfl) rfl (lv_at hl 0 rfl) ?_
  refine lv_iload_n (pc := 265) hx hb (dOk_at dL_law_0 105 rfl) rfl (lv_at hl 3 rfl) ?_
  refine lv_iconst (pc := 266) (v := 1) hx hb (dOk_at dL_law_0 106 rfl) rfl ?_
  refine lv_iadd (pc := 267) hx hb (dOk_at dL_law_0 107 rfl) ?_
  refine va_sld (pc := 268) hx hb hX hbl hbA hh.2.2 hix.2.1 (dOk_at dL_law_0 108 rfl) ?_
  refine cl_W (pc := 269) (As := [.int (xs (nI j + 1).toNatClampNeg)]) (rest := [.int r]) fx hh hl.1 hm2 yV_X7_strength tML_27 ⟨rfl, rfl, Nat.le_of_ble_eq_true rfl, Nat.le_of_ble_eq_true rfl⟩ 28 7 hw1 rfl rfl rfl rfl (Nat.le_of_ble_eq_true rfl) ⟨Nat.le_of_ble_eq_true rfl, Nat.le_of_ble_eq_true rfl⟩ (dOk_at dL_law_0 109 rfl) (fun W2 H locs hI2 hh => ?_)
  exact lv_icmp_eq (pc := 272) (tgt := 1338) hx hb (dOk_at dL_law_0 110 rfl) (by decide) (fun _ => kk W2 H locs hI2 hh) (fun c2 => absurd rfl c2)
theorem law_freeze (fx : FX G RL cL_law 4 (some .boolean) p s m #[.ref b] meth c A) (hX : va_X b L xs s s.heap) (hbl : b < s.heap.size) (hbA : ¬ A b) (hix : LIX j L) (hl : lv_has ls 4 (lwL b xa ma j)) (hI : INV G xa ma W0) (hh : HP G A W0 s H locs) (kk : ∀ (W1 : va_W) (H : Heap) (locs : List Loc), INV G xa ma W1 → HP G A W1 s H locs → W p l e room_1 s m #[.ref b] below meth c H locs 44 936 Q (F0 m 1338 ls [])) : W p l e room_1 s m #[.ref b] below meth c H locs 44 936 Q (F0 m 277 ls []) := by
  have hx := fx.hx; have hb := fx.hb
  refine lv_aload_n (pc := 277) hx hb (dOk_at dL_law_0 113 rfl) rfl (lv_at hl 1 rfl) ?_
  refine lv_aload_n (pc := 278) hx hb (dOk_at dL_law_0 114 rfl) rfl (lv_at hl 0 rfl) ?_
  refine lv_iload_n (pc := 279) hx hb (dOk_at dL_law_0 115 rfl) rfl (lv_at hl 3 rfl) ?_
  refine lv_iconst (pc := 280) (v := 1) hx hb (dOk_at dL_law_0 116 rfl) rfl ?_
  refine lv_iadd (pc := 281) hx hb (dOk_at dL_law_0 117 rfl) ?_
  refine va_sld (pc := 282) hx hb hX hbl hbA hh.2.2 hix.2.1 (dOk_at dL_law_0 118 rfl) ?_
  refine lv_aload_n (pc := 283) hx hb (dOk_at dL_law_0 119 rfl) rfl (lv_at hl 0 rfl) ?_
  refine lv_iload_n (pc := 284) hx hb (dOk_at dL_law_1 0 rfl) rfl (lv_at hl 3 rfl) ?_
  refine lv_iconst (pc := 285) (v := 2) hx hb (dOk_at dL_law_1 1 rfl) rfl ?_
  refine lv_iadd (pc := 286) hx hb (dOk_at dL_law_1 2 rfl) ?_
  refine va_sld (pc := 287) hx hb hX hbl hbA hh.2.2 hix.2.2.1 (dOk_at dL_law_1 3 rfl) ?_
  obtain ⟨r, P, hx1, hm1⟩ := st_freeze l G hI (xs (nI j + 1).toNatClampNeg) (xs (nI j + 2).toNatClampNeg)
  obtain ⟨fs0, hw0⟩ := hI.at0
  refine cl_W (pc := 288) (As := [.int (xs (nI j + 1).toNatClampNeg), .int (xs (nI j + 2).toNatClampNeg)]) (rest := []) fx hh hl.1 hx1 yV_X6_freeze tML_28 ⟨rfl, rfl, Nat.le_of_ble_eq_true rfl, Nat.le_of_ble_eq_true rfl⟩ 0 6 hw0 rfl rfl rfl rfl (Nat.le_of_ble_eq_true rfl) ⟨Nat.le_of_ble_eq_true rfl, Nat.le_of_ble_eq_true rfl⟩ (dOk_at dL_law_1 4 rfl) (fun W1 H locs hp1 hh => ?_)
  obtain ⟨⟨fs1, hw1⟩, hm2⟩ := hm1 W1 hp1
  refine lv_aload_n (pc := 291) hx hb (dOk_at dL_law_1 5 rfl) rfl (lv_at hl 2 rfl) ?_
  refine lv_aload_n (pc := 292) hx hb (dOk_at dL_law_1 6 rfl) rfl (lv_at hl 0 rfl) ?_
  refine lv_iload_n (pc := 293) hx hb (dOk_at dL_law_1 7 rfl) rfl (lv_at hl 3 rfl) ?_
  refine lv_iconst (pc := 294) (v := 1) hx hb (dOk_at dL_law_1 8 rfl) rfl ?_
  refine lv_iadd (pc := 295) hx hb (dOk_at dL_law_1 9 rfl) ?_
  refine va_sld (pc := 296) hx hb hX hbl hbA hh.2.2 hix.2.1 (dOk_at dL_law_1 10 rfl) ?_
  refine lv_aload_n (pc := 297) hx hb (dOk_at dL_law_1 11 rfl) rfl (lv_at hl 0 rfl) ?_
  refine lv_iload_n (pc := 298) hx hb (dOk_at dL_law_1 12 rfl) rfl (lv_at hl 3 rfl) ?_
  refine lv_iconst (pc := 299) (v := 2) hx hb (dOk_at dL_law_1 13 rfl) rfl ?_
  refine lv_iadd (pc := 300) hx hb (dOk_at dL_law_1 14 rfl) ?_
  refine va_sld (pc := 301) hx hb hX hbl hbA hh.2.2 hix.2.2.1 (dOk_at dL_law_1 15 rfl) ?_
  refine cl_W (pc := 302) (As := [.int (xs (nI j + 1).toNatClampNeg), .int (xs (nI j + 2).toNatClampNeg)]) (rest := [.int r]) fx hh hl.1 hm2 yV_X7_freeze tML_31 ⟨rfl, rfl, Nat.le_of_ble_eq_true rfl, Nat.le_of_ble_eq_true rfl⟩ 28 7 hw1 rfl rfl rfl rfl (Nat.le_of_ble_eq_true rfl) ⟨Nat.le_of_ble_eq_true rfl, Nat.le_of_ble_eq_true rfl⟩ (dOk_at dL_law_1 16 rfl) (fun W2 H locs hI2 hh => ?_)
  exact lv_icmp_eq (pc := 305) (tgt := 1338) hx hb (dOk_at dL_law_1 17 rfl) (by decide) (fun _ => kk W2 H locs hI2 hh) (fun c2 => absurd rfl c2)
theorem law_frost (fx : FX G RL cL_law 4 (some .boolean) p s m #[.ref b] meth c A) (hX : va_X b L xs s s.heap) (hbl : b < s.heap.size) (hbA : ¬ A b) (hix : LIX j L) (hl : lv_has ls 4 (lwL b xa ma j)) (hI : INV G xa ma W0) (hh : HP G A W0 s H locs) (kk : ∀ (W1 : va_W) (H : Heap) (locs : List Loc), INV G xa ma W1 → HP G A W1 s H locs → W p l e room_1 s m #[.ref b] below meth c H locs 44 936 Q (F0 m 1338 ls [])) : W p l e room_1 s m #[.ref b] below meth c H locs 44 936 Q (F0 m 310 ls []) := by
  have hx := fx.hx; have hb := fx.hb
  refine lv_aload_n (pc := 310) hx hb (dOk_at dL_law_1 20 rfl) rfl (lv_at hl 1 rfl) ?_
  refine lv_aload_n (pc := 311) hx hb (dOk_at dL_law_1 21 rfl) rfl (lv_at hl 0 rfl) ?_
  refine lv_iload_n (pc := 312) hx hb (dOk_at dL_law_1 22 rfl) rfl (lv_at hl 3 rfl) ?_
  refine lv_iconst (pc := 313) (v := 1) hx hb (dOk_at dL_law_1 23 rfl) rfl ?_
  refine lv_iadd (pc := 314) hx hb (dOk_at dL_law_1 24 rfl) ?_
  refine va_sld (pc := 315) hx hb hX hbl hbA hh.2.2 hix.2.1 (dOk_at dL_law_1 25 rfl) ?_
  obtain ⟨r, P, hx1, hm1⟩ := st_frost l G hI (xs (nI j + 1).toNatClampNeg)
  obtain ⟨fs0, hw0⟩ := hI.at0
  refine cl_W (pc := 316) (As := [.int (xs (nI j + 1).toNatClampNeg)]) (rest := []) fx hh hl.1 hx1 yV_X6_frost tML_32 ⟨rfl, rfl, Nat.le_of_ble_eq_true rfl, Nat.le_of_ble_eq_true rfl⟩ 0 6 hw0 rfl rfl rfl rfl (Nat.le_of_ble_eq_true rfl) ⟨Nat.le_of_ble_eq_true rfl, Nat.le_of_ble_eq_true rfl⟩ (dOk_at dL_law_1 26 rfl) (fun W1 H locs hp1 hh => ?_)
  obtain ⟨⟨fs1, hw1⟩, hm2⟩ := hm1 W1 hp1
  refine lv_aload_n (pc := 319) hx hb (dOk_at dL_law_1 27 rfl) rfl (lv_at hl 2 rfl) ?_
  refine lv_aload_n (pc := 320) hx hb (dOk_at dL_law_1 28 rfl) rfl (lv_at hl 0 rfl) ?_
  refine lv_iload_n (pc := 321) hx hb (dOk_at dL_law_1 29 rfl) rfl (lv_at hl 3 rfl) ?_
  refine lv_iconst (pc := 322) (v := 1) hx hb (dOk_at dL_law_1 30 rfl) rfl ?_
  refine lv_iadd (pc := 323) hx hb (dOk_at dL_law_1 31 rfl) ?_
  refine va_sld (pc := 324) hx hb hX hbl hbA hh.2.2 hix.2.1 (dOk_at dL_law_1 32 rfl) ?_
  refine cl_W (pc := 325) (As := [.int (xs (nI j + 1).toNatClampNeg)]) (rest := [.int r]) fx hh hl.1 hm2 yV_X7_frost tML_35 ⟨rfl, rfl, Nat.le_of_ble_eq_true rfl, Nat.le_of_ble_eq_true rfl⟩ 28 7 hw1 rfl rfl rfl rfl (Nat.le_of_ble_eq_true rfl) ⟨Nat.le_of_ble_eq_true rfl, Nat.le_of_ble_eq_true rfl⟩ (dOk_at dL_law_1 33 rfl) (fun W2 H locs hI2 hh => ?_)
  exact lv_icmp_eq (pc := 328) (tgt := 1338) hx hb (dOk_at dL_law_1 34 rfl) (by decide) (fun _ => kk W2 H locs hI2 hh) (fun c2 => absurd rfl c2)
theorem law_deed (fx : FX G RL cL_law 4 (some .boolean) p s m #[.ref b] meth c A) (hX : va_X b L xs s s.heap) (hbl : b < s.heap.size) (hbA : ¬ A b) (hix : LIX j L) (hl : lv_has ls 4 (lwL b xa ma j)) (hI : INV G xa ma W0) (hh : HP G A W0 s H locs) (kk : ∀ (W1 : va_W) (H : Heap) (locs : List Loc), INV G xa ma W1 → HP G A W1 s H locs → W p l e room_1 s m #[.ref b] below meth c H locs 44 936 Q (F0 m 1338 ls [])) : W p l e room_1 s m #[.ref b] below meth c H locs 44 936 Q (F0 m 333 ls []) := by
  have hx := fx.hx; have hb := fx.hb
  refine lv_aload_n (pc := 333) hx hb (dOk_at dL_law_1 37 rfl) rfl (lv_at hl 1 rfl) ?_
  refine lv_aload_n (pc := 334) hx hb (dOk_at dL_law_1 38 rfl) rfl (lv_at hl 0 rfl) ?_
  refine lv_iload_n (pc := 335) hx hb (dOk_at dL_law_1 39 rfl) rfl (lv_at hl 3 rfl) ?_
  refine lv_iconst (pc := 336) (v := 1) hx hb (dOk_at dL_law_1 40 rfl) rfl ?_
  refine lv_iadd (pc := 337) hx hb (dOk_at dL_law_1 41 rfl) ?_
  refine va_sld (pc := 338) hx hb hX hbl hbA hh.2.2 hix.2.1 (dOk_at dL_law_1 42 rfl) ?_
  refine lv_aload_n (pc := 339) hx hb (dOk_at dL_law_1 43 rfl) rfl (lv_at hl 0 rfl) ?_
  refine lv_iload_n (pc := 340) hx hb (dOk_at dL_law_1 44 rfl) rfl (lv_at hl 3 rfl) ?_
  refine lv_iconst (pc := 341) (v := 2) hx hb (dOk_at dL_law_1 45 rfl) rfl ?_
  refine lv_iadd (pc := 342) hx hb (dOk_at dL_law_1 46 rfl) ?_
  refine va_sld (pc := 343) hx hb hX hbl hbA hh.2.2 hix.2.2.1 (dOk_at dL_law_1 47 rfl) ?_
  refine lv_aload_n (pc := 344) hx hb (dOk_at dL_law_1 48 rfl) rfl (lv_at hl 0 rfl) ?_
  refine lv_iload_n (pc := 345) hx hb (dOk_at dL_law_1 49 rfl) rfl (lv_at hl 3 rfl) ?_
  refine lv_iconst (pc := 346) (v := 3) hx hb (dOk_at dL_law_1 50 rfl) rfl ?_
  refine lv_iadd (pc := 347) hx hb (dOk_at dL_law_1 51 rfl) ?_
  refine va_sld (pc := 348) hx hb hX hbl hbA hh.2.2 hix.2.2.2.1 (dOk_at dL_law_1 52 rfl) ?_
  refine lv_aload_n (pc := 349) hx hb (dOk_at dL_law_1 53 rfl) rfl (lv_at hl 0 rfl) ?_
  refine lv_iload_n (pc := 350) hx hb (dOk_at dL_law_1 54 rfl) rfl (lv_at hl 3 rfl) ?_
  refine lv_iconst (pc := 351) (v := 4) hx hb (dOk_at dL_law_1 55 rfl) rfl ?_
  refine lv_iadd (pc := 352) hx hb (dOk_at dL_law_1 56 rfl) ?_
  refine va_sld (pc := 353) hx hb hX hbl hbA hh.2.2 hix.2.2.2.2.1 (dOk_at dL_law_1 57 rfl) ?_
  refine lv_aload_n (pc := 354) hx hb (dOk_at dL_law_1 58 rfl) rfl (lv_at hl 0 rfl) ?_
  refine lv_iload_n (pc := 355) hx hb (dOk_at dL_law_1 59 rfl) rfl (lv_at hl 3 rfl) ?_
  refine lv_iconst (pc := 356) (v := 5) hx hb (dOk_at dL_law_1 60 rfl) rfl ?_
  refine lv_iadd (pc := 357) hx hb (dOk_at dL_law_1 61 rfl) ?_
  refine va_sld (pc := 358) hx hb hX hbl hbA hh.2.2 hix.2.2.2.2.2.1 (dOk_at dL_law_1 62 rfl) ?_
  refine lv_aload_n (pc := 359) hx hb (dOk_at dL_law_1 63 rfl) rfl (lv_at hl 0 rfl) ?_
  refine lv_iload_n (pc := 360) hx hb (dOk_at dL_law_1 64 rfl) rfl (lv_at hl 3 rfl) ?_
  refine lv_bipush (pc := 361) (v := 6) hx hb (dOk_at dL_law_1 65 rfl) rfl ?_
  refine lv_iadd (pc := 363) hx hb (dOk_at dL_law_1 66 rfl) ?_
  refine va_sld (pc := 364) hx hb hX hbl hbA hh.2.2 hix.2.2.2.2.2.2.1 (dOk_at dL_law_1 67 rfl) ?_
  refine lv_aload_n (pc := 365) hx hb (dOk_at dL_law_1 68 rfl) rfl (lv_at hl 0 rfl) ?_
  refine lv_iload_n (pc := 366) hx hb (dOk_at dL_law_1 69 rfl) rfl (lv_at hl 3 rfl) ?_
  refine lv_bipush (pc := 367) (v := 7) hx hb (dOk_at dL_law_1 70 rfl) rfl ?_
  refine lv_iadd (pc := 369) hx hb (dOk_at dL_law_1 71 rfl) ?_
  refine va_sld (pc := 370) hx hb hX hbl hbA hh.2.2 hix.2.2.2.2.2.2.2.1 (dOk_at dL_law_1 72 rfl) ?_
  refine lv_aload_n (pc := 371) hx hb (dOk_at dL_law_1 73 rfl) rfl (lv_at hl 0 rfl) ?_
  refine lv_iload_n (pc := 372) hx hb (dOk_at dL_law_1 74 rfl) rfl (lv_at hl 3 rfl) ?_
  refine lv_bipush (pc := 373) (v := 8) hx hb (dOk_at dL_law_1 75 rfl) rfl ?_
  refine lv_iadd (pc := 375) hx hb (dOk_at dL_law_1 76 rfl) ?_
  refine va_sld (pc := 376) hx hb hX hbl hbA hh.2.2 hix.2.2.2.2.2.2.2.2 (dOk_at dL_law_1 77 rfl) ?_
  obtain ⟨r, P, hx1, hm1⟩ := st_deed l G hI (xs (nI j + 1).toNatClampNeg) (xs (nI j + 2).toNatClampNeg) (xs (nI j + 3).toNatClampNeg) (xs (nI j + 4).toNatClampNeg) (xs (nI j + 5).toNatClampNeg) (xs (nI j + 6).toNatClampNeg) (xs (nI j + 7).toNatClampNeg) (xs (nI j + 8).toNatClampNeg)
  obtain ⟨fs0, hw0⟩ := hI.at0
  refine cl_W (pc := 377) (As := [.int (xs (nI j + 1).toNatClampNeg), .int (xs (nI j + 2).toNatClampNeg), .int (xs (nI j + 3).toNatClampNeg), .int (xs (nI j + 4).toNatClampNeg), .int (xs (nI j + 5).toNatClampNeg), .int (xs (nI j + 6).toNatClampNeg), .int (xs (nI j + 7).toNatClampNeg), .int (xs (nI j + 8).toNatClampNeg)]) (rest := []) fx hh hl.1 hx1 yV_X6_deed tML_36 ⟨rfl, rfl, Nat.le_of_ble_eq_true rfl, Nat.le_of_ble_eq_true rfl⟩ 0 6 hw0 rfl rfl rfl rfl (Nat.le_of_ble_eq_true rfl) ⟨Nat.le_of_ble_eq_true rfl, Nat.le_of_ble_eq_true rfl⟩ (dOk_at dL_law_1 78 rfl) (fun W1 H locs hp1 hh => ?_)
  obtain ⟨⟨fs1, hw1⟩, hm2⟩ := hm1 W1 hp1
  refine lv_aload_n (pc := 380) hx hb (dOk_at dL_law_1 79 rfl) rfl (lv_at hl 2 rfl) ?_
  refine lv_aload_n (pc := 381) hx hb (dOk_at dL_law_1 80 rfl) rfl (lv_at hl 0 rfl) ?_
  refine lv_iload_n (pc := 382) hx hb (dOk_at dL_law_1 81 rfl) rfl (lv_at hl 3 rfl) ?_
  refine lv_iconst (pc := 383) (v := 1) hx hb (dOk_at dL_law_1 82 rfl) rfl ?_
  refine lv_iadd (pc := 384) hx hb (dOk_at dL_law_1 83 rfl) ?_
  refine va_sld (pc := 385) hx hb hX hbl hbA hh.2.2 hix.2.1 (dOk_at dL_law_1 84 rfl) ?_
  refine lv_aload_n (pc := 386) hx hb (dOk_at dL_law_1 85 rfl) rfl (lv_at hl 0 rfl) ?_
  refine lv_iload_n (pc := 387) hx hb (dOk_at dL_law_1 86 rfl) rfl (lv_at hl 3 rfl) ?_
  refine lv_iconst (pc := 388) (v := 2) hx hb (dOk_at dL_law_1 87 rfl) rfl ?_
  refine lv_iadd (pc := 389) hx hb (dOk_at dL_law_1 88 rfl) ?_
  refine va_sld (pc := 390) hx hb hX hbl hbA hh.2.2 hix.2.2.1 (dOk_at dL_law_1 89 rfl) ?_
  refine lv_aload_n (pc := 391) hx hb (dOk_at dL_law_1 90 rfl) rfl (lv_at hl 0 rfl) ?_
  refine lv_iload_n (pc := 392) hx hb (dOk_at dL_law_1 91 rfl) rfl (lv_at hl 3 rfl) ?_
  refine lv_iconst (pc := 393) (v := 3) hx hb (dOk_at dL_law_1 92 rfl) rfl ?_
  refine lv_iadd (pc := 394) hx hb (dOk_at dL_law_1 93 rfl) ?_
  refine va_sld (pc := 395) hx hb hX hbl hbA hh.2.2 hix.2.2.2.1 (dOk_at dL_law_1 94 rfl) ?_
  refine lv_aload_n (pc := 396) hx hb (dOk_at dL_law_1 95 rfl) rfl (lv_at hl 0 rfl) ?_
  refine lv_iload_n (pc := 397) hx hb (dOk_at dL_law_1 96 rfl) rfl (lv_at hl 3 rfl) ?_
  refine lv_iconst (pc := 398) (v := 4) hx hb (dOk_at dL_law_1 97 rfl) rfl ?_
  refine lv_iadd (pc := 399) hx hb (dOk_at dL_law_1 98 rfl) ?_
  refine va_sld (pc := 400) hx hb hX hbl hbA hh.2.2 hix.2.2.2.2.1 (dOk_at dL_law_1 99 rfl) ?_
  refine lv_aload_n (pc := 401) hx hb (dOk_at dL_law_1 100 rfl) rfl (lv_at hl 0 rfl) ?_
  refine lv_iload_n (pc := 402) hx hb (dOk_at dL_law_1 101 rfl) rfl (lv_at hl 3 rfl) ?_
  refine lv_iconst (pc := 403) (v := 5) hx hb (dOk_at dL_law_1 102 rfl) rfl ?_
  refine lv_iadd (pc := 404) hx hb (dOk_at dL_law_1 103 rfl) ?_
  refine va_sld (pc := 405) hx hb hX hbl hbA hh.2.2 hix.2.2.2.2.2.1 (dOk_at dL_law_1 104 rfl) ?_
  refine lv_aload_n (pc := 406) hx hb (dOk_at dL_law_1 105 rfl) rfl (lv_at hl 0 rfl) ?_
  refine lv_iload_n (pc := 407) hx hb (dOk_at dL_law_1 106 rfl) rfl (lv_at hl 3 rfl) ?_
  refine lv_bipush (pc := 408) (v := 6) hx hb (dOk_at dL_law_1 107 rfl) rfl ?_
  refine lv_iadd (pc := 410) hx hb (dOk_at dL_law_1 108 rfl) ?_
  refine va_sld (pc := 411) hx hb hX hbl hbA hh.2.2 hix.2.2.2.2.2.2.1 (dOk_at dL_law_1 109 rfl) ?_
  refine lv_aload_n (pc := 412) hx hb (dOk_at dL_law_1 110 rfl) rfl (lv_at hl 0 rfl) ?_
  refine lv_iload_n (pc := 413) hx hb (dOk_at dL_law_1 111 rfl) rfl (lv_at hl 3 rfl) ?_
  refine lv_bipush (pc := 414) (v := 7) hx hb (dOk_at dL_law_1 112 rfl) rfl ?_
  refine lv_iadd (pc := 416) hx hb (dOk_at dL_law_1 113 rfl) ?_
  refine va_sld (pc := 417) hx hb hX hbl hbA hh.2.2 hix.2.2.2.2.2.2.2.1 (dOk_at dL_law_1 114 rfl) ?_
  refine lv_aload_n (pc := 418) hx hb (dOk_at dL_law_1 115 rfl) rfl (lv_at hl 0 rfl) ?_
  refine lv_iload_n (pc := 419) hx hb (dOk_at dL_law_1 116 rfl) rfl (lv_at hl 3 rfl) ?_
  refine lv_bipush (pc := 420) (v := 8) hx hb (dOk_at dL_law_1 117 rfl) rfl ?_
  refine lv_iadd (pc := 422) hx hb (dOk_at dL_law_1 118 rfl) ?_
  refine va_sld (pc := 423) hx hb hX hbl hbA hh.2.2 hix.2.2.2.2.2.2.2.2 (dOk_at dL_law_1 119 rfl) ?_
  refine cl_W (pc := 424) (As := [.int (xs (nI j + 1).toNatClampNeg), .int (xs (nI j + 2).toNatClampNeg), .int (xs (nI j + 3).toNatClampNeg), .int (xs (nI j + 4).toNatClampNeg), .int (xs (nI j + 5).toNatClampNeg), .int (xs (nI j + 6).toNatClampNeg), .int (xs (nI j + 7).toNatClampNeg), .int (xs (nI j + 8).toNatClampNeg)]) (rest := [.int r]) fx hh hl.1 hm2 yV_X7_deed tML_40 ⟨rfl, rfl, Nat.le_of_ble_eq_true rfl, Nat.le_of_ble_eq_true rfl⟩ 28 7 hw1 rfl rfl rfl rfl (Nat.le_of_ble_eq_true rfl) ⟨Nat.le_of_ble_eq_true rfl, Nat.le_of_ble_eq_true rfl⟩ (dOk_at dL_law_2 0 rfl) (fun W2 H locs hI2 hh => ?_)
  exact lv_icmp_eq (pc := 427) (tgt := 1338) hx hb (dOk_at dL_law_2 1 rfl) (by decide) (fun _ => kk W2 H locs hI2 hh) (fun c2 => absurd rfl c2)
theorem law_write (fx : FX G RL cL_law 4 (some .boolean) p s m #[.ref b] meth c A) (hX : va_X b L xs s s.heap) (hbl : b < s.heap.size) (hbA : ¬ A b) (hix : LIX j L) (hl : lv_has ls 4 (lwL b xa ma j)) (hI : INV G xa ma W0) (hh : HP G A W0 s H locs) (kk : ∀ (W1 : va_W) (H : Heap) (locs : List Loc), INV G xa ma W1 → HP G A W1 s H locs → W p l e room_1 s m #[.ref b] below meth c H locs 44 936 Q (F0 m 1338 ls [])) : W p l e room_1 s m #[.ref b] below meth c H locs 44 936 Q (F0 m 432 ls []) := by
  have hx := fx.hx; have hb := fx.hb
  refine lv_aload_n (pc := 432) hx hb (dOk_at dL_law_2 4 rfl) rfl (lv_at hl 1 rfl) ?_
  refine lv_aload_n (pc := 433) hx hb (dOk_at dL_law_2 5 rfl) rfl (lv_at hl 0 rfl) ?_
  refine lv_iload_n (pc := 434) hx hb (dOk_at dL_law_2 6 rfl) rfl (lv_at hl 3 rfl) ?_
  refine lv_iconst (pc := 435) (v := 1) hx hb (dOk_at dL_law_2 7 rfl) rfl ?_
  refine lv_iadd (pc := 436) hx hb (dOk_at dL_law_2 8 rfl) ?_
  refine va_sld (pc := 437) hx hb hX hbl hbA hh.2.2 hix.2.1 (dOk_at dL_law_2 9 rfl) ?_
  refine lv_aload_n (pc := 438) hx hb (dOk_at dL_law_2 10 rfl) rfl (lv_at hl 0 rfl) ?_
  refine lv_iload_n (pc := 439) hx hb (dOk_at dL_law_2 11 rfl) rfl (lv_at hl 3 rfl) ?_
  refine lv_iconst (pc := 440) (v := 2) hx hb (dOk_at dL_law_2 12 rfl) rfl ?_
  refine lv_iadd (pc := 441) hx hb (dOk_at dL_law_2 13 rfl) ?_
  refine va_sld (pc := 442) hx hb hX hbl hbA hh.2.2 hix.2.2.1 (dOk_at dL_law_2 14 rfl) ?_
  refine lv_aload_n (pc := 443) hx hb (dOk_at dL_law_2 15 rfl) rfl (lv_at hl 0 rfl) ?_
  refine lv_iload_n (pc := 444) hx hb (dOk_at dL_law_2 16 rfl) rfl (lv_at hl 3 rfl) ?_
  refine lv_iconst (pc := 445) (v := 3) hx hb (dOk_at dL_law_2 17 rfl) rfl ?_
  refine lv_iadd (pc := 446) hx hb (dOk_at dL_law_2 18 rfl) ?_
  refine va_sld (pc := 447) hx hb hX hbl hbA hh.2.2 hix.2.2.2.1 (dOk_at dL_law_2 19 rfl) ?_
  refine lv_aload_n (pc := 448) hx hb (dOk_at dL_law_2 20 rfl) rfl (lv_at hl 0 rfl) ?_
  refine lv_iload_n (pc := 449) hx hb (dOk_at dL_law_2 21 rfl) rfl (lv_at hl 3 rfl) ?_
  refine lv_iconst (pc := 450) (v := 4) hx hb (dOk_at dL_law_2 22 rfl) rfl ?_
  refine lv_iadd (pc := 451) hx hb (dOk_at dL_law_2 23 rfl) ?_
  refine va_sld (pc := 452) hx hb hX hbl hbA hh.2.2 hix.2.2.2.2.1 (dOk_at dL_law_2 24 rfl) ?_
  refine lv_aload_n (pc := 453) hx hb (dOk_at dL_law_2 25 rfl) rfl (lv_at hl 0 rfl) ?_
  refine lv_iload_n (pc := 454) hx hb (dOk_at dL_law_2 26 rfl) rfl (lv_at hl 3 rfl) ?_
  refine lv_iconst (pc := 455) (v := 5) hx hb (dOk_at dL_law_2 27 rfl) rfl ?_
  refine lv_iadd (pc := 456) hx hb (dOk_at dL_law_2 28 rfl) ?_
  refine va_sld (pc := 457) hx hb hX hbl hbA hh.2.2 hix.2.2.2.2.2.1 (dOk_at dL_law_2 29 rfl) ?_
  refine lv_aload_n (pc := 458) hx hb (dOk_at dL_law_2 30 rfl) rfl (lv_at hl 0 rfl) ?_
  refine lv_iload_n (pc := 459) hx hb (dOk_at dL_law_2 31 rfl) rfl (lv_at hl 3 rfl) ?_
  refine lv_bipush (pc := 460) (v := 6) hx hb (dOk_at dL_law_2 32 rfl) rfl ?_
  refine lv_iadd (pc := 462) hx hb (dOk_at dL_law_2 33 rfl) ?_
  refine va_sld (pc := 463) hx hb hX hbl hbA hh.2.2 hix.2.2.2.2.2.2.1 (dOk_at dL_law_2 34 rfl) ?_
  refine lv_aload_n (pc := 464) hx hb (dOk_at dL_law_2 35 rfl) rfl (lv_at hl 0 rfl) ?_
  refine lv_iload_n (pc := 465) hx hb (dOk_at dL_law_2 36 rfl) rfl (lv_at hl 3 rfl) ?_
  refine lv_bipush (pc := 466) (v := 7) hx hb (dOk_at dL_law_2 37 rfl) rfl ?_
  refine lv_iadd (pc := 468) hx hb (dOk_at dL_law_2 38 rfl) ?_
  refine va_sld (pc := 469) hx hb hX hbl hbA hh.2.2 hix.2.2.2.2.2.2.2.1 (dOk_at dL_law_2 39 rfl) ?_
  obtain ⟨r, P, hx1, hm1⟩ := st_write l G hI (xs (nI j + 1).toNatClampNeg) (xs (nI j + 2).toNatClampNeg) (xs (nI j + 3).toNatClampNeg) (xs (nI j + 4).toNatClampNeg) (xs (nI j + 5).toNatClampNeg) (xs (nI j + 6).toNatClampNeg) (xs (nI j + 7).toNatClampNeg)
  obtain ⟨fs0, hw0⟩ := hI.at0
  refine cl_W (pc := 470) (As := [.int (xs (nI j + 1).toNatClampNeg), .int (xs (nI j + 2).toNatClampNeg), .int (xs (nI j + 3).toNatClampNeg), .int (xs (nI j + 4).toNatClampNeg), .int (xs (nI j + 5).toNatClampNeg), .int (xs (nI j + 6).toNatClampNeg), .int (xs (nI j + 7).toNatClampNeg)]) (rest := []) fx hh hl.1 hx1 yV_X6_write tML_41 ⟨rfl, rfl, Nat.le_of_ble_eq_true rfl, Nat.le_of_ble_eq_true rfl⟩ 0 6 hw0 rfl rfl rfl rfl (Nat.le_of_ble_eq_true rfl) ⟨Nat.le_of_ble_eq_true rfl, Nat.le_of_ble_eq_true rfl⟩ (dOk_at dL_law_2 40 rfl) (fun W1 H locs hp1 hh => ?_)
  obtain ⟨⟨fs1, hw1⟩, hm2⟩ := hm1 W1 hp1
  refine lv_aload_n (pc := 473) hx hb (dOk_at dL_law_2 41 rfl) rfl (lv_at hl 2 rfl) ?_
  refine lv_aload_n (pc := 474) hx hb (dOk_at dL_law_2 42 rfl) rfl (lv_at hl 0 rfl) ?_
  refine lv_iload_n (pc := 475) hx hb (dOk_at dL_law_2 43 rfl) rfl (lv_at hl 3 rfl) ?_
  refine lv_iconst (pc := 476) (v := 1) hx hb (dOk_at dL_law_2 44 rfl) rfl ?_
  refine lv_iadd (pc := 477) hx hb (dOk_at dL_law_2 45 rfl) ?_
  refine va_sld (pc := 478) hx hb hX hbl hbA hh.2.2 hix.2.1 (dOk_at dL_law_2 46 rfl) ?_
  refine lv_aload_n (pc := 479) hx hb (dOk_at dL_law_2 47 rfl) rfl (lv_at hl 0 rfl) ?_
  refine lv_iload_n (pc := 480) hx hb (dOk_at dL_law_2 48 rfl) rfl (lv_at hl 3 rfl) ?_
  refine lv_iconst (pc := 481) (v := 2) hx hb (dOk_at dL_law_2 49 rfl) rfl ?_
  refine lv_iadd (pc := 482) hx hb (dOk_at dL_law_2 50 rfl) ?_
  refine va_sld (pc := 483) hx hb hX hbl hbA hh.2.2 hix.2.2.1 (dOk_at dL_law_2 51 rfl) ?_
  refine lv_aload_n (pc := 484) hx hb (dOk_at dL_law_2 52 rfl) rfl (lv_at hl 0 rfl) ?_
  refine lv_iload_n (pc := 485) hx hb (dOk_at dL_law_2 53 rfl) rfl (lv_at hl 3 rfl) ?_
  refine lv_iconst (pc := 486) (v := 3) hx hb (dOk_at dL_law_2 54 rfl) rfl ?_
  refine lv_iadd (pc := 487) hx hb (dOk_at dL_law_2 55 rfl) ?_
  refine va_sld (pc := 488) hx hb hX hbl hbA hh.2.2 hix.2.2.2.1 (dOk_at dL_law_2 56 rfl) ?_
  refine lv_aload_n (pc := 489) hx hb (dOk_at dL_law_2 57 rfl) rfl (lv_at hl 0 rfl) ?_
  refine lv_iload_n (pc := 490) hx hb (dOk_at dL_law_2 58 rfl) rfl (lv_at hl 3 rfl) ?_
  refine lv_iconst (pc := 491) (v := 4) hx hb (dOk_at dL_law_2 59 rfl) rfl ?_
  refine lv_iadd (pc := 492) hx hb (dOk_at dL_law_2 60 rfl) ?_
  refine va_sld (pc := 493) hx hb hX hbl hbA hh.2.2 hix.2.2.2.2.1 (dOk_at dL_law_2 61 rfl) ?_
  refine lv_aload_n (pc := 494) hx hb (dOk_at dL_law_2 62 rfl) rfl (lv_at hl 0 rfl) ?_
  refine lv_iload_n (pc := 495) hx hb (dOk_at dL_law_2 63 rfl) rfl (lv_at hl 3 rfl) ?_
  refine lv_iconst (pc := 496) (v := 5) hx hb (dOk_at dL_law_2 64 rfl) rfl ?_
  refine lv_iadd (pc := 497) hx hb (dOk_at dL_law_2 65 rfl) ?_
  refine va_sld (pc := 498) hx hb hX hbl hbA hh.2.2 hix.2.2.2.2.2.1 (dOk_at dL_law_2 66 rfl) ?_
  refine lv_aload_n (pc := 499) hx hb (dOk_at dL_law_2 67 rfl) rfl (lv_at hl 0 rfl) ?_
  refine lv_iload_n (pc := 500) hx hb (dOk_at dL_law_2 68 rfl) rfl (lv_at hl 3 rfl) ?_
  refine lv_bipush (pc := 501) (v := 6) hx hb (dOk_at dL_law_2 69 rfl) rfl ?_
  refine lv_iadd (pc := 503) hx hb (dOk_at dL_law_2 70 rfl) ?_
  refine va_sld (pc := 504) hx hb hX hbl hbA hh.2.2 hix.2.2.2.2.2.2.1 (dOk_at dL_law_2 71 rfl) ?_
  refine lv_aload_n (pc := 505) hx hb (dOk_at dL_law_2 72 rfl) rfl (lv_at hl 0 rfl) ?_
  refine lv_iload_n (pc := 506) hx hb (dOk_at dL_law_2 73 rfl) rfl (lv_at hl 3 rfl) ?_
  refine lv_bipush (pc := 507) (v := 7) hx hb (dOk_at dL_law_2 74 rfl) rfl ?_
  refine lv_iadd (pc := 509) hx hb (dOk_at dL_law_2 75 rfl) ?_
  refine va_sld (pc := 510) hx hb hX hbl hbA hh.2.2 hix.2.2.2.2.2.2.2.1 (dOk_at dL_law_2 76 rfl) ?_
  refine cl_W (pc := 511) (As := [.int (xs (nI j + 1).toNatClampNeg), .int (xs (nI j + 2).toNatClampNeg), .int (xs (nI j + 3).toNatClampNeg), .int (xs (nI j + 4).toNatClampNeg), .int (xs (nI j + 5).toNatClampNeg), .int (xs (nI j + 6).toNatClampNeg), .int (xs (nI j + 7).toNatClampNeg)]) (rest := [.int r]) fx hh hl.1 hm2 yV_X7_write tML_45 ⟨rfl, rfl, Nat.le_of_ble_eq_true rfl, Nat.le_of_ble_eq_true rfl⟩ 28 7 hw1 rfl rfl rfl rfl (Nat.le_of_ble_eq_true rfl) ⟨Nat.le_of_ble_eq_true rfl, Nat.le_of_ble_eq_true rfl⟩ (dOk_at dL_law_2 77 rfl) (fun W2 H locs hI2 hh => ?_)
  exact lv_icmp_eq (pc := 514) (tgt := 1338) hx hb (dOk_at dL_law_2 78 rfl) (by decide) (fun _ => kk W2 H locs hI2 hh) (fun c2 => absurd rfl c2)
theorem law_nights (fx : FX G RL cL_law 4 (some .boolean) p s m #[.ref b] meth c A) (hX : va_X b L xs s s.heap) (hbl : b < s.heap.size) (hbA : ¬ A b) (hix : LIX j L) (hl : lv_has ls 4 (lwL b xa ma j)) (hI : INV G xa ma W0) (hh : HP G A W0 s H locs) (kk : ∀ (W1 : va_W) (H : Heap) (locs : List Loc), INV G xa ma W1 → HP G A W1 s H locs → W p l e room_1 s m #[.ref b] below meth c H locs 44 936 Q (F0 m 1338 ls [])) : W p l e room_1 s m #[.ref b] below meth c H locs 44 936 Q (F0 m 519 ls []) := by
  have hx := fx.hx; have hb := fx.hb
  refine lv_aload_n (pc := 519) hx hb (dOk_at dL_law_2 81 rfl) rfl (lv_at hl 1 rfl) ?_
  refine lv_aload_n (pc := 520) hx hb (dOk_at dL_law_2 82 rfl) rfl (lv_at hl 0 rfl) ?_
  refine lv_iload_n (pc := 521) hx hb (dOk_at dL_law_2 83 rfl) rfl (lv_at hl 3 rfl) ?_
  refine lv_iconst (pc := 522) (v := 1) hx hb (dOk_at dL_law_2 84 rfl) rfl ?_
  refine lv_iadd (pc := 523) hx hb (dOk_at dL_law_2 85 rfl) ?_
  refine va_sld (pc := 524) hx hb hX hbl hbA hh.2.2 hix.2.1 (dOk_at dL_law_2 86 rfl) ?_
  obtain ⟨r, P, hx1, hm1⟩ := st_nights l G hI (xs (nI j + 1).toNatClampNeg)
  obtain ⟨fs0, hw0⟩ := hI.at0
  refine cl_W (pc := 525) (As := [.int (xs (nI j + 1).toNatClampNeg)]) (rest := []) fx hh hl.1 hx1 yV_X6_nights tML_46 ⟨rfl, rfl, Nat.le_of_ble_eq_true rfl, Nat.le_of_ble_eq_true rfl⟩ 0 6 hw0 rfl rfl rfl rfl (Nat.le_of_ble_eq_true rfl) ⟨Nat.le_of_ble_eq_true rfl, Nat.le_of_ble_eq_true rfl⟩ (dOk_at dL_law_2 87 rfl) (fun W1 H locs hp1 hh => ?_)
  obtain ⟨⟨fs1, hw1⟩, hm2⟩ := hm1 W1 hp1
  refine lv_aload_n (pc := 528) hx hb (dOk_at dL_law_2 88 rfl) rfl (lv_at hl 2 rfl) ?_
  refine lv_aload_n (pc := 529) hx hb (dOk_at dL_law_2 89 rfl) rfl (lv_at hl 0 rfl) ?_
  refine lv_iload_n (pc := 530) hx hb (dOk_at dL_law_2 90 rfl) rfl (lv_at hl 3 rfl) ?_
  refine lv_iconst (pc := 531) (v := 1) hx hb (dOk_at dL_law_2 91 rfl) rfl ?_
  refine lv_iadd (pc := 532) hx hb (dOk_at dL_law_2 92 rfl) ?_
  refine va_sld (pc := 533) hx hb hX hbl hbA hh.2.2 hix.2.1 (dOk_at dL_law_2 93 rfl) ?_
  refine cl_W (pc := 534) (As := [.int (xs (nI j + 1).toNatClampNeg)]) (rest := [.int r]) fx hh hl.1 hm2 yV_X7_nights tML_49 ⟨rfl, rfl, Nat.le_of_ble_eq_true rfl, Nat.le_of_ble_eq_true rfl⟩ 28 7 hw1 rfl rfl rfl rfl (Nat.le_of_ble_eq_true rfl) ⟨Nat.le_of_ble_eq_true rfl, Nat.le_of_ble_eq_true rfl⟩ (dOk_at dL_law_2 94 rfl) (fun W2 H locs hI2 hh => ?_)
  exact lv_icmp_eq (pc := 537) (tgt := 1338) hx hb (dOk_at dL_law_2 95 rfl) (by decide) (fun _ => kk W2 H locs hI2 hh) (fun c2 => absurd rfl c2)
theorem law_thaw (fx : FX G RL cL_law 4 (some .boolean) p s m #[.ref b] meth c A) (hX : va_X b L xs s s.heap) (hbl : b < s.heap.size) (hbA : ¬ A b) (hix : LIX j L) (hl : lv_has ls 4 (lwL b xa ma j)) (hI : INV G xa ma W0) (hh : HP G A W0 s H locs) (kk : ∀ (W1 : va_W) (H : Heap) (locs : List Loc), INV G xa ma W1 → HP G A W1 s H locs → W p l e room_1 s m #[.ref b] below meth c H locs 44 936 Q (F0 m 1338 ls [])) : W p l e room_1 s m #[.ref b] below meth c H locs 44 936 Q (F0 m 542 ls []) := by
  have hx := fx.hx; have hb := fx.hb
  refine lv_aload_n (pc := 542) hx hb (dOk_at dL_law_2 98 rfl) rfl (lv_at hl 1 rfl) ?_
  refine lv_aload_n (pc := 543) hx hb (dOk_at dL_law_2 99 rfl) rfl (lv_at hl 0 rfl) ?_
  refine lv_iload_n (pc := 544) hx hb (dOk_at dL_law_2 100 rfl) rfl (lv_at hl 3 rfl) ?_
  refine lv_iconst (pc := 545) (v := 1) hx hb (dOk_at dL_law_2 101 rfl) rfl ?_
  refine lv_iadd (pc := 546) hx hb (dOk_at dL_law_2 102 rfl) ?_
  refine va_sld (pc := 547) hx hb hX hbl hbA hh.2.2 hix.2.1 (dOk_at dL_law_2 103 rfl) ?_
  obtain ⟨r, P, hx1, hm1⟩ := st_thaw l G hI (xs (nI j + 1).toNatClampNeg)
  obtain ⟨fs0, hw0⟩ := hI.at0
  refine cl_W (pc := 548) (As := [.int (xs (nI j + 1).toNatClampNeg)]) (rest := []) fx hh hl.1 hx1 yV_X6_thaw tML_50 ⟨rfl, rfl, Nat.le_of_ble_eq_true rfl, Nat.le_of_ble_eq_true rfl⟩ 0 6 hw0 rfl rfl rfl rfl (Nat.le_of_ble_eq_true rfl) ⟨Nat.le_of_ble_eq_true rfl, Nat.le_of_ble_eq_true rfl⟩ (dOk_at dL_law_2 104 rfl) (fun W1 H locs hp1 hh => ?_)
  obtain ⟨⟨fs1, hw1⟩, hm2⟩ := hm1 W1 hp1
  refine lv_aload_n (pc := 551) hx hb (dOk_at dL_law_2 105 rfl) rfl (lv_at hl 2 rfl) ?_
  refine lv_aload_n (pc := 552) hx hb (dOk_at dL_law_2 106 rfl) rfl (lv_at hl 0 rfl) ?_
  refine lv_iload_n (pc := 553) hx hb (dOk_at dL_law_2 107 rfl) rfl (lv_at hl 3 rfl) ?_
  refine lv_iconst (pc := 554) (v := 1) hx hb (dOk_at dL_law_2 108 rfl) rfl ?_
  refine lv_iadd (pc := 555) hx hb (dOk_at dL_law_2 109 rfl) ?_
  refine va_sld (pc := 556) hx hb hX hbl hbA hh.2.2 hix.2.1 (dOk_at dL_law_2 110 rfl) ?_
  refine cl_W (pc := 557) (As := [.int (xs (nI j + 1).toNatClampNeg)]) (rest := [.int r]) fx hh hl.1 hm2 yV_X7_thaw tML_53 ⟨rfl, rfl, Nat.le_of_ble_eq_true rfl, Nat.le_of_ble_eq_true rfl⟩ 28 7 hw1 rfl rfl rfl rfl (Nat.le_of_ble_eq_true rfl) ⟨Nat.le_of_ble_eq_true rfl, Nat.le_of_ble_eq_true rfl⟩ (dOk_at dL_law_2 111 rfl) (fun W2 H locs hI2 hh => ?_)
  exact lv_icmp_eq (pc := 560) (tgt := 1338) hx hb (dOk_at dL_law_2 112 rfl) (by decide) (fun _ => kk W2 H locs hI2 hh) (fun c2 => absurd rfl c2)
theorem law_bond (fx : FX G RL cL_law 4 (some .boolean) p s m #[.ref b] meth c A) (hX : va_X b L xs s s.heap) (hbl : b < s.heap.size) (hbA : ¬ A b) (hix : LIX j L) (hl : lv_has ls 4 (lwL b xa ma j)) (hI : INV G xa ma W0) (hh : HP G A W0 s H locs) (kk : ∀ (W1 : va_W) (H : Heap) (locs : List Loc), INV G xa ma W1 → HP G A W1 s H locs → W p l e room_1 s m #[.ref b] below meth c H locs 44 936 Q (F0 m 1338 ls [])) : W p l e room_1 s m #[.ref b] below meth c H locs 44 936 Q (F0 m 565 ls []) := by
  have hx := fx.hx; have hb := fx.hb
  refine lv_aload_n (pc := 565) hx hb (dOk_at dL_law_2 115 rfl) rfl (lv_at hl 1 rfl) ?_
  refine lv_aload_n (pc := 566) hx hb (dOk_at dL_law_2 116 rfl) rfl (lv_at hl 0 rfl) ?_
  refine lv_iload_n (pc := 567) hx hb (dOk_at dL_law_2 117 rfl) rfl (lv_at hl 3 rfl) ?_
  refine lv_iconst (pc := 568) (v := 1) hx hb (dOk_at dL_law_2 118 rfl) rfl ?_
  refine lv_iadd (pc := 569) hx hb (dOk_at dL_law_2 119 rfl) ?_
  refine va_sld (pc := 570) hx hb hX hbl hbA hh.2.2 hix.2.1 (dOk_at dL_law_3 0 rfl) ?_
  refine lv_aload_n (pc := 571) hx hb (dOk_at dL_law_3 1 rfl) rfl (lv_at hl 0 rfl) ?_
  refine lv_iload_n (pc := 572) hx hb (dOk_at dL_law_3 2 rfl) rfl (lv_at hl 3 rfl) ?_
  refine lv_iconst (pc := 573) (v := 2) hx hb (dOk_at dL_law_3 3 rfl) rfl ?_
  refine lv_iadd (pc := 574) hx hb (dOk_at dL_law_3 4 rfl) ?_
  refine va_sld (pc := 575) hx hb hX hbl hbA hh.2.2 hix.2.2.1 (dOk_at dL_law_3 5 rfl) ?_
  refine lv_aload_n (pc := 576) hx hb (dOk_at dL_law_3 6 rfl) rfl (lv_at hl 0 rfl) ?_
  refine lv_iload_n (pc := 577) hx hb (dOk_at dL_law_3 7 rfl) rfl (lv_at hl 3 rfl) ?_
  refine lv_iconst (pc := 578) (v := 3) hx hb (dOk_at dL_law_3 8 rfl) rfl ?_
  refine lv_iadd (pc := 579) hx hb (dOk_at dL_law_3 9 rfl) ?_
  refine va_sld (pc := 580) hx hb hX hbl hbA hh.2.2 hix.2.2.2.1 (dOk_at dL_law_3 10 rfl) ?_
  refine lv_aload_n (pc := 581) hx hb (dOk_at dL_law_3 11 rfl) rfl (lv_at hl 0 rfl) ?_
  refine lv_iload_n (pc := 582) hx hb (dOk_at dL_law_3 12 rfl) rfl (lv_at hl 3 rfl) ?_
  refine lv_iconst (pc := 583) (v := 4) hx hb (dOk_at dL_law_3 13 rfl) rfl ?_
  refine lv_iadd (pc := 584) hx hb (dOk_at dL_law_3 14 rfl) ?_
  refine va_sld (pc := 585) hx hb hX hbl hbA hh.2.2 hix.2.2.2.2.1 (dOk_at dL_law_3 15 rfl) ?_
  refine lv_aload_n (pc := 586) hx hb (dOk_at dL_law_3 16 rfl) rfl (lv_at hl 0 rfl) ?_
  refine lv_iload_n (pc := 587) hx hb (dOk_at dL_law_3 17 rfl) rfl (lv_at hl 3 rfl) ?_
  refine lv_iconst (pc := 588) (v := 5) hx hb (dOk_at dL_law_3 18 rfl) rfl ?_
  refine lv_iadd (pc := 589) hx hb (dOk_at dL_law_3 19 rfl) ?_
  refine va_sld (pc := 590) hx hb hX hbl hbA hh.2.2 hix.2.2.2.2.2.1 (dOk_at dL_law_3 20 rfl) ?_
  obtain ⟨r, P, hx1, hm1⟩ := st_bond l G hI (xs (nI j + 1).toNatClampNeg) (xs (nI j + 2).toNatClampNeg) (xs (nI j + 3).toNatClampNeg) (xs (nI j + 4).toNatClampNeg) (xs (nI j + 5).toNatClampNeg)
  obtain ⟨fs0, hw0⟩ := hI.at0
  refine cl_W (pc := 591) (As := [.int (xs (nI j + 1).toNatClampNeg), .int (xs (nI j + 2).toNatClampNeg), .int (xs (nI j + 3).toNatClampNeg), .int (xs (nI j + 4).toNatClampNeg), .int (xs (nI j + 5).toNatClampNeg)]) (rest := []) fx hh hl.1 hx1 yV_X6_bond tML_54 ⟨rfl, rfl, Nat.le_of_ble_eq_true rfl, Nat.le_of_ble_eq_true rfl⟩ 0 6 hw0 rfl rfl rfl rfl (Nat.le_of_ble_eq_true rfl) ⟨Nat.le_of_ble_eq_true rfl, Nat.le_of_ble_eq_true rfl⟩ (dOk_at dL_law_3 21 rfl) (fun W1 H locs hp1 hh => ?_)
  obtain ⟨⟨fs1, hw1⟩, hm2⟩ := hm1 W1 hp1
  refine lv_aload_n (pc := 594) hx hb (dOk_at dL_law_3 22 rfl) rfl (lv_at hl 2 rfl) ?_
  refine lv_aload_n (pc := 595) hx hb (dOk_at dL_law_3 23 rfl) rfl (lv_at hl 0 rfl) ?_
  refine lv_iload_n (pc := 596) hx hb (dOk_at dL_law_3 24 rfl) rfl (lv_at hl 3 rfl) ?_
  refine lv_iconst (pc := 597) (v := 1) hx hb (dOk_at dL_law_3 25 rfl) rfl ?_
  refine lv_iadd (pc := 598) hx hb (dOk_at dL_law_3 26 rfl) ?_
  refine va_sld (pc := 599) hx hb hX hbl hbA hh.2.2 hix.2.1 (dOk_at dL_law_3 27 rfl) ?_
  refine lv_aload_n (pc := 600) hx hb (dOk_at dL_law_3 28 rfl) rfl (lv_at hl 0 rfl) ?_
  refine lv_iload_n (pc := 601) hx hb (dOk_at dL_law_3 29 rfl) rfl (lv_at hl 3 rfl) ?_
  refine lv_iconst (pc := 602) (v := 2) hx hb (dOk_at dL_law_3 30 rfl) rfl ?_
  refine lv_iadd (pc := 603) hx hb (dOk_at dL_law_3 31 rfl) ?_
  refine va_sld (pc := 604) hx hb hX hbl hbA hh.2.2 hix.2.2.1 (dOk_at dL_law_3 32 rfl) ?_
  refine lv_aload_n (pc := 605) hx hb (dOk_at dL_law_3 33 rfl) rfl (lv_at hl 0 rfl) ?_
  refine lv_iload_n (pc := 606) hx hb (dOk_at dL_law_3 34 rfl) rfl (lv_at hl 3 rfl) ?_
  refine lv_iconst (pc := 607) (v := 3) hx hb (dOk_at dL_law_3 35 rfl) rfl ?_
  refine lv_iadd (pc := 608) hx hb (dOk_at dL_law_3 36 rfl) ?_
  refine va_sld (pc := 609) hx hb hX hbl hbA hh.2.2 hix.2.2.2.1 (dOk_at dL_law_3 37 rfl) ?_
  refine lv_aload_n (pc := 610) hx hb (dOk_at dL_law_3 38 rfl) rfl (lv_at hl 0 rfl) ?_
  refine lv_iload_n (pc := 611) hx hb (dOk_at dL_law_3 39 rfl) rfl (lv_at hl 3 rfl) ?_
  refine lv_iconst (pc := 612) (v := 4) hx hb (dOk_at dL_law_3 40 rfl) rfl ?_
  refine lv_iadd (pc := 613) hx hb (dOk_at dL_law_3 41 rfl) ?_
  refine va_sld (pc := 614) hx hb hX hbl hbA hh.2.2 hix.2.2.2.2.1 (dOk_at dL_law_3 42 rfl) ?_
  refine lv_aload_n (pc := 615) hx hb (dOk_at dL_law_3 43 rfl) rfl (lv_at hl 0 rfl) ?_
  refine lv_iload_n (pc := 616) hx hb (dOk_at dL_law_3 44 rfl) rfl (lv_at hl 3 rfl) ?_
  refine lv_iconst (pc := 617) (v := 5) hx hb (dOk_at dL_law_3 45 rfl) rfl ?_
  refine lv_iadd (pc := 618) hx hb (dOk_at dL_law_3 46 rfl) ?_
  refine va_sld (pc := 619) hx hb hX hbl hbA hh.2.2 hix.2.2.2.2.2.1 (dOk_at dL_law_3 47 rfl) ?_
  refine cl_W (pc := 620) (As := [.int (xs (nI j + 1).toNatClampNeg), .int (xs (nI j + 2).toNatClampNeg), .int (xs (nI j + 3).toNatClampNeg), .int (xs (nI j + 4).toNatClampNeg), .int (xs (nI j + 5).toNatClampNeg)]) (rest := [.int r]) fx hh hl.1 hm2 yV_X7_bond tML_58 ⟨rfl, rfl, Nat.le_of_ble_eq_true rfl, Nat.le_of_ble_eq_true rfl⟩ 28 7 hw1 rfl rfl rfl rfl (Nat.le_of_ble_eq_true rfl) ⟨Nat.le_of_ble_eq_true rfl, Nat.le_of_ble_eq_true rfl⟩ (dOk_at dL_law_3 48 rfl) (fun W2 H locs hI2 hh => ?_)
  exact lv_icmp_eq (pc := 623) (tgt := 1338) hx hb (dOk_at dL_law_3 49 rfl) (by decide) (fun _ => kk W2 H locs hI2 hh) (fun c2 => absurd rfl c2)
theorem law_holds (fx : FX G RL cL_law 4 (some .boolean) p s m #[.ref b] meth c A) (hX : va_X b L xs s s.heap) (hbl : b < s.heap.size) (hbA : ¬ A b) (hix : LIX j L) (hl : lv_has ls 4 (lwL b xa ma j)) (hI : INV G xa ma W0) (hh : HP G A W0 s H locs) (kk : ∀ (W1 : va_W) (H : Heap) (locs : List Loc), INV G xa ma W1 → HP G A W1 s H locs → W p l e room_1 s m #[.ref b] below meth c H locs 44 936 Q (F0 m 1338 ls [])) : W p l e room_1 s m #[.ref b] below meth c H locs 44 936 Q (F0 m 628 ls []) := by
  have hx := fx.hx; have hb := fx.hb
  refine lv_aload_n (pc := 628) hx hb (dOk_at dL_law_3 52 rfl) rfl (lv_at hl 1 rfl) ?_
  refine lv_aload_n (pc := 629) hx hb (dOk_at dL_law_3 53 rfl) rfl (lv_at hl 0 rfl) ?_
  refine lv_iload_n (pc := 630) hx hb (dOk_at dL_law_3 54 rfl) rfl (lv_at hl 3 rfl) ?_
  refine lv_iconst (pc := 631) (v := 1) hx hb (dOk_at dL_law_3 55 rfl) rfl ?_
  refine lv_iadd (pc := 632) hx hb (dOk_at dL_law_3 56 rfl) ?_
  refine va_sld (pc := 633) hx hb hX hbl hbA hh.2.2 hix.2.1 (dOk_at dL_law_3 57 rfl) ?_
  refine lv_aload_n (pc := 634) hx hb (dOk_at dL_law_3 58 rfl) rfl (lv_at hl 0 rfl) ?_
  refine lv_iload_n (pc := 635) hx hb (dOk_at dL_law_3 59 rfl) rfl (lv_at hl 3 rfl) ?_
  refine lv_iconst (pc := 636) (v := 2) hx hb (dOk_at dL_law_3 60 rfl) rfl ?_
  refine lv_iadd (pc := 637) hx hb (dOk_at dL_law_3 61 rfl) ?_
  refine va_sld (pc := 638) hx hb hX hbl hbA hh.2.2 hix.2.2.1 (dOk_at dL_law_3 62 rfl) ?_
  refine lv_aload_n (pc := 639) hx hb (dOk_at dL_law_3 63 rfl) rfl (lv_at hl 0 rfl) ?_
  refine lv_iload_n (pc := 640) hx hb (dOk_at dL_law_3 64 rfl) rfl (lv_at hl 3 rfl) ?_
  refine lv_iconst (pc := 641) (v := 3) hx hb (dOk_at dL_law_3 65 rfl) rfl ?_
  refine lv_iadd (pc := 642) hx hb (dOk_at dL_law_3 66 rfl) ?_
  refine va_sld (pc := 643) hx hb hX hbl hbA hh.2.2 hix.2.2.2.1 (dOk_at dL_law_3 67 rfl) ?_
  refine lv_aload_n (pc := 644) hx hb (dOk_at dL_law_3 68 rfl) rfl (lv_at hl 0 rfl) ?_
  refine lv_iload_n (pc := 645) hx hb (dOk_at dL_law_3 69 rfl) rfl (lv_at hl 3 rfl) ?_
  refine lv_iconst (pc := 646) (v := 4) hx hb (dOk_at dL_law_3 70 rfl) rfl ?_
  refine lv_iadd (pc := 647) hx hb (dOk_at dL_law_3 71 rfl) ?_
  refine va_sld (pc := 648) hx hb hX hbl hbA hh.2.2 hix.2.2.2.2.1 (dOk_at dL_law_3 72 rfl) ?_
  obtain ⟨r, P, hx1, hm1⟩ := st_holds l G hI (xs (nI j + 1).toNatClampNeg) (xs (nI j + 2).toNatClampNeg) (xs (nI j + 3).toNatClampNeg) (xs (nI j + 4).toNatClampNeg)
  obtain ⟨fs0, hw0⟩ := hI.at0
  refine cl_W (pc := 649) (As := [.int (xs (nI j + 1).toNatClampNeg), .int (xs (nI j + 2).toNatClampNeg), .int (xs (nI j + 3).toNatClampNeg), .int (xs (nI j + 4).toNatClampNeg)]) (rest := []) fx hh hl.1 hx1 yV_X6_holds tML_59 ⟨rfl, rfl, Nat.le_of_ble_eq_true rfl, Nat.le_of_ble_eq_true rfl⟩ 0 6 hw0 rfl rfl rfl rfl (Nat.le_of_ble_eq_true rfl) ⟨Nat.le_of_ble_eq_true rfl, Nat.le_of_ble_eq_true rfl⟩ (dOk_at dL_law_3 73 rfl) (fun W1 H locs hp1 hh => ?_)
  obtain ⟨⟨fs1, hw1⟩, hm2⟩ := hm1 W1 hp1
  refine lv_aload_n (pc := 652) hx hb (dOk_at dL_law_3 74 rfl) rfl (lv_at hl 2 rfl) ?_
  refine lv_aload_n (pc := 653) hx hb (dOk_at dL_law_3 75 rfl) rfl (lv_at hl 0 rfl) ?_
  refine lv_iload_n (pc := 654) hx hb (dOk_at dL_law_3 76 rfl) rfl (lv_at hl 3 rfl) ?_
  refine lv_iconst (pc := 655) (v := 1) hx hb (dOk_at dL_law_3 77 rfl) rfl ?_
  refine lv_iadd (pc := 656) hx hb (dOk_at dL_law_3 78 rfl) ?_
  refine va_sld (pc := 657) hx hb hX hbl hbA hh.2.2 hix.2.1 (dOk_at dL_law_3 79 rfl) ?_
  refine lv_aload_n (pc := 658) hx hb (dOk_at dL_law_3 80 rfl) rfl (lv_at hl 0 rfl) ?_
  refine lv_iload_n (pc := 659) hx hb (dOk_at dL_law_3 81 rfl) rfl (lv_at hl 3 rfl) ?_
  refine lv_iconst (pc := 660) (v := 2) hx hb (dOk_at dL_law_3 82 rfl) rfl ?_
  refine lv_iadd (pc := 661) hx hb (dOk_at dL_law_3 83 rfl) ?_
  refine va_sld (pc := 662) hx hb hX hbl hbA hh.2.2 hix.2.2.1 (dOk_at dL_law_3 84 rfl) ?_
  refine lv_aload_n (pc := 663) hx hb (dOk_at dL_law_3 85 rfl) rfl (lv_at hl 0 rfl) ?_
  refine lv_iload_n (pc := 664) hx hb (dOk_at dL_law_3 86 rfl) rfl (lv_at hl 3 rfl) ?_
  refine lv_iconst (pc := 665) (v := 3) hx hb (dOk_at dL_law_3 87 rfl) rfl ?_
  refine lv_iadd (pc := 666) hx hb (dOk_at dL_law_3 88 rfl) ?_
  refine va_sld (pc := 667) hx hb hX hbl hbA hh.2.2 hix.2.2.2.1 (dOk_at dL_law_3 89 rfl) ?_
  refine lv_aload_n (pc := 668) hx hb (dOk_at dL_law_3 90 rfl) rfl (lv_at hl 0 rfl) ?_
  refine lv_iload_n (pc := 669) hx hb (dOk_at dL_law_3 91 rfl) rfl (lv_at hl 3 rfl) ?_
  refine lv_iconst (pc := 670) (v := 4) hx hb (dOk_at dL_law_3 92 rfl) rfl ?_
  refine lv_iadd (pc := 671) hx hb (dOk_at dL_law_3 93 rfl) ?_
  refine va_sld (pc := 672) hx hb hX hbl hbA hh.2.2 hix.2.2.2.2.1 (dOk_at dL_law_3 94 rfl) ?_
  refine cl_W (pc := 673) (As := [.int (xs (nI j + 1).toNatClampNeg), .int (xs (nI j + 2).toNatClampNeg), .int (xs (nI j + 3).toNatClampNeg), .int (xs (nI j + 4).toNatClampNeg)]) (rest := [.int r]) fx hh hl.1 hm2 yV_X7_holds tML_62 ⟨rfl, rfl, Nat.le_of_ble_eq_true rfl, Nat.le_of_ble_eq_true rfl⟩ 28 7 hw1 rfl rfl rfl rfl (Nat.le_of_ble_eq_true rfl) ⟨Nat.le_of_ble_eq_true rfl, Nat.le_of_ble_eq_true rfl⟩ (dOk_at dL_law_3 95 rfl) (fun W2 H locs hI2 hh => ?_)
  exact lv_icmp_eq (pc := 676) (tgt := 1338) hx hb (dOk_at dL_law_3 96 rfl) (by decide) (fun _ => kk W2 H locs hI2 hh) (fun c2 => absurd rfl c2)
theorem law_alone (fx : FX G RL cL_law 4 (some .boolean) p s m #[.ref b] meth c A) (hX : va_X b L xs s s.heap) (hbl : b < s.heap.size) (hbA : ¬ A b) (hix : LIX j L) (hl : lv_has ls 4 (lwL b xa ma j)) (hI : INV G xa ma W0) (hh : HP G A W0 s H locs) (kk : ∀ (W1 : va_W) (H : Heap) (locs : List Loc), INV G xa ma W1 → HP G A W1 s H locs → W p l e room_1 s m #[.ref b] below meth c H locs 44 936 Q (F0 m 1338 ls [])) : W p l e room_1 s m #[.ref b] below meth c H locs 44 936 Q (F0 m 681 ls []) := by
  have hx := fx.hx; have hb := fx.hb
  refine lv_aload_n (pc := 681) hx hb (dOk_at dL_law_3 99 rfl) rfl (lv_at hl 1 rfl) ?_
  refine lv_aload_n (pc := 682) hx hb (dOk_at dL_law_3 100 rfl) rfl (lv_at hl 0 rfl) ?_
  refine lv_iload_n (pc := 683) hx hb (dOk_at dL_law_3 101 rfl) rfl (lv_at hl 3 rfl) ?_
  refine lv_iconst (pc := 684) (v := 1) hx hb (dOk_at dL_law_3 102 rfl) rfl ?_
  refine lv_iadd (pc := 685) hx hb (dOk_at dL_law_3 103 rfl) ?_
  refine va_sld (pc := 686) hx hb hX hbl hbA hh.2.2 hix.2.1 (dOk_at dL_law_3 104 rfl) ?_
  refine lv_aload_n (pc := 687) hx hb (dOk_at dL_law_3 105 rfl) rfl (lv_at hl 0 rfl) ?_
  refine lv_iload_n (pc := 688) hx hb (dOk_at dL_law_3 106 rfl) rfl (lv_at hl 3 rfl) ?_
  refine lv_iconst (pc := 689) (v := 2) hx hb (dOk_at dL_law_3 107 rfl) rfl ?_
  refine lv_iadd (pc := 690) hx hb (dOk_at dL_law_3 108 rfl) ?_
  refine va_sld (pc := 691) hx hb hX hbl hbA hh.2.2 hix.2.2.1 (dOk_at dL_law_3 109 rfl) ?_
  obtain ⟨r, P, hx1, hm1⟩ := st_alone l G hI (xs (nI j + 1).toNatClampNeg) (xs (nI j + 2).toNatClampNeg)
  obtain ⟨fs0, hw0⟩ := hI.at0
  refine cl_W (pc := 692) (As := [.int (xs (nI j + 1).toNatClampNeg), .int (xs (nI j + 2).toNatClampNeg)]) (rest := []) fx hh hl.1 hx1 yV_X6_alone tML_63 ⟨rfl, rfl, Nat.le_of_ble_eq_true rfl, Nat.le_of_ble_eq_true rfl⟩ 0 6 hw0 rfl rfl rfl rfl (Nat.le_of_ble_eq_true rfl) ⟨Nat.le_of_ble_eq_true rfl, Nat.le_of_ble_eq_true rfl⟩ (dOk_at dL_law_3 110 rfl) (fun W1 H locs hp1 hh => ?_)
  obtain ⟨⟨fs1, hw1⟩, hm2⟩ := hm1 W1 hp1
  refine lv_aload_n (pc := 695) hx hb (dOk_at dL_law_3 111 rfl) rfl (lv_at hl 2 rfl) ?_
  refine lv_aload_n (pc := 696) hx hb (dOk_at dL_law_3 112 rfl) rfl (lv_at hl 0 rfl) ?_
  refine lv_iload_n (pc := 697) hx hb (dOk_at dL_law_3 113 rfl) rfl (lv_at hl 3 rfl) ?_
  refine lv_iconst (pc := 698) (v := 1) hx hb (dOk_at dL_law_3 114 rfl) rfl ?_
  refine lv_iadd (pc := 699) hx hb (dOk_at dL_law_3 115 rfl) ?_
  refine va_sld (pc := 700) hx hb hX hbl hbA hh.2.2 hix.2.1 (dOk_at dL_law_3 116 rfl) ?_
  refine lv_aload_n (pc := 701) hx hb (dOk_at dL_law_3 117 rfl) rfl (lv_at hl 0 rfl) ?_
  refine lv_iload_n (pc := 702) hx hb (dOk_at dL_law_3 118 rfl) rfl (lv_at hl 3 rfl) ?_
  refine lv_iconst (pc := 703) (v := 2) hx hb (dOk_at dL_law_3 119 rfl) rfl ?_
  refine lv_iadd (pc := 704) hx hb (dOk_at dL_law_4 0 rfl) ?_
  refine va_sld (pc := 705) hx hb hX hbl hbA hh.2.2 hix.2.2.1 (dOk_at dL_law_4 1 rfl) ?_
  refine cl_W (pc := 706) (As := [.int (xs (nI j + 1).toNatClampNeg), .int (xs (nI j + 2).toNatClampNeg)]) (rest := [.int r]) fx hh hl.1 hm2 yV_X7_alone tML_66 ⟨rfl, rfl, Nat.le_of_ble_eq_true rfl, Nat.le_of_ble_eq_true rfl⟩ 28 7 hw1 rfl rfl rfl rfl (Nat.le_of_ble_eq_true rfl) ⟨Nat.le_of_ble_eq_true rfl, Nat.le_of_ble_eq_true rfl⟩ (dOk_at dL_law_4 2 rfl) (fun W2 H locs hI2 hh => ?_)
  exact lv_icmp_eq (pc := 709) (tgt := 1338) hx hb (dOk_at dL_law_4 3 rfl) (by decide) (fun _ => kk W2 H locs hI2 hh) (fun c2 => absurd rfl c2)
theorem law_neck (fx : FX G RL cL_law 4 (some .boolean) p s m #[.ref b] meth c A) (hX : va_X b L xs s s.heap) (hbl : b < s.heap.size) (hbA : ¬ A b) (hix : LIX j L) (hl : lv_has ls 4 (lwL b xa ma j)) (hI : INV G xa ma W0) (hh : HP G A W0 s H locs) (kk : ∀ (W1 : va_W) (H : Heap) (locs : List Loc), INV G xa ma W1 → HP G A W1 s H locs → W p l e room_1 s m #[.ref b] below meth c H locs 44 936 Q (F0 m 1338 ls [])) : W p l e room_1 s m #[.ref b] below meth c H locs 44 936 Q (F0 m 714 ls []) := by
  have hx := fx.hx; have hb := fx.hb
  refine lv_aload_n (pc := 714) hx hb (dOk_at dL_law_4 6 rfl) rfl (lv_at hl 1 rfl) ?_
  refine lv_aload_n (pc := 715) hx hb (dOk_at dL_law_4 7 rfl) rfl (lv_at hl 0 rfl) ?_
  refine lv_iload_n (pc := 716) hx hb (dOk_at dL_law_4 8 rfl) rfl (lv_at hl 3 rfl) ?_
  refine lv_iconst (pc := 717) (v := 1) hx hb (dOk_at dL_law_4 9 rfl) rfl ?_
  refine lv_iadd (pc := 718) hx hb (dOk_at dL_law_4 10 rfl) ?_
  refine va_sld (pc := 719) hx hb hX hbl hbA hh.2.2 hix.2.1 (dOk_at dL_law_4 11 rfl) ?_
  refine lv_aload_n (pc := 720) hx hb (dOk_at dL_law_4 12 rfl) rfl (lv_at hl 0 rfl) ?_
  refine lv_iload_n (pc := 721) hx hb (dOk_at dL_law_4 13 rfl) rfl (lv_at hl 3 rfl) ?_
  refine lv_iconst (pc := 722) (v := 2) hx hb (dOk_at dL_law_4 14 rfl) rfl ?_
  refine lv_iadd (pc := 723) hx hb (dOk_at dL_law_4 15 rfl) ?_
  refine va_sld (pc := 724) hx hb hX hbl hbA hh.2.2 hix.2.2.1 (dOk_at dL_law_4 16 rfl) ?_
  refine lv_aload_n (pc := 725) hx hb (dOk_at dL_law_4 17 rfl) rfl (lv_at hl 0 rfl) ?_
  refine lv_iload_n (pc := 726) hx hb (dOk_at dL_law_4 18 rfl) rfl (lv_at hl 3 rfl) ?_
  refine lv_iconst (pc := 727) (v := 3) hx hb (dOk_at dL_law_4 19 rfl) rfl ?_
  refine lv_iadd (pc := 728) hx hb (dOk_at dL_law_4 20 rfl) ?_
  refine va_sld (pc := 729) hx hb hX hbl hbA hh.2.2 hix.2.2.2.1 (dOk_at dL_law_4 21 rfl) ?_
  refine lv_aload_n (pc := 730) hx hb (dOk_at dL_law_4 22 rfl) rfl (lv_at hl 0 rfl) ?_
  refine lv_iload_n (pc := 731) hx hb (dOk_at dL_law_4 23 rfl) rfl (lv_at hl 3 rfl) ?_
  refine lv_iconst (pc := 732) (v := 4) hx hb (dOk_at dL_law_4 24 rfl) rfl ?_
  refine lv_iadd (pc := 733) hx hb (dOk_at dL_law_4 25 rfl) ?_
  refine va_sld (pc := 734) hx hb hX hbl hbA hh.2.2 hix.2.2.2.2.1 (dOk_at dL_law_4 26 rfl) ?_
  obtain ⟨r, P, hx1, hm1⟩ := st_neck l G hI (xs (nI j + 1).toNatClampNeg) (xs (nI j + 2).toNatClampNeg) (xs (nI j + 3).toNatClampNeg) (xs (nI j + 4).toNatClampNeg)
  obtain ⟨fs0, hw0⟩ := hI.at0
  refine cl_W (pc := 735) (As := [.int (xs (nI j + 1).toNatClampNeg), .int (xs (nI j + 2).toNatClampNeg), .int (xs (nI j + 3).toNatClampNeg), .int (xs (nI j + 4).toNatClampNeg)]) (rest := []) fx hh hl.1 hx1 yV_X6_neck tML_67 ⟨rfl, rfl, Nat.le_of_ble_eq_true rfl, Nat.le_of_ble_eq_true rfl⟩ 0 6 hw0 rfl rfl rfl rfl (Nat.le_of_ble_eq_true rfl) ⟨Nat.le_of_ble_eq_true rfl, Nat.le_of_ble_eq_true rfl⟩ (dOk_at dL_law_4 27 rfl) (fun W1 H locs hp1 hh => ?_)
  obtain ⟨⟨fs1, hw1⟩, hm2⟩ := hm1 W1 hp1
  refine lv_aload_n (pc := 738) hx hb (dOk_at dL_law_4 28 rfl) rfl (lv_at hl 2 rfl) ?_
  refine lv_aload_n (pc := 739) hx hb (dOk_at dL_law_4 29 rfl) rfl (lv_at hl 0 rfl) ?_
  refine lv_iload_n (pc := 740) hx hb (dOk_at dL_law_4 30 rfl) rfl (lv_at hl 3 rfl) ?_
  refine lv_iconst (pc := 741) (v := 1) hx hb (dOk_at dL_law_4 31 rfl) rfl ?_
  refine lv_iadd (pc := 742) hx hb (dOk_at dL_law_4 32 rfl) ?_
  refine va_sld (pc := 743) hx hb hX hbl hbA hh.2.2 hix.2.1 (dOk_at dL_law_4 33 rfl) ?_
  refine lv_aload_n (pc := 744) hx hb (dOk_at dL_law_4 34 rfl) rfl (lv_at hl 0 rfl) ?_
  refine lv_iload_n (pc := 745) hx hb (dOk_at dL_law_4 35 rfl) rfl (lv_at hl 3 rfl) ?_
  refine lv_iconst (pc := 746) (v := 2) hx hb (dOk_at dL_law_4 36 rfl) rfl ?_
  refine lv_iadd (pc := 747) hx hb (dOk_at dL_law_4 37 rfl) ?_
  refine va_sld (pc := 748) hx hb hX hbl hbA hh.2.2 hix.2.2.1 (dOk_at dL_law_4 38 rfl) ?_
  refine lv_aload_n (pc := 749) hx hb (dOk_at dL_law_4 39 rfl) rfl (lv_at hl 0 rfl) ?_
  refine lv_iload_n (pc := 750) hx hb (dOk_at dL_law_4 40 rfl) rfl (lv_at hl 3 rfl) ?_
  refine lv_iconst (pc := 751) (v := 3) hx hb (dOk_at dL_law_4 41 rfl) rfl ?_
  refine lv_iadd (pc := 752) hx hb (dOk_at dL_law_4 42 rfl) ?_
  refine va_sld (pc := 753) hx hb hX hbl hbA hh.2.2 hix.2.2.2.1 (dOk_at dL_law_4 43 rfl) ?_
  refine lv_aload_n (pc := 754) hx hb (dOk_at dL_law_4 44 rfl) rfl (lv_at hl 0 rfl) ?_
  refine lv_iload_n (pc := 755) hx hb (dOk_at dL_law_4 45 rfl) rfl (lv_at hl 3 rfl) ?_
  refine lv_iconst (pc := 756) (v := 4) hx hb (dOk_at dL_law_4 46 rfl) rfl ?_
  refine lv_iadd (pc := 757) hx hb (dOk_at dL_law_4 47 rfl) ?_
  refine va_sld (pc := 758) hx hb hX hbl hbA hh.2.2 hix.2.2.2.2.1 (dOk_at dL_law_4 48 rfl) ?_
  refine cl_W (pc := 759) (As := [.int (xs (nI j + 1).toNatClampNeg), .int (xs (nI j + 2).toNatClampNeg), .int (xs (nI j + 3).toNatClampNeg), .int (xs (nI j + 4).toNatClampNeg)]) (rest := [.int r]) fx hh hl.1 hm2 yV_X7_neck tML_70 ⟨rfl, rfl, Nat.le_of_ble_eq_true rfl, Nat.le_of_ble_eq_true rfl⟩ 28 7 hw1 rfl rfl rfl rfl (Nat.le_of_ble_eq_true rfl) ⟨Nat.le_of_ble_eq_true rfl, Nat.le_of_ble_eq_true rfl⟩ (dOk_at dL_law_4 49 rfl) (fun W2 H locs hI2 hh => ?_)
  exact lv_icmp_eq (pc := 762) (tgt := 1338) hx hb (dOk_at dL_law_4 50 rfl) (by decide) (fun _ => kk W2 H locs hI2 hh) (fun c2 => absurd rfl c2)
theorem law_reading (fx : FX G RL cL_law 4 (some .boolean) p s m #[.ref b] meth c A) (hX : va_X b L xs s s.heap) (hbl : b < s.heap.size) (hbA : ¬ A b) (hix : LIX j L) (hl : lv_has ls 4 (lwL b xa ma j)) (hI : INV G xa ma W0) (hh : HP G A W0 s H locs) (kk : ∀ (W1 : va_W) (H : Heap) (locs : List Loc), INV G xa ma W1 → HP G A W1 s H locs → W p l e room_1 s m #[.ref b] below meth c H locs 44 936 Q (F0 m 1338 ls [])) : W p l e room_1 s m #[.ref b] below meth c H locs 44 936 Q (F0 m 767 ls []) := by
  have hx := fx.hx; have hb := fx.hb
  refine lv_aload_n (pc := 767) hx hb (dOk_at dL_law_4 53 rfl) rfl (lv_at hl 1 rfl) ?_
  refine lv_aload_n (pc := 768) hx hb (dOk_at dL_law_4 54 rfl) rfl (lv_at hl 0 rfl) ?_
  refine lv_iload_n (pc := 769) hx hb (dOk_at dL_law_4 55 rfl) rfl (lv_at hl 3 rfl) ?_
  refine lv_iconst (pc := 770) (v := 1) hx hb (dOk_at dL_law_4 56 rfl) rfl ?_
  refine lv_iadd (pc := 771) hx hb (dOk_at dL_law_4 57 rfl) ?_
  refine va_sld (pc := 772) hx hb hX hbl hbA hh.2.2 hix.2.1 (dOk_at dL_law_4 58 rfl) ?_
  refine lv_aload_n (pc := 773) hx hb (dOk_at dL_law_4 59 rfl) rfl (lv_at hl 0 rfl) ?_
  refine lv_iload_n (pc := 774) hx hb (dOk_at dL_law_4 60 rfl) rfl (lv_at hl 3 rfl) ?_
  refine lv_iconst (pc := 775) (v := 2) hx hb (dOk_at dL_law_4 61 rfl) rfl ?_
  refine lv_iadd (pc := 776) hx hb (dOk_at dL_law_4 62 rfl) ?_
  refine va_sld (pc := 777) hx hb hX hbl hbA hh.2.2 hix.2.2.1 (dOk_at dL_law_4 63 rfl) ?_
  refine lv_aload_n (pc := 778) hx hb (dOk_at dL_law_4 64 rfl) rfl (lv_at hl 0 rfl) ?_
  refine lv_iload_n (pc := 779) hx hb (dOk_at dL_law_4 65 rfl) rfl (lv_at hl 3 rfl) ?_
  refine lv_iconst (pc := 780) (v := 3) hx hb (dOk_at dL_law_4 66 rfl) rfl ?_
  refine lv_iadd (pc := 781) hx hb (dOk_at dL_law_4 67 rfl) ?_
  refine va_sld (pc := 782) hx hb hX hbl hbA hh.2.2 hix.2.2.2.1 (dOk_at dL_law_4 68 rfl) ?_
  refine lv_if_eq (pc := 783) (tgt := 790) hx hb (dOk_at dL_law_4 69 rfl) (by decide) (fun c0 => ?_) (fun c0 => ?_)
  · refine lv_iconst (pc := 790) (v := 0) hx hb (dOk_at dL_law_4 72 rfl) rfl ?_
    obtain ⟨r, P, hx1, hm1⟩ := st_reading l G hI (xs (nI j + 1).toNatClampNeg) (xs (nI j + 2).toNatClampNeg) (0)
    obtain ⟨fs0, hw0⟩ := hI.at0
    refine cl_W (pc := 791) (As := [.int (xs (nI j + 1).toNatClampNeg), .int (xs (nI j + 2).toNatClampNeg), .int (0)]) (rest := []) fx hh hl.1 hx1 yV_X6_reading tML_71 ⟨rfl, rfl, Nat.le_of_ble_eq_true rfl, Nat.le_of_ble_eq_true rfl⟩ 0 6 hw0 rfl rfl rfl rfl (Nat.le_of_ble_eq_true rfl) ⟨Nat.le_of_ble_eq_true rfl, Nat.le_of_ble_eq_true rfl⟩ (dOk_at dL_law_4 73 rfl) (fun W1 H locs hp1 hh => ?_)
    obtain ⟨⟨fs1, hw1⟩, hm2⟩ := hm1 W1 hp1
    refine lv_aload_n (pc := 794) hx hb (dOk_at dL_law_4 74 rfl) rfl (lv_at hl 2 rfl) ?_
    refine lv_aload_n (pc := 795) hx hb (dOk_at dL_law_4 75 rfl) rfl (lv_at hl 0 rfl) ?_
    refine lv_iload_n (pc := 796) hx hb (dOk_at dL_law_4 76 rfl) rfl (lv_at hl 3 rfl) ?_
    refine lv_iconst (pc := 797) (v := 1) hx hb (dOk_at dL_law_4 77 rfl) rfl ?_
    refine lv_iadd (pc := 798) hx hb (dOk_at dL_law_4 78 rfl) ?_
    refine va_sld (pc := 799) hx hb hX hbl hbA hh.2.2 hix.2.1 (dOk_at dL_law_4 79 rfl) ?_
    refine lv_aload_n (pc := 800) hx hb (dOk_at dL_law_4 80 rfl) rfl (lv_at hl 0 rfl) ?_
    refine lv_iload_n (pc := 801) hx hb (dOk_at dL_law_4 81 rfl) rfl (lv_at hl 3 rfl) ?_
    refine lv_iconst (pc := 802) (v := 2) hx hb (dOk_at dL_law_4 82 rfl) rfl ?_
    refine lv_iadd (pc := 803) hx hb (dOk_at dL_law_4 83 rfl) ?_
    refine va_sld (pc := 804) hx hb hX hbl hbA hh.2.2 hix.2.2.1 (dOk_at dL_law_4 84 rfl) ?_
    refine lv_aload_n (pc := 805) hx hb (dOk_at dL_law_4 85 rfl) rfl (lv_at hl 0 rfl) ?_
    refine lv_iload_n (pc := 806) hx hb (dOk_at dL_law_4 86 rfl) rfl (lv_at hl 3 rfl) ?_
    refine lv_iconst (pc := 807) (v := 3) hx hb (dOk_at dL_law_4 87 rfl) rfl ?_
    refine lv_iadd (pc := 808) hx hb (dOk_at dL_law_4 88 rfl) ?_
    refine va_sld (pc := 809) hx hb hX hbl hbA hh.2.2 hix.2.2.2.1 (dOk_at dL_law_4 89 rfl) ?_
    refine lv_if_eq (pc := 810) (tgt := 817) hx hb (dOk_at dL_law_4 90 rfl) (by decide) (fun _ => ?_) (fun c1 => absurd c0 c1)
    refine lv_iconst (pc := 817) (v := 0) hx hb (dOk_at dL_law_4 93 rfl) rfl ?_
    refine cl_W (pc := 818) (As := [.int (xs (nI j + 1).toNatClampNeg), .int (xs (nI j + 2).toNatClampNeg), .int (0)]) (rest := [.int r]) fx hh hl.1 hm2 yV_X7_reading tML_75 ⟨rfl, rfl, Nat.le_of_ble_eq_true rfl, Nat.le_of_ble_eq_true rfl⟩ 28 7 hw1 rfl rfl rfl rfl (Nat.le_of_ble_eq_true rfl) ⟨Nat.le_of_ble_eq_true rfl, Nat.le_of_ble_eq_true rfl⟩ (dOk_at dL_law_4 94 rfl) (fun W2 H locs hI2 hh => ?_)
    exact lv_icmp_eq (pc := 821) (tgt := 1338) hx hb (dOk_at dL_law_4 95 rfl) (by decide) (fun _ => kk W2 H locs hI2 hh) (fun c2 => absurd rfl c2)
  · refine lv_iconst (pc := 786) (v := 1) hx hb (dOk_at dL_law_4 70 rfl) rfl ?_
    refine lv_goto (pc := 787) (tgt := 791) hx hb (dOk_at dL_law_4 71 rfl) (by decide) ?_
    obtain ⟨r, P, hx1, hm1⟩ := st_reading l G hI (xs (nI j + 1).toNatClampNeg) (xs (nI j + 2).toNatClampNeg) (1)
    obtain ⟨fs0, hw0⟩ := hI.at0
    refine cl_W (pc := 791) (As := [.int (xs (nI j + 1).toNatClampNeg), .int (xs (nI j + 2).toNatClampNeg), .int (1)]) (rest := []) fx hh hl.1 hx1 yV_X6_reading tML_71 ⟨rfl, rfl, Nat.le_of_ble_eq_true rfl, Nat.le_of_ble_eq_true rfl⟩ 0 6 hw0 rfl rfl rfl rfl (Nat.le_of_ble_eq_true rfl) ⟨Nat.le_of_ble_eq_true rfl, Nat.le_of_ble_eq_true rfl⟩ (dOk_at dL_law_4 73 rfl) (fun W1 H locs hp1 hh => ?_)
    obtain ⟨⟨fs1, hw1⟩, hm2⟩ := hm1 W1 hp1
    refine lv_aload_n (pc := 794) hx hb (dOk_at dL_law_4 74 rfl) rfl (lv_at hl 2 rfl) ?_
    refine lv_aload_n (pc := 795) hx hb (dOk_at dL_law_4 75 rfl) rfl (lv_at hl 0 rfl) ?_
    refine lv_iload_n (pc := 796) hx hb (dOk_at dL_law_4 76 rfl) rfl (lv_at hl 3 rfl) ?_
    refine lv_iconst (pc := 797) (v := 1) hx hb (dOk_at dL_law_4 77 rfl) rfl ?_
    refine lv_iadd (pc := 798) hx hb (dOk_at dL_law_4 78 rfl) ?_
    refine va_sld (pc := 799) hx hb hX hbl hbA hh.2.2 hix.2.1 (dOk_at dL_law_4 79 rfl) ?_
    refine lv_aload_n (pc := 800) hx hb (dOk_at dL_law_4 80 rfl) rfl (lv_at hl 0 rfl) ?_
    refine lv_iload_n (pc := 801) hx hb (dOk_at dL_law_4 81 rfl) rfl (lv_at hl 3 rfl) ?_
    refine lv_iconst (pc := 802) (v := 2) hx hb (dOk_at dL_law_4 82 rfl) rfl ?_
    refine lv_iadd (pc := 803) hx hb (dOk_at dL_law_4 83 rfl) ?_
    refine va_sld (pc := 804) hx hb hX hbl hbA hh.2.2 hix.2.2.1 (dOk_at dL_law_4 84 rfl) ?_
    refine lv_aload_n (pc := 805) hx hb (dOk_at dL_law_4 85 rfl) rfl (lv_at hl 0 rfl) ?_
    refine lv_iload_n (pc := 806) hx hb (dOk_at dL_law_4 86 rfl) rfl (lv_at hl 3 rfl) ?_
    refine lv_iconst (pc := 807) (v := 3) hx hb (dOk_at dL_law_4 87 rfl) rfl ?_
    refine lv_iadd (pc := 808) hx hb (dOk_at dL_law_4 88 rfl) ?_
    refine va_sld (pc := 809) hx hb hX hbl hbA hh.2.2 hix.2.2.2.1 (dOk_at dL_law_4 89 rfl) ?_
    refine lv_if_eq (pc := 810) (tgt := 817) hx hb (dOk_at dL_law_4 90 rfl) (by decide) (fun c1 => absurd c1 c0) (fun _ => ?_)
    refine lv_iconst (pc := 813) (v := 1) hx hb (dOk_at dL_law_4 91 rfl) rfl ?_
    refine lv_goto (pc := 814) (tgt := 818) hx hb (dOk_at dL_law_4 92 rfl) (by decide) ?_
    refine cl_W (pc := 818) (As := [.int (xs (nI j + 1).toNatClampNeg), .int (xs (nI j + 2).toNatClampNeg), .int (1)]) (rest := [.int r]) fx hh hl.1 hm2 yV_X7_reading tML_75 ⟨rfl, rfl, Nat.le_of_ble_eq_true rfl, Nat.le_of_ble_eq_true rfl⟩ 28 7 hw1 rfl rfl rfl rfl (Nat.le_of_ble_eq_true rfl) ⟨Nat.le_of_ble_eq_true rfl, Nat.le_of_ble_eq_true rfl⟩ (dOk_at dL_law_4 94 rfl) (fun W2 H locs hI2 hh => ?_)
    exact lv_icmp_eq (pc := 821) (tgt := 1338) hx hb (dOk_at dL_law_4 95 rfl) (by decide) (fun _ => kk W2 H locs hI2 hh) (fun c2 => absurd rfl c2)
theorem law_back (fx : FX G RL cL_law 4 (some .boolean) p s m #[.ref b] meth c A) (hX : va_X b L xs s s.heap) (hbl : b < s.heap.size) (hbA : ¬ A b) (hix : LIX j L) (hl : lv_has ls 4 (lwL b xa ma j)) (hI : INV G xa ma W0) (hh : HP G A W0 s H locs) (kk : ∀ (W1 : va_W) (H : Heap) (locs : List Loc), INV G xa ma W1 → HP G A W1 s H locs → W p l e room_1 s m #[.ref b] below meth c H locs 44 936 Q (F0 m 1338 ls [])) : W p l e room_1 s m #[.ref b] below meth c H locs 44 936 Q (F0 m 826 ls []) := by
  have hx := fx.hx; have hb := fx.hb
  refine lv_aload_n (pc := 826) hx hb (dOk_at dL_law_4 98 rfl) rfl (lv_at hl 1 rfl) ?_
  refine lv_aload_n (pc := 827) hx hb (dOk_at dL_law_4 99 rfl) rfl (lv_at hl 0 rfl) ?_
  refine lv_iload_n (pc := 828) hx hb (dOk_at dL_law_4 100 rfl) rfl (lv_at hl 3 rfl) ?_
  refine lv_iconst (pc := 829) (v := 1) hx hb (dOk_at dL_law_4 101 rfl) rfl ?_
  refine lv_iadd (pc := 830) hx hb (dOk_at dL_law_4 102 rfl) ?_
  refine va_sld (pc := 831) hx hb hX hbl hbA hh.2.2 hix.2.1 (dOk_at dL_law_4 103 rfl) ?_
  obtain ⟨r, P, hx1, hm1⟩ := st_back l G hI (xs (nI j + 1).toNatClampNeg)
  obtain ⟨fs0, hw0⟩ := hI.at0
  refine cl_W (pc := 832) (As := [.int (xs (nI j + 1).toNatClampNeg)]) (rest := []) fx hh hl.1 hx1 yV_X6_back tML_76 ⟨rfl, rfl, Nat.le_of_ble_eq_true rfl, Nat.le_of_ble_eq_true rfl⟩ 0 6 hw0 rfl rfl rfl rfl (Nat.le_of_ble_eq_true rfl) ⟨Nat.le_of_ble_eq_true rfl, Nat.le_of_ble_eq_true rfl⟩ (dOk_at dL_law_4 104 rfl) (fun W1 H locs hp1 hh => ?_)
  obtain ⟨⟨fs1, hw1⟩, hm2⟩ := hm1 W1 hp1
  refine lv_aload_n (pc := 835) hx hb (dOk_at dL_law_4 105 rfl) rfl (lv_at hl 2 rfl) ?_
  refine lv_aload_n (pc := 836) hx hb (dOk_at dL_law_4 106 rfl) rfl (lv_at hl 0 rfl) ?_
  refine lv_iload_n (pc := 837) hx hb (dOk_at dL_law_4 107 rfl) rfl (lv_at hl 3 rfl) ?_
  refine lv_iconst (pc := 838) (v := 1) hx hb (dOk_at dL_law_4 108 rfl) rfl ?_
  refine lv_iadd (pc := 839) hx hb (dOk_at dL_law_4 109 rfl) ?_
  refine va_sld (pc := 840) hx hb hX hbl hbA hh.2.2 hix.2.1 (dOk_at dL_law_4 110 rfl) ?_
  refine cl_W (pc := 841) (As := [.int (xs (nI j + 1).toNatClampNeg)]) (rest := [.int r]) fx hh hl.1 hm2 yV_X7_back tML_79 ⟨rfl, rfl, Nat.le_of_ble_eq_true rfl, Nat.le_of_ble_eq_true rfl⟩ 28 7 hw1 rfl rfl rfl rfl (Nat.le_of_ble_eq_true rfl) ⟨Nat.le_of_ble_eq_true rfl, Nat.le_of_ble_eq_true rfl⟩ (dOk_at dL_law_4 111 rfl) (fun W2 H locs hI2 hh => ?_)
  exact lv_icmp_eq (pc := 844) (tgt := 1338) hx hb (dOk_at dL_law_4 112 rfl) (by decide) (fun _ => kk W2 H locs hI2 hh) (fun c2 => absurd rfl c2)
theorem law_weights (fx : FX G RL cL_law 4 (some .boolean) p s m #[.ref b] meth c A) (hX : va_X b L xs s s.heap) (hbl : b < s.heap.size) (hbA : ¬ A b) (hix : LIX j L) (hl : lv_has ls 4 (lwL b xa ma j)) (hI : INV G xa ma W0) (hh : HP G A W0 s H locs) (kk : ∀ (W1 : va_W) (H : Heap) (locs : List Loc), INV G xa ma W1 → HP G A W1 s H locs → W p l e room_1 s m #[.ref b] below meth c H locs 44 936 Q (F0 m 1338 ls [])) : W p l e room_1 s m #[.ref b] below meth c H locs 44 936 Q (F0 m 849 ls []) := by
  have hx := fx.hx; have hb := fx.hb
  refine lv_aload_n (pc := 849) hx hb (dOk_at dL_law_4 115 rfl) rfl (lv_at hl 1 rfl) ?_
  refine lv_aload_n (pc := 850) hx hb (dOk_at dL_law_4 116 rfl) rfl (lv_at hl 0 rfl) ?_
  refine lv_iload_n (pc := 851) hx hb (dOk_at dL_law_4 117 rfl) rfl (lv_at hl 3 rfl) ?_
  refine lv_iconst (pc := 852) (v := 1) hx hb (dOk_at dL_law_4 118 rfl) rfl ?_
  refine lv_iadd (pc := 853) hx hb (dOk_at dL_law_4 119 rfl) ?_
  refine va_sld (pc := 854) hx hb hX hbl hbA hh.2.2 hix.2.1 (dOk_at dL_law_5 0 rfl) ?_
  obtain ⟨r, P, hx1, hm1⟩ := st_weights l G hI (xs (nI j + 1).toNatClampNeg)
  obtain ⟨fs0, hw0⟩ := hI.at0
  refine cl_W (pc := 855) (As := [.int (xs (nI j + 1).toNatClampNeg)]) (rest := []) fx hh hl.1 hx1 yV_X6_weights tML_80 ⟨rfl, rfl, Nat.le_of_ble_eq_true rfl, Nat.le_of_ble_eq_true rfl⟩ 0 6 hw0 rfl rfl rfl rfl (Nat.le_of_ble_eq_true rfl) ⟨Nat.le_of_ble_eq_true rfl, Nat.le_of_ble_eq_true rfl⟩ (dOk_at dL_law_5 1 rfl) (fun W1 H locs hp1 hh => ?_)
  obtain ⟨⟨fs1, hw1⟩, hm2⟩ := hm1 W1 hp1
  refine lv_aload_n (pc := 858) hx hb (dOk_at dL_law_5 2 rfl) rfl (lv_at hl 2 rfl) ?_
  refine lv_aload_n (pc := 859) hx hb (dOk_at dL_law_5 3 rfl) rfl (lv_at hl 0 rfl) ?_
  refine lv_iload_n (pc := 860) hx hb (dOk_at dL_law_5 4 rfl) rfl (lv_at hl 3 rfl) ?_
  refine lv_iconst (pc := 861) (v := 1) hx hb (dOk_at dL_law_5 5 rfl) rfl ?_
  refine lv_iadd (pc := 862) hx hb (dOk_at dL_law_5 6 rfl) ?_
  refine va_sld (pc := 863) hx hb hX hbl hbA hh.2.2 hix.2.1 (dOk_at dL_law_5 7 rfl) ?_
  refine cl_W (pc := 864) (As := [.int (xs (nI j + 1).toNatClampNeg)]) (rest := [.int r]) fx hh hl.1 hm2 yV_X7_weights tML_83 ⟨rfl, rfl, Nat.le_of_ble_eq_true rfl, Nat.le_of_ble_eq_true rfl⟩ 28 7 hw1 rfl rfl rfl rfl (Nat.le_of_ble_eq_true rfl) ⟨Nat.le_of_ble_eq_true rfl, Nat.le_of_ble_eq_true rfl⟩ (dOk_at dL_law_5 8 rfl) (fun W2 H locs hI2 hh => ?_)
  exact lv_icmp_eq (pc := 867) (tgt := 1338) hx hb (dOk_at dL_law_5 9 rfl) (by decide) (fun _ => kk W2 H locs hI2 hh) (fun c2 => absurd rfl c2)
theorem law_kinds (fx : FX G RL cL_law 4 (some .boolean) p s m #[.ref b] meth c A) (hX : va_X b L xs s s.heap) (hbl : b < s.heap.size) (hbA : ¬ A b) (hix : LIX j L) (hl : lv_has ls 4 (lwL b xa ma j)) (hI : INV G xa ma W0) (hh : HP G A W0 s H locs) (kk : ∀ (W1 : va_W) (H : Heap) (locs : List Loc), INV G xa ma W1 → HP G A W1 s H locs → W p l e room_1 s m #[.ref b] below meth c H locs 44 936 Q (F0 m 1338 ls [])) : W p l e room_1 s m #[.ref b] below meth c H locs 44 936 Q (F0 m 872 ls []) := by
  have hx := fx.hx; have hb := fx.hb
  refine lv_aload_n (pc := 872) hx hb (dOk_at dL_law_5 12 rfl) rfl (lv_at hl 1 rfl) ?_
  refine lv_aload_n (pc := 873) hx hb (dOk_at dL_law_5 13 rfl) rfl (lv_at hl 0 rfl) ?_
  refine lv_iload_n (pc := 874) hx hb (dOk_at dL_law_5 14 rfl) rfl (lv_at hl 3 rfl) ?_
  refine lv_iconst (pc := 875) (v := 1) hx hb (dOk_at dL_law_5 15 rfl) rfl ?_
  refine lv_iadd (pc := 876) hx hb (dOk_at dL_law_5 16 rfl) ?_
  refine va_sld (pc := 877) hx hb hX hbl hbA hh.2.2 hix.2.1 (dOk_at dL_law_5 17 rfl) ?_
  obtain ⟨r, P, hx1, hm1⟩ := st_kinds l G hI (xs (nI j + 1).toNatClampNeg)
  obtain ⟨fs0, hw0⟩ := hI.at0
  refine cl_W (pc := 878) (As := [.int (xs (nI j + 1).toNatClampNeg)]) (rest := []) fx hh hl.1 hx1 yV_X6_kinds tML_84 ⟨rfl, rfl, Nat.le_of_ble_eq_true rfl, Nat.le_of_ble_eq_true rfl⟩ 0 6 hw0 rfl rfl rfl rfl (Nat.le_of_ble_eq_true rfl) ⟨Nat.le_of_ble_eq_true rfl, Nat.le_of_ble_eq_true rfl⟩ (dOk_at dL_law_5 18 rfl) (fun W1 H locs hp1 hh => ?_)
  obtain ⟨⟨fs1, hw1⟩, hm2⟩ := hm1 W1 hp1
  refine lv_aload_n (pc := 881) hx hb (dOk_at dL_law_5 19 rfl) rfl (lv_at hl 2 rfl) ?_
  refine lv_aload_n (pc := 882) hx hb (dOk_at dL_law_5 20 rfl) rfl (lv_at hl 0 rfl) ?_
  refine lv_iload_n (pc := 883) hx hb (dOk_at dL_law_5 21 rfl) rfl (lv_at hl 3 rfl) ?_
  refine lv_iconst (pc := 884) (v := 1) hx hb (dOk_at dL_law_5 22 rfl) rfl ?_
  refine lv_iadd (pc := 885) hx hb (dOk_at dL_law_5 23 rfl) ?_
  refine va_sld (pc := 886) hx hb hX hbl hbA hh.2.2 hix.2.1 (dOk_at dL_law_5 24 rfl) ?_
  refine cl_W (pc := 887) (As := [.int (xs (nI j + 1).toNatClampNeg)]) (rest := [.int r]) fx hh hl.1 hm2 yV_X7_kinds tML_87 ⟨rfl, rfl, Nat.le_of_ble_eq_true rfl, Nat.le_of_ble_eq_true rfl⟩ 28 7 hw1 rfl rfl rfl rfl (Nat.le_of_ble_eq_true rfl) ⟨Nat.le_of_ble_eq_true rfl, Nat.le_of_ble_eq_true rfl⟩ (dOk_at dL_law_5 25 rfl) (fun W2 H locs hI2 hh => ?_)
  exact lv_icmp_eq (pc := 890) (tgt := 1338) hx hb (dOk_at dL_law_5 26 rfl) (by decide) (fun _ => kk W2 H locs hI2 hh) (fun c2 => absurd rfl c2)
theorem law_strengths (fx : FX G RL cL_law 4 (some .boolean) p s m #[.ref b] meth c A) (hX : va_X b L xs s s.heap) (hbl : b < s.heap.size) (hbA : ¬ A b) (hix : LIX j L) (hl : lv_has ls 4 (lwL b xa ma j)) (hI : INV G xa ma W0) (hh : HP G A W0 s H locs) (kk : ∀ (W1 : va_W) (H : Heap) (locs : List Loc), INV G xa ma W1 → HP G A W1 s H locs → W p l e room_1 s m #[.ref b] below meth c H locs 44 936 Q (F0 m 1338 ls [])) : W p l e room_1 s m #[.ref b] below meth c H locs 44 936 Q (F0 m 895 ls []) := by
  have hx := fx.hx; have hb := fx.hb
  refine lv_aload_n (pc := 895) hx hb (dOk_at dL_law_5 29 rfl) rfl (lv_at hl 1 rfl) ?_
  refine lv_aload_n (pc := 896) hx hb (dOk_at dL_law_5 30 rfl) rfl (lv_at hl 0 rfl) ?_
  refine lv_iload_n (pc := 897) hx hb (dOk_at dL_law_5 31 rfl) rfl (lv_at hl 3 rfl) ?_
  refine lv_iconst (pc := 898) (v := 1) hx hb (dOk_at dL_law_5 32 rfl) rfl ?_
  refine lv_iadd (pc := 899) hx hb (dOk_at dL_law_5 33 rfl) ?_
  refine va_sld (pc := 900) hx hb hX hbl hbA hh.2.2 hix.2.1 (dOk_at dL_law_5 34 rfl) ?_
  obtain ⟨r, P, hx1, hm1⟩ := st_strengths l G hI (xs (nI j + 1).toNatClampNeg)
  obtain ⟨fs0, hw0⟩ := hI.at0
  refine cl_W (pc := 901) (As := [.int (xs (nI j + 1).toNatClampNeg)]) (rest := []) fx hh hl.1 hx1 yV_X6_strengths tML_88 ⟨rfl, rfl, Nat.le_of_ble_eq_true rfl, Nat.le_of_ble_eq_true rfl⟩ 0 6 hw0 rfl rfl rfl rfl (Nat.le_of_ble_eq_true rfl) ⟨Nat.le_of_ble_eq_true rfl, Nat.le_of_ble_eq_true rfl⟩ (dOk_at dL_law_5 35 rfl) (fun W1 H locs hp1 hh => ?_)
  obtain ⟨⟨fs1, hw1⟩, hm2⟩ := hm1 W1 hp1
  refine lv_aload_n (pc := 904) hx hb (dOk_at dL_law_5 36 rfl) rfl (lv_at hl 2 rfl) ?_
  refine lv_aload_n (pc := 905) hx hb (dOk_at dL_law_5 37 rfl) rfl (lv_at hl 0 rfl) ?_
  refine lv_iload_n (pc := 906) hx hb (dOk_at dL_law_5 38 rfl) rfl (lv_at hl 3 rfl) ?_
  refine lv_iconst (pc := 907) (v := 1) hx hb (dOk_at dL_law_5 39 rfl) rfl ?_
  refine lv_iadd (pc := 908) hx hb (dOk_at dL_law_5 40 rfl) ?_
  refine va_sld (pc := 909) hx hb hX hbl hbA hh.2.2 hix.2.1 (dOk_at dL_law_5 41 rfl) ?_
  refine cl_W (pc := 910) (As := [.int (xs (nI j + 1).toNatClampNeg)]) (rest := [.int r]) fx hh hl.1 hm2 yV_X7_strengths tML_91 ⟨rfl, rfl, Nat.le_of_ble_eq_true rfl, Nat.le_of_ble_eq_true rfl⟩ 28 7 hw1 rfl rfl rfl rfl (Nat.le_of_ble_eq_true rfl) ⟨Nat.le_of_ble_eq_true rfl, Nat.le_of_ble_eq_true rfl⟩ (dOk_at dL_law_5 42 rfl) (fun W2 H locs hI2 hh => ?_)
  exact lv_icmp_eq (pc := 913) (tgt := 1338) hx hb (dOk_at dL_law_5 43 rfl) (by decide) (fun _ => kk W2 H locs hI2 hh) (fun c2 => absurd rfl c2)
theorem law_odds (fx : FX G RL cL_law 4 (some .boolean) p s m #[.ref b] meth c A) (hX : va_X b L xs s s.heap) (hbl : b < s.heap.size) (hbA : ¬ A b) (hix : LIX j L) (hl : lv_has ls 4 (lwL b xa ma j)) (hI : INV G xa ma W0) (hh : HP G A W0 s H locs) (kk : ∀ (W1 : va_W) (H : Heap) (locs : List Loc), INV G xa ma W1 → HP G A W1 s H locs → W p l e room_1 s m #[.ref b] below meth c H locs 44 936 Q (F0 m 1338 ls [])) : W p l e room_1 s m #[.ref b] below meth c H locs 44 936 Q (F0 m 918 ls []) := by
  have hx := fx.hx; have hb := fx.hb
  refine lv_aload_n (pc := 918) hx hb (dOk_at dL_law_5 46 rfl) rfl (lv_at hl 1 rfl) ?_
  refine lv_aload_n (pc := 919) hx hb (dOk_at dL_law_5 47 rfl) rfl (lv_at hl 0 rfl) ?_
  refine lv_iload_n (pc := 920) hx hb (dOk_at dL_law_5 48 rfl) rfl (lv_at hl 3 rfl) ?_
  refine lv_iconst (pc := 921) (v := 1) hx hb (dOk_at dL_law_5 49 rfl) rfl ?_
  refine lv_iadd (pc := 922) hx hb (dOk_at dL_law_5 50 rfl) ?_
  refine va_sld (pc := 923) hx hb hX hbl hbA hh.2.2 hix.2.1 (dOk_at dL_law_5 51 rfl) ?_
  refine lv_aload_n (pc := 924) hx hb (dOk_at dL_law_5 52 rfl) rfl (lv_at hl 0 rfl) ?_
  refine lv_iload_n (pc := 925) hx hb (dOk_at dL_law_5 53 rfl) rfl (lv_at hl 3 rfl) ?_
  refine lv_iconst (pc := 926) (v := 2) hx hb (dOk_at dL_law_5 54 rfl) rfl ?_
  refine lv_iadd (pc := 927) hx hb (dOk_at dL_law_5 55 rfl) ?_
  refine va_sld (pc := 928) hx hb hX hbl hbA hh.2.2 hix.2.2.1 (dOk_at dL_law_5 56 rfl) ?_
  refine lv_aload_n (pc := 929) hx hb (dOk_at dL_law_5 57 rfl) rfl (lv_at hl 0 rfl) ?_
  refine lv_iload_n (pc := 930) hx hb (dOk_at dL_law_5 58 rfl) rfl (lv_at hl 3 rfl) ?_
  refine lv_iconst (pc := 931) (v := 3) hx hb (dOk_at dL_law_5 59 rfl) rfl ?_
  refine lv_iadd (pc := 932) hx hb (dOk_at dL_law_5 60 rfl) ?_
  refine va_sld (pc := 933) hx hb hX hbl hbA hh.2.2 hix.2.2.2.1 (dOk_at dL_law_5 61 rfl) ?_
  refine lv_aload_n (pc := 934) hx hb (dOk_at dL_law_5 62 rfl) rfl (lv_at hl 0 rfl) ?_
  refine lv_iload_n (pc := 935) hx hb (dOk_at dL_law_5 63 rfl) rfl (lv_at hl 3 rfl) ?_
  refine lv_iconst (pc := 936) (v := 4) hx hb (dOk_at dL_law_5 64 rfl) rfl ?_
  refine lv_iadd (pc := 937) hx hb (dOk_at dL_law_5 65 rfl) ?_
  refine va_sld (pc := 938) hx hb hX hbl hbA hh.2.2 hix.2.2.2.2.1 (dOk_at dL_law_5 66 rfl) ?_
  refine lv_aload_n (pc := 939) hx hb (dOk_at dL_law_5 67 rfl) rfl (lv_at hl 0 rfl) ?_
  refine lv_iload_n (pc := 940) hx hb (dOk_at dL_law_5 68 rfl) rfl (lv_at hl 3 rfl) ?_
  refine lv_iconst (pc := 941) (v := 5) hx hb (dOk_at dL_law_5 69 rfl) rfl ?_
  refine lv_iadd (pc := 942) hx hb (dOk_at dL_law_5 70 rfl) ?_
  refine va_sld (pc := 943) hx hb hX hbl hbA hh.2.2 hix.2.2.2.2.2.1 (dOk_at dL_law_5 71 rfl) ?_
  refine lv_aload_n (pc := 944) hx hb (dOk_at dL_law_5 72 rfl) rfl (lv_at hl 0 rfl) ?_
  refine lv_iload_n (pc := 945) hx hb (dOk_at dL_law_5 73 rfl) rfl (lv_at hl 3 rfl) ?_
  refine lv_bipush (pc := 946) (v := 6) hx hb (dOk_at dL_law_5 74 rfl) rfl ?_
  refine lv_iadd (pc := 948) hx hb (dOk_at dL_law_5 75 rfl) ?_
  refine va_sld (pc := 949) hx hb hX hbl hbA hh.2.2 hix.2.2.2.2.2.2.1 (dOk_at dL_law_5 76 rfl) ?_
  obtain ⟨r, P, hx1, hm1⟩ := st_odds l G hI (xs (nI j + 1).toNatClampNeg) (xs (nI j + 2).toNatClampNeg) (xs (nI j + 3).toNatClampNeg) (xs (nI j + 4).toNatClampNeg) (xs (nI j + 5).toNatClampNeg) (xs (nI j + 6).toNatClampNeg)
  obtain ⟨fs0, hw0⟩ := hI.at0
  refine cl_W (pc := 950) (As := [.int (xs (nI j + 1).toNatClampNeg), .int (xs (nI j + 2).toNatClampNeg), .int (xs (nI j + 3).toNatClampNeg), .int (xs (nI j + 4).toNatClampNeg), .int (xs (nI j + 5).toNatClampNeg), .int (xs (nI j + 6).toNatClampNeg)]) (rest := []) fx hh hl.1 hx1 yV_X6_odds tML_92 ⟨rfl, rfl, Nat.le_of_ble_eq_true rfl, Nat.le_of_ble_eq_true rfl⟩ 0 6 hw0 rfl rfl rfl rfl (Nat.le_of_ble_eq_true rfl) ⟨Nat.le_of_ble_eq_true rfl, Nat.le_of_ble_eq_true rfl⟩ (dOk_at dL_law_5 77 rfl) (fun W1 H locs hp1 hh => ?_)
  obtain ⟨⟨fs1, hw1⟩, hm2⟩ := hm1 W1 hp1
  refine lv_aload_n (pc := 953) hx hb (dOk_at dL_law_5 78 rfl) rfl (lv_at hl 2 rfl) ?_
  refine lv_aload_n (pc := 954) hx hb (dOk_at dL_law_5 79 rfl) rfl (lv_at hl 0 rfl) ?_
  refine lv_iload_n (pc := 955) hx hb (dOk_at dL_law_5 80 rfl) rfl (lv_at hl 3 rfl) ?_
  refine lv_iconst (pc := 956) (v := 1) hx hb (dOk_at dL_law_5 81 rfl) rfl ?_
  refine lv_iadd (pc := 957) hx hb (dOk_at dL_law_5 82 rfl) ?_
  refine va_sld (pc := 958) hx hb hX hbl hbA hh.2.2 hix.2.1 (dOk_at dL_law_5 83 rfl) ?_
  refine lv_aload_n (pc := 959) hx hb (dOk_at dL_law_5 84 rfl) rfl (lv_at hl 0 rfl) ?_
  refine lv_iload_n (pc := 960) hx hb (dOk_at dL_law_5 85 rfl) rfl (lv_at hl 3 rfl) ?_
  refine lv_iconst (pc := 961) (v := 2) hx hb (dOk_at dL_law_5 86 rfl) rfl ?_
  refine lv_iadd (pc := 962) hx hb (dOk_at dL_law_5 87 rfl) ?_
  refine va_sld (pc := 963) hx hb hX hbl hbA hh.2.2 hix.2.2.1 (dOk_at dL_law_5 88 rfl) ?_
  refine lv_aload_n (pc := 964) hx hb (dOk_at dL_law_5 89 rfl) rfl (lv_at hl 0 rfl) ?_
  refine lv_iload_n (pc := 965) hx hb (dOk_at dL_law_5 90 rfl) rfl (lv_at hl 3 rfl) ?_
  refine lv_iconst (pc := 966) (v := 3) hx hb (dOk_at dL_law_5 91 rfl) rfl ?_
  refine lv_iadd (pc := 967) hx hb (dOk_at dL_law_5 92 rfl) ?_
  refine va_sld (pc := 968) hx hb hX hbl hbA hh.2.2 hix.2.2.2.1 (dOk_at dL_law_5 93 rfl) ?_
  refine lv_aload_n (pc := 969) hx hb (dOk_at dL_law_5 94 rfl) rfl (lv_at hl 0 rfl) ?_
  refine lv_iload_n (pc := 970) hx hb (dOk_at dL_law_5 95 rfl) rfl (lv_at hl 3 rfl) ?_
  refine lv_iconst (pc := 971) (v := 4) hx hb (dOk_at dL_law_5 96 rfl) rfl ?_
  refine lv_iadd (pc := 972) hx hb (dOk_at dL_law_5 97 rfl) ?_
  refine va_sld (pc := 973) hx hb hX hbl hbA hh.2.2 hix.2.2.2.2.1 (dOk_at dL_law_5 98 rfl) ?_
  refine lv_aload_n (pc := 974) hx hb (dOk_at dL_law_5 99 rfl) rfl (lv_at hl 0 rfl) ?_
  refine lv_iload_n (pc := 975) hx hb (dOk_at dL_law_5 100 rfl) rfl (lv_at hl 3 rfl) ?_
  refine lv_iconst (pc := 976) (v := 5) hx hb (dOk_at dL_law_5 101 rfl) rfl ?_
  refine lv_iadd (pc := 977) hx hb (dOk_at dL_law_5 102 rfl) ?_
  refine va_sld (pc := 978) hx hb hX hbl hbA hh.2.2 hix.2.2.2.2.2.1 (dOk_at dL_law_5 103 rfl) ?_
  refine lv_aload_n (pc := 979) hx hb (dOk_at dL_law_5 104 rfl) rfl (lv_at hl 0 rfl) ?_
  refine lv_iload_n (pc := 980) hx hb (dOk_at dL_law_5 105 rfl) rfl (lv_at hl 3 rfl) ?_
  refine lv_bipush (pc := 981) (v := 6) hx hb (dOk_at dL_law_5 106 rfl) rfl ?_
  refine lv_iadd (pc := 983) hx hb (dOk_at dL_law_5 107 rfl) ?_
  refine va_sld (pc := 984) hx hb hX hbl hbA hh.2.2 hix.2.2.2.2.2.2.1 (dOk_at dL_law_5 108 rfl) ?_
  refine cl_W (pc := 985) (As := [.int (xs (nI j + 1).toNatClampNeg), .int (xs (nI j + 2).toNatClampNeg), .int (xs (nI j + 3).toNatClampNeg), .int (xs (nI j + 4).toNatClampNeg), .int (xs (nI j + 5).toNatClampNeg), .int (xs (nI j + 6).toNatClampNeg)]) (rest := [.long r]) fx hh hl.1 hm2 yV_X7_odds tML_96 ⟨rfl, rfl, Nat.le_of_ble_eq_true rfl, Nat.le_of_ble_eq_true rfl⟩ 28 7 hw1 rfl rfl rfl rfl (Nat.le_of_ble_eq_true rfl) ⟨Nat.le_of_ble_eq_true rfl, Nat.le_of_ble_eq_true rfl⟩ (dOk_at dL_law_5 109 rfl) (fun W2 H locs hI2 hh => ?_)
  refine W.lcmp (pc := 988) hx hb (dOk_at dL_law_5 110 rfl) ?_
  exact lv_if_eq (pc := 989) (tgt := 1338) hx hb (dOk_at dL_law_5 111 rfl) (by decide) (fun _ => kk W2 H locs hI2 hh) (fun c2 => absurd ((lg_cmp_eq r r).mpr rfl) c2)
theorem law_sheet (fx : FX G RL cL_law 4 (some .boolean) p s m #[.ref b] meth c A) (hX : va_X b L xs s s.heap) (hbl : b < s.heap.size) (hbA : ¬ A b) (hix : LIX j L) (hl : lv_has ls 4 (lwL b xa ma j)) (hI : INV G xa ma W0) (hh : HP G A W0 s H locs) (kk : ∀ (W1 : va_W) (H : Heap) (locs : List Loc), INV G xa ma W1 → HP G A W1 s H locs → W p l e room_1 s m #[.ref b] below meth c H locs 44 936 Q (F0 m 1338 ls [])) : W p l e room_1 s m #[.ref b] below meth c H locs 44 936 Q (F0 m 994 ls []) := by
  have hx := fx.hx; have hb := fx.hb
  refine lv_aload_n (pc := 994) hx hb (dOk_at dL_law_5 114 rfl) rfl (lv_at hl 1 rfl) ?_
  refine lv_aload_n (pc := 995) hx hb (dOk_at dL_law_5 115 rfl) rfl (lv_at hl 0 rfl) ?_
  refine lv_iload_n (pc := 996) hx hb (dOk_at dL_law_5 116 rfl) rfl (lv_at hl 3 rfl) ?_
  refine lv_iconst (pc := 997) (v := 1) hx hb (dOk_at dL_law_5 117 rfl) rfl ?_
  refine lv_iadd (pc := 998) hx hb (dOk_at dL_law_5 118 rfl) ?_
  refine va_sld (pc := 999) hx hb hX hbl hbA hh.2.2 hix.2.1 (dOk_at dL_law_5 119 rfl) ?_
  refine lv_aload_n (pc := 1000) hx hb (dOk_at dL_law_6 0 rfl) rfl (lv_at hl 0 rfl) ?_
  refine lv_iload_n (pc := 1001) hx hb (dOk_at dL_law_6 1 rfl) rfl (lv_at hl 3 rfl) ?_
  refine lv_iconst (pc := 1002) (v := 2) hx hb (dOk_at dL_law_6 2 rfl) rfl ?_
  refine lv_iadd (pc := 1003) hx hb (dOk_at dL_law_6 3 rfl) ?_
  refine va_sld (pc := 1004) hx hb hX hbl hbA hh.2.2 hix.2.2.1 (dOk_at dL_law_6 4 rfl) ?_
  refine lv_aload_n (pc := 1005) hx hb (dOk_at dL_law_6 5 rfl) rfl (lv_at hl 0 rfl) ?_
  refine lv_iload_n (pc := 1006) hx hb (dOk_at dL_law_6 6 rfl) rfl (lv_at hl 3 rfl) ?_
  refine lv_iconst (pc := 1007) (v := 3) hx hb (dOk_at dL_law_6 7 rfl) rfl ?_
  refine lv_iadd (pc := 1008) hx hb (dOk_at dL_law_6 8 rfl) ?_
  refine va_sld (pc := 1009) hx hb hX hbl hbA hh.2.2 hix.2.2.2.1 (dOk_at dL_law_6 9 rfl) ?_
  obtain ⟨r, P, hx1, hm1⟩ := st_sheet l G hI (xs (nI j + 1).toNatClampNeg) (xs (nI j + 2).toNatClampNeg) (xs (nI j + 3).toNatClampNeg)
  obtain ⟨fs0, hw0⟩ := hI.at0
  refine cl_W (pc := 1010) (As := [.int (xs (nI j + 1).toNatClampNeg), .int (xs (nI j + 2).toNatClampNeg), .int (xs (nI j + 3).toNatClampNeg)]) (rest := []) fx hh hl.1 hx1 yV_X6_sheet tML_97 ⟨rfl, rfl, Nat.le_of_ble_eq_true rfl, Nat.le_of_ble_eq_true rfl⟩ 0 6 hw0 rfl rfl rfl rfl (Nat.le_of_ble_eq_true rfl) ⟨Nat.le_of_ble_eq_true rfl, Nat.le_of_ble_eq_true rfl⟩ (dOk_at dL_law_6 10 rfl) (fun W1 H locs hp1 hh => ?_)
  obtain ⟨⟨fs1, hw1⟩, hm2⟩ := hm1 W1 hp1
  refine lv_aload_n (pc := 1013) hx hb (dOk_at dL_law_6 11 rfl) rfl (lv_at hl 2 rfl) ?_
  refine lv_aload_n (pc := 1014) hx hb (dOk_at dL_law_6 12 rfl) rfl (lv_at hl 0 rfl) ?_
  refine lv_iload_n (pc := 1015) hx hb (dOk_at dL_law_6 13 rfl) rfl (lv_at hl 3 rfl) ?_
  refine lv_iconst (pc := 1016) (v := 1) hx hb (dOk_at dL_law_6 14 rfl) rfl ?_
  refine lv_iadd (pc := 1017) hx hb (dOk_at dL_law_6 15 rfl) ?_
  refine va_sld (pc := 1018) hx hb hX hbl hbA hh.2.2 hix.2.1 (dOk_at dL_law_6 16 rfl) ?_
  refine lv_aload_n (pc := 1019) hx hb (dOk_at dL_law_6 17 rfl) rfl (lv_at hl 0 rfl) ?_
  refine lv_iload_n (pc := 1020) hx hb (dOk_at dL_law_6 18 rfl) rfl (lv_at hl 3 rfl) ?_
  refine lv_iconst (pc := 1021) (v := 2) hx hb (dOk_at dL_law_6 19 rfl) rfl ?_
  refine lv_iadd (pc := 1022) hx hb (dOk_at dL_law_6 20 rfl) ?_
  refine va_sld (pc := 1023) hx hb hX hbl hbA hh.2.2 hix.2.2.1 (dOk_at dL_law_6 21 rfl) ?_
  refine lv_aload_n (pc := 1024) hx hb (dOk_at dL_law_6 22 rfl) rfl (lv_at hl 0 rfl) ?_
  refine lv_iload_n (pc := 1025) hx hb (dOk_at dL_law_6 23 rfl) rfl (lv_at hl 3 rfl) ?_
  refine lv_iconst (pc := 1026) (v := 3) hx hb (dOk_at dL_law_6 24 rfl) rfl ?_
  refine lv_iadd (pc := 1027) hx hb (dOk_at dL_law_6 25 rfl) ?_
  refine va_sld (pc := 1028) hx hb hX hbl hbA hh.2.2 hix.2.2.2.1 (dOk_at dL_law_6 26 rfl) ?_
  refine cl_W (pc := 1029) (As := [.int (xs (nI j + 1).toNatClampNeg), .int (xs (nI j + 2).toNatClampNeg), .int (xs (nI j + 3).toNatClampNeg)]) (rest := [.int r]) fx hh hl.1 hm2 yV_X7_sheet tML_101 ⟨rfl, rfl, Nat.le_of_ble_eq_true rfl, Nat.le_of_ble_eq_true rfl⟩ 28 7 hw1 rfl rfl rfl rfl (Nat.le_of_ble_eq_true rfl) ⟨Nat.le_of_ble_eq_true rfl, Nat.le_of_ble_eq_true rfl⟩ (dOk_at dL_law_6 27 rfl) (fun W2 H locs hI2 hh => ?_)
  exact lv_icmp_eq (pc := 1032) (tgt := 1338) hx hb (dOk_at dL_law_6 28 rfl) (by decide) (fun _ => kk W2 H locs hI2 hh) (fun c2 => absurd rfl c2)
theorem law_lose (fx : FX G RL cL_law 4 (some .boolean) p s m #[.ref b] meth c A) (hX : va_X b L xs s s.heap) (hbl : b < s.heap.size) (hbA : ¬ A b) (hix : LIX j L) (hl : lv_has ls 4 (lwL b xa ma j)) (hI : INV G xa ma W0) (hh : HP G A W0 s H locs) (kk : ∀ (W1 : va_W) (H : Heap) (locs : List Loc), INV G xa ma W1 → HP G A W1 s H locs → W p l e room_1 s m #[.ref b] below meth c H locs 44 936 Q (F0 m 1338 ls [])) : W p l e room_1 s m #[.ref b] below meth c H locs 44 936 Q (F0 m 1037 ls []) := by
  have hx := fx.hx; have hb := fx.hb
  refine lv_aload_n (pc := 1037) hx hb (dOk_at dL_law_6 31 rfl) rfl (lv_at hl 1 rfl) ?_
  refine lv_aload_n (pc := 1038) hx hb (dOk_at dL_law_6 32 rfl) rfl (lv_at hl 0 rfl) ?_
  refine lv_iload_n (pc := 1039) hx hb (dOk_at dL_law_6 33 rfl) rfl (lv_at hl 3 rfl) ?_
  refine lv_iconst (pc := 1040) (v := 1) hx hb (dOk_at dL_law_6 34 rfl) rfl ?_
  refine lv_iadd (pc := 1041) hx hb (dOk_at dL_law_6 35 rfl) ?_
  refine va_sld (pc := 1042) hx hb hX hbl hbA hh.2.2 hix.2.1 (dOk_at dL_law_6 36 rfl) ?_
  obtain ⟨r, P, hx1, hm1⟩ := st_lose l G hI (xs (nI j + 1).toNatClampNeg)
  obtain ⟨fs0, hw0⟩ := hI.at0
  refine cl_W (pc := 1043) (As := [.int (xs (nI j + 1).toNatClampNeg)]) (rest := []) fx hh hl.1 hx1 yV_X6_lose tML_102 ⟨rfl, rfl, Nat.le_of_ble_eq_true rfl, Nat.le_of_ble_eq_true rfl⟩ 0 6 hw0 rfl rfl rfl rfl (Nat.le_of_ble_eq_true rfl) ⟨Nat.le_of_ble_eq_true rfl, Nat.le_of_ble_eq_true rfl⟩ (dOk_at dL_law_6 37 rfl) (fun W1 H locs hp1 hh => ?_)
  obtain ⟨⟨fs1, hw1⟩, hm2⟩ := hm1 W1 hp1
  refine lv_aload_n (pc := 1046) hx hb (dOk_at dL_law_6 38 rfl) rfl (lv_at hl 2 rfl) ?_
  refine lv_aload_n (pc := 1047) hx hb (dOk_at dL_law_6 39 rfl) rfl (lv_at hl 0 rfl) ?_
  refine lv_iload_n (pc := 1048) hx hb (dOk_at dL_law_6 40 rfl) rfl (lv_at hl 3 rfl) ?_
  refine lv_iconst (pc := 1049) (v := 1) hx hb (dOk_at dL_law_6 41 rfl) rfl ?_
  refine lv_iadd (pc := 1050) hx hb (dOk_at dL_law_6 42 rfl) ?_
  refine va_sld (pc := 1051) hx hb hX hbl hbA hh.2.2 hix.2.1 (dOk_at dL_law_6 43 rfl) ?_
  refine cl_W (pc := 1052) (As := [.int (xs (nI j + 1).toNatClampNeg)]) (rest := [.int r]) fx hh hl.1 hm2 yV_X7_lose tML_105 ⟨rfl, rfl, Nat.le_of_ble_eq_true rfl, Nat.le_of_ble_eq_true rfl⟩ 28 7 hw1 rfl rfl rfl rfl (Nat.le_of_ble_eq_true rfl) ⟨Nat.le_of_ble_eq_true rfl, Nat.le_of_ble_eq_true rfl⟩ (dOk_at dL_law_6 44 rfl) (fun W2 H locs hI2 hh => ?_)
  exact lv_icmp_eq (pc := 1055) (tgt := 1338) hx hb (dOk_at dL_law_6 45 rfl) (by decide) (fun _ => kk W2 H locs hI2 hh) (fun c2 => absurd rfl c2)
theorem law_put (fx : FX G RL cL_law 4 (some .boolean) p s m #[.ref b] meth c A) (hX : va_X b L xs s s.heap) (hbl : b < s.heap.size) (hbA : ¬ A b) (hix : LIX j L) (hl : lv_has ls 4 (lwL b xa ma j)) (hI : INV G xa ma W0) (hh : HP G A W0 s H locs) (kk : ∀ (W1 : va_W) (H : Heap) (locs : List Loc), INV G xa ma W1 → HP G A W1 s H locs → W p l e room_1 s m #[.ref b] below meth c H locs 44 936 Q (F0 m 1338 ls [])) : W p l e room_1 s m #[.ref b] below meth c H locs 44 936 Q (F0 m 1060 ls []) := by
  have hx := fx.hx; have hb := fx.hb
  refine lv_aload_n (pc := 1060) hx hb (dOk_at dL_law_6 48 rfl) rfl (lv_at hl 1 rfl) ?_
  refine lv_aload_n (pc := 1061) hx hb (dOk_at dL_law_6 49 rfl) rfl (lv_at hl 0 rfl) ?_
  refine lv_iload_n (pc := 1062) hx hb (dOk_at dL_law_6 50 rfl) rfl (lv_at hl 3 rfl) ?_
  refine lv_iconst (pc := 1063) (v := 1) hx hb (dOk_at dL_law_6 51 rfl) rfl ?_
  refine lv_iadd (pc := 1064) hx hb (dOk_at dL_law_6 52 rfl) ?_
  refine va_sld (pc := 1065) hx hb hX hbl hbA hh.2.2 hix.2.1 (dOk_at dL_law_6 53 rfl) ?_
  refine lv_aload_n (pc := 1066) hx hb (dOk_at dL_law_6 54 rfl) rfl (lv_at hl 0 rfl) ?_
  refine lv_iload_n (pc := 1067) hx hb (dOk_at dL_law_6 55 rfl) rfl (lv_at hl 3 rfl) ?_
  refine lv_iconst (pc := 1068) (v := 2) hx hb (dOk_at dL_law_6 56 rfl) rfl ?_
  refine lv_iadd (pc := 1069) hx hb (dOk_at dL_law_6 57 rfl) ?_
  refine va_sld (pc := 1070) hx hb hX hbl hbA hh.2.2 hix.2.2.1 (dOk_at dL_law_6 58 rfl) ?_
  refine lv_aload_n (pc := 1071) hx hb (dOk_at dL_law_6 59 rfl) rfl (lv_at hl 0 rfl) ?_
  refine lv_iload_n (pc := 1072) hx hb (dOk_at dL_law_6 60 rfl) rfl (lv_at hl 3 rfl) ?_
  refine lv_iconst (pc := 1073) (v := 3) hx hb (dOk_at dL_law_6 61 rfl) rfl ?_
  refine lv_iadd (pc := 1074) hx hb (dOk_at dL_law_6 62 rfl) ?_
  refine va_sld (pc := 1075) hx hb hX hbl hbA hh.2.2 hix.2.2.2.1 (dOk_at dL_law_6 63 rfl) ?_
  obtain ⟨r, P, hx1, hm1⟩ := st_put l G hI (xs (nI j + 1).toNatClampNeg) (xs (nI j + 2).toNatClampNeg) (xs (nI j + 3).toNatClampNeg)
  obtain ⟨fs0, hw0⟩ := hI.at0
  refine cl_W (pc := 1076) (As := [.int (xs (nI j + 1).toNatClampNeg), .int (xs (nI j + 2).toNatClampNeg), .int (xs (nI j + 3).toNatClampNeg)]) (rest := []) fx hh hl.1 hx1 yV_X6_put tML_106 ⟨rfl, rfl, Nat.le_of_ble_eq_true rfl, Nat.le_of_ble_eq_true rfl⟩ 0 6 hw0 rfl rfl rfl rfl (Nat.le_of_ble_eq_true rfl) ⟨Nat.le_of_ble_eq_true rfl, Nat.le_of_ble_eq_true rfl⟩ (dOk_at dL_law_6 64 rfl) (fun W1 H locs hp1 hh => ?_)
  obtain ⟨⟨fs1, hw1⟩, hm2⟩ := hm1 W1 hp1
  refine lv_aload_n (pc := 1079) hx hb (dOk_at dL_law_6 65 rfl) rfl (lv_at hl 2 rfl) ?_
  refine lv_aload_n (pc := 1080) hx hb (dOk_at dL_law_6 66 rfl) rfl (lv_at hl 0 rfl) ?_
  refine lv_iload_n (pc := 1081) hx hb (dOk_at dL_law_6 67 rfl) rfl (lv_at hl 3 rfl) ?_
  refine lv_iconst (pc := 1082) (v := 1) hx hb (dOk_at dL_law_6 68 rfl) rfl ?_
  refine lv_iadd (pc := 1083) hx hb (dOk_at dL_law_6 69 rfl) ?_
  refine va_sld (pc := 1084) hx hb hX hbl hbA hh.2.2 hix.2.1 (dOk_at dL_law_6 70 rfl) ?_
  refine lv_aload_n (pc := 1085) hx hb (dOk_at dL_law_6 71 rfl) rfl (lv_at hl 0 rfl) ?_
  refine lv_iload_n (pc := 1086) hx hb (dOk_at dL_law_6 72 rfl) rfl (lv_at hl 3 rfl) ?_
  refine lv_iconst (pc := 1087) (v := 2) hx hb (dOk_at dL_law_6 73 rfl) rfl ?_
  refine lv_iadd (pc := 1088) hx hb (dOk_at dL_law_6 74 rfl) ?_
  refine va_sld (pc := 1089) hx hb hX hbl hbA hh.2.2 hix.2.2.1 (dOk_at dL_law_6 75 rfl) ?_
  refine lv_aload_n (pc := 1090) hx hb (dOk_at dL_law_6 76 rfl) rfl (lv_at hl 0 rfl) ?_
  refine lv_iload_n (pc := 1091) hx hb (dOk_at dL_law_6 77 rfl) rfl (lv_at hl 3 rfl) ?_
  refine lv_iconst (pc := 1092) (v := 3) hx hb (dOk_at dL_law_6 78 rfl) rfl ?_
  refine lv_iadd (pc := 1093) hx hb (dOk_at dL_law_6 79 rfl) ?_
  refine va_sld (pc := 1094) hx hb hX hbl hbA hh.2.2 hix.2.2.2.1 (dOk_at dL_law_6 80 rfl) ?_
  refine cl_W (pc := 1095) (As := [.int (xs (nI j + 1).toNatClampNeg), .int (xs (nI j + 2).toNatClampNeg), .int (xs (nI j + 3).toNatClampNeg)]) (rest := [.int r]) fx hh hl.1 hm2 yV_X7_put tML_109 ⟨rfl, rfl, Nat.le_of_ble_eq_true rfl, Nat.le_of_ble_eq_true rfl⟩ 28 7 hw1 rfl rfl rfl rfl (Nat.le_of_ble_eq_true rfl) ⟨Nat.le_of_ble_eq_true rfl, Nat.le_of_ble_eq_true rfl⟩ (dOk_at dL_law_6 81 rfl) (fun W2 H locs hI2 hh => ?_)
  exact lv_icmp_eq (pc := 1098) (tgt := 1338) hx hb (dOk_at dL_law_6 82 rfl) (by decide) (fun _ => kk W2 H locs hI2 hh) (fun c2 => absurd rfl c2)
theorem law_cell (fx : FX G RL cL_law 4 (some .boolean) p s m #[.ref b] meth c A) (hX : va_X b L xs s s.heap) (hbl : b < s.heap.size) (hbA : ¬ A b) (hix : LIX j L) (hl : lv_has ls 4 (lwL b xa ma j)) (hI : INV G xa ma W0) (hh : HP G A W0 s H locs) (kk : ∀ (W1 : va_W) (H : Heap) (locs : List Loc), INV G xa ma W1 → HP G A W1 s H locs → W p l e room_1 s m #[.ref b] below meth c H locs 44 936 Q (F0 m 1338 ls [])) : W p l e room_1 s m #[.ref b] below meth c H locs 44 936 Q (F0 m 1103 ls []) := by
  have hx := fx.hx; have hb := fx.hb
  refine lv_aload_n (pc := 1103) hx hb (dOk_at dL_law_6 85 rfl) rfl (lv_at hl 1 rfl) ?_
  refine lv_aload_n (pc := 1104) hx hb (dOk_at dL_law_6 86 rfl) rfl (lv_at hl 0 rfl) ?_
  refine lv_iload_n (pc := 1105) hx hb (dOk_at dL_law_6 87 rfl) rfl (lv_at hl 3 rfl) ?_
  refine lv_iconst (pc := 1106) (v := 1) hx hb (dOk_at dL_law_6 88 rfl) rfl ?_
  refine lv_iadd (pc := 1107) hx hb (dOk_at dL_law_6 89 rfl) ?_
  refine va_sld (pc := 1108) hx hb hX hbl hbA hh.2.2 hix.2.1 (dOk_at dL_law_6 90 rfl) ?_
  refine lv_aload_n (pc := 1109) hx hb (dOk_at dL_law_6 91 rfl) rfl (lv_at hl 0 rfl) ?_
  refine lv_iload_n (pc := 1110) hx hb (dOk_at dL_law_6 92 rfl) rfl (lv_at hl 3 rfl) ?_
  refine lv_iconst (pc := 1111) (v := 2) hx hb (dOk_at dL_law_6 93 rfl) rfl ?_
  refine lv_iadd (pc := 1112) hx hb (dOk_at dL_law_6 94 rfl) ?_
  refine va_sld (pc := 1113) hx hb hX hbl hbA hh.2.2 hix.2.2.1 (dOk_at dL_law_6 95 rfl) ?_
  refine lv_aload_n (pc := 1114) hx hb (dOk_at dL_law_6 96 rfl) rfl (lv_at hl 0 rfl) ?_
  refine lv_iload_n (pc := 1115) hx hb (dOk_at dL_law_6 97 rfl) rfl (lv_at hl 3 rfl) ?_
  refine lv_iconst (pc := 1116) (v := 3) hx hb (dOk_at dL_law_6 98 rfl) rfl ?_
  refine lv_iadd (pc := 1117) hx hb (dOk_at dL_law_6 99 rfl) ?_
  refine va_sld (pc := 1118) hx hb hX hbl hbA hh.2.2 hix.2.2.2.1 (dOk_at dL_law_6 100 rfl) ?_
  obtain ⟨r, P, hx1, hm1⟩ := st_cell l G hI (xs (nI j + 1).toNatClampNeg) (xs (nI j + 2).toNatClampNeg) (xs (nI j + 3).toNatClampNeg)
  obtain ⟨fs0, hw0⟩ := hI.at0
  refine cl_W (pc := 1119) (As := [.int (xs (nI j + 1).toNatClampNeg), .int (xs (nI j + 2).toNatClampNeg), .int (xs (nI j + 3).toNatClampNeg)]) (rest := []) fx hh hl.1 hx1 yV_X6_cell tML_110 ⟨rfl, rfl, Nat.le_of_ble_eq_true rfl, Nat.le_of_ble_eq_true rfl⟩ 0 6 hw0 rfl rfl rfl rfl (Nat.le_of_ble_eq_true rfl) ⟨Nat.le_of_ble_eq_true rfl, Nat.le_of_ble_eq_true rfl⟩ (dOk_at dL_law_6 101 rfl) (fun W1 H locs hp1 hh => ?_)
  obtain ⟨⟨fs1, hw1⟩, hm2⟩ := hm1 W1 hp1
  refine lv_aload_n (pc := 1122) hx hb (dOk_at dL_law_6 102 rfl) rfl (lv_at hl 2 rfl) ?_
  refine lv_aload_n (pc := 1123) hx hb (dOk_at dL_law_6 103 rfl) rfl (lv_at hl 0 rfl) ?_
  refine lv_iload_n (pc := 1124) hx hb (dOk_at dL_law_6 104 rfl) rfl (lv_at hl 3 rfl) ?_
  refine lv_iconst (pc := 1125) (v := 1) hx hb (dOk_at dL_law_6 105 rfl) rfl ?_
  refine lv_iadd (pc := 1126) hx hb (dOk_at dL_law_6 106 rfl) ?_
  refine va_sld (pc := 1127) hx hb hX hbl hbA hh.2.2 hix.2.1 (dOk_at dL_law_6 107 rfl) ?_
  refine lv_aload_n (pc := 1128) hx hb (dOk_at dL_law_6 108 rfl) rfl (lv_at hl 0 rfl) ?_
  refine lv_iload_n (pc := 1129) hx hb (dOk_at dL_law_6 109 rfl) rfl (lv_at hl 3 rfl) ?_
  refine lv_iconst (pc := 1130) (v := 2) hx hb (dOk_at dL_law_6 110 rfl) rfl ?_
  refine lv_iadd (pc := 1131) hx hb (dOk_at dL_law_6 111 rfl) ?_
  refine va_sld (pc := 1132) hx hb hX hbl hbA hh.2.2 hix.2.2.1 (dOk_at dL_law_6 112 rfl) ?_
  refine lv_aload_n (pc := 1133) hx hb (dOk_at dL_law_6 113 rfl) rfl (lv_at hl 0 rfl) ?_
  refine lv_iload_n (pc := 1134) hx hb (dOk_at dL_law_6 114 rfl) rfl (lv_at hl 3 rfl) ?_
  refine lv_iconst (pc := 1135) (v := 3) hx hb (dOk_at dL_law_6 115 rfl) rfl ?_
  refine lv_iadd (pc := 1136) hx hb (dOk_at dL_law_6 116 rfl) ?_
  refine va_sld (pc := 1137) hx hb hX hbl hbA hh.2.2 hix.2.2.2.1 (dOk_at dL_law_6 117 rfl) ?_
  refine cl_W (pc := 1138) (As := [.int (xs (nI j + 1).toNatClampNeg), .int (xs (nI j + 2).toNatClampNeg), .int (xs (nI j + 3).toNatClampNeg)]) (rest := [.long r]) fx hh hl.1 hm2 yV_X7_cell tML_114 ⟨rfl, rfl, Nat.le_of_ble_eq_true rfl, Nat.le_of_ble_eq_true rfl⟩ 28 7 hw1 rfl rfl rfl rfl (Nat.le_of_ble_eq_true rfl) ⟨Nat.le_of_ble_eq_true rfl, Nat.le_of_ble_eq_true rfl⟩ (dOk_at dL_law_6 118 rfl) (fun W2 H locs hI2 hh => ?_)
  refine W.lcmp (pc := 1141) hx hb (dOk_at dL_law_6 119 rfl) ?_
  exact lv_if_eq (pc := 1142) (tgt := 1338) hx hb (dOk_at dL_law_7 0 rfl) (by decide) (fun _ => kk W2 H locs hI2 hh) (fun c2 => absurd ((lg_cmp_eq r r).mpr rfl) c2)
theorem law_copy (fx : FX G RL cL_law 4 (some .boolean) p s m #[.ref b] meth c A) (hX : va_X b L xs s s.heap) (hbl : b < s.heap.size) (hbA : ¬ A b) (hix : LIX j L) (hl : lv_has ls 4 (lwL b xa ma j)) (hI : INV G xa ma W0) (hh : HP G A W0 s H locs) (kk : ∀ (W1 : va_W) (H : Heap) (locs : List Loc), INV G xa ma W1 → HP G A W1 s H locs → W p l e room_1 s m #[.ref b] below meth c H locs 44 936 Q (F0 m 1338 ls [])) : W p l e room_1 s m #[.ref b] below meth c H locs 44 936 Q (F0 m 1147 ls []) := by
  have hx := fx.hx; have hb := fx.hb
  refine lv_aload_n (pc := 1147) hx hb (dOk_at dL_law_7 3 rfl) rfl (lv_at hl 1 rfl) ?_
  refine lv_aload_n (pc := 1148) hx hb (dOk_at dL_law_7 4 rfl) rfl (lv_at hl 0 rfl) ?_
  refine lv_iload_n (pc := 1149) hx hb (dOk_at dL_law_7 5 rfl) rfl (lv_at hl 3 rfl) ?_
  refine lv_iconst (pc := 1150) (v := 1) hx hb (dOk_at dL_law_7 6 rfl) rfl ?_
  refine lv_iadd (pc := 1151) hx hb (dOk_at dL_law_7 7 rfl) ?_
  refine va_sld (pc := 1152) hx hb hX hbl hbA hh.2.2 hix.2.1 (dOk_at dL_law_7 8 rfl) ?_
  refine lv_aload_n (pc := 1153) hx hb (dOk_at dL_law_7 9 rfl) rfl (lv_at hl 0 rfl) ?_
  refine lv_iload_n (pc := 1154) hx hb (dOk_at dL_law_7 10 rfl) rfl (lv_at hl 3 rfl) ?_
  refine lv_iconst (pc := 1155) (v := 2) hx hb (dOk_at dL_law_7 11 rfl) rfl ?_
  refine lv_iadd (pc := 1156) hx hb (dOk_at dL_law_7 12 rfl) ?_
  refine va_sld (pc := 1157) hx hb hX hbl hbA hh.2.2 hix.2.2.1 (dOk_at dL_law_7 13 rfl) ?_
  refine lv_aload_n (pc := 1158) hx hb (dOk_at dL_law_7 14 rfl) rfl (lv_at hl 0 rfl) ?_
  refine lv_iload_n (pc := 1159) hx hb (dOk_at dL_law_7 15 rfl) rfl (lv_at hl 3 rfl) ?_
  refine lv_iconst (pc := 1160) (v := 3) hx hb (dOk_at dL_law_7 16 rfl) rfl ?_
  refine lv_iadd (pc := 1161) hx hb (dOk_at dL_law_7 17 rfl) ?_
  refine va_sld (pc := 1162) hx hb hX hbl hbA hh.2.2 hix.2.2.2.1 (dOk_at dL_law_7 18 rfl) ?_
  refine lv_aload_n (pc := 1163) hx hb (dOk_at dL_law_7 19 rfl) rfl (lv_at hl 0 rfl) ?_
  refine lv_iload_n (pc := 1164) hx hb (dOk_at dL_law_7 20 rfl) rfl (lv_at hl 3 rfl) ?_
  refine lv_iconst (pc := 1165) (v := 4) hx hb (dOk_at dL_law_7 21 rfl) rfl ?_
  refine lv_iadd (pc := 1166) hx hb (dOk_at dL_law_7 22 rfl) ?_
  refine va_sld (pc := 1167) hx hb hX hbl hbA hh.2.2 hix.2.2.2.2.1 (dOk_at dL_law_7 23 rfl) ?_
  refine lv_aload_n (pc := 1168) hx hb (dOk_at dL_law_7 24 rfl) rfl (lv_at hl 0 rfl) ?_
  refine lv_iload_n (pc := 1169) hx hb (dOk_at dL_law_7 25 rfl) rfl (lv_at hl 3 rfl) ?_
  refine lv_iconst (pc := 1170) (v := 5) hx hb (dOk_at dL_law_7 26 rfl) rfl ?_
  refine lv_iadd (pc := 1171) hx hb (dOk_at dL_law_7 27 rfl) ?_
  refine va_sld (pc := 1172) hx hb hX hbl hbA hh.2.2 hix.2.2.2.2.2.1 (dOk_at dL_law_7 28 rfl) ?_
  obtain ⟨r, P, hx1, hm1⟩ := st_copy l G hI (xs (nI j + 1).toNatClampNeg) (xs (nI j + 2).toNatClampNeg) (xs (nI j + 3).toNatClampNeg) (xs (nI j + 4).toNatClampNeg) (xs (nI j + 5).toNatClampNeg)
  obtain ⟨fs0, hw0⟩ := hI.at0
  refine cl_W (pc := 1173) (As := [.int (xs (nI j + 1).toNatClampNeg), .int (xs (nI j + 2).toNatClampNeg), .int (xs (nI j + 3).toNatClampNeg), .int (xs (nI j + 4).toNatClampNeg), .int (xs (nI j + 5).toNatClampNeg)]) (rest := []) fx hh hl.1 hx1 yV_X6_copy tML_115 ⟨rfl, rfl, Nat.le_of_ble_eq_true rfl, Nat.le_of_ble_eq_true rfl⟩ 0 6 hw0 rfl rfl rfl rfl (Nat.le_of_ble_eq_true rfl) ⟨Nat.le_of_ble_eq_true rfl, Nat.le_of_ble_eq_true rfl⟩ (dOk_at dL_law_7 29 rfl) (fun W1 H locs hp1 hh => ?_)
  obtain ⟨⟨fs1, hw1⟩, hm2⟩ := hm1 W1 hp1
  refine lv_aload_n (pc := 1176) hx hb (dOk_at dL_law_7 30 rfl) rfl (lv_at hl 2 rfl) ?_
  refine lv_aload_n (pc := 1177) hx hb (dOk_at dL_law_7 31 rfl) rfl (lv_at hl 0 rfl) ?_
  refine lv_iload_n (pc := 1178) hx hb (dOk_at dL_law_7 32 rfl) rfl (lv_at hl 3 rfl) ?_
  refine lv_iconst (pc := 1179) (v := 1) hx hb (dOk_at dL_law_7 33 rfl) rfl ?_
  refine lv_iadd (pc := 1180) hx hb (dOk_at dL_law_7 34 rfl) ?_
  refine va_sld (pc := 1181) hx hb hX hbl hbA hh.2.2 hix.2.1 (dOk_at dL_law_7 35 rfl) ?_
  refine lv_aload_n (pc := 1182) hx hb (dOk_at dL_law_7 36 rfl) rfl (lv_at hl 0 rfl) ?_
  refine lv_iload_n (pc := 1183) hx hb (dOk_at dL_law_7 37 rfl) rfl (lv_at hl 3 rfl) ?_
  refine lv_iconst (pc := 1184) (v := 2) hx hb (dOk_at dL_law_7 38 rfl) rfl ?_
  refine lv_iadd (pc := 1185) hx hb (dOk_at dL_law_7 39 rfl) ?_
  refine va_sld (pc := 1186) hx hb hX hbl hbA hh.2.2 hix.2.2.1 (dOk_at dL_law_7 40 rfl) ?_
  refine lv_aload_n (pc := 1187) hx hb (dOk_at dL_law_7 41 rfl) rfl (lv_at hl 0 rfl) ?_
  refine lv_iload_n (pc := 1188) hx hb (dOk_at dL_law_7 42 rfl) rfl (lv_at hl 3 rfl) ?_
  refine lv_iconst (pc := 1189) (v := 3) hx hb (dOk_at dL_law_7 43 rfl) rfl ?_
  refine lv_iadd (pc := 1190) hx hb (dOk_at dL_law_7 44 rfl) ?_
  refine va_sld (pc := 1191) hx hb hX hbl hbA hh.2.2 hix.2.2.2.1 (dOk_at dL_law_7 45 rfl) ?_
  refine lv_aload_n (pc := 1192) hx hb (dOk_at dL_law_7 46 rfl) rfl (lv_at hl 0 rfl) ?_
  refine lv_iload_n (pc := 1193) hx hb (dOk_at dL_law_7 47 rfl) rfl (lv_at hl 3 rfl) ?_
  refine lv_iconst (pc := 1194) (v := 4) hx hb (dOk_at dL_law_7 48 rfl) rfl ?_
  refine lv_iadd (pc := 1195) hx hb (dOk_at dL_law_7 49 rfl) ?_
  refine va_sld (pc := 1196) hx hb hX hbl hbA hh.2.2 hix.2.2.2.2.1 (dOk_at dL_law_7 50 rfl) ?_
  refine lv_aload_n (pc := 1197) hx hb (dOk_at dL_law_7 51 rfl) rfl (lv_at hl 0 rfl) ?_
  refine lv_iload_n (pc := 1198) hx hb (dOk_at dL_law_7 52 rfl) rfl (lv_at hl 3 rfl) ?_
  refine lv_iconst (pc := 1199) (v := 5) hx hb (dOk_at dL_law_7 53 rfl) rfl ?_
  refine lv_iadd (pc := 1200) hx hb (dOk_at dL_law_7 54 rfl) ?_
  refine va_sld (pc := 1201) hx hb hX hbl hbA hh.2.2 hix.2.2.2.2.2.1 (dOk_at dL_law_7 55 rfl) ?_
  refine cl_W (pc := 1202) (As := [.int (xs (nI j + 1).toNatClampNeg), .int (xs (nI j + 2).toNatClampNeg), .int (xs (nI j + 3).toNatClampNeg), .int (xs (nI j + 4).toNatClampNeg), .int (xs (nI j + 5).toNatClampNeg)]) (rest := [.int r]) fx hh hl.1 hm2 yV_X7_copy tML_118 ⟨rfl, rfl, Nat.le_of_ble_eq_true rfl, Nat.le_of_ble_eq_true rfl⟩ 28 7 hw1 rfl rfl rfl rfl (Nat.le_of_ble_eq_true rfl) ⟨Nat.le_of_ble_eq_true rfl, Nat.le_of_ble_eq_true rfl⟩ (dOk_at dL_law_7 56 rfl) (fun W2 H locs hI2 hh => ?_)
  exact lv_icmp_eq (pc := 1205) (tgt := 1338) hx hb (dOk_at dL_law_7 57 rfl) (by decide) (fun _ => kk W2 H locs hI2 hh) (fun c2 => absurd rfl c2)
theorem law_tell (fx : FX G RL cL_law 4 (some .boolean) p s m #[.ref b] meth c A) (hX : va_X b L xs s s.heap) (hbl : b < s.heap.size) (hbA : ¬ A b) (hix : LIX j L) (hl : lv_has ls 4 (lwL b xa ma j)) (hI : INV G xa ma W0) (hh : HP G A W0 s H locs) (kk : ∀ (W1 : va_W) (H : Heap) (locs : List Loc), INV G xa ma W1 → HP G A W1 s H locs → W p l e room_1 s m #[.ref b] below meth c H locs 44 936 Q (F0 m 1338 ls [])) : W p l e room_1 s m #[.ref b] below meth c H locs 44 936 Q (F0 m 1210 ls []) := by
  have hx := fx.hx; have hb := fx.hb
  refine lv_aload_n (pc := 1210) hx hb (dOk_at dL_law_7 60 rfl) rfl (lv_at hl 1 rfl) ?_
  refine lv_aload_n (pc := 1211) hx hb (dOk_at dL_law_7 61 rfl) rfl (lv_at hl 0 rfl) ?_
  refine lv_iload_n (pc := 1212) hx hb (dOk_at dL_law_7 62 rfl) rfl (lv_at hl 3 rfl) ?_
  refine lv_iconst (pc := 1213) (v := 1) hx hb (dOk_at dL_law_7 63 rfl) rfl ?_
  refine lv_iadd (pc := 1214) hx hb (dOk_at dL_law_7 64 rfl) ?_
  refine va_sld (pc := 1215) hx hb hX hbl hbA hh.2.2 hix.2.1 (dOk_at dL_law_7 65 rfl) ?_
  obtain ⟨r, P, hx1, hm1⟩ := st_tell l G hI (xs (nI j + 1).toNatClampNeg)
  obtain ⟨fs0, hw0⟩ := hI.at0
  refine cl_W (pc := 1216) (As := [.int (xs (nI j + 1).toNatClampNeg)]) (rest := []) fx hh hl.1 hx1 yV_X6_tell tML_119 ⟨rfl, rfl, Nat.le_of_ble_eq_true rfl, Nat.le_of_ble_eq_true rfl⟩ 0 6 hw0 rfl rfl rfl rfl (Nat.le_of_ble_eq_true rfl) ⟨Nat.le_of_ble_eq_true rfl, Nat.le_of_ble_eq_true rfl⟩ (dOk_at dL_law_7 66 rfl) (fun W1 H locs hp1 hh => ?_)
  obtain ⟨⟨fs1, hw1⟩, hm2⟩ := hm1 W1 hp1
  refine lv_aload_n (pc := 1219) hx hb (dOk_at dL_law_7 67 rfl) rfl (lv_at hl 2 rfl) ?_
  refine lv_aload_n (pc := 1220) hx hb (dOk_at dL_law_7 68 rfl) rfl (lv_at hl 0 rfl) ?_
  refine lv_iload_n (pc := 1221) hx hb (dOk_at dL_law_7 69 rfl) rfl (lv_at hl 3 rfl) ?_
  refine lv_iconst (pc := 1222) (v := 1) hx hb (dOk_at dL_law_7 70 rfl) rfl ?_
  refine lv_iadd (pc := 1223) hx hb (dOk_at dL_law_7 71 rfl) ?_
  refine va_sld (pc := 1224) hx hb hX hbl hbA hh.2.2 hix.2.1 (dOk_at dL_law_7 72 rfl) ?_
  refine cl_W (pc := 1225) (As := [.int (xs (nI j + 1).toNatClampNeg)]) (rest := [.int r]) fx hh hl.1 hm2 yV_X7_tell tML_122 ⟨rfl, rfl, Nat.le_of_ble_eq_true rfl, Nat.le_of_ble_eq_true rfl⟩ 28 7 hw1 rfl rfl rfl rfl (Nat.le_of_ble_eq_true rfl) ⟨Nat.le_of_ble_eq_true rfl, Nat.le_of_ble_eq_true rfl⟩ (dOk_at dL_law_7 73 rfl) (fun W2 H locs hI2 hh => ?_)
  exact lv_icmp_eq (pc := 1228) (tgt := 1338) hx hb (dOk_at dL_law_7 74 rfl) (by decide) (fun _ => kk W2 H locs hI2 hh) (fun c2 => absurd rfl c2)
theorem law_signed (fx : FX G RL cL_law 4 (some .boolean) p s m #[.ref b] meth c A) (hX : va_X b L xs s s.heap) (hbl : b < s.heap.size) (hbA : ¬ A b) (hix : LIX j L) (hl : lv_has ls 4 (lwL b xa ma j)) (hI : INV G xa ma W0) (hh : HP G A W0 s H locs) (kk : ∀ (W1 : va_W) (H : Heap) (locs : List Loc), INV G xa ma W1 → HP G A W1 s H locs → W p l e room_1 s m #[.ref b] below meth c H locs 44 936 Q (F0 m 1338 ls [])) : W p l e room_1 s m #[.ref b] below meth c H locs 44 936 Q (F0 m 1233 ls []) := by
  have hx := fx.hx; have hb := fx.hb
  refine lv_aload_n (pc := 1233) hx hb (dOk_at dL_law_7 77 rfl) rfl (lv_at hl 1 rfl) ?_
  refine lv_aload_n (pc := 1234) hx hb (dOk_at dL_law_7 78 rfl) rfl (lv_at hl 0 rfl) ?_
  refine lv_iload_n (pc := 1235) hx hb (dOk_at dL_law_7 79 rfl) rfl (lv_at hl 3 rfl) ?_
  refine lv_iconst (pc := 1236) (v := 1) hx hb (dOk_at dL_law_7 80 rfl) rfl ?_
  refine lv_iadd (pc := 1237) hx hb (dOk_at dL_law_7 81 rfl) ?_
  refine va_sld (pc := 1238) hx hb hX hbl hbA hh.2.2 hix.2.1 (dOk_at dL_law_7 82 rfl) ?_
  obtain ⟨r, P, hx1, hm1⟩ := st_signed l G hI (xs (nI j + 1).toNatClampNeg)
  obtain ⟨fs0, hw0⟩ := hI.at0
  refine cl_W (pc := 1239) (As := [.int (xs (nI j + 1).toNatClampNeg)]) (rest := []) fx hh hl.1 hx1 yV_X6_signed tML_123 ⟨rfl, rfl, Nat.le_of_ble_eq_true rfl, Nat.le_of_ble_eq_true rfl⟩ 0 6 hw0 rfl rfl rfl rfl (Nat.le_of_ble_eq_true rfl) ⟨Nat.le_of_ble_eq_true rfl, Nat.le_of_ble_eq_true rfl⟩ (dOk_at dL_law_7 83 rfl) (fun W1 H locs hp1 hh => ?_)
  obtain ⟨⟨fs1, hw1⟩, hm2⟩ := hm1 W1 hp1
  refine lv_aload_n (pc := 1242) hx hb (dOk_at dL_law_7 84 rfl) rfl (lv_at hl 2 rfl) ?_
  refine lv_aload_n (pc := 1243) hx hb (dOk_at dL_law_7 85 rfl) rfl (lv_at hl 0 rfl) ?_
  refine lv_iload_n (pc := 1244) hx hb (dOk_at dL_law_7 86 rfl) rfl (lv_at hl 3 rfl) ?_
  refine lv_iconst (pc := 1245) (v := 1) hx hb (dOk_at dL_law_7 87 rfl) rfl ?_
  refine lv_iadd (pc := 1246) hx hb (dOk_at dL_law_7 88 rfl) ?_
  refine va_sld (pc := 1247) hx hb hX hbl hbA hh.2.2 hix.2.1 (dOk_at dL_law_7 89 rfl) ?_
  refine cl_W (pc := 1248) (As := [.int (xs (nI j + 1).toNatClampNeg)]) (rest := [.int r]) fx hh hl.1 hm2 yV_X7_signed tML_126 ⟨rfl, rfl, Nat.le_of_ble_eq_true rfl, Nat.le_of_ble_eq_true rfl⟩ 28 7 hw1 rfl rfl rfl rfl (Nat.le_of_ble_eq_true rfl) ⟨Nat.le_of_ble_eq_true rfl, Nat.le_of_ble_eq_true rfl⟩ (dOk_at dL_law_7 90 rfl) (fun W2 H locs hI2 hh => ?_)
  exact lv_icmp_eq (pc := 1251) (tgt := 1338) hx hb (dOk_at dL_law_7 91 rfl) (by decide) (fun _ => kk W2 H locs hI2 hh) (fun c2 => absurd rfl c2)
theorem law_as (fx : FX G RL cL_law 4 (some .boolean) p s m #[.ref b] meth c A) (hX : va_X b L xs s s.heap) (hbl : b < s.heap.size) (hbA : ¬ A b) (hix : LIX j L) (hl : lv_has ls 4 (lwL b xa ma j)) (hI : INV G xa ma W0) (hh : HP G A W0 s H locs) (kk : ∀ (W1 : va_W) (H : Heap) (locs : List Loc), INV G xa ma W1 → HP G A W1 s H locs → W p l e room_1 s m #[.ref b] below meth c H locs 44 936 Q (F0 m 1338 ls [])) : W p l e room_1 s m #[.ref b] below meth c H locs 44 936 Q (F0 m 1256 ls []) := by
  have hx := fx.hx; have hb := fx.hb
  refine lv_aload_n (pc := 1256) hx hb (dOk_at dL_law_7 94 rfl) rfl (lv_at hl 1 rfl) ?_
  refine lv_aload_n (pc := 1257) hx hb (dOk_at dL_law_7 95 rfl) rfl (lv_at hl 0 rfl) ?_
  refine lv_iload_n (pc := 1258) hx hb (dOk_at dL_law_7 96 rfl) rfl (lv_at hl 3 rfl) ?_
  refine lv_iconst (pc := 1259) (v := 1) hx hb (dOk_at dL_law_7 97 rfl) rfl ?_
  refine lv_iadd (pc := 1260) hx hb (dOk_at dL_law_7 98 rfl) ?_
  refine va_sld (pc := 1261) hx hb hX hbl hbA hh.2.2 hix.2.1 (dOk_at dL_law_7 99 rfl) ?_
  refine lv_aload_n (pc := 1262) hx hb (dOk_at dL_law_7 100 rfl) rfl (lv_at hl 0 rfl) ?_
  refine lv_iload_n (pc := 1263) hx hb (dOk_at dL_law_7 101 rfl) rfl (lv_at hl 3 rfl) ?_
  refine lv_iconst (pc := 1264) (v := 2) hx hb (dOk_at dL_law_7 102 rfl) rfl ?_
  refine lv_iadd (pc := 1265) hx hb (dOk_at dL_law_7 103 rfl) ?_
  refine va_sld (pc := 1266) hx hb hX hbl hbA hh.2.2 hix.2.2.1 (dOk_at dL_law_7 104 rfl) ?_
  obtain ⟨r, P, hx1, hm1⟩ := st_as l G hI (xs (nI j + 1).toNatClampNeg) (xs (nI j + 2).toNatClampNeg)
  obtain ⟨fs0, hw0⟩ := hI.at0
  refine cl_W (pc := 1267) (As := [.int (xs (nI j + 1).toNatClampNeg), .int (xs (nI j + 2).toNatClampNeg)]) (rest := []) fx hh hl.1 hx1 yV_X6_as tML_127 ⟨rfl, rfl, Nat.le_of_ble_eq_true rfl, Nat.le_of_ble_eq_true rfl⟩ 0 6 hw0 rfl rfl rfl rfl (Nat.le_of_ble_eq_true rfl) ⟨Nat.le_of_ble_eq_true rfl, Nat.le_of_ble_eq_true rfl⟩ (dOk_at dL_law_7 105 rfl) (fun W1 H locs hp1 hh => ?_)
  obtain ⟨⟨fs1, hw1⟩, hm2⟩ := hm1 W1 hp1
  refine lv_aload_n (pc := 1270) hx hb (dOk_at dL_law_7 106 rfl) rfl (lv_at hl 2 rfl) ?_
  refine lv_aload_n (pc := 1271) hx hb (dOk_at dL_law_7 107 rfl) rfl (lv_at hl 0 rfl) ?_
  refine lv_iload_n (pc := 1272) hx hb (dOk_at dL_law_7 108 rfl) rfl (lv_at hl 3 rfl) ?_
  refine lv_iconst (pc := 1273) (v := 1) hx hb (dOk_at dL_law_7 109 rfl) rfl ?_
  refine lv_iadd (pc := 1274) hx hb (dOk_at dL_law_7 110 rfl) ?_
  refine va_sld (pc := 1275) hx hb hX hbl hbA hh.2.2 hix.2.1 (dOk_at dL_law_7 111 rfl) ?_
  refine lv_aload_n (pc := 1276) hx hb (dOk_at dL_law_7 112 rfl) rfl (lv_at hl 0 rfl) ?_
  refine lv_iload_n (pc := 1277) hx hb (dOk_at dL_law_7 113 rfl) rfl (lv_at hl 3 rfl) ?_
  refine lv_iconst (pc := 1278) (v := 2) hx hb (dOk_at dL_law_7 114 rfl) rfl ?_
  refine lv_iadd (pc := 1279) hx hb (dOk_at dL_law_7 115 rfl) ?_
  refine va_sld (pc := 1280) hx hb hX hbl hbA hh.2.2 hix.2.2.1 (dOk_at dL_law_7 116 rfl) ?_
  refine cl_W (pc := 1281) (As := [.int (xs (nI j + 1).toNatClampNeg), .int (xs (nI j + 2).toNatClampNeg)]) (rest := [.int r]) fx hh hl.1 hm2 yV_X7_as tML_130 ⟨rfl, rfl, Nat.le_of_ble_eq_true rfl, Nat.le_of_ble_eq_true rfl⟩ 28 7 hw1 rfl rfl rfl rfl (Nat.le_of_ble_eq_true rfl) ⟨Nat.le_of_ble_eq_true rfl, Nat.le_of_ble_eq_true rfl⟩ (dOk_at dL_law_7 117 rfl) (fun W2 H locs hI2 hh => ?_)
  exact lv_icmp_eq (pc := 1284) (tgt := 1338) hx hb (dOk_at dL_law_7 118 rfl) (by decide) (fun _ => kk W2 H locs hI2 hh) (fun c2 => absurd rfl c2)
theorem law_trace (fx : FX G RL cL_law 4 (some .boolean) p s m #[.ref b] meth c A) (hX : va_X b L xs s s.heap) (hbl : b < s.heap.size) (hbA : ¬ A b) (hix : LIX j L) (hl : lv_has ls 4 (lwL b xa ma j)) (hI : INV G xa ma W0) (hh : HP G A W0 s H locs) (kk : ∀ (W1 : va_W) (H : Heap) (locs : List Loc), INV G xa ma W1 → HP G A W1 s H locs → W p l e room_1 s m #[.ref b] below meth c H locs 44 936 Q (F0 m 1338 ls [])) : W p l e room_1 s m #[.ref b] below meth c H locs 44 936 Q (F0 m 1289 ls []) := by
  have hx := fx.hx; have hb := fx.hb
  refine lv_aload_n (pc := 1289) hx hb (dOk_at dL_law_8 1 rfl) rfl (lv_at hl 1 rfl) ?_
  obtain ⟨r, P, hx1, hm1⟩ := st_trace l G hI
  obtain ⟨fs0, hw0⟩ := hI.at0
  refine cl_W (pc := 1290) (As := []) (rest := []) fx hh hl.1 hx1 yV_X6_trace tML_131 ⟨rfl, rfl, Nat.le_of_ble_eq_true rfl, Nat.le_of_ble_eq_true rfl⟩ 0 6 hw0 rfl rfl rfl rfl (Nat.le_of_ble_eq_true rfl) ⟨Nat.le_of_ble_eq_true rfl, Nat.le_of_ble_eq_true rfl⟩ (dOk_at dL_law_8 2 rfl) (fun W1 H locs hp1 hh => ?_)
  obtain ⟨⟨fs1, hw1⟩, hm2⟩ := hm1 W1 hp1
  refine lv_aload_n (pc := 1293) hx hb (dOk_at dL_law_8 3 rfl) rfl (lv_at hl 2 rfl) ?_
  refine cl_W (pc := 1294) (As := []) (rest := [.int r]) fx hh hl.1 hm2 yV_X7_trace tML_135 ⟨rfl, rfl, Nat.le_of_ble_eq_true rfl, Nat.le_of_ble_eq_true rfl⟩ 28 7 hw1 rfl rfl rfl rfl (Nat.le_of_ble_eq_true rfl) ⟨Nat.le_of_ble_eq_true rfl, Nat.le_of_ble_eq_true rfl⟩ (dOk_at dL_law_8 4 rfl) (fun W2 H locs hI2 hh => ?_)
  exact lv_icmp_eq (pc := 1297) (tgt := 1338) hx hb (dOk_at dL_law_8 5 rfl) (by decide) (fun _ => kk W2 H locs hI2 hh) (fun c2 => absurd rfl c2)
theorem law_fault (fx : FX G RL cL_law 4 (some .boolean) p s m #[.ref b] meth c A) (hX : va_X b L xs s s.heap) (hbl : b < s.heap.size) (hbA : ¬ A b) (hix : LIX j L) (hl : lv_has ls 4 (lwL b xa ma j)) (hI : INV G xa ma W0) (hh : HP G A W0 s H locs) (kk : ∀ (W1 : va_W) (H : Heap) (locs : List Loc), INV G xa ma W1 → HP G A W1 s H locs → W p l e room_1 s m #[.ref b] below meth c H locs 44 936 Q (F0 m 1338 ls [])) : W p l e room_1 s m #[.ref b] below meth c H locs 44 936 Q (F0 m 1302 ls []) := by
  have hx := fx.hx; have hb := fx.hb
  refine lv_aload_n (pc := 1302) hx hb (dOk_at dL_law_8 8 rfl) rfl (lv_at hl 1 rfl) ?_
  obtain ⟨r, P, hx1, hm1⟩ := st_fault l G hI
  obtain ⟨fs0, hw0⟩ := hI.at0
  refine cl_W (pc := 1303) (As := []) (rest := []) fx hh hl.1 hx1 yV_X6_fault tML_136 ⟨rfl, rfl, Nat.le_of_ble_eq_true rfl, Nat.le_of_ble_eq_true rfl⟩ 0 6 hw0 rfl rfl rfl rfl (Nat.le_of_ble_eq_true rfl) ⟨Nat.le_of_ble_eq_true rfl, Nat.le_of_ble_eq_true rfl⟩ (dOk_at dL_law_8 9 rfl) (fun W1 H locs hp1 hh => ?_)
  obtain ⟨⟨fs1, hw1⟩, hm2⟩ := hm1 W1 hp1
  refine lv_aload_n (pc := 1306) hx hb (dOk_at dL_law_8 10 rfl) rfl (lv_at hl 2 rfl) ?_
  refine cl_W (pc := 1307) (As := []) (rest := [.int r]) fx hh hl.1 hm2 yV_X7_fault tML_139 ⟨rfl, rfl, Nat.le_of_ble_eq_true rfl, Nat.le_of_ble_eq_true rfl⟩ 28 7 hw1 rfl rfl rfl rfl (Nat.le_of_ble_eq_true rfl) ⟨Nat.le_of_ble_eq_true rfl, Nat.le_of_ble_eq_true rfl⟩ (dOk_at dL_law_8 11 rfl) (fun W2 H locs hI2 hh => ?_)
  exact lv_icmp_eq (pc := 1310) (tgt := 1338) hx hb (dOk_at dL_law_8 12 rfl) (by decide) (fun _ => kk W2 H locs hI2 hh) (fun c2 => absurd rfl c2)
theorem law_many (fx : FX G RL cL_law 4 (some .boolean) p s m #[.ref b] meth c A) (hX : va_X b L xs s s.heap) (hbl : b < s.heap.size) (hbA : ¬ A b) (hix : LIX j L) (hl : lv_has ls 4 (lwL b xa ma j)) (hI : INV G xa ma W0) (hh : HP G A W0 s H locs) (kk : ∀ (W1 : va_W) (H : Heap) (locs : List Loc), INV G xa ma W1 → HP G A W1 s H locs → W p l e room_1 s m #[.ref b] below meth c H locs 44 936 Q (F0 m 1338 ls [])) : W p l e room_1 s m #[.ref b] below meth c H locs 44 936 Q (F0 m 1315 ls []) := by
  have hx := fx.hx; have hb := fx.hb
  refine lv_aload_n (pc := 1315) hx hb (dOk_at dL_law_8 15 rfl) rfl (lv_at hl 1 rfl) ?_
  refine lv_aload_n (pc := 1316) hx hb (dOk_at dL_law_8 16 rfl) rfl (lv_at hl 0 rfl) ?_
  refine lv_iload_n (pc := 1317) hx hb (dOk_at dL_law_8 17 rfl) rfl (lv_at hl 3 rfl) ?_
  refine lv_iconst (pc := 1318) (v := 1) hx hb (dOk_at dL_law_8 18 rfl) rfl ?_
  refine lv_iadd (pc := 1319) hx hb (dOk_at dL_law_8 19 rfl) ?_
  refine va_sld (pc := 1320) hx hb hX hbl hbA hh.2.2 hix.2.1 (dOk_at dL_law_8 20 rfl) ?_
  obtain ⟨r, P, hx1, hm1⟩ := st_many l G hI (xs (nI j + 1).toNatClampNeg)
  obtain ⟨fs0, hw0⟩ := hI.at0
  refine cl_W (pc := 1321) (As := [.int (xs (nI j + 1).toNatClampNeg)]) (rest := []) fx hh hl.1 hx1 yV_X6_many tML_140 ⟨rfl, rfl, Nat.le_of_ble_eq_true rfl, Nat.le_of_ble_eq_true rfl⟩ 0 6 hw0 rfl rfl rfl rfl (Nat.le_of_ble_eq_true rfl) ⟨Nat.le_of_ble_eq_true rfl, Nat.le_of_ble_eq_true rfl⟩ (dOk_at dL_law_8 21 rfl) (fun W1 H locs hp1 hh => ?_)
  obtain ⟨⟨fs1, hw1⟩, hm2⟩ := hm1 W1 hp1
  refine lv_aload_n (pc := 1324) hx hb (dOk_at dL_law_8 22 rfl) rfl (lv_at hl 2 rfl) ?_
  refine lv_aload_n (pc := 1325) hx hb (dOk_at dL_law_8 23 rfl) rfl (lv_at hl 0 rfl) ?_
  refine lv_iload_n (pc := 1326) hx hb (dOk_at dL_law_8 24 rfl) rfl (lv_at hl 3 rfl) ?_
  refine lv_iconst (pc := 1327) (v := 1) hx hb (dOk_at dL_law_8 25 rfl) rfl ?_
  refine lv_iadd (pc := 1328) hx hb (dOk_at dL_law_8 26 rfl) ?_
  refine va_sld (pc := 1329) hx hb hX hbl hbA hh.2.2 hix.2.1 (dOk_at dL_law_8 27 rfl) ?_
  refine cl_W (pc := 1330) (As := [.int (xs (nI j + 1).toNatClampNeg)]) (rest := [.int r]) fx hh hl.1 hm2 yV_X7_many tML_143 ⟨rfl, rfl, Nat.le_of_ble_eq_true rfl, Nat.le_of_ble_eq_true rfl⟩ 28 7 hw1 rfl rfl rfl rfl (Nat.le_of_ble_eq_true rfl) ⟨Nat.le_of_ble_eq_true rfl, Nat.le_of_ble_eq_true rfl⟩ (dOk_at dL_law_8 28 rfl) (fun W2 H locs hI2 hh => ?_)
  exact lv_icmp_eq (pc := 1333) (tgt := 1338) hx hb (dOk_at dL_law_8 29 rfl) (by decide) (fun _ => kk W2 H locs hI2 hh) (fun c2 => absurd rfl c2)
end LAW
