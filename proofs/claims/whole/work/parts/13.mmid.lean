set_option maxRecDepth 100000 in
set_option maxHeartbeats 4000000 in
theorem wk_X7_loadOf (l : Launch) (G : GT) (m0 : Nat) (a4 : Nat) (a6 : Nat) (a7 : Nat) (a15 : Nat) (a16 : Nat) (a17 : Nat) (a21 : Nat) (a22 : Nat) (a24 : Nat) (a25 : Nat) (a26 : Nat) (a27 : Nat) (a28 : Nat) (a29 : Nat) (a30 : Nat) (f0 : Int32) (f1 : Int32) (f2 : Int32) (f3 : Int32) (f5 : Int32) (f8 : Int32) (f9 : Int32) (f10 : Int32) (f11 : Int32) (f12 : Int32) (f13 : Int32) (f14 : Int32) (f18 : Int32) (f19 : Int32) (f20 : Int32) (f23 : Int32) (f31 : Int32) (g4 : Nat → Int32) (g6 : Nat → Int32) (g7 : Nat → Int32) (g15 : Nat → Int32) (g16 : Nat → Int32) (g17 : Nat → Int32) (g21 : Nat → Int32) (g22 : Nat → Int32) (g24 : Nat → Int32) (g25 : Nat → Int32) (g26 : Nat → Int32) (g27 : Nat → Int32) (g28 : Nat → Int32) (g29 : Nat → Int32) (g30 : Nat → Int32) (a : Int32) (R : Int32)
    (hv : vp_in a 4 ∧ (vp_in a 4 ∧ ((¬ (g6 a.toNatClampNeg) = 0 → vp_in a 4 ∧ ((¬ (g6 a.toNatClampNeg) = 1 → (2 * ((g7 a.toNatClampNeg) + 1)) = R) ∧ ((g6 a.toNatClampNeg) = 1 → ((g7 a.toNatClampNeg) + 1) = R))) ∧ ((g6 a.toNatClampNeg) = 0 → (g7 a.toNatClampNeg) = R)))) :
    MF l G yX7_loadOf cX7_loadOf 3 (some .int) rm_X7_loadOf [.ref m0, .int a] [(m0, .inr (7, [.int f0, .int f1, .int f2, .int f3, .ref a4, .int f5, .ref a6, .ref a7, .int f8, .int f9, .int f10, .int f11, .int f12, .int f13, .int f14, .ref a15, .ref a16, .ref a17, .int f18, .int f19, .int f20, .ref a21, .ref a22, .int f23, .ref a24, .ref a25, .ref a26, .ref a27, .ref a28, .ref a29, .ref a30, .int f31])), (a4, .inl (G.2.1, 20, .inl g4)), (a6, .inl (G.2.1, 4, .inl g6)), (a7, .inl (G.2.1, 4, .inl g7)), (a15, .inl (G.2.1, 20, .inl g15)), (a16, .inl (G.2.1, 4, .inl g16)), (a17, .inl (G.2.1, 4, .inl g17)), (a21, .inl (G.2.1, 20, .inl g21)), (a22, .inl (G.2.1, 40, .inl g22)), (a24, .inl (G.2.1, 8, .inl g24)), (a25, .inl (G.2.1, 8, .inl g25)), (a26, .inl (G.2.2.1, 8, .inl g26)), (a27, .inl (G.2.1, 4, .inl g27)), (a28, .inl (G.2.1, 4, .inl g28)), (a29, .inl (G.2.1, 240, .inl g29)), (a30, .inl (G.2.1, 60, .inl g30))] (some (.int R)) [(m0, .inr (7, [.int f0, .int f1, .int f2, .int f3, .ref a4, .int f5, .ref a6, .ref a7, .int f8, .int f9, .int f10, .int f11, .int f12, .int f13, .int f14, .ref a15, .ref a16, .ref a17, .int f18, .int f19, .int f20, .ref a21, .ref a22, .int f23, .ref a24, .ref a25, .ref a26, .ref a27, .ref a28, .ref a29, .ref a30, .int f31])), (a4, .inl (G.2.1, 20, .inl g4)), (a6, .inl (G.2.1, 4, .inl g6)), (a7, .inl (G.2.1, 4, .inl g7)), (a15, .inl (G.2.1, 20, .inl g15)), (a16, .inl (G.2.1, 4, .inl g16)), (a17, .inl (G.2.1, 4, .inl g17)), (a21, .inl (G.2.1, 20, .inl g21)), (a22, .inl (G.2.1, 40, .inl g22)), (a24, .inl (G.2.1, 8, .inl g24)), (a25, .inl (G.2.1, 8, .inl g25)), (a26, .inl (G.2.2.1, 8, .inl g26)), (a27, .inl (G.2.1, 4, .inl g27)), (a28, .inl (G.2.1, 4, .inl g28)), (a29, .inl (G.2.1, 240, .inl g29)), (a30, .inl (G.2.1, 60, .inl g30))] := by
  refine MF.of (by decide +kernel) (Nat.le_of_ble_eq_true rfl) ?_
  intro p e s m args below meth c A ls fx hh hl _
  have hx := fx.hx
  have hb := fx.hb
  have hl : lv_has ls 3 [(0, .ref m0), (1, .int a)] := hl
  obtain ⟨Q, hQ⟩ : ∃ Q, Q = ZZ G A (some (.int R)) [(m0, .inr (7, [.int f0, .int f1, .int f2, .int f3, .ref a4, .int f5, .ref a6, .ref a7, .int f8, .int f9, .int f10, .int f11, .int f12, .int f13, .int f14, .ref a15, .ref a16, .ref a17, .int f18, .int f19, .int f20, .ref a21, .ref a22, .int f23, .ref a24, .ref a25, .ref a26, .ref a27, .ref a28, .ref a29, .ref a30, .int f31])), (a4, .inl (G.2.1, 20, .inl g4)), (a6, .inl (G.2.1, 4, .inl g6)), (a7, .inl (G.2.1, 4, .inl g7)), (a15, .inl (G.2.1, 20, .inl g15)), (a16, .inl (G.2.1, 4, .inl g16)), (a17, .inl (G.2.1, 4, .inl g17)), (a21, .inl (G.2.1, 20, .inl g21)), (a22, .inl (G.2.1, 40, .inl g22)), (a24, .inl (G.2.1, 8, .inl g24)), (a25, .inl (G.2.1, 8, .inl g25)), (a26, .inl (G.2.2.1, 8, .inl g26)), (a27, .inl (G.2.1, 4, .inl g27)), (a28, .inl (G.2.1, 4, .inl g28)), (a29, .inl (G.2.1, 240, .inl g29)), (a30, .inl (G.2.1, 60, .inl g30))] below args s := ⟨_, rfl⟩
  rw [← hQ]
  refine lv_aload_n (pc := 0) hx hb (dOk_at dX7_loadOf 0 rfl) rfl (lv_at hl 0 rfl) ?_
  refine r_get (pc := 1) (ci := 7) fx hh inT7 rfl 7 (by decide) tFX7_16 rfl 0 rfl rfl (dOk_at dX7_loadOf 1 rfl) ?_
  refine lv_iload_n (pc := 4) hx hb (dOk_at dX7_loadOf 2 rfl) rfl (lv_at hl 1 rfl) ?_
  refine r_iald (pc := 5) fx hh 3 rfl hv.1 (dOk_at dX7_loadOf 3 rfl) ?_
  have hv := hv.2
  refine lv_istore_n (pc := 6) (lv' := [(2, .int (g7 a.toNatClampNeg)), (0, .ref m0), (1, .int a)]) hx hb (dOk_at dX7_loadOf 4 rfl) rfl hl (by decide) rfl (fun ls hl => ?_)
  refine lv_aload_n (pc := 7) hx hb (dOk_at dX7_loadOf 5 rfl) rfl (lv_at hl 1 rfl) ?_
  refine r_get (pc := 8) (ci := 7) fx hh inT7 rfl 6 (by decide) tFX7_13 rfl 0 rfl rfl (dOk_at dX7_loadOf 6 rfl) ?_
  refine lv_iload_n (pc := 11) hx hb (dOk_at dX7_loadOf 7 rfl) rfl (lv_at hl 2 rfl) ?_
  refine r_iald (pc := 12) fx hh 2 rfl hv.1 (dOk_at dX7_loadOf 8 rfl) ?_
  have hv := hv.2
  refine lv_if_ne (pc := 13) (tgt := 20) hx hb (dOk_at dX7_loadOf 9 rfl) (by decide) (fun c13 => ?_) (fun c13 => ?_)
  · have hv := hv.1 c13
    refine lv_aload_n (pc := 20) hx hb (dOk_at dX7_loadOf 12 rfl) rfl (lv_at hl 1 rfl) ?_
    refine r_get (pc := 21) (ci := 7) fx hh inT7 rfl 6 (by decide) tFX7_13 rfl 0 rfl rfl (dOk_at dX7_loadOf 13 rfl) ?_
    refine lv_iload_n (pc := 24) hx hb (dOk_at dX7_loadOf 14 rfl) rfl (lv_at hl 2 rfl) ?_
    refine r_iald (pc := 25) fx hh 2 rfl hv.1 (dOk_at dX7_loadOf 15 rfl) ?_
    have hv := hv.2
    refine lv_iconst (pc := 26) (v := 1) hx hb (dOk_at dX7_loadOf 16 rfl) (by decide) ?_
    refine lv_icmp_ne (pc := 27) (tgt := 36) hx hb (dOk_at dX7_loadOf 17 rfl) (by decide) (fun c27 => ?_) (fun c27 => ?_)
    · have hv := hv.1 c27
      refine lv_iconst (pc := 36) (v := 2) hx hb (dOk_at dX7_loadOf 22 rfl) (by decide) ?_
      refine lv_iload_n (pc := 37) hx hb (dOk_at dX7_loadOf 23 rfl) rfl (lv_at hl 0 rfl) ?_
      refine lv_iconst (pc := 38) (v := 1) hx hb (dOk_at dX7_loadOf 24 rfl) (by decide) ?_
      refine lv_iadd (pc := 39) hx hb (dOk_at dX7_loadOf 25 rfl) ?_
      refine lv_imul (pc := 40) hx hb (dOk_at dX7_loadOf 26 rfl) ?_
      have e0 := hv
      subst e0
      rw [hQ]
      exact r_iret (pc := 41) fx hh (dOk_at dX7_loadOf 27 rfl)
    · have hv := hv.2 c27
      refine lv_iload_n (pc := 30) hx hb (dOk_at dX7_loadOf 18 rfl) rfl (lv_at hl 0 rfl) ?_
      refine lv_iconst (pc := 31) (v := 1) hx hb (dOk_at dX7_loadOf 19 rfl) (by decide) ?_
      refine lv_iadd (pc := 32) hx hb (dOk_at dX7_loadOf 20 rfl) ?_
      refine lv_goto (pc := 33) (tgt := 41) hx hb (dOk_at dX7_loadOf 21 rfl) (by decide) ?_
      have e0 := hv
      subst e0
      rw [hQ]
      exact r_iret (pc := 41) fx hh (dOk_at dX7_loadOf 27 rfl)
  · have hv := hv.2 c13
    refine lv_iload_n (pc := 16) hx hb (dOk_at dX7_loadOf 10 rfl) rfl (lv_at hl 0 rfl) ?_
    refine lv_goto (pc := 17) (tgt := 41) hx hb (dOk_at dX7_loadOf 11 rfl) (by decide) ?_
    have e0 := hv
    subst e0
    rw [hQ]
    exact r_iret (pc := 41) fx hh (dOk_at dX7_loadOf 27 rfl)
set_option maxRecDepth 100000 in
set_option maxHeartbeats 4000000 in
theorem wk_X7_bears (l : Launch) (G : GT) (m0 : Nat) (a4 : Nat) (a6 : Nat) (a7 : Nat) (a15 : Nat) (a16 : Nat) (a17 : Nat) (a21 : Nat) (a22 : Nat) (a24 : Nat) (a25 : Nat) (a26 : Nat) (a27 : Nat) (a28 : Nat) (a29 : Nat) (a30 : Nat) (f0 : Int32) (f1 : Int32) (f2 : Int32) (f3 : Int32) (f5 : Int32) (f8 : Int32) (f9 : Int32) (f10 : Int32) (f11 : Int32) (f12 : Int32) (f13 : Int32) (f14 : Int32) (f18 : Int32) (f19 : Int32) (f20 : Int32) (f23 : Int32) (f31 : Int32) (g4 : Nat → Int32) (g6 : Nat → Int32) (g7 : Nat → Int32) (g15 : Nat → Int32) (g16 : Nat → Int32) (g17 : Nat → Int32) (g21 : Nat → Int32) (g22 : Nat → Int32) (g24 : Nat → Int32) (g25 : Nat → Int32) (g26 : Nat → Int32) (g27 : Nat → Int32) (g28 : Nat → Int32) (g29 : Nat → Int32) (g30 : Nat → Int32) (ce : Int32) (a : Int32) (R : Int32) (h_X7_isIn : K_X7_isIn l G) (h_X7_loadOf : K_X7_loadOf l G)
    (hv : vp_in ce 20 ∧ ((¬ (s_isIn f8 ce) = 0 → (0 : Int32) = R) ∧ ((s_isIn f8 ce) = 0 → vp_in a 4 ∧ ((((g4 ce.toNatClampNeg) - f9) < (q_load g6 g7 a) → (0 : Int32) = R) ∧ (¬ ((g4 ce.toNatClampNeg) - f9) < (q_load g6 g7 a) → (1 : Int32) = R))))) :
    MF l G yX7_bears cX7_bears 4 (some .boolean) rm_X7_bears [.ref m0, .int ce, .int a] [(m0, .inr (7, [.int f0, .int f1, .int f2, .int f3, .ref a4, .int f5, .ref a6, .ref a7, .int f8, .int f9, .int f10, .int f11, .int f12, .int f13, .int f14, .ref a15, .ref a16, .ref a17, .int f18, .int f19, .int f20, .ref a21, .ref a22, .int f23, .ref a24, .ref a25, .ref a26, .ref a27, .ref a28, .ref a29, .ref a30, .int f31])), (a4, .inl (G.2.1, 20, .inl g4)), (a6, .inl (G.2.1, 4, .inl g6)), (a7, .inl (G.2.1, 4, .inl g7)), (a15, .inl (G.2.1, 20, .inl g15)), (a16, .inl (G.2.1, 4, .inl g16)), (a17, .inl (G.2.1, 4, .inl g17)), (a21, .inl (G.2.1, 20, .inl g21)), (a22, .inl (G.2.1, 40, .inl g22)), (a24, .inl (G.2.1, 8, .inl g24)), (a25, .inl (G.2.1, 8, .inl g25)), (a26, .inl (G.2.2.1, 8, .inl g26)), (a27, .inl (G.2.1, 4, .inl g27)), (a28, .inl (G.2.1, 4, .inl g28)), (a29, .inl (G.2.1, 240, .inl g29)), (a30, .inl (G.2.1, 60, .inl g30))] (some (.int R)) [(m0, .inr (7, [.int f0, .int f1, .int f2, .int f3, .ref a4, .int f5, .ref a6, .ref a7, .int f8, .int f9, .int f10, .int f11, .int f12, .int f13, .int f14, .ref a15, .ref a16, .ref a17, .int f18, .int f19, .int f20, .ref a21, .ref a22, .int f23, .ref a24, .ref a25, .ref a26, .ref a27, .ref a28, .ref a29, .ref a30, .int f31])), (a4, .inl (G.2.1, 20, .inl g4)), (a6, .inl (G.2.1, 4, .inl g6)), (a7, .inl (G.2.1, 4, .inl g7)), (a15, .inl (G.2.1, 20, .inl g15)), (a16, .inl (G.2.1, 4, .inl g16)), (a17, .inl (G.2.1, 4, .inl g17)), (a21, .inl (G.2.1, 20, .inl g21)), (a22, .inl (G.2.1, 40, .inl g22)), (a24, .inl (G.2.1, 8, .inl g24)), (a25, .inl (G.2.1, 8, .inl g25)), (a26, .inl (G.2.2.1, 8, .inl g26)), (a27, .inl (G.2.1, 4, .inl g27)), (a28, .inl (G.2.1, 4, .inl g28)), (a29, .inl (G.2.1, 240, .inl g29)), (a30, .inl (G.2.1, 60, .inl g30))] := by
  refine MF.of (by decide +kernel) (Nat.le_of_ble_eq_true rfl) ?_
  intro p e s m args below meth c A ls fx hh hl _
  have hx := fx.hx
  have hb := fx.hb
  have hl : lv_has ls 4 [(0, .ref m0), (1, .int ce), (2, .int a)] := hl
  obtain ⟨Q, hQ⟩ : ∃ Q, Q = ZZ G A (some (.int R)) [(m0, .inr (7, [.int f0, .int f1, .int f2, .int f3, .ref a4, .int f5, .ref a6, .ref a7, .int f8, .int f9, .int f10, .int f11, .int f12, .int f13, .int f14, .ref a15, .ref a16, .ref a17, .int f18, .int f19, .int f20, .ref a21, .ref a22, .int f23, .ref a24, .ref a25, .ref a26, .ref a27, .ref a28, .ref a29, .ref a30, .int f31])), (a4, .inl (G.2.1, 20, .inl g4)), (a6, .inl (G.2.1, 4, .inl g6)), (a7, .inl (G.2.1, 4, .inl g7)), (a15, .inl (G.2.1, 20, .inl g15)), (a16, .inl (G.2.1, 4, .inl g16)), (a17, .inl (G.2.1, 4, .inl g17)), (a21, .inl (G.2.1, 20, .inl g21)), (a22, .inl (G.2.1, 40, .inl g22)), (a24, .inl (G.2.1, 8, .inl g24)), (a25, .inl (G.2.1, 8, .inl g25)), (a26, .inl (G.2.2.1, 8, .inl g26)), (a27, .inl (G.2.1, 4, .inl g27)), (a28, .inl (G.2.1, 4, .inl g28)), (a29, .inl (G.2.1, 240, .inl g29)), (a30, .inl (G.2.1, 60, .inl g30))] below args s := ⟨_, rfl⟩
  rw [← hQ]
  refine lv_aload_n (pc := 0) hx hb (dOk_at dX7_bears 0 rfl) rfl (lv_at hl 0 rfl) ?_
  refine r_get (pc := 1) (ci := 7) fx hh inT7 rfl 4 (by decide) tFX7_7 rfl 0 rfl rfl (dOk_at dX7_bears 1 rfl) ?_
  refine lv_iload_n (pc := 4) hx hb (dOk_at dX7_bears 2 rfl) rfl (lv_at hl 1 rfl) ?_
  refine r_iald (pc := 5) fx hh 1 rfl hv.1 (dOk_at dX7_bears 3 rfl) ?_
  have hv := hv.2
  refine lv_aload_n (pc := 6) hx hb (dOk_at dX7_bears 4 rfl) rfl (lv_at hl 0 rfl) ?_
  refine r_get (pc := 7) (ci := 7) fx hh inT7 rfl 9 (by decide) tFX7_147 rfl 0 rfl rfl (dOk_at dX7_bears 5 rfl) ?_
  refine lv_isub (pc := 10) hx hb (dOk_at dX7_bears 6 rfl) ?_
  refine lv_istore_n (pc := 11) (lv' := [(3, .int ((g4 ce.toNatClampNeg) - f9)), (0, .ref m0), (1, .int ce), (2, .int a)]) hx hb (dOk_at dX7_bears 7 rfl) rfl hl (by decide) rfl (fun ls hl => ?_)
  refine lv_aload_n (pc := 12) hx hb (dOk_at dX7_bears 8 rfl) rfl (lv_at hl 1 rfl) ?_
  refine r_get (pc := 13) (ci := 7) fx hh inT7 rfl 8 (by decide) tFX7_150 rfl 0 rfl rfl (dOk_at dX7_bears 9 rfl) ?_
  refine lv_iload_n (pc := 16) hx hb (dOk_at dX7_bears 10 rfl) rfl (lv_at hl 2 rfl) ?_
  refine cl_S (pc := 17) (w' := [(m0, .inr (7, [.int f0, .int f1, .int f2, .int f3, .ref a4, .int f5, .ref a6, .ref a7, .int f8, .int f9, .int f10, .int f11, .int f12, .int f13, .int f14, .ref a15, .ref a16, .ref a17, .int f18, .int f19, .int f20, .ref a21, .ref a22, .int f23, .ref a24, .ref a25, .ref a26, .ref a27, .ref a28, .ref a29, .ref a30, .int f31])), (a4, .inl (G.2.1, 20, .inl g4)), (a6, .inl (G.2.1, 4, .inl g6)), (a7, .inl (G.2.1, 4, .inl g7)), (a15, .inl (G.2.1, 20, .inl g15)), (a16, .inl (G.2.1, 4, .inl g16)), (a17, .inl (G.2.1, 4, .inl g17)), (a21, .inl (G.2.1, 20, .inl g21)), (a22, .inl (G.2.1, 40, .inl g22)), (a24, .inl (G.2.1, 8, .inl g24)), (a25, .inl (G.2.1, 8, .inl g25)), (a26, .inl (G.2.2.1, 8, .inl g26)), (a27, .inl (G.2.1, 4, .inl g27)), (a28, .inl (G.2.1, 4, .inl g28)), (a29, .inl (G.2.1, 240, .inl g29)), (a30, .inl (G.2.1, 60, .inl g30))]) (wr := [(m0, .inr (7, [.int f0, .int f1, .int f2, .int f3, .ref a4, .int f5, .ref a6, .ref a7, .int f8, .int f9, .int f10, .int f11, .int f12, .int f13, .int f14, .ref a15, .ref a16, .ref a17, .int f18, .int f19, .int f20, .ref a21, .ref a22, .int f23, .ref a24, .ref a25, .ref a26, .ref a27, .ref a28, .ref a29, .ref a30, .int f31])), (a4, .inl (G.2.1, 20, .inl g4)), (a6, .inl (G.2.1, 4, .inl g6)), (a7, .inl (G.2.1, 4, .inl g7)), (a15, .inl (G.2.1, 20, .inl g15)), (a16, .inl (G.2.1, 4, .inl g16)), (a17, .inl (G.2.1, 4, .inl g17)), (a21, .inl (G.2.1, 20, .inl g21)), (a22, .inl (G.2.1, 40, .inl g22)), (a24, .inl (G.2.1, 8, .inl g24)), (a25, .inl (G.2.1, 8, .inl g25)), (a26, .inl (G.2.2.1, 8, .inl g26)), (a27, .inl (G.2.1, 4, .inl g27)), (a28, .inl (G.2.1, 4, .inl g28)), (a29, .inl (G.2.1, 240, .inl g29)), (a30, .inl (G.2.1, 60, .inl g30))]) (rest := []) fx hh hl.1 (h_X7_isIn f8 ce) yS_X7_isIn tMX7_153 ⟨rfl, rfl, Nat.le_of_ble_eq_true rfl, Nat.le_of_ble_eq_true rfl⟩ [] [0, 1, 2, 3, 4, 5, 6, 7, 8, 9, 10, 11, 12, 13, 14, 15] [0, 1, 2, 3, 4, 5, 6, 7, 8, 9, 10, 11, 12, 13, 14, 15] rfl rfl rfl (by decide) (by decide) rfl rfl (Nat.le_of_ble_eq_true rfl) ⟨Nat.le_of_ble_eq_true rfl, Nat.le_of_ble_eq_true rfl⟩ (dOk_at dX7_bears 11 rfl) (fun H locs hh => ?_)
  refine lv_if_ne (pc := 20) (tgt := 36) hx hb (dOk_at dX7_bears 12 rfl) (by decide) (fun c20 => ?_) (fun c20 => ?_)
  · have hv := hv.1 c20
    refine lv_iconst (pc := 36) (v := 0) hx hb (dOk_at dX7_bears 20 rfl) (by decide) ?_
    have e0 := hv
    subst e0
    rw [hQ]
    exact r_zret (pc := 37) fx hh rfl (dOk_at dX7_bears 21 rfl)
  · have hv := hv.2 c20
    refine lv_aload_n (pc := 23) hx hb (dOk_at dX7_bears 13 rfl) rfl (lv_at hl 1 rfl) ?_
    refine lv_iload_n (pc := 24) hx hb (dOk_at dX7_bears 14 rfl) rfl (lv_at hl 3 rfl) ?_
    refine cl_V (pc := 25) (w' := [(m0, .inr (7, [.int f0, .int f1, .int f2, .int f3, .ref a4, .int f5, .ref a6, .ref a7, .int f8, .int f9, .int f10, .int f11, .int f12, .int f13, .int f14, .ref a15, .ref a16, .ref a17, .int f18, .int f19, .int f20, .ref a21, .ref a22, .int f23, .ref a24, .ref a25, .ref a26, .ref a27, .ref a28, .ref a29, .ref a30, .int f31])), (a4, .inl (G.2.1, 20, .inl g4)), (a6, .inl (G.2.1, 4, .inl g6)), (a7, .inl (G.2.1, 4, .inl g7)), (a15, .inl (G.2.1, 20, .inl g15)), (a16, .inl (G.2.1, 4, .inl g16)), (a17, .inl (G.2.1, 4, .inl g17)), (a21, .inl (G.2.1, 20, .inl g21)), (a22, .inl (G.2.1, 40, .inl g22)), (a24, .inl (G.2.1, 8, .inl g24)), (a25, .inl (G.2.1, 8, .inl g25)), (a26, .inl (G.2.2.1, 8, .inl g26)), (a27, .inl (G.2.1, 4, .inl g27)), (a28, .inl (G.2.1, 4, .inl g28)), (a29, .inl (G.2.1, 240, .inl g29)), (a30, .inl (G.2.1, 60, .inl g30))]) (wr := []) (rest := []) fx hh hl.1 (h_X7_loadOf m0 a4 a6 a7 a15 a16 a17 a21 a22 a24 a25 a26 a27 a28 a29 a30 f0 f1 f2 f3 f5 f8 f9 f10 f11 f12 f13 f14 f18 f19 f20 f23 f31 g4 g6 g7 g15 g16 g17 g21 g22 g24 g25 g26 g27 g28 g29 g30 a hv.1) yV_X7_loadOf tMX7_156 ⟨rfl, rfl, Nat.le_of_ble_eq_true rfl, Nat.le_of_ble_eq_true rfl⟩ 0 7 rfl rfl rfl [0, 1, 2, 3, 4, 5, 6, 7, 8, 9, 10, 11, 12, 13, 14, 15] [] [0, 1, 2, 3, 4, 5, 6, 7, 8, 9, 10, 11, 12, 13, 14, 15] rfl rfl rfl (by decide) (by decide) rfl rfl (Nat.le_of_ble_eq_true rfl) ⟨Nat.le_of_ble_eq_true rfl, Nat.le_of_ble_eq_true rfl⟩ (dOk_at dX7_bears 15 rfl) (fun H locs hh => ?_)
    have hv := hv.2
    refine lv_iload_n (pc := 28) hx hb (dOk_at dX7_bears 16 rfl) rfl (lv_at hl 0 rfl) ?_
    refine lv_icmp_gt (pc := 29) (tgt := 36) hx hb (dOk_at dX7_bears 17 rfl) (by decide) (fun c29 => ?_) (fun c29 => ?_)
    · have hv := hv.1 c29
      refine lv_iconst (pc := 36) (v := 0) hx hb (dOk_at dX7_bears 20 rfl) (by decide) ?_
      have e0 := hv
      subst e0
      rw [hQ]
      exact r_zret (pc := 37) fx hh rfl (dOk_at dX7_bears 21 rfl)
    · have hv := hv.2 c29
      refine lv_iconst (pc := 32) (v := 1) hx hb (dOk_at dX7_bears 18 rfl) (by decide) ?_
      refine lv_goto (pc := 33) (tgt := 37) hx hb (dOk_at dX7_bears 19 rfl) (by decide) ?_
      have e0 := hv
      subst e0
      rw [hQ]
      exact r_zret (pc := 37) fx hh rfl (dOk_at dX7_bears 21 rfl)
set_option maxRecDepth 100000 in
set_option maxHeartbeats 4000000 in
theorem wk_X7_bearingOf (l : Launch) (G : GT) (m0 : Nat) (a4 : Nat) (a6 : Nat) (a7 : Nat) (a15 : Nat) (a16 : Nat) (a17 : Nat) (a21 : Nat) (a22 : Nat) (a24 : Nat) (a25 : Nat) (a26 : Nat) (a27 : Nat) (a28 : Nat) (a29 : Nat) (a30 : Nat) (f0 : Int32) (f1 : Int32) (f2 : Int32) (f3 : Int32) (f5 : Int32) (f8 : Int32) (f9 : Int32) (f10 : Int32) (f11 : Int32) (f12 : Int32) (f13 : Int32) (f14 : Int32) (f18 : Int32) (f19 : Int32) (f20 : Int32) (f23 : Int32) (f31 : Int32) (g4 : Nat → Int32) (g6 : Nat → Int32) (g7 : Nat → Int32) (g15 : Nat → Int32) (g16 : Nat → Int32) (g17 : Nat → Int32) (g21 : Nat → Int32) (g22 : Nat → Int32) (g24 : Nat → Int32) (g25 : Nat → Int32) (g26 : Nat → Int32) (g27 : Nat → Int32) (g28 : Nat → Int32) (g29 : Nat → Int32) (g30 : Nat → Int32) (a : Int32) (R : Int32) (J4 : Nat → Int32 → Int32 → Prop) (h_X7_bears : K_X7_bears l G) (h_X7_cells : K_X7_cells l G)
    (hv : ∃ k2 : Nat, J4 k2 0 0)
    (hv4 : ∀ (n4 : Nat) (x4_2 : Int32) (x4_3 : Int32), J4 n4 x4_2 x4_3 → ((f1 * f2) ≤ x4_3 → x4_2 = R) ∧ (¬ (f1 * f2) ≤ x4_3 → vp_in x4_3 20 ∧ vp_in a 4 ∧ ((∀ (v29 : Int32), v29 = (if (q_bears f8 f9 g4 g6 g7 x4_3 a) = 0 then (0 : Int32) else (1 : Int32) <<< (x4_3 &&& 31)) → ∃ k1 : Nat, k1 < n4 ∧ J4 k1 (x4_2 ||| v29) (x4_3 + 1))))) :
    MF l G yX7_bearingOf cX7_bearingOf 4 (some .int) rm_X7_bearingOf [.ref m0, .int a] [(m0, .inr (7, [.int f0, .int f1, .int f2, .int f3, .ref a4, .int f5, .ref a6, .ref a7, .int f8, .int f9, .int f10, .int f11, .int f12, .int f13, .int f14, .ref a15, .ref a16, .ref a17, .int f18, .int f19, .int f20, .ref a21, .ref a22, .int f23, .ref a24, .ref a25, .ref a26, .ref a27, .ref a28, .ref a29, .ref a30, .int f31])), (a4, .inl (G.2.1, 20, .inl g4)), (a6, .inl (G.2.1, 4, .inl g6)), (a7, .inl (G.2.1, 4, .inl g7)), (a15, .inl (G.2.1, 20, .inl g15)), (a16, .inl (G.2.1, 4, .inl g16)), (a17, .inl (G.2.1, 4, .inl g17)), (a21, .inl (G.2.1, 20, .inl g21)), (a22, .inl (G.2.1, 40, .inl g22)), (a24, .inl (G.2.1, 8, .inl g24)), (a25, .inl (G.2.1, 8, .inl g25)), (a26, .inl (G.2.2.1, 8, .inl g26)), (a27, .inl (G.2.1, 4, .inl g27)), (a28, .inl (G.2.1, 4, .inl g28)), (a29, .inl (G.2.1, 240, .inl g29)), (a30, .inl (G.2.1, 60, .inl g30))] (some (.int R)) [(m0, .inr (7, [.int f0, .int f1, .int f2, .int f3, .ref a4, .int f5, .ref a6, .ref a7, .int f8, .int f9, .int f10, .int f11, .int f12, .int f13, .int f14, .ref a15, .ref a16, .ref a17, .int f18, .int f19, .int f20, .ref a21, .ref a22, .int f23, .ref a24, .ref a25, .ref a26, .ref a27, .ref a28, .ref a29, .ref a30, .int f31])), (a4, .inl (G.2.1, 20, .inl g4)), (a6, .inl (G.2.1, 4, .inl g6)), (a7, .inl (G.2.1, 4, .inl g7)), (a15, .inl (G.2.1, 20, .inl g15)), (a16, .inl (G.2.1, 4, .inl g16)), (a17, .inl (G.2.1, 4, .inl g17)), (a21, .inl (G.2.1, 20, .inl g21)), (a22, .inl (G.2.1, 40, .inl g22)), (a24, .inl (G.2.1, 8, .inl g24)), (a25, .inl (G.2.1, 8, .inl g25)), (a26, .inl (G.2.2.1, 8, .inl g26)), (a27, .inl (G.2.1, 4, .inl g27)), (a28, .inl (G.2.1, 4, .inl g28)), (a29, .inl (G.2.1, 240, .inl g29)), (a30, .inl (G.2.1, 60, .inl g30))] := by
  refine MF.of (by decide +kernel) (Nat.le_of_ble_eq_true rfl) ?_
  intro p e s m args below meth c A ls fx hh hl _
  have hx := fx.hx
  have hb := fx.hb
  have hl : lv_has ls 4 [(0, .ref m0), (1, .int a)] := hl
  obtain ⟨Q, hQ⟩ : ∃ Q, Q = ZZ G A (some (.int R)) [(m0, .inr (7, [.int f0, .int f1, .int f2, .int f3, .ref a4, .int f5, .ref a6, .ref a7, .int f8, .int f9, .int f10, .int f11, .int f12, .int f13, .int f14, .ref a15, .ref a16, .ref a17, .int f18, .int f19, .int f20, .ref a21, .ref a22, .int f23, .ref a24, .ref a25, .ref a26, .ref a27, .ref a28, .ref a29, .ref a30, .int f31])), (a4, .inl (G.2.1, 20, .inl g4)), (a6, .inl (G.2.1, 4, .inl g6)), (a7, .inl (G.2.1, 4, .inl g7)), (a15, .inl (G.2.1, 20, .inl g15)), (a16, .inl (G.2.1, 4, .inl g16)), (a17, .inl (G.2.1, 4, .inl g17)), (a21, .inl (G.2.1, 20, .inl g21)), (a22, .inl (G.2.1, 40, .inl g22)), (a24, .inl (G.2.1, 8, .inl g24)), (a25, .inl (G.2.1, 8, .inl g25)), (a26, .inl (G.2.2.1, 8, .inl g26)), (a27, .inl (G.2.1, 4, .inl g27)), (a28, .inl (G.2.1, 4, .inl g28)), (a29, .inl (G.2.1, 240, .inl g29)), (a30, .inl (G.2.1, 60, .inl g30))] below args s := ⟨_, rfl⟩
  rw [← hQ]
  have lp4 : ∀ (n4 : Nat) (x4_2 : Int32) (x4_3 : Int32), J4 n4 x4_2 x4_3 → ∀ (H : Heap) (locs : List Loc) (ls : Array Slot), HP G A [(m0, .inr (7, [.int f0, .int f1, .int f2, .int f3, .ref a4, .int f5, .ref a6, .ref a7, .int f8, .int f9, .int f10, .int f11, .int f12, .int f13, .int f14, .ref a15, .ref a16, .ref a17, .int f18, .int f19, .int f20, .ref a21, .ref a22, .int f23, .ref a24, .ref a25, .ref a26, .ref a27, .ref a28, .ref a29, .ref a30, .int f31])), (a4, .inl (G.2.1, 20, .inl g4)), (a6, .inl (G.2.1, 4, .inl g6)), (a7, .inl (G.2.1, 4, .inl g7)), (a15, .inl (G.2.1, 20, .inl g15)), (a16, .inl (G.2.1, 4, .inl g16)), (a17, .inl (G.2.1, 4, .inl g17)), (a21, .inl (G.2.1, 20, .inl g21)), (a22, .inl (G.2.1, 40, .inl g22)), (a24, .inl (G.2.1, 8, .inl g24)), (a25, .inl (G.2.1, 8, .inl g25)), (a26, .inl (G.2.2.1, 8, .inl g26)), (a27, .inl (G.2.1, 4, .inl g27)), (a28, .inl (G.2.1, 4, .inl g28)), (a29, .inl (G.2.1, 240, .inl g29)), (a30, .inl (G.2.1, 60, .inl g30))] s H locs → lv_has ls 4 [(0, .ref m0), (1, .int a), (2, .int x4_2), (3, .int x4_3)] → W p l e rm_X7_bearingOf s m args below meth c H locs 0 0 Q (F0 m 4 ls []) := by
    intro n4
    induction n4 using Nat.strongRecOn with
    | ind n4 ih4 =>
      intro x4_2 x4_3 hj4 H locs ls hh hl
      have hv := hv4 n4 x4_2 x4_3 hj4
      refine lv_iload_n (pc := 4) hx hb (dOk_at dX7_bearingOf 4 rfl) rfl (lv_at hl 3 rfl) ?_
      refine lv_aload_n (pc := 5) hx hb (dOk_at dX7_bearingOf 5 rfl) rfl (lv_at hl 0 rfl) ?_
      refine cl_V (pc := 6) (w' := [(m0, .inr (7, [.int f0, .int f1, .int f2, .int f3, .ref a4, .int f5, .ref a6, .ref a7, .int f8, .int f9, .int f10, .int f11, .int f12, .int f13, .int f14, .ref a15, .ref a16, .ref a17, .int f18, .int f19, .int f20, .ref a21, .ref a22, .int f23, .ref a24, .ref a25, .ref a26, .ref a27, .ref a28, .ref a29, .ref a30, .int f31])), (a4, .inl (G.2.1, 20, .inl g4)), (a6, .inl (G.2.1, 4, .inl g6)), (a7, .inl (G.2.1, 4, .inl g7)), (a15, .inl (G.2.1, 20, .inl g15)), (a16, .inl (G.2.1, 4, .inl g16)), (a17, .inl (G.2.1, 4, .inl g17)), (a21, .inl (G.2.1, 20, .inl g21)), (a22, .inl (G.2.1, 40, .inl g22)), (a24, .inl (G.2.1, 8, .inl g24)), (a25, .inl (G.2.1, 8, .inl g25)), (a26, .inl (G.2.2.1, 8, .inl g26)), (a27, .inl (G.2.1, 4, .inl g27)), (a28, .inl (G.2.1, 4, .inl g28)), (a29, .inl (G.2.1, 240, .inl g29)), (a30, .inl (G.2.1, 60, .inl g30))]) (wr := []) (rest := [.int x4_3]) fx hh hl.1 (h_X7_cells m0 a4 a6 a7 a15 a16 a17 a21 a22 a24 a25 a26 a27 a28 a29 a30 f0 f1 f2 f3 f5 f8 f9 f10 f11 f12 f13 f14 f18 f19 f20 f23 f31 g4 g6 g7 g15 g16 g17 g21 g22 g24 g25 g26 g27 g28 g29 g30) yV_X7_cells tMX7_72 ⟨rfl, rfl, Nat.le_of_ble_eq_true rfl, Nat.le_of_ble_eq_true rfl⟩ 0 7 rfl rfl rfl [0, 1, 2, 3, 4, 5, 6, 7, 8, 9, 10, 11, 12, 13, 14, 15] [] [0, 1, 2, 3, 4, 5, 6, 7, 8, 9, 10, 11, 12, 13, 14, 15] rfl rfl rfl (by decide) (by decide) rfl rfl (Nat.le_of_ble_eq_true rfl) ⟨Nat.le_of_ble_eq_true rfl, Nat.le_of_ble_eq_true rfl⟩ (dOk_at dX7_bearingOf 6 rfl) (fun H locs hh => ?_)
      refine lv_icmp_ge (pc := 9) (tgt := 37) hx hb (dOk_at dX7_bearingOf 7 rfl) (by decide) (fun c9 => ?_) (fun c9 => ?_)
      · have hv := hv.1 c9
        refine lv_iload_n (pc := 37) hx hb (dOk_at dX7_bearingOf 23 rfl) rfl (lv_at hl 2 rfl) ?_
        have e0 := hv
        subst e0
        rw [hQ]
        exact r_iret (pc := 38) fx hh (dOk_at dX7_bearingOf 24 rfl)
      · have hv := hv.2 c9
        refine lv_iload_n (pc := 12) hx hb (dOk_at dX7_bearingOf 8 rfl) rfl (lv_at hl 2 rfl) ?_
        refine lv_aload_n (pc := 13) hx hb (dOk_at dX7_bearingOf 9 rfl) rfl (lv_at hl 0 rfl) ?_
        refine lv_iload_n (pc := 14) hx hb (dOk_at dX7_bearingOf 10 rfl) rfl (lv_at hl 3 rfl) ?_
        refine lv_iload_n (pc := 15) hx hb (dOk_at dX7_bearingOf 11 rfl) rfl (lv_at hl 1 rfl) ?_
        refine cl_V (pc := 16) (w' := [(m0, .inr (7, [.int f0, .int f1, .int f2, .int f3, .ref a4, .int f5, .ref a6, .ref a7, .int f8, .int f9, .int f10, .int f11, .int f12, .int f13, .int f14, .ref a15, .ref a16, .ref a17, .int f18, .int f19, .int f20, .ref a21, .ref a22, .int f23, .ref a24, .ref a25, .ref a26, .ref a27, .ref a28, .ref a29, .ref a30, .int f31])), (a4, .inl (G.2.1, 20, .inl g4)), (a6, .inl (G.2.1, 4, .inl g6)), (a7, .inl (G.2.1, 4, .inl g7)), (a15, .inl (G.2.1, 20, .inl g15)), (a16, .inl (G.2.1, 4, .inl g16)), (a17, .inl (G.2.1, 4, .inl g17)), (a21, .inl (G.2.1, 20, .inl g21)), (a22, .inl (G.2.1, 40, .inl g22)), (a24, .inl (G.2.1, 8, .inl g24)), (a25, .inl (G.2.1, 8, .inl g25)), (a26, .inl (G.2.2.1, 8, .inl g26)), (a27, .inl (G.2.1, 4, .inl g27)), (a28, .inl (G.2.1, 4, .inl g28)), (a29, .inl (G.2.1, 240, .inl g29)), (a30, .inl (G.2.1, 60, .inl g30))]) (wr := []) (rest := [.int x4_2]) fx hh hl.1 (h_X7_bears m0 a4 a6 a7 a15 a16 a17 a21 a22 a24 a25 a26 a27 a28 a29 a30 f0 f1 f2 f3 f5 f8 f9 f10 f11 f12 f13 f14 f18 f19 f20 f23 f31 g4 g6 g7 g15 g16 g17 g21 g22 g24 g25 g26 g27 g28 g29 g30 x4_3 a hv.1 hv.2.1) yV_X7_bears tMX7_159 ⟨rfl, rfl, Nat.le_of_ble_eq_true rfl, Nat.le_of_ble_eq_true rfl⟩ 0 7 rfl rfl rfl [0, 1, 2, 3, 4, 5, 6, 7, 8, 9, 10, 11, 12, 13, 14, 15] [] [0, 1, 2, 3, 4, 5, 6, 7, 8, 9, 10, 11, 12, 13, 14, 15] rfl rfl rfl (by decide) (by decide) rfl rfl (Nat.le_of_ble_eq_true rfl) ⟨Nat.le_of_ble_eq_true rfl, Nat.le_of_ble_eq_true rfl⟩ (dOk_at dX7_bearingOf 12 rfl) (fun H locs hh => ?_)
        have hv := hv.2.2
        have k29_19 : ∀ (v29 : Int32), v29 = (if (q_bears f8 f9 g4 g6 g7 x4_3 a) = 0 then (0 : Int32) else (1 : Int32) <<< (x4_3 &&& 31)) → ∀ (H : Heap) (locs : List Loc) (ls : Array Slot), HP G A [(m0, .inr (7, [.int f0, .int f1, .int f2, .int f3, .ref a4, .int f5, .ref a6, .ref a7, .int f8, .int f9, .int f10, .int f11, .int f12, .int f13, .int f14, .ref a15, .ref a16, .ref a17, .int f18, .int f19, .int f20, .ref a21, .ref a22, .int f23, .ref a24, .ref a25, .ref a26, .ref a27, .ref a28, .ref a29, .ref a30, .int f31])), (a4, .inl (G.2.1, 20, .inl g4)), (a6, .inl (G.2.1, 4, .inl g6)), (a7, .inl (G.2.1, 4, .inl g7)), (a15, .inl (G.2.1, 20, .inl g15)), (a16, .inl (G.2.1, 4, .inl g16)), (a17, .inl (G.2.1, 4, .inl g17)), (a21, .inl (G.2.1, 20, .inl g21)), (a22, .inl (G.2.1, 40, .inl g22)), (a24, .inl (G.2.1, 8, .inl g24)), (a25, .inl (G.2.1, 8, .inl g25)), (a26, .inl (G.2.2.1, 8, .inl g26)), (a27, .inl (G.2.1, 4, .inl g27)), (a28, .inl (G.2.1, 4, .inl g28)), (a29, .inl (G.2.1, 240, .inl g29)), (a30, .inl (G.2.1, 60, .inl g30))] s H locs → lv_has ls 4 [(0, .ref m0), (1, .int a), (3, .int x4_3)] → W p l e rm_X7_bearingOf s m args below meth c H locs 0 0 Q (F0 m 29 ls [.int v29, .int x4_2]) := by
          intro v29 e29_0 H locs ls hh hl
          have hv := hv v29 e29_0
          refine lv_ior (pc := 29) hx hb (dOk_at dX7_bearingOf 19 rfl) ?_
          refine lv_istore_n (pc := 30) (lv' := [(2, .int (x4_2 ||| v29)), (0, .ref m0), (1, .int a), (3, .int x4_3)]) hx hb (dOk_at dX7_bearingOf 20 rfl) rfl hl (by decide) rfl (fun ls hl => ?_)
          refine lv_iinc (pc := 31) (v := x4_3 + 1) (lv' := [(3, .int (x4_3 + 1)), (2, .int (x4_2 ||| v29)), (0, .ref m0), (1, .int a)]) hx hb (dOk_at dX7_bearingOf 21 rfl) hl (k := 3) rfl rfl (by decide) rfl (fun ls hl => ?_)
          refine lv_goto (pc := 34) (tgt := 4) hx hb (dOk_at dX7_bearingOf 22 rfl) (by decide) ?_
          obtain ⟨k0, hk0, hj0⟩ := hv
          exact ih4 k0 hk0 (x4_2 ||| v29) (x4_3 + 1) hj0 _ _ _ hh (lv_sub hl [2, 3, 1, 0] rfl)
        refine lv_if_eq (pc := 19) (tgt := 28) hx hb (dOk_at dX7_bearingOf 13 rfl) (by decide) (fun c19 => ?_) (fun c19 => ?_)
        · refine lv_iconst (pc := 28) (v := 0) hx hb (dOk_at dX7_bearingOf 18 rfl) (by decide) ?_
          exact k29_19 _ (if_pos c19).symm _ _ _ hh (lv_sub hl [0, 1, 3] rfl)
        · refine lv_iconst (pc := 22) (v := 1) hx hb (dOk_at dX7_bearingOf 14 rfl) (by decide) ?_
          refine lv_iload_n (pc := 23) hx hb (dOk_at dX7_bearingOf 15 rfl) rfl (lv_at hl 3 rfl) ?_
          refine lv_ishl (pc := 24) hx hb (dOk_at dX7_bearingOf 16 rfl) ?_
          refine lv_goto (pc := 25) (tgt := 29) hx hb (dOk_at dX7_bearingOf 17 rfl) (by decide) ?_
          exact k29_19 _ (if_neg c19).symm _ _ _ hh (lv_sub hl [0, 1, 3] rfl)
  refine lv_iconst (pc := 0) (v := 0) hx hb (dOk_at dX7_bearingOf 0 rfl) (by decide) ?_
  refine lv_istore_n (pc := 1) (lv' := [(2, .int 0), (0, .ref m0), (1, .int a)]) hx hb (dOk_at dX7_bearingOf 1 rfl) rfl hl (by decide) rfl (fun ls hl => ?_)
  refine lv_iconst (pc := 2) (v := 0) hx hb (dOk_at dX7_bearingOf 2 rfl) (by decide) ?_
  refine lv_istore_n (pc := 3) (lv' := [(3, .int 0), (2, .int 0), (0, .ref m0), (1, .int a)]) hx hb (dOk_at dX7_bearingOf 3 rfl) rfl hl (by decide) rfl (fun ls hl => ?_)
  obtain ⟨k0, hj0⟩ := hv
  exact lp4 k0 0 0 hj0 _ _ _ hh (lv_sub hl [2, 3, 1, 0] rfl)
set_option maxRecDepth 100000 in
set_option maxHeartbeats 4000000 in
theorem wk_X7_beside (l : Launch) (G : GT) (m0 : Nat) (a4 : Nat) (a6 : Nat) (a7 : Nat) (a15 : Nat) (a16 : Nat) (a17 : Nat) (a21 : Nat) (a22 : Nat) (a24 : Nat) (a25 : Nat) (a26 : Nat) (a27 : Nat) (a28 : Nat) (a29 : Nat) (a30 : Nat) (f0 : Int32) (f1 : Int32) (f2 : Int32) (f3 : Int32) (f5 : Int32) (f8 : Int32) (f9 : Int32) (f10 : Int32) (f11 : Int32) (f12 : Int32) (f13 : Int32) (f14 : Int32) (f18 : Int32) (f19 : Int32) (f20 : Int32) (f23 : Int32) (f31 : Int32) (g4 : Nat → Int32) (g6 : Nat → Int32) (g7 : Nat → Int32) (g15 : Nat → Int32) (g16 : Nat → Int32) (g17 : Nat → Int32) (g21 : Nat → Int32) (g22 : Nat → Int32) (g24 : Nat → Int32) (g25 : Nat → Int32) (g26 : Nat → Int32) (g27 : Nat → Int32) (g28 : Nat → Int32) (g29 : Nat → Int32) (g30 : Nat → Int32) (ce : Int32) (st : Int32) (R : Int32) (h_X7_in : K_X7_in l G)
    (hv : ¬ f2 = 0 ∧ ((∀ (v24 : Int32), v24 = (if st = 0 then (-1 : Int32) else (if st = 2 then (1 : Int32) else (0 : Int32))) → ¬ f2 = 0 ∧ ((∀ (v51 : Int32), v51 = (if st = 3 then (-1 : Int32) else (if st = 1 then (1 : Int32) else (0 : Int32))) → ((q_in (((ce / f2) + v24).toInt64) 0 (f1.toInt64 - 1)) = 0 → (-9 : Int32) = R) ∧ (¬ (q_in (((ce / f2) + v24).toInt64) 0 (f1.toInt64 - 1)) = 0 → ((q_in (((ce - ce / f2 * f2) + v51).toInt64) 0 (f2.toInt64 - 1)) = 0 → (-9 : Int32) = R) ∧ (¬ (q_in (((ce - ce / f2 * f2) + v51).toInt64) 0 (f2.toInt64 - 1)) = 0 → ((((ce / f2) + v24) * f2) + ((ce - ce / f2 * f2) + v51)) = R))))))) :
    MF l G yX7_beside cX7_beside 5 (some .int) rm_X7_beside [.ref m0, .int ce, .int st] [(m0, .inr (7, [.int f0, .int f1, .int f2, .int f3, .ref a4, .int f5, .ref a6, .ref a7, .int f8, .int f9, .int f10, .int f11, .int f12, .int f13, .int f14, .ref a15, .ref a16, .ref a17, .int f18, .int f19, .int f20, .ref a21, .ref a22, .int f23, .ref a24, .ref a25, .ref a26, .ref a27, .ref a28, .ref a29, .ref a30, .int f31])), (a4, .inl (G.2.1, 20, .inl g4)), (a6, .inl (G.2.1, 4, .inl g6)), (a7, .inl (G.2.1, 4, .inl g7)), (a15, .inl (G.2.1, 20, .inl g15)), (a16, .inl (G.2.1, 4, .inl g16)), (a17, .inl (G.2.1, 4, .inl g17)), (a21, .inl (G.2.1, 20, .inl g21)), (a22, .inl (G.2.1, 40, .inl g22)), (a24, .inl (G.2.1, 8, .inl g24)), (a25, .inl (G.2.1, 8, .inl g25)), (a26, .inl (G.2.2.1, 8, .inl g26)), (a27, .inl (G.2.1, 4, .inl g27)), (a28, .inl (G.2.1, 4, .inl g28)), (a29, .inl (G.2.1, 240, .inl g29)), (a30, .inl (G.2.1, 60, .inl g30))] (some (.int R)) [(m0, .inr (7, [.int f0, .int f1, .int f2, .int f3, .ref a4, .int f5, .ref a6, .ref a7, .int f8, .int f9, .int f10, .int f11, .int f12, .int f13, .int f14, .ref a15, .ref a16, .ref a17, .int f18, .int f19, .int f20, .ref a21, .ref a22, .int f23, .ref a24, .ref a25, .ref a26, .ref a27, .ref a28, .ref a29, .ref a30, .int f31])), (a4, .inl (G.2.1, 20, .inl g4)), (a6, .inl (G.2.1, 4, .inl g6)), (a7, .inl (G.2.1, 4, .inl g7)), (a15, .inl (G.2.1, 20, .inl g15)), (a16, .inl (G.2.1, 4, .inl g16)), (a17, .inl (G.2.1, 4, .inl g17)), (a21, .inl (G.2.1, 20, .inl g21)), (a22, .inl (G.2.1, 40, .inl g22)), (a24, .inl (G.2.1, 8, .inl g24)), (a25, .inl (G.2.1, 8, .inl g25)), (a26, .inl (G.2.2.1, 8, .inl g26)), (a27, .inl (G.2.1, 4, .inl g27)), (a28, .inl (G.2.1, 4, .inl g28)), (a29, .inl (G.2.1, 240, .inl g29)), (a30, .inl (G.2.1, 60, .inl g30))] := by
  refine MF.of (by decide +kernel) (Nat.le_of_ble_eq_true rfl) ?_
  intro p e s m args below meth c A ls fx hh hl _
  have hx := fx.hx
  have hb := fx.hb
  have hl : lv_has ls 5 [(0, .ref m0), (1, .int ce), (2, .int st)] := hl
  obtain ⟨Q, hQ⟩ : ∃ Q, Q = ZZ G A (some (.int R)) [(m0, .inr (7, [.int f0, .int f1, .int f2, .int f3, .ref a4, .int f5, .ref a6, .ref a7, .int f8, .int f9, .int f10, .int f11, .int f12, .int f13, .int f14, .ref a15, .ref a16, .ref a17, .int f18, .int f19, .int f20, .ref a21, .ref a22, .int f23, .ref a24, .ref a25, .ref a26, .ref a27, .ref a28, .ref a29, .ref a30, .int f31])), (a4, .inl (G.2.1, 20, .inl g4)), (a6, .inl (G.2.1, 4, .inl g6)), (a7, .inl (G.2.1, 4, .inl g7)), (a15, .inl (G.2.1, 20, .inl g15)), (a16, .inl (G.2.1, 4, .inl g16)), (a17, .inl (G.2.1, 4, .inl g17)), (a21, .inl (G.2.1, 20, .inl g21)), (a22, .inl (G.2.1, 40, .inl g22)), (a24, .inl (G.2.1, 8, .inl g24)), (a25, .inl (G.2.1, 8, .inl g25)), (a26, .inl (G.2.2.1, 8, .inl g26)), (a27, .inl (G.2.1, 4, .inl g27)), (a28, .inl (G.2.1, 4, .inl g28)), (a29, .inl (G.2.1, 240, .inl g29)), (a30, .inl (G.2.1, 60, .inl g30))] below args s := ⟨_, rfl⟩
  rw [← hQ]
  refine lv_iload_n (pc := 0) hx hb (dOk_at dX7_beside 0 rfl) rfl (lv_at hl 1 rfl) ?_
  refine lv_aload_n (pc := 1) hx hb (dOk_at dX7_beside 1 rfl) rfl (lv_at hl 0 rfl) ?_
  refine r_get (pc := 2) (ci := 7) fx hh inT7 rfl 2 (by decide) tFX7_69 rfl 0 rfl rfl (dOk_at dX7_beside 2 rfl) ?_
  refine lv_idiv (pc := 5) hx hb (dOk_at dX7_beside 3 rfl) hv.1 ?_
  have hv := hv.2
  refine lv_iload_n (pc := 6) hx hb (dOk_at dX7_beside 4 rfl) rfl (lv_at hl 2 rfl) ?_
  have k24_7 : ∀ (v24 : Int32), v24 = (if st = 0 then (-1 : Int32) else (if st = 2 then (1 : Int32) else (0 : Int32))) → ∀ (H : Heap) (locs : List Loc) (ls : Array Slot), HP G A [(m0, .inr (7, [.int f0, .int f1, .int f2, .int f3, .ref a4, .int f5, .ref a6, .ref a7, .int f8, .int f9, .int f10, .int f11, .int f12, .int f13, .int f14, .ref a15, .ref a16, .ref a17, .int f18, .int f19, .int f20, .ref a21, .ref a22, .int f23, .ref a24, .ref a25, .ref a26, .ref a27, .ref a28, .ref a29, .ref a30, .int f31])), (a4, .inl (G.2.1, 20, .inl g4)), (a6, .inl (G.2.1, 4, .inl g6)), (a7, .inl (G.2.1, 4, .inl g7)), (a15, .inl (G.2.1, 20, .inl g15)), (a16, .inl (G.2.1, 4, .inl g16)), (a17, .inl (G.2.1, 4, .inl g17)), (a21, .inl (G.2.1, 20, .inl g21)), (a22, .inl (G.2.1, 40, .inl g22)), (a24, .inl (G.2.1, 8, .inl g24)), (a25, .inl (G.2.1, 8, .inl g25)), (a26, .inl (G.2.2.1, 8, .inl g26)), (a27, .inl (G.2.1, 4, .inl g27)), (a28, .inl (G.2.1, 4, .inl g28)), (a29, .inl (G.2.1, 240, .inl g29)), (a30, .inl (G.2.1, 60, .inl g30))] s H locs → lv_has ls 5 [(0, .ref m0), (1, .int ce), (2, .int st)] → W p l e rm_X7_beside s m args below meth c H locs 0 0 Q (F0 m 24 ls [.int v24, .int (ce / f2)]) := by
    intro v24 e24_0 H locs ls hh hl
    have hv := hv v24 e24_0
    refine lv_iadd (pc := 24) hx hb (dOk_at dX7_beside 14 rfl) ?_
    refine lv_istore_n (pc := 25) (lv' := [(3, .int ((ce / f2) + v24)), (0, .ref m0), (1, .int ce), (2, .int st)]) hx hb (dOk_at dX7_beside 15 rfl) rfl hl (by decide) rfl (fun ls hl => ?_)
    refine lv_iload_n (pc := 26) hx hb (dOk_at dX7_beside 16 rfl) rfl (lv_at hl 2 rfl) ?_
    refine lv_aload_n (pc := 27) hx hb (dOk_at dX7_beside 17 rfl) rfl (lv_at hl 1 rfl) ?_
    refine r_get (pc := 28) (ci := 7) fx hh inT7 rfl 2 (by decide) tFX7_69 rfl 0 rfl rfl (dOk_at dX7_beside 18 rfl) ?_
    refine lv_irem (pc := 31) hx hb (dOk_at dX7_beside 19 rfl) hv.1 ?_
    have hv := hv.2
    refine lv_iload_n (pc := 32) hx hb (dOk_at dX7_beside 20 rfl) rfl (lv_at hl 3 rfl) ?_
    refine lv_iconst (pc := 33) (v := 3) hx hb (dOk_at dX7_beside 21 rfl) (by decide) ?_
    have k51_34 : ∀ (v51 : Int32), v51 = (if st = 3 then (-1 : Int32) else (if st = 1 then (1 : Int32) else (0 : Int32))) → ∀ (H : Heap) (locs : List Loc) (ls : Array Slot), HP G A [(m0, .inr (7, [.int f0, .int f1, .int f2, .int f3, .ref a4, .int f5, .ref a6, .ref a7, .int f8, .int f9, .int f10, .int f11, .int f12, .int f13, .int f14, .ref a15, .ref a16, .ref a17, .int f18, .int f19, .int f20, .ref a21, .ref a22, .int f23, .ref a24, .ref a25, .ref a26, .ref a27, .ref a28, .ref a29, .ref a30, .int f31])), (a4, .inl (G.2.1, 20, .inl g4)), (a6, .inl (G.2.1, 4, .inl g6)), (a7, .inl (G.2.1, 4, .inl g7)), (a15, .inl (G.2.1, 20, .inl g15)), (a16, .inl (G.2.1, 4, .inl g16)), (a17, .inl (G.2.1, 4, .inl g17)), (a21, .inl (G.2.1, 20, .inl g21)), (a22, .inl (G.2.1, 40, .inl g22)), (a24, .inl (G.2.1, 8, .inl g24)), (a25, .inl (G.2.1, 8, .inl g25)), (a26, .inl (G.2.2.1, 8, .inl g26)), (a27, .inl (G.2.1, 4, .inl g27)), (a28, .inl (G.2.1, 4, .inl g28)), (a29, .inl (G.2.1, 240, .inl g29)), (a30, .inl (G.2.1, 60, .inl g30))] s H locs → lv_has ls 5 [(0, .ref m0), (3, .int ((ce / f2) + v24))] → W p l e rm_X7_beside s m args below meth c H locs 0 0 Q (F0 m 51 ls [.int v51, .int (ce - ce / f2 * f2)]) := by
      intro v51 e51_0 H locs ls hh hl
      have hv := hv v51 e51_0
      refine lv_iadd (pc := 51) hx hb (dOk_at dX7_beside 31 rfl) ?_
      refine lv_istore (pc := 52) (lv' := [(4, .int ((ce - ce / f2 * f2) + v51)), (0, .ref m0), (3, .int ((ce / f2) + v24))]) hx hb (dOk_at dX7_beside 32 rfl) hl (by decide) rfl (fun ls hl => ?_)
      refine lv_iload_n (pc := 54) hx hb (dOk_at dX7_beside 33 rfl) rfl (lv_at hl 2 rfl) ?_
      refine lv_i2l (pc := 55) (v := ((ce / f2) + v24).toInt64) hx hb (dOk_at dX7_beside 34 rfl) rfl ?_
      refine lv_lconst (pc := 56) (v := 0) hx hb (dOk_at dX7_beside 35 rfl) (by decide) ?_
      refine lv_aload_n (pc := 57) hx hb (dOk_at dX7_beside 36 rfl) rfl (lv_at hl 1 rfl) ?_
      refine r_get (pc := 58) (ci := 7) fx hh inT7 rfl 1 (by decide) tFX7_66 rfl 0 rfl rfl (dOk_at dX7_beside 37 rfl) ?_
      refine lv_i2l (pc := 61) (v := f1.toInt64) hx hb (dOk_at dX7_beside 38 rfl) rfl ?_
      refine lv_lconst (pc := 62) (v := 1) hx hb (dOk_at dX7_beside 39 rfl) (by decide) ?_
      refine lv_lsub (pc := 63) hx hb (dOk_at dX7_beside 40 rfl) ?_
      refine cl_S (pc := 64) (w' := [(m0, .inr (7, [.int f0, .int f1, .int f2, .int f3, .ref a4, .int f5, .ref a6, .ref a7, .int f8, .int f9, .int f10, .int f11, .int f12, .int f13, .int f14, .ref a15, .ref a16, .ref a17, .int f18, .int f19, .int f20, .ref a21, .ref a22, .int f23, .ref a24, .ref a25, .ref a26, .ref a27, .ref a28, .ref a29, .ref a30, .int f31])), (a4, .inl (G.2.1, 20, .inl g4)), (a6, .inl (G.2.1, 4, .inl g6)), (a7, .inl (G.2.1, 4, .inl g7)), (a15, .inl (G.2.1, 20, .inl g15)), (a16, .inl (G.2.1, 4, .inl g16)), (a17, .inl (G.2.1, 4, .inl g17)), (a21, .inl (G.2.1, 20, .inl g21)), (a22, .inl (G.2.1, 40, .inl g22)), (a24, .inl (G.2.1, 8, .inl g24)), (a25, .inl (G.2.1, 8, .inl g25)), (a26, .inl (G.2.2.1, 8, .inl g26)), (a27, .inl (G.2.1, 4, .inl g27)), (a28, .inl (G.2.1, 4, .inl g28)), (a29, .inl (G.2.1, 240, .inl g29)), (a30, .inl (G.2.1, 60, .inl g30))]) (wr := [(m0, .inr (7, [.int f0, .int f1, .int f2, .int f3, .ref a4, .int f5, .ref a6, .ref a7, .int f8, .int f9, .int f10, .int f11, .int f12, .int f13, .int f14, .ref a15, .ref a16, .ref a17, .int f18, .int f19, .int f20, .ref a21, .ref a22, .int f23, .ref a24, .ref a25, .ref a26, .ref a27, .ref a28, .ref a29, .ref a30, .int f31])), (a4, .inl (G.2.1, 20, .inl g4)), (a6, .inl (G.2.1, 4, .inl g6)), (a7, .inl (G.2.1, 4, .inl g7)), (a15, .inl (G.2.1, 20, .inl g15)), (a16, .inl (G.2.1, 4, .inl g16)), (a17, .inl (G.2.1, 4, .inl g17)), (a21, .inl (G.2.1, 20, .inl g21)), (a22, .inl (G.2.1, 40, .inl g22)), (a24, .inl (G.2.1, 8, .inl g24)), (a25, .inl (G.2.1, 8, .inl g25)), (a26, .inl (G.2.2.1, 8, .inl g26)), (a27, .inl (G.2.1, 4, .inl g27)), (a28, .inl (G.2.1, 4, .inl g28)), (a29, .inl (G.2.1, 240, .inl g29)), (a30, .inl (G.2.1, 60, .inl g30))]) (rest := []) fx hh hl.1 (h_X7_in (((ce / f2) + v24).toInt64) 0 (f1.toInt64 - 1)) yS_X7_in tMX7_76 ⟨rfl, rfl, Nat.le_of_ble_eq_true rfl, Nat.le_of_ble_eq_true rfl⟩ [] [0, 1, 2, 3, 4, 5, 6, 7, 8, 9, 10, 11, 12, 13, 14, 15] [0, 1, 2, 3, 4, 5, 6, 7, 8, 9, 10, 11, 12, 13, 14, 15] rfl rfl rfl (by decide) (by decide) rfl rfl (Nat.le_of_ble_eq_true rfl) ⟨Nat.le_of_ble_eq_true rfl, Nat.le_of_ble_eq_true rfl⟩ (dOk_at dX7_beside 41 rfl) (fun H locs hh => ?_)
      refine lv_if_eq (pc := 67) (tgt := 99) hx hb (dOk_at dX7_beside 42 rfl) (by decide) (fun c67 => ?_) (fun c67 => ?_)
      · have hv := hv.1 c67
        refine lv_bipush (pc := 99) (v := (-9)) hx hb (dOk_at dX7_beside 60 rfl) (by decide) ?_
        have e0 := hv
        subst e0
        rw [hQ]
        exact r_iret (pc := 101) fx hh (dOk_at dX7_beside 61 rfl)
      · have hv := hv.2 c67
        refine lv_iload (pc := 70) hx hb (dOk_at dX7_beside 43 rfl) (lv_at hl 0 rfl) ?_
        refine lv_i2l (pc := 72) (v := ((ce - ce / f2 * f2) + v51).toInt64) hx hb (dOk_at dX7_beside 44 rfl) rfl ?_
        refine lv_lconst (pc := 73) (v := 0) hx hb (dOk_at dX7_beside 45 rfl) (by decide) ?_
        refine lv_aload_n (pc := 74) hx hb (dOk_at dX7_beside 46 rfl) rfl (lv_at hl 1 rfl) ?_
        refine r_get (pc := 75) (ci := 7) fx hh inT7 rfl 2 (by decide) tFX7_69 rfl 0 rfl rfl (dOk_at dX7_beside 47 rfl) ?_
        refine lv_i2l (pc := 78) (v := f2.toInt64) hx hb (dOk_at dX7_beside 48 rfl) rfl ?_
        refine lv_lconst (pc := 79) (v := 1) hx hb (dOk_at dX7_beside 49 rfl) (by decide) ?_
        refine lv_lsub (pc := 80) hx hb (dOk_at dX7_beside 50 rfl) ?_
        refine cl_S (pc := 81) (w' := [(m0, .inr (7, [.int f0, .int f1, .int f2, .int f3, .ref a4, .int f5, .ref a6, .ref a7, .int f8, .int f9, .int f10, .int f11, .int f12, .int f13, .int f14, .ref a15, .ref a16, .ref a17, .int f18, .int f19, .int f20, .ref a21, .ref a22, .int f23, .ref a24, .ref a25, .ref a26, .ref a27, .ref a28, .ref a29, .ref a30, .int f31])), (a4, .inl (G.2.1, 20, .inl g4)), (a6, .inl (G.2.1, 4, .inl g6)), (a7, .inl (G.2.1, 4, .inl g7)), (a15, .inl (G.2.1, 20, .inl g15)), (a16, .inl (G.2.1, 4, .inl g16)), (a17, .inl (G.2.1, 4, .inl g17)), (a21, .inl (G.2.1, 20, .inl g21)), (a22, .inl (G.2.1, 40, .inl g22)), (a24, .inl (G.2.1, 8, .inl g24)), (a25, .inl (G.2.1, 8, .inl g25)), (a26, .inl (G.2.2.1, 8, .inl g26)), (a27, .inl (G.2.1, 4, .inl g27)), (a28, .inl (G.2.1, 4, .inl g28)), (a29, .inl (G.2.1, 240, .inl g29)), (a30, .inl (G.2.1, 60, .inl g30))]) (wr := [(m0, .inr (7, [.int f0, .int f1, .int f2, .int f3, .ref a4, .int f5, .ref a6, .ref a7, .int f8, .int f9, .int f10, .int f11, .int f12, .int f13, .int f14, .ref a15, .ref a16, .ref a17, .int f18, .int f19, .int f20, .ref a21, .ref a22, .int f23, .ref a24, .ref a25, .ref a26, .ref a27, .ref a28, .ref a29, .ref a30, .int f31])), (a4, .inl (G.2.1, 20, .inl g4)), (a6, .inl (G.2.1, 4, .inl g6)), (a7, .inl (G.2.1, 4, .inl g7)), (a15, .inl (G.2.1, 20, .inl g15)), (a16, .inl (G.2.1, 4, .inl g16)), (a17, .inl (G.2.1, 4, .inl g17)), (a21, .inl (G.2.1, 20, .inl g21)), (a22, .inl (G.2.1, 40, .inl g22)), (a24, .inl (G.2.1, 8, .inl g24)), (a25, .inl (G.2.1, 8, .inl g25)), (a26, .inl (G.2.2.1, 8, .inl g26)), (a27, .inl (G.2.1, 4, .inl g27)), (a28, .inl (G.2.1, 4, .inl g28)), (a29, .inl (G.2.1, 240, .inl g29)), (a30, .inl (G.2.1, 60, .inl g30))]) (rest := []) fx hh hl.1 (h_X7_in (((ce - ce / f2 * f2) + v51).toInt64) 0 (f2.toInt64 - 1)) yS_X7_in tMX7_76 ⟨rfl, rfl, Nat.le_of_ble_eq_true rfl, Nat.le_of_ble_eq_true rfl⟩ [] [0, 1, 2, 3, 4, 5, 6, 7, 8, 9, 10, 11, 12, 13, 14, 15] [0, 1, 2, 3, 4, 5, 6, 7, 8, 9, 10, 11, 12, 13, 14, 15] rfl rfl rfl (by decide) (by decide) rfl rfl (Nat.le_of_ble_eq_true rfl) ⟨Nat.le_of_ble_eq_true rfl, Nat.le_of_ble_eq_true rfl⟩ (dOk_at dX7_beside 51 rfl) (fun H locs hh => ?_)
        refine lv_if_eq (pc := 84) (tgt := 99) hx hb (dOk_at dX7_beside 52 rfl) (by decide) (fun c84 => ?_) (fun c84 => ?_)
        · have hv := hv.1 c84
          refine lv_bipush (pc := 99) (v := (-9)) hx hb (dOk_at dX7_beside 60 rfl) (by decide) ?_
          have e0 := hv
          subst e0
          rw [hQ]
          exact r_iret (pc := 101) fx hh (dOk_at dX7_beside 61 rfl)
        · have hv := hv.2 c84
          refine lv_iload_n (pc := 87) hx hb (dOk_at dX7_beside 53 rfl) rfl (lv_at hl 2 rfl) ?_
          refine lv_aload_n (pc := 88) hx hb (dOk_at dX7_beside 54 rfl) rfl (lv_at hl 1 rfl) ?_
          refine r_get (pc := 89) (ci := 7) fx hh inT7 rfl 2 (by decide) tFX7_69 rfl 0 rfl rfl (dOk_at dX7_beside 55 rfl) ?_
          refine lv_imul (pc := 92) hx hb (dOk_at dX7_beside 56 rfl) ?_
          refine lv_iload (pc := 93) hx hb (dOk_at dX7_beside 57 rfl) (lv_at hl 0 rfl) ?_
          refine lv_iadd (pc := 95) hx hb (dOk_at dX7_beside 58 rfl) ?_
          refine lv_goto (pc := 96) (tgt := 101) hx hb (dOk_at dX7_beside 59 rfl) (by decide) ?_
          have e0 := hv
          subst e0
          rw [hQ]
          exact r_iret (pc := 101) fx hh (dOk_at dX7_beside 61 rfl)
    refine lv_icmp_ne (pc := 34) (tgt := 41) hx hb (dOk_at dX7_beside 22 rfl) (by decide) (fun c34 => ?_) (fun c34 => ?_)
    · refine lv_iload_n (pc := 41) hx hb (dOk_at dX7_beside 25 rfl) rfl (lv_at hl 3 rfl) ?_
      refine lv_iconst (pc := 42) (v := 1) hx hb (dOk_at dX7_beside 26 rfl) (by decide) ?_
      refine lv_icmp_ne (pc := 43) (tgt := 50) hx hb (dOk_at dX7_beside 27 rfl) (by decide) (fun c43 => ?_) (fun c43 => ?_)
      · refine lv_iconst (pc := 50) (v := 0) hx hb (dOk_at dX7_beside 30 rfl) (by decide) ?_
        exact k51_34 _ ((if_neg c34).trans (if_neg c43)).symm _ _ _ hh (lv_sub hl [1, 0] rfl)
      · refine lv_iconst (pc := 46) (v := 1) hx hb (dOk_at dX7_beside 28 rfl) (by decide) ?_
        refine lv_goto (pc := 47) (tgt := 51) hx hb (dOk_at dX7_beside 29 rfl) (by decide) ?_
        exact k51_34 _ ((if_neg c34).trans (if_pos c43)).symm _ _ _ hh (lv_sub hl [1, 0] rfl)
    · refine lv_iconst (pc := 37) (v := (-1)) hx hb (dOk_at dX7_beside 23 rfl) (by decide) ?_
      refine lv_goto (pc := 38) (tgt := 51) hx hb (dOk_at dX7_beside 24 rfl) (by decide) ?_
      exact k51_34 _ (if_pos c34).symm _ _ _ hh (lv_sub hl [1, 0] rfl)
  refine lv_if_ne (pc := 7) (tgt := 14) hx hb (dOk_at dX7_beside 5 rfl) (by decide) (fun c7 => ?_) (fun c7 => ?_)
  · refine lv_iload_n (pc := 14) hx hb (dOk_at dX7_beside 8 rfl) rfl (lv_at hl 2 rfl) ?_
    refine lv_iconst (pc := 15) (v := 2) hx hb (dOk_at dX7_beside 9 rfl) (by decide) ?_
    refine lv_icmp_ne (pc := 16) (tgt := 23) hx hb (dOk_at dX7_beside 10 rfl) (by decide) (fun c16 => ?_) (fun c16 => ?_)
    · refine lv_iconst (pc := 23) (v := 0) hx hb (dOk_at dX7_beside 13 rfl) (by decide) ?_
      exact k24_7 _ ((if_neg c7).trans (if_neg c16)).symm _ _ _ hh (lv_sub hl [0, 1, 2] rfl)
    · refine lv_iconst (pc := 19) (v := 1) hx hb (dOk_at dX7_beside 11 rfl) (by decide) ?_
      refine lv_goto (pc := 20) (tgt := 24) hx hb (dOk_at dX7_beside 12 rfl) (by decide) ?_
      exact k24_7 _ ((if_neg c7).trans (if_pos c16)).symm _ _ _ hh (lv_sub hl [0, 1, 2] rfl)
  · refine lv_iconst (pc := 10) (v := (-1)) hx hb (dOk_at dX7_beside 6 rfl) (by decide) ?_
    refine lv_goto (pc := 11) (tgt := 24) hx hb (dOk_at dX7_beside 7 rfl) (by decide) ?_
    exact k24_7 _ (if_pos c7).symm _ _ _ hh (lv_sub hl [0, 1, 2] rfl)
set_option maxRecDepth 100000 in
set_option maxHeartbeats 4000000 in
theorem wk_X7_goDeed (l : Launch) (G : GT) (m0 : Nat) (a4 : Nat) (a6 : Nat) (a7 : Nat) (a15 : Nat) (a16 : Nat) (a17 : Nat) (a21 : Nat) (a22 : Nat) (a24 : Nat) (a25 : Nat) (a26 : Nat) (a27 : Nat) (a28 : Nat) (a29 : Nat) (a30 : Nat) (f0 : Int32) (f1 : Int32) (f2 : Int32) (f3 : Int32) (f5 : Int32) (f8 : Int32) (f9 : Int32) (f10 : Int32) (f11 : Int32) (f12 : Int32) (f13 : Int32) (f14 : Int32) (f18 : Int32) (f19 : Int32) (f20 : Int32) (f23 : Int32) (f31 : Int32) (g4 : Nat → Int32) (g6 : Nat → Int32) (g7 : Nat → Int32) (g15 : Nat → Int32) (g16 : Nat → Int32) (g17 : Nat → Int32) (g21 : Nat → Int32) (g22 : Nat → Int32) (g24 : Nat → Int32) (g25 : Nat → Int32) (g26 : Nat → Int32) (g27 : Nat → Int32) (g28 : Nat → Int32) (g29 : Nat → Int32) (g30 : Nat → Int32) (a : Int32) (b : Int32) (ce : Int32) (fro : Int32) (n : Int32) (t0_18 : Int32) (t0_19 : Int32) (t0_20 : Int32) (t1 : Nat → Int32) (J19 : Nat → Int32 → Int32 → Int32 → Int32 → (Nat → Int32) → Prop) (h_X7_bears : K_X7_bears l G) (h_X7_beside : K_X7_beside l G)
    (hv : ∃ k2 : Nat, J19 k2 0 (-9) ce 0 g4)
    (hv19 : ∀ (n19 : Nat) (x19_6 : Int32) (y19_0_18 : Int32) (y19_0_19 : Int32) (y19_0_20 : Int32) (y19_1 : Nat → Int32), J19 n19 x19_6 y19_0_18 y19_0_19 y19_0_20 y19_1 → (n ≤ x19_6 → y19_0_18 = t0_18 ∧ y19_0_19 = t0_19 ∧ y19_0_20 = t0_20 ∧ y19_1 = t1) ∧ (¬ n ≤ x19_6 → (0 ≤ y19_0_18 → y19_0_18 = t0_18 ∧ y19_0_19 = t0_19 ∧ y19_0_20 = t0_20 ∧ y19_1 = t1) ∧ (¬ 0 ≤ y19_0_18 → vp_in (fro + x19_6) 240 ∧ (¬ f2 = 0 ∧ ((((q_beside f1 f2 y19_0_19 (g29 (fro + x19_6).toNatClampNeg)) < 0 → True) ∧ (¬ (q_beside f1 f2 y19_0_19 (g29 (fro + x19_6).toNatClampNeg)) < 0 → (vp_in (q_beside f1 f2 y19_0_19 (g29 (fro + x19_6).toNatClampNeg)) 20 ∧ vp_in (if (x19_6 - x19_6 / 2 * 2) = 0 then a else b) 4 ∧ ((¬ (q_bears f8 f9 y19_1 g6 g7 (q_beside f1 f2 y19_0_19 (g29 (fro + x19_6).toNatClampNeg)) (if (x19_6 - x19_6 / 2 * 2) = 0 then a else b)) = 0 → vp_in (q_beside f1 f2 y19_0_19 (g29 (fro + x19_6).toNatClampNeg)) 20 ∧ vp_in (q_beside f1 f2 y19_0_19 (g29 (fro + x19_6).toNatClampNeg)) 20) ∧ ((q_bears f8 f9 y19_1 g6 g7 (q_beside f1 f2 y19_0_19 (g29 (fro + x19_6).toNatClampNeg)) (if (x19_6 - x19_6 / 2 * 2) = 0 then a else b)) = 0 → True))))) ∧ (∀ (v118_w0_18 : Int32) (v118_w0_19 : Int32) (v118_w0_20 : Int32) (v118_w1 : Nat → Int32), v118_w0_18 = (if (q_beside f1 f2 y19_0_19 (g29 (fro + x19_6).toNatClampNeg)) < 0 then x19_6 else (if (q_bears f8 f9 y19_1 g6 g7 (q_beside f1 f2 y19_0_19 (g29 (fro + x19_6).toNatClampNeg)) (if (x19_6 - x19_6 / 2 * 2) = 0 then a else b)) = 0 then x19_6 else y19_0_18)) → v118_w0_19 = (if (q_beside f1 f2 y19_0_19 (g29 (fro + x19_6).toNatClampNeg)) < 0 then y19_0_19 else (if (q_bears f8 f9 y19_1 g6 g7 (q_beside f1 f2 y19_0_19 (g29 (fro + x19_6).toNatClampNeg)) (if (x19_6 - x19_6 / 2 * 2) = 0 then a else b)) = 0 then y19_0_19 else q_beside f1 f2 y19_0_19 (g29 (fro + x19_6).toNatClampNeg))) → v118_w0_20 = (if (q_beside f1 f2 y19_0_19 (g29 (fro + x19_6).toNatClampNeg)) < 0 then y19_0_20 else (if (q_bears f8 f9 y19_1 g6 g7 (q_beside f1 f2 y19_0_19 (g29 (fro + x19_6).toNatClampNeg)) (if (x19_6 - x19_6 / 2 * 2) = 0 then a else b)) = 0 then y19_0_20 else y19_0_20 ||| ((1 : Int32) <<< ((q_beside f1 f2 y19_0_19 (g29 (fro + x19_6).toNatClampNeg)) &&& 31)))) → v118_w1 = (if (q_beside f1 f2 y19_0_19 (g29 (fro + x19_6).toNatClampNeg)) < 0 then y19_1 else (if (q_bears f8 f9 y19_1 g6 g7 (q_beside f1 f2 y19_0_19 (g29 (fro + x19_6).toNatClampNeg)) (if (x19_6 - x19_6 / 2 * 2) = 0 then a else b)) = 0 then y19_1 else upd y19_1 (q_beside f1 f2 y19_0_19 (g29 (fro + x19_6).toNatClampNeg)).toNatClampNeg ((y19_1 (q_beside f1 f2 y19_0_19 (g29 (fro + x19_6).toNatClampNeg)).toNatClampNeg) - 1))) → ∃ k1 : Nat, k1 < n19 ∧ J19 k1 (x19_6 + 1) v118_w0_18 v118_w0_19 v118_w0_20 v118_w1)))))) :
    MF l G yX7_goDeed cX7_goDeed 8 none rm_X7_goDeed [.ref m0, .int a, .int b, .int ce, .int fro, .int n] [(m0, .inr (7, [.int f0, .int f1, .int f2, .int f3, .ref a4, .int f5, .ref a6, .ref a7, .int f8, .int f9, .int f10, .int f11, .int f12, .int f13, .int f14, .ref a15, .ref a16, .ref a17, .int f18, .int f19, .int f20, .ref a21, .ref a22, .int f23, .ref a24, .ref a25, .ref a26, .ref a27, .ref a28, .ref a29, .ref a30, .int f31])), (a4, .inl (G.2.1, 20, .inl g4)), (a6, .inl (G.2.1, 4, .inl g6)), (a7, .inl (G.2.1, 4, .inl g7)), (a15, .inl (G.2.1, 20, .inl g15)), (a16, .inl (G.2.1, 4, .inl g16)), (a17, .inl (G.2.1, 4, .inl g17)), (a21, .inl (G.2.1, 20, .inl g21)), (a22, .inl (G.2.1, 40, .inl g22)), (a24, .inl (G.2.1, 8, .inl g24)), (a25, .inl (G.2.1, 8, .inl g25)), (a26, .inl (G.2.2.1, 8, .inl g26)), (a27, .inl (G.2.1, 4, .inl g27)), (a28, .inl (G.2.1, 4, .inl g28)), (a29, .inl (G.2.1, 240, .inl g29)), (a30, .inl (G.2.1, 60, .inl g30))] none [(m0, .inr (7, [.int f0, .int f1, .int f2, .int f3, .ref a4, .int f5, .ref a6, .ref a7, .int f8, .int f9, .int f10, .int f11, .int f12, .int f13, .int f14, .ref a15, .ref a16, .ref a17, .int t0_18, .int t0_19, .int t0_20, .ref a21, .ref a22, .int f23, .ref a24, .ref a25, .ref a26, .ref a27, .ref a28, .ref a29, .ref a30, .int f31])), (a4, .inl (G.2.1, 20, .inl t1)), (a6, .inl (G.2.1, 4, .inl g6)), (a7, .inl (G.2.1, 4, .inl g7)), (a15, .inl (G.2.1, 20, .inl g15)), (a16, .inl (G.2.1, 4, .inl g16)), (a17, .inl (G.2.1, 4, .inl g17)), (a21, .inl (G.2.1, 20, .inl g21)), (a22, .inl (G.2.1, 40, .inl g22)), (a24, .inl (G.2.1, 8, .inl g24)), (a25, .inl (G.2.1, 8, .inl g25)), (a26, .inl (G.2.2.1, 8, .inl g26)), (a27, .inl (G.2.1, 4, .inl g27)), (a28, .inl (G.2.1, 4, .inl g28)), (a29, .inl (G.2.1, 240, .inl g29)), (a30, .inl (G.2.1, 60, .inl g30))] := by
  refine MF.of (by decide +kernel) (Nat.le_of_ble_eq_true rfl) ?_
  intro p e s m args below meth c A ls fx hh hl _
  have hx := fx.hx
  have hb := fx.hb
  have hl : lv_has ls 8 [(0, .ref m0), (1, .int a), (2, .int b), (3, .int ce), (4, .int fro), (5, .int n)] := hl
  obtain ⟨Q, hQ⟩ : ∃ Q, Q = ZZ G A none [(m0, .inr (7, [.int f0, .int f1, .int f2, .int f3, .ref a4, .int f5, .ref a6, .ref a7, .int f8, .int f9, .int f10, .int f11, .int f12, .int f13, .int f14, .ref a15, .ref a16, .ref a17, .int t0_18, .int t0_19, .int t0_20, .ref a21, .ref a22, .int f23, .ref a24, .ref a25, .ref a26, .ref a27, .ref a28, .ref a29, .ref a30, .int f31])), (a4, .inl (G.2.1, 20, .inl t1)), (a6, .inl (G.2.1, 4, .inl g6)), (a7, .inl (G.2.1, 4, .inl g7)), (a15, .inl (G.2.1, 20, .inl g15)), (a16, .inl (G.2.1, 4, .inl g16)), (a17, .inl (G.2.1, 4, .inl g17)), (a21, .inl (G.2.1, 20, .inl g21)), (a22, .inl (G.2.1, 40, .inl g22)), (a24, .inl (G.2.1, 8, .inl g24)), (a25, .inl (G.2.1, 8, .inl g25)), (a26, .inl (G.2.2.1, 8, .inl g26)), (a27, .inl (G.2.1, 4, .inl g27)), (a28, .inl (G.2.1, 4, .inl g28)), (a29, .inl (G.2.1, 240, .inl g29)), (a30, .inl (G.2.1, 60, .inl g30))] below args s := ⟨_, rfl⟩
  rw [← hQ]
  have lp19 : ∀ (n19 : Nat) (x19_6 : Int32) (y19_0_18 : Int32) (y19_0_19 : Int32) (y19_0_20 : Int32) (y19_1 : Nat → Int32), J19 n19 x19_6 y19_0_18 y19_0_19 y19_0_20 y19_1 → ∀ (H : Heap) (locs : List Loc) (ls : Array Slot), HP G A [(m0, .inr (7, [.int f0, .int f1, .int f2, .int f3, .ref a4, .int f5, .ref a6, .ref a7, .int f8, .int f9, .int f10, .int f11, .int f12, .int f13, .int f14, .ref a15, .ref a16, .ref a17, .int y19_0_18, .int y19_0_19, .int y19_0_20, .ref a21, .ref a22, .int f23, .ref a24, .ref a25, .ref a26, .ref a27, .ref a28, .ref a29, .ref a30, .int f31])), (a4, .inl (G.2.1, 20, .inl y19_1)), (a6, .inl (G.2.1, 4, .inl g6)), (a7, .inl (G.2.1, 4, .inl g7)), (a15, .inl (G.2.1, 20, .inl g15)), (a16, .inl (G.2.1, 4, .inl g16)), (a17, .inl (G.2.1, 4, .inl g17)), (a21, .inl (G.2.1, 20, .inl g21)), (a22, .inl (G.2.1, 40, .inl g22)), (a24, .inl (G.2.1, 8, .inl g24)), (a25, .inl (G.2.1, 8, .inl g25)), (a26, .inl (G.2.2.1, 8, .inl g26)), (a27, .inl (G.2.1, 4, .inl g27)), (a28, .inl (G.2.1, 4, .inl g28)), (a29, .inl (G.2.1, 240, .inl g29)), (a30, .inl (G.2.1, 60, .inl g30))] s H locs → lv_has ls 8 [(0, .ref m0), (1, .int a), (2, .int b), (4, .int fro), (5, .int n), (6, .int x19_6)] → W p l e rm_X7_goDeed s m args below meth c H locs 0 0 Q (F0 m 19 ls []) := by
    intro n19
    induction n19 using Nat.strongRecOn with
    | ind n19 ih19 =>
      intro x19_6 y19_0_18 y19_0_19 y19_0_20 y19_1 hj19 H locs ls hh hl
      have hv := hv19 n19 x19_6 y19_0_18 y19_0_19 y19_0_20 y19_1 hj19
      refine lv_iload (pc := 19) hx hb (dOk_at dX7_goDeed 11 rfl) (lv_at hl 5 rfl) ?_
      refine lv_iload (pc := 21) hx hb (dOk_at dX7_goDeed 12 rfl) (lv_at hl 4 rfl) ?_
      refine lv_icmp_ge (pc := 23) (tgt := 124) hx hb (dOk_at dX7_goDeed 13 rfl) (by decide) (fun c23 => ?_) (fun c23 => ?_)
      · have hv := hv.1 c23
        obtain ⟨e0, e1, e2, e3⟩ := hv
        subst e0
        subst e1
        subst e2
        subst e3
        rw [hQ]
        exact r_vret (pc := 124) fx hh (dOk_at dX7_goDeed 66 rfl)
      · have hv := hv.2 c23
        refine lv_aload_n (pc := 26) hx hb (dOk_at dX7_goDeed 14 rfl) rfl (lv_at hl 0 rfl) ?_
        refine r_get (pc := 27) (ci := 7) fx hh inT7 rfl 18 (by decide) tFX7_170 rfl 0 rfl rfl (dOk_at dX7_goDeed 15 rfl) ?_
        refine lv_if_ge (pc := 30) (tgt := 124) hx hb (dOk_at dX7_goDeed 16 rfl) (by decide) (fun c30 => ?_) (fun c30 => ?_)
        · have hv := hv.1 c30
          obtain ⟨e0, e1, e2, e3⟩ := hv
          subst e0
          subst e1
          subst e2
          subst e3
          rw [hQ]
          exact r_vret (pc := 124) fx hh (dOk_at dX7_goDeed 66 rfl)
        · have hv := hv.2 c30
          refine lv_aload_n (pc := 33) hx hb (dOk_at dX7_goDeed 17 rfl) rfl (lv_at hl 0 rfl) ?_
          refine lv_aload_n (pc := 34) hx hb (dOk_at dX7_goDeed 18 rfl) rfl (lv_at hl 0 rfl) ?_
          refine r_get (pc := 35) (ci := 7) fx hh inT7 rfl 19 (by decide) tFX7_173 rfl 0 rfl rfl (dOk_at dX7_goDeed 19 rfl) ?_
          refine lv_aload_n (pc := 38) hx hb (dOk_at dX7_goDeed 20 rfl) rfl (lv_at hl 0 rfl) ?_
          refine r_get (pc := 39) (ci := 7) fx hh inT7 rfl 29 (by decide) tFX7_50 rfl 0 rfl rfl (dOk_at dX7_goDeed 21 rfl) ?_
          refine lv_iload (pc := 42) hx hb (dOk_at dX7_goDeed 22 rfl) (lv_at hl 3 rfl) ?_
          refine lv_iload (pc := 44) hx hb (dOk_at dX7_goDeed 23 rfl) (lv_at hl 5 rfl) ?_
          refine lv_iadd (pc := 46) hx hb (dOk_at dX7_goDeed 24 rfl) ?_
          refine r_iald (pc := 47) fx hh 14 rfl hv.1 (dOk_at dX7_goDeed 25 rfl) ?_
          have hv := hv.2
          refine cl_V (pc := 48) (w' := [(m0, .inr (7, [.int f0, .int f1, .int f2, .int f3, .ref a4, .int f5, .ref a6, .ref a7, .int f8, .int f9, .int f10, .int f11, .int f12, .int f13, .int f14, .ref a15, .ref a16, .ref a17, .int y19_0_18, .int y19_0_19, .int y19_0_20, .ref a21, .ref a22, .int f23, .ref a24, .ref a25, .ref a26, .ref a27, .ref a28, .ref a29, .ref a30, .int f31])), (a4, .inl (G.2.1, 20, .inl y19_1)), (a6, .inl (G.2.1, 4, .inl g6)), (a7, .inl (G.2.1, 4, .inl g7)), (a15, .inl (G.2.1, 20, .inl g15)), (a16, .inl (G.2.1, 4, .inl g16)), (a17, .inl (G.2.1, 4, .inl g17)), (a21, .inl (G.2.1, 20, .inl g21)), (a22, .inl (G.2.1, 40, .inl g22)), (a24, .inl (G.2.1, 8, .inl g24)), (a25, .inl (G.2.1, 8, .inl g25)), (a26, .inl (G.2.2.1, 8, .inl g26)), (a27, .inl (G.2.1, 4, .inl g27)), (a28, .inl (G.2.1, 4, .inl g28)), (a29, .inl (G.2.1, 240, .inl g29)), (a30, .inl (G.2.1, 60, .inl g30))]) (wr := []) (rest := []) fx hh hl.1 (h_X7_beside m0 a4 a6 a7 a15 a16 a17 a21 a22 a24 a25 a26 a27 a28 a29 a30 f0 f1 f2 f3 f5 f8 f9 f10 f11 f12 f13 f14 y19_0_18 y19_0_19 y19_0_20 f23 f31 y19_1 g6 g7 g15 g16 g17 g21 g22 g24 g25 g26 g27 g28 g29 g30 y19_0_19 (g29 (fro + x19_6).toNatClampNeg) hv.1) yV_X7_beside tMX7_179 ⟨rfl, rfl, Nat.le_of_ble_eq_true rfl, Nat.le_of_ble_eq_true rfl⟩ 0 7 rfl rfl rfl [0, 1, 2, 3, 4, 5, 6, 7, 8, 9, 10, 11, 12, 13, 14, 15] [] [0, 1, 2, 3, 4, 5, 6, 7, 8, 9, 10, 11, 12, 13, 14, 15] rfl rfl rfl (by decide) (by decide) rfl rfl (Nat.le_of_ble_eq_true rfl) ⟨Nat.le_of_ble_eq_true rfl, Nat.le_of_ble_eq_true rfl⟩ (dOk_at dX7_goDeed 26 rfl) (fun H locs hh => ?_)
          have hv := hv.2
          refine lv_istore (pc := 51) (lv' := [(7, .int (q_beside f1 f2 y19_0_19 (g29 (fro + x19_6).toNatClampNeg))), (0, .ref m0), (1, .int a), (2, .int b), (4, .int fro), (5, .int n), (6, .int x19_6)]) hx hb (dOk_at dX7_goDeed 27 rfl) hl (by decide) rfl (fun ls hl => ?_)
          refine lv_iload (pc := 53) hx hb (dOk_at dX7_goDeed 28 rfl) (lv_at hl 0 rfl) ?_
          have k118_55 : ∀ (v118_w0_18 : Int32) (v118_w0_19 : Int32) (v118_w0_20 : Int32) (v118_w1 : Nat → Int32), v118_w0_18 = (if (q_beside f1 f2 y19_0_19 (g29 (fro + x19_6).toNatClampNeg)) < 0 then x19_6 else (if (q_bears f8 f9 y19_1 g6 g7 (q_beside f1 f2 y19_0_19 (g29 (fro + x19_6).toNatClampNeg)) (if (x19_6 - x19_6 / 2 * 2) = 0 then a else b)) = 0 then x19_6 else y19_0_18)) → v118_w0_19 = (if (q_beside f1 f2 y19_0_19 (g29 (fro + x19_6).toNatClampNeg)) < 0 then y19_0_19 else (if (q_bears f8 f9 y19_1 g6 g7 (q_beside f1 f2 y19_0_19 (g29 (fro + x19_6).toNatClampNeg)) (if (x19_6 - x19_6 / 2 * 2) = 0 then a else b)) = 0 then y19_0_19 else q_beside f1 f2 y19_0_19 (g29 (fro + x19_6).toNatClampNeg))) → v118_w0_20 = (if (q_beside f1 f2 y19_0_19 (g29 (fro + x19_6).toNatClampNeg)) < 0 then y19_0_20 else (if (q_bears f8 f9 y19_1 g6 g7 (q_beside f1 f2 y19_0_19 (g29 (fro + x19_6).toNatClampNeg)) (if (x19_6 - x19_6 / 2 * 2) = 0 then a else b)) = 0 then y19_0_20 else y19_0_20 ||| ((1 : Int32) <<< ((q_beside f1 f2 y19_0_19 (g29 (fro + x19_6).toNatClampNeg)) &&& 31)))) → v118_w1 = (if (q_beside f1 f2 y19_0_19 (g29 (fro + x19_6).toNatClampNeg)) < 0 then y19_1 else (if (q_bears f8 f9 y19_1 g6 g7 (q_beside f1 f2 y19_0_19 (g29 (fro + x19_6).toNatClampNeg)) (if (x19_6 - x19_6 / 2 * 2) = 0 then a else b)) = 0 then y19_1 else upd y19_1 (q_beside f1 f2 y19_0_19 (g29 (fro + x19_6).toNatClampNeg)).toNatClampNeg ((y19_1 (q_beside f1 f2 y19_0_19 (g29 (fro + x19_6).toNatClampNeg)).toNatClampNeg) - 1))) → ∀ (H : Heap) (locs : List Loc) (ls : Array Slot), HP G A [(m0, .inr (7, [.int f0, .int f1, .int f2, .int f3, .ref a4, .int f5, .ref a6, .ref a7, .int f8, .int f9, .int f10, .int f11, .int f12, .int f13, .int f14, .ref a15, .ref a16, .ref a17, .int v118_w0_18, .int v118_w0_19, .int v118_w0_20, .ref a21, .ref a22, .int f23, .ref a24, .ref a25, .ref a26, .ref a27, .ref a28, .ref a29, .ref a30, .int f31])), (a4, .inl (G.2.1, 20, .inl v118_w1)), (a6, .inl (G.2.1, 4, .inl g6)), (a7, .inl (G.2.1, 4, .inl g7)), (a15, .inl (G.2.1, 20, .inl g15)), (a16, .inl (G.2.1, 4, .inl g16)), (a17, .inl (G.2.1, 4, .inl g17)), (a21, .inl (G.2.1, 20, .inl g21)), (a22, .inl (G.2.1, 40, .inl g22)), (a24, .inl (G.2.1, 8, .inl g24)), (a25, .inl (G.2.1, 8, .inl g25)), (a26, .inl (G.2.2.1, 8, .inl g26)), (a27, .inl (G.2.1, 4, .inl g27)), (a28, .inl (G.2.1, 4, .inl g28)), (a29, .inl (G.2.1, 240, .inl g29)), (a30, .inl (G.2.1, 60, .inl g30))] s H locs → lv_has ls 8 [(0, .ref m0), (1, .int a), (2, .int b), (4, .int fro), (5, .int n), (6, .int x19_6)] → W p l e rm_X7_goDeed s m args below meth c H locs 0 0 Q (F0 m 118 ls []) := by
            intro v118_w0_18 v118_w0_19 v118_w0_20 v118_w1 e118_0 e118_1 e118_2 e118_3 H locs ls hh hl
            have hv := hv.2 v118_w0_18 v118_w0_19 v118_w0_20 v118_w1 e118_0 e118_1 e118_2 e118_3
            refine lv_iinc (pc := 118) (v := x19_6 + 1) (lv' := [(6, .int (x19_6 + 1)), (0, .ref m0), (1, .int a), (2, .int b), (4, .int fro), (5, .int n)]) hx hb (dOk_at dX7_goDeed 64 rfl) hl (k := 5) rfl rfl (by decide) rfl (fun ls hl => ?_)
            refine lv_goto (pc := 121) (tgt := 19) hx hb (dOk_at dX7_goDeed 65 rfl) (by decide) ?_
            obtain ⟨k0, hk0, hj0⟩ := hv
            exact ih19 k0 hk0 (x19_6 + 1) v118_w0_18 v118_w0_19 v118_w0_20 v118_w1 hj0 _ _ _ hh (lv_sub hl [1, 2, 3, 4, 5, 0] rfl)
          have hv := hv.1
          refine lv_if_lt (pc := 55) (tgt := 79) hx hb (dOk_at dX7_goDeed 29 rfl) (by decide) (fun c55 => ?_) (fun c55 => ?_)
          · have hv := hv.1 c55
            refine lv_aload_n (pc := 79) hx hb (dOk_at dX7_goDeed 41 rfl) rfl (lv_at hl 1 rfl) ?_
            refine lv_iload (pc := 80) hx hb (dOk_at dX7_goDeed 42 rfl) (lv_at hl 6 rfl) ?_
            refine r_put (pc := 82) (ci := 7) (w' := [(m0, .inr (7, [.int f0, .int f1, .int f2, .int f3, .ref a4, .int f5, .ref a6, .ref a7, .int f8, .int f9, .int f10, .int f11, .int f12, .int f13, .int f14, .ref a15, .ref a16, .ref a17, .int x19_6, .int y19_0_19, .int y19_0_20, .ref a21, .ref a22, .int f23, .ref a24, .ref a25, .ref a26, .ref a27, .ref a28, .ref a29, .ref a30, .int f31])), (a4, .inl (G.2.1, 20, .inl y19_1)), (a6, .inl (G.2.1, 4, .inl g6)), (a7, .inl (G.2.1, 4, .inl g7)), (a15, .inl (G.2.1, 20, .inl g15)), (a16, .inl (G.2.1, 4, .inl g16)), (a17, .inl (G.2.1, 4, .inl g17)), (a21, .inl (G.2.1, 20, .inl g21)), (a22, .inl (G.2.1, 40, .inl g22)), (a24, .inl (G.2.1, 8, .inl g24)), (a25, .inl (G.2.1, 8, .inl g25)), (a26, .inl (G.2.2.1, 8, .inl g26)), (a27, .inl (G.2.1, 4, .inl g27)), (a28, .inl (G.2.1, 4, .inl g28)), (a29, .inl (G.2.1, 240, .inl g29)), (a30, .inl (G.2.1, 60, .inl g30))]) fx hh inT7 tyX7 tyX7_ok nmX7 rfl 18 (by decide) tFX7_170 rfl rfl 0 rfl rfl rfl (Nat.le_of_ble_eq_true rfl) rfl (dOk_at dX7_goDeed 43 rfl) (fun H locs hh => ?_)
            refine lv_goto (pc := 85) (tgt := 118) hx hb (dOk_at dX7_goDeed 44 rfl) (by decide) ?_
            exact k118_55 _ _ _ _ (if_pos c55).symm (if_pos c55).symm (if_pos c55).symm (if_pos c55).symm _ _ _ hh (lv_sub hl [1, 2, 3, 4, 5, 6] rfl)
          · have hv := hv.2 c55
            refine lv_aload_n (pc := 58) hx hb (dOk_at dX7_goDeed 30 rfl) rfl (lv_at hl 1 rfl) ?_
            refine lv_iload (pc := 59) hx hb (dOk_at dX7_goDeed 31 rfl) (lv_at hl 0 rfl) ?_
            refine lv_iload (pc := 61) hx hb (dOk_at dX7_goDeed 32 rfl) (lv_at hl 6 rfl) ?_
            refine lv_iconst (pc := 63) (v := 2) hx hb (dOk_at dX7_goDeed 33 rfl) (by decide) ?_
            refine lv_irem (pc := 64) hx hb (dOk_at dX7_goDeed 34 rfl) (by decide) ?_
            have k73_65 : ∀ (v73 : Int32), v73 = (if (x19_6 - x19_6 / 2 * 2) = 0 then a else b) → ∀ (H : Heap) (locs : List Loc) (ls : Array Slot), HP G A [(m0, .inr (7, [.int f0, .int f1, .int f2, .int f3, .ref a4, .int f5, .ref a6, .ref a7, .int f8, .int f9, .int f10, .int f11, .int f12, .int f13, .int f14, .ref a15, .ref a16, .ref a17, .int y19_0_18, .int y19_0_19, .int y19_0_20, .ref a21, .ref a22, .int f23, .ref a24, .ref a25, .ref a26, .ref a27, .ref a28, .ref a29, .ref a30, .int f31])), (a4, .inl (G.2.1, 20, .inl y19_1)), (a6, .inl (G.2.1, 4, .inl g6)), (a7, .inl (G.2.1, 4, .inl g7)), (a15, .inl (G.2.1, 20, .inl g15)), (a16, .inl (G.2.1, 4, .inl g16)), (a17, .inl (G.2.1, 4, .inl g17)), (a21, .inl (G.2.1, 20, .inl g21)), (a22, .inl (G.2.1, 40, .inl g22)), (a24, .inl (G.2.1, 8, .inl g24)), (a25, .inl (G.2.1, 8, .inl g25)), (a26, .inl (G.2.2.1, 8, .inl g26)), (a27, .inl (G.2.1, 4, .inl g27)), (a28, .inl (G.2.1, 4, .inl g28)), (a29, .inl (G.2.1, 240, .inl g29)), (a30, .inl (G.2.1, 60, .inl g30))] s H locs → lv_has ls 8 [(0, .ref m0), (1, .int a), (2, .int b), (4, .int fro), (5, .int n), (6, .int x19_6), (7, .int (q_beside f1 f2 y19_0_19 (g29 (fro + x19_6).toNatClampNeg)))] → W p l e rm_X7_goDeed s m args below meth c H locs 0 0 Q (F0 m 73 ls [.int v73, .int (q_beside f1 f2 y19_0_19 (g29 (fro + x19_6).toNatClampNeg)), .ref m0]) := by
              intro v73 e73_0 H locs ls hh hl
              subst e73_0
              have hv := hv
              refine cl_V (pc := 73) (w' := [(m0, .inr (7, [.int f0, .int f1, .int f2, .int f3, .ref a4, .int f5, .ref a6, .ref a7, .int f8, .int f9, .int f10, .int f11, .int f12, .int f13, .int f14, .ref a15, .ref a16, .ref a17, .int y19_0_18, .int y19_0_19, .int y19_0_20, .ref a21, .ref a22, .int f23, .ref a24, .ref a25, .ref a26, .ref a27, .ref a28, .ref a29, .ref a30, .int f31])), (a4, .inl (G.2.1, 20, .inl y19_1)), (a6, .inl (G.2.1, 4, .inl g6)), (a7, .inl (G.2.1, 4, .inl g7)), (a15, .inl (G.2.1, 20, .inl g15)), (a16, .inl (G.2.1, 4, .inl g16)), (a17, .inl (G.2.1, 4, .inl g17)), (a21, .inl (G.2.1, 20, .inl g21)), (a22, .inl (G.2.1, 40, .inl g22)), (a24, .inl (G.2.1, 8, .inl g24)), (a25, .inl (G.2.1, 8, .inl g25)), (a26, .inl (G.2.2.1, 8, .inl g26)), (a27, .inl (G.2.1, 4, .inl g27)), (a28, .inl (G.2.1, 4, .inl g28)), (a29, .inl (G.2.1, 240, .inl g29)), (a30, .inl (G.2.1, 60, .inl g30))]) (wr := []) (rest := []) fx hh hl.1 (h_X7_bears m0 a4 a6 a7 a15 a16 a17 a21 a22 a24 a25 a26 a27 a28 a29 a30 f0 f1 f2 f3 f5 f8 f9 f10 f11 f12 f13 f14 y19_0_18 y19_0_19 y19_0_20 f23 f31 y19_1 g6 g7 g15 g16 g17 g21 g22 g24 g25 g26 g27 g28 g29 g30 (q_beside f1 f2 y19_0_19 (g29 (fro + x19_6).toNatClampNeg)) (if (x19_6 - x19_6 / 2 * 2) = 0 then a else b) hv.1 hv.2.1) yV_X7_bears tMX7_159 ⟨rfl, rfl, Nat.le_of_ble_eq_true rfl, Nat.le_of_ble_eq_true rfl⟩ 0 7 rfl rfl rfl [0, 1, 2, 3, 4, 5, 6, 7, 8, 9, 10, 11, 12, 13, 14, 15] [] [0, 1, 2, 3, 4, 5, 6, 7, 8, 9, 10, 11, 12, 13, 14, 15] rfl rfl rfl (by decide) (by decide) rfl rfl (Nat.le_of_ble_eq_true rfl) ⟨Nat.le_of_ble_eq_true rfl, Nat.le_of_ble_eq_true rfl⟩ (dOk_at dX7_goDeed 39 rfl) (fun H locs hh => ?_)
              have hv := hv.2.2
              refine lv_if_ne (pc := 76) (tgt := 88) hx hb (dOk_at dX7_goDeed 40 rfl) (by decide) (fun c76 => ?_) (fun c76 => ?_)
              · have hv := hv.1 c76
                refine lv_aload_n (pc := 88) hx hb (dOk_at dX7_goDeed 45 rfl) rfl (lv_at hl 0 rfl) ?_
                refine lv_iload (pc := 89) hx hb (dOk_at dX7_goDeed 46 rfl) (lv_at hl 6 rfl) ?_
                refine r_put (pc := 91) (ci := 7) (w' := [(m0, .inr (7, [.int f0, .int f1, .int f2, .int f3, .ref a4, .int f5, .ref a6, .ref a7, .int f8, .int f9, .int f10, .int f11, .int f12, .int f13, .int f14, .ref a15, .ref a16, .ref a17, .int y19_0_18, .int (q_beside f1 f2 y19_0_19 (g29 (fro + x19_6).toNatClampNeg)), .int y19_0_20, .ref a21, .ref a22, .int f23, .ref a24, .ref a25, .ref a26, .ref a27, .ref a28, .ref a29, .ref a30, .int f31])), (a4, .inl (G.2.1, 20, .inl y19_1)), (a6, .inl (G.2.1, 4, .inl g6)), (a7, .inl (G.2.1, 4, .inl g7)), (a15, .inl (G.2.1, 20, .inl g15)), (a16, .inl (G.2.1, 4, .inl g16)), (a17, .inl (G.2.1, 4, .inl g17)), (a21, .inl (G.2.1, 20, .inl g21)), (a22, .inl (G.2.1, 40, .inl g22)), (a24, .inl (G.2.1, 8, .inl g24)), (a25, .inl (G.2.1, 8, .inl g25)), (a26, .inl (G.2.2.1, 8, .inl g26)), (a27, .inl (G.2.1, 4, .inl g27)), (a28, .inl (G.2.1, 4, .inl g28)), (a29, .inl (G.2.1, 240, .inl g29)), (a30, .inl (G.2.1, 60, .inl g30))]) fx hh inT7 tyX7 tyX7_ok nmX7 rfl 19 (by decide) tFX7_173 rfl rfl 0 rfl rfl rfl (Nat.le_of_ble_eq_true rfl) rfl (dOk_at dX7_goDeed 47 rfl) (fun H locs hh => ?_)
                refine lv_aload_n (pc := 94) hx hb (dOk_at dX7_goDeed 48 rfl) rfl (lv_at hl 0 rfl) ?_
                refine lv_dup (pc := 95) hx hb (dOk_at dX7_goDeed 49 rfl) rfl ?_
                refine r_get (pc := 96) (ci := 7) fx hh inT7 rfl 20 (by decide) tFX7_176 rfl 0 rfl rfl (dOk_at dX7_goDeed 50 rfl) ?_
                refine lv_iconst (pc := 99) (v := 1) hx hb (dOk_at dX7_goDeed 51 rfl) (by decide) ?_
                refine lv_iload (pc := 100) hx hb (dOk_at dX7_goDeed 52 rfl) (lv_at hl 6 rfl) ?_
                refine lv_ishl (pc := 102) hx hb (dOk_at dX7_goDeed 53 rfl) ?_
                refine lv_ior (pc := 103) hx hb (dOk_at dX7_goDeed 54 rfl) ?_
                refine r_put (pc := 104) (ci := 7) (w' := [(m0, .inr (7, [.int f0, .int f1, .int f2, .int f3, .ref a4, .int f5, .ref a6, .ref a7, .int f8, .int f9, .int f10, .int f11, .int f12, .int f13, .int f14, .ref a15, .ref a16, .ref a17, .int y19_0_18, .int (q_beside f1 f2 y19_0_19 (g29 (fro + x19_6).toNatClampNeg)), .int (y19_0_20 ||| ((1 : Int32) <<< ((q_beside f1 f2 y19_0_19 (g29 (fro + x19_6).toNatClampNeg)) &&& 31))), .ref a21, .ref a22, .int f23, .ref a24, .ref a25, .ref a26, .ref a27, .ref a28, .ref a29, .ref a30, .int f31])), (a4, .inl (G.2.1, 20, .inl y19_1)), (a6, .inl (G.2.1, 4, .inl g6)), (a7, .inl (G.2.1, 4, .inl g7)), (a15, .inl (G.2.1, 20, .inl g15)), (a16, .inl (G.2.1, 4, .inl g16)), (a17, .inl (G.2.1, 4, .inl g17)), (a21, .inl (G.2.1, 20, .inl g21)), (a22, .inl (G.2.1, 40, .inl g22)), (a24, .inl (G.2.1, 8, .inl g24)), (a25, .inl (G.2.1, 8, .inl g25)), (a26, .inl (G.2.2.1, 8, .inl g26)), (a27, .inl (G.2.1, 4, .inl g27)), (a28, .inl (G.2.1, 4, .inl g28)), (a29, .inl (G.2.1, 240, .inl g29)), (a30, .inl (G.2.1, 60, .inl g30))]) fx hh inT7 tyX7 tyX7_ok nmX7 rfl 20 (by decide) tFX7_176 rfl rfl 0 rfl rfl rfl (Nat.le_of_ble_eq_true rfl) rfl (dOk_at dX7_goDeed 55 rfl) (fun H locs hh => ?_)
                refine lv_aload_n (pc := 107) hx hb (dOk_at dX7_goDeed 56 rfl) rfl (lv_at hl 0 rfl) ?_
                refine r_get (pc := 108) (ci := 7) fx hh inT7 rfl 4 (by decide) tFX7_7 rfl 0 rfl rfl (dOk_at dX7_goDeed 57 rfl) ?_
                refine lv_iload (pc := 111) hx hb (dOk_at dX7_goDeed 58 rfl) (lv_at hl 6 rfl) ?_
                refine lv_dup2_11 (pc := 113) hx hb (dOk_at dX7_goDeed 59 rfl) rfl rfl ?_
                refine r_iald (pc := 114) fx hh 1 rfl hv.1 (dOk_at dX7_goDeed 60 rfl) ?_
                have hv := hv.2
                refine lv_iconst (pc := 115) (v := 1) hx hb (dOk_at dX7_goDeed 61 rfl) (by decide) ?_
                refine lv_isub (pc := 116) hx hb (dOk_at dX7_goDeed 62 rfl) ?_
                refine r_iast (pc := 117) (w' := [(m0, .inr (7, [.int f0, .int f1, .int f2, .int f3, .ref a4, .int f5, .ref a6, .ref a7, .int f8, .int f9, .int f10, .int f11, .int f12, .int f13, .int f14, .ref a15, .ref a16, .ref a17, .int y19_0_18, .int (q_beside f1 f2 y19_0_19 (g29 (fro + x19_6).toNatClampNeg)), .int (y19_0_20 ||| ((1 : Int32) <<< ((q_beside f1 f2 y19_0_19 (g29 (fro + x19_6).toNatClampNeg)) &&& 31))), .ref a21, .ref a22, .int f23, .ref a24, .ref a25, .ref a26, .ref a27, .ref a28, .ref a29, .ref a30, .int f31])), (a4, .inl (G.2.1, 20, .inl (upd y19_1 (q_beside f1 f2 y19_0_19 (g29 (fro + x19_6).toNatClampNeg)).toNatClampNeg ((y19_1 (q_beside f1 f2 y19_0_19 (g29 (fro + x19_6).toNatClampNeg)).toNatClampNeg) - 1)))), (a6, .inl (G.2.1, 4, .inl g6)), (a7, .inl (G.2.1, 4, .inl g7)), (a15, .inl (G.2.1, 20, .inl g15)), (a16, .inl (G.2.1, 4, .inl g16)), (a17, .inl (G.2.1, 4, .inl g17)), (a21, .inl (G.2.1, 20, .inl g21)), (a22, .inl (G.2.1, 40, .inl g22)), (a24, .inl (G.2.1, 8, .inl g24)), (a25, .inl (G.2.1, 8, .inl g25)), (a26, .inl (G.2.2.1, 8, .inl g26)), (a27, .inl (G.2.1, 4, .inl g27)), (a28, .inl (G.2.1, 4, .inl g28)), (a29, .inl (G.2.1, 240, .inl g29)), (a30, .inl (G.2.1, 60, .inl g30))]) fx hh 1 rfl hv rfl (dOk_at dX7_goDeed 63 rfl) (fun H locs hh => ?_)
                exact k118_55 _ _ _ _ ((if_neg c55).trans (if_neg c76)).symm ((if_neg c55).trans (if_neg c76)).symm ((if_neg c55).trans (if_neg c76)).symm ((if_neg c55).trans (if_neg c76)).symm _ _ _ hh (lv_sub hl [0, 1, 2, 3, 4, 5] rfl)
              · have hv := hv.2 c76
                refine lv_aload_n (pc := 79) hx hb (dOk_at dX7_goDeed 41 rfl) rfl (lv_at hl 0 rfl) ?_
                refine lv_iload (pc := 80) hx hb (dOk_at dX7_goDeed 42 rfl) (lv_at hl 5 rfl) ?_
                refine r_put (pc := 82) (ci := 7) (w' := [(m0, .inr (7, [.int f0, .int f1, .int f2, .int f3, .ref a4, .int f5, .ref a6, .ref a7, .int f8, .int f9, .int f10, .int f11, .int f12, .int f13, .int f14, .ref a15, .ref a16, .ref a17, .int x19_6, .int y19_0_19, .int y19_0_20, .ref a21, .ref a22, .int f23, .ref a24, .ref a25, .ref a26, .ref a27, .ref a28, .ref a29, .ref a30, .int f31])), (a4, .inl (G.2.1, 20, .inl y19_1)), (a6, .inl (G.2.1, 4, .inl g6)), (a7, .inl (G.2.1, 4, .inl g7)), (a15, .inl (G.2.1, 20, .inl g15)), (a16, .inl (G.2.1, 4, .inl g16)), (a17, .inl (G.2.1, 4, .inl g17)), (a21, .inl (G.2.1, 20, .inl g21)), (a22, .inl (G.2.1, 40, .inl g22)), (a24, .inl (G.2.1, 8, .inl g24)), (a25, .inl (G.2.1, 8, .inl g25)), (a26, .inl (G.2.2.1, 8, .inl g26)), (a27, .inl (G.2.1, 4, .inl g27)), (a28, .inl (G.2.1, 4, .inl g28)), (a29, .inl (G.2.1, 240, .inl g29)), (a30, .inl (G.2.1, 60, .inl g30))]) fx hh inT7 tyX7 tyX7_ok nmX7 rfl 18 (by decide) tFX7_170 rfl rfl 0 rfl rfl rfl (Nat.le_of_ble_eq_true rfl) rfl (dOk_at dX7_goDeed 43 rfl) (fun H locs hh => ?_)
                refine lv_goto (pc := 85) (tgt := 118) hx hb (dOk_at dX7_goDeed 44 rfl) (by decide) ?_
                exact k118_55 _ _ _ _ ((if_neg c55).trans (if_pos c76)).symm ((if_neg c55).trans (if_pos c76)).symm ((if_neg c55).trans (if_pos c76)).symm ((if_neg c55).trans (if_pos c76)).symm _ _ _ hh (lv_sub hl [0, 1, 2, 3, 4, 5] rfl)
            refine lv_if_ne (pc := 65) (tgt := 72) hx hb (dOk_at dX7_goDeed 35 rfl) (by decide) (fun c65 => ?_) (fun c65 => ?_)
            · refine lv_iload_n (pc := 72) hx hb (dOk_at dX7_goDeed 38 rfl) rfl (lv_at hl 3 rfl) ?_
              exact k73_65 _ (if_neg c65).symm _ _ _ hh (lv_sub hl [1, 2, 3, 4, 5, 6, 0] rfl)
            · refine lv_iload_n (pc := 68) hx hb (dOk_at dX7_goDeed 36 rfl) rfl (lv_at hl 2 rfl) ?_
              refine lv_goto (pc := 69) (tgt := 73) hx hb (dOk_at dX7_goDeed 37 rfl) (by decide) ?_
              exact k73_65 _ (if_pos c65).symm _ _ _ hh (lv_sub hl [1, 2, 3, 4, 5, 6, 0] rfl)
  refine lv_aload_n (pc := 0) hx hb (dOk_at dX7_goDeed 0 rfl) rfl (lv_at hl 0 rfl) ?_
  refine lv_bipush (pc := 1) (v := (-9)) hx hb (dOk_at dX7_goDeed 1 rfl) (by decide) ?_
  refine r_put (pc := 3) (ci := 7) (w' := [(m0, .inr (7, [.int f0, .int f1, .int f2, .int f3, .ref a4, .int f5, .ref a6, .ref a7, .int f8, .int f9, .int f10, .int f11, .int f12, .int f13, .int f14, .ref a15, .ref a16, .ref a17, .int (-9), .int f19, .int f20, .ref a21, .ref a22, .int f23, .ref a24, .ref a25, .ref a26, .ref a27, .ref a28, .ref a29, .ref a30, .int f31])), (a4, .inl (G.2.1, 20, .inl g4)), (a6, .inl (G.2.1, 4, .inl g6)), (a7, .inl (G.2.1, 4, .inl g7)), (a15, .inl (G.2.1, 20, .inl g15)), (a16, .inl (G.2.1, 4, .inl g16)), (a17, .inl (G.2.1, 4, .inl g17)), (a21, .inl (G.2.1, 20, .inl g21)), (a22, .inl (G.2.1, 40, .inl g22)), (a24, .inl (G.2.1, 8, .inl g24)), (a25, .inl (G.2.1, 8, .inl g25)), (a26, .inl (G.2.2.1, 8, .inl g26)), (a27, .inl (G.2.1, 4, .inl g27)), (a28, .inl (G.2.1, 4, .inl g28)), (a29, .inl (G.2.1, 240, .inl g29)), (a30, .inl (G.2.1, 60, .inl g30))]) fx hh inT7 tyX7 tyX7_ok nmX7 rfl 18 (by decide) tFX7_170 rfl rfl 0 rfl rfl rfl (Nat.le_of_ble_eq_true rfl) rfl (dOk_at dX7_goDeed 2 rfl) (fun H locs hh => ?_)
  refine lv_aload_n (pc := 6) hx hb (dOk_at dX7_goDeed 3 rfl) rfl (lv_at hl 0 rfl) ?_
  refine lv_iload_n (pc := 7) hx hb (dOk_at dX7_goDeed 4 rfl) rfl (lv_at hl 3 rfl) ?_
  refine r_put (pc := 8) (ci := 7) (w' := [(m0, .inr (7, [.int f0, .int f1, .int f2, .int f3, .ref a4, .int f5, .ref a6, .ref a7, .int f8, .int f9, .int f10, .int f11, .int f12, .int f13, .int f14, .ref a15, .ref a16, .ref a17, .int (-9), .int ce, .int f20, .ref a21, .ref a22, .int f23, .ref a24, .ref a25, .ref a26, .ref a27, .ref a28, .ref a29, .ref a30, .int f31])), (a4, .inl (G.2.1, 20, .inl g4)), (a6, .inl (G.2.1, 4, .inl g6)), (a7, .inl (G.2.1, 4, .inl g7)), (a15, .inl (G.2.1, 20, .inl g15)), (a16, .inl (G.2.1, 4, .inl g16)), (a17, .inl (G.2.1, 4, .inl g17)), (a21, .inl (G.2.1, 20, .inl g21)), (a22, .inl (G.2.1, 40, .inl g22)), (a24, .inl (G.2.1, 8, .inl g24)), (a25, .inl (G.2.1, 8, .inl g25)), (a26, .inl (G.2.2.1, 8, .inl g26)), (a27, .inl (G.2.1, 4, .inl g27)), (a28, .inl (G.2.1, 4, .inl g28)), (a29, .inl (G.2.1, 240, .inl g29)), (a30, .inl (G.2.1, 60, .inl g30))]) fx hh inT7 tyX7 tyX7_ok nmX7 rfl 19 (by decide) tFX7_173 rfl rfl 0 rfl rfl rfl (Nat.le_of_ble_eq_true rfl) rfl (dOk_at dX7_goDeed 5 rfl) (fun H locs hh => ?_)
  refine lv_aload_n (pc := 11) hx hb (dOk_at dX7_goDeed 6 rfl) rfl (lv_at hl 0 rfl) ?_
  refine lv_iconst (pc := 12) (v := 0) hx hb (dOk_at dX7_goDeed 7 rfl) (by decide) ?_
  refine r_put (pc := 13) (ci := 7) (w' := [(m0, .inr (7, [.int f0, .int f1, .int f2, .int f3, .ref a4, .int f5, .ref a6, .ref a7, .int f8, .int f9, .int f10, .int f11, .int f12, .int f13, .int f14, .ref a15, .ref a16, .ref a17, .int (-9), .int ce, .int 0, .ref a21, .ref a22, .int f23, .ref a24, .ref a25, .ref a26, .ref a27, .ref a28, .ref a29, .ref a30, .int f31])), (a4, .inl (G.2.1, 20, .inl g4)), (a6, .inl (G.2.1, 4, .inl g6)), (a7, .inl (G.2.1, 4, .inl g7)), (a15, .inl (G.2.1, 20, .inl g15)), (a16, .inl (G.2.1, 4, .inl g16)), (a17, .inl (G.2.1, 4, .inl g17)), (a21, .inl (G.2.1, 20, .inl g21)), (a22, .inl (G.2.1, 40, .inl g22)), (a24, .inl (G.2.1, 8, .inl g24)), (a25, .inl (G.2.1, 8, .inl g25)), (a26, .inl (G.2.2.1, 8, .inl g26)), (a27, .inl (G.2.1, 4, .inl g27)), (a28, .inl (G.2.1, 4, .inl g28)), (a29, .inl (G.2.1, 240, .inl g29)), (a30, .inl (G.2.1, 60, .inl g30))]) fx hh inT7 tyX7 tyX7_ok nmX7 rfl 20 (by decide) tFX7_176 rfl rfl 0 rfl rfl rfl (Nat.le_of_ble_eq_true rfl) rfl (dOk_at dX7_goDeed 8 rfl) (fun H locs hh => ?_)
  refine lv_iconst (pc := 16) (v := 0) hx hb (dOk_at dX7_goDeed 9 rfl) (by decide) ?_
  refine lv_istore (pc := 17) (lv' := [(6, .int 0), (0, .ref m0), (1, .int a), (2, .int b), (3, .int ce), (4, .int fro), (5, .int n)]) hx hb (dOk_at dX7_goDeed 10 rfl) hl (by decide) rfl (fun ls hl => ?_)
  obtain ⟨k0, hj0⟩ := hv
  exact lp19 k0 0 (-9) ce 0 g4 hj0 _ _ _ hh (lv_sub hl [1, 2, 3, 5, 6, 0] rfl)
set_option maxRecDepth 100000 in
set_option maxHeartbeats 4000000 in
theorem wk_X7_keep (l : Launch) (G : GT) (m0 : Nat) (a4 : Nat) (a6 : Nat) (a7 : Nat) (a15 : Nat) (a16 : Nat) (a17 : Nat) (a21 : Nat) (a22 : Nat) (a24 : Nat) (a25 : Nat) (a26 : Nat) (a27 : Nat) (a28 : Nat) (a29 : Nat) (a30 : Nat) (f0 : Int32) (f1 : Int32) (f2 : Int32) (f3 : Int32) (f5 : Int32) (f8 : Int32) (f9 : Int32) (f10 : Int32) (f11 : Int32) (f12 : Int32) (f13 : Int32) (f14 : Int32) (f18 : Int32) (f19 : Int32) (f20 : Int32) (f23 : Int32) (f31 : Int32) (g4 : Nat → Int32) (g6 : Nat → Int32) (g7 : Nat → Int32) (g15 : Nat → Int32) (g16 : Nat → Int32) (g17 : Nat → Int32) (g21 : Nat → Int32) (g22 : Nat → Int32) (g24 : Nat → Int32) (g25 : Nat → Int32) (g26 : Nat → Int32) (g27 : Nat → Int32) (g28 : Nat → Int32) (g29 : Nat → Int32) (g30 : Nat → Int32) (t7 : Nat → Int32) (J2 : Nat → Int32 → (Nat → Int32) → Prop)
    (hv : ∃ k2 : Nat, J2 k2 0 g21)
    (hv2 : ∀ (n2 : Nat) (x2_1 : Int32) (y2_7 : Nat → Int32), J2 n2 x2_1 y2_7 → (20 ≤ x2_1 → y2_7 = t7) ∧ (¬ 20 ≤ x2_1 → vp_in x2_1 20 ∧ (vp_in x2_1 20 ∧ (∃ k1 : Nat, k1 < n2 ∧ J2 k1 (x2_1 + 1) (upd y2_7 x2_1.toNatClampNeg (g4 x2_1.toNatClampNeg)))))) :
    MF l G yX7_keep cX7_keep 2 none rm_X7_keep [.ref m0] [(m0, .inr (7, [.int f0, .int f1, .int f2, .int f3, .ref a4, .int f5, .ref a6, .ref a7, .int f8, .int f9, .int f10, .int f11, .int f12, .int f13, .int f14, .ref a15, .ref a16, .ref a17, .int f18, .int f19, .int f20, .ref a21, .ref a22, .int f23, .ref a24, .ref a25, .ref a26, .ref a27, .ref a28, .ref a29, .ref a30, .int f31])), (a4, .inl (G.2.1, 20, .inl g4)), (a6, .inl (G.2.1, 4, .inl g6)), (a7, .inl (G.2.1, 4, .inl g7)), (a15, .inl (G.2.1, 20, .inl g15)), (a16, .inl (G.2.1, 4, .inl g16)), (a17, .inl (G.2.1, 4, .inl g17)), (a21, .inl (G.2.1, 20, .inl g21)), (a22, .inl (G.2.1, 40, .inl g22)), (a24, .inl (G.2.1, 8, .inl g24)), (a25, .inl (G.2.1, 8, .inl g25)), (a26, .inl (G.2.2.1, 8, .inl g26)), (a27, .inl (G.2.1, 4, .inl g27)), (a28, .inl (G.2.1, 4, .inl g28)), (a29, .inl (G.2.1, 240, .inl g29)), (a30, .inl (G.2.1, 60, .inl g30))] none [(m0, .inr (7, [.int f0, .int f1, .int f2, .int f3, .ref a4, .int f5, .ref a6, .ref a7, .int f8, .int f9, .int f10, .int f11, .int f12, .int f13, .int f14, .ref a15, .ref a16, .ref a17, .int f18, .int f19, .int f20, .ref a21, .ref a22, .int f23, .ref a24, .ref a25, .ref a26, .ref a27, .ref a28, .ref a29, .ref a30, .int f31])), (a4, .inl (G.2.1, 20, .inl g4)), (a6, .inl (G.2.1, 4, .inl g6)), (a7, .inl (G.2.1, 4, .inl g7)), (a15, .inl (G.2.1, 20, .inl g15)), (a16, .inl (G.2.1, 4, .inl g16)), (a17, .inl (G.2.1, 4, .inl g17)), (a21, .inl (G.2.1, 20, .inl t7)), (a22, .inl (G.2.1, 40, .inl g22)), (a24, .inl (G.2.1, 8, .inl g24)), (a25, .inl (G.2.1, 8, .inl g25)), (a26, .inl (G.2.2.1, 8, .inl g26)), (a27, .inl (G.2.1, 4, .inl g27)), (a28, .inl (G.2.1, 4, .inl g28)), (a29, .inl (G.2.1, 240, .inl g29)), (a30, .inl (G.2.1, 60, .inl g30))] := by
  refine MF.of (by decide +kernel) (Nat.le_of_ble_eq_true rfl) ?_
  intro p e s m args below meth c A ls fx hh hl _
  have hx := fx.hx
  have hb := fx.hb
  have hl : lv_has ls 2 [(0, .ref m0)] := hl
  obtain ⟨Q, hQ⟩ : ∃ Q, Q = ZZ G A none [(m0, .inr (7, [.int f0, .int f1, .int f2, .int f3, .ref a4, .int f5, .ref a6, .ref a7, .int f8, .int f9, .int f10, .int f11, .int f12, .int f13, .int f14, .ref a15, .ref a16, .ref a17, .int f18, .int f19, .int f20, .ref a21, .ref a22, .int f23, .ref a24, .ref a25, .ref a26, .ref a27, .ref a28, .ref a29, .ref a30, .int f31])), (a4, .inl (G.2.1, 20, .inl g4)), (a6, .inl (G.2.1, 4, .inl g6)), (a7, .inl (G.2.1, 4, .inl g7)), (a15, .inl (G.2.1, 20, .inl g15)), (a16, .inl (G.2.1, 4, .inl g16)), (a17, .inl (G.2.1, 4, .inl g17)), (a21, .inl (G.2.1, 20, .inl t7)), (a22, .inl (G.2.1, 40, .inl g22)), (a24, .inl (G.2.1, 8, .inl g24)), (a25, .inl (G.2.1, 8, .inl g25)), (a26, .inl (G.2.2.1, 8, .inl g26)), (a27, .inl (G.2.1, 4, .inl g27)), (a28, .inl (G.2.1, 4, .inl g28)), (a29, .inl (G.2.1, 240, .inl g29)), (a30, .inl (G.2.1, 60, .inl g30))] below args s := ⟨_, rfl⟩
  rw [← hQ]
  have lp2 : ∀ (n2 : Nat) (x2_1 : Int32) (y2_7 : Nat → Int32), J2 n2 x2_1 y2_7 → ∀ (H : Heap) (locs : List Loc) (ls : Array Slot), HP G A [(m0, .inr (7, [.int f0, .int f1, .int f2, .int f3, .ref a4, .int f5, .ref a6, .ref a7, .int f8, .int f9, .int f10, .int f11, .int f12, .int f13, .int f14, .ref a15, .ref a16, .ref a17, .int f18, .int f19, .int f20, .ref a21, .ref a22, .int f23, .ref a24, .ref a25, .ref a26, .ref a27, .ref a28, .ref a29, .ref a30, .int f31])), (a4, .inl (G.2.1, 20, .inl g4)), (a6, .inl (G.2.1, 4, .inl g6)), (a7, .inl (G.2.1, 4, .inl g7)), (a15, .inl (G.2.1, 20, .inl g15)), (a16, .inl (G.2.1, 4, .inl g16)), (a17, .inl (G.2.1, 4, .inl g17)), (a21, .inl (G.2.1, 20, .inl y2_7)), (a22, .inl (G.2.1, 40, .inl g22)), (a24, .inl (G.2.1, 8, .inl g24)), (a25, .inl (G.2.1, 8, .inl g25)), (a26, .inl (G.2.2.1, 8, .inl g26)), (a27, .inl (G.2.1, 4, .inl g27)), (a28, .inl (G.2.1, 4, .inl g28)), (a29, .inl (G.2.1, 240, .inl g29)), (a30, .inl (G.2.1, 60, .inl g30))] s H locs → lv_has ls 2 [(0, .ref m0), (1, .int x2_1)] → W p l e rm_X7_keep s m args below meth c H locs 0 0 Q (F0 m 2 ls []) := by
    intro n2
    induction n2 using Nat.strongRecOn with
    | ind n2 ih2 =>
      intro x2_1 y2_7 hj2 H locs ls hh hl
      have hv := hv2 n2 x2_1 y2_7 hj2
      refine lv_iload_n (pc := 2) hx hb (dOk_at dX7_keep 2 rfl) rfl (lv_at hl 1 rfl) ?_
      refine lv_bipush (pc := 3) (v := 20) hx hb (dOk_at dX7_keep 3 rfl) (by decide) ?_
      refine lv_icmp_ge (pc := 5) (tgt := 26) hx hb (dOk_at dX7_keep 4 rfl) (by decide) (fun c5 => ?_) (fun c5 => ?_)
      · have hv := hv.1 c5
        have e0 := hv
        subst e0
        rw [hQ]
        exact r_vret (pc := 26) fx hh (dOk_at dX7_keep 15 rfl)
      · have hv := hv.2 c5
        refine lv_aload_n (pc := 8) hx hb (dOk_at dX7_keep 5 rfl) rfl (lv_at hl 0 rfl) ?_
        refine r_get (pc := 9) (ci := 7) fx hh inT7 rfl 21 (by decide) tFX7_28 rfl 0 rfl rfl (dOk_at dX7_keep 6 rfl) ?_
        refine lv_iload_n (pc := 12) hx hb (dOk_at dX7_keep 7 rfl) rfl (lv_at hl 1 rfl) ?_
        refine lv_aload_n (pc := 13) hx hb (dOk_at dX7_keep 8 rfl) rfl (lv_at hl 0 rfl) ?_
        refine r_get (pc := 14) (ci := 7) fx hh inT7 rfl 4 (by decide) tFX7_7 rfl 0 rfl rfl (dOk_at dX7_keep 9 rfl) ?_
        refine lv_iload_n (pc := 17) hx hb (dOk_at dX7_keep 10 rfl) rfl (lv_at hl 1 rfl) ?_
        refine r_iald (pc := 18) fx hh 1 rfl hv.1 (dOk_at dX7_keep 11 rfl) ?_
        have hv := hv.2
        refine r_iast (pc := 19) (w' := [(m0, .inr (7, [.int f0, .int f1, .int f2, .int f3, .ref a4, .int f5, .ref a6, .ref a7, .int f8, .int f9, .int f10, .int f11, .int f12, .int f13, .int f14, .ref a15, .ref a16, .ref a17, .int f18, .int f19, .int f20, .ref a21, .ref a22, .int f23, .ref a24, .ref a25, .ref a26, .ref a27, .ref a28, .ref a29, .ref a30, .int f31])), (a4, .inl (G.2.1, 20, .inl g4)), (a6, .inl (G.2.1, 4, .inl g6)), (a7, .inl (G.2.1, 4, .inl g7)), (a15, .inl (G.2.1, 20, .inl g15)), (a16, .inl (G.2.1, 4, .inl g16)), (a17, .inl (G.2.1, 4, .inl g17)), (a21, .inl (G.2.1, 20, .inl (upd y2_7 x2_1.toNatClampNeg (g4 x2_1.toNatClampNeg)))), (a22, .inl (G.2.1, 40, .inl g22)), (a24, .inl (G.2.1, 8, .inl g24)), (a25, .inl (G.2.1, 8, .inl g25)), (a26, .inl (G.2.2.1, 8, .inl g26)), (a27, .inl (G.2.1, 4, .inl g27)), (a28, .inl (G.2.1, 4, .inl g28)), (a29, .inl (G.2.1, 240, .inl g29)), (a30, .inl (G.2.1, 60, .inl g30))]) fx hh 7 rfl hv.1 rfl (dOk_at dX7_keep 12 rfl) (fun H locs hh => ?_)
        have hv := hv.2
        refine lv_iinc (pc := 20) (v := x2_1 + 1) (lv' := [(1, .int (x2_1 + 1)), (0, .ref m0)]) hx hb (dOk_at dX7_keep 13 rfl) hl (k := 1) rfl rfl (by decide) rfl (fun ls hl => ?_)
        refine lv_goto (pc := 23) (tgt := 2) hx hb (dOk_at dX7_keep 14 rfl) (by decide) ?_
        obtain ⟨k0, hk0, hj0⟩ := hv
        exact ih2 k0 hk0 (x2_1 + 1) (upd y2_7 x2_1.toNatClampNeg (g4 x2_1.toNatClampNeg)) hj0 _ _ _ hh (lv_sub hl [1, 0] rfl)
  refine lv_iconst (pc := 0) (v := 0) hx hb (dOk_at dX7_keep 0 rfl) (by decide) ?_
  refine lv_istore_n (pc := 1) (lv' := [(1, .int 0), (0, .ref m0)]) hx hb (dOk_at dX7_keep 1 rfl) rfl hl (by decide) rfl (fun ls hl => ?_)
  obtain ⟨k0, hj0⟩ := hv
  exact lp2 k0 0 g21 hj0 _ _ _ hh (lv_sub hl [1, 0] rfl)
set_option maxRecDepth 100000 in
set_option maxHeartbeats 4000000 in
theorem wk_X7_putBack (l : Launch) (G : GT) (m0 : Nat) (a4 : Nat) (a6 : Nat) (a7 : Nat) (a15 : Nat) (a16 : Nat) (a17 : Nat) (a21 : Nat) (a22 : Nat) (a24 : Nat) (a25 : Nat) (a26 : Nat) (a27 : Nat) (a28 : Nat) (a29 : Nat) (a30 : Nat) (f0 : Int32) (f1 : Int32) (f2 : Int32) (f3 : Int32) (f5 : Int32) (f8 : Int32) (f9 : Int32) (f10 : Int32) (f11 : Int32) (f12 : Int32) (f13 : Int32) (f14 : Int32) (f18 : Int32) (f19 : Int32) (f20 : Int32) (f23 : Int32) (f31 : Int32) (g4 : Nat → Int32) (g6 : Nat → Int32) (g7 : Nat → Int32) (g15 : Nat → Int32) (g16 : Nat → Int32) (g17 : Nat → Int32) (g21 : Nat → Int32) (g22 : Nat → Int32) (g24 : Nat → Int32) (g25 : Nat → Int32) (g26 : Nat → Int32) (g27 : Nat → Int32) (g28 : Nat → Int32) (g29 : Nat → Int32) (g30 : Nat → Int32) (t1 : Nat → Int32) (J2 : Nat → Int32 → (Nat → Int32) → Prop)
    (hv : ∃ k2 : Nat, J2 k2 0 g4)
    (hv2 : ∀ (n2 : Nat) (x2_1 : Int32) (y2_1 : Nat → Int32), J2 n2 x2_1 y2_1 → (20 ≤ x2_1 → y2_1 = t1) ∧ (¬ 20 ≤ x2_1 → vp_in x2_1 20 ∧ (vp_in x2_1 20 ∧ (∃ k1 : Nat, k1 < n2 ∧ J2 k1 (x2_1 + 1) (upd y2_1 x2_1.toNatClampNeg (g21 x2_1.toNatClampNeg)))))) :
    MF l G yX7_putBack cX7_putBack 2 none rm_X7_putBack [.ref m0] [(m0, .inr (7, [.int f0, .int f1, .int f2, .int f3, .ref a4, .int f5, .ref a6, .ref a7, .int f8, .int f9, .int f10, .int f11, .int f12, .int f13, .int f14, .ref a15, .ref a16, .ref a17, .int f18, .int f19, .int f20, .ref a21, .ref a22, .int f23, .ref a24, .ref a25, .ref a26, .ref a27, .ref a28, .ref a29, .ref a30, .int f31])), (a4, .inl (G.2.1, 20, .inl g4)), (a6, .inl (G.2.1, 4, .inl g6)), (a7, .inl (G.2.1, 4, .inl g7)), (a15, .inl (G.2.1, 20, .inl g15)), (a16, .inl (G.2.1, 4, .inl g16)), (a17, .inl (G.2.1, 4, .inl g17)), (a21, .inl (G.2.1, 20, .inl g21)), (a22, .inl (G.2.1, 40, .inl g22)), (a24, .inl (G.2.1, 8, .inl g24)), (a25, .inl (G.2.1, 8, .inl g25)), (a26, .inl (G.2.2.1, 8, .inl g26)), (a27, .inl (G.2.1, 4, .inl g27)), (a28, .inl (G.2.1, 4, .inl g28)), (a29, .inl (G.2.1, 240, .inl g29)), (a30, .inl (G.2.1, 60, .inl g30))] none [(m0, .inr (7, [.int f0, .int f1, .int f2, .int f3, .ref a4, .int f5, .ref a6, .ref a7, .int f8, .int f9, .int f10, .int f11, .int f12, .int f13, .int f14, .ref a15, .ref a16, .ref a17, .int f18, .int f19, .int f20, .ref a21, .ref a22, .int f23, .ref a24, .ref a25, .ref a26, .ref a27, .ref a28, .ref a29, .ref a30, .int f31])), (a4, .inl (G.2.1, 20, .inl t1)), (a6, .inl (G.2.1, 4, .inl g6)), (a7, .inl (G.2.1, 4, .inl g7)), (a15, .inl (G.2.1, 20, .inl g15)), (a16, .inl (G.2.1, 4, .inl g16)), (a17, .inl (G.2.1, 4, .inl g17)), (a21, .inl (G.2.1, 20, .inl g21)), (a22, .inl (G.2.1, 40, .inl g22)), (a24, .inl (G.2.1, 8, .inl g24)), (a25, .inl (G.2.1, 8, .inl g25)), (a26, .inl (G.2.2.1, 8, .inl g26)), (a27, .inl (G.2.1, 4, .inl g27)), (a28, .inl (G.2.1, 4, .inl g28)), (a29, .inl (G.2.1, 240, .inl g29)), (a30, .inl (G.2.1, 60, .inl g30))] := by
  refine MF.of (by decide +kernel) (Nat.le_of_ble_eq_true rfl) ?_
  intro p e s m args below meth c A ls fx hh hl _
  have hx := fx.hx
  have hb := fx.hb
  have hl : lv_has ls 2 [(0, .ref m0)] := hl
  obtain ⟨Q, hQ⟩ : ∃ Q, Q = ZZ G A none [(m0, .inr (7, [.int f0, .int f1, .int f2, .int f3, .ref a4, .int f5, .ref a6, .ref a7, .int f8, .int f9, .int f10, .int f11, .int f12, .int f13, .int f14, .ref a15, .ref a16, .ref a17, .int f18, .int f19, .int f20, .ref a21, .ref a22, .int f23, .ref a24, .ref a25, .ref a26, .ref a27, .ref a28, .ref a29, .ref a30, .int f31])), (a4, .inl (G.2.1, 20, .inl t1)), (a6, .inl (G.2.1, 4, .inl g6)), (a7, .inl (G.2.1, 4, .inl g7)), (a15, .inl (G.2.1, 20, .inl g15)), (a16, .inl (G.2.1, 4, .inl g16)), (a17, .inl (G.2.1, 4, .inl g17)), (a21, .inl (G.2.1, 20, .inl g21)), (a22, .inl (G.2.1, 40, .inl g22)), (a24, .inl (G.2.1, 8, .inl g24)), (a25, .inl (G.2.1, 8, .inl g25)), (a26, .inl (G.2.2.1, 8, .inl g26)), (a27, .inl (G.2.1, 4, .inl g27)), (a28, .inl (G.2.1, 4, .inl g28)), (a29, .inl (G.2.1, 240, .inl g29)), (a30, .inl (G.2.1, 60, .inl g30))] below args s := ⟨_, rfl⟩
  rw [← hQ]
  have lp2 : ∀ (n2 : Nat) (x2_1 : Int32) (y2_1 : Nat → Int32), J2 n2 x2_1 y2_1 → ∀ (H : Heap) (locs : List Loc) (ls : Array Slot), HP G A [(m0, .inr (7, [.int f0, .int f1, .int f2, .int f3, .ref a4, .int f5, .ref a6, .ref a7, .int f8, .int f9, .int f10, .int f11, .int f12, .int f13, .int f14, .ref a15, .ref a16, .ref a17, .int f18, .int f19, .int f20, .ref a21, .ref a22, .int f23, .ref a24, .ref a25, .ref a26, .ref a27, .ref a28, .ref a29, .ref a30, .int f31])), (a4, .inl (G.2.1, 20, .inl y2_1)), (a6, .inl (G.2.1, 4, .inl g6)), (a7, .inl (G.2.1, 4, .inl g7)), (a15, .inl (G.2.1, 20, .inl g15)), (a16, .inl (G.2.1, 4, .inl g16)), (a17, .inl (G.2.1, 4, .inl g17)), (a21, .inl (G.2.1, 20, .inl g21)), (a22, .inl (G.2.1, 40, .inl g22)), (a24, .inl (G.2.1, 8, .inl g24)), (a25, .inl (G.2.1, 8, .inl g25)), (a26, .inl (G.2.2.1, 8, .inl g26)), (a27, .inl (G.2.1, 4, .inl g27)), (a28, .inl (G.2.1, 4, .inl g28)), (a29, .inl (G.2.1, 240, .inl g29)), (a30, .inl (G.2.1, 60, .inl g30))] s H locs → lv_has ls 2 [(0, .ref m0), (1, .int x2_1)] → W p l e rm_X7_putBack s m args below meth c H locs 0 0 Q (F0 m 2 ls []) := by
    intro n2
    induction n2 using Nat.strongRecOn with
    | ind n2 ih2 =>
      intro x2_1 y2_1 hj2 H locs ls hh hl
      have hv := hv2 n2 x2_1 y2_1 hj2
      refine lv_iload_n (pc := 2) hx hb (dOk_at dX7_putBack 2 rfl) rfl (lv_at hl 1 rfl) ?_
      refine lv_bipush (pc := 3) (v := 20) hx hb (dOk_at dX7_putBack 3 rfl) (by decide) ?_
      refine lv_icmp_ge (pc := 5) (tgt := 26) hx hb (dOk_at dX7_putBack 4 rfl) (by decide) (fun c5 => ?_) (fun c5 => ?_)
      · have hv := hv.1 c5
        have e0 := hv
        subst e0
        rw [hQ]
        exact r_vret (pc := 26) fx hh (dOk_at dX7_putBack 15 rfl)
      · have hv := hv.2 c5
        refine lv_aload_n (pc := 8) hx hb (dOk_at dX7_putBack 5 rfl) rfl (lv_at hl 0 rfl) ?_
        refine r_get (pc := 9) (ci := 7) fx hh inT7 rfl 4 (by decide) tFX7_7 rfl 0 rfl rfl (dOk_at dX7_putBack 6 rfl) ?_
        refine lv_iload_n (pc := 12) hx hb (dOk_at dX7_putBack 7 rfl) rfl (lv_at hl 1 rfl) ?_
        refine lv_aload_n (pc := 13) hx hb (dOk_at dX7_putBack 8 rfl) rfl (lv_at hl 0 rfl) ?_
        refine r_get (pc := 14) (ci := 7) fx hh inT7 rfl 21 (by decide) tFX7_28 rfl 0 rfl rfl (dOk_at dX7_putBack 9 rfl) ?_
        refine lv_iload_n (pc := 17) hx hb (dOk_at dX7_putBack 10 rfl) rfl (lv_at hl 1 rfl) ?_
        refine r_iald (pc := 18) fx hh 7 rfl hv.1 (dOk_at dX7_putBack 11 rfl) ?_
        have hv := hv.2
        refine r_iast (pc := 19) (w' := [(m0, .inr (7, [.int f0, .int f1, .int f2, .int f3, .ref a4, .int f5, .ref a6, .ref a7, .int f8, .int f9, .int f10, .int f11, .int f12, .int f13, .int f14, .ref a15, .ref a16, .ref a17, .int f18, .int f19, .int f20, .ref a21, .ref a22, .int f23, .ref a24, .ref a25, .ref a26, .ref a27, .ref a28, .ref a29, .ref a30, .int f31])), (a4, .inl (G.2.1, 20, .inl (upd y2_1 x2_1.toNatClampNeg (g21 x2_1.toNatClampNeg)))), (a6, .inl (G.2.1, 4, .inl g6)), (a7, .inl (G.2.1, 4, .inl g7)), (a15, .inl (G.2.1, 20, .inl g15)), (a16, .inl (G.2.1, 4, .inl g16)), (a17, .inl (G.2.1, 4, .inl g17)), (a21, .inl (G.2.1, 20, .inl g21)), (a22, .inl (G.2.1, 40, .inl g22)), (a24, .inl (G.2.1, 8, .inl g24)), (a25, .inl (G.2.1, 8, .inl g25)), (a26, .inl (G.2.2.1, 8, .inl g26)), (a27, .inl (G.2.1, 4, .inl g27)), (a28, .inl (G.2.1, 4, .inl g28)), (a29, .inl (G.2.1, 240, .inl g29)), (a30, .inl (G.2.1, 60, .inl g30))]) fx hh 1 rfl hv.1 rfl (dOk_at dX7_putBack 12 rfl) (fun H locs hh => ?_)
        have hv := hv.2
        refine lv_iinc (pc := 20) (v := x2_1 + 1) (lv' := [(1, .int (x2_1 + 1)), (0, .ref m0)]) hx hb (dOk_at dX7_putBack 13 rfl) hl (k := 1) rfl rfl (by decide) rfl (fun ls hl => ?_)
        refine lv_goto (pc := 23) (tgt := 2) hx hb (dOk_at dX7_putBack 14 rfl) (by decide) ?_
        obtain ⟨k0, hk0, hj0⟩ := hv
        exact ih2 k0 hk0 (x2_1 + 1) (upd y2_1 x2_1.toNatClampNeg (g21 x2_1.toNatClampNeg)) hj0 _ _ _ hh (lv_sub hl [1, 0] rfl)
  refine lv_iconst (pc := 0) (v := 0) hx hb (dOk_at dX7_putBack 0 rfl) (by decide) ?_
  refine lv_istore_n (pc := 1) (lv' := [(1, .int 0), (0, .ref m0)]) hx hb (dOk_at dX7_putBack 1 rfl) rfl hl (by decide) rfl (fun ls hl => ?_)
  obtain ⟨k0, hj0⟩ := hv
  exact lp2 k0 0 g4 hj0 _ _ _ hh (lv_sub hl [1, 0] rfl)
set_option maxRecDepth 100000 in
set_option maxHeartbeats 4000000 in
theorem wk_X7_strokesBarred (l : Launch) (G : GT) (m0 : Nat) (a4 : Nat) (a6 : Nat) (a7 : Nat) (a15 : Nat) (a16 : Nat) (a17 : Nat) (a21 : Nat) (a22 : Nat) (a24 : Nat) (a25 : Nat) (a26 : Nat) (a27 : Nat) (a28 : Nat) (a29 : Nat) (a30 : Nat) (f0 : Int32) (f1 : Int32) (f2 : Int32) (f3 : Int32) (f5 : Int32) (f8 : Int32) (f9 : Int32) (f10 : Int32) (f11 : Int32) (f12 : Int32) (f13 : Int32) (f14 : Int32) (f18 : Int32) (f19 : Int32) (f20 : Int32) (f23 : Int32) (f31 : Int32) (g4 : Nat → Int32) (g6 : Nat → Int32) (g7 : Nat → Int32) (g15 : Nat → Int32) (g16 : Nat → Int32) (g17 : Nat → Int32) (g21 : Nat → Int32) (g22 : Nat → Int32) (g24 : Nat → Int32) (g25 : Nat → Int32) (g26 : Nat → Int32) (g27 : Nat → Int32) (g28 : Nat → Int32) (g29 : Nat → Int32) (g30 : Nat → Int32) (k : Int32) (lane : Int32) (i : Int32) (n : Int32) (R : Int32) (t0_0 : Int32) (J23 : Nat → Int32 → Prop) (h_X7_cellsBarred : K_X7_cellsBarred l G) (h_X7_in : K_X7_in l G) (h_X7_refused : K_X7_refused l G)
    (hv : vp_in k 4 ∧ ((0 ≤ (q_bRes (q_barred g27 g28 k lane i n.toInt64)) → ∃ k2 : Nat, J23 k2 0) ∧ (¬ 0 ≤ (q_bRes (q_barred g27 g28 k lane i n.toInt64)) → (q_bRes (q_barred g27 g28 k lane i n.toInt64)) = R ∧ (q_bFault (q_barred g27 g28 k lane i n.toInt64) f0) = t0_0)))
    (hv23 : ∀ (n23 : Nat) (x23_6 : Int32), J23 n23 x23_6 → (n ≤ x23_6 → (0 : Int32) = R ∧ (0 : Int32) = t0_0) ∧ (¬ n ≤ x23_6 → vp_in (((60 * k) + i) + x23_6) 240 ∧ ((¬ (q_in ((g29 (((60 * k) + i) + x23_6).toNatClampNeg).toInt64) 0 3) = 0 → ∃ k1 : Nat, k1 < n23 ∧ J23 k1 (x23_6 + 1)) ∧ ((q_in ((g29 (((60 * k) + i) + x23_6).toNatClampNeg).toInt64) 0 3) = 0 → (-2 : Int32) = R ∧ (0 : Int32) = t0_0)))) :
    MF l G yX7_strokesBarred cX7_strokesBarred 7 (some .int) rm_X7_strokesBarred [.ref m0, .int k, .int lane, .int i, .int n] [(m0, .inr (7, [.int f0, .int f1, .int f2, .int f3, .ref a4, .int f5, .ref a6, .ref a7, .int f8, .int f9, .int f10, .int f11, .int f12, .int f13, .int f14, .ref a15, .ref a16, .ref a17, .int f18, .int f19, .int f20, .ref a21, .ref a22, .int f23, .ref a24, .ref a25, .ref a26, .ref a27, .ref a28, .ref a29, .ref a30, .int f31])), (a4, .inl (G.2.1, 20, .inl g4)), (a6, .inl (G.2.1, 4, .inl g6)), (a7, .inl (G.2.1, 4, .inl g7)), (a15, .inl (G.2.1, 20, .inl g15)), (a16, .inl (G.2.1, 4, .inl g16)), (a17, .inl (G.2.1, 4, .inl g17)), (a21, .inl (G.2.1, 20, .inl g21)), (a22, .inl (G.2.1, 40, .inl g22)), (a24, .inl (G.2.1, 8, .inl g24)), (a25, .inl (G.2.1, 8, .inl g25)), (a26, .inl (G.2.2.1, 8, .inl g26)), (a27, .inl (G.2.1, 4, .inl g27)), (a28, .inl (G.2.1, 4, .inl g28)), (a29, .inl (G.2.1, 240, .inl g29)), (a30, .inl (G.2.1, 60, .inl g30))] (some (.int R)) [(m0, .inr (7, [.int t0_0, .int f1, .int f2, .int f3, .ref a4, .int f5, .ref a6, .ref a7, .int f8, .int f9, .int f10, .int f11, .int f12, .int f13, .int f14, .ref a15, .ref a16, .ref a17, .int f18, .int f19, .int f20, .ref a21, .ref a22, .int f23, .ref a24, .ref a25, .ref a26, .ref a27, .ref a28, .ref a29, .ref a30, .int f31])), (a4, .inl (G.2.1, 20, .inl g4)), (a6, .inl (G.2.1, 4, .inl g6)), (a7, .inl (G.2.1, 4, .inl g7)), (a15, .inl (G.2.1, 20, .inl g15)), (a16, .inl (G.2.1, 4, .inl g16)), (a17, .inl (G.2.1, 4, .inl g17)), (a21, .inl (G.2.1, 20, .inl g21)), (a22, .inl (G.2.1, 40, .inl g22)), (a24, .inl (G.2.1, 8, .inl g24)), (a25, .inl (G.2.1, 8, .inl g25)), (a26, .inl (G.2.2.1, 8, .inl g26)), (a27, .inl (G.2.1, 4, .inl g27)), (a28, .inl (G.2.1, 4, .inl g28)), (a29, .inl (G.2.1, 240, .inl g29)), (a30, .inl (G.2.1, 60, .inl g30))] := by
  refine MF.of (by decide +kernel) (Nat.le_of_ble_eq_true rfl) ?_
  intro p e s m args below meth c A ls fx hh hl _
  have hx := fx.hx
  have hb := fx.hb
  have hl : lv_has ls 7 [(0, .ref m0), (1, .int k), (2, .int lane), (3, .int i), (4, .int n)] := hl
  obtain ⟨Q, hQ⟩ : ∃ Q, Q = ZZ G A (some (.int R)) [(m0, .inr (7, [.int t0_0, .int f1, .int f2, .int f3, .ref a4, .int f5, .ref a6, .ref a7, .int f8, .int f9, .int f10, .int f11, .int f12, .int f13, .int f14, .ref a15, .ref a16, .ref a17, .int f18, .int f19, .int f20, .ref a21, .ref a22, .int f23, .ref a24, .ref a25, .ref a26, .ref a27, .ref a28, .ref a29, .ref a30, .int f31])), (a4, .inl (G.2.1, 20, .inl g4)), (a6, .inl (G.2.1, 4, .inl g6)), (a7, .inl (G.2.1, 4, .inl g7)), (a15, .inl (G.2.1, 20, .inl g15)), (a16, .inl (G.2.1, 4, .inl g16)), (a17, .inl (G.2.1, 4, .inl g17)), (a21, .inl (G.2.1, 20, .inl g21)), (a22, .inl (G.2.1, 40, .inl g22)), (a24, .inl (G.2.1, 8, .inl g24)), (a25, .inl (G.2.1, 8, .inl g25)), (a26, .inl (G.2.2.1, 8, .inl g26)), (a27, .inl (G.2.1, 4, .inl g27)), (a28, .inl (G.2.1, 4, .inl g28)), (a29, .inl (G.2.1, 240, .inl g29)), (a30, .inl (G.2.1, 60, .inl g30))] below args s := ⟨_, rfl⟩
  rw [← hQ]
  have lp23 : ∀ (n23 : Nat) (x23_6 : Int32), J23 n23 x23_6 → ∀ (H : Heap) (locs : List Loc) (ls : Array Slot), HP G A [(m0, .inr (7, [.int (q_bFault (q_barred g27 g28 k lane i n.toInt64) f0), .int f1, .int f2, .int f3, .ref a4, .int f5, .ref a6, .ref a7, .int f8, .int f9, .int f10, .int f11, .int f12, .int f13, .int f14, .ref a15, .ref a16, .ref a17, .int f18, .int f19, .int f20, .ref a21, .ref a22, .int f23, .ref a24, .ref a25, .ref a26, .ref a27, .ref a28, .ref a29, .ref a30, .int f31])), (a4, .inl (G.2.1, 20, .inl g4)), (a6, .inl (G.2.1, 4, .inl g6)), (a7, .inl (G.2.1, 4, .inl g7)), (a15, .inl (G.2.1, 20, .inl g15)), (a16, .inl (G.2.1, 4, .inl g16)), (a17, .inl (G.2.1, 4, .inl g17)), (a21, .inl (G.2.1, 20, .inl g21)), (a22, .inl (G.2.1, 40, .inl g22)), (a24, .inl (G.2.1, 8, .inl g24)), (a25, .inl (G.2.1, 8, .inl g25)), (a26, .inl (G.2.2.1, 8, .inl g26)), (a27, .inl (G.2.1, 4, .inl g27)), (a28, .inl (G.2.1, 4, .inl g28)), (a29, .inl (G.2.1, 240, .inl g29)), (a30, .inl (G.2.1, 60, .inl g30))] s H locs → lv_has ls 7 [(0, .ref m0), (1, .int k), (3, .int i), (4, .int n), (6, .int x23_6)] → W p l e rm_X7_strokesBarred s m args below meth c H locs 0 0 Q (F0 m 23 ls []) := by
    intro n23
    induction n23 using Nat.strongRecOn with
    | ind n23 ih23 =>
      intro x23_6 hj23 H locs ls hh hl
      have hv := hv23 n23 x23_6 hj23
      refine lv_iload (pc := 23) hx hb (dOk_at dX7_strokesBarred 14 rfl) (lv_at hl 4 rfl) ?_
      refine lv_iload (pc := 25) hx hb (dOk_at dX7_strokesBarred 15 rfl) (lv_at hl 3 rfl) ?_
      refine lv_icmp_ge (pc := 27) (tgt := 68) hx hb (dOk_at dX7_strokesBarred 16 rfl) (by decide) (fun c27 => ?_) (fun c27 => ?_)
      · have hv := hv.1 c27
        refine lv_aload_n (pc := 68) hx hb (dOk_at dX7_strokesBarred 38 rfl) rfl (lv_at hl 0 rfl) ?_
        refine lv_iconst (pc := 69) (v := 0) hx hb (dOk_at dX7_strokesBarred 39 rfl) (by decide) ?_
        refine cl_V (pc := 70) (w' := [(m0, .inr (7, [.int 0, .int f1, .int f2, .int f3, .ref a4, .int f5, .ref a6, .ref a7, .int f8, .int f9, .int f10, .int f11, .int f12, .int f13, .int f14, .ref a15, .ref a16, .ref a17, .int f18, .int f19, .int f20, .ref a21, .ref a22, .int f23, .ref a24, .ref a25, .ref a26, .ref a27, .ref a28, .ref a29, .ref a30, .int f31])), (a4, .inl (G.2.1, 20, .inl g4)), (a6, .inl (G.2.1, 4, .inl g6)), (a7, .inl (G.2.1, 4, .inl g7)), (a15, .inl (G.2.1, 20, .inl g15)), (a16, .inl (G.2.1, 4, .inl g16)), (a17, .inl (G.2.1, 4, .inl g17)), (a21, .inl (G.2.1, 20, .inl g21)), (a22, .inl (G.2.1, 40, .inl g22)), (a24, .inl (G.2.1, 8, .inl g24)), (a25, .inl (G.2.1, 8, .inl g25)), (a26, .inl (G.2.2.1, 8, .inl g26)), (a27, .inl (G.2.1, 4, .inl g27)), (a28, .inl (G.2.1, 4, .inl g28)), (a29, .inl (G.2.1, 240, .inl g29)), (a30, .inl (G.2.1, 60, .inl g30))]) (wr := []) (rest := []) fx hh hl.1 (h_X7_refused m0 a4 a6 a7 a15 a16 a17 a21 a22 a24 a25 a26 a27 a28 a29 a30 (q_bFault (q_barred g27 g28 k lane i n.toInt64) f0) f1 f2 f3 f5 f8 f9 f10 f11 f12 f13 f14 f18 f19 f20 f23 f31 g4 g6 g7 g15 g16 g17 g21 g22 g24 g25 g26 g27 g28 g29 g30 0) yV_X7_refused tMX7_129 ⟨rfl, rfl, Nat.le_of_ble_eq_true rfl, Nat.le_of_ble_eq_true rfl⟩ 0 7 rfl rfl rfl [0, 1, 2, 3, 4, 5, 6, 7, 8, 9, 10, 11, 12, 13, 14, 15] [] [0, 1, 2, 3, 4, 5, 6, 7, 8, 9, 10, 11, 12, 13, 14, 15] rfl rfl rfl (by decide) (by decide) rfl rfl (Nat.le_of_ble_eq_true rfl) ⟨Nat.le_of_ble_eq_true rfl, Nat.le_of_ble_eq_true rfl⟩ (dOk_at dX7_strokesBarred 40 rfl) (fun H locs hh => ?_)
        obtain ⟨e0, e1⟩ := hv
        subst e0
        subst e1
        rw [hQ]
        exact r_iret (pc := 73) fx hh (dOk_at dX7_strokesBarred 41 rfl)
      · have hv := hv.2 c27
        refine lv_aload_n (pc := 30) hx hb (dOk_at dX7_strokesBarred 17 rfl) rfl (lv_at hl 0 rfl) ?_
        refine r_get (pc := 31) (ci := 7) fx hh inT7 rfl 29 (by decide) tFX7_50 rfl 0 rfl rfl (dOk_at dX7_strokesBarred 18 rfl) ?_
        refine lv_bipush (pc := 34) (v := 60) hx hb (dOk_at dX7_strokesBarred 19 rfl) (by decide) ?_
        refine lv_iload_n (pc := 36) hx hb (dOk_at dX7_strokesBarred 20 rfl) rfl (lv_at hl 1 rfl) ?_
        refine lv_imul (pc := 37) hx hb (dOk_at dX7_strokesBarred 21 rfl) ?_
        refine lv_iload_n (pc := 38) hx hb (dOk_at dX7_strokesBarred 22 rfl) rfl (lv_at hl 2 rfl) ?_
        refine lv_iadd (pc := 39) hx hb (dOk_at dX7_strokesBarred 23 rfl) ?_
        refine lv_iload (pc := 40) hx hb (dOk_at dX7_strokesBarred 24 rfl) (lv_at hl 4 rfl) ?_
        refine lv_iadd (pc := 42) hx hb (dOk_at dX7_strokesBarred 25 rfl) ?_
        refine r_iald (pc := 43) fx hh 14 rfl hv.1 (dOk_at dX7_strokesBarred 26 rfl) ?_
        have hv := hv.2
        refine lv_i2l (pc := 44) (v := (g29 (((60 * k) + i) + x23_6).toNatClampNeg).toInt64) hx hb (dOk_at dX7_strokesBarred 27 rfl) rfl ?_
        refine lv_lconst (pc := 45) (v := 0) hx hb (dOk_at dX7_strokesBarred 28 rfl) (by decide) ?_
        refine lv_ldc2 (pc := 46) (v := 3) hx hb fx.hown (fx.hts _ tLX7_182) (dOk_at dX7_strokesBarred 29 rfl) ?_
        refine cl_S (pc := 49) (w' := [(m0, .inr (7, [.int (q_bFault (q_barred g27 g28 k lane i n.toInt64) f0), .int f1, .int f2, .int f3, .ref a4, .int f5, .ref a6, .ref a7, .int f8, .int f9, .int f10, .int f11, .int f12, .int f13, .int f14, .ref a15, .ref a16, .ref a17, .int f18, .int f19, .int f20, .ref a21, .ref a22, .int f23, .ref a24, .ref a25, .ref a26, .ref a27, .ref a28, .ref a29, .ref a30, .int f31])), (a4, .inl (G.2.1, 20, .inl g4)), (a6, .inl (G.2.1, 4, .inl g6)), (a7, .inl (G.2.1, 4, .inl g7)), (a15, .inl (G.2.1, 20, .inl g15)), (a16, .inl (G.2.1, 4, .inl g16)), (a17, .inl (G.2.1, 4, .inl g17)), (a21, .inl (G.2.1, 20, .inl g21)), (a22, .inl (G.2.1, 40, .inl g22)), (a24, .inl (G.2.1, 8, .inl g24)), (a25, .inl (G.2.1, 8, .inl g25)), (a26, .inl (G.2.2.1, 8, .inl g26)), (a27, .inl (G.2.1, 4, .inl g27)), (a28, .inl (G.2.1, 4, .inl g28)), (a29, .inl (G.2.1, 240, .inl g29)), (a30, .inl (G.2.1, 60, .inl g30))]) (wr := [(m0, .inr (7, [.int (q_bFault (q_barred g27 g28 k lane i n.toInt64) f0), .int f1, .int f2, .int f3, .ref a4, .int f5, .ref a6, .ref a7, .int f8, .int f9, .int f10, .int f11, .int f12, .int f13, .int f14, .ref a15, .ref a16, .ref a17, .int f18, .int f19, .int f20, .ref a21, .ref a22, .int f23, .ref a24, .ref a25, .ref a26, .ref a27, .ref a28, .ref a29, .ref a30, .int f31])), (a4, .inl (G.2.1, 20, .inl g4)), (a6, .inl (G.2.1, 4, .inl g6)), (a7, .inl (G.2.1, 4, .inl g7)), (a15, .inl (G.2.1, 20, .inl g15)), (a16, .inl (G.2.1, 4, .inl g16)), (a17, .inl (G.2.1, 4, .inl g17)), (a21, .inl (G.2.1, 20, .inl g21)), (a22, .inl (G.2.1, 40, .inl g22)), (a24, .inl (G.2.1, 8, .inl g24)), (a25, .inl (G.2.1, 8, .inl g25)), (a26, .inl (G.2.2.1, 8, .inl g26)), (a27, .inl (G.2.1, 4, .inl g27)), (a28, .inl (G.2.1, 4, .inl g28)), (a29, .inl (G.2.1, 240, .inl g29)), (a30, .inl (G.2.1, 60, .inl g30))]) (rest := []) fx hh hl.1 (h_X7_in ((g29 (((60 * k) + i) + x23_6).toNatClampNeg).toInt64) 0 3) yS_X7_in tMX7_76 ⟨rfl, rfl, Nat.le_of_ble_eq_true rfl, Nat.le_of_ble_eq_true rfl⟩ [] [0, 1, 2, 3, 4, 5, 6, 7, 8, 9, 10, 11, 12, 13, 14, 15] [0, 1, 2, 3, 4, 5, 6, 7, 8, 9, 10, 11, 12, 13, 14, 15] rfl rfl rfl (by decide) (by decide) rfl rfl (Nat.le_of_ble_eq_true rfl) ⟨Nat.le_of_ble_eq_true rfl, Nat.le_of_ble_eq_true rfl⟩ (dOk_at dX7_strokesBarred 30 rfl) (fun H locs hh => ?_)
        refine lv_if_ne (pc := 52) (tgt := 62) hx hb (dOk_at dX7_strokesBarred 31 rfl) (by decide) (fun c52 => ?_) (fun c52 => ?_)
        · have hv := hv.1 c52
          refine lv_iinc (pc := 62) (v := x23_6 + 1) (lv' := [(6, .int (x23_6 + 1)), (0, .ref m0), (1, .int k), (3, .int i), (4, .int n)]) hx hb (dOk_at dX7_strokesBarred 36 rfl) hl (k := 4) rfl rfl (by decide) rfl (fun ls hl => ?_)
          refine lv_goto (pc := 65) (tgt := 23) hx hb (dOk_at dX7_strokesBarred 37 rfl) (by decide) ?_
          obtain ⟨k0, hk0, hj0⟩ := hv
          exact ih23 k0 hk0 (x23_6 + 1) hj0 _ _ _ hh (lv_sub hl [1, 2, 3, 4, 0] rfl)
        · have hv := hv.2 c52
          refine lv_aload_n (pc := 55) hx hb (dOk_at dX7_strokesBarred 32 rfl) rfl (lv_at hl 0 rfl) ?_
          refine lv_bipush (pc := 56) (v := (-2)) hx hb (dOk_at dX7_strokesBarred 33 rfl) (by decide) ?_
          refine cl_V (pc := 58) (w' := [(m0, .inr (7, [.int 0, .int f1, .int f2, .int f3, .ref a4, .int f5, .ref a6, .ref a7, .int f8, .int f9, .int f10, .int f11, .int f12, .int f13, .int f14, .ref a15, .ref a16, .ref a17, .int f18, .int f19, .int f20, .ref a21, .ref a22, .int f23, .ref a24, .ref a25, .ref a26, .ref a27, .ref a28, .ref a29, .ref a30, .int f31])), (a4, .inl (G.2.1, 20, .inl g4)), (a6, .inl (G.2.1, 4, .inl g6)), (a7, .inl (G.2.1, 4, .inl g7)), (a15, .inl (G.2.1, 20, .inl g15)), (a16, .inl (G.2.1, 4, .inl g16)), (a17, .inl (G.2.1, 4, .inl g17)), (a21, .inl (G.2.1, 20, .inl g21)), (a22, .inl (G.2.1, 40, .inl g22)), (a24, .inl (G.2.1, 8, .inl g24)), (a25, .inl (G.2.1, 8, .inl g25)), (a26, .inl (G.2.2.1, 8, .inl g26)), (a27, .inl (G.2.1, 4, .inl g27)), (a28, .inl (G.2.1, 4, .inl g28)), (a29, .inl (G.2.1, 240, .inl g29)), (a30, .inl (G.2.1, 60, .inl g30))]) (wr := []) (rest := []) fx hh hl.1 (h_X7_refused m0 a4 a6 a7 a15 a16 a17 a21 a22 a24 a25 a26 a27 a28 a29 a30 (q_bFault (q_barred g27 g28 k lane i n.toInt64) f0) f1 f2 f3 f5 f8 f9 f10 f11 f12 f13 f14 f18 f19 f20 f23 f31 g4 g6 g7 g15 g16 g17 g21 g22 g24 g25 g26 g27 g28 g29 g30 (-2)) yV_X7_refused tMX7_129 ⟨rfl, rfl, Nat.le_of_ble_eq_true rfl, Nat.le_of_ble_eq_true rfl⟩ 0 7 rfl rfl rfl [0, 1, 2, 3, 4, 5, 6, 7, 8, 9, 10, 11, 12, 13, 14, 15] [] [0, 1, 2, 3, 4, 5, 6, 7, 8, 9, 10, 11, 12, 13, 14, 15] rfl rfl rfl (by decide) (by decide) rfl rfl (Nat.le_of_ble_eq_true rfl) ⟨Nat.le_of_ble_eq_true rfl, Nat.le_of_ble_eq_true rfl⟩ (dOk_at dX7_strokesBarred 34 rfl) (fun H locs hh => ?_)
          obtain ⟨e0, e1⟩ := hv
          subst e0
          subst e1
          rw [hQ]
          exact r_iret (pc := 61) fx hh (dOk_at dX7_strokesBarred 35 rfl)
  refine lv_aload_n (pc := 0) hx hb (dOk_at dX7_strokesBarred 0 rfl) rfl (lv_at hl 0 rfl) ?_
  refine lv_iload_n (pc := 1) hx hb (dOk_at dX7_strokesBarred 1 rfl) rfl (lv_at hl 1 rfl) ?_
  refine lv_iload_n (pc := 2) hx hb (dOk_at dX7_strokesBarred 2 rfl) rfl (lv_at hl 2 rfl) ?_
  refine lv_iload_n (pc := 3) hx hb (dOk_at dX7_strokesBarred 3 rfl) rfl (lv_at hl 3 rfl) ?_
  refine lv_iload (pc := 4) hx hb (dOk_at dX7_strokesBarred 4 rfl) (lv_at hl 4 rfl) ?_
  refine lv_i2l (pc := 6) (v := n.toInt64) hx hb (dOk_at dX7_strokesBarred 5 rfl) rfl ?_
  refine cl_V (pc := 7) (w' := [(m0, .inr (7, [.int (q_bFault (q_barred g27 g28 k lane i n.toInt64) f0), .int f1, .int f2, .int f3, .ref a4, .int f5, .ref a6, .ref a7, .int f8, .int f9, .int f10, .int f11, .int f12, .int f13, .int f14, .ref a15, .ref a16, .ref a17, .int f18, .int f19, .int f20, .ref a21, .ref a22, .int f23, .ref a24, .ref a25, .ref a26, .ref a27, .ref a28, .ref a29, .ref a30, .int f31])), (a4, .inl (G.2.1, 20, .inl g4)), (a6, .inl (G.2.1, 4, .inl g6)), (a7, .inl (G.2.1, 4, .inl g7)), (a15, .inl (G.2.1, 20, .inl g15)), (a16, .inl (G.2.1, 4, .inl g16)), (a17, .inl (G.2.1, 4, .inl g17)), (a21, .inl (G.2.1, 20, .inl g21)), (a22, .inl (G.2.1, 40, .inl g22)), (a24, .inl (G.2.1, 8, .inl g24)), (a25, .inl (G.2.1, 8, .inl g25)), (a26, .inl (G.2.2.1, 8, .inl g26)), (a27, .inl (G.2.1, 4, .inl g27)), (a28, .inl (G.2.1, 4, .inl g28)), (a29, .inl (G.2.1, 240, .inl g29)), (a30, .inl (G.2.1, 60, .inl g30))]) (wr := []) (rest := []) fx hh hl.1 (h_X7_cellsBarred m0 a4 a6 a7 a15 a16 a17 a21 a22 a24 a25 a26 a27 a28 a29 a30 f0 f1 f2 f3 f5 f8 f9 f10 f11 f12 f13 f14 f18 f19 f20 f23 f31 g4 g6 g7 g15 g16 g17 g21 g22 g24 g25 g26 g27 g28 g29 g30 k lane i n.toInt64 hv.1) yV_X7_cellsBarred tMX7_134 ⟨rfl, rfl, Nat.le_of_ble_eq_true rfl, Nat.le_of_ble_eq_true rfl⟩ 0 7 rfl rfl rfl [0, 1, 2, 3, 4, 5, 6, 7, 8, 9, 10, 11, 12, 13, 14, 15] [] [0, 1, 2, 3, 4, 5, 6, 7, 8, 9, 10, 11, 12, 13, 14, 15] rfl rfl rfl (by decide) (by decide) rfl rfl (Nat.le_of_ble_eq_true rfl) ⟨Nat.le_of_ble_eq_true rfl, Nat.le_of_ble_eq_true rfl⟩ (dOk_at dX7_strokesBarred 6 rfl) (fun H locs hh => ?_)
  have hv := hv.2
  refine lv_istore (pc := 10) (lv' := [(5, .int (q_bRes (q_barred g27 g28 k lane i n.toInt64))), (0, .ref m0), (1, .int k), (2, .int lane), (3, .int i), (4, .int n)]) hx hb (dOk_at dX7_strokesBarred 7 rfl) hl (by decide) rfl (fun ls hl => ?_)
  refine lv_iload (pc := 12) hx hb (dOk_at dX7_strokesBarred 8 rfl) (lv_at hl 0 rfl) ?_
  refine lv_if_ge (pc := 14) (tgt := 20) hx hb (dOk_at dX7_strokesBarred 9 rfl) (by decide) (fun c14 => ?_) (fun c14 => ?_)
  · have hv := hv.1 c14
    refine lv_iconst (pc := 20) (v := 0) hx hb (dOk_at dX7_strokesBarred 12 rfl) (by decide) ?_
    refine lv_istore (pc := 21) (lv' := [(6, .int 0), (5, .int (q_bRes (q_barred g27 g28 k lane i n.toInt64))), (0, .ref m0), (1, .int k), (2, .int lane), (3, .int i), (4, .int n)]) hx hb (dOk_at dX7_strokesBarred 13 rfl) hl (by decide) rfl (fun ls hl => ?_)
    obtain ⟨k0, hj0⟩ := hv
    exact lp23 k0 0 hj0 _ _ _ hh (lv_sub hl [2, 3, 5, 6, 0] rfl)
  · have hv := hv.2 c14
    refine lv_iload (pc := 17) hx hb (dOk_at dX7_strokesBarred 10 rfl) (lv_at hl 0 rfl) ?_
    obtain ⟨e0, e1⟩ := hv
    subst e0
    subst e1
    rw [hQ]
    exact r_iret (pc := 19) fx hh (dOk_at dX7_strokesBarred 11 rfl)
set_option maxRecDepth 100000 in
set_option maxHeartbeats 4000000 in
theorem wk_X7_countOf (l : Launch) (G : GT) (m0 : Nat) (a4 : Nat) (a6 : Nat) (a7 : Nat) (a15 : Nat) (a16 : Nat) (a17 : Nat) (a21 : Nat) (a22 : Nat) (a24 : Nat) (a25 : Nat) (a26 : Nat) (a27 : Nat) (a28 : Nat) (a29 : Nat) (a30 : Nat) (f0 : Int32) (f1 : Int32) (f2 : Int32) (f3 : Int32) (f5 : Int32) (f8 : Int32) (f9 : Int32) (f10 : Int32) (f11 : Int32) (f12 : Int32) (f13 : Int32) (f14 : Int32) (f18 : Int32) (f19 : Int32) (f20 : Int32) (f23 : Int32) (f31 : Int32) (g4 : Nat → Int32) (g6 : Nat → Int32) (g7 : Nat → Int32) (g15 : Nat → Int32) (g16 : Nat → Int32) (g17 : Nat → Int32) (g21 : Nat → Int32) (g22 : Nat → Int32) (g24 : Nat → Int32) (g25 : Nat → Int32) (g26 : Nat → Int32) (g27 : Nat → Int32) (g28 : Nat → Int32) (g29 : Nat → Int32) (g30 : Nat → Int32) (v : Int32) (R : Int32) (J4 : Nat → Int32 → Int32 → Prop) (h_X7_cells : K_X7_cells l G)
    (hv : ∃ k2 : Nat, J4 k2 0 0)
    (hv4 : ∀ (n4 : Nat) (x4_2 : Int32) (x4_3 : Int32), J4 n4 x4_2 x4_3 → ((f1 * f2) ≤ x4_3 → x4_2 = R) ∧ (¬ (f1 * f2) ≤ x4_3 → vp_in x4_3 20 ∧ ((∀ (v28 : Int32), v28 = (if (g4 x4_3.toNatClampNeg) = v then (1 : Int32) else (0 : Int32)) → ∃ k1 : Nat, k1 < n4 ∧ J4 k1 (x4_2 + v28) (x4_3 + 1))))) :
    MF l G yX7_countOf cX7_countOf 4 (some .int) rm_X7_countOf [.ref m0, .int v] [(m0, .inr (7, [.int f0, .int f1, .int f2, .int f3, .ref a4, .int f5, .ref a6, .ref a7, .int f8, .int f9, .int f10, .int f11, .int f12, .int f13, .int f14, .ref a15, .ref a16, .ref a17, .int f18, .int f19, .int f20, .ref a21, .ref a22, .int f23, .ref a24, .ref a25, .ref a26, .ref a27, .ref a28, .ref a29, .ref a30, .int f31])), (a4, .inl (G.2.1, 20, .inl g4)), (a6, .inl (G.2.1, 4, .inl g6)), (a7, .inl (G.2.1, 4, .inl g7)), (a15, .inl (G.2.1, 20, .inl g15)), (a16, .inl (G.2.1, 4, .inl g16)), (a17, .inl (G.2.1, 4, .inl g17)), (a21, .inl (G.2.1, 20, .inl g21)), (a22, .inl (G.2.1, 40, .inl g22)), (a24, .inl (G.2.1, 8, .inl g24)), (a25, .inl (G.2.1, 8, .inl g25)), (a26, .inl (G.2.2.1, 8, .inl g26)), (a27, .inl (G.2.1, 4, .inl g27)), (a28, .inl (G.2.1, 4, .inl g28)), (a29, .inl (G.2.1, 240, .inl g29)), (a30, .inl (G.2.1, 60, .inl g30))] (some (.int R)) [(m0, .inr (7, [.int f0, .int f1, .int f2, .int f3, .ref a4, .int f5, .ref a6, .ref a7, .int f8, .int f9, .int f10, .int f11, .int f12, .int f13, .int f14, .ref a15, .ref a16, .ref a17, .int f18, .int f19, .int f20, .ref a21, .ref a22, .int f23, .ref a24, .ref a25, .ref a26, .ref a27, .ref a28, .ref a29, .ref a30, .int f31])), (a4, .inl (G.2.1, 20, .inl g4)), (a6, .inl (G.2.1, 4, .inl g6)), (a7, .inl (G.2.1, 4, .inl g7)), (a15, .inl (G.2.1, 20, .inl g15)), (a16, .inl (G.2.1, 4, .inl g16)), (a17, .inl (G.2.1, 4, .inl g17)), (a21, .inl (G.2.1, 20, .inl g21)), (a22, .inl (G.2.1, 40, .inl g22)), (a24, .inl (G.2.1, 8, .inl g24)), (a25, .inl (G.2.1, 8, .inl g25)), (a26, .inl (G.2.2.1, 8, .inl g26)), (a27, .inl (G.2.1, 4, .inl g27)), (a28, .inl (G.2.1, 4, .inl g28)), (a29, .inl (G.2.1, 240, .inl g29)), (a30, .inl (G.2.1, 60, .inl g30))] := by
  refine MF.of (by decide +kernel) (Nat.le_of_ble_eq_true rfl) ?_
  intro p e s m args below meth c A ls fx hh hl _
  have hx := fx.hx
  have hb := fx.hb
  have hl : lv_has ls 4 [(0, .ref m0), (1, .int v)] := hl
  obtain ⟨Q, hQ⟩ : ∃ Q, Q = ZZ G A (some (.int R)) [(m0, .inr (7, [.int f0, .int f1, .int f2, .int f3, .ref a4, .int f5, .ref a6, .ref a7, .int f8, .int f9, .int f10, .int f11, .int f12, .int f13, .int f14, .ref a15, .ref a16, .ref a17, .int f18, .int f19, .int f20, .ref a21, .ref a22, .int f23, .ref a24, .ref a25, .ref a26, .ref a27, .ref a28, .ref a29, .ref a30, .int f31])), (a4, .inl (G.2.1, 20, .inl g4)), (a6, .inl (G.2.1, 4, .inl g6)), (a7, .inl (G.2.1, 4, .inl g7)), (a15, .inl (G.2.1, 20, .inl g15)), (a16, .inl (G.2.1, 4, .inl g16)), (a17, .inl (G.2.1, 4, .inl g17)), (a21, .inl (G.2.1, 20, .inl g21)), (a22, .inl (G.2.1, 40, .inl g22)), (a24, .inl (G.2.1, 8, .inl g24)), (a25, .inl (G.2.1, 8, .inl g25)), (a26, .inl (G.2.2.1, 8, .inl g26)), (a27, .inl (G.2.1, 4, .inl g27)), (a28, .inl (G.2.1, 4, .inl g28)), (a29, .inl (G.2.1, 240, .inl g29)), (a30, .inl (G.2.1, 60, .inl g30))] below args s := ⟨_, rfl⟩
  rw [← hQ]
  have lp4 : ∀ (n4 : Nat) (x4_2 : Int32) (x4_3 : Int32), J4 n4 x4_2 x4_3 → ∀ (H : Heap) (locs : List Loc) (ls : Array Slot), HP G A [(m0, .inr (7, [.int f0, .int f1, .int f2, .int f3, .ref a4, .int f5, .ref a6, .ref a7, .int f8, .int f9, .int f10, .int f11, .int f12, .int f13, .int f14, .ref a15, .ref a16, .ref a17, .int f18, .int f19, .int f20, .ref a21, .ref a22, .int f23, .ref a24, .ref a25, .ref a26, .ref a27, .ref a28, .ref a29, .ref a30, .int f31])), (a4, .inl (G.2.1, 20, .inl g4)), (a6, .inl (G.2.1, 4, .inl g6)), (a7, .inl (G.2.1, 4, .inl g7)), (a15, .inl (G.2.1, 20, .inl g15)), (a16, .inl (G.2.1, 4, .inl g16)), (a17, .inl (G.2.1, 4, .inl g17)), (a21, .inl (G.2.1, 20, .inl g21)), (a22, .inl (G.2.1, 40, .inl g22)), (a24, .inl (G.2.1, 8, .inl g24)), (a25, .inl (G.2.1, 8, .inl g25)), (a26, .inl (G.2.2.1, 8, .inl g26)), (a27, .inl (G.2.1, 4, .inl g27)), (a28, .inl (G.2.1, 4, .inl g28)), (a29, .inl (G.2.1, 240, .inl g29)), (a30, .inl (G.2.1, 60, .inl g30))] s H locs → lv_has ls 4 [(0, .ref m0), (1, .int v), (2, .int x4_2), (3, .int x4_3)] → W p l e rm_X7_countOf s m args below meth c H locs 0 0 Q (F0 m 4 ls []) := by
    intro n4
    induction n4 using Nat.strongRecOn with
    | ind n4 ih4 =>
      intro x4_2 x4_3 hj4 H locs ls hh hl
      have hv := hv4 n4 x4_2 x4_3 hj4
      refine lv_iload_n (pc := 4) hx hb (dOk_at dX7_countOf 4 rfl) rfl (lv_at hl 3 rfl) ?_
      refine lv_aload_n (pc := 5) hx hb (dOk_at dX7_countOf 5 rfl) rfl (lv_at hl 0 rfl) ?_
      refine cl_V (pc := 6) (w' := [(m0, .inr (7, [.int f0, .int f1, .int f2, .int f3, .ref a4, .int f5, .ref a6, .ref a7, .int f8, .int f9, .int f10, .int f11, .int f12, .int f13, .int f14, .ref a15, .ref a16, .ref a17, .int f18, .int f19, .int f20, .ref a21, .ref a22, .int f23, .ref a24, .ref a25, .ref a26, .ref a27, .ref a28, .ref a29, .ref a30, .int f31])), (a4, .inl (G.2.1, 20, .inl g4)), (a6, .inl (G.2.1, 4, .inl g6)), (a7, .inl (G.2.1, 4, .inl g7)), (a15, .inl (G.2.1, 20, .inl g15)), (a16, .inl (G.2.1, 4, .inl g16)), (a17, .inl (G.2.1, 4, .inl g17)), (a21, .inl (G.2.1, 20, .inl g21)), (a22, .inl (G.2.1, 40, .inl g22)), (a24, .inl (G.2.1, 8, .inl g24)), (a25, .inl (G.2.1, 8, .inl g25)), (a26, .inl (G.2.2.1, 8, .inl g26)), (a27, .inl (G.2.1, 4, .inl g27)), (a28, .inl (G.2.1, 4, .inl g28)), (a29, .inl (G.2.1, 240, .inl g29)), (a30, .inl (G.2.1, 60, .inl g30))]) (wr := []) (rest := [.int x4_3]) fx hh hl.1 (h_X7_cells m0 a4 a6 a7 a15 a16 a17 a21 a22 a24 a25 a26 a27 a28 a29 a30 f0 f1 f2 f3 f5 f8 f9 f10 f11 f12 f13 f14 f18 f19 f20 f23 f31 g4 g6 g7 g15 g16 g17 g21 g22 g24 g25 g26 g27 g28 g29 g30) yV_X7_cells tMX7_72 ⟨rfl, rfl, Nat.le_of_ble_eq_true rfl, Nat.le_of_ble_eq_true rfl⟩ 0 7 rfl rfl rfl [0, 1, 2, 3, 4, 5, 6, 7, 8, 9, 10, 11, 12, 13, 14, 15] [] [0, 1, 2, 3, 4, 5, 6, 7, 8, 9, 10, 11, 12, 13, 14, 15] rfl rfl rfl (by decide) (by decide) rfl rfl (Nat.le_of_ble_eq_true rfl) ⟨Nat.le_of_ble_eq_true rfl, Nat.le_of_ble_eq_true rfl⟩ (dOk_at dX7_countOf 6 rfl) (fun H locs hh => ?_)
      refine lv_icmp_ge (pc := 9) (tgt := 36) hx hb (dOk_at dX7_countOf 7 rfl) (by decide) (fun c9 => ?_) (fun c9 => ?_)
      · have hv := hv.1 c9
        refine lv_iload_n (pc := 36) hx hb (dOk_at dX7_countOf 22 rfl) rfl (lv_at hl 2 rfl) ?_
        have e0 := hv
        subst e0
        rw [hQ]
        exact r_iret (pc := 37) fx hh (dOk_at dX7_countOf 23 rfl)
      · have hv := hv.2 c9
        refine lv_iload_n (pc := 12) hx hb (dOk_at dX7_countOf 8 rfl) rfl (lv_at hl 2 rfl) ?_
        refine lv_aload_n (pc := 13) hx hb (dOk_at dX7_countOf 9 rfl) rfl (lv_at hl 0 rfl) ?_
        refine r_get (pc := 14) (ci := 7) fx hh inT7 rfl 4 (by decide) tFX7_7 rfl 0 rfl rfl (dOk_at dX7_countOf 10 rfl) ?_
        refine lv_iload_n (pc := 17) hx hb (dOk_at dX7_countOf 11 rfl) rfl (lv_at hl 3 rfl) ?_
        refine r_iald (pc := 18) fx hh 1 rfl hv.1 (dOk_at dX7_countOf 12 rfl) ?_
        have hv := hv.2
        refine lv_iload_n (pc := 19) hx hb (dOk_at dX7_countOf 13 rfl) rfl (lv_at hl 1 rfl) ?_
        have k28_20 : ∀ (v28 : Int32), v28 = (if (g4 x4_3.toNatClampNeg) = v then (1 : Int32) else (0 : Int32)) → ∀ (H : Heap) (locs : List Loc) (ls : Array Slot), HP G A [(m0, .inr (7, [.int f0, .int f1, .int f2, .int f3, .ref a4, .int f5, .ref a6, .ref a7, .int f8, .int f9, .int f10, .int f11, .int f12, .int f13, .int f14, .ref a15, .ref a16, .ref a17, .int f18, .int f19, .int f20, .ref a21, .ref a22, .int f23, .ref a24, .ref a25, .ref a26, .ref a27, .ref a28, .ref a29, .ref a30, .int f31])), (a4, .inl (G.2.1, 20, .inl g4)), (a6, .inl (G.2.1, 4, .inl g6)), (a7, .inl (G.2.1, 4, .inl g7)), (a15, .inl (G.2.1, 20, .inl g15)), (a16, .inl (G.2.1, 4, .inl g16)), (a17, .inl (G.2.1, 4, .inl g17)), (a21, .inl (G.2.1, 20, .inl g21)), (a22, .inl (G.2.1, 40, .inl g22)), (a24, .inl (G.2.1, 8, .inl g24)), (a25, .inl (G.2.1, 8, .inl g25)), (a26, .inl (G.2.2.1, 8, .inl g26)), (a27, .inl (G.2.1, 4, .inl g27)), (a28, .inl (G.2.1, 4, .inl g28)), (a29, .inl (G.2.1, 240, .inl g29)), (a30, .inl (G.2.1, 60, .inl g30))] s H locs → lv_has ls 4 [(0, .ref m0), (1, .int v), (3, .int x4_3)] → W p l e rm_X7_countOf s m args below meth c H locs 0 0 Q (F0 m 28 ls [.int v28, .int x4_2]) := by
          intro v28 e28_0 H locs ls hh hl
          have hv := hv v28 e28_0
          refine lv_iadd (pc := 28) hx hb (dOk_at dX7_countOf 18 rfl) ?_
          refine lv_istore_n (pc := 29) (lv' := [(2, .int (x4_2 + v28)), (0, .ref m0), (1, .int v), (3, .int x4_3)]) hx hb (dOk_at dX7_countOf 19 rfl) rfl hl (by decide) rfl (fun ls hl => ?_)
          refine lv_iinc (pc := 30) (v := x4_3 + 1) (lv' := [(3, .int (x4_3 + 1)), (2, .int (x4_2 + v28)), (0, .ref m0), (1, .int v)]) hx hb (dOk_at dX7_countOf 20 rfl) hl (k := 3) rfl rfl (by decide) rfl (fun ls hl => ?_)
          refine lv_goto (pc := 33) (tgt := 4) hx hb (dOk_at dX7_countOf 21 rfl) (by decide) ?_
          obtain ⟨k0, hk0, hj0⟩ := hv
          exact ih4 k0 hk0 (x4_2 + v28) (x4_3 + 1) hj0 _ _ _ hh (lv_sub hl [2, 3, 1, 0] rfl)
        refine lv_icmp_ne (pc := 20) (tgt := 27) hx hb (dOk_at dX7_countOf 14 rfl) (by decide) (fun c20 => ?_) (fun c20 => ?_)
        · refine lv_iconst (pc := 27) (v := 0) hx hb (dOk_at dX7_countOf 17 rfl) (by decide) ?_
          exact k28_20 _ (if_neg c20).symm _ _ _ hh (lv_sub hl [0, 1, 3] rfl)
        · refine lv_iconst (pc := 23) (v := 1) hx hb (dOk_at dX7_countOf 15 rfl) (by decide) ?_
          refine lv_goto (pc := 24) (tgt := 28) hx hb (dOk_at dX7_countOf 16 rfl) (by decide) ?_
          exact k28_20 _ (if_pos c20).symm _ _ _ hh (lv_sub hl [0, 1, 3] rfl)
  refine lv_iconst (pc := 0) (v := 0) hx hb (dOk_at dX7_countOf 0 rfl) (by decide) ?_
  refine lv_istore_n (pc := 1) (lv' := [(2, .int 0), (0, .ref m0), (1, .int v)]) hx hb (dOk_at dX7_countOf 1 rfl) rfl hl (by decide) rfl (fun ls hl => ?_)
  refine lv_iconst (pc := 2) (v := 0) hx hb (dOk_at dX7_countOf 2 rfl) (by decide) ?_
  refine lv_istore_n (pc := 3) (lv' := [(3, .int 0), (2, .int 0), (0, .ref m0), (1, .int v)]) hx hb (dOk_at dX7_countOf 3 rfl) rfl hl (by decide) rfl (fun ls hl => ?_)
  obtain ⟨k0, hj0⟩ := hv
  exact lp4 k0 0 0 hj0 _ _ _ hh (lv_sub hl [2, 3, 1, 0] rfl)
set_option maxRecDepth 100000 in
set_option maxHeartbeats 4000000 in
theorem wk_X7_leftBy (l : Launch) (G : GT) (m0 : Nat) (a4 : Nat) (a6 : Nat) (a7 : Nat) (a15 : Nat) (a16 : Nat) (a17 : Nat) (a21 : Nat) (a22 : Nat) (a24 : Nat) (a25 : Nat) (a26 : Nat) (a27 : Nat) (a28 : Nat) (a29 : Nat) (a30 : Nat) (f0 : Int32) (f1 : Int32) (f2 : Int32) (f3 : Int32) (f5 : Int32) (f8 : Int32) (f9 : Int32) (f10 : Int32) (f11 : Int32) (f12 : Int32) (f13 : Int32) (f14 : Int32) (f18 : Int32) (f19 : Int32) (f20 : Int32) (f23 : Int32) (f31 : Int32) (g4 : Nat → Int32) (g6 : Nat → Int32) (g7 : Nat → Int32) (g15 : Nat → Int32) (g16 : Nat → Int32) (g17 : Nat → Int32) (g21 : Nat → Int32) (g22 : Nat → Int32) (g24 : Nat → Int32) (g25 : Nat → Int32) (g26 : Nat → Int32) (g27 : Nat → Int32) (g28 : Nat → Int32) (g29 : Nat → Int32) (g30 : Nat → Int32) (place : Int32) (a : Int32) (b : Int32) (R : Int32) (J19 : Nat → Int32 → Int32 → Prop) (h_X7_bears : K_X7_bears l G) (h_X7_beside : K_X7_beside l G)
    (hv : ∃ k2 : Nat, J19 k2 (-9) 0)
    (hv19 : ∀ (n19 : Nat) (x19_6 : Int32) (x19_7 : Int32), J19 n19 x19_6 x19_7 → (4 ≤ x19_7 → x19_6 = R) ∧ (¬ 4 ≤ x19_7 → ¬ f2 = 0 ∧ ((((q_beside f1 f2 (place - place / 20 * 20) x19_7) < 0 → True) ∧ (¬ (q_beside f1 f2 (place - place / 20 * 20) x19_7) < 0 → (vp_in (q_beside f1 f2 (place - place / 20 * 20) x19_7) 20 ∧ vp_in (if (place / 20) = 0 then a else b) 4))) ∧ (∀ (v64 : Int32), v64 = (if (q_beside f1 f2 (place - place / 20 * 20) x19_7) < 0 then (0 : Int32) else (if (q_bears f8 f9 g4 g6 g7 (q_beside f1 f2 (place - place / 20 * 20) x19_7) (if (place / 20) = 0 then a else b)) = 0 then (0 : Int32) else (1 : Int32))) → ((v64 = 0 → True) ∧ (¬ v64 = 0 → vp_in ((q_beside f1 f2 (place - place / 20 * 20) x19_7) + (20 * (1 - (place / 20)))) 40)) ∧ (∀ (v91 : Int32), v91 = (if v64 = 0 then (-9 : Int32) else g22 ((q_beside f1 f2 (place - place / 20 * 20) x19_7) + (20 * (1 - (place / 20)))).toNatClampNeg) → (∀ (v121 : Int32), v121 = (if v91 < 0 then x19_6 else (if x19_6 < 0 then v91 + 1 else (if x19_6 ≤ (v91 + 1) then x19_6 else v91 + 1))) → ∃ k1 : Nat, k1 < n19 ∧ J19 k1 v121 (x19_7 + 1))))))) :
    MF l G yX7_leftBy cX7_leftBy 11 (some .int) rm_X7_leftBy [.ref m0, .int place, .int a, .int b] [(m0, .inr (7, [.int f0, .int f1, .int f2, .int f3, .ref a4, .int f5, .ref a6, .ref a7, .int f8, .int f9, .int f10, .int f11, .int f12, .int f13, .int f14, .ref a15, .ref a16, .ref a17, .int f18, .int f19, .int f20, .ref a21, .ref a22, .int f23, .ref a24, .ref a25, .ref a26, .ref a27, .ref a28, .ref a29, .ref a30, .int f31])), (a4, .inl (G.2.1, 20, .inl g4)), (a6, .inl (G.2.1, 4, .inl g6)), (a7, .inl (G.2.1, 4, .inl g7)), (a15, .inl (G.2.1, 20, .inl g15)), (a16, .inl (G.2.1, 4, .inl g16)), (a17, .inl (G.2.1, 4, .inl g17)), (a21, .inl (G.2.1, 20, .inl g21)), (a22, .inl (G.2.1, 40, .inl g22)), (a24, .inl (G.2.1, 8, .inl g24)), (a25, .inl (G.2.1, 8, .inl g25)), (a26, .inl (G.2.2.1, 8, .inl g26)), (a27, .inl (G.2.1, 4, .inl g27)), (a28, .inl (G.2.1, 4, .inl g28)), (a29, .inl (G.2.1, 240, .inl g29)), (a30, .inl (G.2.1, 60, .inl g30))] (some (.int R)) [(m0, .inr (7, [.int f0, .int f1, .int f2, .int f3, .ref a4, .int f5, .ref a6, .ref a7, .int f8, .int f9, .int f10, .int f11, .int f12, .int f13, .int f14, .ref a15, .ref a16, .ref a17, .int f18, .int f19, .int f20, .ref a21, .ref a22, .int f23, .ref a24, .ref a25, .ref a26, .ref a27, .ref a28, .ref a29, .ref a30, .int f31])), (a4, .inl (G.2.1, 20, .inl g4)), (a6, .inl (G.2.1, 4, .inl g6)), (a7, .inl (G.2.1, 4, .inl g7)), (a15, .inl (G.2.1, 20, .inl g15)), (a16, .inl (G.2.1, 4, .inl g16)), (a17, .inl (G.2.1, 4, .inl g17)), (a21, .inl (G.2.1, 20, .inl g21)), (a22, .inl (G.2.1, 40, .inl g22)), (a24, .inl (G.2.1, 8, .inl g24)), (a25, .inl (G.2.1, 8, .inl g25)), (a26, .inl (G.2.2.1, 8, .inl g26)), (a27, .inl (G.2.1, 4, .inl g27)), (a28, .inl (G.2.1, 4, .inl g28)), (a29, .inl (G.2.1, 240, .inl g29)), (a30, .inl (G.2.1, 60, .inl g30))] := by
  refine MF.of (by decide +kernel) (Nat.le_of_ble_eq_true rfl) ?_
  intro p e s m args below meth c A ls fx hh hl _
  have hx := fx.hx
  have hb := fx.hb
  have hl : lv_has ls 11 [(0, .ref m0), (1, .int place), (2, .int a), (3, .int b)] := hl
  obtain ⟨Q, hQ⟩ : ∃ Q, Q = ZZ G A (some (.int R)) [(m0, .inr (7, [.int f0, .int f1, .int f2, .int f3, .ref a4, .int f5, .ref a6, .ref a7, .int f8, .int f9, .int f10, .int f11, .int f12, .int f13, .int f14, .ref a15, .ref a16, .ref a17, .int f18, .int f19, .int f20, .ref a21, .ref a22, .int f23, .ref a24, .ref a25, .ref a26, .ref a27, .ref a28, .ref a29, .ref a30, .int f31])), (a4, .inl (G.2.1, 20, .inl g4)), (a6, .inl (G.2.1, 4, .inl g6)), (a7, .inl (G.2.1, 4, .inl g7)), (a15, .inl (G.2.1, 20, .inl g15)), (a16, .inl (G.2.1, 4, .inl g16)), (a17, .inl (G.2.1, 4, .inl g17)), (a21, .inl (G.2.1, 20, .inl g21)), (a22, .inl (G.2.1, 40, .inl g22)), (a24, .inl (G.2.1, 8, .inl g24)), (a25, .inl (G.2.1, 8, .inl g25)), (a26, .inl (G.2.2.1, 8, .inl g26)), (a27, .inl (G.2.1, 4, .inl g27)), (a28, .inl (G.2.1, 4, .inl g28)), (a29, .inl (G.2.1, 240, .inl g29)), (a30, .inl (G.2.1, 60, .inl g30))] below args s := ⟨_, rfl⟩
  rw [← hQ]
  have lp19 : ∀ (n19 : Nat) (x19_6 : Int32) (x19_7 : Int32), J19 n19 x19_6 x19_7 → ∀ (H : Heap) (locs : List Loc) (ls : Array Slot), HP G A [(m0, .inr (7, [.int f0, .int f1, .int f2, .int f3, .ref a4, .int f5, .ref a6, .ref a7, .int f8, .int f9, .int f10, .int f11, .int f12, .int f13, .int f14, .ref a15, .ref a16, .ref a17, .int f18, .int f19, .int f20, .ref a21, .ref a22, .int f23, .ref a24, .ref a25, .ref a26, .ref a27, .ref a28, .ref a29, .ref a30, .int f31])), (a4, .inl (G.2.1, 20, .inl g4)), (a6, .inl (G.2.1, 4, .inl g6)), (a7, .inl (G.2.1, 4, .inl g7)), (a15, .inl (G.2.1, 20, .inl g15)), (a16, .inl (G.2.1, 4, .inl g16)), (a17, .inl (G.2.1, 4, .inl g17)), (a21, .inl (G.2.1, 20, .inl g21)), (a22, .inl (G.2.1, 40, .inl g22)), (a24, .inl (G.2.1, 8, .inl g24)), (a25, .inl (G.2.1, 8, .inl g25)), (a26, .inl (G.2.2.1, 8, .inl g26)), (a27, .inl (G.2.1, 4, .inl g27)), (a28, .inl (G.2.1, 4, .inl g28)), (a29, .inl (G.2.1, 240, .inl g29)), (a30, .inl (G.2.1, 60, .inl g30))] s H locs → lv_has ls 11 [(0, .ref m0), (2, .int a), (3, .int b), (4, .int (place - place / 20 * 20)), (5, .int (place / 20)), (6, .int x19_6), (7, .int x19_7)] → W p l e rm_X7_leftBy s m args below meth c H locs 0 0 Q (F0 m 19 ls []) := by
    intro n19
    induction n19 using Nat.strongRecOn with
    | ind n19 ih19 =>
      intro x19_6 x19_7 hj19 H locs ls hh hl
      have hv := hv19 n19 x19_6 x19_7 hj19
      refine lv_iload (pc := 19) hx hb (dOk_at dX7_leftBy 12 rfl) (lv_at hl 6 rfl) ?_
      refine lv_iconst (pc := 21) (v := 4) hx hb (dOk_at dX7_leftBy 13 rfl) (by decide) ?_
      refine lv_icmp_ge (pc := 22) (tgt := 129) hx hb (dOk_at dX7_leftBy 14 rfl) (by decide) (fun c22 => ?_) (fun c22 => ?_)
      · have hv := hv.1 c22
        refine lv_iload (pc := 129) hx hb (dOk_at dX7_leftBy 67 rfl) (lv_at hl 5 rfl) ?_
        have e0 := hv
        subst e0
        rw [hQ]
        exact r_iret (pc := 131) fx hh (dOk_at dX7_leftBy 68 rfl)
      · have hv := hv.2 c22
        refine lv_aload_n (pc := 25) hx hb (dOk_at dX7_leftBy 15 rfl) rfl (lv_at hl 0 rfl) ?_
        refine lv_iload (pc := 26) hx hb (dOk_at dX7_leftBy 16 rfl) (lv_at hl 3 rfl) ?_
        refine lv_iload (pc := 28) hx hb (dOk_at dX7_leftBy 17 rfl) (lv_at hl 6 rfl) ?_
        refine cl_V (pc := 30) (w' := [(m0, .inr (7, [.int f0, .int f1, .int f2, .int f3, .ref a4, .int f5, .ref a6, .ref a7, .int f8, .int f9, .int f10, .int f11, .int f12, .int f13, .int f14, .ref a15, .ref a16, .ref a17, .int f18, .int f19, .int f20, .ref a21, .ref a22, .int f23, .ref a24, .ref a25, .ref a26, .ref a27, .ref a28, .ref a29, .ref a30, .int f31])), (a4, .inl (G.2.1, 20, .inl g4)), (a6, .inl (G.2.1, 4, .inl g6)), (a7, .inl (G.2.1, 4, .inl g7)), (a15, .inl (G.2.1, 20, .inl g15)), (a16, .inl (G.2.1, 4, .inl g16)), (a17, .inl (G.2.1, 4, .inl g17)), (a21, .inl (G.2.1, 20, .inl g21)), (a22, .inl (G.2.1, 40, .inl g22)), (a24, .inl (G.2.1, 8, .inl g24)), (a25, .inl (G.2.1, 8, .inl g25)), (a26, .inl (G.2.2.1, 8, .inl g26)), (a27, .inl (G.2.1, 4, .inl g27)), (a28, .inl (G.2.1, 4, .inl g28)), (a29, .inl (G.2.1, 240, .inl g29)), (a30, .inl (G.2.1, 60, .inl g30))]) (wr := []) (rest := []) fx hh hl.1 (h_X7_beside m0 a4 a6 a7 a15 a16 a17 a21 a22 a24 a25 a26 a27 a28 a29 a30 f0 f1 f2 f3 f5 f8 f9 f10 f11 f12 f13 f14 f18 f19 f20 f23 f31 g4 g6 g7 g15 g16 g17 g21 g22 g24 g25 g26 g27 g28 g29 g30 (place - place / 20 * 20) x19_7 hv.1) yV_X7_beside tMX7_179 ⟨rfl, rfl, Nat.le_of_ble_eq_true rfl, Nat.le_of_ble_eq_true rfl⟩ 0 7 rfl rfl rfl [0, 1, 2, 3, 4, 5, 6, 7, 8, 9, 10, 11, 12, 13, 14, 15] [] [0, 1, 2, 3, 4, 5, 6, 7, 8, 9, 10, 11, 12, 13, 14, 15] rfl rfl rfl (by decide) (by decide) rfl rfl (Nat.le_of_ble_eq_true rfl) ⟨Nat.le_of_ble_eq_true rfl, Nat.le_of_ble_eq_true rfl⟩ (dOk_at dX7_leftBy 18 rfl) (fun H locs hh => ?_)
        have hv := hv.2
        refine lv_istore (pc := 33) (lv' := [(8, .int (q_beside f1 f2 (place - place / 20 * 20) x19_7)), (0, .ref m0), (2, .int a), (3, .int b), (4, .int (place - place / 20 * 20)), (5, .int (place / 20)), (6, .int x19_6), (7, .int x19_7)]) hx hb (dOk_at dX7_leftBy 19 rfl) hl (by decide) rfl (fun ls hl => ?_)
        refine lv_iload (pc := 35) hx hb (dOk_at dX7_leftBy 20 rfl) (lv_at hl 0 rfl) ?_
        have k64_37 : ∀ (v64 : Int32), v64 = (if (q_beside f1 f2 (place - place / 20 * 20) x19_7) < 0 then (0 : Int32) else (if (q_bears f8 f9 g4 g6 g7 (q_beside f1 f2 (place - place / 20 * 20) x19_7) (if (place / 20) = 0 then a else b)) = 0 then (0 : Int32) else (1 : Int32))) → ∀ (H : Heap) (locs : List Loc) (ls : Array Slot), HP G A [(m0, .inr (7, [.int f0, .int f1, .int f2, .int f3, .ref a4, .int f5, .ref a6, .ref a7, .int f8, .int f9, .int f10, .int f11, .int f12, .int f13, .int f14, .ref a15, .ref a16, .ref a17, .int f18, .int f19, .int f20, .ref a21, .ref a22, .int f23, .ref a24, .ref a25, .ref a26, .ref a27, .ref a28, .ref a29, .ref a30, .int f31])), (a4, .inl (G.2.1, 20, .inl g4)), (a6, .inl (G.2.1, 4, .inl g6)), (a7, .inl (G.2.1, 4, .inl g7)), (a15, .inl (G.2.1, 20, .inl g15)), (a16, .inl (G.2.1, 4, .inl g16)), (a17, .inl (G.2.1, 4, .inl g17)), (a21, .inl (G.2.1, 20, .inl g21)), (a22, .inl (G.2.1, 40, .inl g22)), (a24, .inl (G.2.1, 8, .inl g24)), (a25, .inl (G.2.1, 8, .inl g25)), (a26, .inl (G.2.2.1, 8, .inl g26)), (a27, .inl (G.2.1, 4, .inl g27)), (a28, .inl (G.2.1, 4, .inl g28)), (a29, .inl (G.2.1, 240, .inl g29)), (a30, .inl (G.2.1, 60, .inl g30))] s H locs → lv_has ls 11 [(0, .ref m0), (2, .int a), (3, .int b), (4, .int (place - place / 20 * 20)), (5, .int (place / 20)), (6, .int x19_6), (7, .int x19_7), (8, .int (q_beside f1 f2 (place - place / 20 * 20) x19_7))] → W p l e rm_X7_leftBy s m args below meth c H locs 0 0 Q (F0 m 64 ls [.int v64]) := by
          intro v64 e64_0 H locs ls hh hl
          have hv := hv.2 v64 e64_0
          refine lv_istore (pc := 64) (lv' := [(9, .int v64), (0, .ref m0), (2, .int a), (3, .int b), (4, .int (place - place / 20 * 20)), (5, .int (place / 20)), (6, .int x19_6), (7, .int x19_7), (8, .int (q_beside f1 f2 (place - place / 20 * 20) x19_7))]) hx hb (dOk_at dX7_leftBy 34 rfl) hl (by decide) rfl (fun ls hl => ?_)
          refine lv_iload (pc := 66) hx hb (dOk_at dX7_leftBy 35 rfl) (lv_at hl 0 rfl) ?_
          have k91_68 : ∀ (v91 : Int32), v91 = (if v64 = 0 then (-9 : Int32) else g22 ((q_beside f1 f2 (place - place / 20 * 20) x19_7) + (20 * (1 - (place / 20)))).toNatClampNeg) → ∀ (H : Heap) (locs : List Loc) (ls : Array Slot), HP G A [(m0, .inr (7, [.int f0, .int f1, .int f2, .int f3, .ref a4, .int f5, .ref a6, .ref a7, .int f8, .int f9, .int f10, .int f11, .int f12, .int f13, .int f14, .ref a15, .ref a16, .ref a17, .int f18, .int f19, .int f20, .ref a21, .ref a22, .int f23, .ref a24, .ref a25, .ref a26, .ref a27, .ref a28, .ref a29, .ref a30, .int f31])), (a4, .inl (G.2.1, 20, .inl g4)), (a6, .inl (G.2.1, 4, .inl g6)), (a7, .inl (G.2.1, 4, .inl g7)), (a15, .inl (G.2.1, 20, .inl g15)), (a16, .inl (G.2.1, 4, .inl g16)), (a17, .inl (G.2.1, 4, .inl g17)), (a21, .inl (G.2.1, 20, .inl g21)), (a22, .inl (G.2.1, 40, .inl g22)), (a24, .inl (G.2.1, 8, .inl g24)), (a25, .inl (G.2.1, 8, .inl g25)), (a26, .inl (G.2.2.1, 8, .inl g26)), (a27, .inl (G.2.1, 4, .inl g27)), (a28, .inl (G.2.1, 4, .inl g28)), (a29, .inl (G.2.1, 240, .inl g29)), (a30, .inl (G.2.1, 60, .inl g30))] s H locs → lv_has ls 11 [(0, .ref m0), (2, .int a), (3, .int b), (4, .int (place - place / 20 * 20)), (5, .int (place / 20)), (6, .int x19_6), (7, .int x19_7)] → W p l e rm_X7_leftBy s m args below meth c H locs 0 0 Q (F0 m 91 ls [.int v91]) := by
            intro v91 e91_0 H locs ls hh hl
            have hv := hv.2 v91 e91_0
            refine lv_istore (pc := 91) (lv' := [(10, .int v91), (0, .ref m0), (2, .int a), (3, .int b), (4, .int (place - place / 20 * 20)), (5, .int (place / 20)), (6, .int x19_6), (7, .int x19_7)]) hx hb (dOk_at dX7_leftBy 49 rfl) hl (by decide) rfl (fun ls hl => ?_)
            refine lv_iload (pc := 93) hx hb (dOk_at dX7_leftBy 50 rfl) (lv_at hl 0 rfl) ?_
            have k121_95 : ∀ (v121 : Int32), v121 = (if v91 < 0 then x19_6 else (if x19_6 < 0 then v91 + 1 else (if x19_6 ≤ (v91 + 1) then x19_6 else v91 + 1))) → ∀ (H : Heap) (locs : List Loc) (ls : Array Slot), HP G A [(m0, .inr (7, [.int f0, .int f1, .int f2, .int f3, .ref a4, .int f5, .ref a6, .ref a7, .int f8, .int f9, .int f10, .int f11, .int f12, .int f13, .int f14, .ref a15, .ref a16, .ref a17, .int f18, .int f19, .int f20, .ref a21, .ref a22, .int f23, .ref a24, .ref a25, .ref a26, .ref a27, .ref a28, .ref a29, .ref a30, .int f31])), (a4, .inl (G.2.1, 20, .inl g4)), (a6, .inl (G.2.1, 4, .inl g6)), (a7, .inl (G.2.1, 4, .inl g7)), (a15, .inl (G.2.1, 20, .inl g15)), (a16, .inl (G.2.1, 4, .inl g16)), (a17, .inl (G.2.1, 4, .inl g17)), (a21, .inl (G.2.1, 20, .inl g21)), (a22, .inl (G.2.1, 40, .inl g22)), (a24, .inl (G.2.1, 8, .inl g24)), (a25, .inl (G.2.1, 8, .inl g25)), (a26, .inl (G.2.2.1, 8, .inl g26)), (a27, .inl (G.2.1, 4, .inl g27)), (a28, .inl (G.2.1, 4, .inl g28)), (a29, .inl (G.2.1, 240, .inl g29)), (a30, .inl (G.2.1, 60, .inl g30))] s H locs → lv_has ls 11 [(0, .ref m0), (2, .int a), (3, .int b), (4, .int (place - place / 20 * 20)), (5, .int (place / 20)), (7, .int x19_7)] → W p l e rm_X7_leftBy s m args below meth c H locs 0 0 Q (F0 m 121 ls [.int v121]) := by
              intro v121 e121_0 H locs ls hh hl
              have hv := hv v121 e121_0
              refine lv_istore (pc := 121) (lv' := [(6, .int v121), (0, .ref m0), (2, .int a), (3, .int b), (4, .int (place - place / 20 * 20)), (5, .int (place / 20)), (7, .int x19_7)]) hx hb (dOk_at dX7_leftBy 64 rfl) hl (by decide) rfl (fun ls hl => ?_)
              refine lv_iinc (pc := 123) (v := x19_7 + 1) (lv' := [(7, .int (x19_7 + 1)), (6, .int v121), (0, .ref m0), (2, .int a), (3, .int b), (4, .int (place - place / 20 * 20)), (5, .int (place / 20))]) hx hb (dOk_at dX7_leftBy 65 rfl) hl (k := 6) rfl rfl (by decide) rfl (fun ls hl => ?_)
              refine lv_goto (pc := 126) (tgt := 19) hx hb (dOk_at dX7_leftBy 66 rfl) (by decide) ?_
              obtain ⟨k0, hk0, hj0⟩ := hv
              exact ih19 k0 hk0 v121 (x19_7 + 1) hj0 _ _ _ hh (lv_sub hl [2, 3, 4, 5, 6, 1, 0] rfl)
            refine lv_if_lt (pc := 95) (tgt := 119) hx hb (dOk_at dX7_leftBy 51 rfl) (by decide) (fun c95 => ?_) (fun c95 => ?_)
            · refine lv_iload (pc := 119) hx hb (dOk_at dX7_leftBy 63 rfl) (lv_at hl 6 rfl) ?_
              exact k121_95 _ (if_pos c95).symm _ _ _ hh (lv_sub hl [1, 2, 3, 4, 5, 7] rfl)
            · refine lv_iload (pc := 98) hx hb (dOk_at dX7_leftBy 52 rfl) (lv_at hl 6 rfl) ?_
              refine lv_if_lt (pc := 100) (tgt := 112) hx hb (dOk_at dX7_leftBy 53 rfl) (by decide) (fun c100 => ?_) (fun c100 => ?_)
              · refine lv_iload (pc := 112) hx hb (dOk_at dX7_leftBy 59 rfl) (lv_at hl 0 rfl) ?_
                refine lv_iconst (pc := 114) (v := 1) hx hb (dOk_at dX7_leftBy 60 rfl) (by decide) ?_
                refine lv_iadd (pc := 115) hx hb (dOk_at dX7_leftBy 61 rfl) ?_
                refine lv_goto (pc := 116) (tgt := 121) hx hb (dOk_at dX7_leftBy 62 rfl) (by decide) ?_
                exact k121_95 _ ((if_neg c95).trans (if_pos c100)).symm _ _ _ hh (lv_sub hl [1, 2, 3, 4, 5, 7] rfl)
              · refine lv_iload (pc := 103) hx hb (dOk_at dX7_leftBy 54 rfl) (lv_at hl 0 rfl) ?_
                refine lv_iconst (pc := 105) (v := 1) hx hb (dOk_at dX7_leftBy 55 rfl) (by decide) ?_
                refine lv_iadd (pc := 106) hx hb (dOk_at dX7_leftBy 56 rfl) ?_
                refine lv_iload (pc := 107) hx hb (dOk_at dX7_leftBy 57 rfl) (lv_at hl 6 rfl) ?_
                refine lv_icmp_ge (pc := 109) (tgt := 119) hx hb (dOk_at dX7_leftBy 58 rfl) (by decide) (fun c109 => ?_) (fun c109 => ?_)
                · refine lv_iload (pc := 119) hx hb (dOk_at dX7_leftBy 63 rfl) (lv_at hl 6 rfl) ?_
                  exact k121_95 _ ((if_neg c95).trans ((if_neg c100).trans (if_pos c109))).symm _ _ _ hh (lv_sub hl [1, 2, 3, 4, 5, 7] rfl)
                · refine lv_iload (pc := 112) hx hb (dOk_at dX7_leftBy 59 rfl) (lv_at hl 0 rfl) ?_
                  refine lv_iconst (pc := 114) (v := 1) hx hb (dOk_at dX7_leftBy 60 rfl) (by decide) ?_
                  refine lv_iadd (pc := 115) hx hb (dOk_at dX7_leftBy 61 rfl) ?_
                  refine lv_goto (pc := 116) (tgt := 121) hx hb (dOk_at dX7_leftBy 62 rfl) (by decide) ?_
                  exact k121_95 _ ((if_neg c95).trans ((if_neg c100).trans (if_neg c109))).symm _ _ _ hh (lv_sub hl [1, 2, 3, 4, 5, 7] rfl)
          have hv := hv.1
          refine lv_if_eq (pc := 68) (tgt := 89) hx hb (dOk_at dX7_leftBy 36 rfl) (by decide) (fun c68 => ?_) (fun c68 => ?_)
          · have hv := hv.1 c68
            refine lv_bipush (pc := 89) (v := (-9)) hx hb (dOk_at dX7_leftBy 48 rfl) (by decide) ?_
            exact k91_68 _ (if_pos c68).symm _ _ _ hh (lv_sub hl [1, 2, 3, 4, 5, 6, 7] rfl)
          · have hv := hv.2 c68
            refine lv_aload_n (pc := 71) hx hb (dOk_at dX7_leftBy 37 rfl) rfl (lv_at hl 1 rfl) ?_
            refine r_get (pc := 72) (ci := 7) fx hh inT7 rfl 22 (by decide) tFX7_31 rfl 0 rfl rfl (dOk_at dX7_leftBy 38 rfl) ?_
            refine lv_iload (pc := 75) hx hb (dOk_at dX7_leftBy 39 rfl) (lv_at hl 8 rfl) ?_
            refine lv_bipush (pc := 77) (v := 20) hx hb (dOk_at dX7_leftBy 40 rfl) (by decide) ?_
            refine lv_iconst (pc := 79) (v := 1) hx hb (dOk_at dX7_leftBy 41 rfl) (by decide) ?_
            refine lv_iload (pc := 80) hx hb (dOk_at dX7_leftBy 42 rfl) (lv_at hl 5 rfl) ?_
            refine lv_isub (pc := 82) hx hb (dOk_at dX7_leftBy 43 rfl) ?_
            refine lv_imul (pc := 83) hx hb (dOk_at dX7_leftBy 44 rfl) ?_
            refine lv_iadd (pc := 84) hx hb (dOk_at dX7_leftBy 45 rfl) ?_
            refine r_iald (pc := 85) fx hh 8 rfl hv (dOk_at dX7_leftBy 46 rfl) ?_
            refine lv_goto (pc := 86) (tgt := 91) hx hb (dOk_at dX7_leftBy 47 rfl) (by decide) ?_
            exact k91_68 _ (if_neg c68).symm _ _ _ hh (lv_sub hl [1, 2, 3, 4, 5, 6, 7] rfl)
        have hv := hv.1
        refine lv_if_lt (pc := 37) (tgt := 63) hx hb (dOk_at dX7_leftBy 21 rfl) (by decide) (fun c37 => ?_) (fun c37 => ?_)
        · have hv := hv.1 c37
          refine lv_iconst (pc := 63) (v := 0) hx hb (dOk_at dX7_leftBy 33 rfl) (by decide) ?_
          exact k64_37 _ (if_pos c37).symm _ _ _ hh (lv_sub hl [1, 2, 3, 4, 5, 6, 7, 0] rfl)
        · have hv := hv.2 c37
          refine lv_aload_n (pc := 40) hx hb (dOk_at dX7_leftBy 22 rfl) rfl (lv_at hl 1 rfl) ?_
          refine lv_iload (pc := 41) hx hb (dOk_at dX7_leftBy 23 rfl) (lv_at hl 0 rfl) ?_
          refine lv_iload (pc := 43) hx hb (dOk_at dX7_leftBy 24 rfl) (lv_at hl 5 rfl) ?_
          have k53_45 : ∀ (v53 : Int32), v53 = (if (place / 20) = 0 then a else b) → ∀ (H : Heap) (locs : List Loc) (ls : Array Slot), HP G A [(m0, .inr (7, [.int f0, .int f1, .int f2, .int f3, .ref a4, .int f5, .ref a6, .ref a7, .int f8, .int f9, .int f10, .int f11, .int f12, .int f13, .int f14, .ref a15, .ref a16, .ref a17, .int f18, .int f19, .int f20, .ref a21, .ref a22, .int f23, .ref a24, .ref a25, .ref a26, .ref a27, .ref a28, .ref a29, .ref a30, .int f31])), (a4, .inl (G.2.1, 20, .inl g4)), (a6, .inl (G.2.1, 4, .inl g6)), (a7, .inl (G.2.1, 4, .inl g7)), (a15, .inl (G.2.1, 20, .inl g15)), (a16, .inl (G.2.1, 4, .inl g16)), (a17, .inl (G.2.1, 4, .inl g17)), (a21, .inl (G.2.1, 20, .inl g21)), (a22, .inl (G.2.1, 40, .inl g22)), (a24, .inl (G.2.1, 8, .inl g24)), (a25, .inl (G.2.1, 8, .inl g25)), (a26, .inl (G.2.2.1, 8, .inl g26)), (a27, .inl (G.2.1, 4, .inl g27)), (a28, .inl (G.2.1, 4, .inl g28)), (a29, .inl (G.2.1, 240, .inl g29)), (a30, .inl (G.2.1, 60, .inl g30))] s H locs → lv_has ls 11 [(0, .ref m0), (2, .int a), (3, .int b), (4, .int (place - place / 20 * 20)), (5, .int (place / 20)), (6, .int x19_6), (7, .int x19_7), (8, .int (q_beside f1 f2 (place - place / 20 * 20) x19_7))] → W p l e rm_X7_leftBy s m args below meth c H locs 0 0 Q (F0 m 53 ls [.int v53, .int (q_beside f1 f2 (place - place / 20 * 20) x19_7), .ref m0]) := by
            intro v53 e53_0 H locs ls hh hl
            subst e53_0
            have hv := hv
            refine cl_V (pc := 53) (w' := [(m0, .inr (7, [.int f0, .int f1, .int f2, .int f3, .ref a4, .int f5, .ref a6, .ref a7, .int f8, .int f9, .int f10, .int f11, .int f12, .int f13, .int f14, .ref a15, .ref a16, .ref a17, .int f18, .int f19, .int f20, .ref a21, .ref a22, .int f23, .ref a24, .ref a25, .ref a26, .ref a27, .ref a28, .ref a29, .ref a30, .int f31])), (a4, .inl (G.2.1, 20, .inl g4)), (a6, .inl (G.2.1, 4, .inl g6)), (a7, .inl (G.2.1, 4, .inl g7)), (a15, .inl (G.2.1, 20, .inl g15)), (a16, .inl (G.2.1, 4, .inl g16)), (a17, .inl (G.2.1, 4, .inl g17)), (a21, .inl (G.2.1, 20, .inl g21)), (a22, .inl (G.2.1, 40, .inl g22)), (a24, .inl (G.2.1, 8, .inl g24)), (a25, .inl (G.2.1, 8, .inl g25)), (a26, .inl (G.2.2.1, 8, .inl g26)), (a27, .inl (G.2.1, 4, .inl g27)), (a28, .inl (G.2.1, 4, .inl g28)), (a29, .inl (G.2.1, 240, .inl g29)), (a30, .inl (G.2.1, 60, .inl g30))]) (wr := []) (rest := []) fx hh hl.1 (h_X7_bears m0 a4 a6 a7 a15 a16 a17 a21 a22 a24 a25 a26 a27 a28 a29 a30 f0 f1 f2 f3 f5 f8 f9 f10 f11 f12 f13 f14 f18 f19 f20 f23 f31 g4 g6 g7 g15 g16 g17 g21 g22 g24 g25 g26 g27 g28 g29 g30 (q_beside f1 f2 (place - place / 20 * 20) x19_7) (if (place / 20) = 0 then a else b) hv.1 hv.2) yV_X7_bears tMX7_159 ⟨rfl, rfl, Nat.le_of_ble_eq_true rfl, Nat.le_of_ble_eq_true rfl⟩ 0 7 rfl rfl rfl [0, 1, 2, 3, 4, 5, 6, 7, 8, 9, 10, 11, 12, 13, 14, 15] [] [0, 1, 2, 3, 4, 5, 6, 7, 8, 9, 10, 11, 12, 13, 14, 15] rfl rfl rfl (by decide) (by decide) rfl rfl (Nat.le_of_ble_eq_true rfl) ⟨Nat.le_of_ble_eq_true rfl, Nat.le_of_ble_eq_true rfl⟩ (dOk_at dX7_leftBy 29 rfl) (fun H locs hh => ?_)
            refine lv_if_eq (pc := 56) (tgt := 63) hx hb (dOk_at dX7_leftBy 30 rfl) (by decide) (fun c56 => ?_) (fun c56 => ?_)
            · refine lv_iconst (pc := 63) (v := 0) hx hb (dOk_at dX7_leftBy 33 rfl) (by decide) ?_
              exact k64_37 _ ((if_neg c37).trans (if_pos c56)).symm _ _ _ hh (lv_sub hl [0, 1, 2, 3, 4, 5, 6, 7] rfl)
            · refine lv_iconst (pc := 59) (v := 1) hx hb (dOk_at dX7_leftBy 31 rfl) (by decide) ?_
              refine lv_goto (pc := 60) (tgt := 64) hx hb (dOk_at dX7_leftBy 32 rfl) (by decide) ?_
              exact k64_37 _ ((if_neg c37).trans (if_neg c56)).symm _ _ _ hh (lv_sub hl [0, 1, 2, 3, 4, 5, 6, 7] rfl)
          refine lv_if_ne (pc := 45) (tgt := 52) hx hb (dOk_at dX7_leftBy 25 rfl) (by decide) (fun c45 => ?_) (fun c45 => ?_)
          · refine lv_iload_n (pc := 52) hx hb (dOk_at dX7_leftBy 28 rfl) rfl (lv_at hl 3 rfl) ?_
            exact k53_45 _ (if_neg c45).symm _ _ _ hh (lv_sub hl [1, 2, 3, 4, 5, 6, 7, 0] rfl)
          · refine lv_iload_n (pc := 48) hx hb (dOk_at dX7_leftBy 26 rfl) rfl (lv_at hl 2 rfl) ?_
            refine lv_goto (pc := 49) (tgt := 53) hx hb (dOk_at dX7_leftBy 27 rfl) (by decide) ?_
            exact k53_45 _ (if_pos c45).symm _ _ _ hh (lv_sub hl [1, 2, 3, 4, 5, 6, 7, 0] rfl)
  refine lv_iload_n (pc := 0) hx hb (dOk_at dX7_leftBy 0 rfl) rfl (lv_at hl 1 rfl) ?_
  refine lv_bipush (pc := 1) (v := 20) hx hb (dOk_at dX7_leftBy 1 rfl) (by decide) ?_
  refine lv_irem (pc := 3) hx hb (dOk_at dX7_leftBy 2 rfl) (by decide) ?_
  refine lv_istore (pc := 4) (lv' := [(4, .int (place - place / 20 * 20)), (0, .ref m0), (1, .int place), (2, .int a), (3, .int b)]) hx hb (dOk_at dX7_leftBy 3 rfl) hl (by decide) rfl (fun ls hl => ?_)
  refine lv_iload_n (pc := 6) hx hb (dOk_at dX7_leftBy 4 rfl) rfl (lv_at hl 2 rfl) ?_
  refine lv_bipush (pc := 7) (v := 20) hx hb (dOk_at dX7_leftBy 5 rfl) (by decide) ?_
  refine lv_idiv (pc := 9) hx hb (dOk_at dX7_leftBy 6 rfl) (by decide) ?_
  refine lv_istore (pc := 10) (lv' := [(5, .int (place / 20)), (4, .int (place - place / 20 * 20)), (0, .ref m0), (1, .int place), (2, .int a), (3, .int b)]) hx hb (dOk_at dX7_leftBy 7 rfl) hl (by decide) rfl (fun ls hl => ?_)
  refine lv_bipush (pc := 12) (v := (-9)) hx hb (dOk_at dX7_leftBy 8 rfl) (by decide) ?_
  refine lv_istore (pc := 14) (lv' := [(6, .int (-9)), (5, .int (place / 20)), (4, .int (place - place / 20 * 20)), (0, .ref m0), (1, .int place), (2, .int a), (3, .int b)]) hx hb (dOk_at dX7_leftBy 9 rfl) hl (by decide) rfl (fun ls hl => ?_)
  refine lv_iconst (pc := 16) (v := 0) hx hb (dOk_at dX7_leftBy 10 rfl) (by decide) ?_
  refine lv_istore (pc := 17) (lv' := [(7, .int 0), (6, .int (-9)), (5, .int (place / 20)), (4, .int (place - place / 20 * 20)), (0, .ref m0), (1, .int place), (2, .int a), (3, .int b)]) hx hb (dOk_at dX7_leftBy 11 rfl) hl (by decide) rfl (fun ls hl => ?_)
  obtain ⟨k0, hj0⟩ := hv
  exact lp19 k0 (-9) 0 hj0 _ _ _ hh (lv_sub hl [4, 6, 7, 3, 2, 1, 0] rfl)
set_option maxRecDepth 100000 in
set_option maxHeartbeats 4000000 in
theorem wk_X7_goBond (l : Launch) (G : GT) (m0 : Nat) (a4 : Nat) (a6 : Nat) (a7 : Nat) (a15 : Nat) (a16 : Nat) (a17 : Nat) (a21 : Nat) (a22 : Nat) (a24 : Nat) (a25 : Nat) (a26 : Nat) (a27 : Nat) (a28 : Nat) (a29 : Nat) (a30 : Nat) (f0 : Int32) (f1 : Int32) (f2 : Int32) (f3 : Int32) (f5 : Int32) (f8 : Int32) (f9 : Int32) (f10 : Int32) (f11 : Int32) (f12 : Int32) (f13 : Int32) (f14 : Int32) (f18 : Int32) (f19 : Int32) (f20 : Int32) (f23 : Int32) (f31 : Int32) (g4 : Nat → Int32) (g6 : Nat → Int32) (g7 : Nat → Int32) (g15 : Nat → Int32) (g16 : Nat → Int32) (g17 : Nat → Int32) (g21 : Nat → Int32) (g22 : Nat → Int32) (g24 : Nat → Int32) (g25 : Nat → Int32) (g26 : Nat → Int32) (g27 : Nat → Int32) (g28 : Nat → Int32) (g29 : Nat → Int32) (g30 : Nat → Int32) (a : Int32) (b : Int32) (to : Int32) (t8 : Nat → Int32) (J3 : Nat → Int32 → (Nat → Int32) → Prop) (J41 : Nat → Int32 → (Nat → Int32) → Prop) (J51 : Nat → Int32 → (Nat → Int32) → Nat → Int32 → Int32 → (Nat → Int32) → Prop) (h_X7_cells : K_X7_cells l G) (h_X7_leftBy : K_X7_leftBy l G)
    (hv : ∃ k6 : Nat, J3 k6 0 g22)
    (hv3 : ∀ (n3 : Nat) (x3_4 : Int32) (y3_8 : Nat → Int32), J3 n3 x3_4 y3_8 → (40 ≤ x3_4 → ∃ k4 : Nat, J41 k4 1 y3_8) ∧ (¬ 40 ≤ x3_4 → (∀ (v31 : Int32), v31 = (if (x3_4 - x3_4 / 20 * 20) = to then (0 : Int32) else (-9 : Int32)) → vp_in x3_4 40 ∧ (∃ k5 : Nat, k5 < n3 ∧ J3 k5 (x3_4 + 1) (upd y3_8 x3_4.toNatClampNeg v31)))))
    (hv41 : ∀ (n41 : Nat) (x41_4 : Int32) (y41_8 : Nat → Int32), J41 n41 x41_4 y41_8 → (41 ≤ x41_4 → y41_8 = t8) ∧ (¬ 41 ≤ x41_4 → ∃ k3 : Nat, J51 n41 x41_4 y41_8 k3 x41_4 0 y41_8))
    (hv51 : ∀ (n41 : Nat) (x41_4 : Int32) (y41_8 : Nat → Int32), J41 n41 x41_4 y41_8 → ∀ (n51 : Nat) (x51_4 : Int32) (x51_5 : Int32) (y51_8 : Nat → Int32), J51 n41 x41_4 y41_8 n51 x51_4 x51_5 y51_8 → (40 ≤ x51_5 → ∃ k1 : Nat, k1 < n41 ∧ J41 k1 (x51_4 + 1) y51_8) ∧ (¬ 40 ≤ x51_5 → (((f1 * f2) ≤ (x51_5 - x51_5 / 20 * 20) → True) ∧ (¬ (f1 * f2) ≤ (x51_5 - x51_5 / 20 * 20) → vp_in x51_5 40)) ∧ (∀ (v85 : Int32), v85 = (if (f1 * f2) ≤ (x51_5 - x51_5 / 20 * 20) then (0 : Int32) else (if 0 ≤ (y51_8 x51_5.toNatClampNeg) then (0 : Int32) else (1 : Int32))) → ((v85 = 0 → True) ∧ (¬ v85 = 0 → okD f1 f2 ∧ ¬ f2 = 0 ∧ vp_in a 4 ∧ vp_in b 4 ∧ vp_in x51_5 40)) ∧ (∀ (v105 : Int32), v105 = (if v85 = 0 then (-9 : Int32) else q_leftBy f1 f2 f8 f9 g4 g6 g7 y51_8 a b x51_5) → ((¬ v105 = x51_4 → vp_in x51_5 40) ∧ (v105 = x51_4 → True)) ∧ (∀ (v132 : Int32), v132 = (if v105 = x51_4 then v105 else y51_8 x51_5.toNatClampNeg) → vp_in x51_5 40 ∧ (∃ k2 : Nat, k2 < n51 ∧ J51 n41 x41_4 y41_8 k2 x51_4 (x51_5 + 1) (upd y51_8 x51_5.toNatClampNeg v132))))))) :
    MF l G yX7_goBond cX7_goBond 8 none rm_X7_goBond [.ref m0, .int a, .int b, .int to] [(m0, .inr (7, [.int f0, .int f1, .int f2, .int f3, .ref a4, .int f5, .ref a6, .ref a7, .int f8, .int f9, .int f10, .int f11, .int f12, .int f13, .int f14, .ref a15, .ref a16, .ref a17, .int f18, .int f19, .int f20, .ref a21, .ref a22, .int f23, .ref a24, .ref a25, .ref a26, .ref a27, .ref a28, .ref a29, .ref a30, .int f31])), (a4, .inl (G.2.1, 20, .inl g4)), (a6, .inl (G.2.1, 4, .inl g6)), (a7, .inl (G.2.1, 4, .inl g7)), (a15, .inl (G.2.1, 20, .inl g15)), (a16, .inl (G.2.1, 4, .inl g16)), (a17, .inl (G.2.1, 4, .inl g17)), (a21, .inl (G.2.1, 20, .inl g21)), (a22, .inl (G.2.1, 40, .inl g22)), (a24, .inl (G.2.1, 8, .inl g24)), (a25, .inl (G.2.1, 8, .inl g25)), (a26, .inl (G.2.2.1, 8, .inl g26)), (a27, .inl (G.2.1, 4, .inl g27)), (a28, .inl (G.2.1, 4, .inl g28)), (a29, .inl (G.2.1, 240, .inl g29)), (a30, .inl (G.2.1, 60, .inl g30))] none [(m0, .inr (7, [.int f0, .int f1, .int f2, .int f3, .ref a4, .int f5, .ref a6, .ref a7, .int f8, .int f9, .int f10, .int f11, .int f12, .int f13, .int f14, .ref a15, .ref a16, .ref a17, .int f18, .int f19, .int f20, .ref a21, .ref a22, .int f23, .ref a24, .ref a25, .ref a26, .ref a27, .ref a28, .ref a29, .ref a30, .int f31])), (a4, .inl (G.2.1, 20, .inl g4)), (a6, .inl (G.2.1, 4, .inl g6)), (a7, .inl (G.2.1, 4, .inl g7)), (a15, .inl (G.2.1, 20, .inl g15)), (a16, .inl (G.2.1, 4, .inl g16)), (a17, .inl (G.2.1, 4, .inl g17)), (a21, .inl (G.2.1, 20, .inl g21)), (a22, .inl (G.2.1, 40, .inl t8)), (a24, .inl (G.2.1, 8, .inl g24)), (a25, .inl (G.2.1, 8, .inl g25)), (a26, .inl (G.2.2.1, 8, .inl g26)), (a27, .inl (G.2.1, 4, .inl g27)), (a28, .inl (G.2.1, 4, .inl g28)), (a29, .inl (G.2.1, 240, .inl g29)), (a30, .inl (G.2.1, 60, .inl g30))] := by
  refine MF.of (by decide +kernel) (Nat.le_of_ble_eq_true rfl) ?_
  intro p e s m args below meth c A ls fx hh hl _
  have hx := fx.hx
  have hb := fx.hb
  have hl : lv_has ls 8 [(0, .ref m0), (1, .int a), (2, .int b), (3, .int to)] := hl
  obtain ⟨Q, hQ⟩ : ∃ Q, Q = ZZ G A none [(m0, .inr (7, [.int f0, .int f1, .int f2, .int f3, .ref a4, .int f5, .ref a6, .ref a7, .int f8, .int f9, .int f10, .int f11, .int f12, .int f13, .int f14, .ref a15, .ref a16, .ref a17, .int f18, .int f19, .int f20, .ref a21, .ref a22, .int f23, .ref a24, .ref a25, .ref a26, .ref a27, .ref a28, .ref a29, .ref a30, .int f31])), (a4, .inl (G.2.1, 20, .inl g4)), (a6, .inl (G.2.1, 4, .inl g6)), (a7, .inl (G.2.1, 4, .inl g7)), (a15, .inl (G.2.1, 20, .inl g15)), (a16, .inl (G.2.1, 4, .inl g16)), (a17, .inl (G.2.1, 4, .inl g17)), (a21, .inl (G.2.1, 20, .inl g21)), (a22, .inl (G.2.1, 40, .inl t8)), (a24, .inl (G.2.1, 8, .inl g24)), (a25, .inl (G.2.1, 8, .inl g25)), (a26, .inl (G.2.2.1, 8, .inl g26)), (a27, .inl (G.2.1, 4, .inl g27)), (a28, .inl (G.2.1, 4, .inl g28)), (a29, .inl (G.2.1, 240, .inl g29)), (a30, .inl (G.2.1, 60, .inl g30))] below args s := ⟨_, rfl⟩
  rw [← hQ]
  have lp41 : ∀ (n41 : Nat) (x41_4 : Int32) (y41_8 : Nat → Int32), J41 n41 x41_4 y41_8 → ∀ (H : Heap) (locs : List Loc) (ls : Array Slot), HP G A [(m0, .inr (7, [.int f0, .int f1, .int f2, .int f3, .ref a4, .int f5, .ref a6, .ref a7, .int f8, .int f9, .int f10, .int f11, .int f12, .int f13, .int f14, .ref a15, .ref a16, .ref a17, .int f18, .int f19, .int f20, .ref a21, .ref a22, .int f23, .ref a24, .ref a25, .ref a26, .ref a27, .ref a28, .ref a29, .ref a30, .int f31])), (a4, .inl (G.2.1, 20, .inl g4)), (a6, .inl (G.2.1, 4, .inl g6)), (a7, .inl (G.2.1, 4, .inl g7)), (a15, .inl (G.2.1, 20, .inl g15)), (a16, .inl (G.2.1, 4, .inl g16)), (a17, .inl (G.2.1, 4, .inl g17)), (a21, .inl (G.2.1, 20, .inl g21)), (a22, .inl (G.2.1, 40, .inl y41_8)), (a24, .inl (G.2.1, 8, .inl g24)), (a25, .inl (G.2.1, 8, .inl g25)), (a26, .inl (G.2.2.1, 8, .inl g26)), (a27, .inl (G.2.1, 4, .inl g27)), (a28, .inl (G.2.1, 4, .inl g28)), (a29, .inl (G.2.1, 240, .inl g29)), (a30, .inl (G.2.1, 60, .inl g30))] s H locs → lv_has ls 8 [(0, .ref m0), (1, .int a), (2, .int b), (4, .int x41_4)] → W p l e rm_X7_goBond s m args below meth c H locs 0 0 Q (F0 m 41 ls []) := by
    intro n41
    induction n41 using Nat.strongRecOn with
    | ind n41 ih41 =>
      intro x41_4 y41_8 hj41 H locs ls hh hl
      have hv := hv41 n41 x41_4 y41_8 hj41
      have lp51 : ∀ (n51 : Nat) (x51_4 : Int32) (x51_5 : Int32) (y51_8 : Nat → Int32), J51 n41 x41_4 y41_8 n51 x51_4 x51_5 y51_8 → ∀ (H : Heap) (locs : List Loc) (ls : Array Slot), HP G A [(m0, .inr (7, [.int f0, .int f1, .int f2, .int f3, .ref a4, .int f5, .ref a6, .ref a7, .int f8, .int f9, .int f10, .int f11, .int f12, .int f13, .int f14, .ref a15, .ref a16, .ref a17, .int f18, .int f19, .int f20, .ref a21, .ref a22, .int f23, .ref a24, .ref a25, .ref a26, .ref a27, .ref a28, .ref a29, .ref a30, .int f31])), (a4, .inl (G.2.1, 20, .inl g4)), (a6, .inl (G.2.1, 4, .inl g6)), (a7, .inl (G.2.1, 4, .inl g7)), (a15, .inl (G.2.1, 20, .inl g15)), (a16, .inl (G.2.1, 4, .inl g16)), (a17, .inl (G.2.1, 4, .inl g17)), (a21, .inl (G.2.1, 20, .inl g21)), (a22, .inl (G.2.1, 40, .inl y51_8)), (a24, .inl (G.2.1, 8, .inl g24)), (a25, .inl (G.2.1, 8, .inl g25)), (a26, .inl (G.2.2.1, 8, .inl g26)), (a27, .inl (G.2.1, 4, .inl g27)), (a28, .inl (G.2.1, 4, .inl g28)), (a29, .inl (G.2.1, 240, .inl g29)), (a30, .inl (G.2.1, 60, .inl g30))] s H locs → lv_has ls 8 [(0, .ref m0), (1, .int a), (2, .int b), (4, .int x51_4), (5, .int x51_5)] → W p l e rm_X7_goBond s m args below meth c H locs 0 0 Q (F0 m 51 ls []) := by
        intro n51
        induction n51 using Nat.strongRecOn with
        | ind n51 ih51 =>
          intro x51_4 x51_5 y51_8 hj51 H locs ls hh hl
          have hv := hv51 n41 x41_4 y41_8 hj41 n51 x51_4 x51_5 y51_8 hj51
          refine lv_iload (pc := 51) hx hb (dOk_at dX7_goBond 26 rfl) (lv_at hl 4 rfl) ?_
          refine lv_bipush (pc := 53) (v := 40) hx hb (dOk_at dX7_goBond 27 rfl) (by decide) ?_
          refine lv_icmp_ge (pc := 55) (tgt := 139) hx hb (dOk_at dX7_goBond 28 rfl) (by decide) (fun c55 => ?_) (fun c55 => ?_)
          · have hv := hv.1 c55
            refine lv_iinc (pc := 139) (v := x51_4 + 1) (lv' := [(4, .int (x51_4 + 1)), (0, .ref m0), (1, .int a), (2, .int b), (5, .int x51_5)]) hx hb (dOk_at dX7_goBond 69 rfl) hl (k := 3) rfl rfl (by decide) rfl (fun ls hl => ?_)
            refine lv_goto (pc := 142) (tgt := 41) hx hb (dOk_at dX7_goBond 70 rfl) (by decide) ?_
            obtain ⟨k0, hk0, hj0⟩ := hv
            exact ih41 k0 hk0 (x51_4 + 1) y51_8 hj0 _ _ _ hh (lv_sub hl [1, 2, 3, 0] rfl)
          · have hv := hv.2 c55
            refine lv_iload (pc := 58) hx hb (dOk_at dX7_goBond 29 rfl) (lv_at hl 4 rfl) ?_
            refine lv_bipush (pc := 60) (v := 20) hx hb (dOk_at dX7_goBond 30 rfl) (by decide) ?_
            refine lv_irem (pc := 62) hx hb (dOk_at dX7_goBond 31 rfl) (by decide) ?_
            refine lv_aload_n (pc := 63) hx hb (dOk_at dX7_goBond 32 rfl) rfl (lv_at hl 0 rfl) ?_
            refine cl_V (pc := 64) (w' := [(m0, .inr (7, [.int f0, .int f1, .int f2, .int f3, .ref a4, .int f5, .ref a6, .ref a7, .int f8, .int f9, .int f10, .int f11, .int f12, .int f13, .int f14, .ref a15, .ref a16, .ref a17, .int f18, .int f19, .int f20, .ref a21, .ref a22, .int f23, .ref a24, .ref a25, .ref a26, .ref a27, .ref a28, .ref a29, .ref a30, .int f31])), (a4, .inl (G.2.1, 20, .inl g4)), (a6, .inl (G.2.1, 4, .inl g6)), (a7, .inl (G.2.1, 4, .inl g7)), (a15, .inl (G.2.1, 20, .inl g15)), (a16, .inl (G.2.1, 4, .inl g16)), (a17, .inl (G.2.1, 4, .inl g17)), (a21, .inl (G.2.1, 20, .inl g21)), (a22, .inl (G.2.1, 40, .inl y51_8)), (a24, .inl (G.2.1, 8, .inl g24)), (a25, .inl (G.2.1, 8, .inl g25)), (a26, .inl (G.2.2.1, 8, .inl g26)), (a27, .inl (G.2.1, 4, .inl g27)), (a28, .inl (G.2.1, 4, .inl g28)), (a29, .inl (G.2.1, 240, .inl g29)), (a30, .inl (G.2.1, 60, .inl g30))]) (wr := []) (rest := [.int (x51_5 - x51_5 / 20 * 20)]) fx hh hl.1 (h_X7_cells m0 a4 a6 a7 a15 a16 a17 a21 a22 a24 a25 a26 a27 a28 a29 a30 f0 f1 f2 f3 f5 f8 f9 f10 f11 f12 f13 f14 f18 f19 f20 f23 f31 g4 g6 g7 g15 g16 g17 g21 y51_8 g24 g25 g26 g27 g28 g29 g30) yV_X7_cells tMX7_72 ⟨rfl, rfl, Nat.le_of_ble_eq_true rfl, Nat.le_of_ble_eq_true rfl⟩ 0 7 rfl rfl rfl [0, 1, 2, 3, 4, 5, 6, 7, 8, 9, 10, 11, 12, 13, 14, 15] [] [0, 1, 2, 3, 4, 5, 6, 7, 8, 9, 10, 11, 12, 13, 14, 15] rfl rfl rfl (by decide) (by decide) rfl rfl (Nat.le_of_ble_eq_true rfl) ⟨Nat.le_of_ble_eq_true rfl, Nat.le_of_ble_eq_true rfl⟩ (dOk_at dX7_goBond 33 rfl) (fun H locs hh => ?_)
            have k85_67 : ∀ (v85 : Int32), v85 = (if (f1 * f2) ≤ (x51_5 - x51_5 / 20 * 20) then (0 : Int32) else (if 0 ≤ (y51_8 x51_5.toNatClampNeg) then (0 : Int32) else (1 : Int32))) → ∀ (H : Heap) (locs : List Loc) (ls : Array Slot), HP G A [(m0, .inr (7, [.int f0, .int f1, .int f2, .int f3, .ref a4, .int f5, .ref a6, .ref a7, .int f8, .int f9, .int f10, .int f11, .int f12, .int f13, .int f14, .ref a15, .ref a16, .ref a17, .int f18, .int f19, .int f20, .ref a21, .ref a22, .int f23, .ref a24, .ref a25, .ref a26, .ref a27, .ref a28, .ref a29, .ref a30, .int f31])), (a4, .inl (G.2.1, 20, .inl g4)), (a6, .inl (G.2.1, 4, .inl g6)), (a7, .inl (G.2.1, 4, .inl g7)), (a15, .inl (G.2.1, 20, .inl g15)), (a16, .inl (G.2.1, 4, .inl g16)), (a17, .inl (G.2.1, 4, .inl g17)), (a21, .inl (G.2.1, 20, .inl g21)), (a22, .inl (G.2.1, 40, .inl y51_8)), (a24, .inl (G.2.1, 8, .inl g24)), (a25, .inl (G.2.1, 8, .inl g25)), (a26, .inl (G.2.2.1, 8, .inl g26)), (a27, .inl (G.2.1, 4, .inl g27)), (a28, .inl (G.2.1, 4, .inl g28)), (a29, .inl (G.2.1, 240, .inl g29)), (a30, .inl (G.2.1, 60, .inl g30))] s H locs → lv_has ls 8 [(0, .ref m0), (1, .int a), (2, .int b), (4, .int x51_4), (5, .int x51_5)] → W p l e rm_X7_goBond s m args below meth c H locs 0 0 Q (F0 m 85 ls [.int v85]) := by
              intro v85 e85_0 H locs ls hh hl
              have hv := hv.2 v85 e85_0
              refine lv_istore (pc := 85) (lv' := [(6, .int v85), (0, .ref m0), (1, .int a), (2, .int b), (4, .int x51_4), (5, .int x51_5)]) hx hb (dOk_at dX7_goBond 43 rfl) hl (by decide) rfl (fun ls hl => ?_)
              refine lv_iload (pc := 87) hx hb (dOk_at dX7_goBond 44 rfl) (lv_at hl 0 rfl) ?_
              have k105_89 : ∀ (v105 : Int32), v105 = (if v85 = 0 then (-9 : Int32) else q_leftBy f1 f2 f8 f9 g4 g6 g7 y51_8 a b x51_5) → ∀ (H : Heap) (locs : List Loc) (ls : Array Slot), HP G A [(m0, .inr (7, [.int f0, .int f1, .int f2, .int f3, .ref a4, .int f5, .ref a6, .ref a7, .int f8, .int f9, .int f10, .int f11, .int f12, .int f13, .int f14, .ref a15, .ref a16, .ref a17, .int f18, .int f19, .int f20, .ref a21, .ref a22, .int f23, .ref a24, .ref a25, .ref a26, .ref a27, .ref a28, .ref a29, .ref a30, .int f31])), (a4, .inl (G.2.1, 20, .inl g4)), (a6, .inl (G.2.1, 4, .inl g6)), (a7, .inl (G.2.1, 4, .inl g7)), (a15, .inl (G.2.1, 20, .inl g15)), (a16, .inl (G.2.1, 4, .inl g16)), (a17, .inl (G.2.1, 4, .inl g17)), (a21, .inl (G.2.1, 20, .inl g21)), (a22, .inl (G.2.1, 40, .inl y51_8)), (a24, .inl (G.2.1, 8, .inl g24)), (a25, .inl (G.2.1, 8, .inl g25)), (a26, .inl (G.2.2.1, 8, .inl g26)), (a27, .inl (G.2.1, 4, .inl g27)), (a28, .inl (G.2.1, 4, .inl g28)), (a29, .inl (G.2.1, 240, .inl g29)), (a30, .inl (G.2.1, 60, .inl g30))] s H locs → lv_has ls 8 [(0, .ref m0), (1, .int a), (2, .int b), (4, .int x51_4), (5, .int x51_5)] → W p l e rm_X7_goBond s m args below meth c H locs 0 0 Q (F0 m 105 ls [.int v105]) := by
                intro v105 e105_0 H locs ls hh hl
                have hv := hv.2 v105 e105_0
                refine lv_istore (pc := 105) (lv' := [(7, .int v105), (0, .ref m0), (1, .int a), (2, .int b), (4, .int x51_4), (5, .int x51_5)]) hx hb (dOk_at dX7_goBond 53 rfl) hl (by decide) rfl (fun ls hl => ?_)
                refine lv_aload_n (pc := 107) hx hb (dOk_at dX7_goBond 54 rfl) rfl (lv_at hl 1 rfl) ?_
                refine r_get (pc := 108) (ci := 7) fx hh inT7 rfl 22 (by decide) tFX7_31 rfl 0 rfl rfl (dOk_at dX7_goBond 55 rfl) ?_
                refine lv_iload (pc := 111) hx hb (dOk_at dX7_goBond 56 rfl) (lv_at hl 5 rfl) ?_
                refine lv_iload (pc := 113) hx hb (dOk_at dX7_goBond 57 rfl) (lv_at hl 0 rfl) ?_
                refine lv_iload (pc := 115) hx hb (dOk_at dX7_goBond 58 rfl) (lv_at hl 4 rfl) ?_
                have k132_117 : ∀ (v132 : Int32), v132 = (if v105 = x51_4 then v105 else y51_8 x51_5.toNatClampNeg) → ∀ (H : Heap) (locs : List Loc) (ls : Array Slot), HP G A [(m0, .inr (7, [.int f0, .int f1, .int f2, .int f3, .ref a4, .int f5, .ref a6, .ref a7, .int f8, .int f9, .int f10, .int f11, .int f12, .int f13, .int f14, .ref a15, .ref a16, .ref a17, .int f18, .int f19, .int f20, .ref a21, .ref a22, .int f23, .ref a24, .ref a25, .ref a26, .ref a27, .ref a28, .ref a29, .ref a30, .int f31])), (a4, .inl (G.2.1, 20, .inl g4)), (a6, .inl (G.2.1, 4, .inl g6)), (a7, .inl (G.2.1, 4, .inl g7)), (a15, .inl (G.2.1, 20, .inl g15)), (a16, .inl (G.2.1, 4, .inl g16)), (a17, .inl (G.2.1, 4, .inl g17)), (a21, .inl (G.2.1, 20, .inl g21)), (a22, .inl (G.2.1, 40, .inl y51_8)), (a24, .inl (G.2.1, 8, .inl g24)), (a25, .inl (G.2.1, 8, .inl g25)), (a26, .inl (G.2.2.1, 8, .inl g26)), (a27, .inl (G.2.1, 4, .inl g27)), (a28, .inl (G.2.1, 4, .inl g28)), (a29, .inl (G.2.1, 240, .inl g29)), (a30, .inl (G.2.1, 60, .inl g30))] s H locs → lv_has ls 8 [(0, .ref m0), (1, .int a), (2, .int b), (4, .int x51_4), (5, .int x51_5)] → W p l e rm_X7_goBond s m args below meth c H locs 0 0 Q (F0 m 132 ls [.int v132, .int x51_5, .ref a22]) := by
                  intro v132 e132_0 H locs ls hh hl
                  have hv := hv.2 v132 e132_0
                  refine r_iast (pc := 132) (w' := [(m0, .inr (7, [.int f0, .int f1, .int f2, .int f3, .ref a4, .int f5, .ref a6, .ref a7, .int f8, .int f9, .int f10, .int f11, .int f12, .int f13, .int f14, .ref a15, .ref a16, .ref a17, .int f18, .int f19, .int f20, .ref a21, .ref a22, .int f23, .ref a24, .ref a25, .ref a26, .ref a27, .ref a28, .ref a29, .ref a30, .int f31])), (a4, .inl (G.2.1, 20, .inl g4)), (a6, .inl (G.2.1, 4, .inl g6)), (a7, .inl (G.2.1, 4, .inl g7)), (a15, .inl (G.2.1, 20, .inl g15)), (a16, .inl (G.2.1, 4, .inl g16)), (a17, .inl (G.2.1, 4, .inl g17)), (a21, .inl (G.2.1, 20, .inl g21)), (a22, .inl (G.2.1, 40, .inl (upd y51_8 x51_5.toNatClampNeg v132))), (a24, .inl (G.2.1, 8, .inl g24)), (a25, .inl (G.2.1, 8, .inl g25)), (a26, .inl (G.2.2.1, 8, .inl g26)), (a27, .inl (G.2.1, 4, .inl g27)), (a28, .inl (G.2.1, 4, .inl g28)), (a29, .inl (G.2.1, 240, .inl g29)), (a30, .inl (G.2.1, 60, .inl g30))]) fx hh 8 rfl hv.1 rfl (dOk_at dX7_goBond 66 rfl) (fun H locs hh => ?_)
                  have hv := hv.2
                  refine lv_iinc (pc := 133) (v := x51_5 + 1) (lv' := [(5, .int (x51_5 + 1)), (0, .ref m0), (1, .int a), (2, .int b), (4, .int x51_4)]) hx hb (dOk_at dX7_goBond 67 rfl) hl (k := 4) rfl rfl (by decide) rfl (fun ls hl => ?_)
                  refine lv_goto (pc := 136) (tgt := 51) hx hb (dOk_at dX7_goBond 68 rfl) (by decide) ?_
                  obtain ⟨k0, hk0, hj0⟩ := hv
                  exact ih51 k0 hk0 x51_4 (x51_5 + 1) (upd y51_8 x51_5.toNatClampNeg v132) hj0 _ _ _ hh (lv_sub hl [1, 2, 3, 4, 0] rfl)
                have hv := hv.1
                refine lv_icmp_ne (pc := 117) (tgt := 125) hx hb (dOk_at dX7_goBond 59 rfl) (by decide) (fun c117 => ?_) (fun c117 => ?_)
                · have hv := hv.1 c117
                  refine lv_aload_n (pc := 125) hx hb (dOk_at dX7_goBond 62 rfl) rfl (lv_at hl 1 rfl) ?_
                  refine r_get (pc := 126) (ci := 7) fx hh inT7 rfl 22 (by decide) tFX7_31 rfl 0 rfl rfl (dOk_at dX7_goBond 63 rfl) ?_
                  refine lv_iload (pc := 129) hx hb (dOk_at dX7_goBond 64 rfl) (lv_at hl 5 rfl) ?_
                  refine r_iald (pc := 131) fx hh 8 rfl hv (dOk_at dX7_goBond 65 rfl) ?_
                  exact k132_117 _ (if_neg c117).symm _ _ _ hh (lv_sub hl [1, 2, 3, 4, 5] rfl)
                · have hv := hv.2 c117
                  refine lv_iload (pc := 120) hx hb (dOk_at dX7_goBond 60 rfl) (lv_at hl 0 rfl) ?_
                  refine lv_goto (pc := 122) (tgt := 132) hx hb (dOk_at dX7_goBond 61 rfl) (by decide) ?_
                  exact k132_117 _ (if_pos c117).symm _ _ _ hh (lv_sub hl [1, 2, 3, 4, 5] rfl)
              have hv := hv.1
              refine lv_if_eq (pc := 89) (tgt := 103) hx hb (dOk_at dX7_goBond 45 rfl) (by decide) (fun c89 => ?_) (fun c89 => ?_)
              · have hv := hv.1 c89
                refine lv_bipush (pc := 103) (v := (-9)) hx hb (dOk_at dX7_goBond 52 rfl) (by decide) ?_
                exact k105_89 _ (if_pos c89).symm _ _ _ hh (lv_sub hl [1, 2, 3, 4, 5] rfl)
              · have hv := hv.2 c89
                refine lv_aload_n (pc := 92) hx hb (dOk_at dX7_goBond 46 rfl) rfl (lv_at hl 1 rfl) ?_
                refine lv_iload (pc := 93) hx hb (dOk_at dX7_goBond 47 rfl) (lv_at hl 5 rfl) ?_
                refine lv_iload_n (pc := 95) hx hb (dOk_at dX7_goBond 48 rfl) rfl (lv_at hl 2 rfl) ?_
                refine lv_iload_n (pc := 96) hx hb (dOk_at dX7_goBond 49 rfl) rfl (lv_at hl 3 rfl) ?_
                refine cl_V (pc := 97) (w' := [(m0, .inr (7, [.int f0, .int f1, .int f2, .int f3, .ref a4, .int f5, .ref a6, .ref a7, .int f8, .int f9, .int f10, .int f11, .int f12, .int f13, .int f14, .ref a15, .ref a16, .ref a17, .int f18, .int f19, .int f20, .ref a21, .ref a22, .int f23, .ref a24, .ref a25, .ref a26, .ref a27, .ref a28, .ref a29, .ref a30, .int f31])), (a4, .inl (G.2.1, 20, .inl g4)), (a6, .inl (G.2.1, 4, .inl g6)), (a7, .inl (G.2.1, 4, .inl g7)), (a15, .inl (G.2.1, 20, .inl g15)), (a16, .inl (G.2.1, 4, .inl g16)), (a17, .inl (G.2.1, 4, .inl g17)), (a21, .inl (G.2.1, 20, .inl g21)), (a22, .inl (G.2.1, 40, .inl y51_8)), (a24, .inl (G.2.1, 8, .inl g24)), (a25, .inl (G.2.1, 8, .inl g25)), (a26, .inl (G.2.2.1, 8, .inl g26)), (a27, .inl (G.2.1, 4, .inl g27)), (a28, .inl (G.2.1, 4, .inl g28)), (a29, .inl (G.2.1, 240, .inl g29)), (a30, .inl (G.2.1, 60, .inl g30))]) (wr := []) (rest := []) fx hh hl.1 (h_X7_leftBy m0 a4 a6 a7 a15 a16 a17 a21 a22 a24 a25 a26 a27 a28 a29 a30 f0 f1 f2 f3 f5 f8 f9 f10 f11 f12 f13 f14 f18 f19 f20 f23 f31 g4 g6 g7 g15 g16 g17 g21 y51_8 g24 g25 g26 g27 g28 g29 g30 x51_5 a b hv.1 hv.2.1 hv.2.2.1 hv.2.2.2.1 hv.2.2.2.2) yV_X7_leftBy tMX7_207 ⟨rfl, rfl, Nat.le_of_ble_eq_true rfl, Nat.le_of_ble_eq_true rfl⟩ 0 7 rfl rfl rfl [0, 1, 2, 3, 4, 5, 6, 7, 8, 9, 10, 11, 12, 13, 14, 15] [] [0, 1, 2, 3, 4, 5, 6, 7, 8, 9, 10, 11, 12, 13, 14, 15] rfl rfl rfl (by decide) (by decide) rfl rfl (Nat.le_of_ble_eq_true rfl) ⟨Nat.le_of_ble_eq_true rfl, Nat.le_of_ble_eq_true rfl⟩ (dOk_at dX7_goBond 50 rfl) (fun H locs hh => ?_)
                refine lv_goto (pc := 100) (tgt := 105) hx hb (dOk_at dX7_goBond 51 rfl) (by decide) ?_
                exact k105_89 _ (if_neg c89).symm _ _ _ hh (lv_sub hl [1, 2, 3, 4, 5] rfl)
            have hv := hv.1
            refine lv_icmp_ge (pc := 67) (tgt := 84) hx hb (dOk_at dX7_goBond 34 rfl) (by decide) (fun c67 => ?_) (fun c67 => ?_)
            · have hv := hv.1 c67
              refine lv_iconst (pc := 84) (v := 0) hx hb (dOk_at dX7_goBond 42 rfl) (by decide) ?_
              exact k85_67 _ (if_pos c67).symm _ _ _ hh (lv_sub hl [0, 1, 2, 3, 4] rfl)
            · have hv := hv.2 c67
              refine lv_aload_n (pc := 70) hx hb (dOk_at dX7_goBond 35 rfl) rfl (lv_at hl 0 rfl) ?_
              refine r_get (pc := 71) (ci := 7) fx hh inT7 rfl 22 (by decide) tFX7_31 rfl 0 rfl rfl (dOk_at dX7_goBond 36 rfl) ?_
              refine lv_iload (pc := 74) hx hb (dOk_at dX7_goBond 37 rfl) (lv_at hl 4 rfl) ?_
              refine r_iald (pc := 76) fx hh 8 rfl hv (dOk_at dX7_goBond 38 rfl) ?_
              refine lv_if_ge (pc := 77) (tgt := 84) hx hb (dOk_at dX7_goBond 39 rfl) (by decide) (fun c77 => ?_) (fun c77 => ?_)
              · refine lv_iconst (pc := 84) (v := 0) hx hb (dOk_at dX7_goBond 42 rfl) (by decide) ?_
                exact k85_67 _ ((if_neg c67).trans (if_pos c77)).symm _ _ _ hh (lv_sub hl [0, 1, 2, 3, 4] rfl)
              · refine lv_iconst (pc := 80) (v := 1) hx hb (dOk_at dX7_goBond 40 rfl) (by decide) ?_
                refine lv_goto (pc := 81) (tgt := 85) hx hb (dOk_at dX7_goBond 41 rfl) (by decide) ?_
                exact k85_67 _ ((if_neg c67).trans (if_neg c77)).symm _ _ _ hh (lv_sub hl [0, 1, 2, 3, 4] rfl)
      refine lv_iload (pc := 41) hx hb (dOk_at dX7_goBond 21 rfl) (lv_at hl 3 rfl) ?_
      refine lv_bipush (pc := 43) (v := 41) hx hb (dOk_at dX7_goBond 22 rfl) (by decide) ?_
      refine lv_icmp_ge (pc := 45) (tgt := 145) hx hb (dOk_at dX7_goBond 23 rfl) (by decide) (fun c45 => ?_) (fun c45 => ?_)
      · have hv := hv.1 c45
        have e0 := hv
        subst e0
        rw [hQ]
        exact r_vret (pc := 145) fx hh (dOk_at dX7_goBond 71 rfl)
      · have hv := hv.2 c45
        refine lv_iconst (pc := 48) (v := 0) hx hb (dOk_at dX7_goBond 24 rfl) (by decide) ?_
        refine lv_istore (pc := 49) (lv' := [(5, .int 0), (0, .ref m0), (1, .int a), (2, .int b), (4, .int x41_4)]) hx hb (dOk_at dX7_goBond 25 rfl) hl (by decide) rfl (fun ls hl => ?_)
        obtain ⟨k0, hj0⟩ := hv
        exact lp51 k0 x41_4 0 y41_8 hj0 _ _ _ hh (lv_sub hl [1, 2, 3, 4, 0] rfl)
  have lp3 : ∀ (n3 : Nat) (x3_4 : Int32) (y3_8 : Nat → Int32), J3 n3 x3_4 y3_8 → ∀ (H : Heap) (locs : List Loc) (ls : Array Slot), HP G A [(m0, .inr (7, [.int f0, .int f1, .int f2, .int f3, .ref a4, .int f5, .ref a6, .ref a7, .int f8, .int f9, .int f10, .int f11, .int f12, .int f13, .int f14, .ref a15, .ref a16, .ref a17, .int f18, .int f19, .int f20, .ref a21, .ref a22, .int f23, .ref a24, .ref a25, .ref a26, .ref a27, .ref a28, .ref a29, .ref a30, .int f31])), (a4, .inl (G.2.1, 20, .inl g4)), (a6, .inl (G.2.1, 4, .inl g6)), (a7, .inl (G.2.1, 4, .inl g7)), (a15, .inl (G.2.1, 20, .inl g15)), (a16, .inl (G.2.1, 4, .inl g16)), (a17, .inl (G.2.1, 4, .inl g17)), (a21, .inl (G.2.1, 20, .inl g21)), (a22, .inl (G.2.1, 40, .inl y3_8)), (a24, .inl (G.2.1, 8, .inl g24)), (a25, .inl (G.2.1, 8, .inl g25)), (a26, .inl (G.2.2.1, 8, .inl g26)), (a27, .inl (G.2.1, 4, .inl g27)), (a28, .inl (G.2.1, 4, .inl g28)), (a29, .inl (G.2.1, 240, .inl g29)), (a30, .inl (G.2.1, 60, .inl g30))] s H locs → lv_has ls 8 [(0, .ref m0), (1, .int a), (2, .int b), (3, .int to), (4, .int x3_4)] → W p l e rm_X7_goBond s m args below meth c H locs 0 0 Q (F0 m 3 ls []) := by
    intro n3
    induction n3 using Nat.strongRecOn with
    | ind n3 ih3 =>
      intro x3_4 y3_8 hj3 H locs ls hh hl
      have hv := hv3 n3 x3_4 y3_8 hj3
      refine lv_iload (pc := 3) hx hb (dOk_at dX7_goBond 2 rfl) (lv_at hl 4 rfl) ?_
      refine lv_bipush (pc := 5) (v := 40) hx hb (dOk_at dX7_goBond 3 rfl) (by decide) ?_
      refine lv_icmp_ge (pc := 7) (tgt := 38) hx hb (dOk_at dX7_goBond 4 rfl) (by decide) (fun c7 => ?_) (fun c7 => ?_)
      · have hv := hv.1 c7
        refine lv_iconst (pc := 38) (v := 1) hx hb (dOk_at dX7_goBond 19 rfl) (by decide) ?_
        refine lv_istore (pc := 39) (lv' := [(4, .int 1), (0, .ref m0), (1, .int a), (2, .int b), (3, .int to)]) hx hb (dOk_at dX7_goBond 20 rfl) hl (by decide) rfl (fun ls hl => ?_)
        obtain ⟨k0, hj0⟩ := hv
        exact lp41 k0 1 y3_8 hj0 _ _ _ hh (lv_sub hl [1, 2, 3, 0] rfl)
      · have hv := hv.2 c7
        refine lv_aload_n (pc := 10) hx hb (dOk_at dX7_goBond 5 rfl) rfl (lv_at hl 0 rfl) ?_
        refine r_get (pc := 11) (ci := 7) fx hh inT7 rfl 22 (by decide) tFX7_31 rfl 0 rfl rfl (dOk_at dX7_goBond 6 rfl) ?_
        refine lv_iload (pc := 14) hx hb (dOk_at dX7_goBond 7 rfl) (lv_at hl 4 rfl) ?_
        refine lv_iload (pc := 16) hx hb (dOk_at dX7_goBond 8 rfl) (lv_at hl 4 rfl) ?_
        refine lv_bipush (pc := 18) (v := 20) hx hb (dOk_at dX7_goBond 9 rfl) (by decide) ?_
        refine lv_irem (pc := 20) hx hb (dOk_at dX7_goBond 10 rfl) (by decide) ?_
        refine lv_iload_n (pc := 21) hx hb (dOk_at dX7_goBond 11 rfl) rfl (lv_at hl 3 rfl) ?_
        have k31_22 : ∀ (v31 : Int32), v31 = (if (x3_4 - x3_4 / 20 * 20) = to then (0 : Int32) else (-9 : Int32)) → ∀ (H : Heap) (locs : List Loc) (ls : Array Slot), HP G A [(m0, .inr (7, [.int f0, .int f1, .int f2, .int f3, .ref a4, .int f5, .ref a6, .ref a7, .int f8, .int f9, .int f10, .int f11, .int f12, .int f13, .int f14, .ref a15, .ref a16, .ref a17, .int f18, .int f19, .int f20, .ref a21, .ref a22, .int f23, .ref a24, .ref a25, .ref a26, .ref a27, .ref a28, .ref a29, .ref a30, .int f31])), (a4, .inl (G.2.1, 20, .inl g4)), (a6, .inl (G.2.1, 4, .inl g6)), (a7, .inl (G.2.1, 4, .inl g7)), (a15, .inl (G.2.1, 20, .inl g15)), (a16, .inl (G.2.1, 4, .inl g16)), (a17, .inl (G.2.1, 4, .inl g17)), (a21, .inl (G.2.1, 20, .inl g21)), (a22, .inl (G.2.1, 40, .inl y3_8)), (a24, .inl (G.2.1, 8, .inl g24)), (a25, .inl (G.2.1, 8, .inl g25)), (a26, .inl (G.2.2.1, 8, .inl g26)), (a27, .inl (G.2.1, 4, .inl g27)), (a28, .inl (G.2.1, 4, .inl g28)), (a29, .inl (G.2.1, 240, .inl g29)), (a30, .inl (G.2.1, 60, .inl g30))] s H locs → lv_has ls 8 [(0, .ref m0), (1, .int a), (2, .int b), (3, .int to), (4, .int x3_4)] → W p l e rm_X7_goBond s m args below meth c H locs 0 0 Q (F0 m 31 ls [.int v31, .int x3_4, .ref a22]) := by
          intro v31 e31_0 H locs ls hh hl
          have hv := hv v31 e31_0
          refine r_iast (pc := 31) (w' := [(m0, .inr (7, [.int f0, .int f1, .int f2, .int f3, .ref a4, .int f5, .ref a6, .ref a7, .int f8, .int f9, .int f10, .int f11, .int f12, .int f13, .int f14, .ref a15, .ref a16, .ref a17, .int f18, .int f19, .int f20, .ref a21, .ref a22, .int f23, .ref a24, .ref a25, .ref a26, .ref a27, .ref a28, .ref a29, .ref a30, .int f31])), (a4, .inl (G.2.1, 20, .inl g4)), (a6, .inl (G.2.1, 4, .inl g6)), (a7, .inl (G.2.1, 4, .inl g7)), (a15, .inl (G.2.1, 20, .inl g15)), (a16, .inl (G.2.1, 4, .inl g16)), (a17, .inl (G.2.1, 4, .inl g17)), (a21, .inl (G.2.1, 20, .inl g21)), (a22, .inl (G.2.1, 40, .inl (upd y3_8 x3_4.toNatClampNeg v31))), (a24, .inl (G.2.1, 8, .inl g24)), (a25, .inl (G.2.1, 8, .inl g25)), (a26, .inl (G.2.2.1, 8, .inl g26)), (a27, .inl (G.2.1, 4, .inl g27)), (a28, .inl (G.2.1, 4, .inl g28)), (a29, .inl (G.2.1, 240, .inl g29)), (a30, .inl (G.2.1, 60, .inl g30))]) fx hh 8 rfl hv.1 rfl (dOk_at dX7_goBond 16 rfl) (fun H locs hh => ?_)
          have hv := hv.2
          refine lv_iinc (pc := 32) (v := x3_4 + 1) (lv' := [(4, .int (x3_4 + 1)), (0, .ref m0), (1, .int a), (2, .int b), (3, .int to)]) hx hb (dOk_at dX7_goBond 17 rfl) hl (k := 4) rfl rfl (by decide) rfl (fun ls hl => ?_)
          refine lv_goto (pc := 35) (tgt := 3) hx hb (dOk_at dX7_goBond 18 rfl) (by decide) ?_
          obtain ⟨k0, hk0, hj0⟩ := hv
          exact ih3 k0 hk0 (x3_4 + 1) (upd y3_8 x3_4.toNatClampNeg v31) hj0 _ _ _ hh (lv_sub hl [1, 2, 3, 4, 0] rfl)
        refine lv_icmp_ne (pc := 22) (tgt := 29) hx hb (dOk_at dX7_goBond 12 rfl) (by decide) (fun c22 => ?_) (fun c22 => ?_)
        · refine lv_bipush (pc := 29) (v := (-9)) hx hb (dOk_at dX7_goBond 15 rfl) (by decide) ?_
          exact k31_22 _ (if_neg c22).symm _ _ _ hh (lv_sub hl [0, 1, 2, 3, 4] rfl)
        · refine lv_iconst (pc := 25) (v := 0) hx hb (dOk_at dX7_goBond 13 rfl) (by decide) ?_
          refine lv_goto (pc := 26) (tgt := 31) hx hb (dOk_at dX7_goBond 14 rfl) (by decide) ?_
          exact k31_22 _ (if_pos c22).symm _ _ _ hh (lv_sub hl [0, 1, 2, 3, 4] rfl)
  refine lv_iconst (pc := 0) (v := 0) hx hb (dOk_at dX7_goBond 0 rfl) (by decide) ?_
  refine lv_istore (pc := 1) (lv' := [(4, .int 0), (0, .ref m0), (1, .int a), (2, .int b), (3, .int to)]) hx hb (dOk_at dX7_goBond 1 rfl) hl (by decide) rfl (fun ls hl => ?_)
  obtain ⟨k0, hj0⟩ := hv
  exact lp3 k0 0 g22 hj0 _ _ _ hh (lv_sub hl [1, 2, 3, 4, 0] rfl)
set_option maxRecDepth 100000 in
set_option maxHeartbeats 4000000 in
theorem wk_X7_isBond (l : Launch) (G : GT) (m0 : Nat) (a4 : Nat) (a6 : Nat) (a7 : Nat) (a15 : Nat) (a16 : Nat) (a17 : Nat) (a21 : Nat) (a22 : Nat) (a24 : Nat) (a25 : Nat) (a26 : Nat) (a27 : Nat) (a28 : Nat) (a29 : Nat) (a30 : Nat) (f0 : Int32) (f1 : Int32) (f2 : Int32) (f3 : Int32) (f5 : Int32) (f8 : Int32) (f9 : Int32) (f10 : Int32) (f11 : Int32) (f12 : Int32) (f13 : Int32) (f14 : Int32) (f18 : Int32) (f19 : Int32) (f20 : Int32) (f23 : Int32) (f31 : Int32) (g4 : Nat → Int32) (g6 : Nat → Int32) (g7 : Nat → Int32) (g15 : Nat → Int32) (g16 : Nat → Int32) (g17 : Nat → Int32) (g21 : Nat → Int32) (g22 : Nat → Int32) (g24 : Nat → Int32) (g25 : Nat → Int32) (g26 : Nat → Int32) (g27 : Nat → Int32) (g28 : Nat → Int32) (g29 : Nat → Int32) (g30 : Nat → Int32) (a : Int32) (b : Int32) (fro : Int32) (to : Int32) (R : Int32) (h_X7_goBond : K_X7_goBond l G)
    (hv : okD f1 f2 ∧ ¬ f2 = 0 ∧ vp_in a 4 ∧ vp_in b 4 ∧ (∀ (z5_0 : Nat → Int32), z5_0 = (q_bondL f1 f2 f8 f9 g4 g6 g7 g22 a b to) → vp_in fro 40 ∧ (((z5_0 fro.toNatClampNeg) < 0 → (0 : Int32) = R) ∧ (¬ (z5_0 fro.toNatClampNeg) < 0 → (1 : Int32) = R)))) :
    MFJ l G yX7_isBond cX7_isBond 5 (some .boolean) rm_X7_isBond [.ref m0, .int a, .int b, .int fro, .int to] [(m0, .inr (7, [.int f0, .int f1, .int f2, .int f3, .ref a4, .int f5, .ref a6, .ref a7, .int f8, .int f9, .int f10, .int f11, .int f12, .int f13, .int f14, .ref a15, .ref a16, .ref a17, .int f18, .int f19, .int f20, .ref a21, .ref a22, .int f23, .ref a24, .ref a25, .ref a26, .ref a27, .ref a28, .ref a29, .ref a30, .int f31])), (a4, .inl (G.2.1, 20, .inl g4)), (a6, .inl (G.2.1, 4, .inl g6)), (a7, .inl (G.2.1, 4, .inl g7)), (a15, .inl (G.2.1, 20, .inl g15)), (a16, .inl (G.2.1, 4, .inl g16)), (a17, .inl (G.2.1, 4, .inl g17)), (a21, .inl (G.2.1, 20, .inl g21)), (a22, .inl (G.2.1, 40, .inl g22)), (a24, .inl (G.2.1, 8, .inl g24)), (a25, .inl (G.2.1, 8, .inl g25)), (a26, .inl (G.2.2.1, 8, .inl g26)), (a27, .inl (G.2.1, 4, .inl g27)), (a28, .inl (G.2.1, 4, .inl g28)), (a29, .inl (G.2.1, 240, .inl g29)), (a30, .inl (G.2.1, 60, .inl g30))] (some (.int R)) (fun jj : (Nat → Int32) => [(m0, .inr (7, [.int f0, .int f1, .int f2, .int f3, .ref a4, .int f5, .ref a6, .ref a7, .int f8, .int f9, .int f10, .int f11, .int f12, .int f13, .int f14, .ref a15, .ref a16, .ref a17, .int f18, .int f19, .int f20, .ref a21, .ref a22, .int f23, .ref a24, .ref a25, .ref a26, .ref a27, .ref a28, .ref a29, .ref a30, .int f31])), (a4, .inl (G.2.1, 20, .inl g4)), (a6, .inl (G.2.1, 4, .inl g6)), (a7, .inl (G.2.1, 4, .inl g7)), (a15, .inl (G.2.1, 20, .inl g15)), (a16, .inl (G.2.1, 4, .inl g16)), (a17, .inl (G.2.1, 4, .inl g17)), (a21, .inl (G.2.1, 20, .inl g21)), (a22, .inl (G.2.1, 40, .inl jj)), (a24, .inl (G.2.1, 8, .inl g24)), (a25, .inl (G.2.1, 8, .inl g25)), (a26, .inl (G.2.2.1, 8, .inl g26)), (a27, .inl (G.2.1, 4, .inl g27)), (a28, .inl (G.2.1, 4, .inl g28)), (a29, .inl (G.2.1, 240, .inl g29)), (a30, .inl (G.2.1, 60, .inl g30))]) := by
  refine MFJ.of (by decide +kernel) (Nat.le_of_ble_eq_true rfl) ?_
  intro p e s m args below meth c A ls fx hh hl _
  have hx := fx.hx
  have hb := fx.hb
  have hl : lv_has ls 5 [(0, .ref m0), (1, .int a), (2, .int b), (3, .int fro), (4, .int to)] := hl
  obtain ⟨Q, hQ⟩ : ∃ Q, Q = ZJ G A (some (.int R)) (fun jj : (Nat → Int32) => [(m0, .inr (7, [.int f0, .int f1, .int f2, .int f3, .ref a4, .int f5, .ref a6, .ref a7, .int f8, .int f9, .int f10, .int f11, .int f12, .int f13, .int f14, .ref a15, .ref a16, .ref a17, .int f18, .int f19, .int f20, .ref a21, .ref a22, .int f23, .ref a24, .ref a25, .ref a26, .ref a27, .ref a28, .ref a29, .ref a30, .int f31])), (a4, .inl (G.2.1, 20, .inl g4)), (a6, .inl (G.2.1, 4, .inl g6)), (a7, .inl (G.2.1, 4, .inl g7)), (a15, .inl (G.2.1, 20, .inl g15)), (a16, .inl (G.2.1, 4, .inl g16)), (a17, .inl (G.2.1, 4, .inl g17)), (a21, .inl (G.2.1, 20, .inl g21)), (a22, .inl (G.2.1, 40, .inl jj)), (a24, .inl (G.2.1, 8, .inl g24)), (a25, .inl (G.2.1, 8, .inl g25)), (a26, .inl (G.2.2.1, 8, .inl g26)), (a27, .inl (G.2.1, 4, .inl g27)), (a28, .inl (G.2.1, 4, .inl g28)), (a29, .inl (G.2.1, 240, .inl g29)), (a30, .inl (G.2.1, 60, .inl g30))]) below args s := ⟨_, rfl⟩
  rw [← hQ]
  refine lv_aload_n (pc := 0) hx hb (dOk_at dX7_isBond 0 rfl) rfl (lv_at hl 0 rfl) ?_
  refine lv_iload_n (pc := 1) hx hb (dOk_at dX7_isBond 1 rfl) rfl (lv_at hl 1 rfl) ?_
  refine lv_iload_n (pc := 2) hx hb (dOk_at dX7_isBond 2 rfl) rfl (lv_at hl 2 rfl) ?_
  refine lv_iload (pc := 3) hx hb (dOk_at dX7_isBond 3 rfl) (lv_at hl 4 rfl) ?_
  have key5 : ∀ (z5_0 : Nat → Int32), z5_0 = (q_bondL f1 f2 f8 f9 g4 g6 g7 g22 a b to) → MF l G yX7_goBond cX7_goBond 8 none rm_X7_goBond [.ref m0, .int a, .int b, .int to] [(m0, .inr (7, [.int f0, .int f1, .int f2, .int f3, .ref a4, .int f5, .ref a6, .ref a7, .int f8, .int f9, .int f10, .int f11, .int f12, .int f13, .int f14, .ref a15, .ref a16, .ref a17, .int f18, .int f19, .int f20, .ref a21, .ref a22, .int f23, .ref a24, .ref a25, .ref a26, .ref a27, .ref a28, .ref a29, .ref a30, .int f31])), (a4, .inl (G.2.1, 20, .inl g4)), (a6, .inl (G.2.1, 4, .inl g6)), (a7, .inl (G.2.1, 4, .inl g7)), (a15, .inl (G.2.1, 20, .inl g15)), (a16, .inl (G.2.1, 4, .inl g16)), (a17, .inl (G.2.1, 4, .inl g17)), (a21, .inl (G.2.1, 20, .inl g21)), (a22, .inl (G.2.1, 40, .inl g22)), (a24, .inl (G.2.1, 8, .inl g24)), (a25, .inl (G.2.1, 8, .inl g25)), (a26, .inl (G.2.2.1, 8, .inl g26)), (a27, .inl (G.2.1, 4, .inl g27)), (a28, .inl (G.2.1, 4, .inl g28)), (a29, .inl (G.2.1, 240, .inl g29)), (a30, .inl (G.2.1, 60, .inl g30))] none [(m0, .inr (7, [.int f0, .int f1, .int f2, .int f3, .ref a4, .int f5, .ref a6, .ref a7, .int f8, .int f9, .int f10, .int f11, .int f12, .int f13, .int f14, .ref a15, .ref a16, .ref a17, .int f18, .int f19, .int f20, .ref a21, .ref a22, .int f23, .ref a24, .ref a25, .ref a26, .ref a27, .ref a28, .ref a29, .ref a30, .int f31])), (a4, .inl (G.2.1, 20, .inl g4)), (a6, .inl (G.2.1, 4, .inl g6)), (a7, .inl (G.2.1, 4, .inl g7)), (a15, .inl (G.2.1, 20, .inl g15)), (a16, .inl (G.2.1, 4, .inl g16)), (a17, .inl (G.2.1, 4, .inl g17)), (a21, .inl (G.2.1, 20, .inl g21)), (a22, .inl (G.2.1, 40, .inl z5_0)), (a24, .inl (G.2.1, 8, .inl g24)), (a25, .inl (G.2.1, 8, .inl g25)), (a26, .inl (G.2.2.1, 8, .inl g26)), (a27, .inl (G.2.1, 4, .inl g27)), (a28, .inl (G.2.1, 4, .inl g28)), (a29, .inl (G.2.1, 240, .inl g29)), (a30, .inl (G.2.1, 60, .inl g30))] := by
    intro z5_0 hz5_0
    subst hz5_0
    exact (h_X7_goBond m0 a4 a6 a7 a15 a16 a17 a21 a22 a24 a25 a26 a27 a28 a29 a30 f0 f1 f2 f3 f5 f8 f9 f10 f11 f12 f13 f14 f18 f19 f20 f23 f31 g4 g6 g7 g15 g16 g17 g21 g22 g24 g25 g26 g27 g28 g29 g30 a b to hv.1 hv.2.1 hv.2.2.1 hv.2.2.2.1)
  obtain ⟨z5_0, hz5_0⟩ : ∃ z : Nat → Int32, z = (q_bondL f1 f2 f8 f9 g4 g6 g7 g22 a b to) := ⟨_, rfl⟩
  refine cl_V (pc := 5) (w' := [(m0, .inr (7, [.int f0, .int f1, .int f2, .int f3, .ref a4, .int f5, .ref a6, .ref a7, .int f8, .int f9, .int f10, .int f11, .int f12, .int f13, .int f14, .ref a15, .ref a16, .ref a17, .int f18, .int f19, .int f20, .ref a21, .ref a22, .int f23, .ref a24, .ref a25, .ref a26, .ref a27, .ref a28, .ref a29, .ref a30, .int f31])), (a4, .inl (G.2.1, 20, .inl g4)), (a6, .inl (G.2.1, 4, .inl g6)), (a7, .inl (G.2.1, 4, .inl g7)), (a15, .inl (G.2.1, 20, .inl g15)), (a16, .inl (G.2.1, 4, .inl g16)), (a17, .inl (G.2.1, 4, .inl g17)), (a21, .inl (G.2.1, 20, .inl g21)), (a22, .inl (G.2.1, 40, .inl z5_0)), (a24, .inl (G.2.1, 8, .inl g24)), (a25, .inl (G.2.1, 8, .inl g25)), (a26, .inl (G.2.2.1, 8, .inl g26)), (a27, .inl (G.2.1, 4, .inl g27)), (a28, .inl (G.2.1, 4, .inl g28)), (a29, .inl (G.2.1, 240, .inl g29)), (a30, .inl (G.2.1, 60, .inl g30))]) (wr := []) (rest := []) fx hh hl.1 (key5 z5_0 hz5_0) yV_X7_goBond tMX7_211 ⟨rfl, rfl, Nat.le_of_ble_eq_true rfl, Nat.le_of_ble_eq_true rfl⟩ 0 7 rfl rfl rfl [0, 1, 2, 3, 4, 5, 6, 7, 8, 9, 10, 11, 12, 13, 14, 15] [] [0, 1, 2, 3, 4, 5, 6, 7, 8, 9, 10, 11, 12, 13, 14, 15] rfl rfl rfl (by decide) (by decide) rfl rfl (Nat.le_of_ble_eq_true rfl) ⟨Nat.le_of_ble_eq_true rfl, Nat.le_of_ble_eq_true rfl⟩ (dOk_at dX7_isBond 4 rfl) (fun H locs hh => ?_)
  have hv := hv.2.2.2.2 z5_0 hz5_0
  refine lv_aload_n (pc := 8) hx hb (dOk_at dX7_isBond 5 rfl) rfl (lv_at hl 0 rfl) ?_
  refine r_get (pc := 9) (ci := 7) fx hh inT7 rfl 22 (by decide) tFX7_31 rfl 0 rfl rfl (dOk_at dX7_isBond 6 rfl) ?_
  refine lv_iload_n (pc := 12) hx hb (dOk_at dX7_isBond 7 rfl) rfl (lv_at hl 3 rfl) ?_
  refine r_iald (pc := 13) fx hh 8 rfl hv.1 (dOk_at dX7_isBond 8 rfl) ?_
  have hv := hv.2
  refine lv_if_lt (pc := 14) (tgt := 21) hx hb (dOk_at dX7_isBond 9 rfl) (by decide) (fun c14 => ?_) (fun c14 => ?_)
  · have hv := hv.1 c14
    refine lv_iconst (pc := 21) (v := 0) hx hb (dOk_at dX7_isBond 12 rfl) (by decide) ?_
    have e0 := hv
    subst e0
    rw [hQ]
    exact r_zretJ (pc := 22) (z5_0) fx hh rfl (dOk_at dX7_isBond 13 rfl)
  · have hv := hv.2 c14
    refine lv_iconst (pc := 17) (v := 1) hx hb (dOk_at dX7_isBond 10 rfl) (by decide) ?_
    refine lv_goto (pc := 18) (tgt := 22) hx hb (dOk_at dX7_isBond 11 rfl) (by decide) ?_
    have e0 := hv
    subst e0
    rw [hQ]
    exact r_zretJ (pc := 22) (z5_0) fx hh rfl (dOk_at dX7_isBond 13 rfl)
set_option maxRecDepth 100000 in
set_option maxHeartbeats 4000000 in
theorem wk_X7_strokeBy (l : Launch) (G : GT) (m0 : Nat) (a4 : Nat) (a6 : Nat) (a7 : Nat) (a15 : Nat) (a16 : Nat) (a17 : Nat) (a21 : Nat) (a22 : Nat) (a24 : Nat) (a25 : Nat) (a26 : Nat) (a27 : Nat) (a28 : Nat) (a29 : Nat) (a30 : Nat) (f0 : Int32) (f1 : Int32) (f2 : Int32) (f3 : Int32) (f5 : Int32) (f8 : Int32) (f9 : Int32) (f10 : Int32) (f11 : Int32) (f12 : Int32) (f13 : Int32) (f14 : Int32) (f18 : Int32) (f19 : Int32) (f20 : Int32) (f23 : Int32) (f31 : Int32) (g4 : Nat → Int32) (g6 : Nat → Int32) (g7 : Nat → Int32) (g15 : Nat → Int32) (g16 : Nat → Int32) (g17 : Nat → Int32) (g21 : Nat → Int32) (g22 : Nat → Int32) (g24 : Nat → Int32) (g25 : Nat → Int32) (g26 : Nat → Int32) (g27 : Nat → Int32) (g28 : Nat → Int32) (g29 : Nat → Int32) (g30 : Nat → Int32) (a : Int32) (b : Int32) (ce : Int32) (turn : Int32) (R : Int32) (J21 : Nat → Int32 → Int32 → Prop) (h_X7_bears : K_X7_bears l G) (h_X7_beside : K_X7_beside l G)
    (hv : vp_in (ce + (20 * turn)) 40 ∧ (∃ k2 : Nat, J21 k2 (-9) 3))
    (hv21 : ∀ (n21 : Nat) (x21_5 : Int32) (x21_7 : Int32), J21 n21 x21_5 x21_7 → (x21_7 < 0 → x21_5 = R) ∧ (¬ x21_7 < 0 → ¬ f2 = 0 ∧ ((((q_beside f1 f2 ce x21_7) < 0 → True) ∧ (¬ (q_beside f1 f2 ce x21_7) < 0 → (vp_in (q_beside f1 f2 ce x21_7) 20 ∧ vp_in (if turn = 0 then a else b) 4 ∧ (((q_bears f8 f9 g4 g6 g7 (q_beside f1 f2 ce x21_7) (if turn = 0 then a else b)) = 0 → True) ∧ (¬ (q_bears f8 f9 g4 g6 g7 (q_beside f1 f2 ce x21_7) (if turn = 0 then a else b)) = 0 → vp_in ((q_beside f1 f2 ce x21_7) + (20 * (1 - turn))) 40))))) ∧ (∀ (v86 : Int32), v86 = (if (q_beside f1 f2 ce x21_7) < 0 then (0 : Int32) else (if (q_bears f8 f9 g4 g6 g7 (q_beside f1 f2 ce x21_7) (if turn = 0 then a else b)) = 0 then (0 : Int32) else (if (g22 ((q_beside f1 f2 ce x21_7) + (20 * (1 - turn))).toNatClampNeg) = ((g22 (ce + (20 * turn)).toNatClampNeg) - 1) then (1 : Int32) else (0 : Int32)))) → (∀ (v100 : Int32), v100 = (if v86 = 0 then x21_5 else x21_7) → ∃ k1 : Nat, k1 < n21 ∧ J21 k1 v100 (x21_7 + (-1))))))) :
    MF l G yX7_strokeBy cX7_strokeBy 10 (some .int) rm_X7_strokeBy [.ref m0, .int a, .int b, .int ce, .int turn] [(m0, .inr (7, [.int f0, .int f1, .int f2, .int f3, .ref a4, .int f5, .ref a6, .ref a7, .int f8, .int f9, .int f10, .int f11, .int f12, .int f13, .int f14, .ref a15, .ref a16, .ref a17, .int f18, .int f19, .int f20, .ref a21, .ref a22, .int f23, .ref a24, .ref a25, .ref a26, .ref a27, .ref a28, .ref a29, .ref a30, .int f31])), (a4, .inl (G.2.1, 20, .inl g4)), (a6, .inl (G.2.1, 4, .inl g6)), (a7, .inl (G.2.1, 4, .inl g7)), (a15, .inl (G.2.1, 20, .inl g15)), (a16, .inl (G.2.1, 4, .inl g16)), (a17, .inl (G.2.1, 4, .inl g17)), (a21, .inl (G.2.1, 20, .inl g21)), (a22, .inl (G.2.1, 40, .inl g22)), (a24, .inl (G.2.1, 8, .inl g24)), (a25, .inl (G.2.1, 8, .inl g25)), (a26, .inl (G.2.2.1, 8, .inl g26)), (a27, .inl (G.2.1, 4, .inl g27)), (a28, .inl (G.2.1, 4, .inl g28)), (a29, .inl (G.2.1, 240, .inl g29)), (a30, .inl (G.2.1, 60, .inl g30))] (some (.int R)) [(m0, .inr (7, [.int f0, .int f1, .int f2, .int f3, .ref a4, .int f5, .ref a6, .ref a7, .int f8, .int f9, .int f10, .int f11, .int f12, .int f13, .int f14, .ref a15, .ref a16, .ref a17, .int f18, .int f19, .int f20, .ref a21, .ref a22, .int f23, .ref a24, .ref a25, .ref a26, .ref a27, .ref a28, .ref a29, .ref a30, .int f31])), (a4, .inl (G.2.1, 20, .inl g4)), (a6, .inl (G.2.1, 4, .inl g6)), (a7, .inl (G.2.1, 4, .inl g7)), (a15, .inl (G.2.1, 20, .inl g15)), (a16, .inl (G.2.1, 4, .inl g16)), (a17, .inl (G.2.1, 4, .inl g17)), (a21, .inl (G.2.1, 20, .inl g21)), (a22, .inl (G.2.1, 40, .inl g22)), (a24, .inl (G.2.1, 8, .inl g24)), (a25, .inl (G.2.1, 8, .inl g25)), (a26, .inl (G.2.2.1, 8, .inl g26)), (a27, .inl (G.2.1, 4, .inl g27)), (a28, .inl (G.2.1, 4, .inl g28)), (a29, .inl (G.2.1, 240, .inl g29)), (a30, .inl (G.2.1, 60, .inl g30))] := by
  refine MF.of (by decide +kernel) (Nat.le_of_ble_eq_true rfl) ?_
  intro p e s m args below meth c A ls fx hh hl _
  have hx := fx.hx
  have hb := fx.hb
  have hl : lv_has ls 10 [(0, .ref m0), (1, .int a), (2, .int b), (3, .int ce), (4, .int turn)] := hl
  obtain ⟨Q, hQ⟩ : ∃ Q, Q = ZZ G A (some (.int R)) [(m0, .inr (7, [.int f0, .int f1, .int f2, .int f3, .ref a4, .int f5, .ref a6, .ref a7, .int f8, .int f9, .int f10, .int f11, .int f12, .int f13, .int f14, .ref a15, .ref a16, .ref a17, .int f18, .int f19, .int f20, .ref a21, .ref a22, .int f23, .ref a24, .ref a25, .ref a26, .ref a27, .ref a28, .ref a29, .ref a30, .int f31])), (a4, .inl (G.2.1, 20, .inl g4)), (a6, .inl (G.2.1, 4, .inl g6)), (a7, .inl (G.2.1, 4, .inl g7)), (a15, .inl (G.2.1, 20, .inl g15)), (a16, .inl (G.2.1, 4, .inl g16)), (a17, .inl (G.2.1, 4, .inl g17)), (a21, .inl (G.2.1, 20, .inl g21)), (a22, .inl (G.2.1, 40, .inl g22)), (a24, .inl (G.2.1, 8, .inl g24)), (a25, .inl (G.2.1, 8, .inl g25)), (a26, .inl (G.2.2.1, 8, .inl g26)), (a27, .inl (G.2.1, 4, .inl g27)), (a28, .inl (G.2.1, 4, .inl g28)), (a29, .inl (G.2.1, 240, .inl g29)), (a30, .inl (G.2.1, 60, .inl g30))] below args s := ⟨_, rfl⟩
  rw [← hQ]
  have lp21 : ∀ (n21 : Nat) (x21_5 : Int32) (x21_7 : Int32), J21 n21 x21_5 x21_7 → ∀ (H : Heap) (locs : List Loc) (ls : Array Slot), HP G A [(m0, .inr (7, [.int f0, .int f1, .int f2, .int f3, .ref a4, .int f5, .ref a6, .ref a7, .int f8, .int f9, .int f10, .int f11, .int f12, .int f13, .int f14, .ref a15, .ref a16, .ref a17, .int f18, .int f19, .int f20, .ref a21, .ref a22, .int f23, .ref a24, .ref a25, .ref a26, .ref a27, .ref a28, .ref a29, .ref a30, .int f31])), (a4, .inl (G.2.1, 20, .inl g4)), (a6, .inl (G.2.1, 4, .inl g6)), (a7, .inl (G.2.1, 4, .inl g7)), (a15, .inl (G.2.1, 20, .inl g15)), (a16, .inl (G.2.1, 4, .inl g16)), (a17, .inl (G.2.1, 4, .inl g17)), (a21, .inl (G.2.1, 20, .inl g21)), (a22, .inl (G.2.1, 40, .inl g22)), (a24, .inl (G.2.1, 8, .inl g24)), (a25, .inl (G.2.1, 8, .inl g25)), (a26, .inl (G.2.2.1, 8, .inl g26)), (a27, .inl (G.2.1, 4, .inl g27)), (a28, .inl (G.2.1, 4, .inl g28)), (a29, .inl (G.2.1, 240, .inl g29)), (a30, .inl (G.2.1, 60, .inl g30))] s H locs → lv_has ls 10 [(0, .ref m0), (1, .int a), (2, .int b), (3, .int ce), (4, .int turn), (5, .int x21_5), (6, .int (g22 (ce + (20 * turn)).toNatClampNeg)), (7, .int x21_7)] → W p l e rm_X7_strokeBy s m args below meth c H locs 0 0 Q (F0 m 21 ls []) := by
    intro n21
    induction n21 using Nat.strongRecOn with
    | ind n21 ih21 =>
      intro x21_5 x21_7 hj21 H locs ls hh hl
      have hv := hv21 n21 x21_5 x21_7 hj21
      refine lv_iload (pc := 21) hx hb (dOk_at dX7_strokeBy 13 rfl) (lv_at hl 7 rfl) ?_
      refine lv_if_lt (pc := 23) (tgt := 108) hx hb (dOk_at dX7_strokeBy 14 rfl) (by decide) (fun c23 => ?_) (fun c23 => ?_)
      · have hv := hv.1 c23
        refine lv_iload (pc := 108) hx hb (dOk_at dX7_strokeBy 57 rfl) (lv_at hl 5 rfl) ?_
        have e0 := hv
        subst e0
        rw [hQ]
        exact r_iret (pc := 110) fx hh (dOk_at dX7_strokeBy 58 rfl)
      · have hv := hv.2 c23
        refine lv_aload_n (pc := 26) hx hb (dOk_at dX7_strokeBy 15 rfl) rfl (lv_at hl 0 rfl) ?_
        refine lv_iload_n (pc := 27) hx hb (dOk_at dX7_strokeBy 16 rfl) rfl (lv_at hl 3 rfl) ?_
        refine lv_iload (pc := 28) hx hb (dOk_at dX7_strokeBy 17 rfl) (lv_at hl 7 rfl) ?_
        refine cl_V (pc := 30) (w' := [(m0, .inr (7, [.int f0, .int f1, .int f2, .int f3, .ref a4, .int f5, .ref a6, .ref a7, .int f8, .int f9, .int f10, .int f11, .int f12, .int f13, .int f14, .ref a15, .ref a16, .ref a17, .int f18, .int f19, .int f20, .ref a21, .ref a22, .int f23, .ref a24, .ref a25, .ref a26, .ref a27, .ref a28, .ref a29, .ref a30, .int f31])), (a4, .inl (G.2.1, 20, .inl g4)), (a6, .inl (G.2.1, 4, .inl g6)), (a7, .inl (G.2.1, 4, .inl g7)), (a15, .inl (G.2.1, 20, .inl g15)), (a16, .inl (G.2.1, 4, .inl g16)), (a17, .inl (G.2.1, 4, .inl g17)), (a21, .inl (G.2.1, 20, .inl g21)), (a22, .inl (G.2.1, 40, .inl g22)), (a24, .inl (G.2.1, 8, .inl g24)), (a25, .inl (G.2.1, 8, .inl g25)), (a26, .inl (G.2.2.1, 8, .inl g26)), (a27, .inl (G.2.1, 4, .inl g27)), (a28, .inl (G.2.1, 4, .inl g28)), (a29, .inl (G.2.1, 240, .inl g29)), (a30, .inl (G.2.1, 60, .inl g30))]) (wr := []) (rest := []) fx hh hl.1 (h_X7_beside m0 a4 a6 a7 a15 a16 a17 a21 a22 a24 a25 a26 a27 a28 a29 a30 f0 f1 f2 f3 f5 f8 f9 f10 f11 f12 f13 f14 f18 f19 f20 f23 f31 g4 g6 g7 g15 g16 g17 g21 g22 g24 g25 g26 g27 g28 g29 g30 ce x21_7 hv.1) yV_X7_beside tMX7_179 ⟨rfl, rfl, Nat.le_of_ble_eq_true rfl, Nat.le_of_ble_eq_true rfl⟩ 0 7 rfl rfl rfl [0, 1, 2, 3, 4, 5, 6, 7, 8, 9, 10, 11, 12, 13, 14, 15] [] [0, 1, 2, 3, 4, 5, 6, 7, 8, 9, 10, 11, 12, 13, 14, 15] rfl rfl rfl (by decide) (by decide) rfl rfl (Nat.le_of_ble_eq_true rfl) ⟨Nat.le_of_ble_eq_true rfl, Nat.le_of_ble_eq_true rfl⟩ (dOk_at dX7_strokeBy 18 rfl) (fun H locs hh => ?_)
        have hv := hv.2
        refine lv_istore (pc := 33) (lv' := [(8, .int (q_beside f1 f2 ce x21_7)), (0, .ref m0), (1, .int a), (2, .int b), (3, .int ce), (4, .int turn), (5, .int x21_5), (6, .int (g22 (ce + (20 * turn)).toNatClampNeg)), (7, .int x21_7)]) hx hb (dOk_at dX7_strokeBy 19 rfl) hl (by decide) rfl (fun ls hl => ?_)
        refine lv_iload (pc := 35) hx hb (dOk_at dX7_strokeBy 20 rfl) (lv_at hl 0 rfl) ?_
        have k86_37 : ∀ (v86 : Int32), v86 = (if (q_beside f1 f2 ce x21_7) < 0 then (0 : Int32) else (if (q_bears f8 f9 g4 g6 g7 (q_beside f1 f2 ce x21_7) (if turn = 0 then a else b)) = 0 then (0 : Int32) else (if (g22 ((q_beside f1 f2 ce x21_7) + (20 * (1 - turn))).toNatClampNeg) = ((g22 (ce + (20 * turn)).toNatClampNeg) - 1) then (1 : Int32) else (0 : Int32)))) → ∀ (H : Heap) (locs : List Loc) (ls : Array Slot), HP G A [(m0, .inr (7, [.int f0, .int f1, .int f2, .int f3, .ref a4, .int f5, .ref a6, .ref a7, .int f8, .int f9, .int f10, .int f11, .int f12, .int f13, .int f14, .ref a15, .ref a16, .ref a17, .int f18, .int f19, .int f20, .ref a21, .ref a22, .int f23, .ref a24, .ref a25, .ref a26, .ref a27, .ref a28, .ref a29, .ref a30, .int f31])), (a4, .inl (G.2.1, 20, .inl g4)), (a6, .inl (G.2.1, 4, .inl g6)), (a7, .inl (G.2.1, 4, .inl g7)), (a15, .inl (G.2.1, 20, .inl g15)), (a16, .inl (G.2.1, 4, .inl g16)), (a17, .inl (G.2.1, 4, .inl g17)), (a21, .inl (G.2.1, 20, .inl g21)), (a22, .inl (G.2.1, 40, .inl g22)), (a24, .inl (G.2.1, 8, .inl g24)), (a25, .inl (G.2.1, 8, .inl g25)), (a26, .inl (G.2.2.1, 8, .inl g26)), (a27, .inl (G.2.1, 4, .inl g27)), (a28, .inl (G.2.1, 4, .inl g28)), (a29, .inl (G.2.1, 240, .inl g29)), (a30, .inl (G.2.1, 60, .inl g30))] s H locs → lv_has ls 10 [(0, .ref m0), (1, .int a), (2, .int b), (3, .int ce), (4, .int turn), (5, .int x21_5), (6, .int (g22 (ce + (20 * turn)).toNatClampNeg)), (7, .int x21_7)] → W p l e rm_X7_strokeBy s m args below meth c H locs 0 0 Q (F0 m 86 ls [.int v86]) := by
          intro v86 e86_0 H locs ls hh hl
          have hv := hv.2 v86 e86_0
          refine lv_istore (pc := 86) (lv' := [(9, .int v86), (0, .ref m0), (1, .int a), (2, .int b), (3, .int ce), (4, .int turn), (5, .int x21_5), (6, .int (g22 (ce + (20 * turn)).toNatClampNeg)), (7, .int x21_7)]) hx hb (dOk_at dX7_strokeBy 48 rfl) hl (by decide) rfl (fun ls hl => ?_)
          refine lv_iload (pc := 88) hx hb (dOk_at dX7_strokeBy 49 rfl) (lv_at hl 0 rfl) ?_
          have k100_90 : ∀ (v100 : Int32), v100 = (if v86 = 0 then x21_5 else x21_7) → ∀ (H : Heap) (locs : List Loc) (ls : Array Slot), HP G A [(m0, .inr (7, [.int f0, .int f1, .int f2, .int f3, .ref a4, .int f5, .ref a6, .ref a7, .int f8, .int f9, .int f10, .int f11, .int f12, .int f13, .int f14, .ref a15, .ref a16, .ref a17, .int f18, .int f19, .int f20, .ref a21, .ref a22, .int f23, .ref a24, .ref a25, .ref a26, .ref a27, .ref a28, .ref a29, .ref a30, .int f31])), (a4, .inl (G.2.1, 20, .inl g4)), (a6, .inl (G.2.1, 4, .inl g6)), (a7, .inl (G.2.1, 4, .inl g7)), (a15, .inl (G.2.1, 20, .inl g15)), (a16, .inl (G.2.1, 4, .inl g16)), (a17, .inl (G.2.1, 4, .inl g17)), (a21, .inl (G.2.1, 20, .inl g21)), (a22, .inl (G.2.1, 40, .inl g22)), (a24, .inl (G.2.1, 8, .inl g24)), (a25, .inl (G.2.1, 8, .inl g25)), (a26, .inl (G.2.2.1, 8, .inl g26)), (a27, .inl (G.2.1, 4, .inl g27)), (a28, .inl (G.2.1, 4, .inl g28)), (a29, .inl (G.2.1, 240, .inl g29)), (a30, .inl (G.2.1, 60, .inl g30))] s H locs → lv_has ls 10 [(0, .ref m0), (1, .int a), (2, .int b), (3, .int ce), (4, .int turn), (6, .int (g22 (ce + (20 * turn)).toNatClampNeg)), (7, .int x21_7)] → W p l e rm_X7_strokeBy s m args below meth c H locs 0 0 Q (F0 m 100 ls [.int v100]) := by
            intro v100 e100_0 H locs ls hh hl
            have hv := hv v100 e100_0
            refine lv_istore (pc := 100) (lv' := [(5, .int v100), (0, .ref m0), (1, .int a), (2, .int b), (3, .int ce), (4, .int turn), (6, .int (g22 (ce + (20 * turn)).toNatClampNeg)), (7, .int x21_7)]) hx hb (dOk_at dX7_strokeBy 54 rfl) hl (by decide) rfl (fun ls hl => ?_)
            refine lv_iinc (pc := 102) (v := x21_7 + (-1)) (lv' := [(7, .int (x21_7 + (-1))), (5, .int v100), (0, .ref m0), (1, .int a), (2, .int b), (3, .int ce), (4, .int turn), (6, .int (g22 (ce + (20 * turn)).toNatClampNeg))]) hx hb (dOk_at dX7_strokeBy 55 rfl) hl (k := 7) rfl rfl (by decide) rfl (fun ls hl => ?_)
            refine lv_goto (pc := 105) (tgt := 21) hx hb (dOk_at dX7_strokeBy 56 rfl) (by decide) ?_
            obtain ⟨k0, hk0, hj0⟩ := hv
            exact ih21 k0 hk0 v100 (x21_7 + (-1)) hj0 _ _ _ hh (lv_sub hl [2, 3, 4, 5, 6, 1, 7, 0] rfl)
          refine lv_if_eq (pc := 90) (tgt := 98) hx hb (dOk_at dX7_strokeBy 50 rfl) (by decide) (fun c90 => ?_) (fun c90 => ?_)
          · refine lv_iload (pc := 98) hx hb (dOk_at dX7_strokeBy 53 rfl) (lv_at hl 6 rfl) ?_
            exact k100_90 _ (if_pos c90).symm _ _ _ hh (lv_sub hl [1, 2, 3, 4, 5, 7, 8] rfl)
          · refine lv_iload (pc := 93) hx hb (dOk_at dX7_strokeBy 51 rfl) (lv_at hl 8 rfl) ?_
            refine lv_goto (pc := 95) (tgt := 100) hx hb (dOk_at dX7_strokeBy 52 rfl) (by decide) ?_
            exact k100_90 _ (if_neg c90).symm _ _ _ hh (lv_sub hl [1, 2, 3, 4, 5, 7, 8] rfl)
        have hv := hv.1
        refine lv_if_lt (pc := 37) (tgt := 85) hx hb (dOk_at dX7_strokeBy 21 rfl) (by decide) (fun c37 => ?_) (fun c37 => ?_)
        · have hv := hv.1 c37
          refine lv_iconst (pc := 85) (v := 0) hx hb (dOk_at dX7_strokeBy 47 rfl) (by decide) ?_
          exact k86_37 _ (if_pos c37).symm _ _ _ hh (lv_sub hl [1, 2, 3, 4, 5, 6, 7, 8] rfl)
        · have hv := hv.2 c37
          refine lv_aload_n (pc := 40) hx hb (dOk_at dX7_strokeBy 22 rfl) rfl (lv_at hl 1 rfl) ?_
          refine lv_iload (pc := 41) hx hb (dOk_at dX7_strokeBy 23 rfl) (lv_at hl 0 rfl) ?_
          refine lv_iload (pc := 43) hx hb (dOk_at dX7_strokeBy 24 rfl) (lv_at hl 5 rfl) ?_
          have k53_45 : ∀ (v53 : Int32), v53 = (if turn = 0 then a else b) → ∀ (H : Heap) (locs : List Loc) (ls : Array Slot), HP G A [(m0, .inr (7, [.int f0, .int f1, .int f2, .int f3, .ref a4, .int f5, .ref a6, .ref a7, .int f8, .int f9, .int f10, .int f11, .int f12, .int f13, .int f14, .ref a15, .ref a16, .ref a17, .int f18, .int f19, .int f20, .ref a21, .ref a22, .int f23, .ref a24, .ref a25, .ref a26, .ref a27, .ref a28, .ref a29, .ref a30, .int f31])), (a4, .inl (G.2.1, 20, .inl g4)), (a6, .inl (G.2.1, 4, .inl g6)), (a7, .inl (G.2.1, 4, .inl g7)), (a15, .inl (G.2.1, 20, .inl g15)), (a16, .inl (G.2.1, 4, .inl g16)), (a17, .inl (G.2.1, 4, .inl g17)), (a21, .inl (G.2.1, 20, .inl g21)), (a22, .inl (G.2.1, 40, .inl g22)), (a24, .inl (G.2.1, 8, .inl g24)), (a25, .inl (G.2.1, 8, .inl g25)), (a26, .inl (G.2.2.1, 8, .inl g26)), (a27, .inl (G.2.1, 4, .inl g27)), (a28, .inl (G.2.1, 4, .inl g28)), (a29, .inl (G.2.1, 240, .inl g29)), (a30, .inl (G.2.1, 60, .inl g30))] s H locs → lv_has ls 10 [(0, .ref m0), (1, .int a), (2, .int b), (3, .int ce), (4, .int turn), (5, .int x21_5), (6, .int (g22 (ce + (20 * turn)).toNatClampNeg)), (7, .int x21_7), (8, .int (q_beside f1 f2 ce x21_7))] → W p l e rm_X7_strokeBy s m args below meth c H locs 0 0 Q (F0 m 53 ls [.int v53, .int (q_beside f1 f2 ce x21_7), .ref m0]) := by
            intro v53 e53_0 H locs ls hh hl
            subst e53_0
            have hv := hv
            refine cl_V (pc := 53) (w' := [(m0, .inr (7, [.int f0, .int f1, .int f2, .int f3, .ref a4, .int f5, .ref a6, .ref a7, .int f8, .int f9, .int f10, .int f11, .int f12, .int f13, .int f14, .ref a15, .ref a16, .ref a17, .int f18, .int f19, .int f20, .ref a21, .ref a22, .int f23, .ref a24, .ref a25, .ref a26, .ref a27, .ref a28, .ref a29, .ref a30, .int f31])), (a4, .inl (G.2.1, 20, .inl g4)), (a6, .inl (G.2.1, 4, .inl g6)), (a7, .inl (G.2.1, 4, .inl g7)), (a15, .inl (G.2.1, 20, .inl g15)), (a16, .inl (G.2.1, 4, .inl g16)), (a17, .inl (G.2.1, 4, .inl g17)), (a21, .inl (G.2.1, 20, .inl g21)), (a22, .inl (G.2.1, 40, .inl g22)), (a24, .inl (G.2.1, 8, .inl g24)), (a25, .inl (G.2.1, 8, .inl g25)), (a26, .inl (G.2.2.1, 8, .inl g26)), (a27, .inl (G.2.1, 4, .inl g27)), (a28, .inl (G.2.1, 4, .inl g28)), (a29, .inl (G.2.1, 240, .inl g29)), (a30, .inl (G.2.1, 60, .inl g30))]) (wr := []) (rest := []) fx hh hl.1 (h_X7_bears m0 a4 a6 a7 a15 a16 a17 a21 a22 a24 a25 a26 a27 a28 a29 a30 f0 f1 f2 f3 f5 f8 f9 f10 f11 f12 f13 f14 f18 f19 f20 f23 f31 g4 g6 g7 g15 g16 g17 g21 g22 g24 g25 g26 g27 g28 g29 g30 (q_beside f1 f2 ce x21_7) (if turn = 0 then a else b) hv.1 hv.2.1) yV_X7_bears tMX7_159 ⟨rfl, rfl, Nat.le_of_ble_eq_true rfl, Nat.le_of_ble_eq_true rfl⟩ 0 7 rfl rfl rfl [0, 1, 2, 3, 4, 5, 6, 7, 8, 9, 10, 11, 12, 13, 14, 15] [] [0, 1, 2, 3, 4, 5, 6, 7, 8, 9, 10, 11, 12, 13, 14, 15] rfl rfl rfl (by decide) (by decide) rfl rfl (Nat.le_of_ble_eq_true rfl) ⟨Nat.le_of_ble_eq_true rfl, Nat.le_of_ble_eq_true rfl⟩ (dOk_at dX7_strokeBy 29 rfl) (fun H locs hh => ?_)
            have hv := hv.2.2
            refine lv_if_eq (pc := 56) (tgt := 85) hx hb (dOk_at dX7_strokeBy 30 rfl) (by decide) (fun c56 => ?_) (fun c56 => ?_)
            · have hv := hv.1 c56
              refine lv_iconst (pc := 85) (v := 0) hx hb (dOk_at dX7_strokeBy 47 rfl) (by decide) ?_
              exact k86_37 _ ((if_neg c37).trans (if_pos c56)).symm _ _ _ hh (lv_sub hl [0, 1, 2, 3, 4, 5, 6, 7] rfl)
            · have hv := hv.2 c56
              refine lv_aload_n (pc := 59) hx hb (dOk_at dX7_strokeBy 31 rfl) rfl (lv_at hl 0 rfl) ?_
              refine r_get (pc := 60) (ci := 7) fx hh inT7 rfl 22 (by decide) tFX7_31 rfl 0 rfl rfl (dOk_at dX7_strokeBy 32 rfl) ?_
              refine lv_iload (pc := 63) hx hb (dOk_at dX7_strokeBy 33 rfl) (lv_at hl 8 rfl) ?_
              refine lv_bipush (pc := 65) (v := 20) hx hb (dOk_at dX7_strokeBy 34 rfl) (by decide) ?_
              refine lv_iconst (pc := 67) (v := 1) hx hb (dOk_at dX7_strokeBy 35 rfl) (by decide) ?_
              refine lv_iload (pc := 68) hx hb (dOk_at dX7_strokeBy 36 rfl) (lv_at hl 4 rfl) ?_
              refine lv_isub (pc := 70) hx hb (dOk_at dX7_strokeBy 37 rfl) ?_
              refine lv_imul (pc := 71) hx hb (dOk_at dX7_strokeBy 38 rfl) ?_
              refine lv_iadd (pc := 72) hx hb (dOk_at dX7_strokeBy 39 rfl) ?_
              refine r_iald (pc := 73) fx hh 8 rfl hv (dOk_at dX7_strokeBy 40 rfl) ?_
              refine lv_iload (pc := 74) hx hb (dOk_at dX7_strokeBy 41 rfl) (lv_at hl 6 rfl) ?_
              refine lv_iconst (pc := 76) (v := 1) hx hb (dOk_at dX7_strokeBy 42 rfl) (by decide) ?_
              refine lv_isub (pc := 77) hx hb (dOk_at dX7_strokeBy 43 rfl) ?_
              refine lv_icmp_ne (pc := 78) (tgt := 85) hx hb (dOk_at dX7_strokeBy 44 rfl) (by decide) (fun c78 => ?_) (fun c78 => ?_)
              · refine lv_iconst (pc := 85) (v := 0) hx hb (dOk_at dX7_strokeBy 47 rfl) (by decide) ?_
                exact k86_37 _ ((if_neg c37).trans ((if_neg c56).trans (if_neg c78))).symm _ _ _ hh (lv_sub hl [0, 1, 2, 3, 4, 5, 6, 7] rfl)
              · refine lv_iconst (pc := 81) (v := 1) hx hb (dOk_at dX7_strokeBy 45 rfl) (by decide) ?_
                refine lv_goto (pc := 82) (tgt := 86) hx hb (dOk_at dX7_strokeBy 46 rfl) (by decide) ?_
                exact k86_37 _ ((if_neg c37).trans ((if_neg c56).trans (if_pos c78))).symm _ _ _ hh (lv_sub hl [0, 1, 2, 3, 4, 5, 6, 7] rfl)
          refine lv_if_ne (pc := 45) (tgt := 52) hx hb (dOk_at dX7_strokeBy 25 rfl) (by decide) (fun c45 => ?_) (fun c45 => ?_)
          · refine lv_iload_n (pc := 52) hx hb (dOk_at dX7_strokeBy 28 rfl) rfl (lv_at hl 3 rfl) ?_
            exact k53_45 _ (if_neg c45).symm _ _ _ hh (lv_sub hl [1, 2, 3, 4, 5, 6, 7, 8, 0] rfl)
          · refine lv_iload_n (pc := 48) hx hb (dOk_at dX7_strokeBy 26 rfl) rfl (lv_at hl 2 rfl) ?_
            refine lv_goto (pc := 49) (tgt := 53) hx hb (dOk_at dX7_strokeBy 27 rfl) (by decide) ?_
            exact k53_45 _ (if_pos c45).symm _ _ _ hh (lv_sub hl [1, 2, 3, 4, 5, 6, 7, 8, 0] rfl)
  refine lv_bipush (pc := 0) (v := (-9)) hx hb (dOk_at dX7_strokeBy 0 rfl) (by decide) ?_
  refine lv_istore (pc := 2) (lv' := [(5, .int (-9)), (0, .ref m0), (1, .int a), (2, .int b), (3, .int ce), (4, .int turn)]) hx hb (dOk_at dX7_strokeBy 1 rfl) hl (by decide) rfl (fun ls hl => ?_)
  refine lv_aload_n (pc := 4) hx hb (dOk_at dX7_strokeBy 2 rfl) rfl (lv_at hl 1 rfl) ?_
  refine r_get (pc := 5) (ci := 7) fx hh inT7 rfl 22 (by decide) tFX7_31 rfl 0 rfl rfl (dOk_at dX7_strokeBy 3 rfl) ?_
  refine lv_iload_n (pc := 8) hx hb (dOk_at dX7_strokeBy 4 rfl) rfl (lv_at hl 4 rfl) ?_
  refine lv_bipush (pc := 9) (v := 20) hx hb (dOk_at dX7_strokeBy 5 rfl) (by decide) ?_
  refine lv_iload (pc := 11) hx hb (dOk_at dX7_strokeBy 6 rfl) (lv_at hl 5 rfl) ?_
  refine lv_imul (pc := 13) hx hb (dOk_at dX7_strokeBy 7 rfl) ?_
  refine lv_iadd (pc := 14) hx hb (dOk_at dX7_strokeBy 8 rfl) ?_
  refine r_iald (pc := 15) fx hh 8 rfl hv.1 (dOk_at dX7_strokeBy 9 rfl) ?_
  have hv := hv.2
  refine lv_istore (pc := 16) (lv' := [(6, .int (g22 (ce + (20 * turn)).toNatClampNeg)), (5, .int (-9)), (0, .ref m0), (1, .int a), (2, .int b), (3, .int ce), (4, .int turn)]) hx hb (dOk_at dX7_strokeBy 10 rfl) hl (by decide) rfl (fun ls hl => ?_)
  refine lv_iconst (pc := 18) (v := 3) hx hb (dOk_at dX7_strokeBy 11 rfl) (by decide) ?_
  refine lv_istore (pc := 19) (lv' := [(7, .int 3), (6, .int (g22 (ce + (20 * turn)).toNatClampNeg)), (5, .int (-9)), (0, .ref m0), (1, .int a), (2, .int b), (3, .int ce), (4, .int turn)]) hx hb (dOk_at dX7_strokeBy 12 rfl) hl (by decide) rfl (fun ls hl => ?_)
  obtain ⟨k0, hj0⟩ := hv
  exact lp21 k0 (-9) 3 hj0 _ _ _ hh (lv_sub hl [3, 4, 5, 6, 7, 2, 1, 0] rfl)
set_option maxRecDepth 100000 in
set_option maxHeartbeats 4000000 in
theorem wk_X7_areSo (l : Launch) (G : GT) (m0 : Nat) (a4 : Nat) (a6 : Nat) (a7 : Nat) (a15 : Nat) (a16 : Nat) (a17 : Nat) (a21 : Nat) (a22 : Nat) (a24 : Nat) (a25 : Nat) (a26 : Nat) (a27 : Nat) (a28 : Nat) (a29 : Nat) (a30 : Nat) (f0 : Int32) (f1 : Int32) (f2 : Int32) (f3 : Int32) (f5 : Int32) (f8 : Int32) (f9 : Int32) (f10 : Int32) (f11 : Int32) (f12 : Int32) (f13 : Int32) (f14 : Int32) (f18 : Int32) (f19 : Int32) (f20 : Int32) (f23 : Int32) (f31 : Int32) (g4 : Nat → Int32) (g6 : Nat → Int32) (g7 : Nat → Int32) (g15 : Nat → Int32) (g16 : Nat → Int32) (g17 : Nat → Int32) (g21 : Nat → Int32) (g22 : Nat → Int32) (g24 : Nat → Int32) (g25 : Nat → Int32) (g26 : Nat → Int32) (g27 : Nat → Int32) (g28 : Nat → Int32) (g29 : Nat → Int32) (g30 : Nat → Int32) (R : Int32) (J4 : Nat → Int32 → Int32 → Prop) (h_X7_bears : K_X7_bears l G)
    (hv : ∃ k2 : Nat, J4 k2 1 0)
    (hv4 : ∀ (n4 : Nat) (x4_1 : Int32) (x4_2 : Int32), J4 n4 x4_1 x4_2 → (f23 ≤ x4_2 → ((x4_1 = 0 ∨ x4_1 = 1)) ∧ x4_1 = R) ∧ (¬ f23 ≤ x4_2 → ((x4_1 = 0 → True) ∧ (¬ x4_1 = 0 → vp_in x4_2 8 ∧ (vp_in x4_2 8 ∧ (vp_in (g25 x4_2.toNatClampNeg) 20 ∧ vp_in (g24 x4_2.toNatClampNeg) 4 ∧ vp_in x4_2 8)))) ∧ (∀ (v46 : Int32), v46 = (if x4_1 = 0 then (0 : Int32) else (if (q_bears f8 f9 g4 g6 g7 (g25 x4_2.toNatClampNeg) (g24 x4_2.toNatClampNeg)) = (g26 x4_2.toNatClampNeg) then (1 : Int32) else (0 : Int32))) → ∃ k1 : Nat, k1 < n4 ∧ J4 k1 v46 (x4_2 + 1)))) :
    MF l G yX7_areSo cX7_areSo 3 (some .boolean) rm_X7_areSo [.ref m0] [(m0, .inr (7, [.int f0, .int f1, .int f2, .int f3, .ref a4, .int f5, .ref a6, .ref a7, .int f8, .int f9, .int f10, .int f11, .int f12, .int f13, .int f14, .ref a15, .ref a16, .ref a17, .int f18, .int f19, .int f20, .ref a21, .ref a22, .int f23, .ref a24, .ref a25, .ref a26, .ref a27, .ref a28, .ref a29, .ref a30, .int f31])), (a4, .inl (G.2.1, 20, .inl g4)), (a6, .inl (G.2.1, 4, .inl g6)), (a7, .inl (G.2.1, 4, .inl g7)), (a15, .inl (G.2.1, 20, .inl g15)), (a16, .inl (G.2.1, 4, .inl g16)), (a17, .inl (G.2.1, 4, .inl g17)), (a21, .inl (G.2.1, 20, .inl g21)), (a22, .inl (G.2.1, 40, .inl g22)), (a24, .inl (G.2.1, 8, .inl g24)), (a25, .inl (G.2.1, 8, .inl g25)), (a26, .inl (G.2.2.1, 8, .inl g26)), (a27, .inl (G.2.1, 4, .inl g27)), (a28, .inl (G.2.1, 4, .inl g28)), (a29, .inl (G.2.1, 240, .inl g29)), (a30, .inl (G.2.1, 60, .inl g30))] (some (.int R)) [(m0, .inr (7, [.int f0, .int f1, .int f2, .int f3, .ref a4, .int f5, .ref a6, .ref a7, .int f8, .int f9, .int f10, .int f11, .int f12, .int f13, .int f14, .ref a15, .ref a16, .ref a17, .int f18, .int f19, .int f20, .ref a21, .ref a22, .int f23, .ref a24, .ref a25, .ref a26, .ref a27, .ref a28, .ref a29, .ref a30, .int f31])), (a4, .inl (G.2.1, 20, .inl g4)), (a6, .inl (G.2.1, 4, .inl g6)), (a7, .inl (G.2.1, 4, .inl g7)), (a15, .inl (G.2.1, 20, .inl g15)), (a16, .inl (G.2.1, 4, .inl g16)), (a17, .inl (G.2.1, 4, .inl g17)), (a21, .inl (G.2.1, 20, .inl g21)), (a22, .inl (G.2.1, 40, .inl g22)), (a24, .inl (G.2.1, 8, .inl g24)), (a25, .inl (G.2.1, 8, .inl g25)), (a26, .inl (G.2.2.1, 8, .inl g26)), (a27, .inl (G.2.1, 4, .inl g27)), (a28, .inl (G.2.1, 4, .inl g28)), (a29, .inl (G.2.1, 240, .inl g29)), (a30, .inl (G.2.1, 60, .inl g30))] := by
  refine MF.of (by decide +kernel) (Nat.le_of_ble_eq_true rfl) ?_
  intro p e s m args below meth c A ls fx hh hl _
  have hx := fx.hx
  have hb := fx.hb
  have hl : lv_has ls 3 [(0, .ref m0)] := hl
  obtain ⟨Q, hQ⟩ : ∃ Q, Q = ZZ G A (some (.int R)) [(m0, .inr (7, [.int f0, .int f1, .int f2, .int f3, .ref a4, .int f5, .ref a6, .ref a7, .int f8, .int f9, .int f10, .int f11, .int f12, .int f13, .int f14, .ref a15, .ref a16, .ref a17, .int f18, .int f19, .int f20, .ref a21, .ref a22, .int f23, .ref a24, .ref a25, .ref a26, .ref a27, .ref a28, .ref a29, .ref a30, .int f31])), (a4, .inl (G.2.1, 20, .inl g4)), (a6, .inl (G.2.1, 4, .inl g6)), (a7, .inl (G.2.1, 4, .inl g7)), (a15, .inl (G.2.1, 20, .inl g15)), (a16, .inl (G.2.1, 4, .inl g16)), (a17, .inl (G.2.1, 4, .inl g17)), (a21, .inl (G.2.1, 20, .inl g21)), (a22, .inl (G.2.1, 40, .inl g22)), (a24, .inl (G.2.1, 8, .inl g24)), (a25, .inl (G.2.1, 8, .inl g25)), (a26, .inl (G.2.2.1, 8, .inl g26)), (a27, .inl (G.2.1, 4, .inl g27)), (a28, .inl (G.2.1, 4, .inl g28)), (a29, .inl (G.2.1, 240, .inl g29)), (a30, .inl (G.2.1, 60, .inl g30))] below args s := ⟨_, rfl⟩
  rw [← hQ]
  have lp4 : ∀ (n4 : Nat) (x4_1 : Int32) (x4_2 : Int32), J4 n4 x4_1 x4_2 → ∀ (H : Heap) (locs : List Loc) (ls : Array Slot), HP G A [(m0, .inr (7, [.int f0, .int f1, .int f2, .int f3, .ref a4, .int f5, .ref a6, .ref a7, .int f8, .int f9, .int f10, .int f11, .int f12, .int f13, .int f14, .ref a15, .ref a16, .ref a17, .int f18, .int f19, .int f20, .ref a21, .ref a22, .int f23, .ref a24, .ref a25, .ref a26, .ref a27, .ref a28, .ref a29, .ref a30, .int f31])), (a4, .inl (G.2.1, 20, .inl g4)), (a6, .inl (G.2.1, 4, .inl g6)), (a7, .inl (G.2.1, 4, .inl g7)), (a15, .inl (G.2.1, 20, .inl g15)), (a16, .inl (G.2.1, 4, .inl g16)), (a17, .inl (G.2.1, 4, .inl g17)), (a21, .inl (G.2.1, 20, .inl g21)), (a22, .inl (G.2.1, 40, .inl g22)), (a24, .inl (G.2.1, 8, .inl g24)), (a25, .inl (G.2.1, 8, .inl g25)), (a26, .inl (G.2.2.1, 8, .inl g26)), (a27, .inl (G.2.1, 4, .inl g27)), (a28, .inl (G.2.1, 4, .inl g28)), (a29, .inl (G.2.1, 240, .inl g29)), (a30, .inl (G.2.1, 60, .inl g30))] s H locs → lv_has ls 3 [(0, .ref m0), (1, .int x4_1), (2, .int x4_2)] → W p l e rm_X7_areSo s m args below meth c H locs 0 0 Q (F0 m 4 ls []) := by
    intro n4
    induction n4 using Nat.strongRecOn with
    | ind n4 ih4 =>
      intro x4_1 x4_2 hj4 H locs ls hh hl
      have hv := hv4 n4 x4_1 x4_2 hj4
      refine lv_iload_n (pc := 4) hx hb (dOk_at dX7_areSo 4 rfl) rfl (lv_at hl 2 rfl) ?_
      refine lv_aload_n (pc := 5) hx hb (dOk_at dX7_areSo 5 rfl) rfl (lv_at hl 0 rfl) ?_
      refine r_get (pc := 6) (ci := 7) fx hh inT7 rfl 23 (by decide) tFX7_144 rfl 0 rfl rfl (dOk_at dX7_areSo 6 rfl) ?_
      refine lv_icmp_ge (pc := 9) (tgt := 53) hx hb (dOk_at dX7_areSo 7 rfl) (by decide) (fun c9 => ?_) (fun c9 => ?_)
      · have hv := hv.1 c9
        refine lv_iload_n (pc := 53) hx hb (dOk_at dX7_areSo 31 rfl) rfl (lv_at hl 1 rfl) ?_
        obtain ⟨e0, e1⟩ := hv
        subst e1
        rw [hQ]
        exact r_zret (pc := 54) fx hh (nar01 e0) (dOk_at dX7_areSo 32 rfl)
      · have hv := hv.2 c9
        refine lv_iload_n (pc := 12) hx hb (dOk_at dX7_areSo 8 rfl) rfl (lv_at hl 1 rfl) ?_
        have k46_13 : ∀ (v46 : Int32), v46 = (if x4_1 = 0 then (0 : Int32) else (if (q_bears f8 f9 g4 g6 g7 (g25 x4_2.toNatClampNeg) (g24 x4_2.toNatClampNeg)) = (g26 x4_2.toNatClampNeg) then (1 : Int32) else (0 : Int32))) → ∀ (H : Heap) (locs : List Loc) (ls : Array Slot), HP G A [(m0, .inr (7, [.int f0, .int f1, .int f2, .int f3, .ref a4, .int f5, .ref a6, .ref a7, .int f8, .int f9, .int f10, .int f11, .int f12, .int f13, .int f14, .ref a15, .ref a16, .ref a17, .int f18, .int f19, .int f20, .ref a21, .ref a22, .int f23, .ref a24, .ref a25, .ref a26, .ref a27, .ref a28, .ref a29, .ref a30, .int f31])), (a4, .inl (G.2.1, 20, .inl g4)), (a6, .inl (G.2.1, 4, .inl g6)), (a7, .inl (G.2.1, 4, .inl g7)), (a15, .inl (G.2.1, 20, .inl g15)), (a16, .inl (G.2.1, 4, .inl g16)), (a17, .inl (G.2.1, 4, .inl g17)), (a21, .inl (G.2.1, 20, .inl g21)), (a22, .inl (G.2.1, 40, .inl g22)), (a24, .inl (G.2.1, 8, .inl g24)), (a25, .inl (G.2.1, 8, .inl g25)), (a26, .inl (G.2.2.1, 8, .inl g26)), (a27, .inl (G.2.1, 4, .inl g27)), (a28, .inl (G.2.1, 4, .inl g28)), (a29, .inl (G.2.1, 240, .inl g29)), (a30, .inl (G.2.1, 60, .inl g30))] s H locs → lv_has ls 3 [(0, .ref m0), (2, .int x4_2)] → W p l e rm_X7_areSo s m args below meth c H locs 0 0 Q (F0 m 46 ls [.int v46]) := by
          intro v46 e46_0 H locs ls hh hl
          have hv := hv.2 v46 e46_0
          refine lv_istore_n (pc := 46) (lv' := [(1, .int v46), (0, .ref m0), (2, .int x4_2)]) hx hb (dOk_at dX7_areSo 28 rfl) rfl hl (by decide) rfl (fun ls hl => ?_)
          refine lv_iinc (pc := 47) (v := x4_2 + 1) (lv' := [(2, .int (x4_2 + 1)), (1, .int v46), (0, .ref m0)]) hx hb (dOk_at dX7_areSo 29 rfl) hl (k := 2) rfl rfl (by decide) rfl (fun ls hl => ?_)
          refine lv_goto (pc := 50) (tgt := 4) hx hb (dOk_at dX7_areSo 30 rfl) (by decide) ?_
          obtain ⟨k0, hk0, hj0⟩ := hv
          exact ih4 k0 hk0 v46 (x4_2 + 1) hj0 _ _ _ hh (lv_sub hl [2, 1, 0] rfl)
        have hv := hv.1
        refine lv_if_eq (pc := 13) (tgt := 45) hx hb (dOk_at dX7_areSo 9 rfl) (by decide) (fun c13 => ?_) (fun c13 => ?_)
        · have hv := hv.1 c13
          refine lv_iconst (pc := 45) (v := 0) hx hb (dOk_at dX7_areSo 27 rfl) (by decide) ?_
          exact k46_13 _ (if_pos c13).symm _ _ _ hh (lv_sub hl [0, 2] rfl)
        · have hv := hv.2 c13
          refine lv_aload_n (pc := 16) hx hb (dOk_at dX7_areSo 10 rfl) rfl (lv_at hl 0 rfl) ?_
          refine lv_aload_n (pc := 17) hx hb (dOk_at dX7_areSo 11 rfl) rfl (lv_at hl 0 rfl) ?_
          refine r_get (pc := 18) (ci := 7) fx hh inT7 rfl 25 (by decide) tFX7_37 rfl 0 rfl rfl (dOk_at dX7_areSo 12 rfl) ?_
          refine lv_iload_n (pc := 21) hx hb (dOk_at dX7_areSo 13 rfl) rfl (lv_at hl 2 rfl) ?_
          refine r_iald (pc := 22) fx hh 10 rfl hv.1 (dOk_at dX7_areSo 14 rfl) ?_
          have hv := hv.2
          refine lv_aload_n (pc := 23) hx hb (dOk_at dX7_areSo 15 rfl) rfl (lv_at hl 0 rfl) ?_
          refine r_get (pc := 24) (ci := 7) fx hh inT7 rfl 24 (by decide) tFX7_34 rfl 0 rfl rfl (dOk_at dX7_areSo 16 rfl) ?_
          refine lv_iload_n (pc := 27) hx hb (dOk_at dX7_areSo 17 rfl) rfl (lv_at hl 2 rfl) ?_
          refine r_iald (pc := 28) fx hh 9 rfl hv.1 (dOk_at dX7_areSo 18 rfl) ?_
          have hv := hv.2
          refine cl_V (pc := 29) (w' := [(m0, .inr (7, [.int f0, .int f1, .int f2, .int f3, .ref a4, .int f5, .ref a6, .ref a7, .int f8, .int f9, .int f10, .int f11, .int f12, .int f13, .int f14, .ref a15, .ref a16, .ref a17, .int f18, .int f19, .int f20, .ref a21, .ref a22, .int f23, .ref a24, .ref a25, .ref a26, .ref a27, .ref a28, .ref a29, .ref a30, .int f31])), (a4, .inl (G.2.1, 20, .inl g4)), (a6, .inl (G.2.1, 4, .inl g6)), (a7, .inl (G.2.1, 4, .inl g7)), (a15, .inl (G.2.1, 20, .inl g15)), (a16, .inl (G.2.1, 4, .inl g16)), (a17, .inl (G.2.1, 4, .inl g17)), (a21, .inl (G.2.1, 20, .inl g21)), (a22, .inl (G.2.1, 40, .inl g22)), (a24, .inl (G.2.1, 8, .inl g24)), (a25, .inl (G.2.1, 8, .inl g25)), (a26, .inl (G.2.2.1, 8, .inl g26)), (a27, .inl (G.2.1, 4, .inl g27)), (a28, .inl (G.2.1, 4, .inl g28)), (a29, .inl (G.2.1, 240, .inl g29)), (a30, .inl (G.2.1, 60, .inl g30))]) (wr := []) (rest := []) fx hh hl.1 (h_X7_bears m0 a4 a6 a7 a15 a16 a17 a21 a22 a24 a25 a26 a27 a28 a29 a30 f0 f1 f2 f3 f5 f8 f9 f10 f11 f12 f13 f14 f18 f19 f20 f23 f31 g4 g6 g7 g15 g16 g17 g21 g22 g24 g25 g26 g27 g28 g29 g30 (g25 x4_2.toNatClampNeg) (g24 x4_2.toNatClampNeg) hv.1 hv.2.1) yV_X7_bears tMX7_159 ⟨rfl, rfl, Nat.le_of_ble_eq_true rfl, Nat.le_of_ble_eq_true rfl⟩ 0 7 rfl rfl rfl [0, 1, 2, 3, 4, 5, 6, 7, 8, 9, 10, 11, 12, 13, 14, 15] [] [0, 1, 2, 3, 4, 5, 6, 7, 8, 9, 10, 11, 12, 13, 14, 15] rfl rfl rfl (by decide) (by decide) rfl rfl (Nat.le_of_ble_eq_true rfl) ⟨Nat.le_of_ble_eq_true rfl, Nat.le_of_ble_eq_true rfl⟩ (dOk_at dX7_areSo 19 rfl) (fun H locs hh => ?_)
          have hv := hv.2.2
          refine lv_aload_n (pc := 32) hx hb (dOk_at dX7_areSo 20 rfl) rfl (lv_at hl 0 rfl) ?_
          refine r_get (pc := 33) (ci := 7) fx hh inT7 rfl 26 (by decide) tFX7_40 rfl 0 rfl rfl (dOk_at dX7_areSo 21 rfl) ?_
          refine lv_iload_n (pc := 36) hx hb (dOk_at dX7_areSo 22 rfl) rfl (lv_at hl 2 rfl) ?_
          refine r_zald (pc := 37) fx hh 11 rfl hv (dOk_at dX7_areSo 23 rfl) ?_
          refine lv_icmp_ne (pc := 38) (tgt := 45) hx hb (dOk_at dX7_areSo 24 rfl) (by decide) (fun c38 => ?_) (fun c38 => ?_)
          · refine lv_iconst (pc := 45) (v := 0) hx hb (dOk_at dX7_areSo 27 rfl) (by decide) ?_
            exact k46_13 _ ((if_neg c13).trans (if_neg c38)).symm _ _ _ hh (lv_sub hl [0, 2] rfl)
          · refine lv_iconst (pc := 41) (v := 1) hx hb (dOk_at dX7_areSo 25 rfl) (by decide) ?_
            refine lv_goto (pc := 42) (tgt := 46) hx hb (dOk_at dX7_areSo 26 rfl) (by decide) ?_
            exact k46_13 _ ((if_neg c13).trans (if_pos c38)).symm _ _ _ hh (lv_sub hl [0, 2] rfl)
  refine lv_iconst (pc := 0) (v := 1) hx hb (dOk_at dX7_areSo 0 rfl) (by decide) ?_
  refine lv_istore_n (pc := 1) (lv' := [(1, .int 1), (0, .ref m0)]) hx hb (dOk_at dX7_areSo 1 rfl) rfl hl (by decide) rfl (fun ls hl => ?_)
  refine lv_iconst (pc := 2) (v := 0) hx hb (dOk_at dX7_areSo 2 rfl) (by decide) ?_
  refine lv_istore_n (pc := 3) (lv' := [(2, .int 0), (1, .int 1), (0, .ref m0)]) hx hb (dOk_at dX7_areSo 3 rfl) rfl hl (by decide) rfl (fun ls hl => ?_)
  obtain ⟨k0, hj0⟩ := hv
  exact lp4 k0 1 0 hj0 _ _ _ hh (lv_sub hl [2, 1, 0] rfl)
set_option maxRecDepth 100000 in
set_option maxHeartbeats 4000000 in
theorem wk_X7_noCell (l : Launch) (G : GT) (m0 : Nat) (a4 : Nat) (a6 : Nat) (a7 : Nat) (a15 : Nat) (a16 : Nat) (a17 : Nat) (a21 : Nat) (a22 : Nat) (a24 : Nat) (a25 : Nat) (a26 : Nat) (a27 : Nat) (a28 : Nat) (a29 : Nat) (a30 : Nat) (f0 : Int32) (f1 : Int32) (f2 : Int32) (f3 : Int32) (f5 : Int32) (f8 : Int32) (f9 : Int32) (f10 : Int32) (f11 : Int32) (f12 : Int32) (f13 : Int32) (f14 : Int32) (f18 : Int32) (f19 : Int32) (f20 : Int32) (f23 : Int32) (f31 : Int32) (g4 : Nat → Int32) (g6 : Nat → Int32) (g7 : Nat → Int32) (g15 : Nat → Int32) (g16 : Nat → Int32) (g17 : Nat → Int32) (g21 : Nat → Int32) (g22 : Nat → Int32) (g24 : Nat → Int32) (g25 : Nat → Int32) (g26 : Nat → Int32) (g27 : Nat → Int32) (g28 : Nat → Int32) (g29 : Nat → Int32) (g30 : Nat → Int32) (k : Int32) (ii : Int32) (R : Int32) (h_X7_in : K_X7_in l G)
    (hv : vp_in k 4 ∧ ((0 ≤ (g27 k.toNatClampNeg) → vp_in k 4 ∧ (((q_in ii.toInt64 0 (((g27 k.toNatClampNeg).toInt64) - 1)) = 0 → (3 : Int32) = R) ∧ (¬ (q_in ii.toInt64 0 (((g27 k.toNatClampNeg).toInt64) - 1)) = 0 → (0 : Int32) = R))) ∧ (¬ 0 ≤ (g27 k.toNatClampNeg) → (1 : Int32) = R))) :
    MF l G yX7_noCell cX7_noCell 3 (some .int) rm_X7_noCell [.ref m0, .int k, .int ii] [(m0, .inr (7, [.int f0, .int f1, .int f2, .int f3, .ref a4, .int f5, .ref a6, .ref a7, .int f8, .int f9, .int f10, .int f11, .int f12, .int f13, .int f14, .ref a15, .ref a16, .ref a17, .int f18, .int f19, .int f20, .ref a21, .ref a22, .int f23, .ref a24, .ref a25, .ref a26, .ref a27, .ref a28, .ref a29, .ref a30, .int f31])), (a4, .inl (G.2.1, 20, .inl g4)), (a6, .inl (G.2.1, 4, .inl g6)), (a7, .inl (G.2.1, 4, .inl g7)), (a15, .inl (G.2.1, 20, .inl g15)), (a16, .inl (G.2.1, 4, .inl g16)), (a17, .inl (G.2.1, 4, .inl g17)), (a21, .inl (G.2.1, 20, .inl g21)), (a22, .inl (G.2.1, 40, .inl g22)), (a24, .inl (G.2.1, 8, .inl g24)), (a25, .inl (G.2.1, 8, .inl g25)), (a26, .inl (G.2.2.1, 8, .inl g26)), (a27, .inl (G.2.1, 4, .inl g27)), (a28, .inl (G.2.1, 4, .inl g28)), (a29, .inl (G.2.1, 240, .inl g29)), (a30, .inl (G.2.1, 60, .inl g30))] (some (.int R)) [(m0, .inr (7, [.int f0, .int f1, .int f2, .int f3, .ref a4, .int f5, .ref a6, .ref a7, .int f8, .int f9, .int f10, .int f11, .int f12, .int f13, .int f14, .ref a15, .ref a16, .ref a17, .int f18, .int f19, .int f20, .ref a21, .ref a22, .int f23, .ref a24, .ref a25, .ref a26, .ref a27, .ref a28, .ref a29, .ref a30, .int f31])), (a4, .inl (G.2.1, 20, .inl g4)), (a6, .inl (G.2.1, 4, .inl g6)), (a7, .inl (G.2.1, 4, .inl g7)), (a15, .inl (G.2.1, 20, .inl g15)), (a16, .inl (G.2.1, 4, .inl g16)), (a17, .inl (G.2.1, 4, .inl g17)), (a21, .inl (G.2.1, 20, .inl g21)), (a22, .inl (G.2.1, 40, .inl g22)), (a24, .inl (G.2.1, 8, .inl g24)), (a25, .inl (G.2.1, 8, .inl g25)), (a26, .inl (G.2.2.1, 8, .inl g26)), (a27, .inl (G.2.1, 4, .inl g27)), (a28, .inl (G.2.1, 4, .inl g28)), (a29, .inl (G.2.1, 240, .inl g29)), (a30, .inl (G.2.1, 60, .inl g30))] := by
  refine MF.of (by decide +kernel) (Nat.le_of_ble_eq_true rfl) ?_
  intro p e s m args below meth c A ls fx hh hl _
  have hx := fx.hx
  have hb := fx.hb
  have hl : lv_has ls 3 [(0, .ref m0), (1, .int k), (2, .int ii)] := hl
  obtain ⟨Q, hQ⟩ : ∃ Q, Q = ZZ G A (some (.int R)) [(m0, .inr (7, [.int f0, .int f1, .int f2, .int f3, .ref a4, .int f5, .ref a6, .ref a7, .int f8, .int f9, .int f10, .int f11, .int f12, .int f13, .int f14, .ref a15, .ref a16, .ref a17, .int f18, .int f19, .int f20, .ref a21, .ref a22, .int f23, .ref a24, .ref a25, .ref a26, .ref a27, .ref a28, .ref a29, .ref a30, .int f31])), (a4, .inl (G.2.1, 20, .inl g4)), (a6, .inl (G.2.1, 4, .inl g6)), (a7, .inl (G.2.1, 4, .inl g7)), (a15, .inl (G.2.1, 20, .inl g15)), (a16, .inl (G.2.1, 4, .inl g16)), (a17, .inl (G.2.1, 4, .inl g17)), (a21, .inl (G.2.1, 20, .inl g21)), (a22, .inl (G.2.1, 40, .inl g22)), (a24, .inl (G.2.1, 8, .inl g24)), (a25, .inl (G.2.1, 8, .inl g25)), (a26, .inl (G.2.2.1, 8, .inl g26)), (a27, .inl (G.2.1, 4, .inl g27)), (a28, .inl (G.2.1, 4, .inl g28)), (a29, .inl (G.2.1, 240, .inl g29)), (a30, .inl (G.2.1, 60, .inl g30))] below args s := ⟨_, rfl⟩
  rw [← hQ]
  refine lv_aload_n (pc := 0) hx hb (dOk_at dX7_noCell 0 rfl) rfl (lv_at hl 0 rfl) ?_
  refine r_get (pc := 1) (ci := 7) fx hh inT7 rfl 27 (by decide) tFX7_44 rfl 0 rfl rfl (dOk_at dX7_noCell 1 rfl) ?_
  refine lv_iload_n (pc := 4) hx hb (dOk_at dX7_noCell 2 rfl) rfl (lv_at hl 1 rfl) ?_
  refine r_iald (pc := 5) fx hh 12 rfl hv.1 (dOk_at dX7_noCell 3 rfl) ?_
  have hv := hv.2
  refine lv_if_ge (pc := 6) (tgt := 13) hx hb (dOk_at dX7_noCell 4 rfl) (by decide) (fun c6 => ?_) (fun c6 => ?_)
  · have hv := hv.1 c6
    refine lv_iload_n (pc := 13) hx hb (dOk_at dX7_noCell 7 rfl) rfl (lv_at hl 2 rfl) ?_
    refine lv_i2l (pc := 14) (v := ii.toInt64) hx hb (dOk_at dX7_noCell 8 rfl) rfl ?_
    refine lv_lconst (pc := 15) (v := 0) hx hb (dOk_at dX7_noCell 9 rfl) (by decide) ?_
    refine lv_aload_n (pc := 16) hx hb (dOk_at dX7_noCell 10 rfl) rfl (lv_at hl 0 rfl) ?_
    refine r_get (pc := 17) (ci := 7) fx hh inT7 rfl 27 (by decide) tFX7_44 rfl 0 rfl rfl (dOk_at dX7_noCell 11 rfl) ?_
    refine lv_iload_n (pc := 20) hx hb (dOk_at dX7_noCell 12 rfl) rfl (lv_at hl 1 rfl) ?_
    refine r_iald (pc := 21) fx hh 12 rfl hv.1 (dOk_at dX7_noCell 13 rfl) ?_
    have hv := hv.2
    refine lv_i2l (pc := 22) (v := (g27 k.toNatClampNeg).toInt64) hx hb (dOk_at dX7_noCell 14 rfl) rfl ?_
    refine lv_lconst (pc := 23) (v := 1) hx hb (dOk_at dX7_noCell 15 rfl) (by decide) ?_
    refine lv_lsub (pc := 24) hx hb (dOk_at dX7_noCell 16 rfl) ?_
    refine cl_S (pc := 25) (w' := [(m0, .inr (7, [.int f0, .int f1, .int f2, .int f3, .ref a4, .int f5, .ref a6, .ref a7, .int f8, .int f9, .int f10, .int f11, .int f12, .int f13, .int f14, .ref a15, .ref a16, .ref a17, .int f18, .int f19, .int f20, .ref a21, .ref a22, .int f23, .ref a24, .ref a25, .ref a26, .ref a27, .ref a28, .ref a29, .ref a30, .int f31])), (a4, .inl (G.2.1, 20, .inl g4)), (a6, .inl (G.2.1, 4, .inl g6)), (a7, .inl (G.2.1, 4, .inl g7)), (a15, .inl (G.2.1, 20, .inl g15)), (a16, .inl (G.2.1, 4, .inl g16)), (a17, .inl (G.2.1, 4, .inl g17)), (a21, .inl (G.2.1, 20, .inl g21)), (a22, .inl (G.2.1, 40, .inl g22)), (a24, .inl (G.2.1, 8, .inl g24)), (a25, .inl (G.2.1, 8, .inl g25)), (a26, .inl (G.2.2.1, 8, .inl g26)), (a27, .inl (G.2.1, 4, .inl g27)), (a28, .inl (G.2.1, 4, .inl g28)), (a29, .inl (G.2.1, 240, .inl g29)), (a30, .inl (G.2.1, 60, .inl g30))]) (wr := [(m0, .inr (7, [.int f0, .int f1, .int f2, .int f3, .ref a4, .int f5, .ref a6, .ref a7, .int f8, .int f9, .int f10, .int f11, .int f12, .int f13, .int f14, .ref a15, .ref a16, .ref a17, .int f18, .int f19, .int f20, .ref a21, .ref a22, .int f23, .ref a24, .ref a25, .ref a26, .ref a27, .ref a28, .ref a29, .ref a30, .int f31])), (a4, .inl (G.2.1, 20, .inl g4)), (a6, .inl (G.2.1, 4, .inl g6)), (a7, .inl (G.2.1, 4, .inl g7)), (a15, .inl (G.2.1, 20, .inl g15)), (a16, .inl (G.2.1, 4, .inl g16)), (a17, .inl (G.2.1, 4, .inl g17)), (a21, .inl (G.2.1, 20, .inl g21)), (a22, .inl (G.2.1, 40, .inl g22)), (a24, .inl (G.2.1, 8, .inl g24)), (a25, .inl (G.2.1, 8, .inl g25)), (a26, .inl (G.2.2.1, 8, .inl g26)), (a27, .inl (G.2.1, 4, .inl g27)), (a28, .inl (G.2.1, 4, .inl g28)), (a29, .inl (G.2.1, 240, .inl g29)), (a30, .inl (G.2.1, 60, .inl g30))]) (rest := []) fx hh hl.1 (h_X7_in ii.toInt64 0 (((g27 k.toNatClampNeg).toInt64) - 1)) yS_X7_in tMX7_76 ⟨rfl, rfl, Nat.le_of_ble_eq_true rfl, Nat.le_of_ble_eq_true rfl⟩ [] [0, 1, 2, 3, 4, 5, 6, 7, 8, 9, 10, 11, 12, 13, 14, 15] [0, 1, 2, 3, 4, 5, 6, 7, 8, 9, 10, 11, 12, 13, 14, 15] rfl rfl rfl (by decide) (by decide) rfl rfl (Nat.le_of_ble_eq_true rfl) ⟨Nat.le_of_ble_eq_true rfl, Nat.le_of_ble_eq_true rfl⟩ (dOk_at dX7_noCell 17 rfl) (fun H locs hh => ?_)
    refine lv_if_eq (pc := 28) (tgt := 35) hx hb (dOk_at dX7_noCell 18 rfl) (by decide) (fun c28 => ?_) (fun c28 => ?_)
    · have hv := hv.1 c28
      refine lv_iconst (pc := 35) (v := 3) hx hb (dOk_at dX7_noCell 21 rfl) (by decide) ?_
      have e0 := hv
      subst e0
      rw [hQ]
      exact r_iret (pc := 36) fx hh (dOk_at dX7_noCell 22 rfl)
    · have hv := hv.2 c28
      refine lv_iconst (pc := 31) (v := 0) hx hb (dOk_at dX7_noCell 19 rfl) (by decide) ?_
      refine lv_goto (pc := 32) (tgt := 36) hx hb (dOk_at dX7_noCell 20 rfl) (by decide) ?_
      have e0 := hv
      subst e0
      rw [hQ]
      exact r_iret (pc := 36) fx hh (dOk_at dX7_noCell 22 rfl)
  · have hv := hv.2 c6
    refine lv_iconst (pc := 9) (v := 1) hx hb (dOk_at dX7_noCell 5 rfl) (by decide) ?_
    refine lv_goto (pc := 10) (tgt := 36) hx hb (dOk_at dX7_noCell 6 rfl) (by decide) ?_
    have e0 := hv
    subst e0
    rw [hQ]
    exact r_iret (pc := 36) fx hh (dOk_at dX7_noCell 22 rfl)
set_option maxRecDepth 100000 in
set_option maxHeartbeats 4000000 in
theorem wk_X7_traced (l : Launch) (G : GT) (m0 : Nat) (a4 : Nat) (a6 : Nat) (a7 : Nat) (a15 : Nat) (a16 : Nat) (a17 : Nat) (a21 : Nat) (a22 : Nat) (a24 : Nat) (a25 : Nat) (a26 : Nat) (a27 : Nat) (a28 : Nat) (a29 : Nat) (a30 : Nat) (f0 : Int32) (f1 : Int32) (f2 : Int32) (f3 : Int32) (f5 : Int32) (f8 : Int32) (f9 : Int32) (f10 : Int32) (f11 : Int32) (f12 : Int32) (f13 : Int32) (f14 : Int32) (f18 : Int32) (f19 : Int32) (f20 : Int32) (f23 : Int32) (f31 : Int32) (g4 : Nat → Int32) (g6 : Nat → Int32) (g7 : Nat → Int32) (g15 : Nat → Int32) (g16 : Nat → Int32) (g17 : Nat → Int32) (g21 : Nat → Int32) (g22 : Nat → Int32) (g24 : Nat → Int32) (g25 : Nat → Int32) (g26 : Nat → Int32) (g27 : Nat → Int32) (g28 : Nat → Int32) (g29 : Nat → Int32) (g30 : Nat → Int32) (n : Int32) (t0_31 : Int32)
    (hv : ((31 * f31) + n) = t0_31) :
    MF l G yX7_traced cX7_traced 2 none rm_X7_traced [.ref m0, .int n] [(m0, .inr (7, [.int f0, .int f1, .int f2, .int f3, .ref a4, .int f5, .ref a6, .ref a7, .int f8, .int f9, .int f10, .int f11, .int f12, .int f13, .int f14, .ref a15, .ref a16, .ref a17, .int f18, .int f19, .int f20, .ref a21, .ref a22, .int f23, .ref a24, .ref a25, .ref a26, .ref a27, .ref a28, .ref a29, .ref a30, .int f31])), (a4, .inl (G.2.1, 20, .inl g4)), (a6, .inl (G.2.1, 4, .inl g6)), (a7, .inl (G.2.1, 4, .inl g7)), (a15, .inl (G.2.1, 20, .inl g15)), (a16, .inl (G.2.1, 4, .inl g16)), (a17, .inl (G.2.1, 4, .inl g17)), (a21, .inl (G.2.1, 20, .inl g21)), (a22, .inl (G.2.1, 40, .inl g22)), (a24, .inl (G.2.1, 8, .inl g24)), (a25, .inl (G.2.1, 8, .inl g25)), (a26, .inl (G.2.2.1, 8, .inl g26)), (a27, .inl (G.2.1, 4, .inl g27)), (a28, .inl (G.2.1, 4, .inl g28)), (a29, .inl (G.2.1, 240, .inl g29)), (a30, .inl (G.2.1, 60, .inl g30))] none [(m0, .inr (7, [.int f0, .int f1, .int f2, .int f3, .ref a4, .int f5, .ref a6, .ref a7, .int f8, .int f9, .int f10, .int f11, .int f12, .int f13, .int f14, .ref a15, .ref a16, .ref a17, .int f18, .int f19, .int f20, .ref a21, .ref a22, .int f23, .ref a24, .ref a25, .ref a26, .ref a27, .ref a28, .ref a29, .ref a30, .int t0_31])), (a4, .inl (G.2.1, 20, .inl g4)), (a6, .inl (G.2.1, 4, .inl g6)), (a7, .inl (G.2.1, 4, .inl g7)), (a15, .inl (G.2.1, 20, .inl g15)), (a16, .inl (G.2.1, 4, .inl g16)), (a17, .inl (G.2.1, 4, .inl g17)), (a21, .inl (G.2.1, 20, .inl g21)), (a22, .inl (G.2.1, 40, .inl g22)), (a24, .inl (G.2.1, 8, .inl g24)), (a25, .inl (G.2.1, 8, .inl g25)), (a26, .inl (G.2.2.1, 8, .inl g26)), (a27, .inl (G.2.1, 4, .inl g27)), (a28, .inl (G.2.1, 4, .inl g28)), (a29, .inl (G.2.1, 240, .inl g29)), (a30, .inl (G.2.1, 60, .inl g30))] := by
  refine MF.of (by decide +kernel) (Nat.le_of_ble_eq_true rfl) ?_
  intro p e s m args below meth c A ls fx hh hl _
  have hx := fx.hx
  have hb := fx.hb
  have hl : lv_has ls 2 [(0, .ref m0), (1, .int n)] := hl
  obtain ⟨Q, hQ⟩ : ∃ Q, Q = ZZ G A none [(m0, .inr (7, [.int f0, .int f1, .int f2, .int f3, .ref a4, .int f5, .ref a6, .ref a7, .int f8, .int f9, .int f10, .int f11, .int f12, .int f13, .int f14, .ref a15, .ref a16, .ref a17, .int f18, .int f19, .int f20, .ref a21, .ref a22, .int f23, .ref a24, .ref a25, .ref a26, .ref a27, .ref a28, .ref a29, .ref a30, .int t0_31])), (a4, .inl (G.2.1, 20, .inl g4)), (a6, .inl (G.2.1, 4, .inl g6)), (a7, .inl (G.2.1, 4, .inl g7)), (a15, .inl (G.2.1, 20, .inl g15)), (a16, .inl (G.2.1, 4, .inl g16)), (a17, .inl (G.2.1, 4, .inl g17)), (a21, .inl (G.2.1, 20, .inl g21)), (a22, .inl (G.2.1, 40, .inl g22)), (a24, .inl (G.2.1, 8, .inl g24)), (a25, .inl (G.2.1, 8, .inl g25)), (a26, .inl (G.2.2.1, 8, .inl g26)), (a27, .inl (G.2.1, 4, .inl g27)), (a28, .inl (G.2.1, 4, .inl g28)), (a29, .inl (G.2.1, 240, .inl g29)), (a30, .inl (G.2.1, 60, .inl g30))] below args s := ⟨_, rfl⟩
  rw [← hQ]
  refine lv_aload_n (pc := 0) hx hb (dOk_at dX7_traced 0 rfl) rfl (lv_at hl 0 rfl) ?_
  refine lv_bipush (pc := 1) (v := 31) hx hb (dOk_at dX7_traced 1 rfl) (by decide) ?_
  refine lv_aload_n (pc := 3) hx hb (dOk_at dX7_traced 2 rfl) rfl (lv_at hl 0 rfl) ?_
  refine r_get (pc := 4) (ci := 7) fx hh inT7 rfl 31 (by decide) tFX7_244 rfl 0 rfl rfl (dOk_at dX7_traced 3 rfl) ?_
  refine lv_imul (pc := 7) hx hb (dOk_at dX7_traced 4 rfl) ?_
  refine lv_iload_n (pc := 8) hx hb (dOk_at dX7_traced 5 rfl) rfl (lv_at hl 1 rfl) ?_
  refine lv_iadd (pc := 9) hx hb (dOk_at dX7_traced 6 rfl) ?_
  refine r_put (pc := 10) (ci := 7) (w' := [(m0, .inr (7, [.int f0, .int f1, .int f2, .int f3, .ref a4, .int f5, .ref a6, .ref a7, .int f8, .int f9, .int f10, .int f11, .int f12, .int f13, .int f14, .ref a15, .ref a16, .ref a17, .int f18, .int f19, .int f20, .ref a21, .ref a22, .int f23, .ref a24, .ref a25, .ref a26, .ref a27, .ref a28, .ref a29, .ref a30, .int ((31 * f31) + n)])), (a4, .inl (G.2.1, 20, .inl g4)), (a6, .inl (G.2.1, 4, .inl g6)), (a7, .inl (G.2.1, 4, .inl g7)), (a15, .inl (G.2.1, 20, .inl g15)), (a16, .inl (G.2.1, 4, .inl g16)), (a17, .inl (G.2.1, 4, .inl g17)), (a21, .inl (G.2.1, 20, .inl g21)), (a22, .inl (G.2.1, 40, .inl g22)), (a24, .inl (G.2.1, 8, .inl g24)), (a25, .inl (G.2.1, 8, .inl g25)), (a26, .inl (G.2.2.1, 8, .inl g26)), (a27, .inl (G.2.1, 4, .inl g27)), (a28, .inl (G.2.1, 4, .inl g28)), (a29, .inl (G.2.1, 240, .inl g29)), (a30, .inl (G.2.1, 60, .inl g30))]) fx hh inT7 tyX7 tyX7_ok nmX7 rfl 31 (by decide) tFX7_244 rfl rfl 0 rfl rfl rfl (Nat.le_of_ble_eq_true rfl) rfl (dOk_at dX7_traced 7 rfl) (fun H locs hh => ?_)
  have e0 := hv
  subst e0
  rw [hQ]
  exact r_vret (pc := 13) fx hh (dOk_at dX7_traced 8 rfl)
