/-! canal: one step -/
theorem w_canal {w : Nat → Int32} {Z0 Z1 Z2 Z3 Z5 Z10 Z11 Z12 Z13 Z14 Z23 : Int32} (z1 : Z1 = w 1) (z2 : Z2 = w 2) (z3 : Z3 = w 3) (z5 : Z5 = w 5) (z23 : Z23 = w 23) : ∀ i, 1 ≤ i → (i < 10 ∨ i = 23 ∨ i = 31) → (upd (upd (upd (upd (upd (upd (upd (upd (upd (upd (upd w 0 Z0) 1 Z1) 2 Z2) 3 Z3) 5 Z5) 10 Z10) 11 Z11) 12 Z12) 13 Z13) 14 Z14) 23 Z23) i = w i := by
  intro i h1 h2
  rcases (show i = 1 ∨ i = 2 ∨ i = 3 ∨ i = 4 ∨ i = 5 ∨ i = 6 ∨ i = 7 ∨ i = 8 ∨ i = 9 ∨ i = 23 ∨ i = 31 by omega) with rfl | rfl | rfl | rfl | rfl | rfl | rfl | rfl | rfl | rfl | rfl
  · exact z1
  · exact z2
  · exact z3
  · rfl
  · exact z5
  · rfl
  · rfl
  · rfl
  · rfl
  · exact z23
  · rfl
theorem g_canal {g : Nat → Nat → Int32} {U4 U6 U7 U15 U16 U17 : Nat → Int32} (u6 : U6 = g 6) (u7 : U7 = g 7) : ∀ i, (i = 6 ∨ i = 7 ∨ (24 ≤ i ∧ i ≤ 26)) → (updF (updF (updF (updF (updF (updF g 4 U4) 6 U6) 7 U7) 15 U15) 16 U16) 17 U17) i = g i := by
  intro i h1
  rcases (show i = 6 ∨ i = 7 ∨ i = 24 ∨ i = 25 ∨ i = 26 by omega) with rfl | rfl | rfl | rfl | rfl
  · exact u6
  · exact u7
  · rfl
  · rfl
  · rfl
theorem rel_canal {v w : Nat → Int32} {f g : Nat → Nat → Int32} (hSh : RSh v f g) (w31 : w 31 = v 1) (w8 : w 8 = 0) (w9 : w 9 = 0) {X0 X2 X3 X4 X8 X9 X10 X11 X12 X13 X14 Z0 Z1 Z2 Z3 Z5 Z10 Z11 Z12 Z13 Z14 Z23 : Int32} {Y0 Y5 Y6 Y7 U4 U6 U7 U15 U16 U17 : Nat → Int32} {a b s fr : Nat} (g0 : gOk a b) (ha : 1 ≤ a) (hs1 : 1 ≤ s) (hs4 : s ≤ 4) (hfr : fr ≤ 9)
    (z0 : Z0 = X0) (x8 : X8 = 0) (x9 : X9 = nI a) (x10 : X10 = nI b) (x11 : X11 = nI fr) (x12 : X12 = fcM b a) (x13 : X13 = lcM a b) (x14 : X14 = nI s) (z1 : Z1 = nI a) (z2 : Z2 = nI b) (z3 : Z3 = nI fr) (z5 : Z5 = nI s) (z23 : Z23 = 0) (hS : rS (a * b) Y5 U4) (hC : rC s Y6 Y7 U6 U7) :
    REL (upd (upd (upd (upd (upd (upd (upd (upd (upd (upd (upd (upd (upd (upd (upd (upd (upd v 0 X0) 2 X2) 3 X3) 4 X4) 8 X8) 9 X9) 10 X10) 11 X11) 12 X12) 13 X13) 14 X14) 15 (v 9)) 16 (v 10)) 17 (v 11)) 18 (v 12)) 19 (v 13)) 20 (v 14)) (updF (updF (updF (updF (updF (updF (updF f 0 Y0) 5 Y5) 6 Y6) 7 Y7) 8 (f 5)) 9 (f 6)) 10 (f 7)) (upd (upd (upd (upd (upd (upd (upd (upd (upd (upd (upd w 0 Z0) 1 Z1) 2 Z2) 3 Z3) 5 Z5) 10 Z10) 11 Z11) 12 Z12) 13 Z13) 14 Z14) 23 Z23) (updF (updF (updF (updF (updF (updF g 4 U4) 6 U6) 7 U7) 15 U15) 16 U16) 17 U17) := by
  have hb : 1 ≤ b := by
    rcases g0.2.2 with z | z
    · omega
    · exact z.2
  have hab := Nat.mul_pos ha hb
  exact ⟨a, b, s, fr, 0, ⟨g0, hs4, ⟨fun z => absurd z (by omega), fun z => absurd z (by omega)⟩, hfr, by omega⟩, ⟨x9, x10, x11, x12, x13, x14, z1, z2, z3, z5, w8, w9⟩, ⟨z0, w31⟩, ⟨x8, z23⟩, hS, hC, fun k hk => absurd hk (Nat.not_lt_zero k),
    hSh.keep (fun i hi => by rw [upd_ne (by omega), upd_ne (by omega), upd_ne (by omega), upd_ne (by omega), upd_ne (by omega), upd_ne (by omega), upd_ne (by omega), upd_ne (by omega), upd_ne (by omega), upd_ne (by omega), upd_ne (by omega), upd_ne (by omega), upd_ne (by omega), upd_ne (by omega), upd_ne (by omega), upd_ne (by omega), upd_ne (by omega)]) (fun i hi => by rw [updF_ne (by omega), updF_ne (by omega), updF_ne (by omega), updF_ne (by omega), updF_ne (by omega), updF_ne (by omega), updF_ne (by omega)]) rfl rfl rfl⟩
theorem cpN_rS {n m : Nat} {f f' g : Nat → Int32} (h : rS n f f') (hm : m = n) : rS n f (s_cpN m f' g) := fun c hc => by
  unfold s_cpN
  rw [if_pos (by omega)]
  exact h c hc
theorem cpN_rC {s m : Nat} {ck cwt kd wt g1 g2 : Nat → Int32} (h : rC s ck cwt kd wt) (hm : m = s) : rC s ck cwt (s_cpN m kd g1) (s_cpN m wt g2) := fun x hx => by
  unfold s_cpN
  rw [if_pos (by omega), if_pos (by omega)]
  exact h x hx
set_option maxHeartbeats 400000 in
theorem st_canal (l : Launch) (G : GT) {xa ma : Nat} {W : va_W} (hI : INV G xa ma W) (sheet lane i n : Int32) : STEP Value.int l G xa ma yX6_canal cX6_canal 5 (some .int) rm_X6_canal yX7_canal cX7_canal 7 rm_X7_canal [.int sheet, .int lane, .int i, .int n] W := by
  obtain ⟨ad, sh, v, f, am, w, g, rfl, rfl, hsh, rfl, hR⟩ := hI
  have hR0 := hR
  obtain ⟨ga, gb, s, fr, rd, h0, hRI, ⟨w0, w31⟩, ⟨v8, w23⟩, hS, hC, hRd, hSh⟩ := hR
  obtain ⟨g0, hs, hz, hfr, hrd⟩ := id h0
  obtain ⟨v9, v10, v11, v12, v13, v14, w1, w2, w3, w5, w8, w9⟩ := id hRI
  have dX : okD (v 9) (v 10) := by rw [v9, v10]; exact g0.dd
  have dM : okD (w 1) (w 2) := by rw [w1, w2]; exact g0.dd
  have nX : okN (v 14) := by rw [v14]; exact ⟨s, hs, rfl⟩
  have nM : okN (w 5) := by rw [w5]; exact ⟨s, hs, rfl⟩
  have rX : okR (v 8) (f 2) (f 3) := by rw [v8]; exact (hRd.okR hrd hs g0.le).1
  have rM : okR (w 23) (g 24) (g 25) := by rw [w23]; exact (hRd.okR hrd hs g0.le).2
  by_cases hk : q_noSheet sheet = 0
  · obtain ⟨kk, hkk, rfl⟩ := sh_nI hk
    obtain ⟨p1, p2, p3⟩ := canal_ans hkk (hSh kk hkk) lane i n (f 0) (f 8) (f 9) (f 10) (g 15) (g 16) (g 17)
    have ef : m_canalF (g 27) (g 28) (nI kk) lane i n = x_kf (x_ttR (v (21 + kk)) (v (25 + kk)) lane i n (f (11 + kk)) (f 0) (f 8) (f 9) (f 10)) := by rw [p1]; exact p2.symm
    rcases p3 with ⟨q1, q2⟩ | ⟨q1, q2, a, b, s2, f2, ha, gab, hs1, hs4, hf2, u1, u2, u3, u4, u5, u6, u7, u8, u9, u10, u11⟩
    · have hm := mw_canal l G am w g (nI kk) lane i n hSh.sz
      simp only [if_neg q2] at hm
      refine step_J (cw_canal_no l G ad sh v f hsh kk hkk lane i n (hSh kk hkk).le.1 q1) hm p1 rfl hsh ?_
      intro i9 j9
      refine hR0.sheet ?_ (fun i hi => by rw [upd_ne (by omega), upd_ne (by omega), upd_ne (by omega), upd_ne (by omega), upd_ne (by omega), upd_ne (by omega), upd_ne (by omega), upd_ne (by omega), upd_ne (by omega), upd_ne (by omega)]) (fun i h1 h2 => by rw [updF_ne (by omega), updF_ne (by omega), updF_ne (by omega), updF_ne (by omega)]) (w_canal rfl rfl rfl rfl rfl) (g_canal rfl rfl) (fun c hc => by rw [updF_ne (by omega), updF_ne (by omega), updF_ne (by omega), updF_ne (by omega), updF_ne (by omega), updF_eq rfl]) (hSh.keep (fun i hi => by rw [upd_ne (by omega), upd_ne (by omega), upd_ne (by omega), upd_ne (by omega), upd_ne (by omega), upd_ne (by omega), upd_ne (by omega), upd_ne (by omega), upd_ne (by omega), upd_ne (by omega)]) (fun i hi => by rw [updF_ne (by omega), updF_ne (by omega), updF_ne (by omega), updF_ne (by omega)]) rfl rfl rfl)
      · rw [upd_ne (by omega), upd_ne (by omega), upd_ne (by omega), upd_ne (by omega), upd_ne (by omega), upd_ne (by omega), upd_ne (by omega), upd_ne (by omega), upd_ne (by omega), upd_ne (by omega), upd_eq rfl, upd_ne (by omega), upd_ne (by omega), upd_ne (by omega), upd_ne (by omega), upd_ne (by omega), upd_ne (by omega), upd_ne (by omega), upd_ne (by omega), upd_ne (by omega), upd_eq rfl]
        exact ef
    · have hm := mw_canal l G am w g (nI kk) lane i n hSh.sz
      simp only [if_pos q2] at hm
      refine step_J (cw_canal_ok l G ad sh v f hsh kk hkk lane i n (hSh kk hkk).le.1 q1) hm p1 rfl (fun k hk => ?_) ?_
      · rw [hsh k hk]
        have e : sw (20 + 2 * k) = 20 + 2 * k := by unfold sw; rw [if_neg (by omega), if_neg (by omega), if_neg (by omega), if_neg (by omega), if_neg (by omega), if_neg (by omega), if_neg (by omega), if_neg (by omega), if_neg (by omega), if_neg (by omega)]
        rw [e]
      · intro i9 j9
        refine rel_canal hSh w31 w8 w9 gab ha hs1 hs4 hf2 ef rfl u1 u2 u3 u4 ?_ u5 u6 u7 u8 u9 rfl (cpN_rS u10 ?_) ?_
        · rw [u4, u2]
          rfl
        · rw [u6, u7, gab.cells, nI_clamp (by have := gab.le; omega)]
        · rw [u9, nI_clamp (by omega)]
          exact cpN_rC u11 rfl
  · obtain ⟨n1, n2⟩ := shAt_n (sh := sh) hk
    have hno : ¬ m_cnOk (g 27) (g 28) (g 29) (g 15) (g 16) (g 17) sheet lane i n := fun z => hk z.1.1
    have e2 : m_canalF (g 27) (g 28) sheet lane i n = 0 := by unfold m_canalF; exact if_neg (fun z => hk z.1)
    have hm := mw_canal l G am w g sheet lane i n hSh.sz
    simp only [if_neg hno] at hm
    rw [e2] at hm
    refine step_J ((cw_canal_n l G ad sh v f sheet lane i n n1 (Or.inl n2)).toJ) hm ?_ rfl hsh ?_
    · unfold m_canalR; rw [if_pos hk]
    · intro i9 j9
      refine hR0.sheet ?_ (fun i hi => by rw [upd_ne (by omega)]) (fun i h1 h2 => rfl) (w_canal rfl rfl rfl rfl rfl) (g_canal rfl rfl) (fun c hc => by rw [updF_ne (by omega), updF_ne (by omega), updF_ne (by omega), updF_ne (by omega), updF_ne (by omega), updF_eq rfl]) (hSh.keep (fun i hi => by rw [upd_ne (by omega)]) (fun i hi => rfl) rfl rfl rfl)
      · rw [upd_ne (by omega), upd_ne (by omega), upd_ne (by omega), upd_ne (by omega), upd_ne (by omega), upd_ne (by omega), upd_ne (by omega), upd_ne (by omega), upd_ne (by omega), upd_ne (by omega), upd_eq rfl, upd_eq rfl]
