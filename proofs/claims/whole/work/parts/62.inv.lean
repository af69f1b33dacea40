/-! what holds of class and reference between two calls -/
def RI (a b s fr : Nat) (v w : Nat → Int32) : Prop := v 9 = nI a ∧ v 10 = nI b ∧ v 11 = nI fr ∧ v 12 = fcM b a ∧ v 13 = lcM a b ∧ v 14 = nI s ∧ w 1 = nI a ∧ w 2 = nI b ∧ w 3 = nI fr ∧ w 5 = nI s ∧ w 8 = 0 ∧ w 9 = 0
def RSh (v : Nat → Int32) (f g : Nat → Nat → Int32) : Prop := ∀ k, k < 4 → rSh k (v (21 + k)) (v (25 + k)) (f (11 + k)) (g 27) (g 28) (g 29)
def REL (v : Nat → Int32) (f : Nat → Nat → Int32) (w : Nat → Int32) (g : Nat → Nat → Int32) : Prop :=
  ∃ a b s fr rd : Nat, (gOk a b ∧ s ≤ 4 ∧ (s = 0 ↔ a * b = 0) ∧ fr ≤ 9 ∧ rd ≤ 8) ∧ RI a b s fr v w ∧ (w 0 = v 0 ∧ w 31 = v 1) ∧ (v 8 = nI rd ∧ w 23 = nI rd) ∧ rS (a * b) (f 5) (g 4) ∧ rC s (f 6) (f 7) (g 6) (g 7) ∧ rRd rd s (a * b) (f 2) (f 3) (f 4) (g 24) (g 25) (g 26) ∧ RSh v f g
def INV (G : GT) (xa ma : Nat) (W : va_W) : Prop := ∃ (ad : Nat → Nat) (sh : Nat → Option Nat) (v : Nat → Int32) (f : Nat → Nat → Int32) (am : Nat → Nat) (w : Nat → Int32) (g : Nat → Nat → Int32), ad 0 = xa ∧ am 0 = ma ∧ (∀ k, k < 4 → sh k = some (ad (20 + 2 * k))) ∧ W = CW G ad sh v f ++ MW G am w g ∧ REL v f w g
theorem INV.at0 {G : GT} {xa ma : Nat} {W : va_W} (h : INV G xa ma W) : ∃ fs, W[0]? = some (xa, .inr (6, fs)) := by
  obtain ⟨ad, sh, v, f, am, w, g, rfl, rfl, hsh, rfl, hR⟩ := h
  exact ⟨_, rfl⟩
def STEP {α : Type} (mk : α → Value) (l : Launch) (G : GT) (xa ma : Nat) (yx : MethodName) (cx : ByteArray) (nx : Nat) (ret : Option FieldType) (rx : Room) (ym : MethodName) (cm : ByteArray) (nm : Nat) (rm : Room) (As : List Value) (W : va_W) : Prop :=
  ∃ (r : α) (P : va_W → Prop), ME l G yx cx nx ret rx (.ref xa :: As) W (some (mk r)) P ∧ ∀ W1, P W1 → (∃ fs, W1[28]? = some (ma, .inr (7, fs))) ∧ ME l G ym cm nm ret rm (.ref ma :: As) W1 (some (mk r)) (INV G xa ma)
theorem MF.toJ {l : Launch} {G : GT} {y : MethodName} {b : ByteArray} {nL : Nat} {ret : Option FieldType} {rm : Room} {av : List Value} {w : va_W} {R : Option Value} {W1 : va_W} (h : MF l G y b nL ret rm av w R W1) : MFJ l G y b nL ret rm av w R (fun _ : Unit => W1) := by
  intro sz p e ha hc hcl s m args below hf happ hP hk0
  obtain ⟨n, o, h1, h2, h3, ⟨⟨⟨ho, hpost⟩, hF⟩, hL⟩⟩ := h sz p e ha hc hcl s m args below hf happ hP hk0
  exact ⟨n, o, h1, h2, h3, ⟨⟨⟨ho, (), hpost⟩, hF⟩, hL⟩⟩
theorem step_J {α : Type} {mk : α → Value} {l : Launch} {G : GT} {ad ad' : Nat → Nat} {sh : Nat → Option Nat} {v : Nat → Int32} {f : Nat → Nat → Int32} {am : Nat → Nat} {w : Nat → Int32} {g : Nat → Nat → Int32} {Tx Tm : Type} {v' : Tx → Nat → Int32} {f' : Tx → Nat → Nat → Int32} {w' : Tm → Nat → Int32} {g' : Tm → Nat → Nat → Int32}
    {yx : MethodName} {cx : ByteArray} {nx : Nat} {ret : Option FieldType} {rx : Room} {ym : MethodName} {cm : ByteArray} {nm : Nat} {rm : Room} {As : List Value} {r r' : α}
    (hx : MFJ l G yx cx nx ret rx (.ref (ad 0) :: As) (CW G ad sh v f) (some (mk r)) (fun j => CW G ad' sh (v' j) (f' j)))
    (hm : MFJ l G ym cm nm ret rm (.ref (am 0) :: As) (MW G am w g) (some (mk r')) (fun j => MW G am (w' j) (g' j)))
    (hr : r = r') (h0 : ad' 0 = ad 0) (hsh : ∀ k, k < 4 → sh k = some (ad' (20 + 2 * k))) (hR : ∀ i j, REL (v' i) (f' i) (w' j) (g' j)) :
    STEP mk l G (ad 0) (am 0) yx cx nx ret rx ym cm nm rm As (CW G ad sh v f ++ MW G am w g) := by
  subst hr
  refine ⟨r, fun W1 => ∃ i, W1 = CW G ad' sh (v' i) (f' i) ++ MW G am w g, ME.ofJ (hx.frame _) (fun i => ⟨i, rfl⟩), ?_⟩
  rintro W1 ⟨i, rfl⟩
  exact ⟨⟨_, rfl⟩, ME.ofJ (hm.frameL _) (fun j => ⟨ad', sh, v' i, f' i, am, w' j, g' j, h0, rfl, hsh, rfl, hR i j⟩)⟩
theorem upd_ne {v : Nat → Int32} {i j : Nat} {x : Int32} (h : ¬ j = i) : upd v i x j = v j := if_neg h
theorem updF_ne {f : Nat → Nat → Int32} {i j : Nat} {x : Nat → Int32} (h : ¬ j = i) : updF f i x j = f j := if_neg h
theorem upd_eq {v : Nat → Int32} {i j : Nat} {x : Int32} (h : j = i) : upd v i x j = x := if_pos h
theorem updF_eq {f : Nat → Nat → Int32} {i j : Nat} {x : Nat → Int32} (h : j = i) : updF f i x j = x := if_pos h
theorem RSh.keep {v v' : Nat → Int32} {f f' g g' : Nat → Nat → Int32} (h : RSh v f g) (hv : ∀ i, 21 ≤ i → v' i = v i) (hf : ∀ i, 11 ≤ i → f' i = f i) (h7 : g' 27 = g 27) (h8 : g' 28 = g 28) (h9 : g' 29 = g 29) : RSh v' f' g' := fun k hk => by
  rw [hv _ (by omega), hv _ (by omega), hf _ (by omega), h7, h8, h9]
  exact h k hk
theorem RSh.sz {v : Nat → Int32} {f g : Nat → Nat → Int32} (h : RSh v f g) : okSz (g 27) := fun k hk => (h k hk).le.2
/-- what matters is as before, but sheets, and the latest fault -/
theorem REL.str {a b s fr rd : Nat} {v v' : Nat → Int32} {f f' : Nat → Nat → Int32} {w w' : Nat → Int32} {g g' : Nat → Nat → Int32} (h0 : gOk a b ∧ s ≤ 4 ∧ (s = 0 ↔ a * b = 0) ∧ fr ≤ 9 ∧ rd ≤ 8) (hRI : RI a b s fr v w) (w31 : w 31 = v 1) (v8 : v 8 = nI rd) (w23 : w 23 = nI rd) (hC : rC s (f 6) (f 7) (g 6) (g 7)) (hRd : rRd rd s (a * b) (f 2) (f 3) (f 4) (g 24) (g 25) (g 26))
    (e0 : w' 0 = v' 0) (hv : ∀ i, (i = 1 ∨ (8 ≤ i ∧ i ≤ 14)) → v' i = v i) (hf : ∀ i, 2 ≤ i → i ≤ 7 → ¬ i = 5 → f' i = f i) (hw : ∀ i, 1 ≤ i → (i < 10 ∨ i = 23 ∨ i = 31) → w' i = w i) (hg : ∀ i, (i = 6 ∨ i = 7 ∨ (24 ≤ i ∧ i ≤ 26)) → g' i = g i) (hS : rS (a * b) (f' 5) (g' 4)) (hSh : RSh v' f' g') : REL v' f' w' g' := by
  obtain ⟨v9, v10, v11, v12, v13, v14, w1, w2, w3, w5, w8, w9⟩ := hRI
  refine ⟨a, b, s, fr, rd, h0, ⟨?_, ?_, ?_, ?_, ?_, ?_, ?_, ?_, ?_, ?_, ?_, ?_⟩, ⟨e0, ?_⟩, ⟨?_, ?_⟩, hS, ?_, ?_, hSh⟩
  · rw [hv 9 (by omega)]; exact v9
  · rw [hv 10 (by omega)]; exact v10
  · rw [hv 11 (by omega)]; exact v11
  · rw [hv 12 (by omega)]; exact v12
  · rw [hv 13 (by omega)]; exact v13
  · rw [hv 14 (by omega)]; exact v14
  · rw [hw 1 (by omega) (by omega)]; exact w1
  · rw [hw 2 (by omega) (by omega)]; exact w2
  · rw [hw 3 (by omega) (by omega)]; exact w3
  · rw [hw 5 (by omega) (by omega)]; exact w5
  · rw [hw 8 (by omega) (by omega)]; exact w8
  · rw [hw 9 (by omega) (by omega)]; exact w9
  · rw [hw 31 (by omega) (by omega), hv 1 (by omega)]; exact w31
  · rw [hv 8 (by omega)]; exact v8
  · rw [hw 23 (by omega) (by omega)]; exact w23
  · rw [hf 6 (by omega) (by omega) (by omega), hf 7 (by omega) (by omega) (by omega), hg 6 (by omega), hg 7 (by omega)]
    exact hC
  · rw [hf 2 (by omega) (by omega) (by omega), hf 3 (by omega) (by omega) (by omega), hf 4 (by omega) (by omega) (by omega), hg 24 (by omega), hg 25 (by omega), hg 26 (by omega)]
    exact hRd
theorem REL.sheet {v v' : Nat → Int32} {f f' : Nat → Nat → Int32} {w w' : Nat → Int32} {g g' : Nat → Nat → Int32} (h : REL v f w g) (e0 : w' 0 = v' 0) (hv : ∀ i, (i = 1 ∨ (8 ≤ i ∧ i ≤ 14)) → v' i = v i) (hf : ∀ i, 2 ≤ i → i ≤ 7 → f' i = f i) (hw : ∀ i, 1 ≤ i → (i < 10 ∨ i = 23 ∨ i = 31) → w' i = w i) (hg : ∀ i, (i = 6 ∨ i = 7 ∨ (24 ≤ i ∧ i ≤ 26)) → g' i = g i) (hg4 : ∀ c, c < 20 → g' 4 c = g 4 c) (hSh : RSh v' f' g') : REL v' f' w' g' := by
  obtain ⟨a, b, s, fr, rd, h0, hRI, ⟨-, w31⟩, ⟨v8, w23⟩, hS, hC, hRd, -⟩ := h
  have hl := h0.1.le
  refine REL.str h0 hRI w31 v8 w23 hC hRd e0 hv (fun i h1 h2 _ => hf i h1 h2) hw hg ?_ hSh
  rw [hf 5 (by omega) (by omega)]
  exact fun c hc => by rw [hg4 c (by omega)]; exact hS c hc
theorem rRd.cut {rd rd' s n : Nat} {rs rl rb rs' rl' rb' : Nat → Int32} (h : rRd rd s n rs rl rb rs' rl' rb') (hc : rd' ≤ rd) : rRd rd' s n rs rl rb rs' rl' rb' := fun k hk => h k (by omega)
theorem ite_self0 {P : Prop} [Decidable P] {x : Int32} (h : x = 0) : (if P then 0 else x) = 0 := by
  split
  · rfl
  · exact h
theorem ite_back {P : Prop} [Decidable P] (f : Nat → Int32) (i : Nat) (x : Int32) : (if P then f else upd (upd f i x) i (f i)) = f := by
  split
  · rfl
  · exact upd_back f i x
theorem ite_back2 {P : Prop} [Decidable P] (f : Nat → Int32) (i : Nat) (x : Int32) : (if P then upd (upd f i x) i (f i) else f) = f := by
  split
  · exact upd_back f i x
  · rfl
