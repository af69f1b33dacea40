/-! the whole world of the class and of the reference; contracts over it -/
def updF (f : Nat → Nat → Int32) (k : Nat) (h : Nat → Int32) : Nat → Nat → Int32 := fun j => if j = k then h else f j
def pick (w : va_W) (is : List Nat) : va_W := is.filterMap fun i => w[i]?
def CW (G : GT) (ad : Nat → Nat) (sh : Nat → Option Nat) (v : Nat → Int32) (f : Nat → Nat → Int32) : va_W := [
  (ad 0, .inr (6, [.ref (ad 1), .ref (ad 2), .ref (ad 4), .ref (ad 6), .ref (ad 10), .ref (ad 12), .ref (ad 15), .ref (ad 17), .int (v 0), .int (v 1)])),
  (ad 1, .inl (G.2.2.2, 4, .inr (.inr (.inr (.inr sh))))),
  (ad 2, .inr (5, [.ref (ad 3), .int (v 2), .int (v 3), .int (v 4)])),
  (ad 3, .inl (G.2.1, 60, .inl (f 0))),
  (ad 4, .inr (1, [.ref (ad 5), .int (v 5), .int (v 6), .int (v 7)])),
  (ad 5, .inl (G.2.1, 20, .inl (f 1))),
  (ad 6, .inr (3, [.ref (ad 7), .ref (ad 8), .ref (ad 9), .int (v 8)])),
  (ad 7, .inl (G.2.1, 8, .inl (f 2))),
  (ad 8, .inl (G.2.1, 8, .inl (f 3))),
  (ad 9, .inl (G.2.2.1, 8, .inl (f 4))),
  (ad 10, .inr (2, [.ref (ad 11), .int (v 9), .int (v 10), .int (v 11), .int (v 12), .int (v 13)])),
  (ad 11, .inl (G.2.1, 20, .inl (f 5))),
  (ad 12, .inr (0, [.ref (ad 13), .ref (ad 14), .int (v 14)])),
  (ad 13, .inl (G.2.1, 4, .inl (f 6))),
  (ad 14, .inl (G.2.1, 4, .inl (f 7))),
  (ad 15, .inr (2, [.ref (ad 16), .int (v 15), .int (v 16), .int (v 17), .int (v 18), .int (v 19)])),
  (ad 16, .inl (G.2.1, 20, .inl (f 8))),
  (ad 17, .inr (0, [.ref (ad 18), .ref (ad 19), .int (v 20)])),
  (ad 18, .inl (G.2.1, 4, .inl (f 9))),
  (ad 19, .inl (G.2.1, 4, .inl (f 10))),
  (ad 20, .inr (4, [.ref (ad 21), .int (v 21), .int (v 25)])),
  (ad 21, .inl (G.2.1, 60, .inl (f 11))),
  (ad 22, .inr (4, [.ref (ad 23), .int (v 22), .int (v 26)])),
  (ad 23, .inl (G.2.1, 60, .inl (f 12))),
  (ad 24, .inr (4, [.ref (ad 25), .int (v 23), .int (v 27)])),
  (ad 25, .inl (G.2.1, 60, .inl (f 13))),
  (ad 26, .inr (4, [.ref (ad 27), .int (v 24), .int (v 28)])),
  (ad 27, .inl (G.2.1, 60, .inl (f 14)))]
def MW (G : GT) (am : Nat → Nat) (w : Nat → Int32) (g : Nat → Nat → Int32) : va_W := [
  (am 0, .inr (7, [.int (w 0), .int (w 1), .int (w 2), .int (w 3), .ref (am 4), .int (w 5), .ref (am 6), .ref (am 7), .int (w 8), .int (w 9), .int (w 10), .int (w 11), .int (w 12), .int (w 13), .int (w 14), .ref (am 15), .ref (am 16), .ref (am 17), .int (w 18), .int (w 19), .int (w 20), .ref (am 21), .ref (am 22), .int (w 23), .ref (am 24), .ref (am 25), .ref (am 26), .ref (am 27), .ref (am 28), .ref (am 29), .ref (am 30), .int (w 31)])),
  (am 4, .inl (G.2.1, 20, .inl (g 4))),
  (am 6, .inl (G.2.1, 4, .inl (g 6))),
  (am 7, .inl (G.2.1, 4, .inl (g 7))),
  (am 15, .inl (G.2.1, 20, .inl (g 15))),
  (am 16, .inl (G.2.1, 4, .inl (g 16))),
  (am 17, .inl (G.2.1, 4, .inl (g 17))),
  (am 21, .inl (G.2.1, 20, .inl (g 21))),
  (am 22, .inl (G.2.1, 40, .inl (g 22))),
  (am 24, .inl (G.2.1, 8, .inl (g 24))),
  (am 25, .inl (G.2.1, 8, .inl (g 25))),
  (am 26, .inl (G.2.2.1, 8, .inl (g 26))),
  (am 27, .inl (G.2.1, 4, .inl (g 27))),
  (am 28, .inl (G.2.1, 4, .inl (g 28))),
  (am 29, .inl (G.2.1, 240, .inl (g 29))),
  (am 30, .inl (G.2.1, 60, .inl (g 30)))]
theorem range_get {α : Type} (w : List α) : (List.range w.length).map (fun i => w[i]?) = w.map some := by
  refine List.ext_getElem (by simp) fun i h1 h2 => ?_
  simp
theorem perm_is {α : Type} {w w' : List α} (n : Nat) (is : List Nat) (hn : w.length = n) (h : is.map (fun i => w[i]?) = w'.map some) (hp : is.isPerm (List.range n) = true) : w.Perm w' := by
  have h1 : is.Perm (List.range w.length) := by
    rw [hn]
    exact List.isPerm_iff.mp hp
  have h2 : (w'.map some).Perm (w.map some) := by
    rw [← h, ← range_get w]
    exact h1.map _
  have h3 := h2.filterMap id
  rw [List.filterMap_map, List.filterMap_map] at h3
  have e : ∀ u : List α, List.filterMap (id ∘ some) u = u := fun u => by
    induction u with
    | nil => rfl
    | cons x u ih => simp
  rw [e, e] at h3
  exact h3.symm
theorem MFJ.perm {l : Launch} {G : GT} {y : MethodName} {b : ByteArray} {nL : Nat} {ret : Option FieldType} {rm : Room} {av : List Value} {w w' : va_W} {R : Option Value} {T : Type} {W1 W1' : T → va_W} (h : MFJ l G y b nL ret rm av w R W1) (hw : w.Perm w') (hW : ∀ j, (W1 j).Perm (W1' j)) : MFJ l G y b nL ret rm av w' R W1' := by
  intro sz p e ha hc hcl s m args below hf happ hP hk0
  obtain ⟨hav, hsz, hPw, hK, hD, hN⟩ := hP
  obtain ⟨n, o, h1, h2, h3, ⟨⟨⟨ho, j, hpost, hDp⟩, hF⟩, L, hFE, hL⟩⟩ := h sz p e ha hc hcl s m args below hf happ ⟨hav, hsz, hPw.mem (fun q hq => hw.mem_iff.mp hq), hK, hD.perm hw.symm, hN⟩ hk0
  rw [va_A.perm hw sz] at hDp hF hL
  exact ⟨n, o, h1, h2, h3, ⟨⟨⟨ho, j, hpost.mem (fun q hq => (hW j).mem_iff.mpr hq), hDp.perm (hW j)⟩, hF⟩, L, hFE, hL⟩⟩
/-- a contract that says of the world behind it that it is one of some -/
def ME (l : Launch) (G : GT) (y : MethodName) (b : ByteArray) (nL : Nat) (ret : Option FieldType) (rm : Room) (av : List Value) (w : va_W) (R : Option Value) (P : va_W → Prop) : Prop := MFJ l G y b nL ret rm av w R (fun j : { W : va_W // P W } => j.1)
theorem ME.ofJ {l : Launch} {G : GT} {y : MethodName} {b : ByteArray} {nL : Nat} {ret : Option FieldType} {rm : Room} {av : List Value} {w : va_W} {R : Option Value} {T : Type} {W1 : T → va_W} {P : va_W → Prop} (h : MFJ l G y b nL ret rm av w R W1) (hp : ∀ j, P (W1 j)) : ME l G y b nL ret rm av w R P := by
  intro sz p e ha hc hcl s m args below hf happ hP hk0
  obtain ⟨n, o, h1, h2, h3, ⟨⟨⟨ho, j, hpost⟩, hF⟩, hL⟩⟩ := h sz p e ha hc hcl s m args below hf happ hP hk0
  exact ⟨n, o, h1, h2, h3, ⟨⟨⟨ho, ⟨W1 j, hp j⟩, hpost⟩, hF⟩, hL⟩⟩
theorem ME.ofF {l : Launch} {G : GT} {y : MethodName} {b : ByteArray} {nL : Nat} {ret : Option FieldType} {rm : Room} {av : List Value} {w : va_W} {R : Option Value} {W1 : va_W} {P : va_W → Prop} (h : MF l G y b nL ret rm av w R W1) (hp : P W1) : ME l G y b nL ret rm av w R P := by
  intro sz p e ha hc hcl s m args below hf happ hP hk0
  obtain ⟨n, o, h1, h2, h3, ⟨⟨⟨ho, hpost⟩, hF⟩, hL⟩⟩ := h sz p e ha hc hcl s m args below hf happ hP hk0
  exact ⟨n, o, h1, h2, h3, ⟨⟨⟨ho, ⟨W1, hp⟩, hpost⟩, hF⟩, hL⟩⟩
theorem MF.frameL {l : Launch} {G : GT} {y : MethodName} {b : ByteArray} {nL : Nat} {ret : Option FieldType} {rm : Room} {av : List Value} {w : va_W} {R : Option Value} {W1 : va_W} (h : MF l G y b nL ret rm av w R W1) (wr : va_W) : MF l G y b nL ret rm av (wr ++ w) R (wr ++ W1) := (h.frame wr).perm List.perm_append_comm List.perm_append_comm
theorem MFJ.frameL {l : Launch} {G : GT} {y : MethodName} {b : ByteArray} {nL : Nat} {ret : Option FieldType} {rm : Room} {av : List Value} {w : va_W} {R : Option Value} {T : Type} {W1 : T → va_W} (h : MFJ l G y b nL ret rm av w R W1) (wr : va_W) : MFJ l G y b nL ret rm av (wr ++ w) R (fun j => wr ++ W1 j) := (h.frame wr).perm List.perm_append_comm (fun _ => List.perm_append_comm)
theorem shAt_k {sh : Nat → Option Nat} {ad : Nat → Nat} (h : ∀ k, k < 4 → sh k = some (ad (20 + 2 * k))) {k : Nat} (hk : k < 4) : s_shAt sh (nI k) = some (ad (20 + 2 * k)) := by
  have h1 : ¬ s_in (nI k) 0 3 = 0 := by
    rw [s_in0]
    exact fun z => z ⟨nI_pos' (by omega), nI_le (b := 3) (by omega) (by omega)⟩
  unfold s_shAt
  rw [if_neg h1, nI_clamp (by omega), h k hk]
theorem shAt_n {sh : Nat → Option Nat} {k : Int32} (h : ¬ q_noSheet k = 0) : s_shAt sh k = none ∧ s_in k 0 3 = 0 := by
  unfold q_noSheet at h
  rw [ite10] at h
  have h1 : s_in k 0 3 = 0 := by
    rw [s_in0]
    exact h
  unfold s_shAt
  exact ⟨if_pos h1, h1⟩
theorem sh_nI {k : Int32} (h : q_noSheet k = 0) : ∃ j, j < 4 ∧ k = nI j := by
  unfold q_noSheet at h
  rw [ite10] at h
  obtain ⟨j, hj, e⟩ := nI_of2 (n := 3) (M := 3) (by decide) (Int32.not_lt.mpr h.1) h.2
  exact ⟨j, by omega, e⟩
