/-! a contract in a bigger world -/
theorem app_l {α : Type} {w wr : List α} {k : Nat} {q : α} (h : w[k]? = some q) : (w ++ wr)[k]? = some q := by
  obtain ⟨hk, -⟩ := List.getElem?_eq_some_iff.mp h
  rw [List.getElem?_append_left hk]
  exact h
theorem app_r {α : Type} {w wr : List α} {k : Nat} {q : α} (h : wr[k]? = some q) : (w ++ wr)[w.length + k]? = some q := by
  rw [List.getElem?_append_right (Nat.le_add_right _ _), Nat.add_sub_cancel_left]
  exact h
theorem app_in {α : Type} {w wr : List α} {k : Nat} {q : α} (h : (w ++ wr)[k]? = some q) : (∃ i : Nat, w[i]? = some q) ∨ ∃ i : Nat, wr[i]? = some q := by
  rcases Nat.lt_or_ge k w.length with z | z
  · rw [List.getElem?_append_left z] at h
    exact Or.inl ⟨k, h⟩
  · rw [List.getElem?_append_right z] at h
    exact Or.inr ⟨_, h⟩
theorem va_A.wide {w wr : va_W} {sz q : Nat} (h : va_A w sz q) : va_A (w ++ wr) sz q := by
  rcases h with ⟨k, e, h⟩ | h
  · exact Or.inl ⟨k, e, app_l h⟩
  · exact Or.inr h
theorem MF.frame {l : Launch} {G : GT} {y : MethodName} {b : ByteArray} {nL : Nat} {ret : Option FieldType} {rm : Room} {av : List Value} {w : va_W} {R : Option Value} {W1 : va_W} (h : MF l G y b nL ret rm av w R W1) (wr : va_W) : MF l G y b nL ret rm av (w ++ wr) R (W1 ++ wr) := by
  intro sz p e ha hc hcl s m args below hf happ hP hk0
  obtain ⟨hav, hsz, hPw, hK, hD, hN⟩ := hP
  have hP2 : va_P G.1 vwCl wr s.heap := fun k q hk => hPw _ q (app_r hk)
  have hx : ∀ (i j : Nat) (u v : Nat × va_E), w[i]? = some u → wr[j]? = some v → u.1 ≠ v.1 := fun i j u v hi hj ee => by
    have h1 := hD.1 i (w.length + j) u v (app_l hi) (app_r hj) ee
    obtain ⟨h2, -⟩ := List.getElem?_eq_some_iff.mp hi
    omega
  have hlt : ∀ (k : Nat) (q : Nat × va_E), wr[k]? = some q → q.1 < s.heap.size := fun k q hk => (hP2 k q hk).lt
  have hno : ∀ (k : Nat) (q : Nat × va_E), wr[k]? = some q → ¬ va_A w sz q.1 := fun k q hk hA => by
    rcases hA with ⟨i, e, hi⟩ | hA
    · exact hx i k _ _ hi hk rfl
    · have := hlt k q hk
      omega
  obtain ⟨n, o, h1, h2, h3, ⟨⟨⟨ho, hpost, hDp⟩, hF⟩, L, hFE, hL⟩⟩ := h sz p e ha hc hcl s m args below hf happ ⟨hav, hsz, fun k q hk => hPw k q (app_l hk), hK, ⟨fun i j u v hi hj ee => hD.1 i j u v (app_l hi) (app_l hj) ee, fun _ _ _ => trivial⟩, hN⟩ hk0
  refine ⟨n, o, h1, h2, h3, ⟨⟨⟨ho, ?_, ?_⟩, ?_⟩, L, hFE, fun q hq => (hL q hq).wide⟩⟩
  · exact hpost.app (hP2.kept (fun k q hk => hF.2 q.1 (hlt k q hk) (hno k q hk)))
  · refine va_D.app (hDp.weaken fun _ _ _ z => z.wide) ⟨fun i j u v hi hj ee => ?_, fun k q hk => Or.inl ⟨_, q.2, app_r hk⟩⟩ (fun i j u v hi hj ee => hno j v hj (ee ▸ hDp.2 i u hi))
    have := hD.1 _ _ u v (app_r hi) (app_r hj) ee
    omega
  · exact ⟨hF.1, fun q hq hn => hF.2 q hq (fun z => hn z.wide)⟩
theorem MFJ.frame {l : Launch} {G : GT} {y : MethodName} {b : ByteArray} {nL : Nat} {ret : Option FieldType} {rm : Room} {av : List Value} {w : va_W} {R : Option Value} {T : Type} {W1 : T → va_W} (h : MFJ l G y b nL ret rm av w R W1) (wr : va_W) : MFJ l G y b nL ret rm av (w ++ wr) R (fun t => W1 t ++ wr) := by
  intro sz p e ha hc hcl s m args below hf happ hP hk0
  obtain ⟨hav, hsz, hPw, hK, hD, hN⟩ := hP
  have hP2 : va_P G.1 vwCl wr s.heap := fun k q hk => hPw _ q (app_r hk)
  have hx : ∀ (i j : Nat) (u v : Nat × va_E), w[i]? = some u → wr[j]? = some v → u.1 ≠ v.1 := fun i j u v hi hj ee => by
    have h1 := hD.1 i (w.length + j) u v (app_l hi) (app_r hj) ee
    obtain ⟨h2, -⟩ := List.getElem?_eq_some_iff.mp hi
    omega
  have hlt : ∀ (k : Nat) (q : Nat × va_E), wr[k]? = some q → q.1 < s.heap.size := fun k q hk => (hP2 k q hk).lt
  have hno : ∀ (k : Nat) (q : Nat × va_E), wr[k]? = some q → ¬ va_A w sz q.1 := fun k q hk hA => by
    rcases hA with ⟨i, e, hi⟩ | hA
    · exact hx i k _ _ hi hk rfl
    · have := hlt k q hk
      omega
  obtain ⟨n, o, h1, h2, h3, ⟨⟨⟨ho, j, hpost, hDp⟩, hF⟩, L, hFE, hL⟩⟩ := h sz p e ha hc hcl s m args below hf happ ⟨hav, hsz, fun k q hk => hPw k q (app_l hk), hK, ⟨fun i j u v hi hj ee => hD.1 i j u v (app_l hi) (app_l hj) ee, fun _ _ _ => trivial⟩, hN⟩ hk0
  refine ⟨n, o, h1, h2, h3, ⟨⟨⟨ho, j, ?_, ?_⟩, ?_⟩, L, hFE, fun q hq => (hL q hq).wide⟩⟩
  · exact hpost.app (hP2.kept (fun k q hk => hF.2 q.1 (hlt k q hk) (hno k q hk)))
  · refine va_D.app (hDp.weaken fun _ _ _ z => z.wide) ⟨fun i j u v hi hj ee => ?_, fun k q hk => Or.inl ⟨_, q.2, app_r hk⟩⟩ (fun i j u v hi hj ee => hno j v hj (ee ▸ hDp.2 i u hi))
    have := hD.1 _ _ u v (app_r hi) (app_r hj) ee
    omega
  · exact ⟨hF.1, fun q hq hn => hF.2 q hq (fun z => hn z.wide)⟩
theorem va_P.mem {D : va_G} {cl : List vw_C} {w w' : va_W} {H : Heap} (h : va_P D cl w H) (hs : ∀ q, q ∈ w' → q ∈ w) : va_P D cl w' H := fun k q hk => by
  obtain ⟨i, hi⟩ := List.mem_iff_getElem?.mp (hs q (List.mem_iff_getElem?.mpr ⟨k, hk⟩))
  exact h i q hi
theorem va_D.nodup {A : Nat → Prop} {w : va_W} : va_D A w ↔ (w.map Prod.fst).Nodup ∧ ∀ q, q ∈ w → A q.1 := by
  constructor
  · intro h
    refine ⟨?_, fun q hq => ?_⟩
    · refine List.pairwise_iff_getElem.mpr fun i j hi hj hij e => ?_
      rw [List.length_map] at hi hj
      rw [List.getElem_map, List.getElem_map] at e
      have := h.1 i j _ _ (List.getElem?_eq_getElem hi) (List.getElem?_eq_getElem hj) e
      omega
    · obtain ⟨k, hk⟩ := List.mem_iff_getElem?.mp hq
      exact h.2 k q hk
  · intro h
    refine ⟨fun i j p q hi hj e => ?_, fun k q hk => h.2 q (List.mem_iff_getElem?.mpr ⟨k, hk⟩)⟩
    have h1 := List.pairwise_iff_getElem.mp h.1
    obtain ⟨hi2, ei⟩ := List.getElem?_eq_some_iff.mp hi
    obtain ⟨hj2, ej⟩ := List.getElem?_eq_some_iff.mp hj
    rcases Nat.lt_trichotomy i j with z | z | z
    · refine absurd ?_ (h1 i j (by rw [List.length_map]; exact hi2) (by rw [List.length_map]; exact hj2) z)
      rw [List.getElem_map, List.getElem_map, ei, ej, e]
    · exact z
    · refine absurd ?_ (h1 j i (by rw [List.length_map]; exact hj2) (by rw [List.length_map]; exact hi2) z)
      rw [List.getElem_map, List.getElem_map, ei, ej, e]
theorem va_D.perm {A : Nat → Prop} {w w' : va_W} (h : va_D A w) (hs : w.Perm w') : va_D A w' := by
  rw [va_D.nodup] at h ⊢
  exact ⟨(hs.map Prod.fst).nodup_iff.mp h.1, fun q hq => h.2 q (hs.mem_iff.mpr hq)⟩
theorem va_A.perm {w w' : va_W} (hs : w.Perm w') (sz : Nat) : va_A w sz = va_A w' sz := by
  funext q
  apply propext
  unfold va_A
  constructor <;> rintro (⟨k, e, h⟩ | h)
  · obtain ⟨i, hi⟩ := List.mem_iff_getElem?.mp (hs.mem_iff.mp (List.mem_iff_getElem?.mpr ⟨k, h⟩))
    exact Or.inl ⟨i, e, hi⟩
  · exact Or.inr h
  · obtain ⟨i, hi⟩ := List.mem_iff_getElem?.mp (hs.mem_iff.mpr (List.mem_iff_getElem?.mpr ⟨k, h⟩))
    exact Or.inl ⟨i, e, hi⟩
  · exact Or.inr h
theorem MF.perm {l : Launch} {G : GT} {y : MethodName} {b : ByteArray} {nL : Nat} {ret : Option FieldType} {rm : Room} {av : List Value} {w w' : va_W} {R : Option Value} {W1 W1' : va_W} (h : MF l G y b nL ret rm av w R W1) (hw : w.Perm w') (hW : W1.Perm W1') : MF l G y b nL ret rm av w' R W1' := by
  intro sz p e ha hc hcl s m args below hf happ hP hk0
  obtain ⟨hav, hsz, hPw, hK, hD, hN⟩ := hP
  obtain ⟨n, o, h1, h2, h3, ⟨⟨⟨ho, hpost, hDp⟩, hF⟩, L, hFE, hL⟩⟩ := h sz p e ha hc hcl s m args below hf happ ⟨hav, hsz, hPw.mem (fun q hq => hw.mem_iff.mp hq), hK, hD.perm hw.symm, hN⟩ hk0
  rw [va_A.perm hw sz] at hDp hF hL
  exact ⟨n, o, h1, h2, h3, ⟨⟨⟨ho, hpost.mem (fun q hq => hW.mem_iff.mpr hq), hDp.perm hW⟩, hF⟩, L, hFE, hL⟩⟩
