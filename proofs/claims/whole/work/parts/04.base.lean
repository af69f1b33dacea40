/-! the frame of every walk here: what a method's body stands on (FX), its world (HP), its contract (MF) -/
abbrev GT : Type := va_G × ClassId × ClassId × ClassId
abbrev tyG (G : GT) : List (ClassId × FieldType) := [(G.2.1, .int), (G.2.2.1, .boolean), (G.2.2.2, .object "SkateBonds$Sheet")]
def isNest : Cond → Bool
  | .fieldLinkNest .. => true
  | .methodLinkNest .. => true
  | _ => false
def NW (U : State) : Prop := ∀ w ∈ nestL, va_Nw w U
theorem nest_ok : nestL.all isNest = true := by decide +kernel
theorem NW.warm {s U : State} (hW : s.WarmedH U.vm) (h : NW s) : NW U := by
  intro w hw
  have h1 := List.all_eq_true.mp nest_ok w hw
  have h2 := h w hw
  cases w <;> first | exact va_Nw.warmF hW h2 | exact va_Nw.warmM hW h2 | (simp [isNest] at h1; done)
theorem NW.calling {U : State} {g : JFrame} {mk : MethodId} {a : Array Value} (h : NW U) : NW (U.calling g mk a) := fun w hw => by
  have h1 := List.all_eq_true.mp nest_ok w hw
  have h2 := h w hw
  have e : (U.calling g mk a).vm = U.vm := rfl
  cases w <;> first | exact va_Nw.same rfl e.symm h2 | (simp [isNest] at h1; done)

def FX (G : GT) (own : String) (cc : ByteArray) (nL : Nat) (ret : Option FieldType) (p : Program) (s : State) (m : MethodId) (args : Array Value) (meth : Method) (c : Code) (A : Nat → Prop) : Prop :=
  p.tables.exec = Jvm.exec ∧ c.code = cc ∧ meth.sig.returnType = ret ∧ (∀ w ∈ TT, w.before args s = true) ∧ s.vm.findClass own = some m.cls ∧ meth.locks = false ∧ c.maxLocals = nL ∧ va_K G.1 vwCl (tyG G) s ∧ NW s ∧ (∀ q : Nat, s.heap.size ≤ q → A q)
def HP (G : GT) (A : Nat → Prop) (w : va_W) (s : State) (H : Heap) (locs : List Loc) : Prop := va_P G.1 vwCl w H ∧ va_D A w ∧ va_S A s.heap H locs
def PRE (G : GT) (w : va_W) (sz : Nat) : State → Prop := fun U => U.heap.size = sz ∧ va_P G.1 vwCl w U.heap ∧ va_K G.1 vwCl (tyG G) U ∧ va_D (fun _ => True) w ∧ NW U
def POST (G : GT) (A : Nat → Prop) (w : va_W) : State → Prop := fun t => va_P G.1 vwCl w t.heap ∧ va_D A w
abbrev wsY (y : MethodName) (b : ByteArray) (nL : Nat) (ret : Option FieldType) : List Cond := .code y b nL ret :: TT
def QF (R : Option Value) (B : State → Prop) (A : Nat → Prop) : Array Value → State → Outcome → State → Prop := fun _ st oc t => (oc = .returned R ∧ B t) ∧ va_F A st t
/-- a method's contract: in the world w, with these arguments, it answers R, and leaves the world W1 -/
def MF (l : Launch) (G : GT) (y : MethodName) (b : ByteArray) (nL : Nat) (ret : Option FieldType) (rm : Room) (av : List Value) (w : va_W) (R : Option Value) (W1 : va_W) : Prop :=
  ∀ sz : Nat, Met l y (wsY y b nL ret) rm (va_Pc av (PRE G w sz)) (QF R (POST G (va_A w sz) W1) (va_A w sz)) 0 0 (va_A w sz)
abbrev ZZ (G : GT) (A : Nat → Prop) (R : Option Value) (W1 : va_W) (below : List Frame) (args : Array Value) (s : State) : State → Prop := MQ below (QF R (POST G A W1) A) args s 0 0 A
theorem MF.of {l : Launch} {G : GT} {y : MethodName} {b : ByteArray} {nL : Nat} {ret : Option FieldType} {rm : Room} {av : List Value} {w : va_W} {R : Option Value} {W1 : va_W} (hy : plainName y.cls = true) (hlen : (lg_sl av).length ≤ nL)
    (h : ∀ (p : Program) (e : Env) (s : State) (m : MethodId) (args : Array Value) (below : List Frame) (meth : Method) (c : Code) (A : Nat → Prop) (ls : Array Slot), FX G y.cls b nL ret p s m args meth c A → HP G A w s s.heap [] → lv_has ls nL (lv_args 0 av) → (y.name = "<init>" → meth.name = "<init>") →
      W p l e rm s m args below meth c s.heap [] 0 0 (ZZ G A R W1 below args s) (F0 m 0 ls [])) : MF l G y b nL ret rm av w R W1 := by
  intro sz
  refine Met.ofW (cc := b) (maxL := nL) (ret := ret) hy rfl ?_
  intro p e s m args below meth c s₁ B hml hv
  obtain ⟨rfl, hsz, hP, hK, hD0, hN⟩ := hv
  have hts := atoms_spec (ws := wsY y b nL ret) B.pre
  subst hsz
  have hA : ∀ q : Nat, s.heap.size ≤ q → va_A w s.heap.size q := fun q h => Or.inr h
  have hl := lv_entry av (n := nL) hlen
  rw [lg_entry_eq]
  exact h p e s m av.toArray below meth c (va_A w s.heap.size) _ ⟨B.exec, B.bytes, B.returns, fun w hw => hts w (List.mem_cons_of_mem _ hw), findClass_of_methodNamed B.named, B.notSynchronized, hml, hK, hN, hA⟩ ⟨hP, hD0.self, va_S.rf⟩ hl (fun e => e ▸ (name_of_methodNamed B.named B.method).1)
/-- a contract whose world behind it has parts of which nothing is said -/
def MFJ (l : Launch) (G : GT) (y : MethodName) (b : ByteArray) (nL : Nat) (ret : Option FieldType) (rm : Room) (av : List Value) (w : va_W) (R : Option Value) {T : Type} (W1 : T → va_W) : Prop :=
  ∀ sz : Nat, Met l y (wsY y b nL ret) rm (va_Pc av (PRE G w sz)) (QF R (fun t => ∃ j : T, POST G (va_A w sz) (W1 j) t) (va_A w sz)) 0 0 (va_A w sz)
abbrev ZJ (G : GT) (A : Nat → Prop) (R : Option Value) {T : Type} (W1 : T → va_W) (below : List Frame) (args : Array Value) (s : State) : State → Prop := MQ below (QF R (fun t => ∃ j : T, POST G A (W1 j) t) A) args s 0 0 A
theorem MFJ.of {l : Launch} {G : GT} {y : MethodName} {b : ByteArray} {nL : Nat} {ret : Option FieldType} {rm : Room} {av : List Value} {w : va_W} {R : Option Value} {T : Type} {W1 : T → va_W} (hy : plainName y.cls = true) (hlen : (lg_sl av).length ≤ nL)
    (h : ∀ (p : Program) (e : Env) (s : State) (m : MethodId) (args : Array Value) (below : List Frame) (meth : Method) (c : Code) (A : Nat → Prop) (ls : Array Slot), FX G y.cls b nL ret p s m args meth c A → HP G A w s s.heap [] → lv_has ls nL (lv_args 0 av) → (y.name = "<init>" → meth.name = "<init>") →
      W p l e rm s m args below meth c s.heap [] 0 0 (ZJ G A R W1 below args s) (F0 m 0 ls [])) : MFJ l G y b nL ret rm av w R W1 := by
  intro sz
  refine Met.ofW (cc := b) (maxL := nL) (ret := ret) hy rfl ?_
  intro p e s m args below meth c s₁ B hml hv
  obtain ⟨rfl, hsz, hP, hK, hD0, hN⟩ := hv
  have hts := atoms_spec (ws := wsY y b nL ret) B.pre
  subst hsz
  have hA : ∀ q : Nat, s.heap.size ≤ q → va_A w s.heap.size q := fun q h => Or.inr h
  have hl := lv_entry av (n := nL) hlen
  rw [lg_entry_eq]
  exact h p e s m av.toArray below meth c (va_A w s.heap.size) _ ⟨B.exec, B.bytes, B.returns, fun w hw => hts w (List.mem_cons_of_mem _ hw), findClass_of_methodNamed B.named, B.notSynchronized, hml, hK, hN, hA⟩ ⟨hP, hD0.self, va_S.rf⟩ hl (fun e => e ▸ (name_of_methodNamed B.named B.method).1)
section BASE
variable {p : Program} {l : Launch} {e : Env} {R : Room} {s : State} {m : MethodId} {args : Array Value} {below : List Frame} {meth : Method} {c : Code} {H : Heap} {locs : List Loc} {cells slots : Nat} {Q : State → Prop}
variable {G : GT} {own : String} {cc : ByteArray} {nL : Nat} {ret : Option FieldType} {A : Nat → Prop} {w w' : va_W} {pc : Nat} {ls : Array Slot} {rest st0 : List Value} {a : Nat}
theorem FX.hx (f : FX G own cc nL ret p s m args meth c A) : p.tables.exec = Jvm.exec := f.1
theorem FX.hb (f : FX G own cc nL ret p s m args meth c A) : c.code = cc := f.2.1
theorem FX.hr (f : FX G own cc nL ret p s m args meth c A) : meth.sig.returnType = ret := f.2.2.1
theorem FX.hts (f : FX G own cc nL ret p s m args meth c A) : ∀ w ∈ TT, w.before args s = true := f.2.2.2.1
theorem FX.hown (f : FX G own cc nL ret p s m args meth c A) : s.vm.findClass own = some m.cls := f.2.2.2.2.1
theorem FX.hlocks (f : FX G own cc nL ret p s m args meth c A) : meth.locks = false := f.2.2.2.2.2.1
theorem FX.hml (f : FX G own cc nL ret p s m args meth c A) : c.maxLocals = nL := f.2.2.2.2.2.2.1
theorem FX.hK (f : FX G own cc nL ret p s m args meth c A) : va_K G.1 vwCl (tyG G) s := f.2.2.2.2.2.2.2.1
theorem FX.hN (f : FX G own cc nL ret p s m args meth c A) : NW s := f.2.2.2.2.2.2.2.2.1
theorem FX.hA (f : FX G own cc nL ret p s m args meth c A) : ∀ q : Nat, s.heap.size ≤ q → A q := f.2.2.2.2.2.2.2.2.2
/-- reading a field, own class or nest mate -/
theorem r_get (fx : FX G own cc nL ret p s m args meth c A) (hh : HP G A w s H locs) {ref C : String} {T : u_T} {N ci index : Nat} (hin : ∀ w ∈ u_ws C T N, w ∈ TT) (hc : vwCl[ci]? = some (C, T, N)) (k : Nat) (hk : k < N) (hlink : Cond.fieldLink own index ref (T k).2.1 (T k).2.2.1 ∈ TT) (hsame : (T k).1 = ref)
    (q0 : Nat) {fs : List Value} (he : w[q0]? = some (a, .inr (ci, fs))) {v : Value} (hv : fs[k]? = some v) (hdg : decode cc pc = .ok (.getfield index, 3))
    (kk : W p l e R s m args below meth c H locs cells slots Q (F0 m (pc + 3) ls (v :: rest))) : W p l e R s m args below meth c H locs cells slots Q (F0 m pc ls (.ref a :: rest)) :=
  va_get fx.hx fx.hb fx.hts hin fx.hown fx.hK hh.1 q0 he hc k hk (fx.hts _ hlink) (fun x h => by rw [← hsame]; exact h) hv hdg kk
theorem r_getN (fx : FX G own cc nL ret p s m args meth c A) (hh : HP G A w s H locs) {ref C host : String} {T : u_T} {N ci index : Nat} (hin : ∀ w ∈ u_ws C T N, w ∈ TT) (hc : vwCl[ci]? = some (C, T, N)) (k : Nat) (hk : k < N) (hlink : Cond.fieldLinkNest own index ref (T k).2.1 (T k).2.2.1 host ∈ nestL) (hsame : (T k).1 = ref)
    (q0 : Nat) {fs : List Value} (he : w[q0]? = some (a, .inr (ci, fs))) {v : Value} (hv : fs[k]? = some v) (hdg : decode cc pc = .ok (.getfield index, 3))
    (kk : W p l e R s m args below meth c H locs cells slots Q (F0 m (pc + 3) ls (v :: rest))) : W p l e R s m args below meth c H locs cells slots Q (F0 m pc ls (.ref a :: rest)) :=
  va_getN fx.hx fx.hb fx.hts hin fx.hown fx.hK hh.1 q0 he hc k hk (va_Nw.use rfl (fx.hN _ hlink)) (fun x h => by rw [← hsame]; exact h) hv hdg kk
theorem r_put (fx : FX G own cc nL ret p s m args meth c A) (hh : HP G A w s H locs) {ref C : String} {T : u_T} {N ci index : Nat} (hin : ∀ w ∈ u_ws C T N, w ∈ TT) (ty0 : Nat → FieldType) (hty : ∀ k, k < N → parseFieldDescriptor (T k).2.2.1 = some (ty0 k)) (hnm : ∀ a, a < N → ∀ b, b < N → a ≠ b → (T a).2.1 ≠ (T b).2.1) (hc : vwCl[ci]? = some (C, T, N)) (k : Nat) (hk : k < N) (hlink : Cond.fieldLink own index ref (T k).2.1 (T k).2.2.1 ∈ TT) (hsame : (T k).1 = ref) (hfin : (T k).2.2.2 = false)
    (q0 : Nat) {fs : List Value} (he : w[q0]? = some (a, .inr (ci, fs))) {v : Value} (hn : narrow (ty0 k) v = v) (hfit : fits (ty0 k) v = true) (hl : k < fs.length) (hw : w.set q0 (a, .inr (ci, fs.set k v)) = w') (hdg : decode cc pc = .ok (.putfield index, 3))
    (kk : ∀ (H1 : Heap) (locs1 : List Loc), HP G A w' s H1 locs1 → W p l e R s m args below meth c H1 locs1 cells slots Q (F0 m (pc + 3) ls rest)) : W p l e R s m args below meth c H locs cells slots Q (F0 m pc ls (v :: .ref a :: rest)) :=
  va_put fx.hx fx.hb fx.hts hin ty0 hty hnm fx.hown fx.hK hh.1 hh.2.1 hh.2.2 q0 he hc k hk (fx.hts _ hlink) (fun x h => by rw [← hsame]; exact h) hfin (hty k hk) hn hfit hl hdg (fun H1 locs1 p1 p2 p3 => kk H1 locs1 ⟨hw ▸ p1, hw ▸ p2, p3⟩)
theorem r_putN (fx : FX G own cc nL ret p s m args meth c A) (hh : HP G A w s H locs) {ref C host : String} {T : u_T} {N ci index : Nat} (hin : ∀ w ∈ u_ws C T N, w ∈ TT) (ty0 : Nat → FieldType) (hty : ∀ k, k < N → parseFieldDescriptor (T k).2.2.1 = some (ty0 k)) (hnm : ∀ a, a < N → ∀ b, b < N → a ≠ b → (T a).2.1 ≠ (T b).2.1) (hc : vwCl[ci]? = some (C, T, N)) (k : Nat) (hk : k < N) (hlink : Cond.fieldLinkNest own index ref (T k).2.1 (T k).2.2.1 host ∈ nestL) (hsame : (T k).1 = ref) (hfin : (T k).2.2.2 = false)
    (q0 : Nat) {fs : List Value} (he : w[q0]? = some (a, .inr (ci, fs))) {v : Value} (hn : narrow (ty0 k) v = v) (hfit : fits (ty0 k) v = true) (hl : k < fs.length) (hw : w.set q0 (a, .inr (ci, fs.set k v)) = w') (hdg : decode cc pc = .ok (.putfield index, 3))
    (kk : ∀ (H1 : Heap) (locs1 : List Loc), HP G A w' s H1 locs1 → W p l e R s m args below meth c H1 locs1 cells slots Q (F0 m (pc + 3) ls rest)) : W p l e R s m args below meth c H locs cells slots Q (F0 m pc ls (v :: .ref a :: rest)) :=
  va_putN fx.hx fx.hb fx.hts hin ty0 hty hnm fx.hown fx.hK hh.1 hh.2.1 hh.2.2 q0 he hc k hk (va_Nw.use rfl (fx.hN _ hlink)) (fun x h => by rw [← hsame]; exact h) hfin (hty k hk) hn hfit hl hdg (fun H1 locs1 p1 p2 p3 => kk H1 locs1 ⟨hw ▸ p1, hw ▸ p2, p3⟩)
theorem r_putF (fx : FX G own cc nL ret p s m args meth c A) (hh : HP G A w s H locs) (hin2 : meth.name = "<init>") {ref C : String} {T : u_T} {N ci index : Nat} (hin : ∀ w ∈ u_ws C T N, w ∈ TT) (ty0 : Nat → FieldType) (hty : ∀ k, k < N → parseFieldDescriptor (T k).2.2.1 = some (ty0 k)) (hnm : ∀ a, a < N → ∀ b, b < N → a ≠ b → (T a).2.1 ≠ (T b).2.1) (hc : vwCl[ci]? = some (C, T, N)) (k : Nat) (hk : k < N) (hlink : Cond.fieldLink own index ref (T k).2.1 (T k).2.2.1 ∈ TT) (hsame : (T k).1 = ref) (hfin : (T k).2.2.2 = true) (hdecl : (T k).1 = own)
    (q0 : Nat) {fs : List Value} (he : w[q0]? = some (a, .inr (ci, fs))) {v : Value} (hn : narrow (ty0 k) v = v) (hfit : fits (ty0 k) v = true) (hl : k < fs.length) (hw : w.set q0 (a, .inr (ci, fs.set k v)) = w') (hdg : decode cc pc = .ok (.putfield index, 3))
    (kk : ∀ (H1 : Heap) (locs1 : List Loc), HP G A w' s H1 locs1 → W p l e R s m args below meth c H1 locs1 cells slots Q (F0 m (pc + 3) ls rest)) : W p l e R s m args below meth c H locs cells slots Q (F0 m pc ls (v :: .ref a :: rest)) :=
  va_putF fx.hx fx.hb fx.hts hin ty0 hty hnm fx.hown fx.hK hh.1 hh.2.1 hh.2.2 q0 he hc k hk (fx.hts _ hlink) (fun x h => by rw [← hsame]; exact h) hfin hin2 hdecl (hty k hk) hn hfit hl hdg (fun H1 locs1 p1 p2 p3 => kk H1 locs1 ⟨hw ▸ p1, hw ▸ p2, p3⟩)
theorem r_iald (fx : FX G own cc nL ret p s m args meth c A) (hh : HP G A w s H locs) (q0 : Nat) {n : Nat} {f : Nat → Int32} (ha : w[q0]? = some (a, .inl (G.2.1, n, .inl f))) {i : Int32} (hin : vp_in i n) (hdg : decode cc pc = .ok (.iaload, 1))
    (kk : W p l e R s m args below meth c H locs cells slots Q (F0 m (pc + 1) ls (.int (f i.toNatClampNeg) :: rest))) : W p l e R s m args below meth c H locs cells slots Q (F0 m pc ls (.int i :: .ref a :: rest)) :=
  va_iald fx.hx fx.hb fx.hK hh.1 q0 0 ha rfl hin hdg kk
theorem r_zald (fx : FX G own cc nL ret p s m args meth c A) (hh : HP G A w s H locs) (q0 : Nat) {n : Nat} {f : Nat → Int32} (ha : w[q0]? = some (a, .inl (G.2.2.1, n, .inl f))) {i : Int32} (hin : vp_in i n) (hdg : decode cc pc = .ok (.baload, 1))
    (kk : W p l e R s m args below meth c H locs cells slots Q (F0 m (pc + 1) ls (.int (f i.toNatClampNeg) :: rest))) : W p l e R s m args below meth c H locs cells slots Q (F0 m pc ls (.int i :: .ref a :: rest)) :=
  va_zald fx.hx fx.hb fx.hK hh.1 q0 1 ha rfl hin hdg kk
theorem r_aald (fx : FX G own cc nL ret p s m args meth c A) (hh : HP G A w s H locs) (q0 : Nat) {n : Nat} {f : Nat → Option Nat} (ha : w[q0]? = some (a, .inl (G.2.2.2, n, .inr (.inr (.inr (.inr f)))))) {i : Int32} (hin : vp_in i n) (hdg : decode cc pc = .ok (.aaload, 1))
    (kk : W p l e R s m args below meth c H locs cells slots Q (F0 m (pc + 1) ls (va_rf (f i.toNatClampNeg) :: rest))) : W p l e R s m args below meth c H locs cells slots Q (F0 m pc ls (.int i :: .ref a :: rest)) :=
  va_aldq fx.hx fx.hb fx.hK hh.1 q0 2 ha rfl hin hdg kk
theorem r_iast (fx : FX G own cc nL ret p s m args meth c A) (hh : HP G A w s H locs) (q0 : Nat) {n : Nat} {f : Nat → Int32} (ha : w[q0]? = some (a, .inl (G.2.1, n, .inl f))) {i x : Int32} (hin : vp_in i n) (hw : w.set q0 (a, .inl (G.2.1, n, .inl (upd f i.toNatClampNeg x))) = w') (hdg : decode cc pc = .ok (.iastore, 1))
    (kk : ∀ (H1 : Heap) (locs1 : List Loc), HP G A w' s H1 locs1 → W p l e R s m args below meth c H1 locs1 cells slots Q (F0 m (pc + 1) ls rest)) : W p l e R s m args below meth c H locs cells slots Q (F0 m pc ls (.int x :: .int i :: .ref a :: rest)) :=
  va_iast fx.hx fx.hb fx.hK hh.1 hh.2.1 hh.2.2 q0 0 ha rfl hin hdg (fun H1 locs1 p1 p2 p3 => kk H1 locs1 ⟨hw ▸ p1, hw ▸ p2, p3⟩)
theorem r_zast (fx : FX G own cc nL ret p s m args meth c A) (hh : HP G A w s H locs) (q0 : Nat) {n : Nat} {f : Nat → Int32} (ha : w[q0]? = some (a, .inl (G.2.2.1, n, .inl f))) {i x : Int32} (hin : vp_in i n) (hw : w.set q0 (a, .inl (G.2.2.1, n, .inl (upd f i.toNatClampNeg (vp_nar .boolean x)))) = w') (hdg : decode cc pc = .ok (.bastore, 1))
    (kk : ∀ (H1 : Heap) (locs1 : List Loc), HP G A w' s H1 locs1 → W p l e R s m args below meth c H1 locs1 cells slots Q (F0 m (pc + 1) ls rest)) : W p l e R s m args below meth c H locs cells slots Q (F0 m pc ls (.int x :: .int i :: .ref a :: rest)) :=
  va_zast fx.hx fx.hb fx.hK hh.1 hh.2.1 hh.2.2 q0 1 ha rfl hin hdg (fun H1 locs1 p1 p2 p3 => kk H1 locs1 ⟨hw ▸ p1, hw ▸ p2, p3⟩)
theorem r_alen (fx : FX G own cc nL ret p s m args meth c A) (hh : HP G A w s H locs) (q0 : Nat) {x : vp_A} (ha : w[q0]? = some (a, .inl (G.2.1, x))) {v : Int32} (hv : Int32.ofNat x.1 = v) (hdg : decode cc pc = .ok (.arraylength, 1))
    (kk : W p l e R s m args below meth c H locs cells slots Q (F0 m (pc + 1) ls (.int v :: rest))) : W p l e R s m args below meth c H locs cells slots Q (F0 m pc ls (.ref a :: rest)) :=
  va_alen fx.hx fx.hb fx.hK hh.1 q0 0 ha (ty := .int) rfl hv hdg kk
/-- another order of the same world, or a part of it -/
theorem HP.perm (hh : HP G A w s H locs) (is : List Nat) (hn : va_nd is = true) (hs : is.map (fun i => w[i]?) = w'.map some) : HP G A w' s H locs := by
  refine ⟨?_, hh.2.1.sub is hn hs, hh.2.2⟩
  intro k q hk
  have h1 : (is.map (fun i => w[i]?))[k]? = some (some q) := by rw [hs, List.getElem?_map, hk]; rfl
  rw [List.getElem?_map] at h1
  cases hi : is[k]? with
  | none => rw [hi] at h1; cases h1
  | some i => rw [hi] at h1; exact hh.1 i q (Option.some.inj h1)
theorem FX.pay (f : FX G own cc nL ret p s m args meth c A) : ∀ w ∈ TT, ∀ (a' : Array Value) (U : State), s.WarmedH U.vm → w.before a' U = true :=
  pay_in f.hts (fun w hw => ⟨hw, good_of_word (tt_good hw)⟩)
/-- what the tables say of a method that is called -/
def YB (y : MethodName) (b : ByteArray) (nLy : Nat) (rety : Option FieldType) (n : Nat) : Prop :=
  Cond.code y b nLy rety ∈ TT ∧ Cond.initialized y.cls ∈ TT ∧ (y.cls ≠ "java/lang/invoke/MethodHandle" ∧ y.cls ≠ "java/lang/invoke/VarHandle") ∧ ((parseMethodDescriptor y.desc).map (fun d => d.parameters.length) = some n)
def YV (y : MethodName) (b : ByteArray) (nLy : Nat) (rety : Option FieldType) (n : Nat) : Prop := YB y b nLy rety n ∧ Cond.instanceMethod y ∈ TT ∧ Cond.selects y.cls y y ∈ TT
def YS (y : MethodName) (b : ByteArray) (nLy : Nat) (rety : Option FieldType) (n : Nat) : Prop := YB y b nLy rety n ∧ Cond.static y ∈ TT
theorem YB.len {y : MethodName} {b : ByteArray} {nLy n : Nat} {rety : Option FieldType} (h : YB y b nLy rety n) : ∀ sig, parseMethodDescriptor y.desc = some sig → n = sig.parameters.length := fun sig hs => by
  have h2 := h.2.2.2
  rw [hs] at h2
  exact (Option.some.inj h2).symm
theorem callB_T (fx : FX G own cc nL ret p s m args meth c A) {y : MethodName} {b : ByteArray} {nLy n idx : Nat} {rety : Option FieldType} {rm : Room} (hy : YB y b nLy rety n) (hl : Cond.methodLink own idx y ∈ TT) (hrm : rm.cells = 0 ∧ rm.slots = 0 ∧ rm.frames + 1 ≤ R.frames ∧ 8 + (nLy + 11) + rm.locals ≤ R.locals) :
    CallB R s args own idx y b nLy rety (wsY y b nLy rety) rm 0 0 n := by
  refine ⟨hrm.1, hrm.2.1, hrm.2.2.1, hrm.2.2.2, fun w hw a' U hW => ?_, List.mem_cons_self, fx.hts _ hy.1, fx.hts _ hy.2.1, hy.2.2.1, hy.len, fx.hts _ hl⟩
  rcases List.mem_cons.mp hw with h | h
  · rw [h]; exact fx.pay _ hy.1 a' U hW
  · exact fx.pay w h a' U hW
theorem callN_T (fx : FX G own cc nL ret p s m args meth c A) {y : MethodName} {b : ByteArray} {nLy n idx : Nat} {rety : Option FieldType} {rm : Room} {host : String} (hy : YB y b nLy rety n) (hl : Cond.methodLinkNest own idx y host ∈ nestL) (hrm : rm.cells = 0 ∧ rm.slots = 0 ∧ rm.frames + 1 ≤ R.frames ∧ 8 + (nLy + 11) + rm.locals ≤ R.locals) :
    va_CN R s args own idx y host b nLy rety (wsY y b nLy rety) rm 0 0 n := by
  refine ⟨⟨hrm.1, hrm.2.1, hrm.2.2.1, hrm.2.2.2, fun w hw a' U hW => ?_, List.mem_cons_self⟩, fx.hts _ hy.1, fx.hts _ hy.2.1, hy.2.2.1, hy.len, va_Nw.use rfl (fx.hN _ hl)⟩
  rcases List.mem_cons.mp hw with h | h
  · rw [h]; exact fx.pay _ hy.1 a' U hW
  · exact fx.pay w h a' U hW
theorem PRE.blind {av : List Value} {sz : Nat} : FrameBlind (va_Pc av (PRE G w sz)) := fun a U g mk q => ⟨q.1, q.2.1, q.2.2.1, va_K.moved (u := U) (U := U.calling g mk a) (Vm.Alike.refl U.vm) q.2.2.2.1, q.2.2.2.2.1, q.2.2.2.2.2.calling⟩
/-- behind a call -/
theorem call_any {wc wr Wc : va_W} {Rc : Option Value} {av : Array Value} (fx : FX G own cc nL ret p s m args meth c A) (hh : HP G A w s H locs) (isC isR isB : List Nat) (hC : isC.map (fun i => w[i]?) = wc.map some) (hR : isR.map (fun i => w[i]?) = wr.map some) (hB : isB.map (fun i => (wr ++ Wc)[i]?) = w'.map some) (hnd : (va_nd isR && (va_nd isB && isR.all (fun i => decide (i ∉ isC)))) = true)
    (hr : va_Run p l e R s m args below meth c H locs cells slots 0 0 (F0 m pc ls st0) rest (QF Rc (POST G (va_A wc H.size) Wc) (va_A wc H.size) av) (va_A wc H.size))
    (kk : ∀ (H1 : Heap) (locs1 : List Loc), HP G A w' s H1 locs1 → W p l e R s m args below meth c H1 locs1 cells slots Q (F0 m (pc + 3) ls (Rc.toList ++ rest))) : W p l e R s m args below meth c H locs cells slots Q (F0 m pc ls st0) := by
  have hF := va_free (wc := wc) hh.2.1 hh.2.2 fx.hA isC hC
  simp only [Bool.and_eq_true, List.all_eq_true, decide_eq_true_eq] at hnd
  intro T hT X
  obtain ⟨v, st₀, t, T', L, h0, X', hL, e1, e2, ⟨⟨hv, hb⟩, hz, hk⟩, st⟩ := hr T hT X
  cases hv
  rw [h0] at hz hk
  obtain ⟨hP2, hD2⟩ := va_join hh.1 hh.2.1 isC isR hC hR hnd.1 hnd.2.2 hk hF hb.1 hb.2
  have hS2 : va_S A s.heap t.heap (locs ++ L) := ⟨Nat.le_trans hh.2.2.1 hz, fun q h1 h2 => by rw [hk q (Nat.lt_of_lt_of_le h1 hh.2.2.1) (fun z => h2 (hF q z))]; exact hh.2.2.2.1 q h1 h2, fun q hq => by
      rcases List.mem_append.mp hq with h | h
      · exact hh.2.2.2.2 q h
      · exact hF _ (hL q h)⟩
  have hh2 : HP G A (wr ++ Wc) s t.heap (locs ++ L) := ⟨hP2, hD2, hS2⟩
  obtain ⟨t2, a1, b1⟩ := kk t.heap (locs ++ L) (hh2.perm isB hnd.2.1 hB) T' e1 X'
  exact ⟨t2, st t2 a1, b1⟩
theorem call_anyJ {wc wr : va_W} {T : Type} {Wc w2 : T → va_W} {Rc : Option Value} {av : Array Value} (fx : FX G own cc nL ret p s m args meth c A) (hh : HP G A w s H locs) (isC isR isB : List Nat) (hC : isC.map (fun i => w[i]?) = wc.map some) (hR : isR.map (fun i => w[i]?) = wr.map some) (hB : ∀ j : T, isB.map (fun i => (wr ++ Wc j)[i]?) = (w2 j).map some) (hnd : (va_nd isR && (va_nd isB && isR.all (fun i => decide (i ∉ isC)))) = true)
    (hr : va_Run p l e R s m args below meth c H locs cells slots 0 0 (F0 m pc ls st0) rest (QF Rc (fun t => ∃ j : T, POST G (va_A wc H.size) (Wc j) t) (va_A wc H.size) av) (va_A wc H.size))
    (kk : ∀ (j : T) (H1 : Heap) (locs1 : List Loc), HP G A (w2 j) s H1 locs1 → W p l e R s m args below meth c H1 locs1 cells slots Q (F0 m (pc + 3) ls (Rc.toList ++ rest))) : W p l e R s m args below meth c H locs cells slots Q (F0 m pc ls st0) := by
  have hF := va_free (wc := wc) hh.2.1 hh.2.2 fx.hA isC hC
  simp only [Bool.and_eq_true, List.all_eq_true, decide_eq_true_eq] at hnd
  intro T hT X
  obtain ⟨v, st₀, t, T', L, h0, X', hL, e1, e2, ⟨⟨hv, j, hb⟩, hz, hk⟩, st⟩ := hr T hT X
  cases hv
  rw [h0] at hz hk
  obtain ⟨hP2, hD2⟩ := va_join hh.1 hh.2.1 isC isR hC hR hnd.1 hnd.2.2 hk hF hb.1 hb.2
  have hS2 : va_S A s.heap t.heap (locs ++ L) := ⟨Nat.le_trans hh.2.2.1 hz, fun q h1 h2 => by rw [hk q (Nat.lt_of_lt_of_le h1 hh.2.2.1) (fun z => h2 (hF q z))]; exact hh.2.2.2.1 q h1 h2, fun q hq => by
      rcases List.mem_append.mp hq with h | h
      · exact hh.2.2.2.2 q h
      · exact hF _ (hL q h)⟩
  have hh2 : HP G A (wr ++ Wc j) s t.heap (locs ++ L) := ⟨hP2, hD2, hS2⟩
  obtain ⟨t2, a1, b1⟩ := kk j t.heap (locs ++ L) (hh2.perm isB hnd.2.1 (hB j)) T' e1 X'
  exact ⟨t2, st t2 a1, b1⟩
theorem PRE.pre {wc : va_W} (fx : FX G own cc nL ret p s m args meth c A) (hh : HP G A w s H locs) (isC : List Nat) (hn : va_nd isC = true) (hC : isC.map (fun i => w[i]?) = wc.map some) : ∀ U : State, U.heap = H → s.WarmedH U.vm → PRE G wc H.size U := fun U hU hW => by
  have h2 := hh.perm isC hn hC
  exact ⟨by rw [hU], by rw [hU]; exact h2.1, va_K.moved hW.alike fx.hK, h2.2.1.weaken (fun _ _ _ _ => trivial), fx.hN.warm hW⟩
/-- a call of an instance method, and of a static one; their nest mates' -/
theorem cl_V (fx : FX G own cc nL ret p s m args meth c A) (hh : HP G A w s H locs) (hsz : ls.size = nL) {y : MethodName} {b : ByteArray} {nLy n idx : Nat} {rety : Option FieldType} {rm : Room} {As : List Value} {wc Wc wr : va_W} {Rc : Option Value}
    (hM : MF l G y b nLy rety rm (.ref a :: As) wc Rc Wc) (hy : YV y b nLy rety n) (hl : Cond.methodLink own idx y ∈ TT) (hrm : rm.cells = 0 ∧ rm.slots = 0 ∧ rm.frames + 1 ≤ R.frames ∧ 8 + (nLy + 11) + rm.locals ≤ R.locals) (q0 ci : Nat) {fs : List Value} {r : vw_C} (he : w[q0]? = some (a, .inr (ci, fs))) (hc : vwCl[ci]? = some r) (hrc : r.1 = y.cls)
    (isC isR isB : List Nat) (hC : isC.map (fun i => w[i]?) = wc.map some) (hR : isR.map (fun i => w[i]?) = wr.map some) (hB : isB.map (fun i => (wr ++ Wc)[i]?) = w'.map some) (hnd : (va_nd isR && (va_nd isB && isR.all (fun i => decide (i ∉ isC)))) = true) (hnc : va_nd isC = true)
    (hn : As.length = n) (hst : st0 = As.reverse ++ .ref a :: rest) (hcat : (rest.map fun v => v.category).sum ≤ 8) (hcs : cells ≤ R.cells ∧ slots ≤ R.slots) (hdg : decode cc pc = .ok (.invokevirtual idx, 3))
    (kk : ∀ (H1 : Heap) (locs1 : List Loc), HP G A w' s H1 locs1 → W p l e R s m args below meth c H1 locs1 cells slots Q (F0 m (pc + 3) ls (Rc.toList ++ rest))) : W p l e R s m args below meth c H locs cells slots Q (F0 m pc ls st0) := by
  have hrv : ∃ cellB : Cell, H[a]? = some cellB ∧ cellB.vm.isStatics = false ∧ s.vm.findClass y.cls = some cellB.cls := hrc ▸ va_recv fx.hK hh.1 hc he
  exact call_any fx hh isC isR isB hC hR hB hnd (va_runV (C := y.cls) (g := F0 m pc ls st0) ⟨fx.hx, fx.hb, fx.hml, fx.hown, fx.hts⟩ (hM H.size) ⟨callB_T fx hy.1 hl hrm, fx.hts _ hy.2.1, fx.hts _ hy.2.2⟩ ⟨PRE.blind, hrv, fun U hU hW => ⟨rfl, PRE.pre fx hh isC hnc hC U hU hW⟩⟩ rfl hn hsz hst (lv_room hcat) hdg hcs) kk
theorem cl_VN (fx : FX G own cc nL ret p s m args meth c A) (hh : HP G A w s H locs) (hsz : ls.size = nL) {y : MethodName} {b : ByteArray} {nLy n idx : Nat} {rety : Option FieldType} {rm : Room} {As : List Value} {wc Wc wr : va_W} {Rc : Option Value} {host : String}
    (hM : MF l G y b nLy rety rm (.ref a :: As) wc Rc Wc) (hy : YV y b nLy rety n) (hl : Cond.methodLinkNest own idx y host ∈ nestL) (hrm : rm.cells = 0 ∧ rm.slots = 0 ∧ rm.frames + 1 ≤ R.frames ∧ 8 + (nLy + 11) + rm.locals ≤ R.locals) (q0 ci : Nat) {fs : List Value} {r : vw_C} (he : w[q0]? = some (a, .inr (ci, fs))) (hc : vwCl[ci]? = some r) (hrc : r.1 = y.cls)
    (isC isR isB : List Nat) (hC : isC.map (fun i => w[i]?) = wc.map some) (hR : isR.map (fun i => w[i]?) = wr.map some) (hB : isB.map (fun i => (wr ++ Wc)[i]?) = w'.map some) (hnd : (va_nd isR && (va_nd isB && isR.all (fun i => decide (i ∉ isC)))) = true) (hnc : va_nd isC = true)
    (hn : As.length = n) (hst : st0 = As.reverse ++ .ref a :: rest) (hcat : (rest.map fun v => v.category).sum ≤ 8) (hcs : cells ≤ R.cells ∧ slots ≤ R.slots) (hdg : decode cc pc = .ok (.invokevirtual idx, 3))
    (kk : ∀ (H1 : Heap) (locs1 : List Loc), HP G A w' s H1 locs1 → W p l e R s m args below meth c H1 locs1 cells slots Q (F0 m (pc + 3) ls (Rc.toList ++ rest))) : W p l e R s m args below meth c H locs cells slots Q (F0 m pc ls st0) := by
  have hrv : ∃ cellB : Cell, H[a]? = some cellB ∧ cellB.vm.isStatics = false ∧ s.vm.findClass y.cls = some cellB.cls := hrc ▸ va_recv fx.hK hh.1 hc he
  exact call_any fx hh isC isR isB hC hR hB hnd (va_runVN (C := y.cls) (g := F0 m pc ls st0) ⟨fx.hx, fx.hb, fx.hml, fx.hown, fx.hts⟩ (hM H.size) ⟨callN_T fx hy.1 hl hrm, fx.hts _ hy.2.1, fx.hts _ hy.2.2⟩ ⟨PRE.blind, hrv, fun U hU hW => ⟨rfl, PRE.pre fx hh isC hnc hC U hU hW⟩⟩ rfl hn hsz hst (lv_room hcat) hdg hcs) kk
theorem cl_S (fx : FX G own cc nL ret p s m args meth c A) (hh : HP G A w s H locs) (hsz : ls.size = nL) {y : MethodName} {b : ByteArray} {nLy n idx : Nat} {rety : Option FieldType} {rm : Room} {As : List Value} {wc Wc wr : va_W} {Rc : Option Value}
    (hM : MF l G y b nLy rety rm As wc Rc Wc) (hy : YS y b nLy rety n) (hl : Cond.methodLink own idx y ∈ TT) (hrm : rm.cells = 0 ∧ rm.slots = 0 ∧ rm.frames + 1 ≤ R.frames ∧ 8 + (nLy + 11) + rm.locals ≤ R.locals)
    (isC isR isB : List Nat) (hC : isC.map (fun i => w[i]?) = wc.map some) (hR : isR.map (fun i => w[i]?) = wr.map some) (hB : isB.map (fun i => (wr ++ Wc)[i]?) = w'.map some) (hnd : (va_nd isR && (va_nd isB && isR.all (fun i => decide (i ∉ isC)))) = true) (hnc : va_nd isC = true)
    (hn : As.length = n) (hst : st0 = As.reverse ++ rest) (hcat : (rest.map fun v => v.category).sum ≤ 8) (hcs : cells ≤ R.cells ∧ slots ≤ R.slots) (hdg : decode cc pc = .ok (.invokestatic idx, 3))
    (kk : ∀ (H1 : Heap) (locs1 : List Loc), HP G A w' s H1 locs1 → W p l e R s m args below meth c H1 locs1 cells slots Q (F0 m (pc + 3) ls (Rc.toList ++ rest))) : W p l e R s m args below meth c H locs cells slots Q (F0 m pc ls st0) :=
  call_any fx hh isC isR isB hC hR hB hnd (va_runS (g := F0 m pc ls st0) ⟨fx.hx, fx.hb, fx.hml, fx.hown, fx.hts⟩ (hM H.size) ⟨callB_T fx hy.1 hl hrm, fx.hts _ hy.2⟩ ⟨PRE.blind, fun U hU hW => ⟨rfl, PRE.pre fx hh isC hnc hC U hU hW⟩⟩ rfl hn hsz hst (lv_room hcat) hdg hcs) kk
theorem cl_SN (fx : FX G own cc nL ret p s m args meth c A) (hh : HP G A w s H locs) (hsz : ls.size = nL) {y : MethodName} {b : ByteArray} {nLy n idx : Nat} {rety : Option FieldType} {rm : Room} {As : List Value} {wc Wc wr : va_W} {Rc : Option Value} {host : String}
    (hM : MF l G y b nLy rety rm As wc Rc Wc) (hy : YS y b nLy rety n) (hl : Cond.methodLinkNest own idx y host ∈ nestL) (hrm : rm.cells = 0 ∧ rm.slots = 0 ∧ rm.frames + 1 ≤ R.frames ∧ 8 + (nLy + 11) + rm.locals ≤ R.locals)
    (isC isR isB : List Nat) (hC : isC.map (fun i => w[i]?) = wc.map some) (hR : isR.map (fun i => w[i]?) = wr.map some) (hB : isB.map (fun i => (wr ++ Wc)[i]?) = w'.map some) (hnd : (va_nd isR && (va_nd isB && isR.all (fun i => decide (i ∉ isC)))) = true) (hnc : va_nd isC = true)
    (hn : As.length = n) (hst : st0 = As.reverse ++ rest) (hcat : (rest.map fun v => v.category).sum ≤ 8) (hcs : cells ≤ R.cells ∧ slots ≤ R.slots) (hdg : decode cc pc = .ok (.invokestatic idx, 3))
    (kk : ∀ (H1 : Heap) (locs1 : List Loc), HP G A w' s H1 locs1 → W p l e R s m args below meth c H1 locs1 cells slots Q (F0 m (pc + 3) ls (Rc.toList ++ rest))) : W p l e R s m args below meth c H locs cells slots Q (F0 m pc ls st0) :=
  call_any fx hh isC isR isB hC hR hB hnd (va_runSN (g := F0 m pc ls st0) ⟨fx.hx, fx.hb, fx.hml, fx.hown, fx.hts⟩ (hM H.size) ⟨callN_T fx hy.1 hl hrm, fx.hts _ hy.2, trivial⟩ ⟨PRE.blind, fun U hU hW => ⟨rfl, PRE.pre fx hh isC hnc hC U hU hW⟩⟩ rfl hn hsz hst (lv_room hcat) hdg hcs) kk
theorem cl_VJ (fx : FX G own cc nL ret p s m args meth c A) (hh : HP G A w s H locs) (hsz : ls.size = nL) {y : MethodName} {b : ByteArray} {nLy n idx : Nat} {rety : Option FieldType} {rm : Room} {As : List Value} {wc wr : va_W} {T : Type} {Wc w2 : T → va_W} {Rc : Option Value}
    (hM : MFJ l G y b nLy rety rm (.ref a :: As) wc Rc Wc) (hy : YV y b nLy rety n) (hl : Cond.methodLink own idx y ∈ TT) (hrm : rm.cells = 0 ∧ rm.slots = 0 ∧ rm.frames + 1 ≤ R.frames ∧ 8 + (nLy + 11) + rm.locals ≤ R.locals) (q0 ci : Nat) {fs : List Value} {r : vw_C} (he : w[q0]? = some (a, .inr (ci, fs))) (hc : vwCl[ci]? = some r) (hrc : r.1 = y.cls)
    (isC isR isB : List Nat) (hC : isC.map (fun i => w[i]?) = wc.map some) (hR : isR.map (fun i => w[i]?) = wr.map some) (hB : ∀ j : T, isB.map (fun i => (wr ++ Wc j)[i]?) = (w2 j).map some) (hnd : (va_nd isR && (va_nd isB && isR.all (fun i => decide (i ∉ isC)))) = true) (hnc : va_nd isC = true)
    (hn : As.length = n) (hst : st0 = As.reverse ++ .ref a :: rest) (hcat : (rest.map fun v => v.category).sum ≤ 8) (hcs : cells ≤ R.cells ∧ slots ≤ R.slots) (hdg : decode cc pc = .ok (.invokevirtual idx, 3))
    (kk : ∀ (j : T) (H1 : Heap) (locs1 : List Loc), HP G A (w2 j) s H1 locs1 → W p l e R s m args below meth c H1 locs1 cells slots Q (F0 m (pc + 3) ls (Rc.toList ++ rest))) : W p l e R s m args below meth c H locs cells slots Q (F0 m pc ls st0) := by
  have hrv : ∃ cellB : Cell, H[a]? = some cellB ∧ cellB.vm.isStatics = false ∧ s.vm.findClass y.cls = some cellB.cls := hrc ▸ va_recv fx.hK hh.1 hc he
  exact call_anyJ fx hh isC isR isB hC hR hB hnd (va_runV (C := y.cls) (g := F0 m pc ls st0) ⟨fx.hx, fx.hb, fx.hml, fx.hown, fx.hts⟩ (hM H.size) ⟨callB_T fx hy.1 hl hrm, fx.hts _ hy.2.1, fx.hts _ hy.2.2⟩ ⟨PRE.blind, hrv, fun U hU hW => ⟨rfl, PRE.pre fx hh isC hnc hC U hU hW⟩⟩ rfl hn hsz hst (lv_room hcat) hdg hcs) kk
/-- the ends -/
theorem HP.post (hh : HP G A w s H locs) {args' : Array Value} {R0 : Option Value} : ∀ t : State, t.heap = H → s.WarmedH t.vm → QF R0 (POST G A w) A args' s (.returned R0) t := fun t ht _ => ⟨⟨rfl, by rw [POST, ht]; exact ⟨hh.1, hh.2.1⟩⟩, hh.2.2.F ht⟩
theorem r_iret (fx : FX G own cc nL (some .int) p s m args meth c A) (hh : HP G A w s H locs) {v : Int32} (hdg : decode cc pc = .ok (.ireturn, 1)) : W p l e R s m args below meth c H locs 0 0 (ZZ G A (some (.int v)) w below args s) (F0 m pc ls [.int v]) :=
  W.iret fx.hx fx.hb fx.hr hh.post hh.2.2.2.2 hdg fx.hlocks
theorem r_zret (fx : FX G own cc nL (some .boolean) p s m args meth c A) (hh : HP G A w s H locs) {v : Int32} (hn : narrow .boolean (.int v) = .int v) (hdg : decode cc pc = .ok (.ireturn, 1)) : W p l e R s m args below meth c H locs 0 0 (ZZ G A (some (.int v)) w below args s) (F0 m pc ls [.int v]) :=
  W.zret fx.hx fx.hb fx.hr hn hh.post hh.2.2.2.2 hdg fx.hlocks
theorem r_lret (fx : FX G own cc nL (some .long) p s m args meth c A) (hh : HP G A w s H locs) {v : Int64} (hdg : decode cc pc = .ok (.lreturn, 1)) : W p l e R s m args below meth c H locs 0 0 (ZZ G A (some (.long v)) w below args s) (F0 m pc ls [.long v]) :=
  W.lret fx.hx fx.hb fx.hr hh.post hh.2.2.2.2 hdg fx.hlocks
theorem r_vret (fx : FX G own cc nL none p s m args meth c A) (hh : HP G A w s H locs) (hdg : decode cc pc = .ok (.return_, 1)) : W p l e R s m args below meth c H locs 0 0 (ZZ G A none w below args s) (F0 m pc ls []) :=
  W.vret fx.hx fx.hb fx.hr hh.post hh.2.2.2.2 hdg fx.hlocks
theorem r_aret {C : String} (fx : FX G own cc nL (some (.object C)) p s m args meth c A) (hh : HP G A w s H locs) {v : Value} (hv : v = .null ∨ ∃ a, v = .ref a) (hdg : decode cc pc = .ok (.areturn, 1)) : W p l e R s m args below meth c H locs 0 0 (ZZ G A (some v) w below args s) (F0 m pc ls [v]) :=
  W.aret fx.hx fx.hb fx.hr (Or.inl ⟨C, rfl⟩) hv hh.post hh.2.2.2.2 hdg fx.hlocks
theorem HP.postJ {T : Type} {W1 : T → va_W} (j : T) (hh : HP G A (W1 j) s H locs) {args' : Array Value} {R0 : Option Value} : ∀ t : State, t.heap = H → s.WarmedH t.vm → QF R0 (fun t => ∃ j : T, POST G A (W1 j) t) A args' s (.returned R0) t := fun t ht _ => ⟨⟨rfl, j, by rw [POST, ht]; exact ⟨hh.1, hh.2.1⟩⟩, hh.2.2.F ht⟩
theorem r_iretJ {T : Type} {W1 : T → va_W} (j : T) (fx : FX G own cc nL (some .int) p s m args meth c A) (hh : HP G A (W1 j) s H locs) {v : Int32} (hdg : decode cc pc = .ok (.ireturn, 1)) : W p l e R s m args below meth c H locs 0 0 (ZJ G A (some (.int v)) W1 below args s) (F0 m pc ls [.int v]) :=
  W.iret fx.hx fx.hb fx.hr (HP.postJ j hh) hh.2.2.2.2 hdg fx.hlocks
theorem r_zretJ {T : Type} {W1 : T → va_W} (j : T) (fx : FX G own cc nL (some .boolean) p s m args meth c A) (hh : HP G A (W1 j) s H locs) {v : Int32} (hn : narrow .boolean (.int v) = .int v) (hdg : decode cc pc = .ok (.ireturn, 1)) : W p l e R s m args below meth c H locs 0 0 (ZJ G A (some (.int v)) W1 below args s) (F0 m pc ls [.int v]) :=
  W.zret fx.hx fx.hb fx.hr hn (HP.postJ j hh) hh.2.2.2.2 hdg fx.hlocks
theorem r_lretJ {T : Type} {W1 : T → va_W} (j : T) (fx : FX G own cc nL (some .long) p s m args meth c A) (hh : HP G A (W1 j) s H locs) {v : Int64} (hdg : decode cc pc = .ok (.lreturn, 1)) : W p l e R s m args below meth c H locs 0 0 (ZJ G A (some (.long v)) W1 below args s) (F0 m pc ls [.long v]) :=
  W.lret fx.hx fx.hb fx.hr (HP.postJ j hh) hh.2.2.2.2 hdg fx.hlocks
theorem r_vretJ {T : Type} {W1 : T → va_W} (j : T) (fx : FX G own cc nL none p s m args meth c A) (hh : HP G A (W1 j) s H locs) (hdg : decode cc pc = .ok (.return_, 1)) : W p l e R s m args below meth c H locs 0 0 (ZJ G A none W1 below args s) (F0 m pc ls []) :=
  W.vret fx.hx fx.hb fx.hr (HP.postJ j hh) hh.2.2.2.2 hdg fx.hlocks
end BASE
