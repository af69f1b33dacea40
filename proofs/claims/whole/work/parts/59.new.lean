/-! constructors: contracts under which cells come; whole-world calls -/
def MN (l : Launch) (G : GT) (y : MethodName) (b : ByteArray) (nL : Nat) (rm : Room) (av : List Value) (w : va_W) (E : State → Prop) {T : Type} (W1 : T → va_W) : Prop :=
  ∀ sz : Nat, Met l y (wsY y b nL none) rm (va_Pc av (fun U => PRE G w sz U ∧ E U)) (QF none (fun t => ∃ j : T, POST G (va_A w sz) (W1 j) t) (va_A w sz)) rm.cells rm.slots (va_A w sz)
theorem MN.of {l : Launch} {G : GT} {y : MethodName} {b : ByteArray} {nL : Nat} {rm : Room} {av : List Value} {w : va_W} {E : State → Prop} {T : Type} {W1 : T → va_W} (hy : plainName y.cls = true) (hlen : (lg_sl av).length ≤ nL)
    (h : ∀ (p : Program) (e : Env) (s : State) (m : MethodId) (args : Array Value) (below : List Frame) (meth : Method) (c : Code) (A : Nat → Prop) (ls : Array Slot), FX G y.cls b nL none p s m args meth c A → E s → HP G A w s s.heap [] → lv_has ls nL (lv_args 0 av) → (y.name = "<init>" → meth.name = "<init>") →
      W p l e rm s m args below meth c s.heap [] 0 0 (MQ below (QF none (fun t => ∃ j : T, POST G A (W1 j) t) A) args s rm.cells rm.slots A) (F0 m 0 ls [])) : MN l G y b nL rm av w E W1 := by
  intro sz
  refine Met.ofW (cc := b) (maxL := nL) (ret := none) hy rfl ?_
  intro p e s m args below meth c s₁ B hml hv
  obtain ⟨rfl, ⟨hsz, hP, hK, hD0, hN⟩, hE⟩ := hv
  have hts := atoms_spec (ws := wsY y b nL none) B.pre
  subst hsz
  have hA : ∀ q : Nat, s.heap.size ≤ q → va_A w s.heap.size q := fun q h => Or.inr h
  have hl := lv_entry av (n := nL) hlen
  rw [lg_entry_eq]
  exact h p e s m av.toArray below meth c (va_A w s.heap.size) _ ⟨B.exec, B.bytes, B.returns, fun w hw => hts w (List.mem_cons_of_mem _ hw), findClass_of_methodNamed B.named, B.notSynchronized, hml, hK, hN, hA⟩ hE ⟨hP, hD0.self, va_S.rf⟩ hl (fun e => e ▸ (name_of_methodNamed B.named B.method).1)
theorem tAI2 : Cond.arrayClass .int ∈ TT := t1 44 (by decide +kernel) (by decide +kernel)
theorem tAZ2 : Cond.arrayClass .boolean ∈ TT := t1 88 (by decide +kernel) (by decide +kernel)
section NEW
variable {p : Program} {l : Launch} {e : Env} {R : Room} {s : State} {m : MethodId} {args : Array Value} {below : List Frame} {meth : Method} {c : Code} {H : Heap} {locs : List Loc} {cells slots : Nat} {Q : State → Prop}
variable {G : GT} {own : String} {cc : ByteArray} {nL : Nat} {ret : Option FieldType} {A : Nat → Prop} {w w' : va_W} {pc : Nat} {ls : Array Slot} {rest st0 : List Value} {a : Nat}
theorem r_objInit (fx : FX G own cc nL ret p s m args meth c A) (hsz : ls.size = nL) {idx : Nat} (hl : Cond.methodLink own idx objectInit ∈ TT) (hdg : decode cc pc = .ok (.invokespecial idx, 3)) (hframes : 1 ≤ R.frames) (hlocals : 2 * (F0 m pc ls (.ref a :: rest)).monitorRoom + (rest.map fun v => v.category).sum + 12 ≤ R.locals)
    (kk : W p l e R s m args below meth c H locs cells slots Q (F0 m (pc + 3) ls rest)) : W p l e R s m args below meth c H locs cells slots Q (F0 m pc ls (.ref a :: rest)) :=
  W.objInit fx.hx fx.hb fx.hown (fx.hts _ hl) (fx.hts _ tobj) (fx.hts _ tobjc) rfl (by rw [fx.hml]; exact hsz) rfl hdg hframes hlocals kk
theorem r_newaI (fx : FX G own cc nL ret p s m args meth c A) (hh : HP G A w s H locs) {n : Int32} {N : Nat} (hn : ¬ n < 0) (hN : n.toNatClampNeg = N) (hbytes : N * 4 ≤ 536870912) (hcells : cells + 1 ≤ R.cells) (hslots : slots + N ≤ R.slots) (hdg : decode cc pc = .ok (.newarray .int, 2))
    (kk : ∀ (q : Nat) (H1 : Heap), HP G A (w ++ [(q, .inl (G.2.1, N, .inl (fun _ => 0)))]) s H1 locs → W p l e R s m args below meth c H1 locs (cells + 1) (slots + N) Q (F0 m (pc + 2) ls (.ref q :: rest))) : W p l e R s m args below meth c H locs cells slots Q (F0 m pc ls (.int n :: rest)) := by
  refine va_newa (atype := .int) (ty := .int) (a0 := (N, .inl (fun _ => 0))) fx.hx fx.hb (fx.hts _ tAI2) rfl fx.hK hh.1 hh.2.1 hh.2.2 fx.hA (fun _ => rfl) hn hN hbytes hcells hslots hdg (fun q cA H1 k1 k2 k3 k4 => ?_)
  have e : cA = G.2.1 := by
    have h1 : s.vm.findClass ("[" ++ FieldType.int.toString) = some cA := (k1.2 3 _ rfl).2
    have h2 : s.vm.findClass ("[" ++ FieldType.int.toString) = some G.2.1 := (fx.hK.2 0 _ rfl).2
    exact Option.some.inj (h1.symm.trans h2)
  subst e
  exact kk q H1 ⟨k2, k3, k4⟩
theorem r_newaZ (fx : FX G own cc nL ret p s m args meth c A) (hh : HP G A w s H locs) {n : Int32} {N : Nat} (hn : ¬ n < 0) (hN : n.toNatClampNeg = N) (hbytes : N * 1 ≤ 536870912) (hcells : cells + 1 ≤ R.cells) (hslots : slots + N ≤ R.slots) (hdg : decode cc pc = .ok (.newarray .boolean, 2))
    (kk : ∀ (q : Nat) (H1 : Heap), HP G A (w ++ [(q, .inl (G.2.2.1, N, .inl (fun _ => 0)))]) s H1 locs → W p l e R s m args below meth c H1 locs (cells + 1) (slots + N) Q (F0 m (pc + 2) ls (.ref q :: rest))) : W p l e R s m args below meth c H locs cells slots Q (F0 m pc ls (.int n :: rest)) := by
  refine va_newa (atype := .boolean) (ty := .boolean) (a0 := (N, .inl (fun _ => 0))) fx.hx fx.hb (fx.hts _ tAZ2) rfl fx.hK hh.1 hh.2.1 hh.2.2 fx.hA (fun _ => rfl) hn hN hbytes hcells hslots hdg (fun q cA H1 k1 k2 k3 k4 => ?_)
  have e : cA = G.2.2.1 := by
    have h1 : s.vm.findClass ("[" ++ FieldType.boolean.toString) = some cA := (k1.2 3 _ rfl).2
    have h2 : s.vm.findClass ("[" ++ FieldType.boolean.toString) = some G.2.2.1 := (fx.hK.2 1 _ rfl).2
    exact Option.some.inj (h1.symm.trans h2)
  subst e
  exact kk q H1 ⟨k2, k3, k4⟩
theorem r_newq (fx : FX G own cc nL ret p s m args meth c A) (hh : HP G A w s H locs) (hover : va_AO "SkateBonds$Sheet" s) {index : Nat} (hcl : Cond.classLink own index "SkateBonds$Sheet" ∈ TT) {n : Int32} {N : Nat} (hn : ¬ n < 0) (hN : n.toNatClampNeg = N) (hbytes : N * 4 ≤ 536870912) (hcells : cells + 1 ≤ R.cells) (hslots : slots + N ≤ R.slots) (hdg : decode cc pc = .ok (.anewarray index, 3))
    (kk : ∀ (q : Nat) (H1 : Heap), HP G A (w ++ [(q, .inl (G.2.2.2, N, .inr (.inr (.inr (.inr (fun _ => none))))))]) s H1 locs → W p l e R s m args below meth c H1 locs (cells + 1) (slots + N) Q (F0 m (pc + 3) ls (.ref q :: rest))) : W p l e R s m args below meth c H locs cells slots Q (F0 m pc ls (.int n :: rest)) := by
  refine va_newq fx.hx fx.hb fx.hown (fx.hts _ hcl) hover fx.hK hh.1 hh.2.1 hh.2.2 fx.hA hn hN hbytes hcells hslots hdg (fun q cA H1 k1 k2 k3 k4 => ?_)
  have e : cA = G.2.2.2 := by
    obtain ⟨-, -, -, -, -, h1⟩ := (k1.2 3 (cA, .object "SkateBonds$Sheet") rfl).2
    obtain ⟨-, -, -, -, -, h2⟩ := (fx.hK.2 2 (G.2.2.2, .object "SkateBonds$Sheet") rfl).2
    exact Option.some.inj (h1.symm.trans h2)
  subst e
  exact kk q H1 ⟨k2, k3, k4⟩
theorem r_new (fx : FX G own cc nL ret p s m args meth c A) (hh : HP G A w s H locs) {C : String} {T : u_T} {N ci index : Nat} (hin : ∀ w ∈ u_ws C T N, w ∈ TT) (ty0 : Nat → FieldType) (hty : ∀ k, k < N → parseFieldDescriptor (T k).2.2.1 = some (ty0 k)) (hcl : Cond.classLink own index C ∈ TT) (hinst : Cond.instantiable C N ∈ TT) (hini : Cond.initialized C ∈ TT) (hc : vwCl[ci]? = some (C, T, N)) {fs : List Value} (hfs : ∀ j, j < N → defaultValue (ty0 j) = vp_V fs j) (hcells : cells + 1 ≤ R.cells) (hslots : slots + N ≤ R.slots) (hdg : decode cc pc = .ok (.new index, 3))
    (kk : ∀ (q : Nat) (H1 : Heap), HP G A (w ++ [(q, .inr (ci, fs))]) s H1 locs → W p l e R s m args below meth c H1 locs (cells + 1) (slots + N) Q (F0 m (pc + 3) ls (.ref q :: rest))) : W p l e R s m args below meth c H locs cells slots Q (F0 m pc ls rest) :=
  va_new fx.hx fx.hb fx.hts hin ty0 hty fx.hown (fx.hts _ hcl) (fx.hts _ hinst) (fx.hts _ hini) fx.hK hh.1 hh.2.1 hh.2.2 fx.hA hc hfs hcells hslots hdg (fun q H1 k2 k3 k4 => kk q H1 ⟨k2, k3, k4⟩)
theorem r_aast (fx : FX G own cc nL ret p s m args meth c A) (hh : HP G A w s H locs) (q0 qk ci : Nat) {r : vw_C} {n v : Nat} {vs : List Value} {f : Nat → Option Nat} (ha : w[q0]? = some (a, .inl (G.2.2.2, n, .inr (.inr (.inr (.inr f)))))) (hr : r.1 = "SkateBonds$Sheet") (hv : w[qk]? = some (v, .inr (ci, vs))) (hc : vwCl[ci]? = some r) {i : Int32} (hin : vp_in i n) (hw : w.set q0 (a, .inl (G.2.2.2, n, .inr (.inr (.inr (.inr (va_up f i.toNatClampNeg (some v))))))) = w') (hdg : decode cc pc = .ok (.aastore, 1))
    (kk : ∀ (H1 : Heap) (locs1 : List Loc), HP G A w' s H1 locs1 → W p l e R s m args below meth c H1 locs1 cells slots Q (F0 m (pc + 1) ls rest)) : W p l e R s m args below meth c H locs cells slots Q (F0 m pc ls (.ref v :: .int i :: .ref a :: rest)) :=
  va_astq fx.hx fx.hb fx.hK hh.1 hh.2.1 hh.2.2 q0 2 qk ci ha (by rw [hr]; rfl) hv hc hin hdg (fun H1 locs1 p1 p2 p3 => kk H1 locs1 ⟨hw ▸ p1, hw ▸ p2, p3⟩)
theorem call_anyN {wc wr : va_W} {T : Type} {Wc w2 : T → va_W} {Rc : Option Value} {av : Array Value} {mc ms : Nat} (fx : FX G own cc nL ret p s m args meth c A) (hh : HP G A w s H locs) (isC isR isB : List Nat) (hC : isC.map (fun i => w[i]?) = wc.map some) (hR : isR.map (fun i => w[i]?) = wr.map some) (hB : ∀ j : T, isB.map (fun i => (wr ++ Wc j)[i]?) = (w2 j).map some) (hnd : (va_nd isR && (va_nd isB && isR.all (fun i => decide (i ∉ isC)))) = true)
    (hr : va_Run p l e R s m args below meth c H locs cells slots mc ms (F0 m pc ls st0) rest (QF Rc (fun t => ∃ j : T, POST G (va_A wc H.size) (Wc j) t) (va_A wc H.size) av) (va_A wc H.size))
    (kk : ∀ (j : T) (H1 : Heap) (locs1 : List Loc), HP G A (w2 j) s H1 locs1 → W p l e R s m args below meth c H1 locs1 (cells + mc) (slots + ms) Q (F0 m (pc + 3) ls (Rc.toList ++ rest))) : W p l e R s m args below meth c H locs cells slots Q (F0 m pc ls st0) := by
  have hF := va_free (wc := wc) hh.2.1 hh.2.2 fx.hA isC hC
  simp only [Bool.and_eq_true, List.all_eq_true, decide_eq_true_eq] at hnd
  intro T hT X
  obtain ⟨v, st₀, t, T', L, h0, X', hL, e1, e2, ⟨⟨hv, j, hb⟩, hz, hk⟩, st⟩ := hr T hT X
  cases hv
  rw [h0] at hz hk
  obtain ⟨hP2, hD2⟩ := va_join hh.1 hh.2.1 isC isR hC hR hnd.1 hnd.2.2 hk hF hb.1 hb.2
  have hS2 : va_S A s.heap t.heap (locs ++ L) := ⟨Nat.le_trans hh.2.2.1 hz, fun q h1 h2 => by rw [hk q (Nat.lt_of_lt_of_le h1 hh.2.2.1) (fun z => h2 (hF q z))]; exact hh.2.2.2.1 q h1 h2, fun q hq => by
      rcases List.mem_append.mp hq with h | h
      · exact hh.2.2.2.2 q h
      · exact hF _ (hL q h)⟩
  have hh2 : HP G A (wr ++ Wc j) s t.heap (locs ++ L) := ⟨hP2, hD2, hS2⟩
  obtain ⟨t2, a1, b1⟩ := kk j t.heap (locs ++ L) (hh2.perm isB hnd.2.1 (hB j)) T' e1 X'
  exact ⟨t2, st t2 a1, b1⟩
/-- a nest mate's constructor -/
theorem cl_IN (fx : FX G own cc nL ret p s m args meth c A) (hh : HP G A w s H locs) (hsz : ls.size = nL) {y : MethodName} {b : ByteArray} {nLy idx : Nat} {rm : Room} {wc wr : va_W} {T : Type} {Wc w2 : T → va_W} {host : String}
    (hM : MN l G y b nLy rm [.ref a] wc (fun _ => True) Wc) (hy : YB y b nLy none 0) (hy1 : y.name = "<init>") (hyi : Cond.instanceMethod y ∈ TT) (hl : Cond.methodLinkNest own idx y host ∈ nestL) (hrm : rm.frames + 1 ≤ R.frames ∧ 8 + (nLy + 11) + rm.locals ≤ R.locals)
    (isC isR isB : List Nat) (hC : isC.map (fun i => w[i]?) = wc.map some) (hR : isR.map (fun i => w[i]?) = wr.map some) (hB : ∀ j : T, isB.map (fun i => (wr ++ Wc j)[i]?) = (w2 j).map some) (hnd : (va_nd isR && (va_nd isB && isR.all (fun i => decide (i ∉ isC)))) = true) (hnc : va_nd isC = true)
    (hst : st0 = .ref a :: rest) (hcat : (rest.map fun v => v.category).sum ≤ 8) (hcs : cells + rm.cells ≤ R.cells ∧ slots + rm.slots ≤ R.slots) (hdg : decode cc pc = .ok (.invokespecial idx, 3))
    (kk : ∀ (j : T) (H1 : Heap) (locs1 : List Loc), HP G A (w2 j) s H1 locs1 → W p l e R s m args below meth c H1 locs1 (cells + rm.cells) (slots + rm.slots) Q (F0 m (pc + 3) ls rest)) : W p l e R s m args below meth c H locs cells slots Q (F0 m pc ls st0) := by
  have cw : va_CN R s args own idx y host b nLy none (wsY y b nLy none) rm rm.cells rm.slots 0 := by
    refine ⟨⟨rfl, rfl, hrm.1, hrm.2, fun w hw a' U hW => ?_, List.mem_cons_self⟩, fx.hts _ hy.1, fx.hts _ hy.2.1, hy.2.2.1, hy.len, va_Nw.use rfl (fx.hN _ hl)⟩
    rcases List.mem_cons.mp hw with h | h
    · rw [h]; exact fx.pay _ hy.1 a' U hW
    · exact fx.pay w h a' U hW
  exact call_anyN fx hh isC isR isB hC hR hB hnd (va_runIN (As := []) (g := F0 m pc ls st0) ⟨fx.hx, fx.hb, fx.hml, fx.hown, fx.hts⟩ (hM H.size) ⟨cw, hy1, fx.hts _ hyi⟩ ⟨fun a U g mk q => ⟨q.1, (PRE.blind a U g mk ⟨q.1, q.2.1⟩).2, trivial⟩, fun U hU hW => ⟨rfl, PRE.pre fx hh isC hnc hC U hU hW, trivial⟩⟩ rfl rfl hsz hst (lv_room hcat) hdg hcs) kk
/-- a constructor -/
theorem cl_I (fx : FX G own cc nL ret p s m args meth c A) (hh : HP G A w s H locs) (hsz : ls.size = nL) {y : MethodName} {b : ByteArray} {nLy idx : Nat} {rm : Room} {wc wr : va_W} {T : Type} {Wc w2 : T → va_W} {E : State → Prop} (hEb : ∀ (U : State) (g : JFrame) (mk : MethodId) (a : Array Value), E U → E (U.calling g mk a)) (hEw : ∀ U : State, s.WarmedH U.vm → E U)
    (hM : MN l G y b nLy rm [.ref a] wc E Wc) (hy : YB y b nLy none 0) (hy1 : y.name = "<init>") (hyi : Cond.instanceMethod y ∈ TT) (hl : Cond.methodLink own idx y ∈ TT) (hrm : rm.frames + 1 ≤ R.frames ∧ 8 + (nLy + 11) + rm.locals ≤ R.locals)
    (isC isR isB : List Nat) (hC : isC.map (fun i => w[i]?) = wc.map some) (hR : isR.map (fun i => w[i]?) = wr.map some) (hB : ∀ j : T, isB.map (fun i => (wr ++ Wc j)[i]?) = (w2 j).map some) (hnd : (va_nd isR && (va_nd isB && isR.all (fun i => decide (i ∉ isC)))) = true) (hnc : va_nd isC = true)
    (hst : st0 = .ref a :: rest) (hcat : (rest.map fun v => v.category).sum ≤ 8) (hcs : cells + rm.cells ≤ R.cells ∧ slots + rm.slots ≤ R.slots) (hdg : decode cc pc = .ok (.invokespecial idx, 3))
    (kk : ∀ (j : T) (H1 : Heap) (locs1 : List Loc), HP G A (w2 j) s H1 locs1 → W p l e R s m args below meth c H1 locs1 (cells + rm.cells) (slots + rm.slots) Q (F0 m (pc + 3) ls rest)) : W p l e R s m args below meth c H locs cells slots Q (F0 m pc ls st0) := by
  have cw : CallB R s args own idx y b nLy none (wsY y b nLy none) rm rm.cells rm.slots 0 := by
    refine ⟨rfl, rfl, hrm.1, hrm.2, fun w hw a' U hW => ?_, List.mem_cons_self, fx.hts _ hy.1, fx.hts _ hy.2.1, hy.2.2.1, hy.len, fx.hts _ hl⟩
    rcases List.mem_cons.mp hw with h | h
    · rw [h]; exact fx.pay _ hy.1 a' U hW
    · exact fx.pay w h a' U hW
  exact call_anyN fx hh isC isR isB hC hR hB hnd (va_runI (As := []) (g := F0 m pc ls st0) ⟨fx.hx, fx.hb, fx.hml, fx.hown, fx.hts⟩ (hM H.size) ⟨cw, hy1, fx.hts _ hyi⟩ ⟨fun a U g mk q => ⟨q.1, (PRE.blind a U g mk ⟨q.1, q.2.1⟩).2, hEb U g mk a q.2.2⟩, fun U hU hW => ⟨rfl, PRE.pre fx hh isC hnc hC U hU hW, hEw U hW⟩⟩ rfl rfl hsz hst (lv_room hcat) hdg hcs) kk
theorem r_vretN {T : Type} {W1 : T → va_W} (j : T) (fx : FX G own cc nL none p s m args meth c A) (hh : HP G A (W1 j) s H locs) (hdg : decode cc pc = .ok (.return_, 1)) : W p l e R s m args below meth c H locs cells slots (MQ below (QF none (fun t => ∃ j : T, POST G A (W1 j) t) A) args s cells slots A) (F0 m pc ls []) :=
  W.vret fx.hx fx.hb fx.hr (HP.postJ j hh) hh.2.2.2.2 hdg fx.hlocks
/-- a call over the whole world -/
theorem range_nd (n : Nat) : (List.range n).Nodup := List.nodup_range
theorem cl_W (fx : FX G own cc nL ret p s m args meth c A) (hh : HP G A w s H locs) (hsz : ls.size = nL) {y : MethodName} {b : ByteArray} {nLy n idx : Nat} {rety : Option FieldType} {rm : Room} {As : List Value} {Rc : Option Value} {P : va_W → Prop}
    (hM : ME l G y b nLy rety rm (.ref a :: As) w Rc P) (hy : YV y b nLy rety n) (hl : Cond.methodLink own idx y ∈ TT) (hrm : rm.cells = 0 ∧ rm.slots = 0 ∧ rm.frames + 1 ≤ R.frames ∧ 8 + (nLy + 11) + rm.locals ≤ R.locals) (q0 ci : Nat) {fs : List Value} {r : vw_C} (he : w[q0]? = some (a, .inr (ci, fs))) (hc : vwCl[ci]? = some r) (hrc : r.1 = y.cls)
    (hn : As.length = n) (hst : st0 = As.reverse ++ .ref a :: rest) (hcat : (rest.map fun v => v.category).sum ≤ 8) (hcs : cells ≤ R.cells ∧ slots ≤ R.slots) (hdg : decode cc pc = .ok (.invokevirtual idx, 3))
    (kk : ∀ (w1 : va_W) (H1 : Heap) (locs1 : List Loc), P w1 → HP G A w1 s H1 locs1 → W p l e R s m args below meth c H1 locs1 cells slots Q (F0 m (pc + 3) ls (Rc.toList ++ rest))) : W p l e R s m args below meth c H locs cells slots Q (F0 m pc ls st0) := by
  have hrv : ∃ cellB : Cell, H[a]? = some cellB ∧ cellB.vm.isStatics = false ∧ s.vm.findClass y.cls = some cellB.cls := hrc ▸ va_recv fx.hK hh.1 hc he
  have hpre : ∀ U : State, U.heap = H → s.WarmedH U.vm → PRE G w H.size U := fun U hU hW => ⟨by rw [hU], by rw [hU]; exact hh.1, va_K.moved hW.alike fx.hK, hh.2.1.weaken (fun _ _ _ _ => trivial), fx.hN.warm hW⟩
  have hr := va_runV (p := p) (l := l) (e := e) (below := below) (meth := meth) (locs := locs) (C := y.cls) (g := F0 m pc ls st0) ⟨fx.hx, fx.hb, fx.hml, fx.hown, fx.hts⟩ (hM H.size) ⟨callB_T fx hy.1 hl hrm, fx.hts _ hy.2.1, fx.hts _ hy.2.2⟩ ⟨PRE.blind, hrv, fun U hU hW => ⟨rfl, hpre U hU hW⟩⟩ rfl hn hsz hst (lv_room hcat) hdg hcs
  have hF := va_free (wc := w) hh.2.1 hh.2.2 fx.hA (List.range w.length) (range_get w)
  intro T hT X
  obtain ⟨v, st₀, t, T', L, h0, X', hL, e1, e2, ⟨⟨hv, j, hb⟩, hz, hk⟩, st⟩ := hr T hT X
  cases hv
  rw [h0] at hz hk
  have hS2 : va_S A s.heap t.heap (locs ++ L) := ⟨Nat.le_trans hh.2.2.1 hz, fun q h1 h2 => by rw [hk q (Nat.lt_of_lt_of_le h1 hh.2.2.1) (fun z => h2 (hF q z))]; exact hh.2.2.2.1 q h1 h2, fun q hq => by
      rcases List.mem_append.mp hq with h | h
      · exact hh.2.2.2.2 q h
      · exact hF _ (hL q h)⟩
  have hh2 : HP G A j.1 s t.heap (locs ++ L) := ⟨hb.1, ⟨hb.2.1, fun k q hq => hF _ (hb.2.2 k q hq)⟩, hS2⟩
  obtain ⟨t2, a1, b1⟩ := kk j.1 t.heap (locs ++ L) j.2 hh2 T' e1 X'
  exact ⟨t2, st t2 a1, b1⟩
end NEW
