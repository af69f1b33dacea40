/-! strokes of a bond; bonds of two, whatever breaks -/
section ST
variable {a b to : Nat} {br th : Int32} {str kd wt : Nat → Int32} {A B : Int32} {b0 b1 : Nat → Bool} {bf bs : Int32} {L0 : Nat → Int32}
theorem strokeBy_if (hi wi br th : Int32) (str kd wt L : Nat → Int32) (A B ce turn : Int32) : q_strokeBy hi wi br th str kd wt L A B ce turn = if q_stIs hi wi br th str kd wt L A B ce turn (nI 0) then nI 0 else if q_stIs hi wi br th str kd wt L A B ce turn (nI 1) then nI 1 else if q_stIs hi wi br th str kd wt L A B ce turn (nI 2) then nI 2 else if q_stIs hi wi br th str kd wt L A B ce turn (nI 3) then nI 3 else -9 := by
  unfold q_strokeBy
  rw [strokeS, strokeS, strokeS, strokeS, stroke0]
  rw [show (3 : Int32) - nI 3 = nI 0 by decide +kernel, show (3 : Int32) - nI 2 = nI 1 by decide +kernel, show (3 : Int32) - nI 1 = nI 2 by decide +kernel, show (3 : Int32) - nI 0 = nI 3 by decide +kernel]
theorem stIs_iff (h : gOk a b) (hto : to < a * b) (h0 : mBr (a * b) br th str kd wt A b0) (h1 : mBr (a * b) br th str kd wt B b1) (g0 : ∀ k, k < a * b → bt bf k = b0 k) (g1 : ∀ k, k < a * b → bt bs k = b1 k) {t c st : Nat} (ht : t < 2) (hc : c < a * b) (hs : st < 4) :
    q_stIs (nI a) (nI b) br th str kd wt (q_bondL (nI a) (nI b) br th str kd wt L0 A B (nI to)) A B (nI c) (nI t) (nI st) ↔ ∃ d, gLed a b c st = some d ∧ (if t = 0 then b0 else b1) d = true ∧ q_bondL (nI a) (nI b) br th str kd wt L0 A B (nI to) (d + 20 * (1 - t)) = q_bondL (nI a) (nI b) br th str kd wt L0 A B (nI to) (c + 20 * t) - 1 := by
  have hl := h.le
  have e20 : (nI c + 20 * nI t).toNatClampNeg = c + 20 * t := by
    rw [show (20 : Int32) = nI 20 from rfl, nI_mul, nI_add, nI_clamp (by omega)]
  unfold q_stIs
  rw [can_spec h h0 h1 hc ht hs, e20]
  constructor
  · rintro ⟨⟨d, e, e2⟩, e3⟩
    have hd := (gled1 h hc hs e).1
    rw [h.qbes hc hs, e, show oN (some d) = nI d from rfl, nI_turn ht, nI_add, nI_clamp (by omega)] at e3
    exact ⟨d, e, e2, e3⟩
  · rintro ⟨d, e, e2, e3⟩
    have hd := (gled1 h hc hs e).1
    refine ⟨⟨d, e, e2⟩, ?_⟩
    rw [h.qbes hc hs, e, show oN (some d) = nI d from rfl, nI_turn ht, nI_add, nI_clamp (by omega)]
    exact e3
theorem begin_eq (h : gOk a b) (hto : to < a * b) (h0 : mBr (a * b) br th str kd wt A b0) (h1 : mBr (a * b) br th str kd wt B b1) (g0 : ∀ k, k < a * b → bt bf k = b0 k) (g1 : ∀ k, k < a * b → bt bs k = b1 k) {t c : Nat} (ht : t < 2) (hc : c < a * b) :
    s_begin (nI a) (nI b) (fcM b a) (lcM a b) (nI c) (nI to) (if t = 0 then bf else bs) (if t = 0 then bs else bf) = q_strokeBy (nI a) (nI b) br th str kd wt (q_bondL (nI a) (nI b) br th str kd wt L0 A B (nI to)) A B (nI c) (nI t) := by
  have hl := h.le
  have key : ∀ st, st < 4 → (s_isBegin (nI a) (nI b) (fcM b a) (lcM a b) (nI c) (nI to) (if t = 0 then bf else bs) (if t = 0 then bs else bf) (nI st) ↔ q_stIs (nI a) (nI b) br th str kd wt (q_bondL (nI a) (nI b) br th str kd wt L0 A B (nI to)) A B (nI c) (nI t) (nI st)) := fun st hs => by
    rw [stIs_iff h hto h0 h1 g0 g1 ht hc hs]
    unfold s_isBegin
    rw [h.sled hc hs]
    cases e : gLed a b c st with
    | none =>
      constructor
      · intro z; exact absurd rfl z.1
      · rintro ⟨d, z, -⟩; cases z
    | some d =>
      have hd := (gled1 h hc hs e).1
      have hbd : (s_isIn (if t = 0 then bf else bs) (nI d) = 0) = ((if t = 0 then b0 else b1) d = false) := by
        rw [isIn0 _ (by omega)]
        by_cases z : t = 0
        · rw [if_pos z, if_pos z, g0 d hd]
        · rw [if_neg z, if_neg z, g1 d hd]
      have hsw : s_shortest (nI a) (nI b) (fcM b a) (lcM a b) (nI d) (nI to) (if t = 0 then bs else bf) (if t = 0 then bf else bs) = q_bondL (nI a) (nI b) br th str kd wt L0 A B (nI to) (d + 20 * (1 - t)) := by
        rw [bond_eq h hto h0 h1 g0 g1 L0 (t := 1 - t) (by omega) hd]
        rcases (show t = 0 ∨ t = 1 by omega) with rfl | rfl <;> rfl
      rw [show oN (some d) = nI d from rfl, hbd, Bool.not_eq_false, hsw, ← bond_eq h hto h0 h1 g0 g1 L0 ht hc]
      constructor
      · rintro ⟨-, z2, z3⟩
        exact ⟨d, rfl, z2, z3⟩
      · rintro ⟨d', z1, z2, z3⟩
        cases z1
        exact ⟨fun z => absurd z.symm (m9nI (by omega)), z2, z3⟩
  rw [strokeBy_if]
  unfold s_begin
  have k0 := key 0 (by omega)
  have k1 := key 1 (by omega)
  have k2 := key 2 (by omega)
  have k3 := key 3 (by omega)
  have e0 : (nI 0 : Int32) = 0 := by decide +kernel
  have e1 : (nI 1 : Int32) = 1 := by decide +kernel
  have e2 : (nI 2 : Int32) = 2 := by decide +kernel
  have e3 : (nI 3 : Int32) = 3 := by decide +kernel
  rw [e0] at k0
  rw [e1] at k1
  rw [e2] at k2
  rw [e3] at k3
  rw [e0, e1, e2, e3]
  simp only [k0, k1, k2, k3]
theorem stroke_ex {hi wi br th : Int32} {str kd wt L : Nat → Int32} {A B ce turn : Int32} (hx : ∃ st, st < 4 ∧ q_stIs hi wi br th str kd wt L A B ce turn (nI st)) : ∃ st, st < 4 ∧ q_strokeBy hi wi br th str kd wt L A B ce turn = nI st ∧ q_stIs hi wi br th str kd wt L A B ce turn (nI st) := by
  rw [strokeBy_if]
  by_cases z0 : q_stIs hi wi br th str kd wt L A B ce turn (nI 0)
  · rw [if_pos z0]; exact ⟨0, by omega, rfl, z0⟩
  rw [if_neg z0]
  by_cases z1 : q_stIs hi wi br th str kd wt L A B ce turn (nI 1)
  · rw [if_pos z1]; exact ⟨1, by omega, rfl, z1⟩
  rw [if_neg z1]
  by_cases z2 : q_stIs hi wi br th str kd wt L A B ce turn (nI 2)
  · rw [if_pos z2]; exact ⟨2, by omega, rfl, z2⟩
  rw [if_neg z2]
  by_cases z3 : q_stIs hi wi br th str kd wt L A B ce turn (nI 3)
  · rw [if_pos z3]; exact ⟨3, by omega, rfl, z3⟩
  obtain ⟨st, hs, hq⟩ := hx
  rcases (show st = 0 ∨ st = 1 ∨ st = 2 ∨ st = 3 by omega) with rfl | rfl | rfl | rfl
  · exact absurd hq z0
  · exact absurd hq z1
  · exact absurd hq z2
  · exact absurd hq z3
/-- one stroke of a bond: it brings one nearer -/
theorem stroke_step (h : gOk a b) (hto : to < a * b) (h0 : mBr (a * b) br th str kd wt A b0) (h1 : mBr (a * b) br th str kd wt B b1) (g0 : ∀ k, k < a * b → bt bf k = b0 k) (g1 : ∀ k, k < a * b → bt bs k = b1 k) {t c m : Nat} (ht : t < 2) (hc : c < a * b) (hm : m < 19) (e : q_bondL (nI a) (nI b) br th str kd wt L0 A B (nI to) (c + 20 * t) = nI (m + 1)) :
    ∃ st d, st < 4 ∧ q_strokeBy (nI a) (nI b) br th str kd wt (q_bondL (nI a) (nI b) br th str kd wt L0 A B (nI to)) A B (nI c) (nI t) = nI st ∧ gLed a b c st = some d ∧ d < a * b ∧ q_bondL (nI a) (nI b) br th str kd wt L0 A B (nI to) (d + 20 * (1 - t)) = nI m := by
  have hl := h.le
  have hx : ∃ st, st < 4 ∧ q_stIs (nI a) (nI b) br th str kd wt (q_bondL (nI a) (nI b) br th str kd wt L0 A B (nI to)) A B (nI c) (nI t) (nI st) := by
    rcases bond_lst h hto h0 h1 g0 g1 L0 ht hc with ⟨m', p1, p2, p3, p4⟩ | ⟨-, p2⟩
    · rw [p4] at e
      have e5 := (nI_eq (by omega) (by omega)).mp e
      subst e5
      obtain ⟨d, st, q1, q2, q3, q4⟩ := p2
      have hd := (gled1 h hc q1 q2).1
      have q4' : gD a b to b0 b1 (1 - t) d m := by
        unfold gD
        rcases (show t = 0 ∨ t = 1 by omega) with rfl | rfl
        · exact q4
        · exact q4
      refine ⟨st, q1, (stIs_iff h hto h0 h1 g0 g1 ht hc q1).mpr ⟨d, q2, q3, ?_⟩⟩
      rw [p4, nI_pred]
      rcases bond_lst h hto h0 h1 g0 g1 L0 (t := 1 - t) (by omega) hd with ⟨m2, r1, r2, r3, r4⟩ | ⟨r1, -⟩
      · have : m2 = m := by
          rcases Nat.lt_trichotomy m2 m with z | z | z
          · exact absurd (gD_step ht q1 q2 q3 r2) (p3 (m2 + 1) (by omega))
          · exact z
          · exact absurd q4' (r3 m z)
        rw [r4, this]
      · exact absurd q4' (r1 m)
    · rw [p2] at e
      exact absurd e (m9nI (by omega))
  obtain ⟨st, s1, s2, s3⟩ := stroke_ex hx
  obtain ⟨d, d1, d2, d3⟩ := (stIs_iff h hto h0 h1 g0 g1 ht hc s1).mp s3
  rw [e, nI_pred] at d3
  exact ⟨st, d, s1, s2, d1, (gled1 h hc s1 d1).1, d3⟩
theorem walk0 (hi wi br th : Int32) (str kd wt L : Nat → Int32) (A B fro : Int32) : q_walkN hi wi br th str kd wt L A B fro 0 = fro := rfl
theorem walkS (hi wi br th : Int32) (str kd wt L : Nat → Int32) (A B fro : Int32) (x : Nat) : q_walkN hi wi br th str kd wt L A B fro (x + 1) = q_beside hi wi (q_walkN hi wi br th str kd wt L A B fro x) (q_strokeBy hi wi br th str kd wt L A B (q_walkN hi wi br th str kd wt L A B fro x) (nI (x % 2))) := rfl
theorem walk_spec (h : gOk a b) (hto : to < a * b) (h0 : mBr (a * b) br th str kd wt A b0) (h1 : mBr (a * b) br th str kd wt B b1) (g0 : ∀ k, k < a * b → bt bf k = b0 k) (g1 : ∀ k, k < a * b → bt bs k = b1 k) {fro M : Nat} (hf : fro < a * b) (hM : M < 20) (e : q_bondL (nI a) (nI b) br th str kd wt L0 A B (nI to) fro = nI M) :
    ∀ x, x ≤ M → ∃ c, c < a * b ∧ q_walkN (nI a) (nI b) br th str kd wt (q_bondL (nI a) (nI b) br th str kd wt L0 A B (nI to)) A B (nI fro) x = nI c ∧ q_bondL (nI a) (nI b) br th str kd wt L0 A B (nI to) (c + 20 * (x % 2)) = nI (M - x)
  | 0, _ => ⟨fro, hf, rfl, e⟩
  | x + 1, hx => by
    obtain ⟨c, c1, c2, c3⟩ := walk_spec h hto h0 h1 g0 g1 hf hM e x (by omega)
    obtain ⟨st, d, s1, s2, s3, s4, s5⟩ := stroke_step h hto h0 h1 g0 g1 (t := x % 2) (m := M - x - 1) (by omega) c1 (by omega) (by rw [c3]; exact congrArg nI (by omega))
    refine ⟨d, s4, ?_, ?_⟩
    · rw [walkS, c2, s2, h.qbes c1 s1, s3]
      rfl
    · rw [show (x + 1) % 2 = 1 - x % 2 by omega, s5, Nat.sub_sub]
theorem strokeN0 (hi wi fc lc to bf bs : Int32) (t : Nat) (ce st : Int32) : s_strokeN hi wi fc lc to bf bs 0 t ce st = st := by unfold s_strokeN; rfl
theorem strokeNS (hi wi fc lc to bf bs : Int32) (n t : Nat) (ce st : Int32) : s_strokeN hi wi fc lc to bf bs (n + 1) t ce st = if ce = -9 then st else
      s_strokeN hi wi fc lc to bf bs n (t + 1) (s_led hi wi fc lc ce (s_begin hi wi fc lc ce to (if t % 2 = 0 then bf else bs) (if t % 2 = 0 then bs else bf))) (s_begin hi wi fc lc ce to (if t % 2 = 0 then bf else bs) (if t % 2 = 0 then bs else bf)) := by conv => lhs; unfold s_strokeN
theorem strokeN_eq (h : gOk a b) (hto : to < a * b) (h0 : mBr (a * b) br th str kd wt A b0) (h1 : mBr (a * b) br th str kd wt B b1) (g0 : ∀ k, k < a * b → bt bf k = b0 k) (g1 : ∀ k, k < a * b → bt bs k = b1 k) {fro M K : Nat} (hf : fro < a * b) (hM : M < 20) (hK : K < M) (e : q_bondL (nI a) (nI b) br th str kd wt L0 A B (nI to) fro = nI M) :
    ∀ (n t : Nat) (st0 : Int32), t + n = K → s_strokeN (nI a) (nI b) (fcM b a) (lcM a b) (nI to) bf bs (n + 1) t (q_walkN (nI a) (nI b) br th str kd wt (q_bondL (nI a) (nI b) br th str kd wt L0 A B (nI to)) A B (nI fro) t) st0 = q_strokeBy (nI a) (nI b) br th str kd wt (q_bondL (nI a) (nI b) br th str kd wt L0 A B (nI to)) A B (q_walkN (nI a) (nI b) br th str kd wt (q_bondL (nI a) (nI b) br th str kd wt L0 A B (nI to)) A B (nI fro) K) (nI (K % 2)) := by
  have hl := h.le
  intro n
  induction n with
  | zero =>
    intro t st0 ht
    have ht' : t = K := by omega
    subst ht'
    obtain ⟨c, c1, c2, c3⟩ := walk_spec h hto h0 h1 g0 g1 hf hM e t (by omega)
    rw [strokeNS, c2, if_neg (fun z => m9nI (by omega) z.symm), strokeN0, begin_eq (L0 := L0) h hto h0 h1 g0 g1 (t := t % 2) (by omega) c1]
  | succ n ih =>
    intro t st0 ht
    obtain ⟨c, c1, c2, c3⟩ := walk_spec h hto h0 h1 g0 g1 hf hM e t (by omega)
    obtain ⟨st, d, s1, s2, s3, s4, s5⟩ := stroke_step h hto h0 h1 g0 g1 (t := t % 2) (m := M - t - 1) (by omega) c1 (by omega) (by rw [c3]; exact congrArg nI (by omega))
    have hw : q_walkN (nI a) (nI b) br th str kd wt (q_bondL (nI a) (nI b) br th str kd wt L0 A B (nI to)) A B (nI fro) (t + 1) = oN (some d) := by
      rw [walkS, c2, s2, h.qbes c1 s1, s3]
    rw [strokeNS, c2, if_neg (fun z => m9nI (by omega) z.symm), begin_eq (L0 := L0) h hto h0 h1 g0 g1 (t := t % 2) (by omega) c1, s2, h.sled c1 s1, s3, ← hw]
    exact ih (t + 1) (nI st) (by omega)
/-- whether there is a bond -/
theorem isBond_eq (h : gOk a b) (hto : to < a * b) (h0 : mBr (a * b) br th str kd wt A b0) (h1 : mBr (a * b) br th str kd wt B b1) (g0 : ∀ k, k < a * b → bt bf k = b0 k) (g1 : ∀ k, k < a * b → bt bs k = b1 k) {fro : Nat} (hf : fro < a * b) :
    (q_isBond (nI a) (nI b) br th str kd wt A B (nI fro) (nI to) = 0) = (s_shortest (nI a) (nI b) (fcM b a) (lcM a b) (nI fro) (nI to) bf bs = -9) := by
  have hl := h.le
  unfold q_isBond
  rw [ite01, nI_clamp (by omega)]
  have e1 := bond_eq h hto h0 h1 g0 g1 (fun _ => 0) (t := 0) (by omega) hf
  rw [if_pos rfl, if_pos rfl] at e1
  have e2 : q_bondL (nI a) (nI b) br th str kd wt (fun _ => 0) A B (nI to) fro = s_shortest (nI a) (nI b) (fcM b a) (lcM a b) (nI fro) (nI to) bf bs := e1
  rw [e2]
  rcases short_spec h hf hto g0 g1 with ⟨m, m1, -, -, m4⟩ | ⟨-, m2⟩
  · rw [m4]
    exact propext ⟨fun z => absurd (nI_pos' (by omega)) z, fun z => absurd z.symm (m9nI (by omega))⟩
  · rw [m2]
    exact propext ⟨fun _ => rfl, fun _ => by decide⟩
end ST
