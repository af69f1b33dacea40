/-! walks in turn: the class's search -/
def tb (b0 b1 : Nat → Bool) (t : Nat) : Nat → Bool := if t % 2 = 0 then b0 else b1
theorem tb_swap (b0 b1 : Nat → Bool) (k : Nat) : tb b1 b0 k = tb b0 b1 (k + 1) := by
  unfold tb
  rcases (show k % 2 = 0 ∨ k % 2 = 1 by omega) with h | h
  · rw [if_pos h, if_neg (by omega)]
  · rw [if_neg (by omega), if_pos (by omega)]
theorem tb_par {b0 b1 : Nat → Bool} {j k : Nat} (h : j % 2 = k % 2) : tb b0 b1 j = tb b0 b1 k := by
  unfold tb
  rw [h]
/-- from a cell: k strokes in turn, to a cell -/
def gU (a b to : Nat) : Nat → (Nat → Bool) → (Nat → Bool) → Nat → Prop
  | 0, _, _, c => c = to
  | k + 1, b0, b1, c => ∃ d st, st < 4 ∧ gLed a b c st = some d ∧ b0 d = true ∧ gU a b to k b1 b0 d
/-- where one is behind k strokes -/
def gW (a b fro : Nat) (b0 b1 : Nat → Bool) : Nat → Nat → Prop
  | 0, c => c = fro
  | k + 1, c => ∃ d st, st < 4 ∧ gLed a b d st = some c ∧ tb b0 b1 k c = true ∧ gW a b fro b0 b1 k d
theorem gW_head {a b : Nat} {b0 b1 : Nat → Bool} {fro : Nat} : ∀ k c, gW a b fro b0 b1 (k + 1) c ↔ ∃ d st, st < 4 ∧ gLed a b fro st = some d ∧ b0 d = true ∧ gW a b d b1 b0 k c
  | 0, c => by
    constructor
    · rintro ⟨d, st, h1, h2, h3, h4⟩
      have h5 : d = fro := h4
      subst h5
      exact ⟨c, st, h1, h2, h3, rfl⟩
    · rintro ⟨d, st, h1, h2, h3, h4⟩
      have h5 : c = d := h4
      subst h5
      exact ⟨fro, st, h1, h2, h3, rfl⟩
  | k + 1, c => by
    constructor
    · rintro ⟨e, st, h1, h2, h3, h4⟩
      obtain ⟨d, st2, g1, g2, g3, g4⟩ := (gW_head k e).mp h4
      exact ⟨d, st2, g1, g2, g3, e, st, h1, h2, by rw [tb_swap]; exact h3, g4⟩
    · rintro ⟨d, st2, g1, g2, g3, e, st, h1, h2, h3, h4⟩
      rw [tb_swap] at h3
      exact ⟨e, st, h1, h2, h3, (gW_head k e).mpr ⟨d, st2, g1, g2, g3, h4⟩⟩
theorem gW_gU {a b to : Nat} : ∀ (k : Nat) (b0 b1 : Nat → Bool) (fro : Nat), gW a b fro b0 b1 k to ↔ gU a b to k b0 b1 fro
  | 0, b0, b1, fro => ⟨fun h => Eq.symm h, fun h => Eq.symm h⟩
  | k + 1, b0, b1, fro => by
    rw [gW_head]
    constructor
    · rintro ⟨d, st, g1, g2, g3, g4⟩
      exact ⟨d, st, g1, g2, g3, (gW_gU k b1 b0 d).mp g4⟩
    · rintro ⟨d, st, g1, g2, g3, g4⟩
      exact ⟨d, st, g1, g2, g3, (gW_gU k b1 b0 d).mpr g4⟩
theorem gW_par {a b : Nat} (h : gOk a b) {fro : Nat} (hf : fro < a * b) {b0 b1 : Nat → Bool} : ∀ k c, gW a b fro b0 b1 k c → c < a * b ∧ (c / b + c % b) % 2 = (fro / b + fro % b + k) % 2
  | 0, c, e => by
    have e2 : c = fro := e
    subst e2
    exact ⟨hf, rfl⟩
  | k + 1, c, ⟨d, st, h1, h2, h3, h4⟩ => by
    obtain ⟨g1, g2⟩ := gW_par h hf k d h4
    obtain ⟨g3, g4⟩ := gled1 h g1 h1 h2
    exact ⟨g3, by omega⟩
/-- the least number of strokes, or none -/
def gLst (P : Nat → Prop) (r : Int32) : Prop := (∃ m, m < 20 ∧ P m ∧ (∀ j, j < m → ¬ P j) ∧ r = nI m) ∨ ((∀ j, ¬ P j) ∧ r = -9)
theorem least_of {P : Nat → Prop} {j : Nat} (h : P j) : ∃ m, m ≤ j ∧ P m ∧ ∀ i, i < m → ¬ P i := by
  have key : ∀ n, (∃ m, m ≤ n ∧ P m) → ∃ m, m ≤ n ∧ P m ∧ ∀ i, i < m → ¬ P i := by
    intro n
    induction n with
    | zero =>
      rintro ⟨m, h1, h2⟩
      have e : m = 0 := by omega
      subst e
      exact ⟨0, Nat.le_refl _, h2, fun i hi => absurd hi (Nat.not_lt_zero i)⟩
    | succ n ih =>
      rintro ⟨m, h1, h2⟩
      by_cases q : ∃ m, m ≤ n ∧ P m
      · obtain ⟨m', g1, g2, g3⟩ := ih q
        exact ⟨m', by omega, g2, g3⟩
      · refine ⟨m, h1, h2, fun i hi hp => q ⟨i, by omega, hp⟩⟩
  exact key j ⟨j, Nat.le_refl _, h⟩
def gT (a b fro : Nat) (b0 b1 : Nat → Bool) (k c : Nat) : Prop := gW a b fro b0 b1 k c ∧ ∀ j, j < k → ¬ gW a b fro b0 b1 j c
theorem gT_pre {a b : Nat} (h : gOk a b) {fro : Nat} (hf : fro < a * b) {b0 b1 : Nat → Bool} {k c d st : Nat} (hc : ∀ j, j < k + 1 → ¬ gW a b fro b0 b1 j c) (h1 : st < 4) (h2 : gLed a b d st = some c) (h3 : tb b0 b1 k c = true) (h4 : gW a b fro b0 b1 k d) : gT a b fro b0 b1 k d := by
  refine ⟨h4, fun j hj hw => ?_⟩
  have p1 := (gW_par h hf k d h4).2
  have p2 := (gW_par h hf j d hw).2
  exact hc (j + 1) (by omega) ⟨d, st, h1, h2, by rw [tb_par (k := k) (by omega)]; exact h3, hw⟩
theorem gT_down {a b : Nat} (h : gOk a b) {fro : Nat} (hf : fro < a * b) {b0 b1 : Nat → Bool} {k : Nat} : ∀ i, (∃ c, gT a b fro b0 b1 (k + i) c) → ∃ c, c < a * b ∧ gT a b fro b0 b1 k c
  | 0, ⟨c, hc⟩ => ⟨c, (gW_par h hf k c hc.1).1, hc⟩
  | i + 1, ⟨c, ⟨d, st, h1, h2, h3, h4⟩, hc⟩ => gT_down h hf i ⟨d, gT_pre h hf hc h1 h2 h3 h4⟩
theorem gap {a b : Nat} (h : gOk a b) {fro to : Nat} (hf : fro < a * b) {b0 b1 : Nat → Bool} {k : Nat} (h1 : ∀ c, c < a * b → ¬ gT a b fro b0 b1 k c) (h2 : ∀ j, j < k → ¬ gW a b fro b0 b1 j to) : ∀ j, ¬ gW a b fro b0 b1 j to := by
  intro j hj
  obtain ⟨m, -, g2, g3⟩ := least_of (P := fun j => gW a b fro b0 b1 j to) hj
  have hk : k ≤ m := by
    rcases Nat.lt_or_ge m k with q | q
    · exact absurd g2 (h2 m q)
    · exact q
  obtain ⟨c, c1, c2⟩ := gT_down h hf (k := k) (m - k) ⟨to, by rw [Nat.add_sub_cancel' hk]; exact ⟨g2, g3⟩⟩
  exact h1 c c1 c2
theorem bt_some {x : Int32} (h : ¬ x = 0) : ∃ k, k < 32 ∧ bt x k = true := by
  refine Classical.byContradiction fun q => h (b_ext fun i hi => ?_)
  rw [b_0]
  cases e : bt x i with
  | false => rfl
  | true => exact absurd ⟨i, hi, e⟩ q
theorem bt_none {x : Int32} (h : x = 0) (k : Nat) : ¬ bt x k = true := by
  rw [h, b_0]
  exact Bool.false_ne_true
theorem short0 (hi wi fc lc to bf bs : Int32) (k : Nat) (t s : Int32) : s_shortN hi wi fc lc to bf bs 0 k t s = -9 := by unfold s_shortN; rfl
theorem shortS (hi wi fc lc to bf bs : Int32) (n k : Nat) (t s : Int32) : s_shortN hi wi fc lc to bf bs (n + 1) k t s = if t = 0 then -9 else if s_isIn t to = 0 then
      (s_shortN hi wi fc lc to bf bs n (k + 1) (s_next hi wi fc lc t &&& (if k % 2 = 0 then bf else bs) &&& (s ^^^ (-1))) (s ||| (s_next hi wi fc lc t &&& (if k % 2 = 0 then bf else bs) &&& (s ^^^ (-1)))))
    else nI k := by conv => lhs; unfold s_shortN
theorem short_ind {a b : Nat} (h : gOk a b) {fro to : Nat} (hf : fro < a * b) (ht : to < a * b) {bf bs : Int32} {b0 b1 : Nat → Bool} (h0 : ∀ k, k < a * b → bt bf k = b0 k) (h1 : ∀ k, k < a * b → bt bs k = b1 k) : ∀ (n k : Nat) (t s : Int32), n + k = 20 → setIn (a * b) t →
    (∀ c, c < a * b → (bt t c = true ↔ gT a b fro b0 b1 k c)) → (∀ c, c < a * b → (bt s c = true ↔ ∃ j, j ≤ k ∧ gW a b fro b0 b1 j c)) → (∀ j, j < k → ¬ gW a b fro b0 b1 j to) → (t = 0 ∨ k + 1 ≤ fb_ct (bt s) 20) →
    gLst (fun k => gW a b fro b0 b1 k to) (s_shortN (nI a) (nI b) (fcM b a) (lcM a b) (nI to) bf bs n k t s) := by
  have hl := h.le
  intro n
  induction n with
  | zero =>
    intro k t s hk ht1 hT hS hno hct
    rw [short0]
    refine Or.inr ⟨gap h hf (k := k) (fun c hc q => ?_) hno, rfl⟩
    rcases hct with e | e
    · exact bt_none e c ((hT c hc).mpr q)
    · have := fb_ct_le (bt s) 20
      omega
  | succ n ih =>
    intro k t s hk ht1 hT hS hno hct
    rw [shortS]
    by_cases hz : t = 0
    · rw [if_pos hz]
      exact Or.inr ⟨gap h hf (k := k) (fun c hc q => bt_none hz c ((hT c hc).mpr q)) hno, rfl⟩
    · rw [if_neg hz]
      by_cases hto : s_isIn t (nI to) = 0
      · rw [if_pos hto]
        rw [isIn0 t (by omega)] at hto
        have hbt : ∀ c, c < a * b → bt (if k % 2 = 0 then bf else bs) c = tb b0 b1 k c := fun c hc => by
          unfold tb
          split
          · exact h0 c hc
          · exact h1 c hc
        have hN : ∀ c, c < a * b → (bt (s_next (nI a) (nI b) (fcM b a) (lcM a b) t &&& (if k % 2 = 0 then bf else bs) &&& (s ^^^ (-1))) c = true ↔ gT a b fro b0 b1 (k + 1) c) := fun c hc => by
          rw [b_and, b_and, bt_not s (by omega), hbt c hc, Bool.and_eq_true, Bool.and_eq_true, next_iff h ht1 hc, Bool.not_eq_true']
          have hs : (bt s c = false) ↔ ∀ j, j < k + 1 → ¬ gW a b fro b0 b1 j c := by
            rw [← Bool.not_eq_true, hS c hc]
            exact ⟨fun q j hj w => q ⟨j, by omega, w⟩, fun q ⟨j, hj, w⟩ => q j (by omega) w⟩
          rw [hs]
          constructor
          · rintro ⟨⟨⟨d, st, g1, g2, g3, g4⟩, g5⟩, g6⟩
            exact ⟨⟨d, st, g1, g4, g5, ((hT d g2).mp g3).1⟩, g6⟩
          · rintro ⟨⟨d, st, g1, g2, g3, g4⟩, g6⟩
            have g7 := (gW_par h hf k d g4).1
            exact ⟨⟨⟨d, st, g1, g7, (hT d g7).mpr (gT_pre h hf g6 g1 g2 g3 g4), g2⟩, g3⟩, g6⟩
        generalize hx : (s_next (nI a) (nI b) (fcM b a) (lcM a b) t &&& (if k % 2 = 0 then bf else bs) &&& (s ^^^ (-1))) = x at hN
        have hxin : setIn (a * b) x := by
          rw [← hx]
          exact ((next_in h t).and).and
        refine ih (k + 1) x (s ||| x) (by omega) hxin hN (fun c hc => ?_) (fun j hj w => ?_) ?_
        · rw [b_or, Bool.or_eq_true, hS c hc, hN c hc]
          constructor
          · rintro (⟨j, g1, g2⟩ | g)
            · exact ⟨j, by omega, g2⟩
            · exact ⟨k + 1, Nat.le_refl _, g.1⟩
          · rintro ⟨j, g1, g2⟩
            by_cases q : ∃ j, j ≤ k ∧ gW a b fro b0 b1 j c
            · exact Or.inl q
            · have e : j = k + 1 := by
                rcases Nat.lt_or_ge k j with z | z
                · omega
                · exact absurd ⟨j, z, g2⟩ q
              subst e
              exact Or.inr ⟨g2, fun i hi w => q ⟨i, by omega, w⟩⟩
        · rcases Nat.lt_or_ge j k with z | z
          · exact hno j z w
          · have e : j = k := by omega
            subst e
            have := (hT to ht).mpr ⟨w, hno⟩
            rw [hto] at this
            exact Bool.false_ne_true this
        · by_cases hx0 : x = 0
          · exact Or.inl hx0
          · refine Or.inr ?_
            have hc1 : k + 1 ≤ fb_ct (bt s) 20 := hct.resolve_left hz
            obtain ⟨i, i1, i2⟩ := bt_some hx0
            have i3 := hxin i i1 i2
            have hpos : 0 < fb_ct (bt x) 20 := fb_ct_pos.mpr ⟨i, by omega, i2⟩
            have hor : fb_ct (bt (s ||| x)) 20 = fb_ct (bt s) 20 + fb_ct (bt x) 20 := by
              rw [← fb_ct_or]
              · exact fb_ct_cong fun k _ => b_or s x k
              · rintro c hc ⟨q1, q2⟩
                have c1 := hxin c (by omega) q2
                obtain ⟨j, j1, j2⟩ := (hS c c1).mp q1
                exact ((hN c c1).mp q2).2 j (by omega) j2
            omega
      · rw [if_neg hto]
        rw [isIn0 t (by omega), Bool.not_eq_false] at hto
        exact Or.inl ⟨k, by omega, ((hT to ht).mp hto).1, hno, rfl⟩
theorem short_spec {a b : Nat} (h : gOk a b) {fro to : Nat} (hf : fro < a * b) (ht : to < a * b) {bf bs : Int32} {b0 b1 : Nat → Bool} (h0 : ∀ k, k < a * b → bt bf k = b0 k) (h1 : ∀ k, k < a * b → bt bs k = b1 k) :
    gLst (fun k => gU a b to k b0 b1 fro) (s_shortest (nI a) (nI b) (fcM b a) (lcM a b) (nI fro) (nI to) bf bs) := by
  have hl := h.le
  have hone : ∀ c, c < a * b → (bt ((1 : Int32) <<< (nI fro &&& 31)) c = true ↔ c = fro) := fun c hc => by
    rw [bt_bit (by omega) (by omega)]
    exact decide_eq_true_iff
  have key := short_ind h hf ht h0 h1 20 0 ((1 : Int32) <<< (nI fro &&& 31)) ((1 : Int32) <<< (nI fro &&& 31)) rfl (setIn.one hf hl)
    (fun c hc => by
      rw [hone c hc]
      exact ⟨fun e => ⟨e, fun j hj => absurd hj (Nat.not_lt_zero j)⟩, fun e => e.1⟩)
    (fun c hc => by
      rw [hone c hc]
      constructor
      · intro e
        exact ⟨0, Nat.le_refl _, e⟩
      · rintro ⟨j, j1, j2⟩
        have e : j = 0 := by omega
        subst e
        exact j2)
    (fun j hj => absurd hj (Nat.not_lt_zero j))
    (Or.inr (fb_ct_pos.mpr ⟨fro, by omega, (hone fro hf).mpr rfl⟩))
  unfold s_shortest
  have e : (fun k => gW a b fro b0 b1 k to) = fun k => gU a b to k b0 b1 fro := funext fun k => propext (gW_gU k b0 b1 fro)
  rw [← e]
  exact key
theorem gLst.uniq {P : Nat → Prop} {r r' : Int32} (h : gLst P r) (h' : gLst P r') : r = r' := by
  rcases h with ⟨m, h1, h2, h3, h4⟩ | ⟨h1, h2⟩ <;> rcases h' with ⟨n, g1, g2, g3, g4⟩ | ⟨g1, g2⟩
  · rw [h4, g4, fb_first_one h2 h3 g2 g3]
  · exact absurd h2 (g1 m)
  · exact absurd g2 (h1 n)
  · rw [h2, g2]
