/-! the grid: a rows of b cells -/
def gLed (a b c st : Nat) : Option Nat :=
  if st = 0 then (if b ≤ c then some (c - b) else none)
  else if st = 1 then (if (c + 1) % b = 0 then none else some (c + 1))
  else if st = 2 then (if c + b < a * b then some (c + b) else none)
  else if st = 3 then (if c % b = 0 then none else some (c - 1))
  else none
def oN : Option Nat → Int32
  | none => -9
  | some k => nI k
def fcM (b : Nat) : Nat → Int32
  | 0 => 0
  | r + 1 => fcM b r ||| ((1 : Int32) <<< ((nI r * nI b) &&& 31))
def lcM (a b : Nat) : Int32 := fcM b a <<< ((nI b - 1) &&& 31)
def gOk (a b : Nat) : Prop := a < 5 ∧ b < 6 ∧ ((a = 0 ∧ b = 0) ∨ (1 ≤ a ∧ 1 ≤ b))
theorem gOk.le {a b : Nat} (h : gOk a b) : a * b ≤ 20 := Nat.le_trans (Nat.mul_le_mul (Nat.le_of_lt_succ h.1) (Nat.le_of_lt_succ h.2.1)) (by decide)
theorem gOk.dd {a b : Nat} (h : gOk a b) : okD (nI a) (nI b) := ⟨a, b, Nat.le_of_lt_succ h.1, Nat.le_of_lt_succ h.2.1, rfl, rfl⟩
theorem gOk.cells {a b : Nat} (_h : gOk a b) : nI a * nI b = nI (a * b) := nI_mul a b
theorem fcM_bt0 : ∀ a, a < 5 → ∀ b, b < 6 → ((a = 0 ∧ b = 0) ∨ (1 ≤ a ∧ 1 ≤ b)) → ∀ k, k < 32 → bt (fcM b a) k = (decide (k < a * b) && decide (k % b = 0)) := by decide +kernel
theorem lcM_bt0 : ∀ a, a < 5 → ∀ b, b < 6 → ((a = 0 ∧ b = 0) ∨ (1 ≤ a ∧ 1 ≤ b)) → ∀ k, k < 32 → bt (lcM a b) k = (decide (k < a * b) && decide ((k + 1) % b = 0)) := by decide +kernel
theorem all_bt0 : ∀ a, a < 5 → ∀ b, b < 6 → ∀ k, k < 32 → bt (s_all (nI a) (nI b)) k = decide (k < a * b) := by decide +kernel
theorem sled0 : ∀ a, a < 5 → ∀ b, b < 6 → ((a = 0 ∧ b = 0) ∨ (1 ≤ a ∧ 1 ≤ b)) → ∀ c, c < a * b → ∀ st, st < 4 → s_led (nI a) (nI b) (fcM b a) (lcM a b) (nI c) (nI st) = oN (gLed a b c st) := by decide +kernel
theorem qbes0 : ∀ a, a < 5 → ∀ b, b < 6 → ∀ c, c < a * b → ∀ st, st < 4 → q_beside (nI a) (nI b) (nI c) (nI st) = oN (gLed a b c st) := by decide +kernel
theorem gled0 : ∀ a, a < 5 → ∀ b, b < 6 → ∀ c, c < a * b → ∀ st, st < 4 → (gLed a b c st).all (fun d => decide (d < a * b) && decide ((d / b + d % b + (c / b + c % b)) % 2 = 1)) = true := by decide +kernel
theorem gled1 {a b : Nat} (h : gOk a b) {c st d : Nat} (hc : c < a * b) (hs : st < 4) (e : gLed a b c st = some d) : d < a * b ∧ (d / b + d % b + (c / b + c % b)) % 2 = 1 := by
  have := gled0 a h.1 b h.2.1 c hc st hs
  rw [e] at this
  simpa using this
theorem gOk.fc {a b : Nat} (h : gOk a b) {k : Nat} (hk : k < 32) : bt (fcM b a) k = (decide (k < a * b) && decide (k % b = 0)) := fcM_bt0 a h.1 b h.2.1 h.2.2 k hk
theorem gOk.lc {a b : Nat} (h : gOk a b) {k : Nat} (hk : k < 32) : bt (lcM a b) k = (decide (k < a * b) && decide ((k + 1) % b = 0)) := lcM_bt0 a h.1 b h.2.1 h.2.2 k hk
theorem gOk.sled {a b : Nat} (h : gOk a b) {c st : Nat} (hc : c < a * b) (hs : st < 4) : s_led (nI a) (nI b) (fcM b a) (lcM a b) (nI c) (nI st) = oN (gLed a b c st) := sled0 a h.1 b h.2.1 h.2.2 c hc st hs
theorem gOk.qbes {a b : Nat} (h : gOk a b) {c st : Nat} (hc : c < a * b) (hs : st < 4) : q_beside (nI a) (nI b) (nI c) (nI st) = oN (gLed a b c st) := qbes0 a h.1 b h.2.1 c hc st hs
theorem oN_neg (o : Option Nat) (h : ∀ d, o = some d → d < 2 ^ 31) : (oN o = -9) = (o = none) := by
  cases o with
  | none => simp [oN]
  | some d =>
    apply propext
    constructor
    · intro e
      have h1 := nI_pos' (h d rfl)
      rw [show nI d = oN (some d) from rfl, e] at h1
      exact absurd h1 (by decide)
    · intro e; cases e
theorem oN_pos (o : Option Nat) (h : ∀ d, o = some d → d < 2 ^ 31) : (0 ≤ oN o) = (∃ d, o = some d) := by
  cases o with
  | none =>
    apply propext
    exact ⟨fun e => absurd e (by decide), fun ⟨d, e⟩ => by cases e⟩
  | some d => exact propext ⟨fun _ => ⟨d, rfl⟩, fun _ => nI_pos' (h d rfl)⟩
theorem bt_not (x : Int32) {k : Nat} (hk : k < 32) : bt (x ^^^ (-1)) k = !bt x k := by
  rw [b_xor, b_m1 k hk, Bool.xor_true]
theorem bt_shl1 (x : Int32) {i : Nat} (hi : i < 32) : bt (x <<< ((1 : Int32) &&& 31)) i = (decide (1 ≤ i) && bt x (i - 1)) := b_shl 1 (by omega) x hi
theorem bt_shr1 (x : Int32) {i : Nat} (hi : i < 32) : bt (x >>> ((1 : Int32) &&& 31)) i = if 1 + i < 32 then bt x (1 + i) else bt x 31 := b_sshr 1 (by omega) x hi
theorem bt_one : ∀ k, k < 32 → bt 1 k = decide (k = 0) := by decide +kernel
theorem bt_bit {j : Nat} (hj : j < 32) {k : Nat} (hk : k < 32) : bt ((1 : Int32) <<< (nI j &&& 31)) k = decide (k = j) := by
  rw [b_shl j hj _ hk, bt_one (k - j) (by omega)]
  by_cases h : k = j
  · simp [h]
  · by_cases h2 : j ≤ k
    · simp [h, h2]; omega
    · simp [h2, h]
/-- whether a set has k -/
theorem isIn_bt (x : Int32) {k : Nat} (hk : k < 32) : s_isIn x (nI k) = if bt x k = true then 1 else 0 := by
  unfold s_isIn
  have e : ((x >>> (nI k &&& 31)) &&& 1 = 1) = (bt x k = true) := by
    have h0 : bt (x >>> (nI k &&& 31)) 0 = bt x k := by
      rw [b_sshr k hk x (by omega), if_pos (by omega)]
      rfl
    apply propext
    constructor
    · intro h
      rw [← h0]
      have h1 : bt ((x >>> (nI k &&& 31)) &&& 1) 0 = bt 1 0 := by rw [h]
      rw [b_and] at h1
      have h2 : bt 1 0 = true := by decide +kernel
      rw [h2, Bool.and_true] at h1
      exact h1
    · intro h
      refine b_ext fun i hi => ?_
      rw [b_and, bt_one i hi]
      by_cases hz : i = 0
      · subst hz
        rw [h0, h]
        rfl
      · simp [hz]
  simp only [e]
theorem isIn0 (x : Int32) {k : Nat} (hk : k < 32) : (s_isIn x (nI k) = 0) = (bt x k = false) := by
  rw [isIn_bt x hk]
  cases bt x k <;> simp
/-- a set that has none beyond n -/
def setIn (n : Nat) (x : Int32) : Prop := ∀ k, k < 32 → bt x k = true → k < n
theorem setIn.and {n : Nat} {x y : Int32} (h : setIn n x) : setIn n (x &&& y) := fun k hk e => h k hk (by
  rw [b_and] at e
  exact (Bool.and_eq_true_iff.mp e).1)
theorem setIn.and2 {n : Nat} {x y : Int32} (h : setIn n y) : setIn n (x &&& y) := fun k hk e => h k hk (by
  rw [b_and] at e
  exact (Bool.and_eq_true_iff.mp e).2)
theorem setIn.or {n : Nat} {x y : Int32} (h : setIn n x) (h2 : setIn n y) : setIn n (x ||| y) := fun k hk e => by
  rw [b_or] at e
  rcases Bool.or_eq_true_iff.mp e with e | e
  · exact h k hk e
  · exact h2 k hk e
theorem setIn.one {n j : Nat} (hj : j < n) (hn : n ≤ 20) : setIn n ((1 : Int32) <<< (nI j &&& 31)) := fun k hk e => by
  rw [bt_bit (by omega) hk] at e
  have := of_decide_eq_true e
  omega
theorem next_bt {a b : Nat} (h : gOk a b) (x : Int32) {k : Nat} (hk : k < a * b) : bt (s_next (nI a) (nI b) (fcM b a) (lcM a b) x) k =
    (((decide (1 ≤ k) && (bt x (k - 1) && !bt (lcM a b) (k - 1))) || (bt x (1 + k) && !bt (fcM b a) (1 + k))) || ((decide (b ≤ k) && bt x (k - b)) || bt x (b + k))) := by
  have hl := h.le
  have hb := h.2.1
  unfold s_next
  rw [b_and, all_bt0 a h.1 b h.2.1 k (by omega), decide_eq_true hk, Bool.and_true, b_or, b_or, b_or, bt_shl1 _ (by omega), bt_shr1 _ (by omega), b_shl b (by omega) _ (by omega), b_sshr b (by omega) _ (by omega), if_pos (by omega), if_pos (by omega), b_and, b_and, bt_not _ (by omega), bt_not _ (by omega)]
theorem next_in {a b : Nat} (h : gOk a b) (x : Int32) : setIn (a * b) (s_next (nI a) (nI b) (fcM b a) (lcM a b) x) := fun k hk e => by
  unfold s_next at e
  rw [b_and, all_bt0 a h.1 b h.2.1 k hk] at e
  exact of_decide_eq_true (Bool.and_eq_true_iff.mp e).2
/-- the cells to which one comes from a set's -/
theorem next_iff {a b : Nat} (h : gOk a b) {x : Int32} (hx : setIn (a * b) x) {k : Nat} (hk : k < a * b) : bt (s_next (nI a) (nI b) (fcM b a) (lcM a b) x) k = true ↔ ∃ d st, st < 4 ∧ d < a * b ∧ bt x d = true ∧ gLed a b d st = some k := by
  have hl := h.le
  have hb := h.2.1
  rw [next_bt h x hk]
  generalize hn : a * b = n at *
  constructor
  · intro e
    rcases Bool.or_eq_true_iff.mp e with e | e <;> rcases Bool.or_eq_true_iff.mp e with e | e
    · obtain ⟨e1, e2⟩ := Bool.and_eq_true_iff.mp e
      obtain ⟨e3, e4⟩ := Bool.and_eq_true_iff.mp e2
      have e5 := of_decide_eq_true e1
      refine ⟨k - 1, 1, by omega, by omega, e3, ?_⟩
      rw [h.lc (by omega), hn, decide_eq_true (by omega : k - 1 < n), Bool.true_and, Nat.sub_add_cancel e5] at e4
      have e6 : ¬ k % b = 0 := by simpa using e4
      simp [gLed, Nat.sub_add_cancel e5, e6]
    · obtain ⟨e3, e4⟩ := Bool.and_eq_true_iff.mp e
      have e5 := hx (1 + k) (by omega) e3
      refine ⟨1 + k, 3, by omega, e5, e3, ?_⟩
      rw [h.fc (by omega), hn, decide_eq_true e5, Bool.true_and] at e4
      have e6 : ¬ (1 + k) % b = 0 := by simpa using e4
      simp [gLed, e6]
    · obtain ⟨e1, e2⟩ := Bool.and_eq_true_iff.mp e
      have e5 := of_decide_eq_true e1
      refine ⟨k - b, 2, by omega, by omega, e2, ?_⟩
      have e6 : k - b + b = k := by omega
      simp [gLed, e6, hn, hk]
    · have e5 := hx (b + k) (by omega) e
      refine ⟨b + k, 0, by omega, e5, e, ?_⟩
      simp [gLed]
  · rintro ⟨d, st, hs, hd, e1, e2⟩
    rcases (show st = 0 ∨ st = 1 ∨ st = 2 ∨ st = 3 by omega) with rfl | rfl | rfl | rfl
    · have e3 : b ≤ d ∧ d - b = k := by
        simp only [gLed, if_true] at e2
        split at e2
        · rename_i q
          exact ⟨q, by injection e2⟩
        · cases e2
      have e4 : b + k = d := by omega
      rw [e4, e1]
      simp
    · have e3 : ¬ (d + 1) % b = 0 ∧ d + 1 = k := by
        simp [gLed] at e2
        exact e2
      have e4 : k - 1 = d := by omega
      rw [e4, e1, h.lc (by omega), decide_eq_false e3.1]
      have : decide (1 ≤ k) = true := decide_eq_true (by omega)
      rw [this]
      simp
    · have e3 : d + b < n ∧ d + b = k := by
        simp [gLed, hn] at e2
        exact e2
      have e4 : k - b = d := by omega
      have e5 : decide (b ≤ k) = true := decide_eq_true (by omega)
      rw [e4, e1, e5]
      simp
    · have e3 : ¬ d % b = 0 ∧ d - 1 = k := by
        simp [gLed] at e2
        exact e2
      have e0 : ¬ d = 0 := fun z => e3.1 (by rw [z, Nat.zero_mod])
      have e4 : 1 + k = d := by omega
      rw [e4, e1, h.fc (by omega), decide_eq_false e3.1]
      simp
