/-! subsets gone over, up and down -/
def dep : Nat → Nat → Nat → Nat
  | 0, _, _ => 0
  | w + 1, m, k => if m % 2 = 1 then k % 2 + 2 * dep w (m / 2) (k / 2) else 2 * dep w (m / 2) k
theorem and2 (a b p q : Nat) (hp : p < 2) (hq : q < 2) : (2 * a + p) &&& (2 * b + q) = 2 * (a &&& b) + p * q := by
  have h := and_split 1 a b p q (by omega) (by omega)
  rw [Nat.pow_one] at h
  rw [h]
  have e : p &&& q = p * q := by
    rcases (show p = 0 ∨ p = 1 by omega) with rfl | rfl <;> rcases (show q = 0 ∨ q = 1 by omega) with rfl | rfl <;> rfl
  rw [e]
theorem dep_odd (w m k : Nat) : dep (w + 1) (2 * m + 1) k = k % 2 + 2 * dep w m (k / 2) := by
  show (if (2 * m + 1) % 2 = 1 then _ else _) = _
  rw [if_pos (by omega), show (2 * m + 1) / 2 = m by omega]
theorem dep_even (w m k : Nat) : dep (w + 1) (2 * m + 0) k = 2 * dep w m k := by
  show (if (2 * m + 0) % 2 = 1 then _ else _) = _
  rw [if_neg (by omega), show (2 * m + 0) / 2 = m by omega]
theorem pcR_odd (w m : Nat) : pcR (w + 1) (2 * m + 1) = 1 + pcR w m := by
  show (2 * m + 1) % 2 + pcR w ((2 * m + 1) / 2) = _
  rw [show (2 * m + 1) % 2 = 1 by omega, show (2 * m + 1) / 2 = m by omega]
theorem pcR_even (w m : Nat) : pcR (w + 1) (2 * m + 0) = pcR w m := by
  show (2 * m + 0) % 2 + pcR w ((2 * m + 0) / 2) = _
  rw [show (2 * m + 0) % 2 = 0 by omega, show (2 * m + 0) / 2 = m by omega, Nat.zero_add]
theorem half_of (m : Nat) : ∃ h e, (e = 0 ∨ e = 1) ∧ m = 2 * h + e := ⟨m / 2, m % 2, by omega, by omega⟩
theorem dep_le : ∀ w m k, m < 2 ^ w → dep w m k ≤ m
  | 0, m, k, _ => Nat.zero_le _
  | w + 1, m, k, h => by
    obtain ⟨m', e, he, rfl⟩ := half_of m
    rw [Nat.pow_succ] at h
    rcases he with rfl | rfl
    · rw [dep_even]
      have := dep_le w m' k (by omega)
      omega
    · rw [dep_odd]
      have := dep_le w m' (k / 2) (by omega)
      omega
theorem dep_0 : ∀ w m, dep w m 0 = 0
  | 0, _ => rfl
  | w + 1, m => by
    obtain ⟨m', e, he, rfl⟩ := half_of m
    rcases he with rfl | rfl
    · rw [dep_even, dep_0 w m']
    · rw [dep_odd, Nat.zero_div, dep_0 w m']
theorem dep_ge : ∀ w m k, k < 2 ^ pcR w m → k ≤ dep w m k
  | 0, _, k, h => by
    have h' : k < 1 := h
    omega
  | w + 1, m, k, h => by
    obtain ⟨m', e, he, rfl⟩ := half_of m
    rcases he with rfl | rfl
    · rw [pcR_even] at h
      rw [dep_even]
      have := dep_ge w m' k h
      omega
    · rw [pcR_odd, Nat.add_comm, Nat.pow_succ] at h
      rw [dep_odd]
      have := dep_ge w m' (k / 2) (by omega)
      omega
theorem dep_max : ∀ w m, m < 2 ^ w → dep w m (2 ^ pcR w m - 1) = m
  | 0, m, h => by
    have h' : m < 1 := h
    show 0 = m
    omega
  | w + 1, m, h => by
    obtain ⟨m', e, he, rfl⟩ := half_of m
    rw [Nat.pow_succ] at h
    rcases he with rfl | rfl
    · rw [pcR_even, dep_even, dep_max w m' (by omega), Nat.add_zero]
    · have h0 := Nat.pow_pos (a := 2) (n := pcR w m') (by omega)
      rw [pcR_odd, Nat.add_comm 1, Nat.pow_succ, dep_odd, show (2 ^ pcR w m' * 2 - 1) % 2 = 1 by omega, show (2 ^ pcR w m' * 2 - 1) / 2 = 2 ^ pcR w m' - 1 by omega, dep_max w m' (by omega)]
      omega
theorem dep_and : ∀ w m k, m < 2 ^ w → dep w m k &&& m = dep w m k
  | 0, m, k, _ => Nat.zero_and m
  | w + 1, m, k, h => by
    obtain ⟨m', e, he, rfl⟩ := half_of m
    rw [Nat.pow_succ] at h
    rcases he with rfl | rfl
    · have := and2 (dep w m' k) m' 0 0 (by omega) (by omega)
      rw [dep_even]
      rw [Nat.add_zero (2 * dep w m' k)] at this
      rw [this, dep_and w m' k (by omega)]
      omega
    · rw [dep_odd, Nat.add_comm (k % 2), and2 _ _ _ _ (by omega) (by omega), dep_and w m' (k / 2) (by omega), Nat.mul_one]
theorem dep_q : ∀ w m k j, m < 2 ^ w → (2 ^ (w + j) + dep w m k - m - 1) &&& m = dep w m k
  | 0, m, k, j, h => by
    have h' : m < 1 := h
    have e : m = 0 := by omega
    rw [e, Nat.and_zero]
    rfl
  | w + 1, m, k, j, h => by
    obtain ⟨m', e, he, rfl⟩ := half_of m
    rw [Nat.pow_succ] at h
    have hp : (2 : Nat) ^ (w + 1 + j) = 2 * 2 ^ (w + j) := by rw [show w + 1 + j = w + j + 1 by omega, Nat.pow_succ, Nat.mul_comm]
    have hw : (2 : Nat) ^ w ≤ 2 ^ (w + j) := Nat.pow_le_pow_right (by omega) (by omega)
    rcases he with rfl | rfl
    · have hd := dep_le w m' k (by omega)
      have e1 : 2 ^ (w + 1 + j) + dep (w + 1) (2 * m' + 0) k - (2 * m' + 0) - 1 = 2 * (2 ^ (w + j) + dep w m' k - m' - 1) + 1 := by
        rw [hp, dep_even]
        omega
      rw [e1, and2 _ _ _ _ (by omega) (by omega), dep_q w m' k j (by omega), dep_even]
      omega
    · have hd := dep_le w m' (k / 2) (by omega)
      have e1 : 2 ^ (w + 1 + j) + dep (w + 1) (2 * m' + 1) k - (2 * m' + 1) - 1 = 2 * (2 ^ (w + j) + dep w m' (k / 2) - m' - 1) + k % 2 := by
        rw [hp, dep_odd]
        omega
      rw [e1, and2 _ _ _ _ (by omega) (by omega), dep_q w m' (k / 2) j (by omega), dep_odd]
      omega
theorem dep_s : ∀ w m k j, m < 2 ^ w → k + 1 < 2 ^ pcR w m → (2 ^ (w + j) + dep w m k - m) &&& m = dep w m (k + 1)
  | 0, m, k, j, _, hk => by
    have h' : k + 1 < 1 := hk
    omega
  | w + 1, m, k, j, h, hk => by
    obtain ⟨m', e, he, rfl⟩ := half_of m
    rw [Nat.pow_succ] at h
    have hp : (2 : Nat) ^ (w + 1 + j) = 2 * 2 ^ (w + j) := by rw [show w + 1 + j = w + j + 1 by omega, Nat.pow_succ, Nat.mul_comm]
    have hw : (2 : Nat) ^ w ≤ 2 ^ (w + j) := Nat.pow_le_pow_right (by omega) (by omega)
    rcases he with rfl | rfl
    · rw [pcR_even] at hk
      have hd := dep_le w m' k (by omega)
      have e1 : 2 ^ (w + 1 + j) + dep (w + 1) (2 * m' + 0) k - (2 * m' + 0) = 2 * (2 ^ (w + j) + dep w m' k - m') + 0 := by
        rw [hp, dep_even]
        omega
      rw [e1, and2 _ _ _ _ (by omega) (by omega), dep_s w m' k j (by omega) hk, dep_even]
      omega
    · rw [pcR_odd, Nat.add_comm 1, Nat.pow_succ] at hk
      have hd := dep_le w m' (k / 2) (by omega)
      rcases (show k % 2 = 0 ∨ k % 2 = 1 by omega) with hb | hb
      · have e1 : 2 ^ (w + 1 + j) + dep (w + 1) (2 * m' + 1) k - (2 * m' + 1) = 2 * (2 ^ (w + j) + dep w m' (k / 2) - m' - 1) + 1 := by
          rw [hp, dep_odd]
          omega
        rw [e1, and2 _ _ _ _ (by omega) (by omega), dep_q w m' (k / 2) j (by omega), dep_odd, show (k + 1) / 2 = k / 2 by omega]
        omega
      · have e1 : 2 ^ (w + 1 + j) + dep (w + 1) (2 * m' + 1) k - (2 * m' + 1) = 2 * (2 ^ (w + j) + dep w m' (k / 2) - m') + 0 := by
          rw [hp, dep_odd]
          omega
        rw [e1, and2 _ _ _ _ (by omega) (by omega), dep_s w m' (k / 2) j (by omega) (by omega), dep_odd, show (k + 1) / 2 = k / 2 + 1 by omega]
        omega
theorem dep_p : ∀ w m k, m < 2 ^ w → k + 1 < 2 ^ pcR w m → (dep w m (k + 1) - 1) &&& m = dep w m k
  | 0, m, k, _, hk => by
    have h' : k + 1 < 1 := hk
    omega
  | w + 1, m, k, h, hk => by
    obtain ⟨m', e, he, rfl⟩ := half_of m
    rw [Nat.pow_succ] at h
    rcases he with rfl | rfl
    · rw [pcR_even] at hk
      have hg := dep_ge w m' (k + 1) hk
      have e1 : dep (w + 1) (2 * m' + 0) (k + 1) - 1 = 2 * (dep w m' (k + 1) - 1) + 1 := by
        rw [dep_even]
        omega
      rw [e1, and2 _ _ _ _ (by omega) (by omega), dep_p w m' k (by omega) hk, dep_even]
      omega
    · rw [pcR_odd, Nat.add_comm 1, Nat.pow_succ] at hk
      rcases (show k % 2 = 0 ∨ k % 2 = 1 by omega) with hb | hb
      · have e1 : dep (w + 1) (2 * m' + 1) (k + 1) - 1 = 2 * dep w m' (k / 2) + 0 := by
          rw [dep_odd, show (k + 1) / 2 = k / 2 by omega]
          omega
        rw [e1, and2 _ _ _ _ (by omega) (by omega), dep_and w m' (k / 2) (by omega), dep_odd]
        omega
      · have hg := dep_ge w m' (k / 2 + 1) (by omega)
        have e1 : dep (w + 1) (2 * m' + 1) (k + 1) - 1 = 2 * (dep w m' (k / 2 + 1) - 1) + 1 := by
          rw [dep_odd, show (k + 1) / 2 = k / 2 + 1 by omega]
          omega
        rw [e1, and2 _ _ _ _ (by omega) (by omega), dep_p w m' (k / 2) (by omega) (by omega), dep_odd]
        omega
theorem pw20 {m : Nat} (h : m < 2 ^ 20) (k : Nat) : dep 20 m k < 2 ^ 20 := Nat.lt_of_le_of_lt (dep_le 20 m k h) h
/-- the class's order -/
theorem subN_eq {m : Nat} (h : m < 2 ^ 20) : ∀ k, k < 2 ^ pcR 20 m → x_subN (nI m) k = nI (dep 20 m k)
  | 0, _ => by
    rw [dep_0]
    rfl
  | k + 1, hk => by
    show x_nextSub (nI m) (x_subN (nI m) k) = _
    rw [subN_eq h k (by omega)]
    unfold x_nextSub
    have hd := dep_le 20 m k h
    have e : nI (dep 20 m k) - nI m = nI (2 ^ 32 + dep 20 m k - m) := by
      have e1 : nI (2 ^ 32 + dep 20 m k - m) + nI m = nI (dep 20 m k) := by
        rw [nI_add, Nat.sub_add_cancel (by omega), nI_mod32]
      rw [← e1, Int32.add_sub_cancel]
    rw [e, nI_andN, dep_s 20 m k 12 h hk]
def vS (V : Nat → Nat) : Nat → Nat
  | 0 => 0
  | n + 1 => vS V n + V n
theorem vS_le {V : Nat → Nat} (h : ∀ k, V k ≤ 1) : ∀ n, vS V n ≤ n
  | 0 => Nat.le_refl _
  | n + 1 => by
    have := vS_le h n
    have := h n
    show vS V n + V n ≤ n + 1
    omega
theorem many_S (hi wi th : Int32) (str kd wt : Nat → Int32) (a b fro to set : Int32) (k : Nat) (sub : Int32) (n : Int64) : m_manyN hi wi th str kd wt a b fro to set (k + 1) sub n = if sub = 0 then n + (if q_isBond hi wi sub th str kd wt a b fro to = 0 then 0 else 1) else
      m_manyN hi wi th str kd wt a b fro to set k ((sub - 1) &&& set) (n + (if q_isBond hi wi sub th str kd wt a b fro to = 0 then 0 else 1)) := by conv => lhs; unfold m_manyN
/-- the reference's order -/
theorem many_eq {hi wi th : Int32} {str kd wt : Nat → Int32} {a b fro to : Int32} {m : Nat} (h : m < 2 ^ 20) {V : Nat → Nat} (hV : ∀ k, V k = if q_isBond hi wi (nI (dep 20 m k)) th str kd wt a b fro to = 0 then 0 else 1) :
    ∀ k fuel n, k < fuel → k < 2 ^ pcR 20 m → m_manyN hi wi th str kd wt a b fro to (nI m) fuel (nI (dep 20 m k)) (lN n) = lN (n + vS V (k + 1))
  | 0, fuel, n, hf, _ => by
    obtain ⟨fu, rfl⟩ : ∃ fu, fuel = fu + 1 := ⟨fuel - 1, by omega⟩
    have e0 : nI (dep 20 m 0) = 0 := by rw [dep_0]; rfl
    have hv : (if q_isBond hi wi (nI (dep 20 m 0)) th str kd wt a b fro to = 0 then (0 : Int64) else 1) = lN (V 0) := by
      rw [hV 0]
      split <;> rfl
    rw [many_S, hv, if_pos e0, lN_add]
    show _ = lN (n + (0 + V 0))
    rw [Nat.zero_add]
  | k + 1, fuel, n, hf, hk => by
    obtain ⟨fu, rfl⟩ : ∃ fu, fuel = fu + 1 := ⟨fuel - 1, by omega⟩
    have hg := dep_ge 20 m (k + 1) hk
    have hl := pw20 h (k + 1)
    have hv : (if q_isBond hi wi (nI (dep 20 m (k + 1))) th str kd wt a b fro to = 0 then (0 : Int64) else 1) = lN (V (k + 1)) := by
      rw [hV (k + 1)]
      split <;> rfl
    have e1 : (nI (dep 20 m (k + 1)) - 1) &&& nI m = nI (dep 20 m k) := by
      rw [show (1 : Int32) = nI 1 from rfl, nI_sub (by omega), nI_andN, dep_p 20 m k h hk]
    rw [many_S, hv, if_neg (nI_ne0 (by omega) (by omega)), e1, lN_add, many_eq h hV k fu _ (by omega) (by omega)]
    refine congrArg lN ?_
    show n + V (k + 1) + vS V (k + 1) = n + (vS V (k + 1) + V (k + 1))
    omega
/-! halves, and the greatest common divisor -/
def hN : Nat → Int32 → Int32 → Int32 × Int32
  | 0, u, d => (u, d)
  | k + 1, u, d => if 1 < d ∧ u - u / 2 * 2 = 0 then hN k (u / 2) (d / 2) else (u, d)
def gN : Nat → Int64 → Int64 → Int64
  | 0, x, _ => x
  | k + 1, x, y => if y = 0 then x else gN k y (x - x / y * y)
theorem halfN0 (u d : Int32) : x_halfN 0 u d = (u, d) := by unfold x_halfN; rfl
theorem halfNS (k : Nat) (u d : Int32) : x_halfN (k + 1) u d = if 1 < d ∧ u - u / 2 * 2 = 0 then x_halfN k (u / 2) (d / 2) else (u, d) := by conv => lhs; unfold x_halfN
theorem halfN_eq : ∀ k u d, x_halfN k u d = hN k u d
  | 0, u, d => halfN0 u d
  | k + 1, u, d => by
    rw [halfNS, halfN_eq k]
    rfl
theorem gcdN0 (x y : Int64) : q_gcdN 0 x y = x := by unfold q_gcdN; rfl
theorem gcdN_eq : ∀ k x y, q_gcdN k x y = gN k x y
  | 0, x, y => gcdN0 x y
  | k + 1, x, y => by
    rw [gcdS, gcdN_eq k]
    rfl
theorem half_ok : ∀ p, p < 9 → ∀ U, U < 257 → U ≤ 2 ^ p → (hN 8 (nI U) (nI (2 ^ p))).1.toInt64 = lN U / gN 257 (lN U) (lN (2 ^ p)) ∧ (hN 8 (nI U) (nI (2 ^ p))).2.toInt64 = lN (2 ^ p) / gN 257 (lN U) (lN (2 ^ p)) := by decide +kernel
theorem shl_p : ∀ p, p < 21 → (1 : Int32) <<< (nI p &&& 31) = nI (2 ^ p) := by decide +kernel
theorem shl_pL : ∀ p, p < 21 → (1 : Int64) <<< (lN p &&& 63) = lN (2 ^ p) := by decide +kernel
/-! a set of cells -/
theorem set_nI {n : Nat} (hn : n ≤ 20) {x : Int32} (h : setIn n x) : ∃ m, m < 2 ^ n ∧ x = nI m := by
  refine ⟨x.toBitVec.toNat, Nat.lt_pow_two_of_testBit _ fun i hi => ?_, ?_⟩
  · cases e : x.toBitVec.toNat.testBit i with
    | false => rfl
    | true =>
      rcases Nat.lt_or_ge i 32 with z | z
      · have := h i z e
        omega
      · rw [Nat.testBit_lt_two_pow (Nat.lt_of_lt_of_le x.toBitVec.isLt (Nat.pow_le_pow_right (by omega) z))] at e
        cases e
  · refine b_ext fun i hi => ?_
    rw [bt_nI hi]
    rfl
theorem nI_set {n m : Nat} (hm : m < 2 ^ n) : setIn n (nI m) := fun k hk e => by
  rw [bt_nI hk] at e
  rcases Nat.lt_or_ge k n with z | z
  · exact z
  · rw [Nat.testBit_lt_two_pow (Nat.lt_of_lt_of_le hm (Nat.pow_le_pow_right (by omega) z))] at e
    cases e
theorem setC_iff {a b : Nat} (g : gOk a b) (x : Int32) : (x &&& (s_all (nI a) (nI b) ^^^ (-1)) = 0) ↔ setIn (a * b) x := by
  constructor
  · intro h k hk e
    have h1 : bt (x &&& (s_all (nI a) (nI b) ^^^ (-1))) k = false := by rw [h, b_0]
    rw [b_and, e, bt_not _ hk, all_bt0 a g.1 b g.2.1 k hk, Bool.true_and] at h1
    simpa using h1
  · intro h
    refine b_ext fun k hk => ?_
    rw [b_0, b_and, bt_not _ hk, all_bt0 a g.1 b g.2.1 k hk]
    cases e : bt x k with
    | false => rfl
    | true =>
      have := h k hk e
      simp [this]
theorem setM_iff {a b : Nat} (g : gOk a b) (x : Int32) : (0 ≤ x ∧ x.toInt64 ≤ ((1 : Int32) <<< ((nI a * nI b) &&& 31)).toInt64 - 1) ↔ setIn (a * b) x := by
  have hl := g.le
  have hp : (2 : Nat) ^ (a * b) ≤ 2 ^ 20 := Nat.pow_le_pow_right (by omega) hl
  have h0 := Nat.pow_pos (a := 2) (n := a * b) (by omega)
  rw [g.cells, shl_p _ (by omega), nI_l (by omega), show (1 : Int64) = lN 1 from rfl, lN_sub (by omega)]
  constructor
  · rintro ⟨h1, h2⟩
    obtain ⟨j, hj, rfl⟩ := nI_of (x := x) (Int32.not_lt.mpr h1)
    rw [nI_l hj, lN_le (by omega) (by omega)] at h2
    exact nI_set (by omega)
  · intro h
    obtain ⟨m, hm, rfl⟩ := set_nI hl h
    exact ⟨nI_pos' (by omega), by rw [nI_l (by omega), lN_le (by omega) (by omega)]; omega⟩
section OD
variable {a b s : Nat} {str str' ck cwt kd wt : Nat → Int32}
theorem bonds_eq (g : gOk a b) (hs : s ≤ 4) (hS : rS (a * b) str str') (hC : rC s ck cwt kd wt) {x y f t m : Nat} (hx : x < s) (hy : y < s) (hf : f < a * b) (ht : t < a * b) (hm : m < 2 ^ 20) {V : Nat → Nat} (hV : ∀ k, V k = if q_isBond (nI a) (nI b) (nI (dep 20 m k)) 0 str' kd wt (nI x) (nI y) (nI f) (nI t) = 0 then 0 else 1) :
    ∀ k, k ≤ 2 ^ pcR 20 m → x_bondsN (nI a) (nI b) (fcM b a) (lcM a b) str ck cwt (nI x) (nI y) (nI f) (nI t) (nI m) k = nI (vS V k)
  | 0, _ => rfl
  | k + 1, hk => by
    show x_bondsN (nI a) (nI b) (fcM b a) (lcM a b) str ck cwt (nI x) (nI y) (nI f) (nI t) (nI m) k + x_isBd (nI a) (nI b) (fcM b a) (lcM a b) str ck cwt (nI x) (nI y) (nI f) (nI t) (x_subN (nI m) k) = nI (vS V k + V k)
    rw [bonds_eq g hs hS hC hx hy hf ht hm hV k (by omega), subN_eq hm k (by omega), isBd_eq g hs hS hC hx hy hf ht, ← nI_add, hV k]
    congr 1
    split <;> rfl
theorem odds_ans (g : gOk a b) (hs : s ≤ 4) (hS : rS (a * b) str str') (hC : rC s ck cwt kd wt) (A B fro to set which : Int32) :
    x_oddsR (nI a) (nI b) (fcM b a) (lcM a b) (nI s) str ck cwt A B fro to set which = m_oddsR (nI a) (nI b) (nI s) 0 str' kd wt A B fro to set which := by
  have hl := g.le
  have hp : (2 : Nat) ^ (a * b) ≤ 2 ^ 20 := Nat.pow_le_pow_right (by omega) hl
  unfold x_oddsR m_oddsR
  by_cases hk : m_bKnown (nI a) (nI b) (nI s) A B fro to
  · rw [ifnn hk]
    by_cases hset : setIn (a * b) set
    · obtain ⟨m, hm, rfl⟩ := set_nI hl hset
      have hm20 : m < 2 ^ 20 := by omega
      have eb : q_bits (nI m) = nI (pcR 20 m) := by
        unfold q_bits
        have := bitsN_eq 32 0 m (by omega) (by omega)
        rw [Nat.zero_add, pcR_big 12 20 m hm20] at this
        exact this
      have ec : s_bitCount (nI m) = nI (pcR 20 m) := by
        rw [bitCount_eq hm20, pcR_big 12 20 m hm20]
      have hpc := pcR_le 20 m
      by_cases hr : pcR 20 m ≤ 8 ∧ 0 ≤ which ∧ which ≤ 1
      · have h8 : nI (pcR 20 m) ≤ 8 := nI_le (b := 8) hr.1 (by omega)
        have hxo : x_oddsOk (nI a) (nI b) (nI s) A B fro to (nI m) which := by
          refine ⟨(bK_iff hs g.dd _ _ _ _).mpr hk, ⟨(setC_iff g _).mpr hset, by rw [ec]; exact h8⟩, ?_⟩
          rw [s_in0]
          exact fun z => z hr.2
        have hmo : (0 ≤ nI m ∧ (nI m).toInt64 ≤ ((1 : Int32) <<< ((nI a * nI b) &&& 31)).toInt64 - 1) ∧ q_bits (nI m) ≤ 8 ∧ 0 ≤ which ∧ which ≤ 1 := ⟨(setM_iff g _).mpr hset, by rw [eb]; exact h8, hr.2⟩
        rw [if_pos hxo, ifnn hmo]
        obtain ⟨k1, k2, k3⟩ := hk
        unfold q_noTwo at k1
        rw [ite10] at k1
        obtain ⟨x, hx, rfl⟩ := sk_nI hs k1.1
        obtain ⟨y, hy, rfl⟩ := sk_nI hs k1.2.1
        obtain ⟨f, hf, rfl⟩ := ce_nI g k2
        obtain ⟨t, ht, rfl⟩ := ce_nI g k3
        have hN0 := Nat.pow_pos (a := 2) (n := pcR 20 m) (by omega)
        have hN8 : (2 : Nat) ^ pcR 20 m ≤ 2 ^ 8 := Nat.pow_le_pow_right (by omega) hr.1
        have hcl : (nI (2 ^ pcR 20 m)).toNatClampNeg = 2 ^ pcR 20 m := nI_clamp (by omega)
        have hclm : (nI m).toNatClampNeg = m := nI_clamp (by omega)
        obtain ⟨V, hV⟩ : ∃ V : Nat → Nat, ∀ k, V k = if q_isBond (nI a) (nI b) (nI (dep 20 m k)) 0 str' kd wt (nI x) (nI y) (nI f) (nI t) = 0 then 0 else 1 := ⟨_, fun _ => rfl⟩
        have hV1 : ∀ k, V k ≤ 1 := fun k => by
          rw [hV k]
          split <;> omega
        have hU := vS_le hV1 (2 ^ pcR 20 m)
        have hge := dep_ge 20 m (2 ^ pcR 20 m - 1) (by omega)
        rw [dep_max 20 m hm20] at hge
        have em : m_manyN (nI a) (nI b) 0 str' kd wt (nI x) (nI y) (nI f) (nI t) (nI m) (m + 1) (nI m) 0 = lN (vS V (2 ^ pcR 20 m)) := by
          have := many_eq (hi := nI a) (wi := nI b) (th := 0) (str := str') (kd := kd) (wt := wt) (a := nI x) (b := nI y) (fro := nI f) (to := nI t) hm20 hV (2 ^ pcR 20 m - 1) (m + 1) 0 (by omega) (by omega)
          rw [dep_max 20 m hm20, Nat.sub_add_cancel hN0, Nat.zero_add] at this
          exact this
        have ex : x_half (nI a) (nI b) (fcM b a) (lcM a b) str ck cwt (nI x) (nI y) (nI f) (nI t) (nI m) = hN 8 (nI (vS V (2 ^ pcR 20 m))) (nI (2 ^ pcR 20 m)) := by
          unfold x_half x_bonds
          rw [ec, shl_p _ (by omega), hcl, bonds_eq g hs hS hC hx hy hf ht hm20 hV _ (Nat.le_refl _), halfN_eq]
        obtain ⟨q1, q2⟩ := half_ok (pcR 20 m) (by omega) (vS V (2 ^ pcR 20 m)) (by omega) hU
        rw [ex, hclm, em, eb, nI_l (by omega), shl_pL _ (by omega)]
        unfold q_share
        rw [gcdN_eq]
        by_cases hw : which = 0
        · rw [if_pos hw, if_pos hw, q1]
        · rw [if_neg hw, if_neg hw, q2]
      · have hxo : ¬ x_oddsOk (nI a) (nI b) (nI s) A B fro to (nI m) which := by
          rintro ⟨-, ⟨-, z1⟩, z2⟩
          rw [ec] at z1
          rw [s_in0, Classical.not_not] at z2
          exact hr ⟨(nI_leI (a := pcR 20 m) (b := 8) (by omega) (by omega)).mp z1, z2⟩
        have hmo : ((0 ≤ nI m ∧ (nI m).toInt64 ≤ ((1 : Int32) <<< ((nI a * nI b) &&& 31)).toInt64 - 1) ∧ q_bits (nI m) ≤ 8 ∧ 0 ≤ which ∧ which ≤ 1) → False := by
          rintro ⟨-, z1, z2⟩
          rw [eb] at z1
          exact hr ⟨(nI_leI (a := pcR 20 m) (b := 8) (by omega) (by omega)).mp z1, z2⟩
        rw [if_neg hxo, ifp0 hmo]
    · have hxo : ¬ x_oddsOk (nI a) (nI b) (nI s) A B fro to set which := fun z => hset ((setC_iff g _).mp z.2.1.1)
      have hmo : ((0 ≤ set ∧ set.toInt64 ≤ ((1 : Int32) <<< ((nI a * nI b) &&& 31)).toInt64 - 1) ∧ q_bits set ≤ 8 ∧ 0 ≤ which ∧ which ≤ 1) → False := fun z => hset ((setM_iff g _).mp z.1)
      rw [if_neg hxo, ifp0 hmo]
  · have hxo : ¬ x_oddsOk (nI a) (nI b) (nI s) A B fro to set which := fun z => hk ((bK_iff hs g.dd _ _ _ _).mp z.1)
    rw [if_neg hxo, ifp0 hk]
end OD
