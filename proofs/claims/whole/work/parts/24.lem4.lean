theorem bitsS (k : Nat) (n x : Int32) : q_bitsN (k + 1) n x = if 0 < x then q_bitsN k (n + (x &&& 1)) (x >>> (1 &&& 31)) else n := by conv => lhs; unfold q_bitsN
theorem gcdS (k : Nat) (x y : Int64) : q_gcdN (k + 1) x y = if y = 0 then x else q_gcdN k y (x - x / y * y) := by conv => lhs; unfold q_gcdN
theorem barredOk {sz sl : Nat → Int32} {k lane i n : Int32} (hk : vp_in k 4) (hs : okSz sz) (h : q_barred sz sl k lane i n.toInt64 = 0) :
    ∃ K I N : Nat, K < 4 ∧ k = nI K ∧ i = nI I ∧ n = nI N ∧ I + N ≤ 60 ∧ 60 * k + i = nI (60 * K + I) := by
  obtain ⟨K, hK, rfl⟩ := vp_in_of hk (by omega)
  have hz := hs K hK
  have z : (0 : Int32).toInt = 0 := by decide
  have z6 : (60 : Int32).toInt = 60 := by decide
  have zl : (0 : Int64).toInt = 0 := by decide
  unfold q_barred at h
  rw [nI_clamp (by omega)] at h
  by_cases h1 : 0 ≤ sz K ∧ ¬ sl K = lane
  · rw [if_pos h1] at h; exact absurd h (by decide)
  rw [if_neg h1] at h
  by_cases h2 : sz K < 0
  · rw [if_pos h2] at h; exact absurd h (by decide)
  rw [if_neg h2] at h
  by_cases h3 : n.toInt64 < 0
  · rw [if_pos h3] at h; exact absurd h (by decide)
  rw [if_neg h3] at h
  by_cases h4 : i < 0 ∨ (sz K).toInt64 < i.toInt64 + n.toInt64
  · rw [if_pos h4] at h; exact absurd h (by decide)
  obtain ⟨h5, h6⟩ := not_or.mp h4
  have bi := i32b i
  have bn := i32b n
  have bs := i32b (sz K)
  rw [Int64.lt_iff_toInt_lt, i64t, zl] at h3
  rw [Int64.lt_iff_toInt_lt, i64add (by rw [i64t, i64t]; omega) (by rw [i64t, i64t]; omega), i64t, i64t, i64t] at h6
  rw [Int32.le_iff_toInt_le, z6] at hz
  obtain ⟨I, hI, rfl⟩ := nI_of h5
  obtain ⟨N, hN, rfl⟩ := nI_of (x := n) (by rw [Int32.lt_iff_toInt_lt, z]; exact h3)
  rw [nI_toInt hI, nI_toInt hN] at h6
  refine ⟨K, I, N, hK, rfl, rfl, rfl, by omega, ?_⟩
  rw [show (60 : Int32) = nI 60 from rfl, nI_mul, nI_add]
theorem barredV (sz sl : Nat → Int32) (k lane i : Int32) (n : Int64) : q_barred sz sl k lane i n = 0 ∨ q_barred sz sl k lane i n = 1 ∨ q_barred sz sl k lane i n = 2 ∨ q_barred sz sl k lane i n = 3 ∨ q_barred sz sl k lane i n = 4 := by
  unfold q_barred
  grind
theorem bResV {sz sl : Nat → Int32} {k lane i : Int32} {n : Int64} : (0 ≤ q_bRes (q_barred sz sl k lane i n)) = (q_barred sz sl k lane i n = 0) := by
  rcases barredV sz sl k lane i n with h | h | h | h | h <;> rw [h] <;> decide
theorem deedS (hi wi br th : Int32) (kd wt sh : Nat → Int32) (fro a b ce : Int32) (str : Nat → Int32) (x : Nat) : q_deedN hi wi br th kd wt sh fro a b ce str (x + 1) = if (q_deedN hi wi br th kd wt sh fro a b ce str x).1 < 0 then q_dStep hi wi br th kd wt sh fro (if x % 2 = 0 then a else b) x (q_deedN hi wi br th kd wt sh fro a b ce str x) else q_deedN hi wi br th kd wt sh fro a b ce str x := by rw [q_deedN]
theorem deedStay {hi wi br th : Int32} {kd wt sh : Nat → Int32} {fro a b ce : Int32} {str : Nat → Int32} {m : Nat} (h : 0 ≤ (q_deedN hi wi br th kd wt sh fro a b ce str m).1) : ∀ d, q_deedN hi wi br th kd wt sh fro a b ce str (m + d) = q_deedN hi wi br th kd wt sh fro a b ce str m
  | 0 => rfl
  | d + 1 => by
    rw [← Nat.add_assoc, deedS, deedStay h d, if_neg (Int32.not_lt.mpr h)]
theorem idx40b {ce turn : Int32} (h : vp_in ce 20) (ht : turn = 0 ∨ turn = 1) : vp_in (ce + 20 * turn) 40 := by
  obtain ⟨j, hj, rfl⟩ := vp_in_of h (by omega)
  rcases ht with rfl | rfl
  · rw [show (20 : Int32) * 0 = nI 0 by decide, nI_add]
    exact vp_in_nI (by omega) (by omega)
  · rw [show (20 : Int32) * 1 = nI 20 by decide, nI_add]
    exact vp_in_nI (by omega) (by omega)
theorem vp_ite {P : Prop} [Decidable P] {a b : Int32} {n : Nat} (ha : vp_in a n) (hb : vp_in b n) : vp_in (if P then a else b) n := by
  split
  · exact ha
  · exact hb
theorem st3 : ∀ k : Nat, k < 4 → ¬ ((3 : Int32) - nI k < 0) ∧ ((k + 1 = 4 ∧ (3 : Int32) - nI k + (-1) = -1) ∨ (k + 1 < 4 ∧ (3 : Int32) - nI k + (-1) = 3 - nI (k + 1))) := by decide
theorem init_run {to : Int32} {g : Nat → Int32} {k : Nat} {v : Int32} (hv : v = if nI (k % 20) = to then 0 else -9) : upd (q_initN to g k) k v = q_initN to g (k + 1) := by
  funext j
  unfold upd q_initN
  grind
theorem rounds0 (hi wi br th : Int32) (str kd wt : Nat → Int32) (a b : Int32) (L : Nat → Int32) : q_roundsN hi wi br th str kd wt a b L 0 = L := by unfold q_roundsN; rfl
theorem roundsS (hi wi br th : Int32) (str kd wt : Nat → Int32) (a b : Int32) (L : Nat → Int32) (r : Nat) : q_roundsN hi wi br th str kd wt a b L (r + 1) = q_placesN hi wi br th str kd wt a b (r + 1) (q_roundsN hi wi br th str kd wt a b L r) 40 := by conv => lhs; unfold q_roundsN
theorem places0 (hi wi br th : Int32) (str kd wt : Nat → Int32) (a b : Int32) (r : Nat) (L : Nat → Int32) : q_placesN hi wi br th str kd wt a b r L 0 = L := by unfold q_placesN; rfl
theorem placesS (hi wi br th : Int32) (str kd wt : Nat → Int32) (a b : Int32) (r : Nat) (L : Nat → Int32) (p : Nat) : q_placesN hi wi br th str kd wt a b r L (p + 1) = upd (q_placesN hi wi br th str kd wt a b r L p) p (q_one hi wi br th str kd wt a b r p (q_placesN hi wi br th str kd wt a b r L p)) := by conv => lhs; unfold q_placesN
theorem rem20 {k : Nat} (h : k < 2 ^ 31) : nI k - nI k / 20 * 20 = nI (k % 20) := pk_rem (a := k) (d := 20) h (by omega) (by omega)
