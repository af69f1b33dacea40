/-! facts of numbers that the walks' facts rest on -/
theorem i64t (x : Int32) : x.toInt64.toInt = x.toInt := Int32.toInt_toInt64 x
theorem i32b (x : Int32) : -2147483648 ≤ x.toInt ∧ x.toInt < 2147483648 := ⟨by have := x.le_toInt; simpa using this, by have := x.toInt_lt; simpa using this⟩
theorem i64b (x : Int64) : -9223372036854775808 ≤ x.toInt ∧ x.toInt < 9223372036854775808 := ⟨by have := x.le_toInt; simpa using this, by have := x.toInt_lt; simpa using this⟩
theorem i64sub {x y : Int64} (h1 : -9223372036854775808 ≤ x.toInt - y.toInt) (h2 : x.toInt - y.toInt < 9223372036854775808) : (x - y).toInt = x.toInt - y.toInt := by
  rw [Int64.toInt_sub]
  exact Int.bmod_eq_of_le (by omega) (by omega)
theorem i64add {x y : Int64} (h1 : -9223372036854775808 ≤ x.toInt + y.toInt) (h2 : x.toInt + y.toInt < 9223372036854775808) : (x + y).toInt = x.toInt + y.toInt := by
  rw [Int64.toInt_add]
  exact Int.bmod_eq_of_le (by omega) (by omega)
theorem i32sub {x y : Int32} (h1 : -2147483648 ≤ x.toInt - y.toInt) (h2 : x.toInt - y.toInt < 2147483648) : (x - y).toInt = x.toInt - y.toInt := by
  rw [Int32.toInt_sub]
  exact Int.bmod_eq_of_le (by omega) (by omega)
theorem i32add {x y : Int32} (h1 : -2147483648 ≤ x.toInt + y.toInt) (h2 : x.toInt + y.toInt < 2147483648) : (x + y).toInt = x.toInt + y.toInt := by
  rw [Int32.toInt_add]
  exact Int.bmod_eq_of_le (by omega) (by omega)
theorem i32mul {x y : Int32} (h1 : -2147483648 ≤ x.toInt * y.toInt) (h2 : x.toInt * y.toInt < 2147483648) : (x * y).toInt = x.toInt * y.toInt := by
  rw [Int32.toInt_mul]
  exact Int.bmod_eq_of_le (by omega) (by omega)
theorem nI_mul (a b : Nat) : nI a * nI b = nI (a * b) := by
  unfold nI
  exact (Int32.ofNat_mul a b).symm
theorem ite01 {P : Prop} [Decidable P] : ((if P then (1 : Int32) else 0) = 0) = ¬ P := by
  by_cases h : P <;> simp [h]
theorem ite10 {P : Prop} [Decidable P] : ((if P then (0 : Int32) else 1) = 0) = P := by
  by_cases h : P <;> simp [h]
theorem s_in0 (v a b : Int32) : (s_in v a b = 0) = ¬ (a ≤ v ∧ v ≤ b) := ite01
theorem q_in0 (v a b : Int64) : (q_in v a b = 0) = ¬ (a ≤ v ∧ v ≤ b) := ite01
theorem q_inI {v a' b' : Int32} {a b : Int64} (ha : a'.toInt64 = a) (hb : b'.toInt64 = b) : (q_in v.toInt64 a b = 0) = ¬ (a' ≤ v ∧ v ≤ b') := by
  subst ha hb
  rw [q_in0, Int64.le_iff_toInt_le, Int64.le_iff_toInt_le, i64t, i64t, i64t, Int32.le_iff_toInt_le, Int32.le_iff_toInt_le]
theorem q_in02 (v : Int32) : (q_in v.toInt64 0 2 = 0) = ¬ (0 ≤ v ∧ v ≤ 2) := q_inI (by decide) (by decide)
theorem q_in03 (v : Int32) : (q_in v.toInt64 0 3 = 0) = ¬ (0 ≤ v ∧ v ≤ 3) := q_inI (by decide) (by decide)
theorem q_in04 (v : Int32) : (q_in v.toInt64 0 4 = 0) = ¬ (0 ≤ v ∧ v ≤ 4) := q_inI (by decide) (by decide)
theorem q_in09 (v : Int32) : (q_in v.toInt64 0 9 = 0) = ¬ (0 ≤ v ∧ v ≤ 9) := q_inI (by decide) (by decide)
theorem q_in01 (v : Int32) : (q_in v.toInt64 0 1 = 0) = ¬ (0 ≤ v ∧ v ≤ 1) := q_inI (by decide) (by decide)
theorem q_in040 (v : Int32) : (q_in v.toInt64 0 40 = 0) = ¬ (0 ≤ v ∧ v ≤ 40) := q_inI (by decide) (by decide)
theorem q_inm39 (v : Int32) : (q_in v.toInt64 (-1) 39 = 0) = ¬ (-1 ≤ v ∧ v ≤ 39) := q_inI (by decide) (by decide)
theorem q_inV (v a b : Int32) : (q_in v.toInt64 a.toInt64 b.toInt64 = 0) = ¬ (a ≤ v ∧ v ≤ b) := q_inI rfl rfl
theorem q_in0V (v b : Int32) : (q_in v.toInt64 0 b.toInt64 = 0) = ¬ (0 ≤ v ∧ v ≤ b) := q_inI (by decide) rfl
theorem q_inM (v n : Int32) : (q_in v.toInt64 0 (n.toInt64 - 1) = 0) = ¬ (0 ≤ v ∧ v < n) := by
  have h1 : (1 : Int64).toInt = 1 := by decide
  have h0 : (0 : Int64).toInt = 0 := by decide
  have h2 : (0 : Int32).toInt = 0 := by decide
  have hb := i32b n
  rw [q_in0, Int64.le_iff_toInt_le, Int64.le_iff_toInt_le, i64sub (by rw [i64t, h1]; omega) (by rw [i64t, h1]; omega), i64t, i64t, Int32.le_iff_toInt_le, Int32.lt_iff_toInt_lt, h0, h1, h2]
  apply propext
  omega
theorem vpN {x N : Int32} {n : Nat} (hN : N.toInt = n) (h0 : 0 ≤ x) (h1 : x < N) : vp_in x n := by
  have z : (0 : Int32).toInt = 0 := by decide
  rw [Int32.le_iff_toInt_le, z] at h0
  rw [Int32.lt_iff_toInt_lt, hN] at h1
  exact vp_in_iff.mpr ⟨h0, h1⟩
theorem vp4 {x : Int32} (h0 : 0 ≤ x) (h1 : x < 4) : vp_in x 4 := vpN (by decide) h0 h1
theorem vp8 {x : Int32} (h0 : 0 ≤ x) (h1 : x < 8) : vp_in x 8 := vpN (by decide) h0 h1
theorem vp20 {x : Int32} (h0 : 0 ≤ x) (h1 : x < 20) : vp_in x 20 := vpN (by decide) h0 h1
theorem vp40 {x : Int32} (h0 : 0 ≤ x) (h1 : x < 40) : vp_in x 40 := vpN (by decide) h0 h1
theorem vp60 {x : Int32} (h0 : 0 ≤ x) (h1 : x < 60) : vp_in x 60 := vpN (by decide) h0 h1
theorem vp240 {x : Int32} (h0 : 0 ≤ x) (h1 : x < 240) : vp_in x 240 := vpN (by decide) h0 h1
/-- a canal's cells: n of them -/
theorem okD.n {hi wi : Int32} (h : okD hi wi) : ∃ n : Nat, n ≤ 20 ∧ hi * wi = nI n ∧ (hi * wi).toNatClampNeg = n ∧ (wi = 0 → n = 0) := by
  obtain ⟨a, b, ha, hb, rfl, rfl⟩ := h
  have hn : a * b ≤ 20 := Nat.le_trans (Nat.mul_le_mul ha hb) (by decide)
  refine ⟨a * b, hn, nI_mul a b, by rw [nI_mul, nI_clamp (by omega)], fun h => ?_⟩
  have : b = 0 := by
    have := (nI_eq (a := b) (b := 0) (by omega) (by omega)).mp (by rw [h]; decide)
    exact this
  rw [this, Nat.mul_zero]
theorem okD.le {hi wi : Int32} (h : okD hi wi) : 0 ≤ hi * wi ∧ hi * wi ≤ 20 := by
  obtain ⟨n, h1, h2, -, -⟩ := h.n
  rw [h2]
  exact ⟨nI_pos' (by omega), nI_le (b := 20) h1 (by omega)⟩
theorem s_inC {hi wi ce : Int32} (h : okD hi wi) : (s_in ce 0 (hi * wi - 1) = 0) = ¬ (0 ≤ ce ∧ ce < hi * wi) := by
  obtain ⟨n, h1, h2, -, -⟩ := h.n
  have e1 : (1 : Int32).toInt = 1 := by decide
  have hn := nI_toInt (n := n) (by omega)
  rw [s_in0, h2, Int32.le_iff_toInt_le, Int32.le_iff_toInt_le, Int32.lt_iff_toInt_lt, i32sub (by rw [hn, e1]; omega) (by rw [hn, e1]; omega), e1]
  apply propext
  omega
theorem s_inS {cnt a : Int32} (h : okN cnt) : (s_in a 0 (cnt - 1) = 0) = ¬ (0 ≤ a ∧ a < cnt) := by
  obtain ⟨n, h1, rfl⟩ := h
  have e1 : (1 : Int32).toInt = 1 := by decide
  have hn := nI_toInt (n := n) (by omega)
  rw [s_in0, Int32.le_iff_toInt_le, Int32.le_iff_toInt_le, Int32.lt_iff_toInt_lt, i32sub (by rw [hn, e1]; omega) (by rw [hn, e1]; omega), e1]
  apply propext
  omega
theorem okN.le {cnt : Int32} (h : okN cnt) : 0 ≤ cnt ∧ cnt ≤ 4 := by
  obtain ⟨n, h1, rfl⟩ := h
  exact ⟨nI_pos' (by omega), nI_le (b := 4) h1 (by omega)⟩
theorem s_sk0 {cnt a : Int32} (h : okN cnt) : (s_sk cnt a = 0) = ¬ (0 ≤ a ∧ a < cnt) := s_inS h
theorem s_ce0 {hi wi ce : Int32} (h : okD hi wi) : (s_ce hi wi ce = 0) = ¬ (0 ≤ ce ∧ ce < hi * wi) := s_inC h
theorem vpS {cnt a : Int32} (h : okN cnt) : s_sk cnt a = 0 ∨ vp_in a 4 := by
  by_cases h0 : s_sk cnt a = 0
  · exact Or.inl h0
  · rw [s_sk0 h] at h0
    have := h.le
    exact Or.inr (vp4 (by grind) (by grind))
theorem vpC {hi wi ce : Int32} (h : okD hi wi) : s_ce hi wi ce = 0 ∨ vp_in ce 20 := by
  by_cases h0 : s_ce hi wi ce = 0
  · exact Or.inl h0
  · rw [s_ce0 h] at h0
    have := h.le
    exact Or.inr (vp20 (by grind) (by grind))
theorem vpQ {sk a : Int32} (h : okN sk) : ¬ q_noSk sk a = 0 ∨ vp_in a 4 := by
  by_cases h0 : q_noSk sk a = 0
  · unfold q_noSk at h0
    rw [ite10] at h0
    have := h.le
    exact Or.inr (vp4 (by grind) (by grind))
  · exact Or.inl h0
theorem vpP {hi wi ce : Int32} (h : okD hi wi) : ¬ q_noPlace hi wi ce = 0 ∨ (vp_in ce 20 ∧ ¬ wi = 0) := by
  by_cases h0 : q_noPlace hi wi ce = 0
  · unfold q_noPlace at h0
    rw [ite10] at h0
    have := h.le
    refine Or.inr ⟨vp20 (by grind) (by grind), fun hz => ?_⟩
    rw [hz, Int32.mul_zero] at h0
    grind
  · exact Or.inl h0
theorem vpK {k : Int32} : ¬ q_noSheet k = 0 ∨ vp_in k 4 := by
  by_cases h0 : q_noSheet k = 0
  · unfold q_noSheet at h0
    rw [ite10] at h0
    exact Or.inr (vp4 (by grind) (by grind))
  · exact Or.inl h0
theorem vpTwo {sk a b : Int32} (h : okN sk) : ¬ q_noTwo sk a b = 0 ∨ (vp_in a 4 ∧ vp_in b 4) := by
  by_cases h0 : q_noTwo sk a b = 0
  · unfold q_noTwo at h0
    rw [ite10] at h0
    exact Or.inr ⟨(vpQ h).resolve_left (fun z => z h0.1), (vpQ h).resolve_left (fun z => z h0.2.1)⟩
  · exact Or.inl h0
theorem vpPair {cnt a b : Int32} (h : okN cnt) : x_pair cnt a b = 0 ∨ (vp_in a 4 ∧ vp_in b 4) := by
  by_cases h0 : x_pair cnt a b = 0
  · exact Or.inl h0
  · unfold x_pair at h0
    rw [ite01, Classical.not_not] at h0
    exact Or.inr ⟨(vpS h).resolve_left h0.1, (vpS h).resolve_left h0.2.1⟩
