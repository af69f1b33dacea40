/-! odds: bits counted, subsets gone over, halves -/
theorem bt_nI {m k : Nat} (hk : k < 32) : bt (nI m) k = m.testBit k := by
  unfold bt nI
  rw [show (Int32.ofNat m).toBitVec = BitVec.ofNat 32 m from rfl, BitVec.getLsbD_ofNat]
  simp [hk]
theorem litI (n : Nat) : (OfNat.ofNat n : Int32) = nI n := rfl
theorem nI_andN (a b : Nat) : nI a &&& nI b = nI (a &&& b) := b_ext fun k hk => by
  rw [b_and, bt_nI hk, bt_nI hk, bt_nI hk, Nat.testBit_and]
theorem nI_sub {a b : Nat} (h : b ≤ a) : nI a - nI b = nI (a - b) := by
  have e : nI a = nI (a - b) + nI b := by rw [nI_add, Nat.sub_add_cancel h]
  rw [e, Int32.add_sub_cancel]
theorem nI_ush {m j : Nat} (hj : j < 32) (hm : m < 2 ^ 32) : s_ush (nI m) (nI j) = nI (m / 2 ^ j) := b_ext fun k hk => by
  unfold s_ush
  rw [b_ushr j hj, bt_nI hk]
  rw [Nat.testBit_div_two_pow]
  rcases Nat.lt_or_ge (j + k) 32 with z | z
  · rw [bt_nI z, Nat.add_comm]
  · rw [b_big z]
    refine (Nat.testBit_lt_two_pow (Nat.lt_of_lt_of_le hm (Nat.pow_le_pow_right (by omega) ?_))).symm
    omega
theorem nI_mod32 (m : Nat) : nI (2 ^ 32 + m) = nI m := b_ext fun k hk => by
  rw [bt_nI hk, bt_nI hk]
  have : (2 ^ 32 + m) = 2 ^ 32 * 1 + m := by omega
  rw [Nat.testBit_eq_decide_div_mod_eq, Nat.testBit_eq_decide_div_mod_eq]
  have e : (2 ^ 32 + m) / 2 ^ k % 2 = m / 2 ^ k % 2 := by
    have h1 : (2 : Nat) ^ 32 = 2 ^ k * (2 * 2 ^ (31 - k)) := by
      rw [← Nat.pow_succ', ← Nat.pow_add]
      congr 1
      omega
    rw [h1, Nat.mul_add_div (Nat.pow_pos (by omega)), Nat.add_mod]
    rw [Nat.mul_mod_right]
    omega
  rw [e]
theorem and_split (i a b p q : Nat) (hp : p < 2 ^ i) (hq : q < 2 ^ i) : (2 ^ i * a + p) &&& (2 ^ i * b + q) = 2 ^ i * (a &&& b) + (p &&& q) := by
  refine Nat.eq_of_testBit_eq fun j => ?_
  rw [Nat.testBit_and, Nat.testBit_two_pow_mul_add a hp, Nat.testBit_two_pow_mul_add b hq, Nat.testBit_two_pow_mul_add _ (Nat.and_lt_two_pow p hq)]
  by_cases h : j < i
  · rw [if_pos h, if_pos h, if_pos h, Nat.testBit_and]
  · rw [if_neg h, if_neg h, if_neg h, Nat.testBit_and]
def pcR : Nat → Nat → Nat
  | 0, _ => 0
  | k + 1, m => m % 2 + pcR k (m / 2)
theorem pcR_zero : ∀ k, pcR k 0 = 0
  | 0 => rfl
  | k + 1 => by
    show 0 % 2 + pcR k (0 / 2) = 0
    rw [pcR_zero k]
theorem pcR_le : ∀ k m, pcR k m ≤ k
  | 0, _ => Nat.le_refl _
  | k + 1, m => by
    have := pcR_le k (m / 2)
    show m % 2 + pcR k (m / 2) ≤ k + 1
    omega
theorem pcR_split (k : Nat) : ∀ j m, pcR (j + k) m = pcR j (m % 2 ^ j) + pcR k (m / 2 ^ j)
  | 0, m => by
    rw [Nat.zero_add, Nat.pow_zero, Nat.div_one]
    show _ = 0 + _
    rw [Nat.zero_add]
  | j + 1, m => by
    rw [show j + 1 + k = (j + k) + 1 by omega]
    show m % 2 + pcR (j + k) (m / 2) = (m % 2 ^ (j + 1)) % 2 + pcR j (m % 2 ^ (j + 1) / 2) + _
    rw [pcR_split k j, Nat.div_div_eq_div_mul, ← Nat.pow_succ', Nat.mod_mod_of_dvd m ⟨2 ^ j, by rw [Nat.pow_succ']⟩, Nat.pow_succ', Nat.mod_mul_right_div_self]
    omega
theorem pcR_big (k : Nat) : ∀ j m, m < 2 ^ j → pcR (j + k) m = pcR j m := fun j m h => by
  rw [pcR_split, Nat.mod_eq_of_lt h, Nat.div_eq_of_lt h, pcR_zero, Nat.add_zero]
theorem bitsN_eq : ∀ k n m, m < 2 ^ 31 → m < 2 ^ k → q_bitsN k (nI n) (nI m) = nI (n + pcR k m)
  | 0, n, m, _, h => by
    unfold q_bitsN
    rfl
  | k + 1, n, m, h1, h2 => by
    conv => lhs; unfold q_bitsN
    by_cases h0 : m = 0
    · subst h0
      rw [if_neg (by decide +kernel), pcR_zero, Nat.add_zero]
    · rw [if_pos (show (0 : Int32) < nI m from nI_lt (a := 0) (by omega) h1)]
      have e1 : nI m &&& 1 = nI (m % 2) := by
        rw [show (1 : Int32) = nI 1 from rfl, nI_andN, Nat.and_one_is_mod]
      have e2 : nI m >>> ((1 : Int32) &&& 31) = nI (m / 2) := b_ext fun i hi => by
        rw [bt_shr1 _ hi, bt_nI hi]
        have this : (m / 2 ^ 1).testBit i = m.testBit (i + 1) := Nat.testBit_div_two_pow m i
        rw [Nat.pow_one] at this
        rw [this]
        by_cases z : 1 + i < 32
        · rw [if_pos z, bt_nI z, Nat.add_comm]
        · rw [if_neg z, bt_nI (by omega)]
          rw [Nat.testBit_lt_two_pow (i := 31) h1, Nat.testBit_lt_two_pow (Nat.lt_of_lt_of_le h1 (Nat.pow_le_pow_right (by omega) (by omega)))]
      rw [e1, e2, nI_add, bitsN_eq k _ _ (by omega) (by omega)]
      congr 1
      show _ = n + (m % 2 + pcR k (m / 2))
      omega
/-! bits counted side by side -/
theorem by1 : ∀ x, x < 256 → ∀ e, e < 2 → (x / 2 + 128 * e) &&& 85 = (x / 2) &&& 85 := by decide +kernel
theorem by2 : ∀ x, x < 256 → ∀ e, e < 4 → (x / 4 + 64 * e) &&& 51 = (x / 4) &&& 51 := by decide +kernel
def r1 (x : Nat) : Nat := x - ((x / 2) &&& 85)
def r2 (x : Nat) : Nat := ((r1 x) &&& 51) + ((r1 x / 4) &&& 51)
theorem by3 : ∀ x, x < 256 → (x / 2) &&& 85 ≤ x ∧ r1 x < 256 ∧ r2 x < 69 ∧ r2 x % 16 < 5 ∧ (r2 x + r2 x / 16) % 16 = pcR 8 x := by decide +kernel
theorem by4 : ∀ x, x < 73 → ∀ e, e < 5 → (x + 16 * e) &&& 15 = x % 16 := by decide +kernel
def cc1 (m : Nat) : Nat := m - ((m / 2) &&& 1431655765)
def cc2 (y : Nat) : Nat := (y &&& 858993459) + ((y / 4) &&& 858993459)
def cc3 (z : Nat) : Nat := (z + z / 16) &&& 252645135
theorem split3 (p0 p1 p2 k0 k1 k2 : Nat) (h0 : p0 < 256) (h1 : p1 < 256) (g0 : k0 < 256) (g1 : k1 < 256) : (2 ^ 8 * (2 ^ 8 * p2 + p1) + p0) &&& (2 ^ 8 * (2 ^ 8 * k2 + k1) + k0) = 2 ^ 8 * (2 ^ 8 * (p2 &&& k2) + (p1 &&& k1)) + (p0 &&& k0) := by
  rw [and_split 8 _ _ _ _ h0 g0, and_split 8 _ _ _ _ h1 g1]
theorem by5 : ∀ x, x < 16 → ((x / 2) &&& 21845) = ((x / 2) &&& 85) ∧ (r1 x &&& 13107) = (r1 x &&& 51) ∧ ((r1 x / 4) &&& 13107) = ((r1 x / 4) &&& 51) ∧ ((r2 x + r2 x / 16) &&& 3855) = pcR 8 x := by decide +kernel
theorem cc_eq {m0 m1 m2 : Nat} (h0 : m0 < 256) (h1 : m1 < 256) (h2 : m2 < 16) : cc3 (cc2 (cc1 (2 ^ 8 * (2 ^ 8 * m2 + m1) + m0))) = 2 ^ 8 * (2 ^ 8 * pcR 8 m2 + pcR 8 m1) + pcR 8 m0 := by
  have h2' : m2 < 256 := by omega
  obtain ⟨a0, b0, c0, d0, e0⟩ := by3 m0 h0
  obtain ⟨a1, b1, c1, d1, e1⟩ := by3 m1 h1
  obtain ⟨a2, b2, c2, d2, e2⟩ := by3 m2 h2'
  obtain ⟨f1, f2, f3, f4⟩ := by5 m2 h2
  have s1 : cc1 (2 ^ 8 * (2 ^ 8 * m2 + m1) + m0) = 2 ^ 8 * (2 ^ 8 * r1 m2 + r1 m1) + r1 m0 := by
    unfold cc1
    have q : (2 ^ 8 * (2 ^ 8 * m2 + m1) + m0) / 2 = 2 ^ 8 * (2 ^ 8 * (m2 / 2) + (m1 / 2 + 128 * (m2 % 2))) + (m0 / 2 + 128 * (m1 % 2)) := by omega
    rw [q, show (1431655765 : Nat) = 2 ^ 8 * (2 ^ 8 * 21845 + 85) + 85 by decide, split3 _ _ _ _ _ _ (by omega) (by omega) (by omega) (by omega), by1 m0 h0 _ (by omega), by1 m1 h1 _ (by omega), f1]
    unfold r1
    omega
  have s2 : cc2 (2 ^ 8 * (2 ^ 8 * r1 m2 + r1 m1) + r1 m0) = 2 ^ 8 * (2 ^ 8 * r2 m2 + r2 m1) + r2 m0 := by
    unfold cc2
    have q : (2 ^ 8 * (2 ^ 8 * r1 m2 + r1 m1) + r1 m0) / 4 = 2 ^ 8 * (2 ^ 8 * (r1 m2 / 4) + (r1 m1 / 4 + 64 * (r1 m2 % 4))) + (r1 m0 / 4 + 64 * (r1 m1 % 4)) := by omega
    rw [q, show (858993459 : Nat) = 2 ^ 8 * (2 ^ 8 * 13107 + 51) + 51 by decide, split3 _ _ _ _ _ _ (by omega) (by omega) (by omega) (by omega), split3 _ _ _ _ _ _ (by omega) (by omega) (by omega) (by omega), by2 _ b0 _ (by omega), by2 _ b1 _ (by omega), f2, f3]
    unfold r2
    omega
  have s3 : cc3 (2 ^ 8 * (2 ^ 8 * r2 m2 + r2 m1) + r2 m0) = 2 ^ 8 * (2 ^ 8 * pcR 8 m2 + pcR 8 m1) + pcR 8 m0 := by
    unfold cc3
    have q : 2 ^ 8 * (2 ^ 8 * r2 m2 + r2 m1) + r2 m0 + (2 ^ 8 * (2 ^ 8 * r2 m2 + r2 m1) + r2 m0) / 16 = 2 ^ 8 * (2 ^ 8 * (r2 m2 + r2 m2 / 16) + (r2 m1 + r2 m1 / 16 + 16 * (r2 m2 % 16))) + (r2 m0 + r2 m0 / 16 + 16 * (r2 m1 % 16)) := by omega
    rw [q, show (252645135 : Nat) = 2 ^ 8 * (2 ^ 8 * 3855 + 15) + 15 by decide, split3 _ _ _ _ _ _ (by omega) (by omega) (by omega) (by omega), by4 _ (by omega) _ d1, by4 _ (by omega) _ d2, f4, e0, e1]
  rw [s1, s2, s3]
theorem bc1_eq {m : Nat} (h : m < 2 ^ 32) : s_bc1 (nI m) = nI (cc1 m) := by
  unfold s_bc1 cc1
  rw [show (1 : Int32) = nI 1 from rfl, nI_ush (by omega) h, show (1431655765 : Int32) = nI 1431655765 from litI 1431655765, nI_andN, Nat.pow_one, nI_sub (Nat.le_trans Nat.and_le_left (Nat.div_le_self _ _))]
theorem bc2_eq {m : Nat} (h : m < 2 ^ 32) : s_bc2 (nI m) = nI (cc2 m) := by
  unfold s_bc2 cc2
  rw [show (2 : Int32) = nI 2 from rfl, nI_ush (by omega) h, show (858993459 : Int32) = nI 858993459 from litI 858993459, nI_andN, nI_andN, nI_add]
theorem bc3_eq {m : Nat} (h : m < 2 ^ 32) : s_bc3 (nI m) = nI (cc3 m) := by
  unfold s_bc3 cc3
  rw [show (4 : Int32) = nI 4 from rfl, nI_ush (by omega) h, show (252645135 : Int32) = nI 252645135 from litI 252645135, nI_add, nI_andN]
theorem bc4_eq {m : Nat} (h : m < 2 ^ 32) : s_bc4 (nI m) = nI (m + m / 2 ^ 8) := by
  unfold s_bc4
  rw [show (8 : Int32) = nI 8 from rfl, nI_ush (by omega) h, nI_add]
theorem bc5_eq {m : Nat} (h : m < 2 ^ 32) : s_bc5 (nI m) = nI (m + m / 2 ^ 16) := by
  unfold s_bc5
  rw [show (16 : Int32) = nI 16 from rfl, nI_ush (by omega) h, nI_add]
theorem cc1_le (m : Nat) : cc1 m ≤ m := Nat.sub_le _ _
theorem cc2_le (m : Nat) : cc2 m ≤ m + m := Nat.add_le_add Nat.and_le_left (Nat.le_trans Nat.and_le_left (Nat.div_le_self _ _))
theorem pc3 {m0 m1 m2 : Nat} (h0 : m0 < 256) (h1 : m1 < 256) (h2 : m2 < 256) : pcR 32 (2 ^ 8 * (2 ^ 8 * m2 + m1) + m0) = pcR 8 m0 + (pcR 8 m1 + pcR 8 m2) := by
  rw [show (32 : Nat) = 8 + 24 from rfl, pcR_split, show (2 ^ 8 * (2 ^ 8 * m2 + m1) + m0) % 2 ^ 8 = m0 by omega, show (2 ^ 8 * (2 ^ 8 * m2 + m1) + m0) / 2 ^ 8 = 2 ^ 8 * m2 + m1 by omega, show (24 : Nat) = 8 + 16 from rfl, pcR_split, show (2 ^ 8 * m2 + m1) % 2 ^ 8 = m1 by omega, show (2 ^ 8 * m2 + m1) / 2 ^ 8 = m2 by omega, show (16 : Nat) = 8 + 8 from rfl, pcR_big 8 8 m2 (by omega)]
theorem fold3 {p0 p1 p2 : Nat} (h0 : p0 ≤ 8) (h1 : p1 ≤ 8) (h2 : p2 ≤ 8) : (2 ^ 8 * (2 ^ 8 * p2 + p1) + p0 + (2 ^ 8 * (2 ^ 8 * p2 + p1) + p0) / 2 ^ 8 + (2 ^ 8 * (2 ^ 8 * p2 + p1) + p0 + (2 ^ 8 * (2 ^ 8 * p2 + p1) + p0) / 2 ^ 8) / 2 ^ 16) % 64 = p0 + (p1 + p2) := by
  have e1 : (2 ^ 8 * (2 ^ 8 * p2 + p1) + p0) / 2 ^ 8 = 2 ^ 8 * p2 + p1 := by omega
  rw [e1]
  have e2 : (2 ^ 8 * (2 ^ 8 * p2 + p1) + p0 + (2 ^ 8 * p2 + p1)) / 2 ^ 16 = p2 := by omega
  rw [e2]
  omega
theorem bitCount_eq {m : Nat} (h : m < 2 ^ 20) : s_bitCount (nI m) = nI (pcR 32 m) := by
  have hm1 := cc1_le m
  have hm2 := cc2_le (cc1 m)
  unfold s_bitCount
  rw [bc1_eq (by omega), bc2_eq (by omega), bc3_eq (by omega)]
  obtain ⟨m0, m1, m2, h0, h1, h2, e⟩ : ∃ m0 m1 m2, m0 < 256 ∧ m1 < 256 ∧ m2 < 16 ∧ m = 2 ^ 8 * (2 ^ 8 * m2 + m1) + m0 := ⟨m % 256, m / 256 % 256, m / 65536, by omega, by omega, by omega, by omega⟩
  have e1 : cc3 (cc2 (cc1 m)) = 2 ^ 8 * (2 ^ 8 * pcR 8 m2 + pcR 8 m1) + pcR 8 m0 := by
    rw [e]
    exact cc_eq h0 h1 h2
  have e2 : pcR 32 m = pcR 8 m0 + (pcR 8 m1 + pcR 8 m2) := by
    rw [e]
    exact pc3 h0 h1 (by omega)
  have hp0 := pcR_le 8 m0
  have hp1 := pcR_le 8 m1
  have hp2 := pcR_le 8 m2
  rw [e2, e1, bc4_eq (by omega), bc5_eq (by omega), show (63 : Int32) = nI 63 from litI 63, nI_andN]
  have e63 : ∀ v, v &&& 63 = v % 64 := fun v => Nat.and_two_pow_sub_one_eq_mod v 6
  rw [e63, fold3 hp0 hp1 hp2]
