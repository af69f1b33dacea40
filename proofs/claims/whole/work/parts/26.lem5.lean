theorem nI_and (a b : Nat) : nI a &&& nI b = nI (a &&& b) := by
  apply Int32.toBitVec_inj.1
  show BitVec.ofNat 32 a &&& BitVec.ofNat 32 b = BitVec.ofNat 32 (a &&& b)
  apply BitVec.eq_of_getLsbD_eq
  intro i hi
  simp [hi]
theorem nI_all (x : Int32) : nI x.toBitVec.toNat = x := by
  apply Int32.toBitVec_inj.1
  show BitVec.ofNat 32 x.toBitVec.toNat = x.toBitVec
  apply BitVec.eq_of_toNat_eq
  rw [BitVec.toNat_ofNat]
  exact Nat.mod_eq_of_lt x.toBitVec.isLt
theorem and_nn (x : Int32) (m : Nat) : ∃ j, j ≤ m ∧ x &&& nI m = nI j :=
  ⟨x.toBitVec.toNat &&& m, Nat.and_le_right, by rw [← nI_and, nI_all]⟩
theorem bc_nn (x : Int32) : ¬ s_bitCount x < 0 := by
  unfold s_bitCount
  obtain ⟨j, hj, e⟩ := and_nn (s_bc5 (s_bc4 (s_bc3 (s_bc2 (s_bc1 x))))) 63
  rw [show (63 : Int32) = nI 63 from rfl, e]
  exact nI_pos (by omega)
theorem par_nI {m : Nat} (h : m < 2 ^ 31) : nI m - nI m / 2 * 2 = nI (m % 2) := pk_rem (a := m) (d := 2) h (by omega) (by omega)
theorem par01 (m : Nat) : nI (m % 2) = 0 ∨ nI (m % 2) = 1 := by
  rcases (show m % 2 = 0 ∨ m % 2 = 1 by omega) with h | h <;> rw [h]
  · exact Or.inl rfl
  · exact Or.inr rfl
theorem alN0 (hi wi br th : Int32) (str kd wt : Nat → Int32) (a set : Int32) : q_alN hi wi br th str kd wt a 0 set = set := by unfold q_alN; rfl
theorem alNS (hi wi br th : Int32) (str kd wt : Nat → Int32) (a set : Int32) (x : Nat) : q_alN hi wi br th str kd wt a (x + 1) set = q_alStep hi wi br th str kd wt a x (q_alN hi wi br th str kd wt a x set) := by conv => lhs; unfold q_alN
theorem alR0 (hi wi br th : Int32) (str kd wt : Nat → Int32) (a : Int32) (n : Nat) (set : Int32) : q_alR hi wi br th str kd wt a n 0 set = set := by unfold q_alR; rfl
theorem alRS (hi wi br th : Int32) (str kd wt : Nat → Int32) (a : Int32) (n : Nat) (set : Int32) (x : Nat) : q_alR hi wi br th str kd wt a n (x + 1) set = q_alN hi wi br th str kd wt a (4 * n) (q_alR hi wi br th str kd wt a n x set) := by conv => lhs; unfold q_alR
theorem div4 {k : Nat} (h : k < 2 ^ 31) : nI k / 4 = nI (k / 4) := pk_div (a := k) (d := 4) h (by omega) (by omega)
theorem rem4 {k : Nat} (h : k < 2 ^ 31) : nI k - nI k / 4 * 4 = nI (k % 4) := pk_rem (a := k) (d := 4) h (by omega) (by omega)
theorem blk_run {g : Nat → Int32} {b m i : Nat} {v : Int32} (hi : i = b + m) : upd (fun q => if b ≤ q ∧ q < b + m then v else g q) i v = fun q => if b ≤ q ∧ q < b + (m + 1) then v else g q := by
  funext j
  unfold upd
  grind
theorem halfS (k : Nat) (u d : Int32) : x_halfN (k + 1) u d = if 1 < d ∧ u - u / 2 * 2 = 0 then x_halfN k (u / 2) (d / 2) else (u, d) := by conv => lhs; unfold x_halfN
theorem half0 (u d : Int32) : x_halfN 0 u d = (u, d) := by unfold x_halfN; rfl
theorem isBd01 (hi wi fc lc : Int32) (str ck cwt : Nat → Int32) (a b fro to br : Int32) : (if x_isBd hi wi fc lc str ck cwt a b fro to br = 0 then (0 : Int32) else 1) = x_isBd hi wi fc lc str ck cwt a b fro to br := by
  unfold x_isBd
  grind
theorem one_shl : ∀ B : Nat, B ≤ 8 → (1 : Int32) <<< (nI B &&& 31) = nI (2 ^ B) ∧ 2 ^ B ≤ 256 := by decide
