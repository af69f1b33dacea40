/-! counting loops -/
theorem lp_done {k N : Nat} (hN : N < 2 ^ 31) (hk : k ≤ N) (h : nI N ≤ nI k) : k = N := by
  have := (nI_leI (a := N) (b := k) hN (by omega)).mp h
  omega
theorem lp_more {k N : Nat} (hN : N < 2 ^ 31) (hk : k ≤ N) (h : ¬ nI N ≤ nI k) : k < N := by
  rcases Nat.lt_or_ge k N with z | z
  · exact z
  · exact absurd (nI_le z (by omega)) h
theorem nI_cl {k : Nat} (h : k < 2 ^ 31) : (nI k).toNatClampNeg = k := nI_clamp h
theorem odd_nI {k : Nat} (h : k < 2 ^ 31) : (nI k - nI k / 2 * 2 = 0) = (k % 2 = 0) := by
  have e : nI k - nI k / 2 * 2 = nI (k % 2) := pk_rem (a := k) (d := 2) h (by omega) (by omega)
  rw [e]
  exact propext (nI_eq (a := k % 2) (b := 0) (by omega) (by omega))
/-- a row of n numbers, written one behind the other -/
theorem upd_run {f g : Nat → Int32} {k : Nat} {v : Int32} (hv : v = f k) : upd (s_cpN k f g) k v = s_cpN (k + 1) f g := by
  funext j
  unfold upd s_cpN
  by_cases h : j = k
  · rw [if_pos h, if_pos (by omega), hv, h]
  · rw [if_neg h]
    by_cases h2 : j < k
    · rw [if_pos h2, if_pos (by omega)]
    · rw [if_neg h2, if_neg (by omega)]
theorem cpN0 (f g : Nat → Int32) : s_cpN 0 f g = g := rfl
theorem cl9 (x : Int32) : (if 0 < (if x < 9 then x else 9) then (if x < 9 then x else 9) else 0) = s_cl x := by
  unfold s_cl
  grind
theorem ite_odd {α : Type} {k : Nat} (h : k < 2 ^ 31) (a b : α) : (if nI k - nI k / 2 * 2 = 0 then a else b) = if k % 2 = 0 then a else b := by
  simp only [odd_nI h]
theorem initN_ind (to : Int32) (L M : Nat → Int32) : ∀ p, p < 40 → q_initN to L 40 p = q_initN to M 40 p := fun p hp => by
  unfold q_initN
  rw [if_pos hp, if_pos hp]
theorem vpl {x : Int32} {n : Nat} (h : vp_in x n) : x.toNatClampNeg < n := by
  have := vp_in_iff.mp h
  have e : x.toNatClampNeg = x.toInt.toNat := rfl
  omega
theorem vp_mono {x : Int32} {n k : Nat} (h : vp_in x n) (hk : n ≤ k) : vp_in x k := by
  rw [vp_in_iff] at h ⊢
  omega
/-- a stroke leads to a cell of the ice, or off it -/
theorem besideIn {hi wi ce st : Int32} (h : okD hi wi) (hw : ¬ wi = 0) (h0 : 0 ≤ q_beside hi wi ce st) : vp_in (q_beside hi wi ce st) 20 := by
  unfold q_beside at h0 ⊢
  by_cases hc : (0 ≤ q_row wi ce st ∧ q_row wi ce st < hi) ∧ 0 ≤ q_col wi ce st ∧ q_col wi ce st < wi
  · rw [if_pos hc]
    obtain ⟨a, b, ha, hb, rfl, rfl⟩ := h
    obtain ⟨⟨r0, r1⟩, c0, c1⟩ := hc
    obtain ⟨r, hr, er⟩ := vp_in_of (vpN (n := a) (N := nI a) (nI_toInt (by omega)) r0 r1) (by omega)
    obtain ⟨c, hc, ec⟩ := vp_in_of (vpN (n := b) (N := nI b) (nI_toInt (by omega)) c0 c1) (by omega)
    rw [er, ec, nI_mul, nI_add]
    have : r * b + c < 20 := by
      have h1 : r * b + c < (r + 1) * b := by rw [Nat.succ_mul]; omega
      have h2 : (r + 1) * b ≤ 4 * 5 := Nat.mul_le_mul (by omega) hb
      omega
    exact vp_in_nI this (by omega)
  · rw [if_neg hc] at h0
    exact absurd h0 (by decide)
theorem turnOf {p : Nat} (hp : p < 40) : nI p / 20 = 0 ∨ nI p / 20 = 1 := by
  have e : nI p / 20 = nI (p / 20) := pk_div (a := p) (d := 20) (by omega) (by omega) (by omega)
  rw [e]
  rcases (show p / 20 = 0 ∨ p / 20 = 1 by omega) with h | h <;> rw [h]
  · exact Or.inl rfl
  · exact Or.inr rfl
theorem idx40 {be turn : Int32} (h : vp_in be 20) (ht : turn = 0 ∨ turn = 1) : vp_in (be + 20 * (1 - turn)) 40 := by
  obtain ⟨j, hj, rfl⟩ := vp_in_of h (by omega)
  rcases ht with rfl | rfl
  · rw [show (20 : Int32) * (1 - 0) = nI 20 by decide, nI_add]
    exact vp_in_nI (by omega) (by omega)
  · rw [show (20 : Int32) * (1 - 1) = nI 0 by decide, nI_add]
    exact vp_in_nI (by omega) (by omega)
section IND
variable {hi wi br th : Int32} {str kd wt : Nat → Int32} {a b : Int32}
theorem its_ind {L M : Nat → Int32} (h : okD hi wi) (hw : ¬ wi = 0) (hL : ∀ p, p < 40 → L p = M p) {ce turn st : Int32} (ht : turn = 0 ∨ turn = 1) : q_its hi wi br th str kd wt L a b ce turn st = q_its hi wi br th str kd wt M a b ce turn st := by
  unfold q_its
  by_cases hc : q_can hi wi br th str kd wt a b ce turn st
  · rw [if_pos hc, if_pos hc]
    exact hL _ (vpl (idx40 (besideIn h hw hc.1) ht))
  · rw [if_neg hc, if_neg hc]
theorem left0 (hi wi br th : Int32) (str kd wt L : Nat → Int32) (a b ce turn : Int32) : q_leftN hi wi br th str kd wt L a b ce turn 0 = -9 := by unfold q_leftN; rfl
theorem leftS (hi wi br th : Int32) (str kd wt L : Nat → Int32) (a b ce turn : Int32) (k : Nat) : q_leftN hi wi br th str kd wt L a b ce turn (k + 1) = q_best (q_leftN hi wi br th str kd wt L a b ce turn k) (q_its hi wi br th str kd wt L a b ce turn (nI k)) := by conv => lhs; unfold q_leftN
theorem stroke0 (hi wi br th : Int32) (str kd wt L : Nat → Int32) (a b ce turn : Int32) : q_strokeN hi wi br th str kd wt L a b ce turn 0 = -9 := by unfold q_strokeN; rfl
theorem strokeS (hi wi br th : Int32) (str kd wt L : Nat → Int32) (a b ce turn : Int32) (k : Nat) : q_strokeN hi wi br th str kd wt L a b ce turn (k + 1) = if q_stIs hi wi br th str kd wt L a b ce turn (3 - nI k) then 3 - nI k else q_strokeN hi wi br th str kd wt L a b ce turn k := by conv => lhs; unfold q_strokeN
theorem leftN_ind {L M : Nat → Int32} (h : okD hi wi) (hw : ¬ wi = 0) (hL : ∀ p, p < 40 → L p = M p) {ce turn : Int32} (ht : turn = 0 ∨ turn = 1) : ∀ k, q_leftN hi wi br th str kd wt L a b ce turn k = q_leftN hi wi br th str kd wt M a b ce turn k
  | 0 => by rw [left0, left0]
  | k + 1 => by rw [leftS, leftS, leftN_ind h hw hL ht k, its_ind h hw hL ht]
theorem leftBy_ind {L M : Nat → Int32} (h : okD hi wi) (hw : ¬ wi = 0) (hL : ∀ p, p < 40 → L p = M p) {p : Nat} (hp : p < 40) : q_leftBy hi wi br th str kd wt L a b (nI p) = q_leftBy hi wi br th str kd wt M a b (nI p) := leftN_ind h hw hL (turnOf hp) 4
theorem one_ind {L M : Nat → Int32} (h : okD hi wi) (hL : ∀ p, p < 40 → L p = M p) {r p : Nat} (hp : p < 40) : q_one hi wi br th str kd wt a b r p L = q_one hi wi br th str kd wt a b r p M := by
  unfold q_one
  rw [hL p hp]
  by_cases hc : nI (p % 20) < hi * wi ∧ M p < 0
  · have hw : ¬ wi = 0 := by
      intro z
      rw [z, Int32.mul_zero] at hc
      exact absurd hc.1 (nI_pos (by omega))
    rw [if_pos hc, if_pos hc, leftBy_ind h hw hL hp]
  · rw [if_neg hc, if_neg hc]
theorem placesN_ind {L M : Nat → Int32} (h : okD hi wi) (hL : ∀ p, p < 40 → L p = M p) (r : Nat) : ∀ k, k ≤ 40 → ∀ p, p < 40 → q_placesN hi wi br th str kd wt a b r L k p = q_placesN hi wi br th str kd wt a b r M k p
  | 0, _, p, hp => by rw [q_placesN, q_placesN]; exact hL p hp
  | k + 1, hk, p, hp => by
    rw [q_placesN, q_placesN]
    unfold upd
    split
    · exact one_ind h (placesN_ind h hL r k (by omega)) (by omega)
    · exact placesN_ind h hL r k (by omega) p hp
theorem roundsN_ind {L M : Nat → Int32} (h : okD hi wi) (hL : ∀ p, p < 40 → L p = M p) : ∀ r p, p < 40 → q_roundsN hi wi br th str kd wt a b L r p = q_roundsN hi wi br th str kd wt a b M r p
  | 0, p, hp => by rw [q_roundsN, q_roundsN]; exact hL p hp
  | r + 1, p, hp => by
    rw [q_roundsN, q_roundsN]
    exact placesN_ind h (roundsN_ind h hL r) (r + 1) 40 (by omega) p hp
end IND
theorem bondL_ind (hi wi br th : Int32) (str kd wt L M : Nat → Int32) (a b to : Int32) {p : Nat} (h : okD hi wi) (hp : p < 20) : q_bondL hi wi br th str kd wt L a b to p = q_bondL hi wi br th str kd wt M a b to p :=
  roundsN_ind h (initN_ind to L M) 40 p (by omega)
theorem m_wx_ok {sk v r : Int32} (h : m_wxOk sk v) : m_wx sk v r = r := by
  unfold m_wx
  rw [if_neg (fun z => z h.1), if_neg h.2]
theorem upd_upd (f : Nat → Int32) (i : Nat) (x y : Int32) : upd (upd f i x) i y = upd f i y := by
  funext j
  unfold upd
  by_cases h : j = i <;> simp [h]
theorem setN0 (P : Int32 → Int32) (lo : Nat) : m_setN P lo 0 = 0 := by rw [m_setN]
theorem setNS (P : Int32 → Int32) (lo n : Nat) : m_setN P lo (n + 1) = m_setN P lo n ||| (if P (nI (lo + n)) = 0 then 0 else (1 : Int32) <<< (nI (lo + n) &&& 31)) := by rw [m_setN]
theorem mholds0 (hi wi br : Int32) (str kd wt : Nat → Int32) (a b fro to : Int32) : m_holdsN hi wi br str kd wt a b fro to 0 = -9 := by unfold m_holdsN; rfl
theorem mholdsS (hi wi br : Int32) (str kd wt : Nat → Int32) (a b fro to : Int32) (d : Nat) : m_holdsN hi wi br str kd wt a b fro to (d + 1) = if q_isBond hi wi br (nI d) str kd wt a b fro to = 0 then m_holdsN hi wi br str kd wt a b fro to d else nI d := by conv => lhs; unfold m_holdsN
theorem xholds0 (hi wi fc lc : Int32) (str ck cwt : Nat → Int32) (a b fro to : Int32) : x_holdsN hi wi fc lc str ck cwt a b fro to 0 = -9 := by unfold x_holdsN; rfl
theorem xholdsS (hi wi fc lc : Int32) (str ck cwt : Nat → Int32) (a b fro to : Int32) (d : Nat) : x_holdsN hi wi fc lc str ck cwt a b fro to (d + 1) = if s_shortest hi wi fc lc fro to (x_brg hi wi str ck cwt a (nI d)) (x_brg hi wi str ck cwt b (nI d)) = -9 then x_holdsN hi wi fc lc str ck cwt a b fro to d else nI d := by conv => lhs; unfold x_holdsN
theorem mneck0 (hi wi th : Int32) (str kd wt : Nat → Int32) (a b fro to : Int32) (n : Nat) : m_neckN hi wi th str kd wt a b fro to n 0 = -9 := by unfold m_neckN; rfl
theorem mneckS (hi wi th : Int32) (str kd wt : Nat → Int32) (a b fro to : Int32) (n x : Nat) : m_neckN hi wi th str kd wt a b fro to n (x + 1) = if ¬ nI (n - 1 - x) = fro ∧ ¬ nI (n - 1 - x) = to ∧ q_isBond hi wi ((1 : Int32) <<< (nI (n - 1 - x) &&& 31)) th str kd wt a b fro to = 0 then nI (n - 1 - x) else m_neckN hi wi th str kd wt a b fro to n x := by conv => lhs; unfold m_neckN
theorem nI_m1 (k : Nat) : nI (k + 1) + (-1) = nI k := by
  have := nI_pred k
  rw [← this]
  exact (Int32.sub_eq_add_neg _ _).symm
