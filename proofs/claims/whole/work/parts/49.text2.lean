/-! the cells and the skaters of a text -/
section TY
variable {N F : Nat} {xc sh : Nat → Int32}
theorem one_ne : ¬ (1 : Int32) = 0 := by decide
theorem skW4 (ra fro n : Int32) (sh : Nat → Int32) : q_skW ra fro n sh (nI 4) = 0 := by
  unfold q_skW
  exact if_pos (Or.inl (show nI 4 = (4 : Int32) from rfl))
def mcStep (F N : Nat) (sh : Nat → Int32) (b j : Nat) (q : qT) : qT := if q.2.2 = 0 then q else (q_plP q.1 (nI F) (nI N) sh (nI b) (nI j), q_plS q.1 (nI F) (nI N) sh (nI b) (nI j) q.2.1, q_plR q.1 (nI F) (nI N) sh (nI b) (nI j))
def mcN (F N : Nat) (sh : Nat → Int32) (b : Nat) (q0 : qT) : Nat → qT
  | 0 => q0
  | j + 1 => mcStep F N sh b j (mcN F N sh b q0 j)
theorem mc_stay {b : Nat} {q0 : qT} {j : Nat} (h : (mcN F N sh b q0 j).2.2 = 0) : ∀ d, mcN F N sh b q0 (j + d) = mcN F N sh b q0 j
  | 0 => rfl
  | d + 1 => by
    show mcStep F N sh b (j + d) (mcN F N sh b q0 (j + d)) = _
    rw [mc_stay h d]
    unfold mcStep
    rw [if_pos h]
theorem cells_mc {b : Nat} {q0 : qT} : ∀ k ce, q_cellsN (nI F) (nI N) sh (nI b) k ce (mcN F N sh b q0 ce) = mcN F N sh b q0 (ce + k)
  | 0, ce => cells0 _ _ _ _
  | k + 1, ce => by
    rw [cellsS]
    by_cases z : (mcN F N sh b q0 ce).2.2 = 0
    · rw [if_pos z, mc_stay z]
    · rw [if_neg z]
      have e : mcN F N sh b q0 (ce + 1) = (q_plP (mcN F N sh b q0 ce).1 (nI F) (nI N) sh (nI b) (nI ce), q_plS (mcN F N sh b q0 ce).1 (nI F) (nI N) sh (nI b) (nI ce) (mcN F N sh b q0 ce).2.1, q_plR (mcN F N sh b q0 ce).1 (nI F) (nI N) sh (nI b) (nI ce)) := by
        show mcStep F N sh b ce (mcN F N sh b q0 ce) = _
        unfold mcStep
        rw [if_neg z]
      rw [← e, cells_mc k (ce + 1), Nat.add_assoc, Nat.add_comm 1 k]
def cR (N j : Nat) (t : tT) (str : Nat → Int32) (q : qT) : Prop :=
  (q.2.2 = 0 ∧ ∃ r, r ≤ N ∧ t = (nI r, 1) ∧ q.1 = nI r) ∨ (¬ q.2.2 = 0 ∧ ∃ r, r ≤ N ∧ t = (nI r, 0) ∧ q.1 = nI r ∧ ∀ x, x < j → str x = q.2.1 x ∧ ∃ m, m ≤ 9 ∧ str x = nI m)
theorem due_eq {b j : Nat} (hb : 1 ≤ b) (hb5 : b ≤ 5) (hj : j < 1000) : q_due (nI b) (nI j) = decide (j % b = 0) := by
  unfold q_due
  have e : nI j - nI j / nI b * nI b = nI (j % b) := pk_rem (a := j) (d := b) (by omega) (by omega) (by omega)
  rw [e]
  have hm := Nat.mod_lt j (show 0 < b by omega)
  have e2 : (nI (j % b) = 0) = (j % b = 0) := propext (nI_eq (a := j % b) (b := 0) (by omega) (by omega))
  simp only [e2]
/-- a digit of a cell -/
theorem cell_dig (hN : N ≤ 60) (hF : F + N ≤ 240) (hc : ∀ j, j < N → xc j = sh (F + j)) {j r : Nat} (hj : j < 1000) (hr : r ≤ N) {str rstr : Nat → Int32} (hx : ∀ x, x < j → str x = rstr x ∧ ∃ m, m ≤ 9 ∧ str x = nI m) :
    cR N (j + 1) (dgS (nI N) xc 0 9 (nI r, 0)) (upd str j (dgR (nI N) xc 0 9 (nI r, 0))) (q_figP (nI r) (nI F) (nI N) sh 0 9, upd rstr (nI j).toNatClampNeg (q_figR (nI r) (nI F) (nI N) sh 0 9), if 0 ≤ q_figR (nI r) (nI F) (nI N) sh 0 9 then 1 else 0) := by
  by_cases h : ∃ e, isDig (cdAt N xc r) 0 9 e
  · obtain ⟨e, he⟩ := h
    obtain ⟨r1, d1, v1⟩ := dg_y (lo := 0) (mo := 9) hN (by omega) (by omega) he
    obtain ⟨f1, g1⟩ := fg_y (lo := 0) (mo := 9) hN hF hc (by omega) (by omega) (by omega) he
    have f1' : q_figP (nI r) (nI F) (nI N) sh 0 9 = nI (r + 1) := f1
    have g1' : q_figR (nI r) (nI F) (nI N) sh 0 9 = nI e := g1
    have d1' : dgS (nI N) xc 0 9 (nI r, 0) = (nI (r + 1), 0) := d1
    have v1' : dgR (nI N) xc 0 9 (nI r, 0) = nI e := v1
    have h9 := he.2.1
    rw [f1', g1', d1', v1', if_pos (nI_pos' (by omega)), nI_clamp (by omega)]
    refine Or.inr ⟨one_ne, r + 1, r1, rfl, rfl, fun x hx' => ?_⟩
    show upd str j (nI e) x = upd rstr j (nI e) x ∧ ∃ m, m ≤ 9 ∧ upd str j (nI e) x = nI m
    unfold upd
    by_cases z : x = j
    · rw [if_pos z, if_pos z]
      exact ⟨rfl, e, h9, rfl⟩
    · rw [if_neg z, if_neg z]
      exact hx x (by omega)
  · have d1 := dg_n (r := r) (lo := 0) (mo := 9) hN hr (by omega) (by omega) h
    obtain ⟨f1, g1⟩ := fg_n (r := r) (lo := 0) (mo := 9) hN hF hc (by omega) (by omega) (by omega) h
    have f1' : q_figP (nI r) (nI F) (nI N) sh 0 9 = nI r := f1
    have g1' : q_figR (nI r) (nI F) (nI N) sh 0 9 = -9 := g1
    have d1' : dgS (nI N) xc 0 9 (nI r, 0) = (nI r, 1) := d1
    rw [f1', g1', d1', if_neg (by decide)]
    exact Or.inl ⟨rfl, r, hr, rfl, rfl⟩
theorem cell_plain (hN : N ≤ 60) (hF : F + N ≤ 240) (hc : ∀ j, j < N → xc j = sh (F + j)) {b j : Nat} (hb : 1 ≤ b) (hb5 : b ≤ 5) (hj : j < 1000) (hd : ¬ j % b = 0) {t : tT} {str : Nat → Int32} {q : qT} (h : cR N j t str q) :
    cR N (j + 1) (dgS (nI N) xc 0 9 t) (upd str j (dgR (nI N) xc 0 9 t)) (mcStep F N sh b j q) := by
  unfold mcStep
  rcases h with ⟨h1, r, h2, rfl, h4⟩ | ⟨h1, r, h2, rfl, h4, h5⟩
  · rw [if_pos h1, dg_w]
    exact Or.inl ⟨h1, r, h2, rfl, h4⟩
  · rw [if_neg h1, h4]
    have hdue : q_due (nI b) (nI j) = false := by rw [due_eq hb hb5 hj]; exact decide_eq_false hd
    unfold q_plP q_plS q_plR q_semiBad q_semi
    rw [hdue, if_neg (fun z => Bool.false_ne_true z.1), if_neg (fun z => Bool.false_ne_true z.1), if_neg (fun z => Bool.false_ne_true z.1), if_neg (fun z => Bool.false_ne_true z.1)]
    exact cell_dig hN hF hc hj h2 h5
theorem cell_due (hN : N ≤ 60) (hF : F + N ≤ 240) (hc : ∀ j, j < N → xc j = sh (F + j)) {b j : Nat} (hb : 1 ≤ b) (hb5 : b ≤ 5) (hj : j < 1000) (hd : j % b = 0) {t : tT} {str : Nat → Int32} {q : qT} (h : cR N j t str q) :
    cR N (j + 1) (dgS (nI N) xc 0 9 (tkS (nI N) xc 59 59 t)) (upd str j (dgR (nI N) xc 0 9 (tkS (nI N) xc 59 59 t))) (mcStep F N sh b j q) := by
  unfold mcStep
  rcases h with ⟨h1, r, h2, rfl, h4⟩ | ⟨h1, r, h2, rfl, h4, h5⟩
  · rw [if_pos h1, tk_w, dg_w]
    exact Or.inl ⟨h1, r, h2, rfl, h4⟩
  · rw [if_neg h1, h4]
    have hdue : q_due (nI b) (nI j) = true := by rw [due_eq hb hb5 hj]; exact decide_eq_true hd
    have hcd : q_code (nI r) (nI F) (nI N) sh = cdAt N xc r := code_eq hN hF hc (by omega)
    by_cases hq : cdAt N xc r = 59
    · obtain ⟨r1, s1⟩ := sg_y hN (by decide) hq
      unfold q_plP q_plS q_plR q_semiBad q_semi
      rw [hdue, hcd, if_neg (fun z => z.2 hq), if_pos ⟨rfl, hq⟩, if_neg (fun z => z.2 hq), if_neg (fun z => z.2 hq), s1, nI_1]
      exact cell_dig hN hF hc hj r1 h5
    · have s1 := sg_n hN h2 hq
      unfold q_plP q_plS q_plR q_semiBad
      rw [hdue, hcd, if_pos ⟨rfl, hq⟩, if_pos ⟨rfl, hq⟩, if_pos ⟨rfl, hq⟩, s1, dg_w]
      exact Or.inl ⟨rfl, r, h2, rfl, rfl⟩
theorem col_spec (hN : N ≤ 60) (hF : F + N ≤ 240) (hc : ∀ j, j < N → xc j = sh (F + j)) {b r : Nat} (hb : 1 ≤ b) (hb5 : b ≤ 5) (hr : r ≤ 4) {t : tT} {str : Nat → Int32} {q0 : qT} (h : cR N (r * b) t str (mcN F N sh b q0 (r * b))) :
    ∀ c, c + 1 ≤ b → cR N (r * b + (c + 1)) (colN (nI N) xc (r * b) (tkS (nI N) xc 59 59 t) str (c + 1)).1 (colN (nI N) xc (r * b) (tkS (nI N) xc 59 59 t) str (c + 1)).2 (mcN F N sh b q0 (r * b + (c + 1)))
  | 0, _ => by
    have hrb : r * b ≤ 20 := Nat.le_trans (Nat.mul_le_mul hr hb5) (by decide)
    exact cell_due hN hF hc hb hb5 (j := r * b) (by omega) (Nat.mul_mod_left r b) h
  | c + 1, hcb => by
    have hrb : r * b ≤ 20 := Nat.le_trans (Nat.mul_le_mul hr hb5) (by decide)
    refine cell_plain hN hF hc hb hb5 (j := r * b + (c + 1)) (by omega) ?_ (col_spec hN hF hc hb hb5 hr h c (by omega))
    rw [Nat.add_comm, Nat.add_mul_mod_self_right, Nat.mod_eq_of_lt (by omega)]
    omega
theorem row_spec (hN : N ≤ 60) (hF : F + N ≤ 240) (hc : ∀ j, j < N → xc j = sh (F + j)) {b : Nat} (hb : 1 ≤ b) (hb5 : b ≤ 5) {t : tT} {str : Nat → Int32} {q0 : qT} (h : cR N 0 t str q0) :
    ∀ r, r ≤ 4 → cR N (r * b) (rowN (nI N) xc b t str r).1 (rowN (nI N) xc b t str r).2.1 (mcN F N sh b q0 (r * b))
  | 0, _ => by
    rw [Nat.zero_mul]
    exact h
  | r + 1, hr => by
    have ih := row_spec hN hF hc hb hb5 h r (by omega)
    have hk := col_spec hN hF hc hb hb5 (by omega) ih (b - 1) (by omega)
    rw [Nat.sub_add_cancel hb] at hk
    rw [Nat.succ_mul]
    exact hk
theorem row_fc (xl : Int32) (b : Nat) (t : tT) (str : Nat → Int32) : ∀ r, (rowN xl xc b t str r).2.2 = fcM b r
  | 0 => rfl
  | r + 1 => by
    show (rowN xl xc b t str r).2.2 ||| _ = fcM b r ||| _
    rw [row_fc xl b t str r]
/-! skaters -/
theorem kind_y {r : Nat} (hN : N ≤ 60) (h : q_isK (cdAt N xc r)) : r < N ∧ tkS (nI N) xc (s_kindC (nI N) (nI r) 0 xc) (s_kindC (nI N) (nI r) 0 xc) (nI r, 0) = (nI (r + 1), 0) ∧ s_kindR (nI N) (nI r) 0 xc = q_kindOf (cdAt N xc r) ∧ ∃ m, m ≤ 2 ∧ q_kindOf (cdAt N xc r) = nI m := by
  have hr : r < N := by
    unfold cdAt at h
    rcases Nat.lt_or_ge r N with z | z
    · exact z
    · rw [if_neg (by omega)] at h
      rcases h with h | h | h <;> exact absurd h (by decide)
  have hcd : cdAt N xc r = xc r := by
    unfold cdAt
    rw [if_pos hr]
  have hkc : s_kindCode (nI N) (nI r) 0 xc = xc r := by
    unfold s_kindCode s_go
    rw [if_pos ⟨rfl, nI_lt hr (by omega)⟩, nI_clamp (by omega)]
  have hk : s_kindC (nI N) (nI r) 0 xc = xc r ∧ s_kindR (nI N) (nI r) 0 xc = q_kindOf (xc r) ∧ ∃ m, m ≤ 2 ∧ q_kindOf (xc r) = nI m := by
    unfold s_kindC s_kindR q_kindOf
    rw [hkc]
    rw [hcd] at h
    rcases h with h | h | h
    · rw [h]
      exact ⟨by decide, by decide, 0, by omega, by decide +kernel⟩
    · rw [h]
      exact ⟨by decide, by decide, 1, by omega, by decide +kernel⟩
    · rw [h]
      exact ⟨by decide, by decide, 2, by omega, by decide +kernel⟩
  rw [hcd, hk.1]
  refine ⟨hr, ?_, hk.2.1, hk.2.2⟩
  exact (tk_y hN hr (Int32.le_refl _) (Int32.le_refl _)).1
theorem kind_n {r : Nat} (hN : N ≤ 60) (hr : r ≤ N) (h : ¬ q_isK (cdAt N xc r)) : tkS (nI N) xc (s_kindC (nI N) (nI r) 0 xc) (s_kindC (nI N) (nI r) 0 xc) (nI r, 0) = (nI r, 1) := by
  refine sg_n hN hr (fun z => h ?_)
  rw [z]
  unfold s_kindC
  split
  · exact Or.inr (Or.inl rfl)
  · split
    · exact Or.inr (Or.inr rfl)
    · exact Or.inl rfl
/-- what came of a text -/
def txtR (N : Nat) (C : cT) (M : qU) : Prop :=
  (M.2.2.2.2 = 0 ∧ ¬ s_endW (nI N) C.1.1 C.1.2 = 0 ∧ C.1.1 = M.1 ∧ ∃ r, r < 100 ∧ M.1 = nI r) ∨ (¬ M.2.2.2.2 = 0 ∧ s_endW (nI N) C.1.1 C.1.2 = 0 ∧ ∃ s, 2 ≤ s ∧ s ≤ 4 ∧ C.2.2.2 = nI s ∧ M.2.2.2.1 = nI s ∧ rC s C.2.1 C.2.2.1 M.2.1 M.2.2.1)
theorem endW_w (xl p : Int32) : ¬ s_endW xl p 1 = 0 := by
  unfold s_endW
  rw [if_neg (by decide)]
  decide
theorem txt_bad {C : cT} {M : qU} {r : Nat} (hr : r < 100) (h1 : C.1 = (nI r, 1)) (h2 : M.2.2.2.2 = 0) (h3 : M.1 = nI r) : txtR N C M := by
  refine Or.inl ⟨h2, ?_, ?_, r, hr, h3⟩
  · rw [h1]
    exact endW_w _ _
  · rw [h1, h3]
theorem skat_spec (hN : N ≤ 60) (hF : F + N ≤ 240) (hc : ∀ j, j < N → xc j = sh (F + j)) : ∀ (n a : Nat) (ck cwt rk rw : Nat → Int32) (r : Nat) (ok : Int32), a + n = 4 → r ≤ N → ¬ ok = 0 → rC a ck cwt rk rw →
    txtR N (crwN (nI N) xc n a ((nI r, 0), ck, cwt, nI a)) (q_skatN (nI F) (nI N) sh (n + 1) (nI r, rk, rw, nI a, ok)) := by
  intro n
  induction n with
  | zero =>
    intro a ck cwt rk rw r ok ha hr hok hR
    have e4 : a = 4 := by omega
    subst e4
    rw [crwN]
    by_cases hrN : r < N
    · rw [skatS, if_pos ⟨hok, Or.inr (nI_lt hrN (by omega))⟩, skat0]
      have eP : q_skP (nI r) (nI F) (nI N) sh (nI 4) = nI r := by
        unfold q_skP
        rw [skW4, if_pos rfl]
      refine Or.inl ⟨?_, ?_, eP.symm, r, by omega, eP⟩
      · show q_skR (nI r) (nI F) (nI N) sh (nI 4) = 0
        unfold q_skR
        rw [skW4]
        rfl
      · show ¬ s_endW (nI N) (nI r) 0 = 0
        unfold s_endW
        rw [if_pos rfl, if_pos (nI_lt hrN (by omega))]
        decide
    · rw [skatZ _ _ _ (by
        rintro ⟨-, z | z⟩
        · exact absurd z (show ¬ nI 4 < (2 : Int32) by decide +kernel)
        · have := (nI_ltI (by omega) (by omega)).mp z
          omega)]
      refine Or.inr ⟨hok, ?_, 4, by omega, by omega, rfl, rfl, hR⟩
      show s_endW (nI N) (nI r) 0 = 0
      unfold s_endW
      rw [if_pos rfl, if_neg (fun z => by
        have := (nI_ltI (by omega) (by omega)).mp z
        omega)]
  | succ n ih =>
    intro a ck cwt rk rw r ok ha hr hok hR
    rw [crwN]
    by_cases hg : a < 2 ∨ r < N
    · have hgo : a < 2 ∨ s_go (nI N) (nI r) 0 := by
        rcases hg with z | z
        · exact Or.inl z
        · exact Or.inr ⟨rfl, nI_lt z (by omega)⟩
      have hgm : nI a < 2 ∨ nI r < nI N := by
        rcases hg with z | z
        · exact Or.inl (nI_lt (b := 2) z (by omega))
        · exact Or.inr (nI_lt z (by omega))
      have hmod : q_skatN (nI F) (nI N) sh (n + 1 + 1) (nI r, rk, rw, nI a, ok) = q_skatN (nI F) (nI N) sh (n + 1) (q_skP (nI r) (nI F) (nI N) sh (nI a), q_skK (nI r) (nI F) (nI N) sh (nI a) rk, q_skV (nI r) (nI F) (nI N) sh (nI a) rw, q_skN (nI r) (nI F) (nI N) sh (nI a), q_skR (nI r) (nI F) (nI N) sh (nI a)) := by
        rw [skatS, if_pos ⟨hok, hgm⟩]
      have hcls : (if a < 2 ∨ s_go (nI N) ((nI r, 0), ck, cwt, nI a).1.1 ((nI r, 0), ck, cwt, nI a).1.2 then crwN (nI N) xc n (a + 1) (crw (nI N) xc a ((nI r, 0), ck, cwt, nI a)) else ((nI r, 0), ck, cwt, nI a)) = crwN (nI N) xc n (a + 1) (crw (nI N) xc a ((nI r, 0), ck, cwt, nI a)) := if_pos hgo
      rw [hcls, hmod]
      have ha4 : ¬ nI a = 4 := fun z => by
        have := (nI_eq (a := a) (b := 4) (by omega) (by omega)).mp z
        omega
      have hcd : q_code (nI r) (nI F) (nI N) sh = cdAt N xc r := code_eq hN hF hc (by omega)
      have hcd1 : q_code (nI r + 1) (nI F) (nI N) sh = cdAt N xc (r + 1) := by
        rw [nI_1]
        exact code_eq hN hF hc (by omega)
      by_cases h0 : cdAt N xc r = 44
      · obtain ⟨r0, s0⟩ := sg_y hN (by decide) h0
        by_cases h1 : q_isK (cdAt N xc (r + 1))
        · obtain ⟨r1, k1, k2, m, hm, k3⟩ := kind_y hN h1
          by_cases h2 : ∃ e, isDig (cdAt N xc (r + 2)) 1 9 e
          · obtain ⟨e, he⟩ := h2
            obtain ⟨r2, d1, v1⟩ := dg_y (lo := 1) (mo := 9) hN (by omega) (by omega) he
            obtain ⟨f1, g1⟩ := fg_y (lo := 1) (mo := 9) hN hF hc (by omega) (by omega) (by omega) he
            have hW : q_skW (nI r) (nI F) (nI N) sh (nI a) = 3 := by
              unfold q_skW
              rw [if_neg (by rw [hcd]; exact fun z => z.elim ha4 (fun q => q h0)), hcd1, ifnn h1, nI_1, nI_1, if_neg]
              have g1' : q_figR (nI (r + 1 + 1)) (nI F) (nI N) sh 1 9 = nI e := g1
              rw [g1']
              exact nI_pos (by have := he.2.1; omega)
            have eP : q_skP (nI r) (nI F) (nI N) sh (nI a) = nI (r + 3) := by
              unfold q_skP
              rw [hW, if_neg (by decide), if_neg (by decide), nI_1, nI_1]
              exact f1
            have eK : q_skK (nI r) (nI F) (nI N) sh (nI a) rk = upd rk a (nI m) := by
              unfold q_skK
              rw [if_pos hW, nI_clamp (by omega), hcd1, k3]
            have eV : q_skV (nI r) (nI F) (nI N) sh (nI a) rw = upd rw a (nI e) := by
              unfold q_skV
              rw [if_pos hW, nI_clamp (by omega), nI_1, nI_1]
              exact congrArg (upd rw a) g1
            have eN : q_skN (nI r) (nI F) (nI N) sh (nI a) = nI (a + 1) := by
              unfold q_skN
              rw [if_pos hW, nI_1]
            have eR : q_skR (nI r) (nI F) (nI N) sh (nI a) = 1 := by
              unfold q_skR
              rw [if_pos hW]
            have eC : crw (nI N) xc a ((nI r, 0), ck, cwt, nI a) = ((nI (r + 3), 0), upd ck a (nI m), upd cwt a (nI e), nI (a + 1)) := by
              unfold crw
              have d1' : dgS (nI N) xc 1 9 (nI (r + 2), 0) = (nI (r + 3), 0) := d1
              have v1' : dgR (nI N) xc 1 9 (nI (r + 2), 0) = nI e := v1
              simp only [s0, k1, k2, k3, d1', v1']
            rw [eP, eK, eV, eN, eR, eC]
            refine ih (a + 1) _ _ _ _ (r + 3) 1 (by omega) r2 (by decide) (fun x hx => ?_)
            unfold upd
            by_cases z : x = a
            · rw [if_pos z, if_pos z, if_pos z, if_pos z]
              exact ⟨rfl, rfl, ⟨m, hm, rfl⟩, e, he.1, he.2.1, rfl⟩
            · rw [if_neg z, if_neg z, if_neg z, if_neg z]
              exact hR x (by omega)
          · have d1 := dg_n (r := r + 2) (lo := 1) (mo := 9) hN r1 (by omega) (by omega) h2
            obtain ⟨f1, g1⟩ := fg_n (r := r + 2) (lo := 1) (mo := 9) hN hF hc (by omega) (by omega) (by omega) h2
            have hW : q_skW (nI r) (nI F) (nI N) sh (nI a) = 2 := by
              unfold q_skW
              rw [if_neg (by rw [hcd]; exact fun z => z.elim ha4 (fun q => q h0)), hcd1, ifnn h1, nI_1, nI_1, if_pos]
              have g1' : q_figR (nI (r + 1 + 1)) (nI F) (nI N) sh 1 9 = -9 := g1
              rw [g1']
              decide
            have eP : q_skP (nI r) (nI F) (nI N) sh (nI a) = nI (r + 2) := by
              unfold q_skP
              rw [hW, if_neg (by decide), if_neg (by decide), nI_1, nI_1]
              exact f1
            have eR : q_skR (nI r) (nI F) (nI N) sh (nI a) = 0 := by
              unfold q_skR
              rw [hW]
              rfl
            rw [skatZ _ _ _ (fun z => z.1 eR)]
            refine txt_bad (r := r + 2) (by omega) (crwN_w _ _ _ _ _ _ ?_) eR eP
            unfold crw
            have d1' : dgS (nI N) xc 1 9 (nI (r + 2), 0) = (nI (r + 2), 1) := d1
            simp only [s0, k1, d1']
        · have k1 := kind_n (r := r + 1) hN r0 h1
          have hW : q_skW (nI r) (nI F) (nI N) sh (nI a) = 1 := by
            unfold q_skW
            rw [if_neg (by rw [hcd]; exact fun z => z.elim ha4 (fun q => q h0)), hcd1, ifp0 h1]
          have eP : q_skP (nI r) (nI F) (nI N) sh (nI a) = nI (r + 1) := by
            unfold q_skP
            rw [hW, if_neg (by decide), if_pos rfl, nI_1]
          have eR : q_skR (nI r) (nI F) (nI N) sh (nI a) = 0 := by
            unfold q_skR
            rw [hW]
            rfl
          rw [skatZ _ _ _ (fun z => z.1 eR)]
          refine txt_bad (r := r + 1) (by omega) (crwN_w _ _ _ _ _ _ ?_) eR eP
          unfold crw
          simp only [s0, k1, dg_w]
      · have s0 := sg_n hN hr h0
        have hW : q_skW (nI r) (nI F) (nI N) sh (nI a) = 0 := by
          unfold q_skW
          rw [if_pos (Or.inr (by rw [hcd]; exact h0))]
        have eP : q_skP (nI r) (nI F) (nI N) sh (nI a) = nI r := by
          unfold q_skP
          rw [hW, if_pos rfl]
        have eR : q_skR (nI r) (nI F) (nI N) sh (nI a) = 0 := by
          unfold q_skR
          rw [hW]
          rfl
        rw [skatZ _ _ _ (fun z => z.1 eR)]
        refine txt_bad (r := r) (by omega) (crwN_w _ _ _ _ _ _ ?_) eR eP
        unfold crw
        simp only [s0, tk_w, dg_w]
    · have hgo : ¬ (a < 2 ∨ s_go (nI N) (nI r) 0) := by
        rintro (z | z)
        · exact hg (Or.inl z)
        · have := (nI_ltI (by omega) (by omega)).mp z.2
          exact hg (Or.inr this)
      have hgm : ¬ (¬ ok = 0 ∧ (nI a < 2 ∨ nI r < nI N)) := by
        rintro ⟨-, z | z⟩
        · have := (nI_ltI (a := a) (b := 2) (by omega) (by omega)).mp z
          exact hg (Or.inl this)
        · have := (nI_ltI (by omega) (by omega)).mp z
          exact hg (Or.inr this)
      have hcls : (if a < 2 ∨ s_go (nI N) ((nI r, 0), ck, cwt, nI a).1.1 ((nI r, 0), ck, cwt, nI a).1.2 then crwN (nI N) xc n (a + 1) (crw (nI N) xc a ((nI r, 0), ck, cwt, nI a)) else ((nI r, 0), ck, cwt, nI a)) = ((nI r, 0), ck, cwt, nI a) := if_neg hgo
      rw [hcls, skatZ _ _ _ hgm]
      refine Or.inr ⟨hok, ?_, a, by omega, by omega, rfl, rfl, hR⟩
      show s_endW (nI N) (nI r) 0 = 0
      unfold s_endW
      rw [if_pos rfl, if_neg (fun z => by
        have := (nI_ltI (by omega) (by omega)).mp z
        exact hg (Or.inr this))]
/-- a text, read by both -/
theorem text_ans (hN : N ≤ 60) (hF : F + N ≤ 240) (hc : ∀ j, j < N → xc j = sh (F + j)) (str ck cwt rstr rk rw : Nat → Int32) :
    txtR N (crwAll (nI N) xc (itRow (nI N) xc (0, 0) str).1 ck cwt) (q_sk (nI F) (nI N) sh rstr rk rw) ∧ (¬ (q_sk (nI F) (nI N) sh rstr rk rw).2.2.2.2 = 0 → ∃ a b f, 1 ≤ a ∧ a ≤ 4 ∧ 2 ≤ b ∧ b ≤ 5 ∧ f ≤ 9 ∧ itHi (nI N) xc (0, 0) = nI a ∧ itWi (nI N) xc (0, 0) = nI b ∧ itFr (nI N) xc (0, 0) = nI f ∧ q_hi (nI F) (nI N) sh = nI a ∧ q_wi (nI F) (nI N) sh = nI b ∧ q_fr (nI F) (nI N) sh = nI f ∧ (itRow (nI N) xc (0, 0) str).2.2 = fcM b a ∧ rS (a * b) (itRow (nI N) xc (0, 0) str).2.1 (q_ce (nI F) (nI N) sh rstr).2.1) := by
  rcases head_spec (xc := xc) (sh := sh) hN hF hc with ⟨a, b, f, ha, ha4, hb, hb5, hf, hN4, e1, e2, e3, e4, e5, e6, e7, e8⟩ | ⟨r, e0, e1, e2, e3⟩
  · have hit : itRow (nI N) xc (0, 0) str = rowN (nI N) xc b (nI 4, 0) str a := by
      unfold itRow
      rw [e1, e2, e3, nI_clamp (by omega), nI_clamp (by omega)]
    have hce : q_ce (nI F) (nI N) sh rstr = mcN F N sh b (nI 4, rstr, 1) (a * b) := by
      have hab : a * b ≤ 20 := Nat.le_trans (Nat.mul_le_mul ha4 hb5) (by decide)
      have hfp : (0 : Int32) ≤ q_fr (nI F) (nI N) sh := by
        rw [e7]
        exact nI_pos' (by omega)
      unfold q_ce
      rw [if_pos hfp, if_pos hfp, e5, e6, e8, nI_mul, nI_clamp (by omega)]
      have := cells_mc (F := F) (N := N) (sh := sh) (b := b) (q0 := (nI 4, rstr, 1)) (a * b) 0
      rw [Nat.zero_add] at this
      exact this
    have hrow := row_spec hN hF hc (by omega) hb5 (t := (nI 4, 0)) (str := str) (q0 := (nI 4, rstr, 1)) (Or.inr ⟨one_ne, 4, hN4, rfl, rfl, fun x hx => absurd hx (Nat.not_lt_zero x)⟩) a ha4
    rw [← hit, ← hce] at hrow
    have hsk : q_sk (nI F) (nI N) sh rstr rk rw = q_skatN (nI F) (nI N) sh 5 ((q_ce (nI F) (nI N) sh rstr).1, rk, rw, 0, (q_ce (nI F) (nI N) sh rstr).2.2) := rfl
    have hca : crwAll (nI N) xc (itRow (nI N) xc (0, 0) str).1 ck cwt = crwN (nI N) xc 4 0 ((itRow (nI N) xc (0, 0) str).1, ck, cwt, 0) := rfl
    rw [hsk, hca]
    rcases hrow with ⟨h1, r, h2, h3, h4⟩ | ⟨h1, r, h2, h3, h4, h5⟩
    · have hz : q_skatN (nI F) (nI N) sh 5 ((q_ce (nI F) (nI N) sh rstr).1, rk, rw, 0, (q_ce (nI F) (nI N) sh rstr).2.2) = ((q_ce (nI F) (nI N) sh rstr).1, rk, rw, 0, (q_ce (nI F) (nI N) sh rstr).2.2) := skatZ _ _ _ (fun z => z.1 h1)
      rw [hz]
      exact ⟨txt_bad (r := r) (by omega) (crwN_w _ _ _ _ _ _ h3) h1 h4, fun z => absurd h1 z⟩
    · rw [h3, h4]
      refine ⟨skat_spec hN hF hc 4 0 ck cwt rk rw r _ (by omega) h2 h1 (fun x hx => absurd hx (Nat.not_lt_zero x)), fun _ => ⟨a, b, f, ha, ha4, hb, hb5, hf, e2, e3, e4, e5, e6, e7, ?_, h5⟩⟩
      rw [hit]
      exact row_fc ..
  · have hce : q_ce (nI F) (nI N) sh rstr = (nI r, rstr, 0) := by
      unfold q_ce
      rw [if_neg e3, if_neg e3, e2, cells0]
    have hz : q_sk (nI F) (nI N) sh rstr rk rw = (nI r, rk, rw, 0, 0) := by
      unfold q_sk
      rw [hce]
      exact skatZ _ _ _ (fun z => z.1 rfl)
    rw [hz]
    refine ⟨txt_bad (r := r) e0 ?_ rfl rfl, fun z => absurd rfl z⟩
    unfold crwAll
    refine crwN_w _ _ _ _ _ _ ?_
    show (itRow (nI N) xc (0, 0) str).1 = (nI r, 1)
    unfold itRow
    rw [e1]
    exact row_w ..
end TY
