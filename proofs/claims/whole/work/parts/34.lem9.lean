def posOk (N : Nat) (p : Int32) : Prop := ∃ k : Nat, k ≤ N ∧ p = nI k
section RD
variable {fro : Int32} {N : Nat} {sh : Nat → Int32}
theorem codeLt {k : Nat} (hk : k < 2 ^ 31) (hN : N < 2 ^ 31) (h : ¬ q_code (nI k) fro (nI N) sh = -9) : k < N := by
  rcases Nat.lt_or_ge k N with z | z
  · exact z
  · refine absurd ?_ h
    unfold q_code
    rw [if_neg (fun q => by have := (nI_ltI (a := k) (b := N) hk hN).mp q; omega)]
theorem codeLt0 {k : Nat} (hk : k < 2 ^ 31) (hN : N < 2 ^ 31) {c : Int32} (hc : ¬ c = -9) (h : q_code (nI k) fro (nI N) sh = c) : k < N := codeLt hk hN (by rw [h]; exact hc)
theorem figLt {k : Nat} (hk : k < 2 ^ 31) (hN : N < 2 ^ 31) {lo mo : Int32} (hl : 0 ≤ lo) (h : q_figOk (nI k) fro (nI N) sh lo mo) : k < N := by
  refine codeLt (fro := fro) (sh := sh) hk hN (fun z => ?_)
  have h1 := h.1
  rw [z, show (-9 : Int32) - 48 = -57 by decide] at h1
  grind
theorem figPos {p : Int32} (hN : N ≤ 240) (hp : posOk N p) {lo mo : Int32} (hl : 0 ≤ lo) : posOk N (q_figP p fro (nI N) sh lo mo) := by
  obtain ⟨k, hk, rfl⟩ := hp
  unfold q_figP
  split
  · rename_i h
    exact ⟨k + 1, figLt (by omega) (by omega) hl h, nI_1 k⟩
  · exact ⟨k, hk, rfl⟩
theorem plPos {p wi ce : Int32} (hN : N ≤ 240) (hp : posOk N p) : posOk N (q_plP p fro (nI N) sh wi ce) := by
  unfold q_plP
  split
  · exact hp
  · refine figPos hN ?_ (by decide)
    unfold q_semi
    split
    · rename_i h
      obtain ⟨k, hk, rfl⟩ := hp
      exact ⟨k + 1, codeLt0 (by omega) (by omega) (by decide) h.2, nI_1 k⟩
    · exact hp
theorem skPos {p rs : Int32} (hN : N ≤ 240) (hp : posOk N p) : posOk N (q_skP p fro (nI N) sh rs) := by
  obtain ⟨k, hk, rfl⟩ := hp
  unfold q_skP q_skW
  by_cases h1 : rs = 4 ∨ ¬ q_code (nI k) fro (nI N) sh = 44
  · rw [if_pos h1, if_pos rfl]
    exact ⟨k, hk, rfl⟩
  · rw [if_neg h1]
    have h2 := Classical.not_not.mp (not_or.mp h1).2
    have hk1 := codeLt0 (by omega) (by omega) (by decide) h2
    by_cases h3 : ¬ q_isK (q_code (nI k + 1) fro (nI N) sh)
    · rw [if_pos h3, if_neg (by decide), if_pos rfl]
      exact ⟨k + 1, hk1, nI_1 k⟩
    · have h4 := Classical.not_not.mp h3
      rw [nI_1] at h4
      have hk2 : k + 1 < N := codeLt (fro := fro) (sh := sh) (by omega) (by omega) (by rcases h4 with z | z | z <;> rw [z] <;> decide)
      have hf : posOk N (q_figP (nI k + 1 + 1) fro (nI N) sh 1 9) := figPos hN ⟨k + 2, hk2, by rw [nI_1, nI_1]⟩ (by decide)
      have key : ∀ w : Nat, posOk N (if w = 0 then nI k else if w = 1 then nI k + 1 else q_figP (nI k + 1 + 1) fro (nI N) sh 1 9) := by
        intro w
        by_cases h5 : w = 0
        · rw [if_pos h5]
          exact ⟨k, hk, rfl⟩
        · rw [if_neg h5]
          by_cases h6 : w = 1
          · rw [if_pos h6]
            exact ⟨k + 1, hk1, nI_1 k⟩
          · rw [if_neg h6]
            exact hf
      rw [if_neg h3]
      exact key _
theorem okC_of {F j : Nat} (hl : F + N ≤ 240) (hj : j < 1000) : okC (nI j) (nI F) (nI N) := by
  intro h
  have := (nI_ltI (a := j) (b := N) (by omega) (by omega)).mp h
  rw [nI_add]
  exact vp_in_nI (by omega) (by omega)
theorem figV {ra n lo mo : Int32} (h : 0 ≤ q_figR ra fro n sh lo mo) : lo ≤ q_figR ra fro n sh lo mo ∧ q_figR ra fro n sh lo mo ≤ mo := by
  unfold q_figR at h ⊢
  split
  · rename_i h1
    exact h1
  · rename_i h1
    rw [if_neg h1] at h
    exact absurd h (by decide)
theorem hiOk {n : Int32} (h : 0 < q_hi fro n sh) : ∃ a : Nat, a ≤ 4 ∧ q_hi fro n sh = nI a := by
  unfold q_hi at h ⊢
  split
  · rename_i h1
    rw [if_pos h1] at h
    have h2 := figV (Int32.le_of_lt h)
    exact nI_of2 (by decide) (Int32.not_lt.mpr (Int32.le_of_lt h)) h2.2
  · rename_i h1
    rw [if_neg h1] at h
    exact absurd h (by decide)
theorem wiOk {n : Int32} (h : 0 < q_wi fro n sh) : 0 < q_hi fro n sh ∧ ∃ b : Nat, b ≤ 5 ∧ q_wi fro n sh = nI b := by
  unfold q_wi at h ⊢
  split
  · rename_i h1
    rw [if_pos h1] at h
    have h2 := figV (Int32.le_of_lt h)
    exact ⟨h1, nI_of2 (by decide) (Int32.not_lt.mpr (Int32.le_of_lt h)) h2.2⟩
  · rename_i h1
    rw [if_neg h1] at h
    exact absurd h (by decide)
theorem frOk {n : Int32} (h : 0 ≤ q_fr fro n sh) : okD (q_hi fro n sh) (q_wi fro n sh) ∧ ¬ q_wi fro n sh = 0 := by
  unfold q_fr at h
  split at h
  · rename_i h1
    obtain ⟨h2, b, hb, eb⟩ := wiOk h1
    obtain ⟨a, ha, ea⟩ := hiOk h2
    refine ⟨⟨a, b, ha, hb, ea, eb⟩, fun z => ?_⟩
    rw [z] at h1
    exact absurd h1 (by decide)
  · exact absurd h (by decide)
theorem plR01 (ra n rw' ce : Int32) : q_plR ra fro n sh rw' ce = 0 ∨ q_plR ra fro n sh rw' ce = 1 := by
  unfold q_plR
  grind
theorem cellsS (n wi : Int32) (k ce : Nat) (q : qT) : q_cellsN fro n sh wi (k + 1) ce q = if q.2.2 = 0 then q else q_cellsN fro n sh wi k (ce + 1) (q_plP q.1 fro n sh wi (nI ce), q_plS q.1 fro n sh wi (nI ce) q.2.1, q_plR q.1 fro n sh wi (nI ce)) := by conv => lhs; unfold q_cellsN
theorem cells0 (n wi : Int32) (ce : Nat) (q : qT) : q_cellsN fro n sh wi 0 ce q = q := by unfold q_cellsN; rfl
theorem cellsZ (n wi : Int32) (k ce : Nat) (q : qT) (h : q.2.2 = 0) : q_cellsN fro n sh wi k ce q = q := by
  cases k with
  | zero => exact cells0 _ _ _ _
  | succ k => rw [cellsS, if_pos h]
theorem skatS (n : Int32) (k : Nat) (q : qU) : q_skatN fro n sh (k + 1) q = if ¬ q.2.2.2.2 = 0 ∧ (q.2.2.2.1 < 2 ∨ q.1 < n) then q_skatN fro n sh k (q_skP q.1 fro n sh q.2.2.2.1, q_skK q.1 fro n sh q.2.2.2.1 q.2.1, q_skV q.1 fro n sh q.2.2.2.1 q.2.2.1, q_skN q.1 fro n sh q.2.2.2.1, q_skR q.1 fro n sh q.2.2.2.1) else q := by conv => lhs; unfold q_skatN
theorem skat0 (n : Int32) (q : qU) : q_skatN fro n sh 0 q = q := by unfold q_skatN; rfl
theorem skatZ (n : Int32) (k : Nat) (q : qU) (h : ¬ (¬ q.2.2.2.2 = 0 ∧ (q.2.2.2.1 < 2 ∨ q.1 < n))) : q_skatN fro n sh k q = q := by
  cases k with
  | zero => exact skat0 _ _
  | succ k => rw [skatS, if_neg h]
theorem skNR (ra n : Int32) {d : Nat} (hd : d ≤ 4) : (q_skR ra fro n sh (nI d) = 0 ∧ q_skN ra fro n sh (nI d) = nI d) ∨ (d < 4 ∧ q_skR ra fro n sh (nI d) = 1 ∧ q_skN ra fro n sh (nI d) = nI (d + 1)) := by
  unfold q_skR q_skN
  by_cases h : q_skW ra fro n sh (nI d) = 3
  · rw [if_pos h, if_pos h]
    refine Or.inr ⟨?_, rfl, nI_1 d⟩
    rcases Nat.lt_or_ge d 4 with z | z
    · exact z
    · rw [show d = 4 by omega] at h
      unfold q_skW at h
      have e4 : nI 4 = 4 := rfl
      rw [if_pos (Or.inl e4)] at h
      exact absurd h (by decide)
  · rw [if_neg h, if_neg h]
    exact Or.inl ⟨rfl, rfl⟩
end RD
