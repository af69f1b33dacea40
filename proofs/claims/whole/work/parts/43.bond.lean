/-! the reference's rounds -/
def gD (a b to : Nat) (b0 b1 : Nat → Bool) (t c : Nat) : Nat → Prop := fun m => gU a b to m (if t = 0 then b0 else b1) (if t = 0 then b1 else b0) c
def gAt (P : Nat → Prop) (r : Nat) (v : Int32) : Prop := (∃ m, m ≤ r ∧ P m ∧ (∀ j, j < m → ¬ P j) ∧ v = nI m) ∨ ((∀ j, j ≤ r → ¬ P j) ∧ v = -9)
theorem gAt.lst {P : Nat → Prop} {r' v : Int32} (h : gAt P 40 v) (h' : gLst P r') : v = r' := by
  rcases h with ⟨m, h1, h2, h3, h4⟩ | ⟨h1, h2⟩ <;> rcases h' with ⟨n, g1, g2, g3, g4⟩ | ⟨g1, g2⟩
  · rw [h4, g4, fb_first_one h2 h3 g2 g3]
  · exact absurd h2 (g1 m)
  · exact absurd g2 (h1 n (by omega))
  · rw [h2, g2]
theorem m9nI {m : Nat} (h : m < 2 ^ 31) : ¬ (-9 : Int32) = nI m := fun e => by
  have h1 := nI_pos' h
  rw [← e] at h1
  exact absurd h1 (by decide)
/-- what the least of four is -/
def bestOf (its : Nat → Int32) (k : Nat) (v : Int32) : Prop := (v = -9 ∧ ∀ st, st < k → its st = -9) ∨ ∃ m st, m < 100 ∧ st < k ∧ its st = nI m ∧ v = nI (m + 1) ∧ ∀ st' m', st' < k → m' < 100 → its st' = nI m' → m ≤ m'
theorem best_step {its : Nat → Int32} {k : Nat} {v : Int32} (h : bestOf its k v) (hk : its k = -9 ∨ ∃ m, m < 100 ∧ its k = nI m) : bestOf its (k + 1) (q_best v (its k)) := by
  unfold q_best
  rcases hk with hk | ⟨m, hm, hk⟩
  · rw [hk, if_neg (fun z => absurd z.1 (by decide))]
    rcases h with ⟨h1, h2⟩ | ⟨m, st, h1, h2, h3, h4, h5⟩
    · refine Or.inl ⟨h1, fun st hst => ?_⟩
      rcases Nat.lt_or_ge st k with z | z
      · exact h2 st z
      · rw [show st = k by omega]; exact hk
    · refine Or.inr ⟨m, st, h1, by omega, h3, h4, fun st' m' h6 h7 h8 => ?_⟩
      rcases Nat.lt_or_ge st' k with z | z
      · exact h5 st' m' z h7 h8
      · rw [show st' = k by omega, hk] at h8
        exact absurd h8 (m9nI (by omega))
  · rw [hk]
    have hp : (0 : Int32) ≤ nI m := nI_pos' (by omega)
    rcases h with ⟨h1, h2⟩ | ⟨m0, st, h1, h2, h3, h4, h5⟩
    · rw [h1, if_pos ⟨hp, Or.inl (by decide)⟩, nI_1]
      refine Or.inr ⟨m, k, hm, by omega, hk, rfl, fun st' m' h6 h7 h8 => ?_⟩
      rcases Nat.lt_or_ge st' k with z | z
      · rw [h2 st' z] at h8
        exact absurd h8 (m9nI (by omega))
      · rw [show st' = k by omega, hk] at h8
        exact Nat.le_of_eq ((nI_eq (by omega) (by omega)).mp h8)
    · rw [h4, nI_1]
      by_cases hlt : m < m0
      · rw [if_pos ⟨hp, Or.inr ((nI_ltI (by omega) (by omega)).mpr (by omega))⟩]
        refine Or.inr ⟨m, k, hm, by omega, hk, rfl, fun st' m' h6 h7 h8 => ?_⟩
        rcases Nat.lt_or_ge st' k with z | z
        · have := h5 st' m' z h7 h8
          omega
        · rw [show st' = k by omega, hk] at h8
          exact Nat.le_of_eq ((nI_eq (by omega) (by omega)).mp h8)
      · rw [if_neg (fun z => by
          rcases z.2 with z | z
          · exact nI_pos (by omega) z
          · have := (nI_ltI (by omega) (by omega)).mp z
            omega)]
        refine Or.inr ⟨m0, st, h1, by omega, h3, rfl, fun st' m' h6 h7 h8 => ?_⟩
        rcases Nat.lt_or_ge st' k with z | z
        · exact h5 st' m' z h7 h8
        · rw [show st' = k by omega, hk] at h8
          have := (nI_eq (by omega) (by omega)).mp h8
          omega
section MB
variable {a b to : Nat} {br th : Int32} {str kd wt : Nat → Int32} {A B : Int32} {b0 b1 : Nat → Bool}
/-- the reference's bearing, as two sets -/
def mBr (n : Nat) (br th : Int32) (str kd wt : Nat → Int32) (A : Int32) (b0 : Nat → Bool) : Prop := ∀ c, c < n → q_bears br th str kd wt (nI c) A = if b0 c = true then 1 else 0
theorem gLed_lt {a b : Nat} (h : gOk a b) {c st : Nat} (hc : c < a * b) (hs : st < 4) : ∀ d, gLed a b c st = some d → d < 2 ^ 31 := fun d e => by
  have h1 := (gled1 h hc hs e).1
  have h2 := h.le
  omega
theorem nI_turn {t : Nat} (ht : t < 2) : (20 : Int32) * (1 - nI t) = nI (20 * (1 - t)) := by
  rcases (show t = 0 ∨ t = 1 by omega) with rfl | rfl <;> decide +kernel
theorem nI_t0 {t : Nat} (ht : t < 2) : (nI t = 0) = (t = 0) := by
  rcases (show t = 0 ∨ t = 1 by omega) with rfl | rfl <;> decide +kernel
/-- one stroke's -/
theorem can_spec (h : gOk a b) (h0 : mBr (a * b) br th str kd wt A b0) (h1 : mBr (a * b) br th str kd wt B b1) {c t st : Nat} (hc : c < a * b) (ht : t < 2) (hs : st < 4) :
    q_can (nI a) (nI b) br th str kd wt A B (nI c) (nI t) (nI st) ↔ ∃ d, gLed a b c st = some d ∧ (if t = 0 then b0 else b1) d = true := by
  unfold q_can
  rw [h.qbes hc hs, oN_pos _ (gLed_lt h hc hs)]
  constructor
  · rintro ⟨⟨d, e⟩, h3⟩
    refine ⟨d, e, ?_⟩
    have hd := (gled1 h hc hs e).1
    rw [e] at h3
    simp only [nI_t0 ht] at h3
    by_cases z : t = 0
    · rw [if_pos z] at h3 ⊢
      rw [show oN (some d) = nI d from rfl, h0 d hd] at h3
      cases e2 : b0 d with
      | true => rfl
      | false => simp [e2] at h3
    · rw [if_neg z] at h3 ⊢
      rw [show oN (some d) = nI d from rfl, h1 d hd] at h3
      cases e2 : b1 d with
      | true => rfl
      | false => simp [e2] at h3
  · rintro ⟨d, e, h3⟩
    refine ⟨⟨d, e⟩, ?_⟩
    have hd := (gled1 h hc hs e).1
    rw [e]
    simp only [nI_t0 ht]
    by_cases z : t = 0
    · rw [if_pos z] at h3 ⊢
      rw [show oN (some d) = nI d from rfl, h0 d hd, h3]
      decide
    · rw [if_neg z] at h3 ⊢
      rw [show oN (some d) = nI d from rfl, h1 d hd, h3]
      decide
theorem its_spec (h : gOk a b) (h0 : mBr (a * b) br th str kd wt A b0) (h1 : mBr (a * b) br th str kd wt B b1) {c t st : Nat} (hc : c < a * b) (ht : t < 2) (hs : st < 4) (L : Nat → Int32) :
    (∃ d, gLed a b c st = some d ∧ (if t = 0 then b0 else b1) d = true ∧ q_its (nI a) (nI b) br th str kd wt L A B (nI c) (nI t) (nI st) = L (d + 20 * (1 - t))) ∨ ((∀ d, gLed a b c st = some d → ¬ (if t = 0 then b0 else b1) d = true) ∧ q_its (nI a) (nI b) br th str kd wt L A B (nI c) (nI t) (nI st) = -9) := by
  have hl := h.le
  unfold q_its
  by_cases hq : q_can (nI a) (nI b) br th str kd wt A B (nI c) (nI t) (nI st)
  · obtain ⟨d, e, h3⟩ := (can_spec h h0 h1 hc ht hs).mp hq
    refine Or.inl ⟨d, e, h3, ?_⟩
    have hd := (gled1 h hc hs e).1
    rw [if_pos hq, h.qbes hc hs, e, show oN (some d) = nI d from rfl, nI_turn ht, nI_add, nI_clamp (by omega)]
  · refine Or.inr ⟨fun d e h3 => hq ((can_spec h h0 h1 hc ht hs).mpr ⟨d, e, h3⟩), if_neg hq⟩
def gInv (a b to : Nat) (b0 b1 : Nat → Bool) (r p : Nat) (L : Nat → Int32) : Prop := ∀ t, t < 2 → ∀ c, c < a * b → gAt (gD a b to b0 b1 t c) (if c + 20 * t < p then r + 1 else r) (L (c + 20 * t))
theorem gAt.val {P : Nat → Prop} {r : Nat} {v : Int32} (h : gAt P r v) (hr : r < 100) : v = -9 ∨ ∃ m, m < 100 ∧ v = nI m := by
  rcases h with ⟨m, h1, -, -, h4⟩ | ⟨-, h2⟩
  · exact Or.inr ⟨m, by omega, h4⟩
  · exact Or.inl h2
theorem gAt.of {P : Nat → Prop} {r m : Nat} {v : Int32} (h : gAt P r v) (hr : r < 100) (hm : m < 100) (e : v = nI m) : P m := by
  rcases h with ⟨m', h1, h2, -, h4⟩ | ⟨-, h2⟩
  · rw [h4] at e
    have := (nI_eq (by omega) (by omega)).mp e
    subst this
    exact h2
  · rw [h2] at e
    exact absurd e (m9nI (by omega))
theorem gD_step {t c d st m : Nat} (ht : t < 2) (hs : st < 4) (e : gLed a b c st = some d) (h3 : (if t = 0 then b0 else b1) d = true) (h4 : gD a b to b0 b1 (1 - t) d m) : gD a b to b0 b1 t c (m + 1) := by
  refine ⟨d, st, hs, e, h3, ?_⟩
  unfold gD at h4
  rcases (show t = 0 ∨ t = 1 by omega) with rfl | rfl
  · exact h4
  · exact h4
theorem left_spec (h : gOk a b) (h0 : mBr (a * b) br th str kd wt A b0) (h1 : mBr (a * b) br th str kd wt B b1) {c t : Nat} (hc : c < a * b) (ht : t < 2) {L : Nat → Int32} {r p : Nat} (hr : r < 50) (hL : gInv a b to b0 b1 r p L) (hno : ∀ j, j ≤ r → ¬ gD a b to b0 b1 t c j) :
    (q_leftN (nI a) (nI b) br th str kd wt L A B (nI c) (nI t) 4 = nI (r + 1)) ↔ gD a b to b0 b1 t c (r + 1) := by
  let its : Nat → Int32 := fun st => q_its (nI a) (nI b) br th str kd wt L A B (nI c) (nI t) (nI st)
  have hgd : ∀ st d, st < 4 → gLed a b c st = some d → gAt (gD a b to b0 b1 (1 - t) d) (if d + 20 * (1 - t) < p then r + 1 else r) (L (d + 20 * (1 - t))) := fun st d hs e => hL (1 - t) (by omega) d (gled1 h hc hs e).1
  have hlt : ∀ x : Nat, (if x < p then r + 1 else r) < 100 := fun x => by split <;> omega
  have hits : ∀ st, st < 4 → its st = -9 ∨ ∃ m, m < 100 ∧ its st = nI m := fun st hs => by
    rcases its_spec h h0 h1 hc ht hs L with ⟨d, e1, e2, e3⟩ | ⟨-, e3⟩
    · show q_its _ _ _ _ _ _ _ _ _ _ _ _ _ = _ ∨ _
      have := (hgd st d hs e1).val (hlt _)
      rw [← e3] at this
      exact this
    · exact Or.inl e3
  have hb : bestOf its 4 (q_leftN (nI a) (nI b) br th str kd wt L A B (nI c) (nI t) 4) := by
    have z : bestOf its 0 (q_leftN (nI a) (nI b) br th str kd wt L A B (nI c) (nI t) 0) := by
      rw [left0]
      exact Or.inl ⟨rfl, fun st hst => absurd hst (Nat.not_lt_zero st)⟩
    rw [leftS, leftS, leftS, leftS]
    exact best_step (best_step (best_step (best_step z (hits 0 (by omega))) (hits 1 (by omega))) (hits 2 (by omega))) (hits 3 (by omega))
  have hval : ∀ st m, st < 4 → m < 100 → its st = nI m → gD a b to b0 b1 t c (m + 1) := fun st m hs hm e => by
    rcases its_spec h h0 h1 hc ht hs L with ⟨d, e1, e2, e3⟩ | ⟨-, e3⟩
    · have e4 : L (d + 20 * (1 - t)) = nI m := e3.symm.trans e
      exact gD_step ht hs e1 e2 ((hgd st d hs e1).of (hlt _) hm e4)
    · exact absurd (e3.symm.trans e) (m9nI (by omega))
  constructor
  · intro e
    rcases hb with ⟨g1, -⟩ | ⟨m, st, g1, g2, g3, g4, -⟩
    · rw [g1] at e
      exact absurd e (m9nI (by omega))
    · rw [g4] at e
      have := (nI_eq (by omega) (by omega)).mp e
      rw [← this]
      exact hval st m g2 g1 g3
  · rintro ⟨d, st, hs, e, e2, e3⟩
    have e3' : gD a b to b0 b1 (1 - t) d r := by
      unfold gD
      rcases (show t = 0 ∨ t = 1 by omega) with rfl | rfl
      · exact e3
      · exact e3
    have hm : ∃ m, m ≤ r ∧ L (d + 20 * (1 - t)) = nI m := by
      rcases hgd st d hs e with ⟨m, -, -, h3, h4⟩ | ⟨h2, -⟩
      · refine ⟨m, ?_, h4⟩
        rcases Nat.lt_or_ge r m with z | z
        · exact absurd e3' (h3 r z)
        · exact z
      · exact absurd e3' (h2 r (by split <;> omega))
    obtain ⟨m, hm1, hm2⟩ := hm
    have hit : its st = nI m := by
      rcases its_spec h h0 h1 hc ht hs L with ⟨d', e1', -, e3'⟩ | ⟨e2', -⟩
      · rw [e] at e1'
        cases e1'
        exact e3'.trans hm2
      · exact absurd e2 (e2' d e)
    rcases hb with ⟨-, g2⟩ | ⟨m', st', g1, g2, g3, g4, g5⟩
    · rw [g2 st hs] at hit
      exact absurd hit (m9nI (by omega))
    · have := g5 st m hs (by omega) hit
      have h6 := hval st' m' g2 g1 g3
      have h7 : ¬ m' + 1 ≤ r := fun z => hno (m' + 1) z h6
      rw [g4, show m' = r by omega]
theorem one_spec (h : gOk a b) (h0 : mBr (a * b) br th str kd wt A b0) (h1 : mBr (a * b) br th str kd wt B b1) {L : Nat → Int32} {r p : Nat} (hr : r < 50) (hp : p < 40) (hL : gInv a b to b0 b1 r p L) :
    gInv a b to b0 b1 r (p + 1) (upd L p (q_one (nI a) (nI b) br th str kd wt A B (r + 1) p L)) := by
  have hl := h.le
  intro t ht c hc
  by_cases hpc : c + 20 * t = p
  · have hq := hL t ht c hc
    rw [hpc] at hq
    rw [if_neg (by omega)] at hq
    rw [hpc, if_pos (by omega)]
    unfold upd
    rw [if_pos rfl]
    have hc2 : p % 20 = c := by omega
    have ht2 : p / 20 = t := by omega
    unfold q_one q_leftBy
    have e1 : nI p - nI p / 20 * 20 = nI c := by
      have e : nI p - nI p / 20 * 20 = nI (p % 20) := pk_rem (a := p) (d := 20) (by omega) (by omega) (by omega)
      rw [e, hc2]
    have e2 : nI p / 20 = nI t := by
      have e : nI p / 20 = nI (p / 20) := pk_div (a := p) (d := 20) (by omega) (by omega) (by omega)
      rw [e, ht2]
    rw [e1, e2, hc2, h.cells]
    rcases hq with ⟨m, g1, g2, g3, g4⟩ | ⟨g1, g2⟩
    · rw [if_neg (fun z => by
        rw [g4] at z
        exact nI_pos (by omega) z.2), if_neg (m9nI (by omega))]
      exact Or.inl ⟨m, by omega, g2, g3, g4⟩
    · rw [if_pos ⟨(nI_ltI (by omega) (by omega)).mpr hc, by rw [g2]; decide⟩]
      by_cases hD : gD a b to b0 b1 t c (r + 1)
      · rw [if_pos ((left_spec h h0 h1 hc ht hr hL g1).mpr hD), (left_spec h h0 h1 hc ht hr hL g1).mpr hD]
        exact Or.inl ⟨r + 1, Nat.le_refl _, hD, fun j hj => g1 j (by omega), rfl⟩
      · rw [if_neg (fun z => hD ((left_spec h h0 h1 hc ht hr hL g1).mp z))]
        refine Or.inr ⟨fun j hj => ?_, g2⟩
        rcases Nat.lt_or_ge r j with z | z
        · rw [show j = r + 1 by omega]; exact hD
        · exact g1 j z
  · unfold upd
    rw [if_neg hpc]
    have := hL t ht c hc
    by_cases z : c + 20 * t < p
    · rw [if_pos z] at this
      rw [if_pos (by omega)]
      exact this
    · rw [if_neg z] at this
      rw [if_neg (by omega)]
      exact this
theorem places_spec (h : gOk a b) (h0 : mBr (a * b) br th str kd wt A b0) (h1 : mBr (a * b) br th str kd wt B b1) {L : Nat → Int32} {r : Nat} (hr : r < 50) (hL : gInv a b to b0 b1 r 0 L) : ∀ p, p ≤ 40 → gInv a b to b0 b1 r p (q_placesN (nI a) (nI b) br th str kd wt A B (r + 1) L p)
  | 0, _ => by rw [q_placesN]; exact hL
  | p + 1, hp => by
    rw [q_placesN]
    exact one_spec h h0 h1 hr (by omega) (places_spec h h0 h1 hr hL p (by omega))
theorem inv_up {L : Nat → Int32} {r : Nat} (hl : a * b ≤ 20) (hL : gInv a b to b0 b1 r 40 L) : gInv a b to b0 b1 (r + 1) 0 L := fun t ht c hc => by
  have := hL t ht c hc
  rw [if_pos (by omega)] at this
  rw [if_neg (by omega)]
  exact this
theorem rounds_spec (h : gOk a b) (h0 : mBr (a * b) br th str kd wt A b0) (h1 : mBr (a * b) br th str kd wt B b1) {L : Nat → Int32} (hL : gInv a b to b0 b1 0 0 L) : ∀ r, r ≤ 40 → gInv a b to b0 b1 r 0 (q_roundsN (nI a) (nI b) br th str kd wt A B L r)
  | 0, _ => by rw [q_roundsN]; exact hL
  | r + 1, hr => by
    rw [q_roundsN]
    exact inv_up h.le (places_spec h h0 h1 (by omega) (rounds_spec h h0 h1 hL r (by omega)) 40 (by omega))
theorem bondL_spec (h : gOk a b) (ht : to < a * b) (h0 : mBr (a * b) br th str kd wt A b0) (h1 : mBr (a * b) br th str kd wt B b1) (L0 : Nat → Int32) {t c : Nat} (htt : t < 2) (hc : c < a * b) :
    gAt (gD a b to b0 b1 t c) 40 (q_bondL (nI a) (nI b) br th str kd wt L0 A B (nI to) (c + 20 * t)) := by
  have hl := h.le
  have hi : gInv a b to b0 b1 0 0 (q_initN (nI to) L0 40) := fun t ht' c hc' => by
    rw [if_neg (by omega)]
    unfold q_initN
    rw [if_pos (by omega), show (c + 20 * t) % 20 = c by omega]
    by_cases e : c = to
    · rw [if_pos (by rw [e])]
      exact Or.inl ⟨0, Nat.le_refl _, e, fun j hj => absurd hj (Nat.not_lt_zero j), rfl⟩
    · rw [if_neg (fun z => e ((nI_eq (by omega) (by omega)).mp z))]
      refine Or.inr ⟨fun j hj hw => ?_, rfl⟩
      have e0 : j = 0 := by omega
      subst e0
      exact e hw
  have := rounds_spec h h0 h1 hi 40 (Nat.le_refl _) t htt c hc
  rw [if_neg (by omega)] at this
  exact this
/-- the two searches answer alike -/
theorem bond_eq (h : gOk a b) (ht : to < a * b) (h0 : mBr (a * b) br th str kd wt A b0) (h1 : mBr (a * b) br th str kd wt B b1) {bf bs : Int32} (g0 : ∀ k, k < a * b → bt bf k = b0 k) (g1 : ∀ k, k < a * b → bt bs k = b1 k) (L0 : Nat → Int32) {t c : Nat} (htt : t < 2) (hc : c < a * b) :
    q_bondL (nI a) (nI b) br th str kd wt L0 A B (nI to) (c + 20 * t) = s_shortest (nI a) (nI b) (fcM b a) (lcM a b) (nI c) (nI to) (if t = 0 then bf else bs) (if t = 0 then bs else bf) := by
  refine (bondL_spec h ht h0 h1 L0 htt hc).lst ?_
  rcases (show t = 0 ∨ t = 1 by omega) with rfl | rfl
  · exact short_spec h hc ht g0 g1
  · exact short_spec h hc ht g1 g0
theorem bond_lst (h : gOk a b) (ht : to < a * b) (h0 : mBr (a * b) br th str kd wt A b0) (h1 : mBr (a * b) br th str kd wt B b1) {bf bs : Int32} (g0 : ∀ k, k < a * b → bt bf k = b0 k) (g1 : ∀ k, k < a * b → bt bs k = b1 k) (L0 : Nat → Int32) {t c : Nat} (htt : t < 2) (hc : c < a * b) :
    gLst (gD a b to b0 b1 t c) (q_bondL (nI a) (nI b) br th str kd wt L0 A B (nI to) (c + 20 * t)) := by
  rw [bond_eq h ht h0 h1 g0 g1 L0 htt hc]
  rcases (show t = 0 ∨ t = 1 by omega) with rfl | rfl
  · exact short_spec h hc ht g0 g1
  · exact short_spec h hc ht g1 g0
end MB
