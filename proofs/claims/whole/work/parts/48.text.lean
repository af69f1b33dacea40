/-! texts: the class's reading and the reference's -/
section TX
variable {N F : Nat} {xc sh : Nat → Int32}
/-- the code at a place, or none -/
def cdAt (N : Nat) (xc : Nat → Int32) (r : Nat) : Int32 := if r < N then xc r else -9
theorem code_eq (hN : N ≤ 60) (hF : F + N ≤ 240) (hc : ∀ j, j < N → xc j = sh (F + j)) {r : Nat} (hr : r < 1000) : q_code (nI r) (nI F) (nI N) sh = cdAt N xc r := by
  unfold q_code cdAt
  rcases Nat.lt_or_ge r N with z | z
  · rw [if_pos ((nI_ltI (by omega) (by omega)).mpr z), if_pos z, nI_add, nI_clamp (by omega), hc r z]
  · rw [if_neg (fun q => by
      have := (nI_ltI (by omega) (by omega)).mp q
      omega), if_neg (by omega)]
theorem tk_w (xl : Int32) (xc : Nat → Int32) (least most p : Int32) : tkS xl xc least most (p, 1) = (p, 1) := by
  have h : ¬ s_takeOk xl p 1 xc least most := fun z => absurd z.1.1 (by decide)
  unfold tkS s_takeP s_takeW
  rw [if_neg h, if_neg h]
theorem dg_w (xl : Int32) (xc : Nat → Int32) (least most p : Int32) : dgS xl xc least most (p, 1) = (p, 1) := tk_w ..
theorem col_w (xl : Int32) (xc : Nat → Int32) (base : Nat) (p : Int32) (str : Nat → Int32) : ∀ c, (colN xl xc base (p, 1) str c).1 = (p, 1)
  | 0 => rfl
  | c + 1 => by
    show dgS xl xc 0 9 (colN xl xc base (p, 1) str c).1 = _
    rw [col_w xl xc base p str c, dg_w]
theorem row_w (xl : Int32) (xc : Nat → Int32) (w : Nat) (p : Int32) (str : Nat → Int32) : ∀ r, (rowN xl xc w (p, 1) str r).1 = (p, 1)
  | 0 => rfl
  | r + 1 => by
    show (colN xl xc (r * w) (tkS xl xc 59 59 (rowN xl xc w (p, 1) str r).1) (rowN xl xc w (p, 1) str r).2.1 w).1 = _
    rw [row_w xl xc w p str r, tk_w, col_w]
theorem crw_w (xl : Int32) (xc : Nat → Int32) (a : Nat) (p : Int32) (k v : Nat → Int32) (c : Int32) : (crw xl xc a ((p, 1), k, v, c)).1 = (p, 1) := by
  unfold crw
  simp only [tk_w, dg_w]
theorem crwN_w (xl : Int32) (xc : Nat → Int32) : ∀ (n a : Nat) (q : cT) (p : Int32), q.1 = (p, 1) → (crwN xl xc n a q).1 = (p, 1)
  | 0, a, q, p, h => by
    rw [crwN]
    exact h
  | n + 1, a, q, p, h => by
    rw [crwN]
    split
    · refine crwN_w xl xc n (a + 1) _ p ?_
      obtain ⟨q1, k, v, c⟩ := q
      have h' : q1 = (p, 1) := h
      rw [h']
      exact crw_w ..
    · exact h
theorem takeOk_iff {r : Nat} (hN : N ≤ 60) (hr : r ≤ N) (least most : Int32) : s_takeOk (nI N) (nI r) 0 xc least most ↔ r < N ∧ least ≤ xc r ∧ xc r ≤ most := by
  unfold s_takeOk s_go
  rw [nI_clamp (by omega), nI_ltI (by omega) (by omega)]
  constructor
  · rintro ⟨⟨-, h1⟩, h2⟩; exact ⟨h1, h2⟩
  · rintro ⟨h1, h2⟩; exact ⟨⟨rfl, h1⟩, h2⟩
/-- a code that is taken -/
theorem tk_y {r : Nat} (hN : N ≤ 60) (hr : r < N) {least most : Int32} (h1 : least ≤ xc r) (h2 : xc r ≤ most) : tkS (nI N) xc least most (nI r, 0) = (nI (r + 1), 0) ∧ tkR (nI N) xc least most (nI r, 0) = xc r - least := by
  have h := (takeOk_iff (xc := xc) hN (Nat.le_of_lt hr) least most).mpr ⟨hr, h1, h2⟩
  unfold tkS tkR s_takeP s_takeW s_takeR
  rw [if_pos h, if_pos h, if_pos h, nI_1]
  exact ⟨rfl, by rw [nI_clamp (by omega)]⟩
theorem tk_n {r : Nat} (hN : N ≤ 60) (hr : r ≤ N) {least most : Int32} (h1 : ¬ (r < N ∧ least ≤ xc r ∧ xc r ≤ most)) : tkS (nI N) xc least most (nI r, 0) = (nI r, 1) ∧ tkR (nI N) xc least most (nI r, 0) = 0 := by
  have h : ¬ s_takeOk (nI N) (nI r) 0 xc least most := fun z => h1 ((takeOk_iff hN hr least most).mp z)
  unfold tkS tkR s_takeP s_takeW s_takeR
  rw [if_neg h, if_neg h, if_neg h]
  exact ⟨rfl, rfl⟩
/-- a sign -/
theorem sg_y {r : Nat} (hN : N ≤ 60) {c : Int32} (hc : ¬ c = -9) (h : cdAt N xc r = c) : r < N ∧ tkS (nI N) xc c c (nI r, 0) = (nI (r + 1), 0) := by
  unfold cdAt at h
  by_cases z : r < N
  · rw [if_pos z] at h
    exact ⟨z, (tk_y hN z (by rw [h]; exact Int32.le_refl _) (by rw [h]; exact Int32.le_refl _)).1⟩
  · rw [if_neg z] at h
    exact absurd h.symm hc
theorem sg_n {r : Nat} (hN : N ≤ 60) (hr : r ≤ N) {c : Int32} (h : ¬ cdAt N xc r = c) : tkS (nI N) xc c c (nI r, 0) = (nI r, 1) :=
  (tk_n hN hr (fun z => h (by
    unfold cdAt
    rw [if_pos z.1]
    exact Int32.le_antisymm z.2.2 z.2.1))).1
/-- a digit -/
def isDig (c : Int32) (lo mo e : Nat) : Prop := lo ≤ e ∧ e ≤ mo ∧ c = nI (48 + e)
theorem fig_iff {c : Int32} {lo mo : Nat} (hl : lo ≤ 9) (hm : mo ≤ 9) : (nI lo ≤ c - 48 ∧ c - 48 ≤ nI mo) ↔ ∃ e, isDig c lo mo e := by
  constructor
  · rintro ⟨h1, h2⟩
    have hp : ¬ c - 48 < 0 := by
      have := nI_pos' (n := lo) (by omega)
      exact Int32.not_lt.mpr (Int32.le_trans this h1)
    obtain ⟨e, he, e1⟩ := nI_of2 (n := mo) (M := nI mo) (nI_toInt (by omega)) hp h2
    rw [e1] at h1
    have hle := (nI_leI (by omega) (by omega)).mp h1
    refine ⟨e, hle, he, ?_⟩
    have : c = nI e + 48 := by rw [← e1, Int32.sub_add_cancel]
    rw [this, show (48 : Int32) = nI 48 from rfl, nI_add, Nat.add_comm]
  · rintro ⟨e, h1, h2, rfl⟩
    rw [show (48 : Int32) = nI 48 from rfl, nI_sub (by omega), Nat.add_sub_cancel_left]
    exact ⟨nI_le h1 (by omega), nI_le h2 (by omega)⟩
theorem tkd_iff {c : Int32} {lo mo : Nat} (hl : lo ≤ 9) (hm : mo ≤ 9) : (48 + nI lo ≤ c ∧ c ≤ 48 + nI mo) ↔ ∃ e, isDig c lo mo e := by
  rw [show (48 : Int32) = nI 48 from rfl, nI_add, nI_add]
  constructor
  · rintro ⟨h1, h2⟩
    have hp : ¬ c < 0 := by
      have := nI_pos' (n := 48 + lo) (by omega)
      exact Int32.not_lt.mpr (Int32.le_trans this h1)
    obtain ⟨e, he, rfl⟩ := nI_of2 (n := 48 + mo) (M := nI (48 + mo)) (nI_toInt (by omega)) hp h2
    have hle := (nI_leI (by omega) (by omega)).mp h1
    exact ⟨e - 48, by omega, by omega, by rw [show 48 + (e - 48) = e by omega]⟩
  · rintro ⟨e, h1, h2, rfl⟩
    exact ⟨nI_le (by omega) (by omega), nI_le (by omega) (by omega)⟩
theorem isDig_lt {r lo mo e : Nat} (h : isDig (cdAt N xc r) lo mo e) (hm : mo ≤ 9) : r < N ∧ xc r = nI (48 + e) := by
  obtain ⟨h1, h2, h3⟩ := h
  unfold cdAt at h3
  by_cases z : r < N
  · rw [if_pos z] at h3
    exact ⟨z, h3⟩
  · rw [if_neg z] at h3
    exact absurd h3 (m9nI (by omega))
theorem dg_y {r lo mo e : Nat} (hN : N ≤ 60) (hl : lo ≤ 9) (hm : mo ≤ 9) (h : isDig (cdAt N xc r) lo mo e) : r < N ∧ dgS (nI N) xc (nI lo) (nI mo) (nI r, 0) = (nI (r + 1), 0) ∧ dgR (nI N) xc (nI lo) (nI mo) (nI r, 0) = nI e := by
  obtain ⟨h1, h2⟩ := isDig_lt h hm
  have h3 := (tkd_iff (c := xc r) hl hm).mpr ⟨e, h.1, h.2.1, h2⟩
  obtain ⟨a1, a2⟩ := tk_y hN h1 h3.1 h3.2
  refine ⟨h1, a1, ?_⟩
  unfold dgR
  rw [a2, h2, show (48 : Int32) = nI 48 from rfl, nI_add]
  have h4 := h.1
  rw [nI_sub (by omega), nI_add]
  exact congrArg nI (by omega)
theorem dg_n {r lo mo : Nat} (hN : N ≤ 60) (hr : r ≤ N) (hl : lo ≤ 9) (hm : mo ≤ 9) (h : ¬ ∃ e, isDig (cdAt N xc r) lo mo e) : dgS (nI N) xc (nI lo) (nI mo) (nI r, 0) = (nI r, 1) := by
  refine (tk_n hN hr (fun z => h ?_)).1
  unfold cdAt
  rw [if_pos z.1]
  exact (tkd_iff hl hm).mp z.2
theorem fg_y {r lo mo e : Nat} (hN : N ≤ 60) (hF : F + N ≤ 240) (hc : ∀ j, j < N → xc j = sh (F + j)) (hr : r < 1000) (hl : lo ≤ 9) (hm : mo ≤ 9) (h : isDig (cdAt N xc r) lo mo e) : q_figP (nI r) (nI F) (nI N) sh (nI lo) (nI mo) = nI (r + 1) ∧ q_figR (nI r) (nI F) (nI N) sh (nI lo) (nI mo) = nI e := by
  have hq : q_figOk (nI r) (nI F) (nI N) sh (nI lo) (nI mo) := by
    unfold q_figOk
    rw [code_eq hN hF hc hr]
    exact (fig_iff hl hm).mpr ⟨e, h⟩
  unfold q_figP q_figR
  rw [if_pos hq, if_pos hq, code_eq hN hF hc hr, h.2.2, nI_1]
  refine ⟨rfl, ?_⟩
  rw [show (48 : Int32) = nI 48 from rfl, nI_sub (by omega), Nat.add_sub_cancel_left]
theorem fg_n {r lo mo : Nat} (hN : N ≤ 60) (hF : F + N ≤ 240) (hc : ∀ j, j < N → xc j = sh (F + j)) (hr : r < 1000) (hl : lo ≤ 9) (hm : mo ≤ 9) (h : ¬ ∃ e, isDig (cdAt N xc r) lo mo e) : q_figP (nI r) (nI F) (nI N) sh (nI lo) (nI mo) = nI r ∧ q_figR (nI r) (nI F) (nI N) sh (nI lo) (nI mo) = -9 := by
  have hq : ¬ q_figOk (nI r) (nI F) (nI N) sh (nI lo) (nI mo) := by
    unfold q_figOk
    rw [code_eq hN hF hc hr]
    exact fun z => h ((fig_iff hl hm).mp z)
  unfold q_figP q_figR
  rw [if_neg hq, if_neg hq]
  exact ⟨rfl, rfl⟩
/-! the head of a text -/
theorem head_spec (hN : N ≤ 60) (hF : F + N ≤ 240) (hc : ∀ j, j < N → xc j = sh (F + j)) :
    (∃ a b f, 1 ≤ a ∧ a ≤ 4 ∧ 2 ≤ b ∧ b ≤ 5 ∧ f ≤ 9 ∧ 4 ≤ N ∧ it4 (nI N) xc (0, 0) = (nI 4, 0) ∧ itHi (nI N) xc (0, 0) = nI a ∧ itWi (nI N) xc (0, 0) = nI b ∧ itFr (nI N) xc (0, 0) = nI f ∧ q_hi (nI F) (nI N) sh = nI a ∧ q_wi (nI F) (nI N) sh = nI b ∧ q_fr (nI F) (nI N) sh = nI f ∧ q_h3 (nI F) (nI N) sh = nI 4) ∨
    (∃ r, r < 100 ∧ it4 (nI N) xc (0, 0) = (nI r, 1) ∧ q_h3 (nI F) (nI N) sh = nI r ∧ ¬ 0 ≤ q_fr (nI F) (nI N) sh) := by
  have n9 : ¬ (0 : Int32) < -9 := by decide
  have n90 : ¬ (0 : Int32) ≤ -9 := by decide
  have c0 : q_code 0 (nI F) (nI N) sh = cdAt N xc 0 := code_eq (r := 0) hN hF hc (by omega)
  by_cases h0 : cdAt N xc 0 = 99
  · obtain ⟨r0, s0⟩ := sg_y hN (by decide) h0
    have hh1 : q_h1 (nI F) (nI N) sh = q_figP (nI 1) (nI F) (nI N) sh (nI 1) (nI 4) := by
      unfold q_h1
      rw [c0, if_pos h0]
      rfl
    have hhi : q_hi (nI F) (nI N) sh = q_figR (nI 1) (nI F) (nI N) sh (nI 1) (nI 4) := by
      unfold q_hi
      rw [c0, if_pos h0]
      rfl
    have hi1 : it1 (nI N) xc (0, 0) = (nI 1, 0) := s0
    by_cases h1 : ∃ e, isDig (cdAt N xc 1) 1 4 e
    · obtain ⟨a, ha⟩ := h1
      obtain ⟨r1, d1, v1⟩ := dg_y (lo := 1) (mo := 4) hN (by omega) (by omega) ha
      obtain ⟨f1, g1⟩ := fg_y (lo := 1) (mo := 4) hN hF hc (by omega) (by omega) (by omega) ha
      rw [f1] at hh1
      rw [g1] at hhi
      have hpos : 0 < q_hi (nI F) (nI N) sh := by
        rw [hhi]
        exact nI_lt (a := 0) (Nat.lt_of_lt_of_le (by omega) ha.1) (by have := ha.2.1; omega)
      have hi2 : it2 (nI N) xc (0, 0) = (nI 2, 0) := by
        unfold it2
        rw [hi1]
        exact d1
      have hh2 : q_h2 (nI F) (nI N) sh = q_figP (nI 2) (nI F) (nI N) sh (nI 2) (nI 5) := by
        unfold q_h2
        rw [if_pos hpos, hh1]
        rfl
      have hwi : q_wi (nI F) (nI N) sh = q_figR (nI 2) (nI F) (nI N) sh (nI 2) (nI 5) := by
        unfold q_wi
        rw [if_pos hpos, hh1]
        rfl
      by_cases h2 : ∃ e, isDig (cdAt N xc 2) 2 5 e
      · obtain ⟨b, hb⟩ := h2
        obtain ⟨r2, d2, v2⟩ := dg_y (lo := 2) (mo := 5) hN (by omega) (by omega) hb
        obtain ⟨f2, g2⟩ := fg_y (lo := 2) (mo := 5) hN hF hc (by omega) (by omega) (by omega) hb
        rw [f2] at hh2
        rw [g2] at hwi
        have hpos2 : 0 < q_wi (nI F) (nI N) sh := by
          rw [hwi]
          exact nI_lt (a := 0) (Nat.lt_of_lt_of_le (by omega) hb.1) (by have := hb.2.1; omega)
        have hi3 : it3 (nI N) xc (0, 0) = (nI 3, 0) := by
          unfold it3
          rw [hi2]
          exact d2
        have hh3 : q_h3 (nI F) (nI N) sh = q_figP (nI 3) (nI F) (nI N) sh (nI 0) (nI 9) := by
          unfold q_h3
          rw [if_pos hpos2, hh2]
          rfl
        have hfr : q_fr (nI F) (nI N) sh = q_figR (nI 3) (nI F) (nI N) sh (nI 0) (nI 9) := by
          unfold q_fr
          rw [if_pos hpos2, hh2]
          rfl
        by_cases h3 : ∃ e, isDig (cdAt N xc 3) 0 9 e
        · obtain ⟨f, hf⟩ := h3
          obtain ⟨r3, d3, v3⟩ := dg_y (lo := 0) (mo := 9) hN (by omega) (by omega) hf
          obtain ⟨f3, g3⟩ := fg_y (lo := 0) (mo := 9) hN hF hc (by omega) (by omega) (by omega) hf
          rw [f3] at hh3
          rw [g3] at hfr
          refine Or.inl ⟨a, b, f, ha.1, ha.2.1, hb.1, hb.2.1, hf.2.1, by omega, ?_, ?_, ?_, ?_, hhi, hwi, hfr, hh3⟩
          · unfold it4
            rw [hi3]
            exact d3
          · unfold itHi
            rw [hi1]
            exact v1
          · unfold itWi
            rw [hi2]
            exact v2
          · unfold itFr
            rw [hi3]
            exact v3
        · have d3 := dg_n (r := 3) (lo := 0) (mo := 9) hN (by omega) (by omega) (by omega) h3
          obtain ⟨f3, g3⟩ := fg_n (r := 3) (lo := 0) (mo := 9) hN hF hc (by omega) (by omega) (by omega) h3
          rw [f3] at hh3
          rw [g3] at hfr
          refine Or.inr ⟨3, by omega, ?_, hh3, by rw [hfr]; exact n90⟩
          unfold it4
          rw [hi3]
          exact d3
      · have d2 := dg_n (r := 2) (lo := 2) (mo := 5) hN (by omega) (by omega) (by omega) h2
        obtain ⟨f2, g2⟩ := fg_n (r := 2) (lo := 2) (mo := 5) hN hF hc (by omega) (by omega) (by omega) h2
        rw [f2] at hh2
        rw [g2] at hwi
        have hneg2 : ¬ 0 < q_wi (nI F) (nI N) sh := by rw [hwi]; exact n9
        refine Or.inr ⟨2, by omega, ?_, ?_, ?_⟩
        · unfold it4 it3
          rw [hi2]
          have : dgS (nI N) xc 2 5 (nI 2, 0) = (nI 2, 1) := d2
          rw [this, dg_w]
        · unfold q_h3
          rw [if_neg hneg2, hh2]
        · unfold q_fr
          rw [if_neg hneg2]
          exact n90
    · have d1 := dg_n (r := 1) (lo := 1) (mo := 4) hN (by omega) (by omega) (by omega) h1
      obtain ⟨f1, g1⟩ := fg_n (r := 1) (lo := 1) (mo := 4) hN hF hc (by omega) (by omega) (by omega) h1
      rw [f1] at hh1
      rw [g1] at hhi
      have hneg : ¬ 0 < q_hi (nI F) (nI N) sh := by rw [hhi]; exact n9
      have hwi : ¬ 0 < q_wi (nI F) (nI N) sh := by
        unfold q_wi
        rw [if_neg hneg]
        exact n9
      refine Or.inr ⟨1, by omega, ?_, ?_, ?_⟩
      · unfold it4 it3 it2
        rw [hi1]
        have : dgS (nI N) xc 1 4 (nI 1, 0) = (nI 1, 1) := d1
        rw [this, dg_w, dg_w]
      · unfold q_h3
        rw [if_neg hwi]
        unfold q_h2
        rw [if_neg hneg, hh1]
      · unfold q_fr
        rw [if_neg hwi]
        exact n90
  · have s0 := sg_n (r := 0) hN (by omega) h0
    have hhi : ¬ 0 < q_hi (nI F) (nI N) sh := by
      unfold q_hi
      rw [c0, if_neg h0]
      exact n9
    have hwi : ¬ 0 < q_wi (nI F) (nI N) sh := by
      unfold q_wi
      rw [if_neg hhi]
      exact n9
    refine Or.inr ⟨0, by omega, ?_, ?_, ?_⟩
    · unfold it4 it3 it2 it1
      have : tkS (nI N) xc 99 99 (0, 0) = (nI 0, 1) := s0
      rw [this, dg_w, dg_w, dg_w]
    · unfold q_h3
      rw [if_neg hwi]
      unfold q_h2
      rw [if_neg hhi]
      unfold q_h1
      rw [c0, if_neg h0]
      rfl
    · unfold q_fr
      rw [if_neg hwi]
      exact n90
end TX
