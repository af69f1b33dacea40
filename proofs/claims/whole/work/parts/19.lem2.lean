theorem vp20_40 {x : Int32} (h : vp_in x 20) : vp_in x 40 := by
  rw [vp_in_iff] at h ⊢
  omega
theorem okR8 {rc : Int32} {rs rl : Nat → Int32} (h : okR rc rs rl) : (rc = 8 ∨ vp_in rc 8) ∧ rc ≤ 8 ∧ 0 ≤ rc := by
  obtain ⟨n, h1, rfl, -⟩ := h
  refine ⟨?_, nI_le (b := 8) h1 (by omega), nI_pos' (by omega)⟩
  rcases Nat.lt_or_ge n 8 with h | h
  · exact Or.inr (vp_in_nI h (by omega))
  · exact Or.inl (by rw [show n = 8 by omega]; rfl)
theorem okN4 {rs : Int32} (h : okN rs) : rs = 4 ∨ vp_in rs 4 := by
  obtain ⟨n, h1, rfl⟩ := h
  rcases Nat.lt_or_ge n 4 with h | h
  · exact Or.inr (vp_in_nI h (by omega))
  · exact Or.inl (by rw [show n = 4 by omega]; rfl)
theorem shasI (sle i n : Int32) : (s_shas sle i n = 0) = ¬ ((0 ≤ i ∧ i ≤ sle) ∧ 0 ≤ n ∧ n ≤ sle - i) := by
  unfold s_shas
  by_cases h : s_in i 0 sle = 0
  · rw [if_pos h]
    rw [s_in0] at h
    exact propext ⟨fun _ z => h z.1, fun _ => rfl⟩
  · rw [if_neg h, s_in0]
    rw [s_in0, Classical.not_not] at h
    exact propext ⟨fun z q => z q.2, fun z q => z ⟨h, q⟩⟩
theorem shasR {sle i n : Int32} (h : ¬ 60 < sle) : s_shas sle i n = 0 ∨ (¬ i < 0 ∧ ¬ n < 0 ∧ i.toNatClampNeg + n.toNatClampNeg ≤ 60 ∧ n.toNatClampNeg ≤ 60 ∧ i.toInt + n.toInt ≤ sle.toInt) := by
  by_cases h0 : s_shas sle i n = 0
  · exact Or.inl h0
  · rw [shasI, Classical.not_not] at h0
    obtain ⟨⟨a, b⟩, c, d⟩ := h0
    have z : (0 : Int32).toInt = 0 := by decide
    have z6 : (60 : Int32).toInt = 60 := by decide
    rw [Int32.lt_iff_toInt_lt, z6] at h
    rw [Int32.le_iff_toInt_le] at a b c d
    rw [z] at a c
    rw [i32sub (by omega) (by omega)] at d
    have e1 : i.toNatClampNeg = i.toInt.toNat := rfl
    have e2 : n.toNatClampNeg = n.toInt.toNat := rfl
    rw [Int32.lt_iff_toInt_lt, Int32.lt_iff_toInt_lt, z, e1, e2]
    exact Or.inr ⟨by omega, by omega, by omega, by omega, by omega⟩
theorem shasV {sle ii : Int32} (h : ¬ 60 < sle) : s_shas sle ii 1 = 0 ∨ vp_in ii 60 := by
  rcases shasR (i := ii) (n := 1) h with h | ⟨h1, h2, h3, -, h4⟩
  · exact Or.inl h
  · have z : (0 : Int32).toInt = 0 := by decide
    have z1 : (1 : Int32).toInt = 1 := by decide
    have z6 : (60 : Int32).toInt = 60 := by decide
    rw [Int32.lt_iff_toInt_lt, z] at h1
    rw [Int32.lt_iff_toInt_lt, z6] at h
    rw [z1] at h4
    exact Or.inr (vp_in_iff.mpr ⟨by omega, by omega⟩)
theorem noCell0 (sz : Nat → Int32) (k ii : Int32) : (q_noCell sz k ii ≤ 0) = (0 ≤ ii ∧ ii < sz k.toNatClampNeg) := by
  unfold q_noCell
  have z0 : ¬ (1 : Int32) ≤ 0 := by decide
  have z3 : ¬ (3 : Int32) ≤ 0 := by decide
  split
  · apply propext
    constructor
    · intro h; exact absurd h z0
    · intro h; exact absurd h.2 (by grind)
  · split
    · simp_all
    · simp_all
theorem noCellZ (sz : Nat → Int32) (k ii : Int32) : (q_noCell sz k ii = 0) = (q_noCell sz k ii ≤ 0) := by
  unfold q_noCell
  have z0 : ¬ (1 : Int32) ≤ 0 := by decide
  have z3 : ¬ (3 : Int32) ≤ 0 := by decide
  split
  · simp [z0]
  · split
    · simp
    · simp [z3]
/-- a place of a sheet among all -/
theorem vpCellOf {sz : Nat → Int32} {k ii : Int32} (h : okSz sz) (hk : vp_in k 4) (h0 : q_noCell sz k ii ≤ 0) : vp_in (60 * k + ii) 240 ∧ (60 * k + ii).toNatClampNeg = 60 * k.toNatClampNeg + ii.toNatClampNeg := by
  rw [noCell0] at h0
  obtain ⟨j, hj, rfl⟩ := vp_in_of hk (by omega)
  rw [nI_clamp (by omega)] at h0 ⊢
  have h1 := h j hj
  have z : (0 : Int32).toInt = 0 := by decide
  have z6 : (60 : Int32).toInt = 60 := by decide
  rw [Int32.le_iff_toInt_le, z6] at h1
  rw [Int32.le_iff_toInt_le, z, Int32.lt_iff_toInt_lt] at h0
  have hm : ((60 : Int32) * nI j).toInt = 60 * (j : Int) := by rw [i32mul (by rw [z6, nI_toInt (by omega)]; omega) (by rw [z6, nI_toInt (by omega)]; omega), z6, nI_toInt (by omega)]
  have ha : (60 * nI j + ii).toInt = 60 * (j : Int) + ii.toInt := by rw [i32add (by rw [hm]; omega) (by rw [hm]; omega), hm]
  refine ⟨vp_in_iff.mpr ⟨by rw [ha]; omega, by rw [ha]; omega⟩, ?_⟩
  show (60 * nI j + ii).toInt.toNat = 60 * j + ii.toInt.toNat
  rw [ha]
  omega
theorem lgl (x y : Int64) : (lg_cmp x y < 0) = (x < y) := propext (lg_cmp_lt x y)
theorem lgle (x y : Int64) : (lg_cmp x y ≤ 0) = (x ≤ y) := propext (lg_cmp_le x y)
theorem lgg (x y : Int64) : (0 < lg_cmp x y) = (y < x) := propext (lg_cmp_gt x y)
theorem lgge (x y : Int64) : (0 ≤ lg_cmp x y) = (y ≤ x) := propext (lg_cmp_ge x y)
theorem lge (x y : Int64) : (lg_cmp x y = 0) = (x = y) := propext (lg_cmp_eq x y)
theorem cp20 (f g : Nat → Int32) : va_cpy f g ((0 : Int32).toNatClampNeg) ((0 : Int32).toNatClampNeg) ((20 : Int32).toNatClampNeg) = s_cp20 f g := by
  funext k
  have z0 : (0 : Int32).toNatClampNeg = 0 := by decide
  have z : (20 : Int32).toNatClampNeg = 20 := by decide
  simp [va_cpy, s_cp20, z0, z]
theorem in01 (v a b : Int32) : s_in v a b = 0 ∨ s_in v a b = 1 := by
  unfold s_in
  split <;> simp
theorem add1sub1 (x : Int32) : x + 1 - 1 = x := Int32.add_sub_cancel x 1
theorem okT.step {xl xp xw : Int32} {xc : Nat → Int32} {least most : Int32} (h : okT xl xp) : okT xl (s_takeP xl xp xw xc least most) := by
  obtain ⟨a, b, hb, hab, rfl, rfl⟩ := h
  unfold s_takeP
  split
  · rename_i h1
    have := (nI_ltI (a := a) (b := b) (by omega) (by omega)).mp h1.1.2
    exact ⟨a + 1, b, hb, this, rfl, nI_1 a⟩
  · exact ⟨a, b, hb, hab, rfl, rfl⟩
theorem okT.tk {xl : Int32} {t : tT} {xc : Nat → Int32} {least most : Int32} (h : okT xl t.1) : okT xl (tkS xl xc least most t).1 := h.step
theorem okT.dg {xl : Int32} {t : tT} {xc : Nat → Int32} {least most : Int32} (h : okT xl t.1) : okT xl (dgS xl xc least most t).1 := h.step
theorem okT.col {xl : Int32} {t : tT} {xc str : Nat → Int32} {base : Nat} (h : okT xl t.1) : ∀ c, okT xl (colN xl xc base t str c).1.1
  | 0 => h
  | c + 1 => by
    simp only [colN]
    exact (okT.col h c).dg
theorem okT.row {xl : Int32} {t : tT} {xc str : Nat → Int32} {w : Nat} (h : okT xl t.1) : ∀ r, okT xl (rowN xl xc w t str r).1.1
  | 0 => h
  | r + 1 => by
    simp only [rowN]
    exact ((okT.row h r).tk).col w
theorem okT.it4 {xl : Int32} {t : tT} {xc : Nat → Int32} (h : okT xl t.1) : okT xl (it4 xl xc t).1 := h.tk.dg.dg.dg
theorem okT.itRow {xl : Int32} {t : tT} {xc str : Nat → Int32} (h : okT xl t.1) : okT xl (itRow xl xc t str).1.1 := h.it4.row _
theorem okT.crw {xl : Int32} {xc : Nat → Int32} {a : Nat} {q : cT} (h : okT xl q.1.1) : okT xl (crw xl xc a q).1.1 := h.tk.tk.dg
theorem okT.crN {xl : Int32} {xc : Nat → Int32} : ∀ (n a : Nat) (q : cT), okT xl q.1.1 → okT xl (crwN xl xc n a q).1.1
  | 0, a, q, h => by rw [crwN]; exact h
  | n + 1, a, q, h => by
    rw [crwN]
    split
    · exact okT.crN n (a + 1) _ h.crw
    · exact h
theorem okT.all {xl : Int32} {t : tT} {xc ck cwt : Nat → Int32} (h : okT xl t.1) : okT xl (crwAll xl xc t ck cwt).1.1 := okT.crN 4 0 _ h
theorem okT.new {n : Int32} (h1 : ¬ n < 0) (h2 : n.toNatClampNeg ≤ 60) : okT n 0 := by
  obtain ⟨j, hj, rfl⟩ := nI_of h1
  rw [nI_clamp hj] at h2
  exact ⟨0, j, h2, Nat.zero_le _, rfl, rfl⟩
