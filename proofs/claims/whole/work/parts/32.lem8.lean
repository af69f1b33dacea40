theorem rowNS (xl : Int32) (xc : Nat → Int32) (w : Nat) (t : tT) (str : Nat → Int32) (r : Nat) : rowN xl xc w t str (r + 1) = ((colN xl xc (r * w) (tkS xl xc 59 59 (rowN xl xc w t str r).1) (rowN xl xc w t str r).2.1 w).1, (colN xl xc (r * w) (tkS xl xc 59 59 (rowN xl xc w t str r).1) (rowN xl xc w t str r).2.1 w).2, (rowN xl xc w t str r).2.2 ||| ((1 : Int32) <<< ((nI r * nI w) &&& 31))) := by rw [rowN]
theorem colNS (xl : Int32) (xc : Nat → Int32) (base : Nat) (t : tT) (str : Nat → Int32) (c : Nat) : colN xl xc base t str (c + 1) = (dgS xl xc 0 9 (colN xl xc base t str c).1, upd (colN xl xc base t str c).2 (base + c) (dgR xl xc 0 9 (colN xl xc base t str c).1)) := by rw [colN]
theorem hiV (xl : Int32) (xc : Nat → Int32) (t : tT) : ∃ H : Nat, 1 ≤ H ∧ H ≤ 4 ∧ itHi xl xc t = nI H := by
  unfold itHi dgR tkR
  obtain ⟨v, hv, e⟩ := takeV (xl := xl) (xp := (it1 xl xc t).1) (xw := (it1 xl xc t).2) (xc := xc) 49 52 (by omega) (by omega)
  rw [show (48 : Int32) + 1 = nI 49 from rfl, show (48 : Int32) + 4 = nI 52 from rfl, e, show (1 : Int32) = nI 1 from rfl, nI_add]
  exact ⟨1 + v, by omega, by omega, rfl⟩
theorem wiV (xl : Int32) (xc : Nat → Int32) (t : tT) : ∃ W : Nat, 2 ≤ W ∧ W ≤ 5 ∧ itWi xl xc t = nI W := by
  unfold itWi dgR tkR
  obtain ⟨v, hv, e⟩ := takeV (xl := xl) (xp := (it2 xl xc t).1) (xw := (it2 xl xc t).2) (xc := xc) 50 53 (by omega) (by omega)
  rw [show (48 : Int32) + 2 = nI 50 from rfl, show (48 : Int32) + 5 = nI 53 from rfl, e, show (2 : Int32) = nI 2 from rfl, nI_add]
  exact ⟨2 + v, by omega, by omega, rfl⟩
