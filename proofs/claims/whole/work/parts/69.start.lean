/-! the law: its start -/
def ad0 (z : Nat) (jj : Nat × Nat × Nat × Nat × Nat × Nat × Nat × Nat × Nat × Nat × Nat × Nat × Nat × Nat × Nat × Nat × Nat × Nat × Nat × Nat × Nat × Nat × Nat × Nat × Nat × Nat × Nat) : Nat → Nat := fun n => [z, jj.1, jj.2.1, jj.2.2.1, jj.2.2.2.1, jj.2.2.2.2.1, jj.2.2.2.2.2.1, jj.2.2.2.2.2.2.1, jj.2.2.2.2.2.2.2.1, jj.2.2.2.2.2.2.2.2.1, jj.2.2.2.2.2.2.2.2.2.1, jj.2.2.2.2.2.2.2.2.2.2.1, jj.2.2.2.2.2.2.2.2.2.2.2.1, jj.2.2.2.2.2.2.2.2.2.2.2.2.1, jj.2.2.2.2.2.2.2.2.2.2.2.2.2.1, jj.2.2.2.2.2.2.2.2.2.2.2.2.2.2.1, jj.2.2.2.2.2.2.2.2.2.2.2.2.2.2.2.1, jj.2.2.2.2.2.2.2.2.2.2.2.2.2.2.2.2.1, jj.2.2.2.2.2.2.2.2.2.2.2.2.2.2.2.2.2.1, jj.2.2.2.2.2.2.2.2.2.2.2.2.2.2.2.2.2.2.1, jj.2.2.2.2.2.2.2.2.2.2.2.2.2.2.2.2.2.2.2.1, jj.2.2.2.2.2.2.2.2.2.2.2.2.2.2.2.2.2.2.2.2.1, jj.2.2.2.2.2.2.2.2.2.2.2.2.2.2.2.2.2.2.2.2.2.1, jj.2.2.2.2.2.2.2.2.2.2.2.2.2.2.2.2.2.2.2.2.2.2.1, jj.2.2.2.2.2.2.2.2.2.2.2.2.2.2.2.2.2.2.2.2.2.2.2.1, jj.2.2.2.2.2.2.2.2.2.2.2.2.2.2.2.2.2.2.2.2.2.2.2.2.1, jj.2.2.2.2.2.2.2.2.2.2.2.2.2.2.2.2.2.2.2.2.2.2.2.2.2.1, jj.2.2.2.2.2.2.2.2.2.2.2.2.2.2.2.2.2.2.2.2.2.2.2.2.2.2].getD n 0
def am0 (z : Nat) (kk : Nat × Nat × Nat × Nat × Nat × Nat × Nat × Nat × Nat × Nat × Nat × Nat × Nat × Nat × Nat) : Nat → Nat := fun n => match n with
  | 0 => z
  | 4 => kk.1
  | 6 => kk.2.1
  | 7 => kk.2.2.1
  | 15 => kk.2.2.2.1
  | 16 => kk.2.2.2.2.1
  | 17 => kk.2.2.2.2.2.1
  | 21 => kk.2.2.2.2.2.2.1
  | 22 => kk.2.2.2.2.2.2.2.1
  | 24 => kk.2.2.2.2.2.2.2.2.1
  | 25 => kk.2.2.2.2.2.2.2.2.2.1
  | 26 => kk.2.2.2.2.2.2.2.2.2.2.1
  | 27 => kk.2.2.2.2.2.2.2.2.2.2.2.1
  | 28 => kk.2.2.2.2.2.2.2.2.2.2.2.2.1
  | 29 => kk.2.2.2.2.2.2.2.2.2.2.2.2.2.1
  | 30 => kk.2.2.2.2.2.2.2.2.2.2.2.2.2.2
  | _ => 0
def v0 : Nat → Int32 := fun n => match n with
  | 7 => -9
  | 21 => -1
  | 22 => -1
  | 23 => -1
  | 24 => -1
  | _ => 0
def g0 : Nat → Nat → Int32 := fun n => match n with
  | 27 => upd (upd (upd (upd (fun _ => 0) (0 : Int32).toNatClampNeg (-1)) (1 : Int32).toNatClampNeg (-1)) (2 : Int32).toNatClampNeg (-1)) (3 : Int32).toNatClampNeg (-1)
  | _ => fun _ => 0
def sh0 (jj : Nat × Nat × Nat × Nat × Nat × Nat × Nat × Nat × Nat × Nat × Nat × Nat × Nat × Nat × Nat × Nat × Nat × Nat × Nat × Nat × Nat × Nat × Nat × Nat × Nat × Nat × Nat) : Nat → Option Nat := va_up (va_up (va_up (va_up (fun _ => none) (0 : Int32).toNatClampNeg (some (jj.2.2.2.2.2.2.2.2.2.2.2.2.2.2.2.2.2.2.2.1))) (1 : Int32).toNatClampNeg (some (jj.2.2.2.2.2.2.2.2.2.2.2.2.2.2.2.2.2.2.2.2.2.1))) (2 : Int32).toNatClampNeg (some (jj.2.2.2.2.2.2.2.2.2.2.2.2.2.2.2.2.2.2.2.2.2.2.2.1))) (3 : Int32).toNatClampNeg (some (jj.2.2.2.2.2.2.2.2.2.2.2.2.2.2.2.2.2.2.2.2.2.2.2.2.2.1))
theorem rel0 : REL v0 (fun _ _ => 0) (fun _ => 0) g0 := by
  refine ⟨0, 0, 0, 0, 0, ⟨⟨by decide, by decide, Or.inl ⟨rfl, rfl⟩⟩, by decide, by decide, by decide, by decide⟩, ⟨rfl, rfl, rfl, rfl, rfl, rfl, rfl, rfl, rfl, rfl, rfl, rfl⟩, ⟨rfl, rfl⟩, ⟨rfl, rfl⟩, ?_, ?_, ?_, ?_⟩
  · exact fun c hc => absurd hc (by omega)
  · exact fun c hc => absurd hc (by omega)
  · exact fun c hc => absurd hc (by omega)
  · intro k hk
    match k, hk with
    | 0, _ => exact Or.inl ⟨rfl, rfl, rfl⟩
    | 1, _ => exact Or.inl ⟨rfl, rfl, rfl⟩
    | 2, _ => exact Or.inl ⟨rfl, rfl, rfl⟩
    | 3, _ => exact Or.inl ⟨rfl, rfl, rfl⟩
    | k + 4, hk => exact absurd hk (by omega)
theorem inv0 (G : GT) (z y : Nat) (jj : Nat × Nat × Nat × Nat × Nat × Nat × Nat × Nat × Nat × Nat × Nat × Nat × Nat × Nat × Nat × Nat × Nat × Nat × Nat × Nat × Nat × Nat × Nat × Nat × Nat × Nat × Nat) (kk : Nat × Nat × Nat × Nat × Nat × Nat × Nat × Nat × Nat × Nat × Nat × Nat × Nat × Nat × Nat) : INV G z y ([(z, .inr (6, [.ref jj.1, .ref jj.2.1, .ref jj.2.2.2.1, .ref jj.2.2.2.2.2.1, .ref jj.2.2.2.2.2.2.2.2.2.1, .ref jj.2.2.2.2.2.2.2.2.2.2.2.1, .ref jj.2.2.2.2.2.2.2.2.2.2.2.2.2.2.1, .ref jj.2.2.2.2.2.2.2.2.2.2.2.2.2.2.2.2.1, .int 0, .int 0])), (jj.1, .inl (G.2.2.2, 4, .inr (.inr (.inr (.inr (va_up (va_up (va_up (va_up (fun _ => none) (0 : Int32).toNatClampNeg (some jj.2.2.2.2.2.2.2.2.2.2.2.2.2.2.2.2.2.2.2.1)) (1 : Int32).toNatClampNeg (some jj.2.2.2.2.2.2.2.2.2.2.2.2.2.2.2.2.2.2.2.2.2.1)) (2 : Int32).toNatClampNeg (some jj.2.2.2.2.2.2.2.2.2.2.2.2.2.2.2.2.2.2.2.2.2.2.2.1)) (3 : Int32).toNatClampNeg (some jj.2.2.2.2.2.2.2.2.2.2.2.2.2.2.2.2.2.2.2.2.2.2.2.2.2.1))))))), (jj.2.1, .inr (5, [.ref jj.2.2.1, .int 0, .int 0, .int 0])), (jj.2.2.1, .inl (G.2.1, 60, .inl (fun _ => 0))), (jj.2.2.2.1, .inr (1, [.ref jj.2.2.2.2.1, .int 0, .int 0, .int (-9)])), (jj.2.2.2.2.1, .inl (G.2.1, 20, .inl (fun _ => 0))), (jj.2.2.2.2.2.1, .inr (3, [.ref jj.2.2.2.2.2.2.1, .ref jj.2.2.2.2.2.2.2.1, .ref jj.2.2.2.2.2.2.2.2.1, .int 0])), (jj.2.2.2.2.2.2.1, .inl (G.2.1, 8, .inl (fun _ => 0))), (jj.2.2.2.2.2.2.2.1, .inl (G.2.1, 8, .inl (fun _ => 0))), (jj.2.2.2.2.2.2.2.2.1, .inl (G.2.2.1, 8, .inl (fun _ => 0))), (jj.2.2.2.2.2.2.2.2.2.1, .inr (2, [.ref jj.2.2.2.2.2.2.2.2.2.2.1, .int 0, .int 0, .int 0, .int 0, .int 0])), (jj.2.2.2.2.2.2.2.2.2.2.1, .inl (G.2.1, 20, .inl (fun _ => 0))), (jj.2.2.2.2.2.2.2.2.2.2.2.1, .inr (0, [.ref jj.2.2.2.2.2.2.2.2.2.2.2.2.1, .ref jj.2.2.2.2.2.2.2.2.2.2.2.2.2.1, .int 0])), (jj.2.2.2.2.2.2.2.2.2.2.2.2.1, .inl (G.2.1, 4, .inl (fun _ => 0))), (jj.2.2.2.2.2.2.2.2.2.2.2.2.2.1, .inl (G.2.1, 4, .inl (fun _ => 0))), (jj.2.2.2.2.2.2.2.2.2.2.2.2.2.2.1, .inr (2, [.ref jj.2.2.2.2.2.2.2.2.2.2.2.2.2.2.2.1, .int 0, .int 0, .int 0, .int 0, .int 0])), (jj.2.2.2.2.2.2.2.2.2.2.2.2.2.2.2.1, .inl (G.2.1, 20, .inl (fun _ => 0))), (jj.2.2.2.2.2.2.2.2.2.2.2.2.2.2.2.2.1, .inr (0, [.ref jj.2.2.2.2.2.2.2.2.2.2.2.2.2.2.2.2.2.1, .ref jj.2.2.2.2.2.2.2.2.2.2.2.2.2.2.2.2.2.2.1, .int 0])), (jj.2.2.2.2.2.2.2.2.2.2.2.2.2.2.2.2.2.1, .inl (G.2.1, 4, .inl (fun _ => 0))), (jj.2.2.2.2.2.2.2.2.2.2.2.2.2.2.2.2.2.2.1, .inl (G.2.1, 4, .inl (fun _ => 0))), (jj.2.2.2.2.2.2.2.2.2.2.2.2.2.2.2.2.2.2.2.1, .inr (4, [.ref jj.2.2.2.2.2.2.2.2.2.2.2.2.2.2.2.2.2.2.2.2.1, .int (-1), .int 0])), (jj.2.2.2.2.2.2.2.2.2.2.2.2.2.2.2.2.2.2.2.2.1, .inl (G.2.1, 60, .inl (fun _ => 0))), (jj.2.2.2.2.2.2.2.2.2.2.2.2.2.2.2.2.2.2.2.2.2.1, .inr (4, [.ref jj.2.2.2.2.2.2.2.2.2.2.2.2.2.2.2.2.2.2.2.2.2.2.1, .int (-1), .int 0])), (jj.2.2.2.2.2.2.2.2.2.2.2.2.2.2.2.2.2.2.2.2.2.2.1, .inl (G.2.1, 60, .inl (fun _ => 0))), (jj.2.2.2.2.2.2.2.2.2.2.2.2.2.2.2.2.2.2.2.2.2.2.2.1, .inr (4, [.ref jj.2.2.2.2.2.2.2.2.2.2.2.2.2.2.2.2.2.2.2.2.2.2.2.2.1, .int (-1), .int 0])), (jj.2.2.2.2.2.2.2.2.2.2.2.2.2.2.2.2.2.2.2.2.2.2.2.2.1, .inl (G.2.1, 60, .inl (fun _ => 0))), (jj.2.2.2.2.2.2.2.2.2.2.2.2.2.2.2.2.2.2.2.2.2.2.2.2.2.1, .inr (4, [.ref jj.2.2.2.2.2.2.2.2.2.2.2.2.2.2.2.2.2.2.2.2.2.2.2.2.2.2, .int (-1), .int 0])), (jj.2.2.2.2.2.2.2.2.2.2.2.2.2.2.2.2.2.2.2.2.2.2.2.2.2.2, .inl (G.2.1, 60, .inl (fun _ => 0)))] ++ [(y, .inr (7, [.int 0, .int 0, .int 0, .int 0, .ref kk.1, .int 0, .ref kk.2.1, .ref kk.2.2.1, .int 0, .int 0, .int 0, .int 0, .int 0, .int 0, .int 0, .ref kk.2.2.2.1, .ref kk.2.2.2.2.1, .ref kk.2.2.2.2.2.1, .int 0, .int 0, .int 0, .ref kk.2.2.2.2.2.2.1, .ref kk.2.2.2.2.2.2.2.1, .int 0, .ref kk.2.2.2.2.2.2.2.2.1, .ref kk.2.2.2.2.2.2.2.2.2.1, .ref kk.2.2.2.2.2.2.2.2.2.2.1, .ref kk.2.2.2.2.2.2.2.2.2.2.2.1, .ref kk.2.2.2.2.2.2.2.2.2.2.2.2.1, .ref kk.2.2.2.2.2.2.2.2.2.2.2.2.2.1, .ref kk.2.2.2.2.2.2.2.2.2.2.2.2.2.2, .int 0])), (kk.1, .inl (G.2.1, 20, .inl (fun _ => 0))), (kk.2.1, .inl (G.2.1, 4, .inl (fun _ => 0))), (kk.2.2.1, .inl (G.2.1, 4, .inl (fun _ => 0))), (kk.2.2.2.1, .inl (G.2.1, 20, .inl (fun _ => 0))), (kk.2.2.2.2.1, .inl (G.2.1, 4, .inl (fun _ => 0))), (kk.2.2.2.2.2.1, .inl (G.2.1, 4, .inl (fun _ => 0))), (kk.2.2.2.2.2.2.1, .inl (G.2.1, 20, .inl (fun _ => 0))), (kk.2.2.2.2.2.2.2.1, .inl (G.2.1, 40, .inl (fun _ => 0))), (kk.2.2.2.2.2.2.2.2.1, .inl (G.2.1, 8, .inl (fun _ => 0))), (kk.2.2.2.2.2.2.2.2.2.1, .inl (G.2.1, 8, .inl (fun _ => 0))), (kk.2.2.2.2.2.2.2.2.2.2.1, .inl (G.2.2.1, 8, .inl (fun _ => 0))), (kk.2.2.2.2.2.2.2.2.2.2.2.1, .inl (G.2.1, 4, .inl (upd (upd (upd (upd (fun _ => 0) (0 : Int32).toNatClampNeg (-1)) (1 : Int32).toNatClampNeg (-1)) (2 : Int32).toNatClampNeg (-1)) (3 : Int32).toNatClampNeg (-1)))), (kk.2.2.2.2.2.2.2.2.2.2.2.2.1, .inl (G.2.1, 4, .inl (fun _ => 0))), (kk.2.2.2.2.2.2.2.2.2.2.2.2.2.1, .inl (G.2.1, 240, .inl (fun _ => 0))), (kk.2.2.2.2.2.2.2.2.2.2.2.2.2.2, .inl (G.2.1, 60, .inl (fun _ => 0)))]) := by
  refine ⟨ad0 z jj, sh0 jj, v0, fun _ _ => 0, am0 y kk, fun _ => 0, g0, rfl, rfl, ?_, rfl, rel0⟩
  intro k hk
  match k, hk with
  | 0, _ => rfl
  | 1, _ => rfl
  | 2, _ => rfl
  | 3, _ => rfl
  | k + 4, hk => exact absurd hk (by omega)
theorem start_G {b : Nat} {s : State} (hts : ∀ w ∈ lw_tbl, w.before #[Value.ref b] s = true) : ∃ G : GT, va_K G.1 vwCl (tyG G) s ∧ NW s ∧ va_AO "SkateBonds$Sheet" s := by
  have ht : ∀ w ∈ TT, w.before #[Value.ref b] s = true := fun w hw => hts w (tt_tbl hw)
  obtain ⟨c0, i0, k0⟩ := u_known (n := 3) ht inT0 (ht _ tIX0)
  obtain ⟨c1, i1, k1⟩ := u_known (n := 4) ht inT1 (ht _ tIX1)
  obtain ⟨c2, i2, k2⟩ := u_known (n := 6) ht inT2 (ht _ tIX2)
  obtain ⟨c3, i3, k3⟩ := u_known (n := 4) ht inT3 (ht _ tIX3)
  obtain ⟨c4, i4, k4⟩ := u_known (n := 3) ht inT4 (ht _ tIX4)
  obtain ⟨c5, i5, k5⟩ := u_known (n := 4) ht inT5 (ht _ tIX5)
  obtain ⟨c6, i6, k6⟩ := u_known (n := 10) ht inT6 (ht _ tIX6)
  obtain ⟨c7, i7, k7⟩ := u_known (n := 32) ht inT7 (ht _ tIX7)
  obtain ⟨cI, kI, pI, a1, a2, a3⟩ := Cond.arrayClass_spec (hts _ tAI)
  obtain ⟨cZ, kZ, pZ, d1, d2, d3⟩ := Cond.arrayClass_spec (hts _ tAZ)
  obtain ⟨pS, cS, kS, g1, g2, g3, g4, g5⟩ := Cond.arrayOver_spec (hts _ tAS)
  refine ⟨((fun n => match n with | 0 => c0 | 1 => c1 | 2 => c2 | 3 => c3 | 4 => c4 | 5 => c5 | 6 => c6 | _ => c7, fun n => match n with | 0 => i0 | 1 => i1 | 2 => i2 | 3 => i3 | 4 => i4 | 5 => i5 | 6 => i6 | _ => i7), cI, cZ, cS), ⟨?_, ?_⟩, fun w hw => ?_, va_AO.of (hts _ tAS)⟩
  · intro c q hq
    match c, hq with
    | 0, hq => cases hq; exact k0
    | 1, hq => cases hq; exact k1
    | 2, hq => cases hq; exact k2
    | 3, hq => cases hq; exact k3
    | 4, hq => cases hq; exact k4
    | 5, hq => cases hq; exact k5
    | 6, hq => cases hq; exact k6
    | 7, hq => cases hq; exact k7
    | c + 8, hq => cases hq
  · intro k q hk
    match k, hk with
    | 0, hk => cases hk; exact ⟨fun _ _ => ⟨fun k h => (by cases h), kI, a2, pI, a3⟩, a1⟩
    | 1, hk => cases hk; exact ⟨fun _ _ => ⟨fun k h => (by cases h), kZ, d2, pZ, d3⟩, d1⟩
    | 2, hk => cases hk; exact ⟨fun _ _ => ⟨fun k h => (by cases h), kS, g3, pS, g4⟩, kS, pS, g3, g4, g1, g5⟩
    | k + 3, hk => cases hk
  · have h1 := List.all_eq_true.mp nest_ok w hw
    have h2 := hts w (nestL_in w hw)
    cases w <;> first | exact va_Nw.of rfl h2 | (simp [isNest] at h1; done)
