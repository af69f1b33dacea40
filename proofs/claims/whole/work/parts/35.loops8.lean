theorem ok_X7_readsCanal (l : Launch) (G : GT) (h_X7_codeAt : K_X7_codeAt l G) (h_X7_figure : K_X7_figure l G) (h_X7_readsPlace : K_X7_readsPlace l G) (h_X7_readsSkater : K_X7_readsSkater l G) : K_X7_readsCanal l G := by
  intro m0 a4 a6 a7 a15 a16 a17 a21 a22 a24 a25 a26 a27 a28 a29 a30 f0 f1 f2 f3 f5 f8 f9 f10 f11 f12 f13 f14 f18 f19 f20 f23 f31 g4 g6 g7 g15 g16 g17 g21 g22 g24 g25 g26 g27 g28 g29 g30 fro n p0
  obtain ⟨F, hF, eF⟩ := nI_of p0.1
  obtain ⟨N, hN', en⟩ := nI_of p0.2.1
  have hl := p0.2.2
  rw [eF, en, nI_clamp hF, nI_clamp hN'] at hl
  have hN : N ≤ 240 := by omega
  have ok : ∀ p, posOk N p → okC p fro n ∧ okC (p + 1) fro n ∧ okC (p + 1 + 1) fro n := by
    rintro p ⟨k, hk, rfl⟩
    rw [eF, en, nI_1, nI_1]
    exact ⟨okC_of hl (by omega), okC_of hl (by omega), okC_of hl (by omega)⟩
  refine wk_X7_readsCanal l G m0 a4 a6 a7 a15 a16 a17 a21 a22 a24 a25 a26 a27 a28 a29 a30 f0 f1 f2 f3 f5 f8 f9 f10 f11 f12 f13 f14 f18 f19 f20 f23 f31 g4 g6 g7 g15 g16 g17 g21 g22 g24 g25 g26 g27 g28 g29 g30 fro n ((q_sk fro n g29 g15 g16 g17).2.2.2.2) ((q_sk fro n g29 g15 g16 g17).1) (q_hi fro n g29) (q_wi fro n g29) (q_fr fro n g29) ((q_sk fro n g29 g15 g16 g17).2.2.2.1) ((q_ce fro n g29 g15).2.1) ((q_sk fro n g29 g15 g16 g17).2.1) ((q_sk fro n g29 g15 g16 g17).2.2.1) (fun c x e pos y11 y12 y13 s4 => (x = 0 ∨ x = 1) ∧ y11 = q_hi fro n g29 ∧ y12 = q_wi fro n g29 ∧ y13 = q_fr fro n g29 ∧ posOk N pos ∧ ∃ T E : Nat, T ≤ 20 ∧ E ≤ T ∧ e = nI E ∧ (¬ x = 0 → 0 ≤ q_fr fro n g29 ∧ q_hi fro n g29 * q_wi fro n g29 = nI T) ∧ c = T - E ∧ q_cellsN fro n g29 (q_wi fro n g29) (T - E) E (pos, s4, x) = q_ce fro n g29 g15) (fun c x pos y11 y12 y13 cnt s4 rk rw => (x = 0 ∨ x = 1) ∧ y11 = q_hi fro n g29 ∧ y12 = q_wi fro n g29 ∧ y13 = q_fr fro n g29 ∧ posOk N pos ∧ s4 = (q_ce fro n g29 g15).2.1 ∧ ∃ d f : Nat, d ≤ 4 ∧ cnt = nI d ∧ c = (4 - d) + (if x = 0 then 0 else 1) ∧ c ≤ f ∧ q_skatN fro n g29 f (pos, rk, rw, cnt, x) = q_sk fro n g29 g15 g16 g17) h_X7_codeAt h_X7_figure h_X7_readsPlace h_X7_readsSkater ?_ ?_ ?_
  · refine ⟨(ok 0 ⟨0, Nat.zero_le _, rfl⟩).1, ?_⟩
    intro v26 e26 v41 e41
    have hp1 : posOk N (0 + v41) := by
      by_cases h : q_code 0 fro n g29 = 99
      · have : 0 < N := by
          rw [en] at h
          exact codeLt0 (k := 0) (by omega) (by omega) (by decide) h
        refine ⟨1, this, ?_⟩
        rw [e41, e26, if_pos h]
        rfl
      · refine ⟨0, Nat.zero_le _, ?_⟩
        rw [e41, e26, if_neg h]
        rfl
    refine ⟨⟨fun _ => trivial, fun _ => (ok _ hp1).1⟩, ?_⟩
    intro s63 w63 es63 ew63
    have h63 : s63 = q_hi fro n g29 ∧ w63 = q_h1 fro n g29 := by
      unfold q_hi q_h1
      rw [es63, ew63, e41, e26]
      by_cases h : q_code 0 fro n g29 = 99
      · simp only [if_pos h]
        exact ⟨rfl, rfl⟩
      · simp only [if_neg h]
        exact ⟨rfl, rfl⟩
    have hp2 : posOk N w63 := by
      rw [ew63]
      split
      · exact hp1
      · rw [en]
        exact figPos hN hp1 (by decide)
    refine ⟨⟨fun _ => trivial, fun _ => (ok _ hp2).1⟩, ?_⟩
    intro s87 w87 es87 ew87
    have hp3 : posOk N w87 := by
      rw [ew87]
      split
      · exact hp2
      · rw [en]
        exact figPos hN hp2 (by decide)
    refine ⟨⟨fun _ => trivial, fun _ => (ok _ hp3).1⟩, ?_⟩
    intro s112 w112 es112 ew112
    have hp4 : posOk N w112 := by
      rw [ew112]
      split
      · exact hp3
      · rw [en]
        exact figPos hN hp3 (by decide)
    have flip : ∀ (x : Int32) {α : Type} (A B : α), (if x ≤ 0 then A else B) = if 0 < x then B else A := by
      intro x α A B
      by_cases h : 0 < x
      · rw [if_pos h, if_neg (Int32.not_le.mpr h)]
      · rw [if_neg h, if_pos (Int32.not_lt.mp h)]
    obtain ⟨h1, h2⟩ := h63
    have h87 : s87 = q_wi fro n g29 ∧ w87 = q_h2 fro n g29 := by
      unfold q_wi q_h2
      rw [es87, ew87, h1, h2, flip, flip]
      exact ⟨rfl, rfl⟩
    obtain ⟨h3, h4⟩ := h87
    have h112 : s112 = q_fr fro n g29 ∧ w112 = q_h3 fro n g29 := by
      unfold q_fr q_h3
      rw [es112, ew112, h3, h4, flip, flip]
      exact ⟨rfl, rfl⟩
    obtain ⟨h5, h6⟩ := h112
    intro v127 e127
    rw [h5] at e127
    by_cases hf : 0 ≤ q_fr fro n g29
    · rw [if_neg (Int32.not_lt.mpr hf)] at e127
      obtain ⟨T, hT, eT, cT, -⟩ := (frOk hf).1.n
      refine ⟨T, Or.inr e127, h1, h3, h5, hp4, T, 0, hT, Nat.zero_le _, rfl, fun _ => ⟨hf, eT⟩, rfl, ?_⟩
      unfold q_ce
      rw [if_pos hf, if_pos hf, cT, h6, e127]
      rfl
    · rw [if_pos (Int32.not_le.mp hf)] at e127
      refine ⟨0, Or.inl e127, h1, h3, h5, hp4, 0, 0, by omega, Nat.zero_le _, rfl, fun z => absurd e127 z, rfl, ?_⟩
      unfold q_ce
      rw [if_neg hf, if_neg hf, h6, e127]
  · rintro c x e pos y11 y12 y13 s4 ⟨hx, rfl, rfl, rfl, hp, T, E, hT, hE, rfl, hb, rfl, he⟩
    have start : q_ce fro n g29 g15 = (pos, s4, x) → ∃ k3 : Nat, (x = 0 ∨ x = 1) ∧ q_hi fro n g29 = q_hi fro n g29 ∧ q_wi fro n g29 = q_wi fro n g29 ∧ q_fr fro n g29 = q_fr fro n g29 ∧ posOk N pos ∧ s4 = (q_ce fro n g29 g15).2.1 ∧ ∃ d f : Nat, d ≤ 4 ∧ (0 : Int32) = nI d ∧ k3 = (4 - d) + (if x = 0 then 0 else 1) ∧ k3 ≤ f ∧ q_skatN fro n g29 f (pos, g16, g17, 0, x) = q_sk fro n g29 g15 g16 g17 := by
      intro h
      refine ⟨4 + (if x = 0 then 0 else 1), hx, rfl, rfl, rfl, hp, by rw [h], 0, 5, by omega, rfl, rfl, by split <;> omega, ?_⟩
      unfold q_sk
      rw [h]
    refine ⟨fun h => ?_, fun h => ⟨fun h2 => ?_, fun h2 => ?_⟩⟩
    · rw [cellsZ _ _ _ _ _ h] at he
      exact start he.symm
    · rw [(hb h).2] at h2
      rw [show T - E = 0 by have := lp_done (by omega) hE h2; omega, cells0] at he
      exact start he.symm
    · obtain ⟨hf, eT⟩ := hb h
      rw [eT] at h2
      have hlt := lp_more (by omega) hE h2
      rw [show T - E = (T - (E + 1)) + 1 by omega, cellsS, if_neg h] at he
      refine ⟨(ok _ hp).1, (ok _ hp).2.1, (frOk hf).2, vp_in_nI (Nat.lt_of_lt_of_le hlt hT) (by decide), T - (E + 1), Nat.sub_lt_sub_left hlt (Nat.lt_succ_self E), ?_⟩
      refine ⟨?_, rfl, rfl, rfl, ?_, T, E + 1, hT, hlt, nI_1 E, fun _ => ⟨hf, eT⟩, rfl, ?_⟩
      · exact plR01 pos n (q_wi fro n g29) (nI E)
      · rw [en]
        exact plPos hN hp
      · exact he
  · rintro c x pos y11 y12 y13 cnt s4 rk rw_ ⟨hx, ey1, ey2, ey3, hp, es4, d, f, hd, ecn, ec, hcf, he⟩
    replace es4 := es4.symm
    subst es4
    replace ey1 := ey1.symm
    subst ey1
    replace ey2 := ey2.symm
    subst ey2
    replace ey3 := ey3.symm
    subst ey3
    replace ecn := ecn.symm
    subst ecn
    replace ec := ec.symm
    subst ec
    have done : ¬ (¬ x = 0 ∧ (nI d < 2 ∨ pos < n)) → (pos, rk, rw_, nI d, x) = q_sk fro n g29 g15 g16 g17 := fun h => (skatZ n f (pos, rk, rw_, nI d, x) h).symm.trans he
    have step : ¬ x = 0 → (nI d < 2 ∨ pos < n) → ∃ f2 : Nat, f = f2 + 1 ∧ q_skatN fro n g29 f2 (q_skP pos fro n g29 (nI d), q_skK pos fro n g29 (nI d) rk, q_skV pos fro n g29 (nI d) rw_, q_skN pos fro n g29 (nI d), q_skR pos fro n g29 (nI d)) = q_sk fro n g29 g15 g16 g17 := by
      intro h h2
      rw [if_neg h] at hcf
      obtain ⟨f2, rfl⟩ : ∃ g, f = g + 1 := ⟨f - 1, by omega⟩
      refine ⟨f2, rfl, ?_⟩
      rw [skatS n f2 (pos, rk, rw_, nI d, x)] at he
      exact (if_pos (show ¬ x = 0 ∧ (nI d < 2 ∨ pos < n) from ⟨h, h2⟩)).symm.trans he
    have fin : (pos, rk, rw_, nI d, x) = q_sk fro n g29 g15 g16 g17 → x = (q_sk fro n g29 g15 g16 g17).2.2.2.2 ∧ pos = (q_sk fro n g29 g15 g16 g17).1 ∧ q_hi fro n g29 = q_hi fro n g29 ∧ q_wi fro n g29 = q_wi fro n g29 ∧ q_fr fro n g29 = q_fr fro n g29 ∧ nI d = (q_sk fro n g29 g15 g16 g17).2.2.2.1 ∧ (q_ce fro n g29 g15).2.1 = (q_ce fro n g29 g15).2.1 ∧ rk = (q_sk fro n g29 g15 g16 g17).2.1 ∧ rw_ = (q_sk fro n g29 g15 g16 g17).2.2.1 := fun h => by
      rw [← h]
      exact ⟨rfl, rfl, rfl, rfl, rfl, rfl, rfl, rfl, rfl⟩
    have next : ¬ x = 0 → (nI d < 2 ∨ pos < n) → okC pos fro n ∧ okC (pos + 1) fro n ∧ okC (pos + 1 + 1) fro n ∧ okN (nI d) ∧ ∃ k1 : Nat, k1 < (4 - d) + (if x = 0 then 0 else 1) ∧ (q_skR pos fro n g29 (nI d) = 0 ∨ q_skR pos fro n g29 (nI d) = 1) ∧ q_hi fro n g29 = q_hi fro n g29 ∧ q_wi fro n g29 = q_wi fro n g29 ∧ q_fr fro n g29 = q_fr fro n g29 ∧ posOk N (q_skP pos fro n g29 (nI d)) ∧ (q_ce fro n g29 g15).2.1 = (q_ce fro n g29 g15).2.1 ∧ ∃ d2 f2 : Nat, d2 ≤ 4 ∧ q_skN pos fro n g29 (nI d) = nI d2 ∧ k1 = (4 - d2) + (if q_skR pos fro n g29 (nI d) = 0 then 0 else 1) ∧ k1 ≤ f2 ∧ q_skatN fro n g29 f2 (q_skP pos fro n g29 (nI d), q_skK pos fro n g29 (nI d) rk, q_skV pos fro n g29 (nI d) rw_, q_skN pos fro n g29 (nI d), q_skR pos fro n g29 (nI d)) = q_sk fro n g29 g15 g16 g17 := by
      intro h h2
      obtain ⟨f2, ef, hs⟩ := step h h2
      have hq : posOk N (q_skP pos fro n g29 (nI d)) := by
        rw [en]
        exact skPos hN hp
      rw [if_neg h] at hcf ⊢
      refine ⟨(ok _ hp).1, (ok _ hp).2.1, (ok _ hp).2.2, ⟨d, hd, rfl⟩, ?_⟩
      rcases skNR (fro := fro) (sh := g29) pos n hd with ⟨r1, r2⟩ | ⟨hd2, r1, r2⟩
      · exact ⟨4 - d, by omega, Or.inl r1, rfl, rfl, rfl, hq, rfl, d, f2, hd, r2, by rw [if_pos r1, Nat.add_zero], by omega, hs⟩
      · exact ⟨4 - (d + 1) + 1, by omega, Or.inr r1, rfl, rfl, rfl, hq, rfl, d + 1, f2, hd2, r2, by rw [if_neg (by rw [r1]; decide)], by omega, hs⟩
    refine ⟨fun h => ⟨hx, fin (done (fun z => z.1 h))⟩, fun h => ⟨fun h2 => next h (Or.inl h2), fun h2 => ⟨fun h3 => ⟨hx, fin (done (fun z => z.2.elim h2 (Int32.not_lt.mpr h3)))⟩, fun h3 => next h (Or.inr (Int32.not_le.mp h3))⟩⟩⟩
