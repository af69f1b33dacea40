theorem skatN_ok {fro n : Int32} {sh : Nat → Int32} : ∀ (f : Nat) (q : qU), okN q.2.2.2.1 → okN (q_skatN fro n sh f q).2.2.2.1
  | 0, q, h => by rw [skat0]; exact h
  | f + 1, q, h => by
    rw [skatS]
    split
    · refine skatN_ok f _ ?_
      obtain ⟨d, hd, e⟩ := h
      show okN (q_skN q.1 fro n sh q.2.2.2.1)
      rw [e]
      rcases skNR (fro := fro) (sh := sh) q.1 n hd with ⟨-, r⟩ | ⟨h4, -, r⟩
      · exact ⟨d, hd, r⟩
      · exact ⟨d + 1, h4, r⟩
    · exact h
theorem skOk {fro n : Int32} {sh rstr rk rw' : Nat → Int32} (h : ¬ (q_sk fro n sh rstr rk rw').2.2.2.2 = 0) : 0 ≤ q_fr fro n sh ∧ okN (q_sk fro n sh rstr rk rw').2.2.2.1 := by
  refine ⟨?_, ?_⟩
  · refine Classical.byContradiction fun hf => h ?_
    have e : q_ce fro n sh rstr = (q_h3 fro n sh, rstr, 0) := by
      unfold q_ce
      rw [if_neg hf, if_neg hf]
      exact cells0 _ _ _ _
    unfold q_sk
    rw [e, skatZ n 5 (q_h3 fro n sh, rk, rw', 0, 0) (fun z => z.1 rfl)]
  · unfold q_sk
    exact skatN_ok 5 _ ⟨0, by omega, rfl⟩
