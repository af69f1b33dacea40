/-! small answers: the canal, readings, telling -/
def rRd (rd s n : Nat) (rs rl rb rs' rl' rb' : Nat → Int32) : Prop := ∀ k, k < rd → rs k = rs' k ∧ rl k = rl' k ∧ rb k = rb' k ∧ (∃ x, x < s ∧ rs k = nI x) ∧ ∃ c, c < n ∧ rl k = nI c
theorem ifc {α : Type} {P Q : Prop} [Decidable P] [Decidable Q] {x y u v : α} (h : P = Q) (h1 : Q → x = u) (h2 : ¬ Q → y = v) : (if P then x else y) = if Q then u else v := ite_congr h h1 h2
section SM
variable {a b s : Nat} {ck cwt kd wt str str' : Nat → Int32}
theorem sk0_iff {s : Nat} (hs : s ≤ 4) (A : Int32) : (s_sk (nI s) A = 0) = ¬ (q_noSk (nI s) A = 0) := by
  rw [← sk_iff hs, Classical.not_not]
theorem ce0_iff {hi wi : Int32} (h : okD hi wi) (c : Int32) : (s_ce hi wi c = 0) = ¬ (q_noPlace hi wi c = 0) := by
  rw [← ce_iff h, Classical.not_not]
theorem qbearing_bt {n0 : Nat} (hn0 : n0 ≤ 20) (br th : Int32) (str kd wt : Nat → Int32) (A : Int32) : ∀ n, n ≤ n0 → ∀ k, k < 32 → bt (q_bearing br th str kd wt A n) k = (decide (k < n) && bS br th str kd wt A k)
  | 0, _, k, _ => by
    show bt 0 k = _
    rw [b_0]
    simp
  | n + 1, hn, k, hk => by
    show bt (q_bearing br th str kd wt A n ||| (if q_bears br th str kd wt (nI n) A = 0 then 0 else (1 : Int32) <<< (nI n &&& 31))) k = _
    rw [b_or, qbearing_bt hn0 br th str kd wt A n (by omega) k hk, mBr_bS hn0 br th str kd wt A n (by omega)]
    cases hc : bS br th str kd wt A n with
    | true =>
      have e1 : ¬ (if true = true then (1 : Int32) else 0) = 0 := by decide
      rw [if_neg e1, bt_bit (by omega) hk]
      by_cases e : k = n
      · subst e
        simp [hc]
      · by_cases z : k < n
        · have z2 : k < n + 1 := by omega
          simp [e, z, z2]
        · have z2 : ¬ k < n + 1 := by omega
          simp [e, z, z2]
    | false =>
      have e1 : (if false = true then (1 : Int32) else 0) = 0 := by decide
      rw [if_pos e1, b_0, Bool.or_false]
      by_cases e : k = n
      · subst e
        simp [hc]
      · by_cases z : k < n
        · have z2 : k < n + 1 := by omega
          simp [z, z2]
        · have z2 : ¬ k < n + 1 := by omega
          simp [z, z2]
theorem bearing_eq (g : gOk a b) (hs : s ≤ 4) (hS : rS (a * b) str str') (hC : rC s ck cwt kd wt) {x : Nat} (hx : x < s) : s_bearing str (s_load ck cwt (nI x)) 0 (a * b) = q_bearing 0 0 str' kd wt (nI x) (a * b) := by
  have hl := g.le
  refine b_ext fun k hk => ?_
  rw [bearing_bt _ _ _ _ (by omega) k hk, qbearing_bt hl 0 0 str' kd wt (nI x) _ (Nat.le_refl _) k hk]
  by_cases z : k < a * b
  · unfold bS
    rw [load_eq hC hx hs, (hS k z).1, b_0]
    rfl
  · simp [z]
theorem ofSk_ans (g : gOk a b) (hs : s ≤ 4) (hS : rS (a * b) str str') (hC : rC s ck cwt kd wt) (A what : Int32) : x_ofSk (nI a) (nI b) (nI s) str ck cwt A what = m_ofSkater (nI a) (nI b) (nI s) 0 0 str' kd wt A what := by
  have hl := g.le
  unfold x_ofSk m_ofSkater
  refine ifc (sk0_iff hs A) (fun _ => rfl) (fun hk => ?_)
  obtain ⟨x, hx, rfl⟩ := sk_nI hs (Classical.not_not.mp hk)
  obtain ⟨h1, h2, -⟩ := hC x hx
  rw [nI_clamp (by omega), h1, h2, load_eq hC hx hs, g.cells, nI_clamp (by omega)]
  have := bearing_eq g hs hS hC hx
  rw [load_eq hC hx hs] at this
  rw [this]
theorem strength_ans (g : gOk a b) (hS : rS (a * b) str str') (ce : Int32) : x_strength (nI a) (nI b) str ce = m_strength (nI a) (nI b) str' ce := by
  have hl := g.le
  unfold x_strength m_strength
  by_cases hk : q_noPlace (nI a) (nI b) ce = 0
  · have h1 := hk
    rw [← ce_iff g.dd] at h1
    rw [if_neg h1, if_pos hk]
    obtain ⟨c, hc, rfl⟩ := ce_nI g hk
    rw [nI_clamp (by omega), (hS c hc).1]
  · rw [if_pos (by rw [ce0_iff g.dd]; exact hk), if_neg hk]
theorem in09 (v : Int32) : (s_in v 0 9 = 0) = ¬ m_09 v := s_in0 ..
theorem freeze_ans (g : gOk a b) (hS : rS (a * b) str str') (ce v : Int32) : x_freezeR (nI a) (nI b) str ce v = m_freezeR (nI a) (nI b) str' ce v ∧ rS (a * b) (if x_frOk (nI a) (nI b) ce v then upd str ce.toNatClampNeg v else str) (m_freezeS (nI a) (nI b) str' ce v) := by
  have hl := g.le
  unfold x_freezeR m_freezeR m_freezeS
  by_cases hk : q_noPlace (nI a) (nI b) ce = 0
  · have h1 := hk
    rw [← ce_iff g.dd] at h1
    rw [if_neg h1, ifnn hk]
    obtain ⟨c, hc, rfl⟩ := ce_nI g hk
    by_cases hv : m_09 v
    · have h2 : ¬ s_in v 0 9 = 0 := by
        rw [in09]
        exact fun z => z hv
      have h3 : x_frOk (nI a) (nI b) (nI c) v := ⟨h1, h2⟩
      have h4 : q_noPlace (nI a) (nI b) (nI c) = 0 ∧ m_09 v := ⟨hk, hv⟩
      rw [if_neg h2, if_pos hv, if_pos h3, if_pos h4, nI_clamp (by omega)]
      refine ⟨(hS c hc).1, fun k hk => ?_⟩
      unfold upd
      by_cases z : k = c
      · rw [if_pos z, if_pos z]
        obtain ⟨m, hm, e⟩ := nI_of2 (n := 9) (M := 9) (by decide) (Int32.not_lt.mpr hv.1) hv.2
        exact ⟨rfl, m, hm, e⟩
      · rw [if_neg z, if_neg z]
        exact hS k hk
    · have h2 : s_in v 0 9 = 0 := by
        rw [in09]
        exact hv
      have h3 : ¬ x_frOk (nI a) (nI b) (nI c) v := fun z => z.2 h2
      have h4 : ¬ (q_noPlace (nI a) (nI b) (nI c) = 0 ∧ m_09 v) := fun z => hv z.2
      rw [if_pos h2, if_neg hv, if_neg h3, if_neg h4]
      exact ⟨rfl, hS⟩
  · have h1 : s_ce (nI a) (nI b) ce = 0 := by
      rw [ce0_iff g.dd]
      exact hk
    have h3 : ¬ x_frOk (nI a) (nI b) ce v := fun z => z.1 h1
    have h4 : ¬ (q_noPlace (nI a) (nI b) ce = 0 ∧ m_09 v) := fun z => hk z.1
    rw [if_pos h1, ifp0 hk, if_neg h3, if_neg h4]
    exact ⟨rfl, hS⟩
/-! weather -/
theorem rw_ans (g : gOk a b) (hs : s ≤ 4) (hz : s = 0 ↔ a * b = 0) (v r : Int32) : x_wx (nI a) (nI b) v r = m_wx (nI s) v r ∧ (x_rw (nI a) (nI b) v = 0) = m_wxOk (nI s) v := by
  have hl := g.le
  have e : (nI a * nI b = 0) = (nI s = 0) := by
    rw [g.cells]
    have h1 : (nI (a * b) = 0) = (a * b = 0) := propext (nI_eq (b := 0) (by omega) (by omega))
    have h2 : (nI s = 0) = (s = 0) := propext (nI_eq (b := 0) (by omega) (by omega))
    rw [h1, h2]
    exact propext hz.symm
  unfold x_wx m_wx m_wxOk x_rw
  by_cases hv : m_09 v
  · have h2 : ¬ s_in v 0 9 = 0 := by
      rw [in09]
      exact fun z => z hv
    rw [if_neg h2, ifnn hv]
    by_cases h0 : nI s = 0
    · have h1 : nI a * nI b = 0 := by rw [e]; exact h0
      rw [if_pos h1, if_pos h0]
      exact ⟨if_neg (by decide), propext ⟨fun z => absurd z (by decide), fun z => absurd h0 z.2⟩⟩
    · have h1 : ¬ nI a * nI b = 0 := by rw [e]; exact h0
      rw [if_neg h1, if_neg h0]
      exact ⟨if_pos rfl, propext ⟨fun _ => ⟨hv, h0⟩, fun _ => rfl⟩⟩
  · have h2 : s_in v 0 9 = 0 := by
      rw [in09]
      exact hv
    rw [if_pos h2, ifp0 hv]
    exact ⟨if_neg (by decide), propext ⟨fun z => absurd z (by decide), fun z => absurd z.1 hv⟩⟩
theorem wx_same (g : gOk a b) (hs : s ≤ 4) (hz : s = 0 ↔ a * b = 0) (v r r' : Int32) (h : m_wxOk (nI s) v → r = r') : x_wx (nI a) (nI b) v r = m_wx (nI s) v r' := by
  rw [(rw_ans g hs hz v r).1]
  unfold m_wx
  refine ifc rfl (fun _ => rfl) (fun h1 => ifc rfl (fun _ => rfl) (fun h2 => h ⟨Classical.not_not.mp h1, h2⟩))
theorem count_cong {n : Nat} {f f' : Nat → Int32} {v : Int32} (h : ∀ k, k < n → f k = f' k) : s_count f v n = s_count f' v n := by
  induction n with
  | zero => rfl
  | succ n ih =>
    show s_count f v n + (if f n = v then 1 else 0) = s_count f' v n + (if f' n = v then 1 else 0)
    rw [ih (fun k hk => h k (by omega)), h n (by omega)]
theorem cl_up : ∀ m, m < 10 → ∀ d, d < 82 → s_cl (nI m + nI d) = (if 9 < nI m + nI d then 9 else nI m + nI d) ∧ ∃ e, e ≤ 9 ∧ s_cl (nI m + nI d) = nI e := by
  intro m hm d hd
  rw [nI_add]
  unfold s_cl
  rw [if_neg (nI_pos (by omega))]
  refine ⟨rfl, ?_⟩
  by_cases h : 9 < nI (m + d)
  · rw [if_pos h]
    exact ⟨9, Nat.le_refl _, rfl⟩
  · rw [if_neg h]
    refine ⟨m + d, ?_, rfl⟩
    rcases Nat.lt_or_ge 9 (m + d) with z | z
    · exact absurd (nI_lt (a := 9) z (by omega)) h
    · exact z
theorem cl_down : ∀ m, m < 10 → ∀ d, d < 10 → s_cl (nI m + -nI d) = (if nI m - nI d < 0 then 0 else nI m - nI d) ∧ ∃ e, e ≤ 9 ∧ s_cl (nI m + -nI d) = nI e := by decide +kernel
theorem nights_ans (g : gOk a b) (hS : rS (a * b) str str') {N f : Nat} (hN : N ≤ 9) (hf : f ≤ 9) : rS (a * b) (s_strengthen (a * b) (nI N * nI f) str) (m_nightS (a * b) (nI N * nI f) str') := fun c hc => by
  obtain ⟨h1, m, hm, h2⟩ := hS c hc
  have hd : N * f < 82 := Nat.lt_of_le_of_lt (Nat.mul_le_mul hN hf) (by decide)
  obtain ⟨k1, k2⟩ := cl_up m (by omega) (N * f) hd
  unfold s_strengthen m_nightS
  rw [if_pos hc, if_pos hc, ← h1, h2, nI_mul]
  exact ⟨k1, k2⟩
theorem thaw_ans (g : gOk a b) (hS : rS (a * b) str str') {N : Nat} (hN : N ≤ 9) : rS (a * b) (s_strengthen (a * b) (-nI N) str) (m_thawS (a * b) (nI N) str') := fun c hc => by
  obtain ⟨h1, m, hm, h2⟩ := hS c hc
  obtain ⟨k1, k2⟩ := cl_down m (by omega) N (by omega)
  unfold s_strengthen m_thawS
  rw [if_pos hc, if_pos hc, ← h1, h2]
  exact ⟨k1, k2⟩
/-! readings -/
theorem reading_ans (g : gOk a b) (hs : s ≤ 4) {rd : Nat} (hrd : rd ≤ 8) {rs rl rb rs' rl' rb' : Nat → Int32} (hR : rRd rd s (a * b) rs rl rb rs' rl' rb') (A ce bore : Int32) :
    x_rdR (nI a) (nI b) (nI s) (nI rd) A ce = m_rdR (nI a) (nI b) (nI s) (nI rd) A ce ∧ ∃ rd', rd' ≤ 8 ∧ (if x_rdOk (nI a) (nI b) (nI s) A ce then s_addC (nI rd) else nI rd) = nI rd' ∧ (if m_rdOk (nI a) (nI b) (nI s) (nI rd) A ce then nI rd + 1 else nI rd) = nI rd' ∧
      rRd rd' s (a * b) (if x_rdOk (nI a) (nI b) (nI s) A ce then s_addF (nI rd) rs A else rs) (if x_rdOk (nI a) (nI b) (nI s) A ce then s_addF (nI rd) rl ce else rl) (if x_rdOk (nI a) (nI b) (nI s) A ce then s_addF (nI rd) rb bore else rb)
        (if m_rdOk (nI a) (nI b) (nI s) (nI rd) A ce then upd rs' (nI rd).toNatClampNeg A else rs') (if m_rdOk (nI a) (nI b) (nI s) (nI rd) A ce then upd rl' (nI rd).toNatClampNeg ce else rl') (if m_rdOk (nI a) (nI b) (nI s) (nI rd) A ce then upd rb' (nI rd).toNatClampNeg bore else rb') := by
  have hl := g.le
  have e8 : (8 ≤ nI rd) = (rd = 8) := propext ⟨fun z => by
      have := (nI_leI (a := 8) (b := rd) (by omega) (by omega)).mp z
      omega, fun z => by rw [z]; exact Int32.le_refl _⟩
  have e8' : (nI rd = 8) = (rd = 8) := propext (nI_eq (b := 8) (by omega) (by omega))
  unfold x_rdR m_rdR
  by_cases hk : q_noSk (nI s) A = 0 ∧ q_noPlace (nI a) (nI b) ce = 0
  · have h1 : ¬ (s_sk (nI s) A = 0 ∨ s_ce (nI a) (nI b) ce = 0) := by
      rw [sk0_iff hs, ce0_iff g.dd]
      rintro (z | z)
      · exact z hk.1
      · exact z hk.2
    have hx : x_rdOk (nI a) (nI b) (nI s) A ce := h1
    rw [if_neg h1, ifnn hk, if_pos hx, if_pos hx, if_pos hx, if_pos hx]
    unfold s_addR s_addC s_addF
    by_cases h8 : rd = 8
    · have p1 : 8 ≤ nI rd := by rw [e8]; exact h8
      have p2 : nI rd = 8 := by rw [e8']; exact h8
      have p3 : ¬ m_rdOk (nI a) (nI b) (nI s) (nI rd) A ce := fun z => z.2.2 p2
      rw [if_pos p1, if_pos p2, if_pos p1, if_pos p1, if_pos p1, if_pos p1, if_neg p3, if_neg p3, if_neg p3, if_neg p3]
      exact ⟨rfl, rd, hrd, rfl, rfl, hR⟩
    · have p1 : ¬ 8 ≤ nI rd := by rw [e8]; exact h8
      have p2 : ¬ nI rd = 8 := by rw [e8']; exact h8
      have p3 : m_rdOk (nI a) (nI b) (nI s) (nI rd) A ce := ⟨hk.1, hk.2, p2⟩
      rw [if_neg p1, if_neg p2, if_neg p1, if_neg p1, if_neg p1, if_neg p1, if_pos p3, if_pos p3, if_pos p3, if_pos p3, nI_clamp (by omega), nI_1]
      refine ⟨rfl, rd + 1, by omega, rfl, rfl, fun k hk2 => ?_⟩
      unfold upd
      by_cases z : k = rd
      · rw [if_pos z, if_pos z, if_pos z, if_pos z, if_pos z, if_pos z]
        exact ⟨rfl, rfl, rfl, sk_nI hs hk.1, ce_nI g hk.2⟩
      · rw [if_neg z, if_neg z, if_neg z, if_neg z, if_neg z, if_neg z]
        exact hR k (by omega)
  · have h1 : s_sk (nI s) A = 0 ∨ s_ce (nI a) (nI b) ce = 0 := by
      rw [sk0_iff hs, ce0_iff g.dd]
      by_cases z : q_noSk (nI s) A = 0
      · exact Or.inr (fun q => hk ⟨z, q⟩)
      · exact Or.inl z
    have hx : ¬ x_rdOk (nI a) (nI b) (nI s) A ce := fun z => z h1
    have p3 : ¬ m_rdOk (nI a) (nI b) (nI s) (nI rd) A ce := fun z => hk ⟨z.1, z.2.1⟩
    rw [if_pos h1, ifp0 hk, if_neg hx, if_neg hx, if_neg hx, if_neg hx, if_neg p3, if_neg p3, if_neg p3, if_neg p3]
    exact ⟨rfl, rd, hrd, rfl, rfl, hR⟩
theorem back_ans {rd : Nat} (hrd : rd ≤ 8) (k : Int32) : x_backR (nI rd) k = m_backR (nI rd) k ∧ ∃ rd', rd' ≤ rd ∧ x_backC (nI rd) k = nI rd' ∧ m_backC (nI rd) k = nI rd' := by
  unfold x_backR m_backR x_backC m_backC
  by_cases h : 0 ≤ k ∧ k ≤ nI rd
  · have h1 : ¬ s_in k 0 (nI rd) = 0 := by
      rw [s_in0]
      exact fun z => z h
    rw [if_neg h1, if_pos h, if_neg h1, if_pos h]
    obtain ⟨j, hj, rfl⟩ := nI_of2 (n := rd) (M := nI rd) (nI_toInt (by omega)) (Int32.not_lt.mpr h.1) h.2
    rw [nI_sub hj]
    exact ⟨rfl, rd - j, by omega, rfl, rfl⟩
  · have h1 : s_in k 0 (nI rd) = 0 := by
      rw [s_in0]
      exact h
    rw [if_pos h1, if_neg h, if_pos h1, if_neg h]
    exact ⟨rfl, rd, Nat.le_refl _, rfl, rfl⟩
theorem rRd.okR {rd s n : Nat} {rs rl rb rs' rl' rb' : Nat → Int32} (h : rRd rd s n rs rl rb rs' rl' rb') (hrd : rd ≤ 8) (hs : s ≤ 4) (hn : n ≤ 20) : okR (nI rd) rs rl ∧ okR (nI rd) rs' rl' := by
  refine ⟨⟨rd, hrd, rfl, fun k hk => ?_⟩, ⟨rd, hrd, rfl, fun k hk => ?_⟩⟩
  · obtain ⟨-, -, -, ⟨x, hx, e1⟩, c, hc, e2⟩ := h k hk
    rw [e1, e2]
    exact ⟨vp_in_nI (by omega) (by omega), vp_in_nI (by omega) (by omega)⟩
  · obtain ⟨h1, h2, -, ⟨x, hx, e1⟩, c, hc, e2⟩ := h k hk
    rw [← h1, ← h2, e1, e2]
    exact ⟨vp_in_nI (by omega) (by omega), vp_in_nI (by omega) (by omega)⟩
theorem areSo_eq {n : Nat} (hn : n ≤ 20) (hs : s ≤ 4) {rd : Nat} {rs rl rb rs' rl' rb' : Nat → Int32} (hR : rRd rd s n rs rl rb rs' rl' rb') (hS : rS n str str') (hC : rC s ck cwt kd wt) : s_areSo rs rl rb str ck cwt rd = q_areSo 0 0 str' kd wt rs' rl' rb' rd := by
  unfold s_areSo q_areSo
  refine ifc (propext (forall_congr' fun k => forall_congr' fun hk => ?_)) (fun _ => rfl) (fun _ => rfl)
  obtain ⟨h1, h2, h3, ⟨x, hx, e1⟩, c, hc, e2⟩ := hR k hk
  rw [← h1, ← h2, ← h3, e1, e2, mBr_bS hn 0 0 str' kd wt (nI x) c hc, load_eq hC hx hs, nI_clamp (by omega)]
  have : (if bS 0 0 str' kd wt (nI x) c = true then (1 : Int32) else 0) = if q_load kd wt (nI x) ≤ str c then 1 else 0 := by
    refine ifc (propext ?_) (fun _ => rfl) (fun _ => rfl)
    unfold bS
    rw [b_0, (hS c hc).1, Int32.sub_zero]
    simp
  rw [this]
theorem setN_cong {P Q : Int32 → Int32} {lo : Nat} : ∀ n, (∀ i, i < n → P (nI (lo + i)) = Q (nI (lo + i))) → m_setN P lo n = m_setN Q lo n
  | 0, _ => by rw [setN0, setN0]
  | n + 1, h => by rw [setNS, setNS, setN_cong n (fun i hi => h i (by omega)), h n (by omega)]
theorem weights_ans (g : gOk a b) (hs : s ≤ 4) {rd : Nat} {rs rl rb rs' rl' rb' : Nat → Int32} (hR : rRd rd s (a * b) rs rl rb rs' rl' rb') (hS : rS (a * b) str str') (hC : rC s ck cwt kd wt) (A : Int32) : x_weightsR (nI s) rs rl rb str ck cwt rd A = m_weightsR (nI s) 0 0 str' kd wt rs' rl' rb' rd A := by
  unfold x_weightsR m_weightsR
  refine ifc (sk0_iff hs A) (fun _ => rfl) (fun hk => setN_cong 9 fun i hi => ?_)
  obtain ⟨x, hx, rfl⟩ := sk_nI hs (Classical.not_not.mp hk)
  refine areSo_eq g.le hs hR hS fun y hy => ?_
  rw [nI_clamp (by omega)]
  unfold upd
  by_cases z : y = x
  · rw [if_pos z, if_pos z]
    obtain ⟨h1, -, h3, -⟩ := hC y hy
    exact ⟨h1, rfl, h3, 1 + i, by omega, by omega, rfl⟩
  · rw [if_neg z, if_neg z]
    exact hC y hy
theorem kinds_ans (g : gOk a b) (hs : s ≤ 4) {rd : Nat} {rs rl rb rs' rl' rb' : Nat → Int32} (hR : rRd rd s (a * b) rs rl rb rs' rl' rb') (hS : rS (a * b) str str') (hC : rC s ck cwt kd wt) (A : Int32) : x_kindsR (nI s) rs rl rb str ck cwt rd A = m_kindsR (nI s) 0 0 str' kd wt rs' rl' rb' rd A := by
  unfold x_kindsR m_kindsR
  refine ifc (sk0_iff hs A) (fun _ => rfl) (fun hk => setN_cong 3 fun i hi => ?_)
  obtain ⟨x, hx, rfl⟩ := sk_nI hs (Classical.not_not.mp hk)
  refine areSo_eq g.le hs hR hS fun y hy => ?_
  rw [nI_clamp (by omega)]
  unfold upd
  by_cases z : y = x
  · rw [if_pos z, if_pos z]
    obtain ⟨-, h2, -, h4⟩ := hC y hy
    exact ⟨rfl, h2, ⟨0 + i, by omega, rfl⟩, h4⟩
  · rw [if_neg z, if_neg z]
    exact hC y hy
theorem strengths_ans (g : gOk a b) (hs : s ≤ 4) {rd : Nat} {rs rl rb rs' rl' rb' : Nat → Int32} (hR : rRd rd s (a * b) rs rl rb rs' rl' rb') (hS : rS (a * b) str str') (hC : rC s ck cwt kd wt) (ce : Int32) : x_strengthsR (nI a) (nI b) rs rl rb str ck cwt rd ce = m_strengthsR (nI a) (nI b) 0 0 str' kd wt rs' rl' rb' rd ce := by
  have hl := g.le
  unfold x_strengthsR m_strengthsR
  refine ifc (ce0_iff g.dd ce) (fun _ => rfl) (fun hk => setN_cong 10 fun i hi => ?_)
  obtain ⟨x, hx, rfl⟩ := ce_nI g (Classical.not_not.mp hk)
  refine areSo_eq hl hs hR (fun y hy => ?_) hC
  rw [nI_clamp (by omega)]
  unfold upd
  by_cases z : y = x
  · rw [if_pos z, if_pos z]
    exact ⟨rfl, 0 + i, by omega, rfl⟩
  · rw [if_neg z, if_neg z]
    exact hS y hy
theorem upd_back (f : Nat → Int32) (i : Nat) (x : Int32) : upd (upd f i x) i (f i) = f := by
  funext j
  unfold upd
  by_cases h : j = i
  · rw [if_pos h, h]
  · rw [if_neg h, if_neg h]
/-! telling -/
theorem tell_ans (hs : s ≤ 4) (hC : rC s ck cwt kd wt) (A tr : Int32) : x_tellR (nI s) ck cwt A = m_tellR (nI s) kd wt A ∧ x_tellT (nI s) ck A tr = m_tellT (nI s) kd A tr := by
  unfold x_tellR m_tellR x_tellT m_tellT
  by_cases hk : q_noSk (nI s) A = 0
  · have h1 : ¬ s_sk (nI s) A = 0 := by rw [sk_iff hs]; exact hk
    rw [if_neg h1, ifnn hk, if_neg h1, ifnn hk]
    obtain ⟨x, hx, rfl⟩ := sk_nI hs hk
    obtain ⟨h1, h2, ⟨m, hm, h3⟩, w, hw1, hw2, h4⟩ := hC x hx
    rw [nI_clamp (by omega), ← h1, ← h2, h3, h4]
    rcases (show m = 0 ∨ m = 1 ∨ m = 2 by omega) with rfl | rfl | rfl
    · have e1 : ¬ nI 0 = (1 : Int32) := by decide +kernel
      have e2 : ¬ nI 0 = (2 : Int32) := by decide +kernel
      have e3 : nI 0 = (0 : Int32) := by decide +kernel
      have e4 : ¬ (0 : Int32) < nI 0 := by decide +kernel
      rw [if_neg e1, if_neg e2, if_pos e3, if_neg e1, if_neg e2, if_neg e4]
      exact ⟨rfl, rfl⟩
    · have e1 : nI 1 = (1 : Int32) := by decide +kernel
      have e2 : ¬ nI 1 = (2 : Int32) := by decide +kernel
      have e3 : ¬ nI 1 = (0 : Int32) := by decide +kernel
      have e4 : (0 : Int32) < nI 1 := by decide +kernel
      rw [if_pos e1, if_neg e3, if_pos e1, if_neg e2, if_pos e4]
      exact ⟨rfl, rfl⟩
    · have e1 : ¬ nI 2 = (1 : Int32) := by decide +kernel
      have e2 : nI 2 = (2 : Int32) := by decide +kernel
      have e3 : ¬ nI 2 = (0 : Int32) := by decide +kernel
      rw [if_neg e1, if_pos e2, if_neg e3, if_neg e1, if_neg e1, if_pos e2, if_pos e2]
      refine ⟨?_, rfl⟩
      rw [show (100 : Int32) = nI 100 from litI 100, show (2 : Int32) = nI 2 from litI 2, nI_mul, nI_add, nI_add, nI_add]
      exact congrArg nI (by omega)
  · have h1 : s_sk (nI s) A = 0 := by rw [sk0_iff hs]; exact hk
    rw [if_pos h1, ifp0 hk, if_pos h1, ifp0 hk]
    exact ⟨rfl, rfl⟩
theorem signed_ans (hs : s ≤ 4) (hC : rC s ck cwt kd wt) (A tr : Int32) : x_signR (nI s) ck A = m_signedR (nI s) kd A ∧ x_signT (nI s) ck A tr = m_signedT (nI s) kd A tr := by
  unfold x_signR m_signedR x_signT m_signedT
  by_cases hk : q_noSk (nI s) A = 0
  · have h1 : ¬ s_sk (nI s) A = 0 := by rw [sk_iff hs]; exact hk
    rw [if_neg h1, ifnn hk, if_neg h1, ifnn hk]
    obtain ⟨x, hx, rfl⟩ := sk_nI hs hk
    rw [nI_clamp (by omega), (hC x hx).1]
    exact ⟨rfl, rfl⟩
  · have h1 : s_sk (nI s) A = 0 := by rw [sk0_iff hs]; exact hk
    rw [if_pos h1, ifp0 hk, if_pos h1, ifp0 hk]
    exact ⟨rfl, rfl⟩
theorem as_ans (hs : s ≤ 4) (hC : rC s ck cwt kd wt) (A kind : Int32) : x_asR (nI s) ck A kind = m_asR (nI s) kd A kind ∧ x_kf (m_asR (nI s) kd A kind) = m_asF (nI s) kd A kind := by
  unfold x_asR m_asR m_asF
  by_cases hk : q_noSk (nI s) A = 0
  · have h1 : ¬ s_sk (nI s) A = 0 := by rw [sk_iff hs]; exact hk
    rw [if_neg h1, ifnn hk]
    obtain ⟨x, hx, rfl⟩ := sk_nI hs hk
    rw [nI_clamp (by omega), (hC x hx).1]
    by_cases hl : m_laneOk kind
    · have h2 : ¬ s_in kind 0 2 = 0 := by rw [lane_iff]; exact fun z => z hl
      rw [if_neg h2, ifnn hl]
      by_cases h3 : kind ≤ kd x
      · have h4 : ¬ kd x < kind := Int32.not_lt.mpr h3
        have h5 : ¬ (q_noSk (nI s) (nI x) = 0 ∧ m_laneOk kind ∧ ¬ kind ≤ kd x) := fun z => z.2.2 h3
        rw [if_neg h4, if_pos h3, if_neg h5]
        exact ⟨rfl, by decide⟩
      · have h4 : kd x < kind := Int32.not_le.mp h3
        have h5 : q_noSk (nI s) (nI x) = 0 ∧ m_laneOk kind ∧ ¬ kind ≤ kd x := ⟨hk, hl, h3⟩
        rw [if_pos h4, if_neg h3, if_pos h5]
        exact ⟨rfl, by decide⟩
    · have h2 : s_in kind 0 2 = 0 := by rw [lane_iff]; exact hl
      have h5 : ¬ (q_noSk (nI s) (nI x) = 0 ∧ m_laneOk kind ∧ ¬ kind ≤ kd x) := fun z => hl z.2.1
      rw [if_pos h2, ifp0 hl, if_neg h5]
      exact ⟨rfl, by decide⟩
  · have h1 : s_sk (nI s) A = 0 := by rw [sk0_iff hs]; exact hk
    have h5 : ¬ (q_noSk (nI s) A = 0 ∧ m_laneOk kind ∧ ¬ kind ≤ kd A.toNatClampNeg) := fun z => hk z.1
    rw [if_pos h1, ifp0 hk, if_neg h5]
    exact ⟨rfl, by decide⟩
theorem many_ans (hi wi fr sk rc what : Int32) : x_many hi wi fr sk rc what = m_many hi wi fr sk rc what := rfl
end SM
