/-! sheets of both, and deeds -/
def rSh (k : Nat) (sla sle : Int32) (sn sz sl sh : Nat → Int32) : Prop := (sla = -1 ∧ sle = 0 ∧ sz k = -1) ∨ ∃ L M : Nat, L ≤ 2 ∧ M ≤ 60 ∧ sla = nI L ∧ sle = nI M ∧ sl k = nI L ∧ sz k = nI M ∧ ∀ j, j < M → sn j = sh (60 * k + j)
theorem rSh.le {k : Nat} {sla sle : Int32} {sn sz sl sh : Nat → Int32} (h : rSh k sla sle sn sz sl sh) : ¬ 60 < sle ∧ sz k ≤ 60 := by
  rcases h with ⟨-, rfl, h⟩ | ⟨L, M, -, h2, -, rfl, -, h6, -⟩
  · rw [h]
    exact ⟨by decide, by decide⟩
  · rw [h6]
    exact ⟨Int32.not_lt.mpr (nI_le (b := 60) h2 (by omega)), nI_le (b := 60) h2 (by omega)⟩
theorem lane_iff (lane : Int32) : (s_in lane 0 2 = 0) = ¬ m_laneOk lane := s_in0 ..
theorem rl_not {sla lane : Int32} (h : ¬ m_laneOk lane) : x_rl sla lane = -2 := by
  unfold x_rl
  rw [if_pos (by rw [lane_iff]; exact h)]
theorem rl_ok {sla lane : Int32} (h : m_laneOk lane) : x_rl sla lane = if sla = -1 then -11 else if sla = lane then 0 else -12 := by
  unfold x_rl
  rw [if_neg (by rw [lane_iff]; exact fun z => z h)]
  unfold s_nothing
  by_cases z : sla = -1
  · rw [if_pos z, if_pos z, if_pos (by decide)]
  · rw [if_neg z, if_neg z, ifnn rfl]
theorem nI_ne_m1 {m : Nat} (h : m < 2 ^ 31) : ¬ nI m = -1 := fun e => by
  have h1 := nI_pos' h
  rw [e] at h1
  exact absurd h1 (by decide)
/-- what bars a part of a sheet -/
theorem bar_spec {k : Nat} (hk : k < 4) {sla sle : Int32} {sn sz sl sh : Nat → Int32} (h : rSh k sla sle sn sz sl sh) {lane : Int32} (hl : m_laneOk lane) (i n : Int32) :
    (x_rl sla lane = -11 ∧ q_barred sz sl (nI k) lane i n.toInt64 = 1) ∨ (x_rl sla lane = -12 ∧ q_barred sz sl (nI k) lane i n.toInt64 = 2) ∨ (x_rl sla lane = 0 ∧ n < 0 ∧ q_barred sz sl (nI k) lane i n.toInt64 = 4) ∨ (x_rl sla lane = 0 ∧ ¬ n < 0 ∧ s_shas sle i n = 0 ∧ q_barred sz sl (nI k) lane i n.toInt64 = 3) ∨ (x_rl sla lane = 0 ∧ ¬ n < 0 ∧ ¬ s_shas sle i n = 0 ∧ q_barred sz sl (nI k) lane i n.toInt64 = 0 ∧ ∃ I N : Nat, i = nI I ∧ n = nI N ∧ I + N ≤ 60 ∧ ∀ j, j < N → sn (I + j) = sh (60 * k + I + j)) := by
  rw [rl_ok hl]
  unfold q_barred
  rw [nI_clamp (by omega)]
  rcases h with ⟨rfl, rfl, h⟩ | ⟨L, M, h1, h2, rfl, rfl, h5, h6, h7⟩
  · rw [h]
    refine Or.inl ⟨if_pos rfl, ?_⟩
    rw [if_neg (fun z => absurd z.1 (by decide)), if_pos (by decide)]
  · refine Or.inr ?_
    rw [h5, h6, if_neg (nI_ne_m1 (by omega))]
    by_cases hL : nI L = lane
    · rw [if_pos hL, if_neg (fun z => z.2 hL), if_neg (nI_pos (by omega))]
      refine Or.inr ?_
      have z0 : (0 : Int32).toInt = 0 := by decide
      have zl : (0 : Int64).toInt = 0 := by decide
      by_cases hn : n < 0
      · have hn' : n.toInt64 < 0 := by
          rw [Int32.lt_iff_toInt_lt, z0] at hn
          rw [Int64.lt_iff_toInt_lt, i64t, zl]
          exact hn
        rw [if_pos hn']
        exact Or.inl ⟨rfl, hn, rfl⟩
      · have hn' : ¬ n.toInt64 < 0 := by
          rw [Int32.lt_iff_toInt_lt, z0] at hn
          rw [Int64.lt_iff_toInt_lt, i64t, zl]
          exact hn
        rw [if_neg hn']
        refine Or.inr ?_
        obtain ⟨N, hN, rfl⟩ := nI_of hn
        have eN := nI_toInt hN
        have eM := nI_toInt (n := M) (by omega)
        have bi := i32b i
        have key : (i < 0 ∨ (nI M).toInt64 < i.toInt64 + (nI N).toInt64) ↔ (i.toInt < 0 ∨ (M : Int) < i.toInt + N) := by
          rw [Int32.lt_iff_toInt_lt, z0, Int64.lt_iff_toInt_lt, i64add (by rw [i64t, i64t]; omega) (by rw [i64t, i64t]; omega), i64t, i64t, i64t, eN, eM]
        have key2 : (s_shas (nI M) i (nI N) = 0) ↔ (i.toInt < 0 ∨ (M : Int) < i.toInt + N) := by
          rw [shasI, Int32.le_iff_toInt_le, Int32.le_iff_toInt_le, Int32.le_iff_toInt_le, Int32.le_iff_toInt_le, z0, eM, eN]
          by_cases hi : 0 ≤ i.toInt ∧ i.toInt ≤ M
          · rw [i32sub (by rw [eM]; omega) (by rw [eM]; omega), eM]
            omega
          · omega
        by_cases hb : i.toInt < 0 ∨ (M : Int) < i.toInt + N
        · rw [if_pos (key.mpr hb)]
          exact Or.inl ⟨rfl, hn, key2.mpr hb, rfl⟩
        · rw [if_neg (fun z => hb (key.mp z))]
          refine Or.inr ⟨rfl, hn, fun z => hb (key2.mp z), rfl, ?_⟩
          obtain ⟨I, hI, rfl⟩ := nI_of (x := i) (by rw [Int32.lt_iff_toInt_lt, z0]; omega)
          rw [nI_toInt hI] at hb
          refine ⟨I, N, rfl, rfl, by omega, fun j hj => ?_⟩
          rw [Nat.add_assoc]
          exact h7 (I + j) (by omega)
    · rw [if_neg hL, if_pos ⟨nI_pos' (by omega), hL⟩]
      exact Or.inl ⟨rfl, rfl⟩
/-! deeds -/
def dR (n : Nat) (q : tS) (d : dS) : Prop := d.1 = q.2.2.1 ∧ (q.2.2.1 = -9 ∨ ∃ y, y < 100 ∧ q.2.2.1 = nI y) ∧ (∃ c, c < n ∧ q.1 = nI c ∧ d.2.1 = nI c) ∧ d.2.2.1 = q.2.1 ∧ setIn n q.2.1 ∧ rS n q.2.2.2 d.2.2.2
section DD
variable {a b s : Nat} {ck cwt kd wt : Nat → Int32}
theorem load_pos {s : Nat} {ck cwt kd wt : Nat → Int32} (h : rC s ck cwt kd wt) {x : Nat} (hx : x < s) (hs : s ≤ 4) : ∃ m, 1 ≤ m ∧ m ≤ 20 ∧ q_load kd wt (nI x) = nI m := by
  obtain ⟨h1, h2, ⟨m, hm, h3⟩, w, w1, w2, h4⟩ := h x hx
  unfold q_load
  rw [nI_clamp (by omega), ← h1, ← h2, h3, h4]
  rcases (show m = 0 ∨ m = 1 ∨ m = 2 by omega) with rfl | rfl | rfl
  · rw [if_pos (by decide +kernel)]
    exact ⟨w, w1, by omega, rfl⟩
  · rw [if_neg (by decide +kernel), if_pos (by decide +kernel), nI_1]
    exact ⟨w + 1, by omega, by omega, rfl⟩
  · rw [if_neg (by decide +kernel), if_neg (by decide +kernel), nI_1, show (2 : Int32) = nI 2 from rfl, nI_mul]
    exact ⟨2 * (w + 1), by omega, by omega, rfl⟩
theorem stroke_dR (g : gOk a b) {q : tS} {d : dS} (h : dR (a * b) q d) (hf : q.2.2.1 = -9) {st x A : Nat} (hs4 : s ≤ 4) (hC : rC s ck cwt kd wt) (hA : A < s) (hst : st < 4) (hx : x < 100) {sh : Nat → Int32} {fro : Int32} (hsh : sh (fro + nI x).toNatClampNeg = nI st) :
    dR (a * b) (x_trStep (nI a) (nI b) (fcM b a) (lcM a b) (nI st) (s_load ck cwt (nI A)) x q) (q_dStep (nI a) (nI b) 0 0 kd wt sh fro (nI A) x d) := by
  have hl := g.le
  obtain ⟨q1, q2, q3, q4⟩ := q
  obtain ⟨d1, d2, d3, d4⟩ := d
  obtain ⟨e1, -, ⟨c, hc, e2, e3⟩, e4, e5, e6⟩ := h
  have e1' : d1 = q3 := e1
  have e2' : q1 = nI c := e2
  have e3' : d2 = nI c := e3
  have e4' : d3 = q2 := e4
  subst e1' e2' e3' e4'
  obtain ⟨lo, l1, l2, l3⟩ := load_pos hC hA hs4
  have e6' : rS (a * b) q4 d4 := e6
  have e5' : setIn (a * b) d3 := e5
  cases hg : gLed a b c st with
  | none =>
    have hled : s_led (nI a) (nI b) (fcM b a) (lcM a b) (nI c) (nI st) = -9 := by rw [g.sled hc hst, hg]; rfl
    have hbes : q_beside (nI a) (nI b) (nI c) (sh (fro + nI x).toNatClampNeg) = -9 := by rw [hsh, g.qbes hc hst, hg]; rfl
    have hw : s_stW (s_led (nI a) (nI b) (fcM b a) (lcM a b) (nI c) (nI st)) (s_load ck cwt (nI A)) q4 := Or.inl hled
    have hb : q_dBad (nI a) (nI b) 0 0 kd wt sh fro (nI A) x (d1, nI c, d3, d4) := Or.inl (by
      show q_beside (nI a) (nI b) (nI c) (sh (fro + nI x).toNatClampNeg) < 0
      rw [hbes]
      decide)
    unfold x_trStep q_dStep
    rw [if_pos hb]
    unfold s_stAt s_stCut s_stFw s_stStr
    simp only [if_pos hw]
    exact ⟨rfl, Or.inr ⟨x, hx, rfl⟩, ⟨c, hc, rfl, rfl⟩, rfl, e5', e6'⟩
  | some t =>
    have ht := (gled1 g hc hst hg).1
    have hled : s_led (nI a) (nI b) (fcM b a) (lcM a b) (nI c) (nI st) = nI t := by rw [g.sled hc hst, hg]; rfl
    have hbes : q_beside (nI a) (nI b) (nI c) (sh (fro + nI x).toNatClampNeg) = nI t := by rw [hsh, g.qbes hc hst, hg]; rfl
    obtain ⟨hq, m, hm, hqm⟩ := e6' t ht
    have hload := load_eq hC hA hs4
    have hbr : q_bears 0 0 d4 kd wt (nI t) (nI A) = if q_load kd wt (nI A) ≤ q4 t then 1 else 0 := by
      rw [mBr_bS hl 0 0 d4 kd wt (nI A) t ht]
      refine ite_congr ?_ (fun _ => rfl) (fun _ => rfl)
      unfold bS
      rw [b_0, hq, Int32.sub_zero]
      simp
    by_cases hle : q_load kd wt (nI A) ≤ q4 t
    · have hw : ¬ s_stW (nI t) (s_load ck cwt (nI A)) q4 := by
        rintro (z | z)
        · exact m9nI (by omega) z.symm
        · rw [nI_clamp (by omega), hload] at z
          exact absurd hle (Int32.not_le.mpr z)
      have hb : ¬ q_dBad (nI a) (nI b) 0 0 kd wt sh fro (nI A) x (d1, nI c, d3, d4) := by
        rintro (z | z)
        · have z' : q_beside (nI a) (nI b) (nI c) (sh (fro + nI x).toNatClampNeg) < 0 := z
          rw [hbes] at z'
          exact nI_pos (by omega) z'
        · have z' : q_bears 0 0 d4 kd wt (q_beside (nI a) (nI b) (nI c) (sh (fro + nI x).toNatClampNeg)) (nI A) = 0 := z
          rw [hbes, hbr, if_pos hle] at z'
          exact absurd z' (by decide)
      unfold x_trStep q_dStep
      rw [if_neg hb]
      unfold s_stAt s_stCut s_stFw s_stStr
      simp only [hled, hbes, if_neg hw]
      refine ⟨rfl, Or.inl hf, ⟨t, ht, rfl, rfl⟩, rfl, e5'.or (setIn.one ht hl), fun k hk => ?_⟩
      show upd q4 (nI t).toNatClampNeg _ k = upd d4 (nI t).toNatClampNeg _ k ∧ ∃ m, m ≤ 9 ∧ upd q4 (nI t).toNatClampNeg _ k = nI m
      rw [nI_clamp (by omega)]
      unfold upd
      by_cases z : k = t
      · rw [if_pos z, if_pos z, hq]
        refine ⟨rfl, m - 1, by omega, ?_⟩
        rw [l3, hqm] at hle
        have := (nI_leI (by omega) (by omega)).mp hle
        rw [← hq, hqm, show (1 : Int32) = nI 1 from rfl, nI_sub (by omega)]
      · rw [if_neg z, if_neg z]
        exact e6' k hk
    · have hw : s_stW (nI t) (s_load ck cwt (nI A)) q4 := Or.inr (by
        rw [nI_clamp (by omega), hload]
        exact Int32.not_le.mp hle)
      have hb : q_dBad (nI a) (nI b) 0 0 kd wt sh fro (nI A) x (d1, nI c, d3, d4) := Or.inr (by
        show q_bears 0 0 d4 kd wt (q_beside (nI a) (nI b) (nI c) (sh (fro + nI x).toNatClampNeg)) (nI A) = 0
        rw [hbes, hbr, if_neg hle])
      unfold x_trStep q_dStep
      rw [if_pos hb]
      unfold s_stAt s_stCut s_stFw s_stStr
      simp only [hled, if_pos hw]
      exact ⟨rfl, Or.inr ⟨x, hx, rfl⟩, ⟨c, hc, rfl, rfl⟩, rfl, e5', e6'⟩
theorem fw_iff {v : Int32} (h : v = -9 ∨ ∃ y, y < 100 ∧ v = nI y) : (v < 0) = (v = -9) ∧ (0 ≤ v) = ¬ (v = -9) := by
  rcases h with rfl | ⟨y, hy, rfl⟩
  · exact ⟨by decide, by decide⟩
  · refine ⟨propext ⟨fun z => absurd z (nI_pos (by omega)), fun z => absurd z.symm (m9nI (by omega))⟩, propext ⟨fun _ z => m9nI (by omega) z.symm, fun _ => nI_pos' (by omega)⟩⟩
theorem deed_sim (g : gOk a b) (hs4 : s ≤ 4) (hC : rC s ck cwt kd wt) {str str' sn sh : Nat → Int32} (hS : rS (a * b) str str') {A B c I F n : Nat} (hA : A < s) (hB : B < s) (hc : c < a * b) (hn : n ≤ 60) (hI : I + n ≤ 60) (hF : F + n ≤ 240) (hst : ∀ j, j < n → ∃ st, st < 4 ∧ sn (I + j) = nI st ∧ sh (F + j) = nI st) :
    ∀ j, j ≤ n → dR (a * b) (x_trN (nI a) (nI b) (fcM b a) (lcM a b) ck cwt sn str (nI A) (nI B) (nI c) (nI I) j) (q_deedN (nI a) (nI b) 0 0 kd wt sh (nI F) (nI A) (nI B) (nI c) str' j)
  | 0, _ => ⟨rfl, Or.inl rfl, ⟨c, hc, rfl, rfl⟩, rfl, (fun k _ e => absurd (show bt 0 k = true from e) (by rw [b_0]; exact Bool.false_ne_true)), hS⟩
  | j + 1, hj => by
    have ih := deed_sim g hs4 hC hS hA hB hc hn hI hF hst j (by omega)
    rw [trS, deedS]
    obtain ⟨st, h1, h2, h3⟩ := hst j (by omega)
    have hfw := fw_iff ih.2.1
    rw [← ih.1] at hfw
    by_cases hz : (x_trN (nI a) (nI b) (fcM b a) (lcM a b) ck cwt sn str (nI A) (nI B) (nI c) (nI I) j).2.2.1 = -9
    · have hz2 : (q_deedN (nI a) (nI b) 0 0 kd wt sh (nI F) (nI A) (nI B) (nI c) str' j).1 < 0 := by
        rw [hfw.1, ih.1]
        exact hz
      have e1 : sn (nI I + nI j).toNatClampNeg = nI st := by rw [nI_add, nI_clamp (by omega), h2]
      have e2 : sh (nI F + nI j).toNatClampNeg = nI st := by rw [nI_add, nI_clamp (by omega), h3]
      rw [if_pos hz, if_pos hz2, e1]
      rcases Nat.mod_two_eq_zero_or_one j with hp | hp
      · have k1 := stroke_dR g ih hz hs4 hC hA h1 (show j < 100 by omega) e2
        have p1 : (if j % 2 = 0 then nI A else nI B) = nI A := if_pos hp
        rw [p1]
        exact k1
      · have k1 := stroke_dR g ih hz hs4 hC hB h1 (show j < 100 by omega) e2
        have p1 : (if j % 2 = 0 then nI A else nI B) = nI B := if_neg (by omega)
        rw [p1]
        exact k1
    · have hz2 : ¬ (q_deedN (nI a) (nI b) 0 0 kd wt sh (nI F) (nI A) (nI B) (nI c) str' j).1 < 0 := by
        rw [hfw.1, ih.1]
        exact hz
      rw [if_neg hz, if_neg hz2]
      exact ih
end DD
