/-! bonds, of the class and of the reference -/
def rS (n : Nat) (str str' : Nat → Int32) : Prop := ∀ c, c < n → str c = str' c ∧ ∃ m, m ≤ 9 ∧ str c = nI m
def rC (s : Nat) (ck cwt kd wt : Nat → Int32) : Prop := ∀ x, x < s → ck x = kd x ∧ cwt x = wt x ∧ (∃ m, m ≤ 2 ∧ ck x = nI m) ∧ ∃ m, 1 ≤ m ∧ m ≤ 9 ∧ cwt x = nI m
theorem ifnn {α : Type} {P : Prop} [Decidable P] {x y : α} (h : P) : (if ¬ P then x else y) = y := if_neg (fun z => z h)
theorem ifp0 {α : Type} {P : Prop} [Decidable P] {x y : α} (h : P → False) : (if ¬ P then x else y) = x := if_pos h
theorem ite_no {P : Prop} [Decidable P] : (¬ (if P then (1 : Int32) else 0) = 0) = P := by
  by_cases h : P <;> simp [h]
theorem sk_iff {s : Nat} (hs : s ≤ 4) (A : Int32) : (¬ s_sk (nI s) A = 0) = (q_noSk (nI s) A = 0) := by
  rw [s_sk0 ⟨s, hs, rfl⟩, Classical.not_not]
  unfold q_noSk
  rw [ite10]
theorem ce_iff {hi wi : Int32} (h : okD hi wi) (c : Int32) : (¬ s_ce hi wi c = 0) = (q_noPlace hi wi c = 0) := by
  rw [s_ce0 h, Classical.not_not]
  unfold q_noPlace
  rw [ite10]
theorem pair_iff {s : Nat} (hs : s ≤ 4) (A B : Int32) : (¬ x_pair (nI s) A B = 0) = (q_noTwo (nI s) A B = 0) := by
  unfold x_pair q_noTwo
  rw [ite_no, ite10, sk_iff hs, sk_iff hs]
theorem bK_iff {s : Nat} (hs : s ≤ 4) {hi wi : Int32} (h : okD hi wi) (A B fro to : Int32) : x_bK hi wi (nI s) A B fro to = m_bKnown hi wi (nI s) A B fro to := by
  unfold x_bK m_bKnown
  rw [pair_iff hs, ce_iff h, ce_iff h]
theorem sk_nI {s : Nat} (hs : s ≤ 4) {A : Int32} (h : q_noSk (nI s) A = 0) : ∃ x, x < s ∧ A = nI x := by
  unfold q_noSk at h
  rw [ite10] at h
  exact vp_in_of (vpN (n := s) (N := nI s) (nI_toInt (by omega)) h.1 h.2) (by omega)
theorem ce_nI {a b : Nat} (g : gOk a b) {c : Int32} (h : q_noPlace (nI a) (nI b) c = 0) : ∃ y, y < a * b ∧ c = nI y := by
  have hl := g.le
  unfold q_noPlace at h
  rw [ite10, g.cells] at h
  exact vp_in_of (vpN (n := a * b) (N := nI (a * b)) (nI_toInt (by omega)) h.1 h.2) (by omega)
theorem load_eq {s : Nat} {ck cwt kd wt : Nat → Int32} (h : rC s ck cwt kd wt) {x : Nat} (hx : x < s) (hs : s ≤ 4) : s_load ck cwt (nI x) = q_load kd wt (nI x) := by
  obtain ⟨h1, h2, ⟨m, hm, h3⟩, -⟩ := h x hx
  unfold s_load q_load
  rw [nI_clamp (by omega), ← h1, ← h2, h3]
  rcases (show m = 0 ∨ m = 1 ∨ m = 2 by omega) with rfl | rfl | rfl
  · rw [if_neg (by decide +kernel), if_neg (by decide +kernel), if_pos (by decide +kernel)]
  · rw [if_pos (by decide +kernel), if_neg (by decide +kernel), if_pos (by decide +kernel)]
  · rw [if_neg (by decide +kernel), if_pos (by decide +kernel), if_neg (by decide +kernel), if_neg (by decide +kernel)]
theorem bearing_bt (str : Nat → Int32) (load days : Int32) : ∀ n, n ≤ 32 → ∀ k, k < 32 → bt (s_bearing str load days n) k = (decide (k < n) && decide (load ≤ str k - days))
  | 0, _, k, _ => by
    show bt 0 k = _
    rw [b_0]
    simp
  | n + 1, hn, k, hk => by
    show bt (s_bearing str load days n ||| (if load ≤ str n - days then (1 : Int32) <<< (nI n &&& 31) else 0)) k = _
    rw [b_or, bearing_bt str load days n (by omega) k hk]
    by_cases hc : load ≤ str n - days
    · rw [if_pos hc, bt_bit (by omega) hk]
      by_cases e : k = n
      · subst e
        simp [hc]
      · by_cases z : k < n
        · have z2 : k < n + 1 := by omega
          simp [e, z, z2]
        · have z2 : ¬ k < n + 1 := by omega
          simp [e, z, z2]
    · rw [if_neg hc, b_0, Bool.or_false]
      by_cases e : k = n
      · subst e
        simp [hc]
      · by_cases z : k < n
        · have z2 : k < n + 1 := by omega
          simp [z, z2]
        · have z2 : ¬ k < n + 1 := by omega
          simp [z, z2]
/-- the cells that bear one, as a set -/
def bS (br th : Int32) (str kd wt : Nat → Int32) (A : Int32) : Nat → Bool := fun c => !bt br c && decide (q_load kd wt A ≤ str c - th)
theorem mBr_bS {n : Nat} (hn : n ≤ 20) (br th : Int32) (str kd wt : Nat → Int32) (A : Int32) : mBr n br th str kd wt A (bS br th str kd wt A) := fun c hc => by
  unfold q_bears bS
  refine ite_congr ?_ (fun _ => rfl) (fun _ => rfl)
  rw [isIn0 br (by omega), nI_clamp (by omega)]
  cases bt br c <;> simp
theorem brg_bS {a b s : Nat} (g : gOk a b) (hs : s ≤ 4) {str str' ck cwt kd wt : Nat → Int32} (hS : rS (a * b) str str') (hC : rC s ck cwt kd wt) {x : Nat} (hx : x < s) (th : Int32) : ∀ k, k < a * b → bt (x_brg (nI a) (nI b) str ck cwt (nI x) th) k = bS 0 th str' kd wt (nI x) k := fun k hk => by
  have hl := g.le
  unfold x_brg bS
  rw [g.cells, nI_clamp (by omega), bearing_bt _ _ _ _ (by omega) k (by omega), decide_eq_true hk, Bool.true_and, load_eq hC hx hs, (hS k hk).1, b_0]
  rfl
theorem brg_bS2 {a b s : Nat} (g : gOk a b) (hs : s ≤ 4) {str str' ck cwt kd wt : Nat → Int32} (hS : rS (a * b) str str') (hC : rC s ck cwt kd wt) {x : Nat} (hx : x < s) (br : Int32) : ∀ k, k < a * b → bt (x_brg (nI a) (nI b) str ck cwt (nI x) 0 &&& (br ^^^ (-1))) k = bS br 0 str' kd wt (nI x) k := fun k hk => by
  have hl := g.le
  rw [b_and, brg_bS g hs hS hC hx 0 k hk, bt_not _ (by omega)]
  unfold bS
  rw [b_0]
  cases bt br k <;> simp
section AB
variable {a b s : Nat} {str str' ck cwt kd wt : Nat → Int32}
/-- the answers of bond -/
theorem bond_ans (g : gOk a b) (hs : s ≤ 4) (hS : rS (a * b) str str') (hC : rC s ck cwt kd wt) (L0 : Nat → Int32) (A B fro to k : Int32) :
    x_bondR (nI a) (nI b) (fcM b a) (lcM a b) (nI s) str ck cwt A B fro to k = m_bondR (nI a) (nI b) (nI s) 0 0 str' kd wt L0 A B fro to k ∧ (m_bKnown (nI a) (nI b) (nI s) A B fro to → m_bondOk (nI a) (nI b) 0 0 str' kd wt (q_bondL (nI a) (nI b) 0 0 str' kd wt L0 A B to) A B fro k) := by
  have hl := g.le
  by_cases hk : m_bKnown (nI a) (nI b) (nI s) A B fro to
  · have hk' := hk
    obtain ⟨k1, k2, k3⟩ := hk'
    unfold q_noTwo at k1
    rw [ite10] at k1
    obtain ⟨x, hx, rfl⟩ := sk_nI hs k1.1
    obtain ⟨y, hy, rfl⟩ := sk_nI hs k1.2.1
    obtain ⟨f, hf, rfl⟩ := ce_nI g k2
    obtain ⟨t, ht, rfl⟩ := ce_nI g k3
    have m0 := mBr_bS hl 0 0 str' kd wt (nI x)
    have m1 := mBr_bS hl 0 0 str' kd wt (nI y)
    have g0 := brg_bS g hs hS hC hx 0
    have g1 := brg_bS g hs hS hC hy 0
    have e : q_bondL (nI a) (nI b) 0 0 str' kd wt L0 (nI x) (nI y) (nI t) f = s_shortest (nI a) (nI b) (fcM b a) (lcM a b) (nI f) (nI t) (x_brg (nI a) (nI b) str ck cwt (nI x) 0) (x_brg (nI a) (nI b) str ck cwt (nI y) 0) := bond_eq g ht m0 m1 g0 g1 L0 (t := 0) (by omega) hf
    have hlst := short_spec g hf ht g0 g1
    rw [← e] at hlst
    constructor
    · unfold x_bondR m_bondR
      rw [ifnn ((bK_iff hs g.dd _ _ _ _).mpr hk), ifnn hk]
      by_cases hin : -1 ≤ k ∧ k ≤ 39
      · have hs0 : ¬ s_in k (-1) 39 = 0 := by
          rw [s_in0]
          exact fun z => z hin
        rw [if_neg hs0, ifnn hin, ← e]
        unfold m_bondA
        rw [nI_clamp (by omega)]
        by_cases h1 : k = -1
        · rw [if_pos h1, if_pos (by rw [h1]; decide)]
        · have hk0 : ¬ k < 0 := by
            intro z
            have z1 : (-1 : Int32).toInt = -1 := by decide
            have z0 : (0 : Int32).toInt = 0 := by decide
            rw [Int32.lt_iff_toInt_lt, z0] at z
            have hin1 := hin.1
            rw [Int32.le_iff_toInt_le, z1] at hin1
            exact h1 (Int32.toInt_inj.mp (by omega))
          rw [if_neg h1, if_neg hk0]
          obtain ⟨K, hK, rfl⟩ := nI_of2 (n := 39) (M := 39) (by decide) hk0 hin.2
          rw [nI_clamp (by omega)]
          rcases hlst with ⟨M, M1, M2, M3, M4⟩ | ⟨-, M2⟩
          · rw [M4]
            by_cases hKM : K < M
            · rw [if_pos ((nI_ltI (by omega) (by omega)).mpr hKM), if_neg (fun z => by
                have := (nI_leI (by omega) (by omega)).mp z
                omega)]
              unfold s_strokeOf
              rw [nI_clamp (by omega)]
              exact strokeN_eq g ht m0 m1 g0 g1 hf M1 hKM M4 K 0 (-9) (by omega)
            · rw [if_neg (fun z => hKM ((nI_ltI (by omega) (by omega)).mp z)), if_pos (nI_le (by omega) (by omega))]
          · rw [M2, if_neg (fun z => by
              have := nI_pos' (n := K) (by omega)
              have z2 : (-9 : Int32).toInt = -9 := by decide
              have z0 : (0 : Int32).toInt = 0 := by decide
              rw [Int32.lt_iff_toInt_lt, z2] at z
              rw [Int32.le_iff_toInt_le, z0] at this
              omega), if_pos (by
              have := nI_toInt (n := K) (by omega)
              have z2 : (-9 : Int32).toInt = -9 := by decide
              rw [Int32.le_iff_toInt_le, z2, this]
              omega)]
      · rw [if_pos (by rw [s_in0]; exact hin), ifp0 hin]
    · intro _ hk0 hlk xx hxx
      obtain ⟨K, hK, rfl⟩ := nI_of hk0
      rw [nI_clamp (by omega)] at hlk
      rw [nI_clamp hK] at hxx
      rcases hlst with ⟨M, M1, M2, M3, M4⟩ | ⟨-, M2⟩
      · rw [M4] at hlk
        have hKM : K < M := by
          rcases Nat.lt_or_ge K M with z | z
          · exact z
          · exact absurd (nI_le z hK) hlk
        obtain ⟨c, c1, c2, -⟩ := walk_spec g ht m0 m1 g0 g1 hf M1 M4 xx (by omega)
        rw [c2]
        exact vp_in_nI (by omega) (by omega)
      · rw [M2] at hlk
        exact absurd (by
          have := nI_toInt hK
          have z2 : (-9 : Int32).toInt = -9 := by decide
          rw [Int32.le_iff_toInt_le, z2, this]
          omega) hlk
  · refine ⟨?_, fun z => absurd z hk⟩
    unfold x_bondR m_bondR
    rw [ifp0 (fun z => hk ((bK_iff hs g.dd A B fro to).mp z)), ifp0 hk]
theorem holds_ans (g : gOk a b) (hs : s ≤ 4) (hS : rS (a * b) str str') (hC : rC s ck cwt kd wt) (A B fro to : Int32) :
    x_holdsR (nI a) (nI b) (fcM b a) (lcM a b) (nI s) str ck cwt A B fro to = m_holdsR (nI a) (nI b) (nI s) 0 str' kd wt A B fro to := by
  have hl := g.le
  unfold x_holdsR m_holdsR
  by_cases hk : m_bKnown (nI a) (nI b) (nI s) A B fro to
  · rw [ifnn ((bK_iff hs g.dd _ _ _ _).mpr hk), ifnn hk]
    obtain ⟨k1, k2, k3⟩ := hk
    unfold q_noTwo at k1
    rw [ite10] at k1
    obtain ⟨x, hx, rfl⟩ := sk_nI hs k1.1
    obtain ⟨y, hy, rfl⟩ := sk_nI hs k1.2.1
    obtain ⟨f, hf, rfl⟩ := ce_nI g k2
    obtain ⟨t, ht, rfl⟩ := ce_nI g k3
    have key : ∀ d, x_holdsN (nI a) (nI b) (fcM b a) (lcM a b) str ck cwt (nI x) (nI y) (nI f) (nI t) d = m_holdsN (nI a) (nI b) 0 str' kd wt (nI x) (nI y) (nI f) (nI t) d := by
      intro d
      induction d with
      | zero => rw [xholds0, mholds0]
      | succ d ih =>
        rw [xholdsS, mholdsS]
        exact ite_congr (isBond_eq g ht (mBr_bS hl 0 (nI d) str' kd wt (nI x)) (mBr_bS hl 0 (nI d) str' kd wt (nI y)) (brg_bS g hs hS hC hx (nI d)) (brg_bS g hs hS hC hy (nI d)) hf).symm (fun _ => ih) (fun _ => rfl)
    exact key 10
  · rw [ifp0 (fun z => hk ((bK_iff hs g.dd A B fro to).mp z)), ifp0 hk]
theorem isBd_eq (g : gOk a b) (hs : s ≤ 4) (hS : rS (a * b) str str') (hC : rC s ck cwt kd wt) {x y f t : Nat} (hx : x < s) (hy : y < s) (hf : f < a * b) (ht : t < a * b) (br : Int32) :
    x_isBd (nI a) (nI b) (fcM b a) (lcM a b) str ck cwt (nI x) (nI y) (nI f) (nI t) br = if q_isBond (nI a) (nI b) br 0 str' kd wt (nI x) (nI y) (nI f) (nI t) = 0 then 0 else 1 := by
  have hl := g.le
  unfold x_isBd
  exact ite_congr (isBond_eq g ht (mBr_bS hl br 0 str' kd wt (nI x)) (mBr_bS hl br 0 str' kd wt (nI y)) (brg_bS2 g hs hS hC hx br) (brg_bS2 g hs hS hC hy br) hf).symm (fun _ => rfl) (fun _ => rfl)
theorem isBd_0 (g : gOk a b) (hs : s ≤ 4) (hS : rS (a * b) str str') (hC : rC s ck cwt kd wt) {x y f t : Nat} (hx : x < s) (hy : y < s) (hf : f < a * b) (ht : t < a * b) (br : Int32) :
    (x_isBd (nI a) (nI b) (fcM b a) (lcM a b) str ck cwt (nI x) (nI y) (nI f) (nI t) br = 0) = (q_isBond (nI a) (nI b) br 0 str' kd wt (nI x) (nI y) (nI f) (nI t) = 0) := by
  rw [isBd_eq g hs hS hC hx hy hf ht, ite10]
theorem neck_ans (g : gOk a b) (hs : s ≤ 4) (hS : rS (a * b) str str') (hC : rC s ck cwt kd wt) (A B fro to : Int32) :
    x_neckR (nI a) (nI b) (fcM b a) (lcM a b) (nI s) str ck cwt A B fro to = m_neckR (nI a) (nI b) (nI s) 0 0 str' kd wt A B fro to := by
  have hl := g.le
  unfold x_neckR m_neckR
  by_cases hk : m_bKnown (nI a) (nI b) (nI s) A B fro to
  · rw [ifnn ((bK_iff hs g.dd _ _ _ _).mpr hk), ifnn hk]
    obtain ⟨k1, k2, k3⟩ := hk
    unfold q_noTwo at k1
    rw [ite10] at k1
    obtain ⟨x, hx, rfl⟩ := sk_nI hs k1.1
    obtain ⟨y, hy, rfl⟩ := sk_nI hs k1.2.1
    obtain ⟨f, hf, rfl⟩ := ce_nI g k2
    obtain ⟨t, ht, rfl⟩ := ce_nI g k3
    rw [g.cells, nI_clamp (by omega)]
    refine ite_congr (isBd_0 g hs hS hC hx hy hf ht 0) (fun _ => rfl) (fun hz => ?_)
    · have key : ∀ k, k ≤ a * b → x_neckN (nI a) (nI b) (fcM b a) (lcM a b) str ck cwt (nI x) (nI y) (nI f) (nI t) k (a * b - k) = m_neckN (nI a) (nI b) 0 str' kd wt (nI x) (nI y) (nI f) (nI t) (a * b) k := by
        intro k
        induction k with
        | zero =>
          intro _
          rw [mneck0]
          rfl
        | succ k ih =>
          intro hk
          have e1 : a * b - (k + 1) + 1 = a * b - k := by omega
          have e2 : a * b - 1 - k = a * b - (k + 1) := by omega
          rw [mneckS, e2, ← ih (by omega)]
          show (if ¬ nI (a * b - (k + 1)) = nI f ∧ ¬ nI (a * b - (k + 1)) = nI t ∧ x_isBd (nI a) (nI b) (fcM b a) (lcM a b) str ck cwt (nI x) (nI y) (nI f) (nI t) ((1 : Int32) <<< (nI (a * b - (k + 1)) &&& 31)) = 0 then nI (a * b - (k + 1)) else x_neckN (nI a) (nI b) (fcM b a) (lcM a b) str ck cwt (nI x) (nI y) (nI f) (nI t) k (a * b - (k + 1) + 1)) = _
          refine ite_congr ?_ (fun _ => rfl) (fun _ => by rw [e1])
          rw [isBd_0 g hs hS hC hx hy hf ht]
      have := key (a * b) (Nat.le_refl _)
      rw [Nat.sub_self] at this
      exact this
  · rw [ifp0 (fun z => hk ((bK_iff hs g.dd A B fro to).mp z)), ifp0 hk]
/-! alone -/
def sSub (x z : Int32) : Prop := ∀ k, k < 32 → bt x k = true → bt z k = true
def gCl (a b : Nat) (bA : Nat → Bool) (x : Int32) : Prop := ∀ d st k, d < a * b → st < 4 → bt x d = true → gLed a b d st = some k → bA k = true → bt x k = true
theorem sSub.anti {x z : Int32} (h1 : sSub x z) (h2 : sSub z x) : x = z := b_ext fun k hk => by
  rw [Bool.eq_iff_iff]
  exact ⟨h1 k hk, h2 k hk⟩
theorem sSub.ct {x z : Int32} (h : sSub x z) (hne : ¬ x = z) {n : Nat} (hn : n ≤ 20) (hz : setIn n z) : fb_ct (bt x) 20 + 1 ≤ fb_ct (bt z) 20 := by
  have hx : ∃ k, k < 32 ∧ bt z k = true ∧ bt x k = false := by
    refine Classical.byContradiction fun q => hne (h.anti fun k hk e => ?_)
    cases e2 : bt x k with
    | true => rfl
    | false => exact absurd ⟨k, hk, e, e2⟩ q
  obtain ⟨k, hk, e1, e2⟩ := hx
  have hk20 : k < 20 := by
    have := hz k hk e1
    omega
  have hu := fb_ct_upd (bt x) true hk20
  have hs : fb_ct (fun i => if i = k then true else bt x i) 20 ≤ fb_ct (bt z) 20 := fb_ct_sub fun i hi e => by
    by_cases q : i = k
    · rw [q]; exact e1
    · rw [if_neg q] at e
      exact h i (by omega) e
  rw [e2, if_neg Bool.false_ne_true, if_pos rfl] at hu
  omega
theorem sSub.ors (x y : Int32) : sSub x (x ||| y) := fun k _ e => by
  rw [b_or, e, Bool.true_or]
theorem reach0 (hi wi fc lc bears x : Int32) : s_reachN hi wi fc lc bears 0 x = x := by unfold s_reachN; rfl
theorem reachS (hi wi fc lc bears : Int32) (m : Nat) (x : Int32) : s_reachN hi wi fc lc bears (m + 1) x = s_reachN hi wi fc lc bears m (x ||| (s_next hi wi fc lc x &&& bears)) := by conv => lhs; unfold s_reachN
theorem reach_fix {hi wi fc lc bears x : Int32} (h : x ||| (s_next hi wi fc lc x &&& bears) = x) : ∀ m, s_reachN hi wi fc lc bears m x = x
  | 0 => reach0 ..
  | m + 1 => by rw [reachS, h, reach_fix h m]
theorem step_cl (g : gOk a b) {bears x : Int32} {bA : Nat → Bool} (hb : ∀ k, k < a * b → bt bears k = bA k) (hx : setIn (a * b) x) (h : x ||| (s_next (nI a) (nI b) (fcM b a) (lcM a b) x &&& bears) = x) : gCl a b bA x := fun d st k hd hs e1 e2 e3 => by
  have hl := g.le
  have hk := (gled1 g hd hs e2).1
  have : bt (x ||| (s_next (nI a) (nI b) (fcM b a) (lcM a b) x &&& bears)) k = true := by
    rw [b_or, b_and, (next_iff g hx hk).mpr ⟨d, st, hs, hd, e1, e2⟩, hb k hk, e3]
    simp
  rw [h] at this
  exact this
theorem reach_cl (g : gOk a b) {bears : Int32} {bA : Nat → Bool} (hb : ∀ k, k < a * b → bt bears k = bA k) : ∀ m x, setIn (a * b) x → setIn (a * b) (s_reachN (nI a) (nI b) (fcM b a) (lcM a b) bears m x) ∧ sSub x (s_reachN (nI a) (nI b) (fcM b a) (lcM a b) bears m x) ∧ (gCl a b bA (s_reachN (nI a) (nI b) (fcM b a) (lcM a b) bears m x) ∨ fb_ct (bt x) 20 + m ≤ fb_ct (bt (s_reachN (nI a) (nI b) (fcM b a) (lcM a b) bears m x)) 20)
  | 0, x, hx => by
    rw [reach0]
    exact ⟨hx, fun k _ e => e, Or.inr (Nat.le_refl _)⟩
  | m + 1, x, hx => by
    have hF : setIn (a * b) (x ||| (s_next (nI a) (nI b) (fcM b a) (lcM a b) x &&& bears)) := hx.or (next_in g x).and
    obtain ⟨i1, i2, i3⟩ := reach_cl g hb m _ hF
    have hsub := sSub.ors x (s_next (nI a) (nI b) (fcM b a) (lcM a b) x &&& bears)
    rw [reachS]
    refine ⟨i1, fun k hk e => i2 k hk (hsub k hk e), ?_⟩
    by_cases hfx : x ||| (s_next (nI a) (nI b) (fcM b a) (lcM a b) x &&& bears) = x
    · rw [hfx, reach_fix hfx]
      exact Or.inl (step_cl g hb hx hfx)
    · rcases i3 with i3 | i3
      · exact Or.inl i3
      · have := hsub.ct (fun z => hfx z.symm) g.le hF
        exact Or.inr (by omega)
theorem reach_min (g : gOk a b) {bears : Int32} {bA : Nat → Bool} (hb : ∀ k, k < a * b → bt bears k = bA k) {z : Int32} (hz : gCl a b bA z) : ∀ m x, setIn (a * b) x → sSub x z → sSub (s_reachN (nI a) (nI b) (fcM b a) (lcM a b) bears m x) z
  | 0, x, _, h => by rw [reach0]; exact h
  | m + 1, x, hx, h => by
    have hl := g.le
    rw [reachS]
    refine reach_min g hb hz m _ (hx.or (next_in g x).and) fun k hk e => ?_
    rw [b_or, Bool.or_eq_true, b_and, Bool.and_eq_true] at e
    rcases e with e | ⟨e1, e2⟩
    · exact h k hk e
    · have hkn := next_in g x k hk e1
      obtain ⟨d, st, s1, s2, s3, s4⟩ := (next_iff g hx hkn).mp e1
      exact hz d st k s2 s1 (h d (by omega) s3) s4 (by rw [← hb k hkn]; exact e2)
theorem al0 (hi wi br th : Int32) (str kd wt : Nat → Int32) (A x : Int32) : q_alN hi wi br th str kd wt A 0 x = x := by unfold q_alN; rfl
theorem alS (hi wi br th : Int32) (str kd wt : Nat → Int32) (A : Int32) (j : Nat) (x : Int32) : q_alN hi wi br th str kd wt A (j + 1) x = q_alStep hi wi br th str kd wt A j (q_alN hi wi br th str kd wt A j x) := by conv => lhs; unfold q_alN
section AL
variable {br th : Int32} {A : Int32} {bA : Nat → Bool}
/-- a try: what it adds -/
theorem alStep_iff (g : gOk a b) (hm : mBr (a * b) br th str kd wt A bA) {x : Nat} (hx : x < 4 * (a * b)) (y : Int32) {k : Nat} (hk : k < 32) :
    bt (q_alStep (nI a) (nI b) br th str kd wt A x y) k = true ↔ bt y k = true ∨ (bt y (x / 4) = true ∧ gLed a b (x / 4) (x % 4) = some k ∧ bA k = true) := by
  have hl := g.le
  have hd : x / 4 < a * b := by omega
  have hs : x % 4 < 4 := by omega
  have hc : (¬ s_isIn y (nI (x / 4)) = 0 ∧ 0 ≤ q_beside (nI a) (nI b) (nI (x / 4)) (nI (x % 4)) ∧ ¬ q_bears br th str kd wt (q_beside (nI a) (nI b) (nI (x / 4)) (nI (x % 4))) A = 0) ↔ (bt y (x / 4) = true ∧ ∃ d, gLed a b (x / 4) (x % 4) = some d ∧ bA d = true) := by
    rw [isIn0 y (by omega), g.qbes hd hs, oN_pos _ (gLed_lt g hd hs), Bool.not_eq_false]
    constructor
    · rintro ⟨h1, ⟨d, e⟩, h3⟩
      rw [e, show oN (some d) = nI d from rfl, hm d (gled1 g hd hs e).1] at h3
      refine ⟨h1, d, e, ?_⟩
      cases e2 : bA d with
      | true => rfl
      | false => simp [e2] at h3
    · rintro ⟨h1, d, e, h3⟩
      rw [e]
      refine ⟨h1, ⟨d, rfl⟩, ?_⟩
      rw [show oN (some d) = nI d from rfl, hm d (gled1 g hd hs e).1, h3]
      decide
  unfold q_alStep
  rw [b_or, Bool.or_eq_true]
  refine or_congr Iff.rfl ?_
  by_cases q : (¬ s_isIn y (nI (x / 4)) = 0 ∧ 0 ≤ q_beside (nI a) (nI b) (nI (x / 4)) (nI (x % 4)) ∧ ¬ q_bears br th str kd wt (q_beside (nI a) (nI b) (nI (x / 4)) (nI (x % 4))) A = 0)
  · rw [if_pos q]
    obtain ⟨h1, d, e, h3⟩ := hc.mp q
    have hd2 := (gled1 g hd hs e).1
    rw [g.qbes hd hs, e, show oN (some d) = nI d from rfl, bt_bit (by omega) hk, decide_eq_true_iff]
    constructor
    · rintro rfl
      exact ⟨h1, rfl, h3⟩
    · rintro ⟨-, z, -⟩
      cases z
      rfl
  · rw [if_neg q, b_0]
    constructor
    · intro z; cases z
    · rintro ⟨h1, h2, h3⟩
      exact absurd (hc.mpr ⟨h1, k, h2, h3⟩) q
theorem alN_sub (g : gOk a b) (hm : mBr (a * b) br th str kd wt A bA) (y : Int32) : ∀ i j, i + j ≤ 4 * (a * b) → sSub (q_alN (nI a) (nI b) br th str kd wt A i y) (q_alN (nI a) (nI b) br th str kd wt A (i + j) y)
  | i, 0, _ => fun k _ e => e
  | i, j + 1, h => fun k hk e => by
    show bt (q_alN (nI a) (nI b) br th str kd wt A (i + j + 1) y) k = true
    rw [alS, alStep_iff g hm (by omega) _ hk]
    exact Or.inl (alN_sub g hm y i j (by omega) k hk e)
theorem alN_in (g : gOk a b) (hm : mBr (a * b) br th str kd wt A bA) {y : Int32} (hy : setIn (a * b) y) : ∀ j, j ≤ 4 * (a * b) → setIn (a * b) (q_alN (nI a) (nI b) br th str kd wt A j y)
  | 0, _ => by rw [al0]; exact hy
  | j + 1, h => fun k hk e => by
    rw [alS, alStep_iff g hm (by omega) _ hk] at e
    rcases e with e | ⟨-, e, -⟩
    · exact alN_in g hm hy j (by omega) k hk e
    · exact (gled1 g (by omega) (by omega) e).1
theorem alN_min (g : gOk a b) (hm : mBr (a * b) br th str kd wt A bA) {y z : Int32} (hz : gCl a b bA z) (hy : sSub y z) : ∀ j, j ≤ 4 * (a * b) → sSub (q_alN (nI a) (nI b) br th str kd wt A j y) z
  | 0, _ => by rw [al0]; exact hy
  | j + 1, h => fun k hk e => by
    have hl := g.le
    rw [alS, alStep_iff g hm (by omega) _ hk] at e
    rcases e with e | ⟨e1, e2, e3⟩
    · exact alN_min g hm hz hy j (by omega) k hk e
    · exact hz (j / 4) (j % 4) k (by omega) (by omega) (alN_min g hm hz hy j (by omega) _ (by omega) e1) e2 e3
theorem alN_cl (g : gOk a b) (hm : mBr (a * b) br th str kd wt A bA) {y : Int32} (h : q_alN (nI a) (nI b) br th str kd wt A (4 * (a * b)) y = y) : gCl a b bA y := fun d st k hd hs e1 e2 e3 => by
  have hl := g.le
  have hk := (gled1 g hd hs e2).1
  have h1 := alN_sub g hm y 0 (4 * d + st) (by omega) d (by omega) (by rw [al0]; exact e1)
  rw [Nat.zero_add] at h1
  have h2 : bt (q_alN (nI a) (nI b) br th str kd wt A (4 * d + st + 1) y) k = true := by
    rw [alS, alStep_iff g hm (by omega) _ (by omega)]
    refine Or.inr ⟨?_, ?_, e3⟩
    · rw [show (4 * d + st) / 4 = d by omega]; exact h1
    · rw [show (4 * d + st) / 4 = d by omega, show (4 * d + st) % 4 = st by omega]; exact e2
  have h3 := alN_sub g hm y (4 * d + st + 1) (4 * (a * b) - (4 * d + st + 1)) (by omega) k (by omega) h2
  rw [Nat.add_sub_cancel' (by omega), h] at h3
  exact h3
theorem alR_cl (g : gOk a b) (hm : mBr (a * b) br th str kd wt A bA) {y : Int32} (hy : setIn (a * b) y) : ∀ r, setIn (a * b) (q_alR (nI a) (nI b) br th str kd wt A (a * b) r y) ∧ sSub y (q_alR (nI a) (nI b) br th str kd wt A (a * b) r y) ∧ (gCl a b bA (q_alR (nI a) (nI b) br th str kd wt A (a * b) r y) ∨ fb_ct (bt y) 20 + r ≤ fb_ct (bt (q_alR (nI a) (nI b) br th str kd wt A (a * b) r y)) 20)
  | 0 => by
    rw [alR0]
    exact ⟨hy, fun k _ e => e, Or.inr (Nat.le_refl _)⟩
  | r + 1 => by
    obtain ⟨i1, i2, i3⟩ := alR_cl g hm hy r
    have hin := alN_in g hm i1 (4 * (a * b)) (Nat.le_refl _)
    have hsub := alN_sub g hm (q_alR (nI a) (nI b) br th str kd wt A (a * b) r y) 0 (4 * (a * b)) (by omega)
    rw [al0, Nat.zero_add] at hsub
    rw [alRS]
    refine ⟨hin, fun k hk e => hsub k hk (i2 k hk e), ?_⟩
    by_cases hfx : q_alN (nI a) (nI b) br th str kd wt A (4 * (a * b)) (q_alR (nI a) (nI b) br th str kd wt A (a * b) r y) = q_alR (nI a) (nI b) br th str kd wt A (a * b) r y
    · rw [hfx]
      exact Or.inl (alN_cl g hm hfx)
    · rcases i3 with i3 | i3
      · exact absurd (sSub.anti (alN_min g hm i3 (fun k _ e => e) _ (Nat.le_refl _)) hsub) hfx
      · have := hsub.ct (fun z => hfx z.symm) g.le hin
        exact Or.inr (by omega)
theorem alR_min (g : gOk a b) (hm : mBr (a * b) br th str kd wt A bA) {y z : Int32} (hz : gCl a b bA z) (hy : sSub y z) : ∀ r, sSub (q_alR (nI a) (nI b) br th str kd wt A (a * b) r y) z
  | 0 => by rw [alR0]; exact hy
  | r + 1 => by
    rw [alRS]
    exact alN_min g hm hz (alR_min g hm hz hy r) _ (Nat.le_refl _)
end AL
theorem ct_le {n : Nat} (hn : n ≤ 20) {x : Int32} (hx : setIn n x) : fb_ct (bt x) 20 ≤ n := by
  have h1 : fb_ct (bt x) 20 ≤ fb_ct (fun k => decide (k < n)) 20 := fb_ct_sub fun k hk e => decide_eq_true (hx k (by omega) e)
  have h2 : ∀ m, fb_ct (fun k => decide (k < n)) m ≤ n := by
    intro m
    induction m with
    | zero => exact Nat.zero_le _
    | succ m ih =>
      rw [fb_ct_succ]
      rcases Nat.lt_or_ge m n with z | z
      · have := fb_ct_le (fun k => decide (k < n)) m
        rw [if_pos (decide_eq_true z)]
        omega
      · rw [if_neg (by simpa using z)]
        omega
  exact Nat.le_trans h1 (h2 20)
theorem alone_ans (g : gOk a b) (hs : s ≤ 4) (hS : rS (a * b) str str') (hC : rC s ck cwt kd wt) (A fro : Int32) :
    x_aloneR (nI a) (nI b) (fcM b a) (lcM a b) (nI s) str ck cwt A fro = m_aloneR (nI a) (nI b) (nI s) 0 0 str' kd wt A fro := by
  have hl := g.le
  unfold x_aloneR m_aloneR
  by_cases hk : q_noSk (nI s) A = 0 ∧ q_noPlace (nI a) (nI b) fro = 0
  · have h1 := hk.1
    have h2 := hk.2
    rw [← sk_iff hs] at h1
    rw [← ce_iff g.dd] at h2
    rw [if_neg (fun z => by
      rcases z with z | z
      · exact h1 z
      · exact h2 z), if_neg (fun z => z hk)]
    obtain ⟨x, hx, rfl⟩ := sk_nI hs hk.1
    obtain ⟨f, hf, rfl⟩ := ce_nI g hk.2
    have hb := brg_bS g hs hS hC hx 0
    have hm := mBr_bS hl 0 0 str' kd wt (nI x)
    have hin := setIn.one (n := a * b) hf hl
    have hct : 0 < fb_ct (bt ((1 : Int32) <<< (nI f &&& 31))) 20 := fb_ct_pos.mpr ⟨f, by omega, by rw [bt_bit (by omega) (by omega)]; exact decide_eq_true rfl⟩
    rw [g.cells, nI_clamp (by omega)]
    unfold s_reach
    obtain ⟨c1, c2, c3⟩ := reach_cl g hb 19 _ hin
    obtain ⟨m1, m2, m3⟩ := alR_cl g hm hin (a * b)
    have ccl : gCl a b (bS 0 0 str' kd wt (nI x)) (s_reachN (nI a) (nI b) (fcM b a) (lcM a b) (x_brg (nI a) (nI b) str ck cwt (nI x) 0) 19 ((1 : Int32) <<< (nI f &&& 31))) := by
      rcases c3 with c3 | c3
      · exact c3
      · have hall := fb_ct_all.mp (Nat.le_antisymm (fb_ct_le _ 20) (show 20 ≤ fb_ct (bt (s_reachN (nI a) (nI b) (fcM b a) (lcM a b) (x_brg (nI a) (nI b) str ck cwt (nI x) 0) 19 ((1 : Int32) <<< (nI f &&& 31)))) 20 by omega))
        exact fun d st k hd hst _ e2 _ => hall k (by
          have := (gled1 g hd hst e2).1
          omega)
    have mcl : gCl a b (bS 0 0 str' kd wt (nI x)) (q_alR (nI a) (nI b) 0 0 str' kd wt (nI x) (a * b) (a * b) ((1 : Int32) <<< (nI f &&& 31))) := by
      rcases m3 with m3 | m3
      · exact m3
      · have := ct_le hl m1
        omega
    exact sSub.anti (reach_min g hb mcl 19 _ hin m2) (alR_min g hm ccl c2 (a * b))
  · have hk2 : s_sk (nI s) A = 0 ∨ s_ce (nI a) (nI b) fro = 0 := by
      rw [← sk_iff hs, ← ce_iff g.dd] at hk
      by_cases z : s_sk (nI s) A = 0
      · exact Or.inl z
      · exact Or.inr (Classical.byContradiction fun q => hk ⟨z, q⟩)
    rw [if_pos hk2, if_pos hk]
end AB
