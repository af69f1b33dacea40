theorem ite10n {P : Prop} [Decidable P] : ((if P then (1 : Int32) else 0) = 0) = ¬ P := ite01
theorem trS (hi wi fc lc : Int32) (ck cwt sn str : Nat → Int32) (a b ce i : Int32) (x : Nat) : x_trN hi wi fc lc ck cwt sn str a b ce i (x + 1) = if (x_trN hi wi fc lc ck cwt sn str a b ce i x).2.2.1 = -9 then x_trStep hi wi fc lc (sn (i + nI x).toNatClampNeg) (s_load ck cwt (if x % 2 = 0 then a else b)) x (x_trN hi wi fc lc ck cwt sn str a b ce i x) else x_trN hi wi fc lc ck cwt sn str a b ce i x := by rw [x_trN]
theorem trStay {hi wi fc lc : Int32} {ck cwt sn str : Nat → Int32} {a b ce i : Int32} {m : Nat} (h : ¬ (x_trN hi wi fc lc ck cwt sn str a b ce i m).2.2.1 = -9) : ∀ d, x_trN hi wi fc lc ck cwt sn str a b ce i (m + d) = x_trN hi wi fc lc ck cwt sn str a b ce i m
  | 0 => rfl
  | d + 1 => by
    rw [← Nat.add_assoc, trS, trStay h d, if_neg h]
theorem rpOk {sla sle lane i n : Int32} (h : x_rp sla sle lane i n = 0) (hs : ¬ 60 < sle) : ∃ I N : Nat, i = nI I ∧ n = nI N ∧ I + N ≤ 60 ∧ okRun i n 60 := by
  unfold x_rp at h
  by_cases h1 : x_rl sla lane = 0
  · rw [if_neg (fun z => z h1)] at h
    by_cases h2 : s_shas sle i n = 0
    · rw [if_pos h2] at h
      exact absurd h (by decide)
    · obtain ⟨a, b, c, -, -⟩ := (shasR hs).resolve_left h2
      obtain ⟨I, hI, eI⟩ := nI_of a
      obtain ⟨N, hN, eN⟩ := nI_of b
      refine ⟨I, N, eI, eN, ?_, a, b, c⟩
      rw [eI, eN, nI_clamp hI, nI_clamp hN] at c
      exact c
  · rw [if_pos h1] at h
    exact absurd h h1
theorem manyS (hi wi th : Int32) (str kd wt : Nat → Int32) (a b fro to set : Int32) (k : Nat) (sub : Int32) (n : Int64) : m_manyN hi wi th str kd wt a b fro to set (k + 1) sub n = if sub = 0 then n + (if q_isBond hi wi sub th str kd wt a b fro to = 0 then 0 else 1) else
      m_manyN hi wi th str kd wt a b fro to set k ((sub - 1) &&& set) (n + (if q_isBond hi wi sub th str kd wt a b fro to = 0 then 0 else 1)) := by conv => lhs; unfold m_manyN
theorem bits0 (n x : Int32) : q_bitsN 0 n x = n := by unfold q_bitsN; rfl
theorem bitsNN : ∀ (k j : Nat) (x : Int32), ∃ i, i ≤ j + k ∧ q_bitsN k (nI j) x = nI i
  | 0, j, x => ⟨j, by omega, bits0 _ _⟩
  | k + 1, j, x => by
    rw [bitsS]
    split
    · obtain ⟨y, hy, e⟩ := and_nn x 1
      rw [show x &&& 1 = nI y from e, nI_add]
      obtain ⟨i, hi, e2⟩ := bitsNN k (j + y) (x >>> (1 &&& 31))
      exact ⟨i, by omega, e2⟩
    · exact ⟨j, by omega, rfl⟩
theorem bitsR {set : Int32} (h : ¬ 8 < q_bits set) : ∃ j, j ≤ 8 ∧ q_bits set = nI j := by
  obtain ⟨i, hi, e⟩ := bitsNN 32 0 set
  have e2 : q_bits set = nI i := e
  rw [e2] at h ⊢
  refine ⟨i, ?_, rfl⟩
  have := (nI_leI (a := i) (b := 8) (by omega) (by omega)).mp (Int32.not_lt.mp h)
  exact this
theorem lshl : ∀ j : Nat, j ≤ 8 → (1 : Int64) <<< ((nI j).toInt64 &&& 63) = lN (2 ^ j) ∧ 2 ^ j ≤ 256 ∧ 1 ≤ 2 ^ j := by decide
theorem shl20 : ∀ j : Nat, j ≤ 20 → 1 ≤ ((1 : Int32) <<< (nI j &&& 31)).toInt64.toInt ∧ ((1 : Int32) <<< (nI j &&& 31)).toInt64.toInt ≤ 1048576 := by decide
theorem setOk {N : Nat} (hN : N ≤ 20) {set : Int32} (h : ¬ q_in set.toInt64 0 (((1 : Int32) <<< (nI N &&& 31)).toInt64 - 1) = 0) : (0 ≤ set ∧ set.toInt64 ≤ ((1 : Int32) <<< (nI N &&& 31)).toInt64 - 1) ∧ ∃ S : Nat, S < 1048576 ∧ set = nI S := by
  have h1 : (1 : Int64).toInt = 1 := by decide
  have h0 : (0 : Int64).toInt = 0 := by decide
  have h2 : (0 : Int32).toInt = 0 := by decide
  have hs := shl20 N hN
  rw [q_in0, Classical.not_not] at h
  refine ⟨⟨?_, h.2⟩, ?_⟩
  · have := h.1
    rw [Int64.le_iff_toInt_le, i64t, h0] at this
    rw [Int32.le_iff_toInt_le, h2]
    exact this
  · obtain ⟨ha, hb⟩ := h
    rw [Int64.le_iff_toInt_le, i64t, h0] at ha
    rw [Int64.le_iff_toInt_le, i64sub (by rw [h1]; omega) (by rw [h1]; omega), i64t, h1] at hb
    obtain ⟨S, hS, e⟩ := nI_of (x := set) (by rw [Int32.lt_iff_toInt_lt, h2]; omega)
    rw [e, nI_toInt hS] at hb
    exact ⟨S, by omega, e⟩
theorem beyondOk {i n all : Int32} (h : q_beyond i n.toInt64 all = 0) (ha : all ≤ 60) : ∃ I N : Nat, i = nI I ∧ n = nI N ∧ I + N ≤ 60 := by
  have z : (0 : Int32).toInt = 0 := by decide
  have z6 : (60 : Int32).toInt = 60 := by decide
  have zl : (0 : Int64).toInt = 0 := by decide
  unfold q_beyond at h
  rw [ite10n] at h
  obtain ⟨h5, h7⟩ := not_or.mp h
  obtain ⟨h3, h6⟩ := not_or.mp h7
  have bi := i32b i
  have bn := i32b n
  have bs := i32b all
  rw [Int64.lt_iff_toInt_lt, i64t, zl] at h3
  rw [Int64.lt_iff_toInt_lt, i64add (by rw [i64t, i64t]; omega) (by rw [i64t, i64t]; omega), i64t, i64t, i64t] at h6
  rw [Int32.le_iff_toInt_le, z6] at ha
  obtain ⟨I, hI, rfl⟩ := nI_of h5
  obtain ⟨N, hN, rfl⟩ := nI_of (x := n) (by rw [Int32.lt_iff_toInt_lt, z]; exact h3)
  rw [nI_toInt hI, nI_toInt hN] at h6
  exact ⟨I, N, rfl, rfl, by omega⟩
theorem blk_run2 {f g : Nat → Int32} {b m i : Nat} {v : Int32} (hi : i = b + m) (hv : v = f m) : upd (fun q => if b ≤ q ∧ q < b + m then f (q - b) else g q) i v = fun q => if b ≤ q ∧ q < b + (m + 1) then f (q - b) else g q := by
  subst hi hv
  funext j
  unfold upd
  by_cases h : j = b + m
  · subst h
    rw [if_pos rfl, if_pos (by omega), Nat.add_sub_cancel_left]
  · rw [if_neg h]
    show (if b ≤ j ∧ j < b + m then f (j - b) else g j) = _
    by_cases h2 : b ≤ j ∧ j < b + m
    · rw [if_pos h2, if_pos (by omega)]
    · rw [if_neg h2, if_neg (by omega)]
/-- where a run of cells of a lane lies -/
theorem runOf {sz sl sh : Nat → Int32} {k lane i n : Int32} (hk : vp_in k 4) (hs : okSz sz) (h : q_sbRes sz sl sh k lane i n = 0) : okRun (60 * k + i) n 240 := by
  unfold q_sbRes at h
  by_cases h1 : q_barred sz sl k lane i n.toInt64 = 0
  · obtain ⟨K, I, N, hK, -, -, rfl, hl, e⟩ := barredOk hk hs h1
    rw [e]
    refine ⟨nI_pos (by omega), nI_pos (by omega), ?_⟩
    rw [nI_clamp (by omega), nI_clamp (by omega)]
    omega
  · rw [if_neg h1] at h
    rcases barredV sz sl k lane i n.toInt64 with z | z | z | z | z
    · exact absurd z h1
    all_goals (rw [z] at h; exact absurd h (by decide))
/-- a deed ends on a cell of the ice -/
theorem deedEnds {hi wi br th : Int32} {kd wt sh : Nat → Int32} {fro a b ce : Int32} {str : Nat → Int32} (h : okD hi wi) (hw : ¬ wi = 0) (hc : vp_in ce 20) : ∀ n, vp_in (q_deedN hi wi br th kd wt sh fro a b ce str n).2.1 20
  | 0 => by rw [q_deedN]; exact hc
  | n + 1 => by
    have ih := deedEnds (br := br) (th := th) (kd := kd) (wt := wt) (sh := sh) (fro := fro) (a := a) (b := b) (str := str) h hw hc n
    rw [deedS]
    by_cases h1 : (q_deedN hi wi br th kd wt sh fro a b ce str n).1 < 0
    · rw [if_pos h1]
      unfold q_dStep
      by_cases h2 : q_dBad hi wi br th kd wt sh fro (if n % 2 = 0 then a else b) n (q_deedN hi wi br th kd wt sh fro a b ce str n)
      · rw [if_pos h2]
        exact ih
      · rw [if_neg h2]
        exact besideIn h hw (Int32.not_lt.mp (not_or.mp h2).1)
    · rw [if_neg h1]
      exact ih
theorem sbV {sz sl sh : Nat → Int32} {k lane i n : Int32} : (0 ≤ q_sbRes sz sl sh k lane i n) = (q_sbRes sz sl sh k lane i n = 0) := by
  unfold q_sbRes
  rcases barredV sz sl k lane i n.toInt64 with z | z | z | z | z <;> rw [z]
  · rw [if_pos rfl]
    split <;> decide
  all_goals (rw [if_neg (by decide)]; decide)
theorem tdOk {hi wi cnt sla sle : Int32} {sn : Nat → Int32} {a b ce lane i n : Int32} (h : x_tdR hi wi cnt sla sle sn a b ce lane i n = 0) (hs : ¬ 60 < sle) : x_dK hi wi cnt a b ce ∧ okRun i n 60 ∧ ∀ y, y < n.toNatClampNeg → s_in (sn (i + nI y).toNatClampNeg) 0 3 = 1 := by
  unfold x_tdR at h
  by_cases h1 : x_dK hi wi cnt a b ce
  · rw [if_neg (fun z => z h1)] at h
    by_cases h2 : s_in n 0 40 = 0
    · rw [if_pos h2] at h
      exact absurd h (by decide)
    · rw [if_neg h2] at h
      by_cases h3 : x_rp sla sle lane i n = 0
      · rw [if_neg (fun z => z h3)] at h
        obtain ⟨I, N, eI, eN, hl, hr⟩ := rpOk h3 hs
        refine ⟨h1, hr, fun y hy => ?_⟩
        by_cases h4 : x_noSt sn i n.toNatClampNeg = true
        · rw [if_pos h4] at h
          exact absurd h (by decide)
        · unfold x_noSt at h4
          rw [decide_eq_true_iff] at h4
          exact (in01 _ _ _).resolve_left (fun z => h4 ⟨y, hy, z⟩)
      · rw [if_pos h3] at h
        exact absurd h h3
  · rw [if_pos h1] at h
    exact absurd h (by decide)
theorem trEnds {hi wi fc lc : Int32} {ck cwt sn str : Nat → Int32} {a b ce i n sle : Int32} (h : okTrial hi wi fc lc ck cwt sn str a b ce i n sle) (hr : okRun i n 60) (hy : ∀ y, y < n.toNatClampNeg → s_in (sn (i + nI y).toNatClampNeg) 0 3 = 1) (hc : vp_in ce 20) : ∀ m, m ≤ n.toNatClampNeg → vp_in (x_trN hi wi fc lc ck cwt sn str a b ce i m).1 20
  | 0, _ => by rw [x_trN]; exact hc
  | m + 1, hm => by
    have ih := trEnds h hr hy hc m (by omega)
    rw [trS]
    by_cases h1 : (x_trN hi wi fc lc ck cwt sn str a b ce i m).2.2.1 = -9
    · rw [if_pos h1]
      have ho := h m (by omega) hr hy h1
      have key : ∀ (nx load : Int32) (d : Nat → Int32) (dat : Int32), vp_in dat 20 → (nx = -9 ∨ vp_in nx 20) → vp_in (s_stAt nx load d dat) 20 := by
        intro nx load d dat hd hn
        unfold s_stAt
        by_cases h2 : s_stW nx load d
        · rw [if_pos h2]
          exact hd
        · rw [if_neg h2]
          exact hn.resolve_left (fun z => h2 (Or.inl z))
      exact key _ _ _ _ ih ho
    · rw [if_neg h1]
      exact ih
