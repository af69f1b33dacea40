theorem cpBar0 {sz sl : Nat → Int32} {k i o j n : Int32} (h1 : ¬ sz k.toNatClampNeg < 0) (h2 : ¬ sz o.toNatClampNeg < 0) (h3 : sl k.toNatClampNeg = sl o.toNatClampNeg) (h4 : q_beyond i n.toInt64 (sz k.toNatClampNeg) = 0) (h5 : q_beyond j n.toInt64 (sz o.toNatClampNeg) = 0) : m_cpBar sz sl k i o j n = 0 := by
  unfold m_cpBar
  rw [if_neg (fun z => z.elim h1 h2), if_neg (fun z => z h3), if_neg (fun z => z.elim (fun z => z h4) (fun z => z h5))]
theorem cpFail {sz sl sh : Nat → Int32} {k i o j n c : Int32} (hk : m_cpK k o) (h : m_cpBar sz sl k i o j n = c) (hc : ¬ c = 0) : (-10) - c = m_copyR sz sl k i o j n ∧ c = m_copyF sz sl k i o j n ∧ sh = m_copyS sz sl sh k i o j n := by
  subst h
  unfold m_copyR m_copyF m_copyS
  rw [if_neg (fun z => z hk), if_pos hc, if_pos hk, if_neg (fun z => hc z.2)]
  exact ⟨rfl, rfl, rfl⟩
theorem rowAt {sz : Nat → Int32} {k i n : Int32} (hk : vp_in k 4) (hs : okSz sz) (h : q_beyond i n.toInt64 (sz k.toNatClampNeg) = 0) : ∃ A N : Nat, 60 * k + i = nI A ∧ n = nI N ∧ N ≤ 60 ∧ A + N ≤ 240 := by
  obtain ⟨K, hK, rfl⟩ := vp_in_of hk (by omega)
  rw [nI_clamp (by omega)] at h
  obtain ⟨I, N, rfl, rfl, hl⟩ := beyondOk h (hs K hK)
  exact ⟨60 * K + I, N, by rw [show (60 : Int32) = nI 60 from rfl, nI_mul, nI_add], rfl, by omega, by omega⟩
theorem crwNS (xl : Int32) (xc : Nat → Int32) (n a : Nat) (q : cT) : crwN xl xc (n + 1) a q = if a < 2 ∨ s_go xl q.1.1 q.1.2 then crwN xl xc n (a + 1) (crw xl xc a q) else q := by conv => lhs; unfold crwN
theorem crwN0 (xl : Int32) (xc : Nat → Int32) (a : Nat) (q : cT) : crwN xl xc 0 a q = q := by unfold crwN; rfl
theorem takeV {xl xp xw : Int32} {xc : Nat → Int32} (lo mo : Nat) (h : lo ≤ mo) (hm : mo < 100) : ∃ v : Nat, v ≤ mo - lo ∧ s_takeR xl xp xw xc (nI lo) (nI mo) = nI v := by
  unfold s_takeR
  by_cases hc : s_takeOk xl xp xw xc (nI lo) (nI mo)
  · rw [if_pos hc]
    obtain ⟨-, h1, h2⟩ := hc
    have e0 := nI_toInt (n := lo) (by omega)
    have e1 := nI_toInt (n := mo) (by omega)
    rw [Int32.le_iff_toInt_le, e0] at h1
    rw [Int32.le_iff_toInt_le, e1] at h2
    have z : (0 : Int32).toInt = 0 := by decide
    obtain ⟨x, hx, ex⟩ := nI_of (x := xc xp.toNatClampNeg) (by rw [Int32.lt_iff_toInt_lt, z]; omega)
    rw [ex, nI_toInt hx] at h1 h2
    refine ⟨x - lo, by omega, ?_⟩
    rw [ex]
    obtain ⟨d, rfl⟩ : ∃ d, x = d + lo := ⟨x - lo, by omega⟩
    rw [← nI_add, Int32.add_sub_cancel, Nat.add_sub_cancel]
  · rw [if_neg hc]
    exact ⟨0, Nat.zero_le _, rfl⟩
