theorem ok_X7_deed (l : Launch) (G : GT) (h_X7_goDeed : K_X7_goDeed l G) (h_X7_in : K_X7_in l G) (h_X7_keep : K_X7_keep l G) (h_X7_noPlace : K_X7_noPlace l G) (h_X7_noSheet : K_X7_noSheet l G) (h_X7_noTwo : K_X7_noTwo l G) (h_X7_putBack : K_X7_putBack l G) (h_X7_refused : K_X7_refused l G) (h_X7_strokesBarred : K_X7_strokesBarred l G) : K_X7_deed l G := by
  intro m0 a4 a6 a7 a15 a16 a17 a21 a22 a24 a25 a26 a27 a28 a29 a30 f0 f1 f2 f3 f5 f8 f9 f10 f11 f12 f13 f14 f18 f19 f20 f23 f31 g4 g6 g7 g15 g16 g17 g21 g22 g24 g25 g26 g27 g28 g29 g30 a b ce k lane i n what p0 p1 p2
  refine wk_X7_deed l G m0 a4 a6 a7 a15 a16 a17 a21 a22 a24 a25 a26 a27 a28 a29 a30 f0 f1 f2 f3 f5 f8 f9 f10 f11 f12 f13 f14 f18 f19 f20 f23 f31 g4 g6 g7 g15 g16 g17 g21 g22 g24 g25 g26 g27 g28 g29 g30 a b ce k lane i n what (m_deedR f1 f2 f5 f8 f9 g4 g6 g7 g27 g28 g29 a b ce k lane i n what) (m_deedF f1 f2 f5 g27 g28 g29 a b ce k lane i n what) (m_deedS4 f1 f2 f5 f8 f9 g4 g6 g7 g27 g28 g29 g21 a b ce k lane i n what) h_X7_goDeed h_X7_in h_X7_keep h_X7_noPlace h_X7_noSheet h_X7_noTwo h_X7_putBack h_X7_refused h_X7_strokesBarred ?_
  have hp := @vpTwo f5 a b p1
  have hq := @vpP f1 f2 ce p0
  have hk := @vpK k
  have hr := fun hk => runOf (k := k) (i := i) (n := n) (sl := g28) (lane := lane) (sh := g29) hk p2
  have he := fun hw hc => deedEnds (kd := g6) (wt := g7) (sh := g29) (br := f8) (th := f9) (a := a) (b := b) (ce := ce) (fro := 60 * k + i) (str := g4) p0 hw hc n.toNatClampNeg
  have eD : m_deedN f1 f2 f8 f9 g4 g6 g7 g29 a b ce k i n = q_deedN f1 f2 f8 f9 g6 g7 g29 (60 * k + i) a b ce g4 n.toNatClampNeg := rfl
  simp only [q_in02, q_in040, q_in04, sbV]
  unfold m_deedR m_deedF m_deedS4
  rw [eD]
  generalize q_deedN f1 f2 f8 f9 g6 g7 g29 (60 * k + i) a b ce g4 n.toNatClampNeg = D at he ⊢
  obtain ⟨D1, D2, D3, D4⟩ := D
  grind (splits := 80) [m_deedA]

theorem ok_X7_write (l : Launch) (G : GT) (h_X7_goDeed : K_X7_goDeed l G) (h_X7_in : K_X7_in l G) (h_X7_keep : K_X7_keep l G) (h_X7_noPlace : K_X7_noPlace l G) (h_X7_noSheet : K_X7_noSheet l G) (h_X7_noTwo : K_X7_noTwo l G) (h_X7_putBack : K_X7_putBack l G) (h_X7_refused : K_X7_refused l G) (h_X7_strokesBarred : K_X7_strokesBarred l G) : K_X7_write l G := by
  intro m0 a4 a6 a7 a15 a16 a17 a21 a22 a24 a25 a26 a27 a28 a29 a30 f0 f1 f2 f3 f5 f8 f9 f10 f11 f12 f13 f14 f18 f19 f20 f23 f31 g4 g6 g7 g15 g16 g17 g21 g22 g24 g25 g26 g27 g28 g29 g30 a b ce k lane i n p0 p1 p2
  refine wk_X7_write l G m0 a4 a6 a7 a15 a16 a17 a21 a22 a24 a25 a26 a27 a28 a29 a30 f0 f1 f2 f3 f5 f8 f9 f10 f11 f12 f13 f14 f18 f19 f20 f23 f31 g4 g6 g7 g15 g16 g17 g21 g22 g24 g25 g26 g27 g28 g29 g30 a b ce k lane i n (m_writeR f1 f2 f5 f8 f9 g4 g6 g7 g27 g28 g29 a b ce k lane i n) (m_writeF f1 f2 f5 g27 g28 g29 a b ce k lane i n) (m_writeS4 f1 f2 f5 f8 f9 g4 g6 g7 g27 g28 g29 g21 a b ce k lane i n) h_X7_goDeed h_X7_in h_X7_keep h_X7_noPlace h_X7_noSheet h_X7_noTwo h_X7_putBack h_X7_refused h_X7_strokesBarred ?_
  have hp := @vpTwo f5 a b p1
  have hq := @vpP f1 f2 ce p0
  have hk := @vpK k
  have hr := fun hk => runOf (k := k) (i := i) (n := n) (sl := g28) (lane := lane) (sh := g29) hk p2
  have eD : m_deedN f1 f2 f8 f9 g4 g6 g7 g29 a b ce k i n = q_deedN f1 f2 f8 f9 g6 g7 g29 (60 * k + i) a b ce g4 n.toNatClampNeg := rfl
  simp only [q_in02, q_in040, sbV]
  unfold m_writeR m_writeF m_writeS4
  rw [eD]
  generalize q_deedN f1 f2 f8 f9 g6 g7 g29 (60 * k + i) a b ce g4 n.toNatClampNeg = D
  obtain ⟨D1, D2, D3, D4⟩ := D
  grind (splits := 80)

theorem ok_X6_deed (l : Launch) (G : GT) (h_X6_isDeedKnown : K_X6_isDeedKnown l G) (h_X6_isWithin : K_X6_isWithin l G) (h_X6_keepFault : K_X6_keepFault l G) (h_X6_ofTrial : K_X6_ofTrial l G) (h_X6_tryDeed : K_X6_tryDeed l G) : K_X6_deed l G := by
  intro b0 bs s0 s1 d0 d1 i0 i1 c0 c1 c2 x0 r0 j0 e0 lf tr sla sle dat dcut dfw hi wi fr fc lc cnt sn dstr str ck cwt sh a b ce sheet lane i n what p0 p1 p2 p3 p4 p5
  refine wk_X6_deed l G b0 bs s0 s1 d0 d1 i0 i1 c0 c1 c2 x0 r0 j0 e0 lf tr sla sle dat dcut dfw hi wi fr fc lc cnt sn dstr str ck cwt sh a b ce sheet lane i n what (x_deedR hi wi fc lc cnt sla sle ck cwt sn str dstr a b ce lane i n what) (x_kf (x_deedR hi wi fc lc cnt sla sle ck cwt sn str dstr a b ce lane i n what)) h_X6_isDeedKnown h_X6_isWithin h_X6_keepFault h_X6_ofTrial h_X6_tryDeed ?_
  have ht : x_tdR hi wi cnt sla sle sn a b ce lane i n = 0 → vp_in (x_tr hi wi fc lc ck cwt sn str dstr a b ce i n).1 20 := by
    intro h
    obtain ⟨h1, h2, h3⟩ := tdOk h p4
    exact trEnds (p5 h1) h2 h3 ((vpC p2).resolve_left h1.2) _ (Nat.le_refl _)
  unfold x_deedR x_dKn
  generalize x_tr hi wi fc lc ck cwt sn str dstr a b ce i n = D at ht ⊢
  obtain ⟨D1, D2, D3, D4⟩ := D
  generalize x_tdR hi wi cnt sla sle sn a b ce lane i n = B at ht ⊢
  grind (splits := 60)

theorem ok_X6_write (l : Launch) (G : GT) (h_X6_keepFault : K_X6_keepFault l G) (h_X6_tryDeed : K_X6_tryDeed l G) : K_X6_write l G := by
  intro b0 bs s0 s1 d0 d1 i0 i1 c0 c1 c2 x0 r0 j0 e0 lf tr sla sle dat dcut dfw hi wi fr fc lc cnt sn dstr str ck cwt sh a b ce sheet lane i n p0 p1 p2 p3 p4 p5
  refine wk_X6_write l G b0 bs s0 s1 d0 d1 i0 i1 c0 c1 c2 x0 r0 j0 e0 lf tr sla sle dat dcut dfw hi wi fr fc lc cnt sn dstr str ck cwt sh a b ce sheet lane i n (x_writeR hi wi fc lc cnt sla sle ck cwt sn str dstr a b ce lane i n) (x_kf (x_writeR hi wi fc lc cnt sla sle ck cwt sn str dstr a b ce lane i n)) (x_writeS hi wi fc lc cnt sla sle ck cwt sn str dstr a b ce lane i n) h_X6_keepFault h_X6_tryDeed ?_
  have z : ¬ (0 : Int32) < 0 ∧ ¬ (20 : Int32) < 0 ∧ (0 : Int32).toNatClampNeg + (20 : Int32).toNatClampNeg ≤ 20 := by decide
  have e := cp20
  unfold x_writeR x_writeS
  generalize x_tr hi wi fc lc ck cwt sn str dstr a b ce i n = D
  obtain ⟨D1, D2, D3, D4⟩ := D
  generalize x_tdR hi wi cnt sla sle sn a b ce lane i n = B
  grind (splits := 60)

theorem ok_X7_odds (l : Launch) (G : GT) (h_X7_bits : K_X7_bits l G) (h_X7_cells : K_X7_cells l G) (h_X7_in : K_X7_in l G) (h_X7_isBond : K_X7_isBond l G) (h_X7_lost : K_X7_lost l G) (h_X7_noPlace : K_X7_noPlace l G) (h_X7_noTwo : K_X7_noTwo l G) (h_X7_share : K_X7_share l G) : K_X7_odds l G := by
  intro m0 a4 a6 a7 a15 a16 a17 a21 a22 a24 a25 a26 a27 a28 a29 a30 f0 f1 f2 f3 f5 f8 f9 f10 f11 f12 f13 f14 f18 f19 f20 f23 f31 g4 g6 g7 g15 g16 g17 g21 g22 g24 g25 g26 g27 g28 g29 g30 a b fro to set which p0 p1
  obtain ⟨N, hN, e1, e2, -⟩ := p0.n
  refine wk_X7_odds l G m0 a4 a6 a7 a15 a16 a17 a21 a22 a24 a25 a26 a27 a28 a29 a30 f0 f1 f2 f3 f5 f8 f9 f10 f11 f12 f13 f14 f18 f19 f20 f23 f31 g4 g6 g7 g15 g16 g17 g21 g22 g24 g25 g26 g27 g28 g29 g30 a b fro to set which (m_oddsR f1 f2 f5 f9 g4 g6 g7 a b fro to set which) (if m_oddsDo f1 f2 f5 a b fro to set which then 0 else f8) (fun c x y z w v => m_oddsDo f1 f2 f5 a b fro to set which ∧ ∃ S : Nat, S < 1048576 ∧ set = nI S ∧ ((¬ z = 0 ∧ ∃ s t f : Nat, s ≤ S ∧ s < f ∧ t + f ≤ S + 1 ∧ y = nI s ∧ x = lN t ∧ c = s + 1 ∧ m_manyN f1 f2 f9 g4 g6 g7 a b fro to set f y x = m_manyN f1 f2 f9 g4 g6 g7 a b fro to set (S + 1) set 0) ∨ (z = 0 ∧ w = 0 ∧ (∃ t : Nat, t ≤ S + 1 ∧ x = lN t) ∧ x = m_manyN f1 f2 f9 g4 g6 g7 a b fro to set (S + 1) set 0))) h_X7_bits h_X7_cells h_X7_in h_X7_isBond h_X7_lost h_X7_noPlace h_X7_noTwo h_X7_share ?_ ?_
  · refine ⟨fun h => ?_, fun h1 => ⟨fun h => ?_, fun h2 => ⟨fun h3 => ⟨fun h4 => ?_, fun h4 => ⟨fun h5 => ?_, fun h5 => ⟨fun h6 => ?_, fun h6 => ?_⟩⟩⟩, fun h => ?_⟩⟩⟩
    · unfold m_oddsR; rw [if_pos (fun z => h z.1), if_neg (fun z => h z.1.1)]; exact ⟨rfl, rfl⟩
    · unfold m_oddsR; rw [if_pos (fun z => h z.2.1), if_neg (fun z => h z.1.2.1)]; exact ⟨rfl, rfl⟩
    · have hn : ¬ (0 ≤ set ∧ set.toInt64 ≤ ((1 : Int32) <<< ((f1 * f2) &&& 31)).toInt64 - 1) := by
        rw [q_in0] at h4
        intro z
        refine h4 ⟨?_, z.2⟩
        have z1 := z.1
        have q0 : (0 : Int32).toInt = 0 := by decide
        have q1 : (0 : Int64).toInt = 0 := by decide
        rw [Int32.le_iff_toInt_le, q0] at z1
        rw [Int64.le_iff_toInt_le, i64t, q1]
        exact z1
      unfold m_oddsR
      rw [if_neg (fun z => z ⟨h1, h2, h3⟩), if_pos (fun z => hn z.1), if_neg (fun z => hn z.2.1)]
      exact ⟨rfl, rfl⟩
    · unfold m_oddsR
      rw [if_neg (fun z => z ⟨h1, h2, h3⟩), if_pos (fun z => Int32.not_lt.mpr z.2.1 h5), if_neg (fun z => Int32.not_lt.mpr z.2.2.1 h5)]
      exact ⟨rfl, rfl⟩
    · rw [e1] at h4
      obtain ⟨hs, S, hS, eS⟩ := setOk hN h4
      rw [q_in01, Classical.not_not] at h6
      refine ⟨S + 1, ⟨⟨h1, h2, h3⟩, by rw [e1]; exact hs, Int32.not_lt.mp h5, h6.1, h6.2⟩, S, hS, eS, Or.inl ⟨by decide, S, 0, S + 1, Nat.le_refl _, by omega, by omega, eS, rfl, rfl, rfl⟩⟩
    · rw [q_in01] at h6
      unfold m_oddsR
      rw [if_neg (fun z => z ⟨h1, h2, h3⟩), if_pos (fun z => h6 z.2.2), if_neg (fun z => h6 z.2.2.2)]
      exact ⟨rfl, rfl⟩
    · unfold m_oddsR; rw [if_pos (fun z => h z.2.2), if_neg (fun z => h z.1.2.2)]; exact ⟨rfl, rfl⟩
  · rintro c x y z w v ⟨hok, S, hS, eS, hd⟩
    have hp := (vpTwo p1).resolve_left (fun z => z hok.1.1)
    have hf := (vpP p0).resolve_left (fun z => z hok.1.2.1)
    obtain ⟨j, hj, ej⟩ := bitsR (set := set) (Int32.not_lt.mpr hok.2.2.1)
    obtain ⟨e4, h256, h1⟩ := lshl j hj
    have hc : set.toNatClampNeg = S := by rw [eS, nI_clamp (by omega)]
    have hR : m_oddsR f1 f2 f5 f9 g4 g6 g7 a b fro to set which = q_share (m_manyN f1 f2 f9 g4 g6 g7 a b fro to set (S + 1) set 0) ((1 : Int64) <<< ((q_bits set).toInt64 &&& 63)) which := by
      unfold m_oddsR
      rw [if_neg (fun z => z hok.1), if_neg (fun z => z hok.2), hc]
    rcases hd with ⟨hz, s, t, f, hs, hf2, ht, rfl, rfl, rfl, he⟩ | ⟨rfl, rfl, ⟨t, ht, et⟩, he⟩
    · refine ⟨fun z => absurd z hz, fun _ => ⟨p0, hf.2, hp.1, hp.2, hf.1, fun jk v1 ev1 v2 ev2 => ?_⟩⟩
      obtain ⟨f, rfl⟩ : ∃ g, f = g + 1 := ⟨f - 1, by omega⟩
      rw [manyS] at he
      rw [← ev1] at he
      have hv1 : ∃ d : Nat, d ≤ 1 ∧ v1 = lN d := by
        rw [ev1]
        split
        · exact ⟨0, by omega, rfl⟩
        · exact ⟨1, by omega, rfl⟩
      obtain ⟨d, hd1, ed⟩ := hv1
      have ea : lN t + v1 = lN (t + d) := by rw [ed, lN_add]
      by_cases h0 : nI s = 0
      · have hs0 : s = 0 := (nI_eq (a := s) (b := 0) (by omega) (by omega)).mp h0
        subst hs0
        rw [if_pos h0] at he ev2
        exact ⟨0, by omega, hok, S, hS, eS, Or.inr ⟨ev2, h0, ⟨t + d, by omega, ea⟩, he⟩⟩
      · have hs0 : ¬ s = 0 := fun z => h0 (by rw [z]; rfl)
        rw [if_neg h0] at he ev2
        obtain ⟨i, rfl⟩ : ∃ i, s = i + 1 := ⟨s - 1, by omega⟩
        have es : (nI (i + 1) - 1) &&& set = nI (i &&& S) := by rw [nI_pred i, eS, nI_and]
        have hle : i &&& S ≤ i := Nat.and_le_left
        rw [es] at he ⊢
        exact ⟨(i &&& S) + 1, by omega, hok, S, hS, eS, Or.inl ⟨by rw [ev2]; decide, i &&& S, t + d, f, by omega, by omega, by omega, rfl, ea, rfl, he⟩⟩
    · refine ⟨fun _ => ⟨⟨t, 2 ^ j, by omega, h256, h1, et, by rw [ej, e4]⟩, ?_, ?_⟩, fun z => absurd rfl z⟩
      · rw [hR, he]
      · rw [if_pos hok]

theorem ok_X6_tryDeed (l : Launch) (G : GT) (h_X0_load : K_X0_load l G) (h_X1_begin : K_X1_begin l G) (h_X1_stroke : K_X1_stroke l G) (h_X6_isDeedKnown : K_X6_isDeedKnown l G) (h_X6_isWithin : K_X6_isWithin l G) (h_X6_refusalOfPart : K_X6_refusalOfPart l G) (h_X6_sheetAt : K_X6_sheetAt l G) : K_X6_tryDeed l G := by
  intro b0 bs s0 s1 d0 d1 i0 i1 c0 c1 c2 x0 r0 j0 e0 lf tr sla sle dat dcut dfw hi wi fr fc lc cnt sn dstr str ck cwt sh a b ce sheet lane i n p0 p1 p2 p3 p4 p5
  refine wk_X6_tryDeed l G b0 bs s0 s1 d0 d1 i0 i1 c0 c1 c2 x0 r0 j0 e0 lf tr sla sle dat dcut dfw hi wi fr fc lc cnt sn dstr str ck cwt sh a b ce sheet lane i n (x_tdR hi wi cnt sla sle sn a b ce lane i n) (if x_tdR hi wi cnt sla sle sn a b ce lane i n = 0 then (x_tr hi wi fc lc ck cwt sn str dstr a b ce i n).1 else dat) (if x_tdR hi wi cnt sla sle sn a b ce lane i n = 0 then (x_tr hi wi fc lc ck cwt sn str dstr a b ce i n).2.1 else dcut) (if x_tdR hi wi cnt sla sle sn a b ce lane i n = 0 then (x_tr hi wi fc lc ck cwt sn str dstr a b ce i n).2.2.1 else dfw) (if x_tdR hi wi cnt sla sle sn a b ce lane i n = 0 then (x_tr hi wi fc lc ck cwt sn str dstr a b ce i n).2.2.2 else dstr) (fun c x => (x_dK hi wi cnt a b ce ∧ ¬ s_in n 0 40 = 0 ∧ x_rp sla sle lane i n = 0) ∧ ∃ m N, n = nI N ∧ N ≤ 60 ∧ m ≤ N ∧ c = N - m ∧ x = nI m ∧ ∀ y, y < m → ¬ s_in (sn (i + nI y).toNatClampNeg) 0 3 = 0) (fun c x w1 w2 w3 w5 => (x_dK hi wi cnt a b ce ∧ ¬ s_in n 0 40 = 0 ∧ x_rp sla sle lane i n = 0) ∧ ∃ m N, n = nI N ∧ N ≤ 60 ∧ m ≤ N ∧ c = N - m ∧ x = nI m ∧ (∀ y, y < N → ¬ s_in (sn (i + nI y).toNatClampNeg) 0 3 = 0) ∧ x_trN hi wi fc lc ck cwt sn (s_cp20 str dstr) a b ce i m = (w1, w2, w3, w5)) h_X0_load h_X1_begin h_X1_stroke h_X6_isDeedKnown h_X6_isWithin h_X6_refusalOfPart h_X6_sheetAt ?_ ?_ ?_
  · refine ⟨p0, p1, p0, p1, fun h => ⟨fun h2 => ⟨fun h3 => ?_, fun h3 => ?_⟩, fun h2 => ?_⟩, fun h => ?_⟩
    · unfold x_dKn at h
      rw [ite01, Classical.not_not] at h
      obtain ⟨I, N, eI, eN, hl, hr⟩ := rpOk h3 p4
      exact ⟨N, ⟨h, h2, h3⟩, 0, N, eN, by omega, Nat.zero_le _, by omega, rfl, fun y hy => absurd hy (Nat.not_lt_zero _)⟩
    · unfold x_dKn at h
      rw [ite01, Classical.not_not] at h
      have e : x_tdR hi wi cnt sla sle sn a b ce lane i n = x_rp sla sle lane i n := by
        unfold x_tdR
        rw [if_neg (fun z => z h), if_neg h2, if_pos h3]
      rw [e, if_neg h3, if_neg h3, if_neg h3, if_neg h3]
      exact ⟨rfl, rfl, rfl, rfl, rfl⟩
    · unfold x_dKn at h
      rw [ite01, Classical.not_not] at h
      have e : x_tdR hi wi cnt sla sle sn a b ce lane i n = -2 := by
        unfold x_tdR
        rw [if_neg (fun z => z h), if_pos h2]
      have z : ¬ (-2 : Int32) = 0 := by decide
      rw [e, if_neg z, if_neg z, if_neg z, if_neg z]
      exact ⟨rfl, rfl, rfl, rfl, rfl⟩
    · unfold x_dKn at h
      rw [ite01] at h
      have e : x_tdR hi wi cnt sla sle sn a b ce lane i n = -1 := by
        unfold x_tdR
        rw [if_pos h]
      have z : ¬ (-1 : Int32) = 0 := by decide
      rw [e, if_neg z, if_neg z, if_neg z, if_neg z]
      exact ⟨rfl, rfl, rfl, rfl, rfl⟩
  · rintro c x ⟨hb, m, N, en, h60, hm, rfl, rfl, hy⟩
    obtain ⟨I, N2, eI, eN, hl, hr⟩ := rpOk hb.2.2 p4
    have hNN : N2 = N := (nI_eq (by omega) (by omega)).mp (eN.symm.trans en)
    have hc : n.toNatClampNeg = N := by rw [en, nI_clamp (by omega)]
    refine ⟨fun h => ?_, fun h => ?_⟩
    · rw [en] at h
      have e := lp_done (by omega) hm h
      subst e
      exact ⟨m, hb, 0, m, en, h60, Nat.zero_le _, by omega, rfl, hy, by rw [x_trN]⟩
    · rw [en] at h
      have hlt := lp_more (by omega) hm h
      refine ⟨?_, fun h2 => ?_, fun h2 => ?_⟩
      · rw [eI, nI_add]
        exact vp_in_nI (by omega) (by omega)
      · refine ⟨N - (m + 1), by omega, hb, m + 1, N, en, h60, hlt, rfl, nI_1 m, fun y h3 => ?_⟩
        rcases Nat.lt_or_ge y m with q | q
        · exact hy y q
        · rw [show y = m by omega]
          exact h2
      · have e : x_tdR hi wi cnt sla sle sn a b ce lane i n = -2 := by
          unfold x_tdR x_noSt
          rw [if_neg (fun z => z hb.1), if_neg hb.2.1, if_neg (fun z => z hb.2.2), hc, decide_eq_true ⟨m, hlt, h2⟩]
          rfl
        have z : ¬ (-2 : Int32) = 0 := by decide
        rw [e, if_neg z, if_neg z, if_neg z, if_neg z]
        exact ⟨rfl, rfl, rfl, rfl, rfl⟩
  · rintro c x w1 w2 w3 w5 ⟨hb, m, N, en, h60, hm, rfl, rfl, hy, ht⟩
    obtain ⟨I, N2, eI, eN, hl, hr⟩ := rpOk hb.2.2 p4
    have hNN : N2 = N := (nI_eq (by omega) (by omega)).mp (eN.symm.trans en)
    have hc : n.toNatClampNeg = N := by rw [en, nI_clamp (by omega)]
    have e : x_tdR hi wi cnt sla sle sn a b ce lane i n = 0 := by
      unfold x_tdR x_noSt
      rw [if_neg (fun z => z hb.1), if_neg hb.2.1, if_neg (fun z => z hb.2.2), hc, decide_eq_false (by rintro ⟨y, h1, h2⟩; exact hy y h1 h2)]
      rfl
    have fin : x_trN hi wi fc lc ck cwt sn (s_cp20 str dstr) a b ce i N = (w1, w2, w3, w5) → (0 : Int32) = x_tdR hi wi cnt sla sle sn a b ce lane i n ∧ w1 = (if x_tdR hi wi cnt sla sle sn a b ce lane i n = 0 then (x_tr hi wi fc lc ck cwt sn str dstr a b ce i n).1 else dat) ∧ w2 = (if x_tdR hi wi cnt sla sle sn a b ce lane i n = 0 then (x_tr hi wi fc lc ck cwt sn str dstr a b ce i n).2.1 else dcut) ∧ w3 = (if x_tdR hi wi cnt sla sle sn a b ce lane i n = 0 then (x_tr hi wi fc lc ck cwt sn str dstr a b ce i n).2.2.1 else dfw) ∧ w5 = (if x_tdR hi wi cnt sla sle sn a b ce lane i n = 0 then (x_tr hi wi fc lc ck cwt sn str dstr a b ce i n).2.2.2 else dstr) := by
      intro hx
      rw [e, if_pos rfl, if_pos rfl, if_pos rfl, if_pos rfl]
      unfold x_tr
      rw [hc, hx]
      exact ⟨rfl, rfl, rfl, rfl, rfl⟩
    refine ⟨fun h => ?_, fun h => ⟨fun h2 => ?_, fun h2 => ?_⟩⟩
    · rw [en] at h
      have e3 := lp_done (by omega) hm h
      subst e3
      exact fin ht
    · refine fin ?_
      rw [show N = m + (N - m) by omega, trStay (by rw [ht]; exact h2), ht]
    · rw [en] at h
      have hlt := lp_more (by omega) hm h
      refine ⟨?_, fun v ev => ?_⟩
      · rw [eI, nI_add]
        exact vp_in_nI (by omega) (by omega)
      · have ho := p5 hb.1 m (by rw [hc]; exact hlt) hr (fun y h3 => (in01 _ _ _).resolve_left (hy y (by rw [hc] at h3; exact h3))) (by rw [ht]; exact h2)
        rw [ht] at ho
        have hp := (vpPair p3).resolve_left hb.1.1
        rw [ite_odd (show m < 2 ^ 31 by omega)] at ev
        replace ev := ev.symm
        subst ev
        refine ⟨vp_ite hp.1 hp.2, ho, N - (m + 1), by omega, hb, m + 1, N, en, h60, hlt, rfl, nI_1 m, hy, ?_⟩
        rw [trS, ht, if_pos h2]
        rfl
