theorem ok_X7_canal (l : Launch) (G : GT) (h_X7_cells : K_X7_cells l G) (h_X7_cellsBarred : K_X7_cellsBarred l G) (h_X7_in : K_X7_in l G) (h_X7_noSheet : K_X7_noSheet l G) (h_X7_readsCanal : K_X7_readsCanal l G) (h_X7_refused : K_X7_refused l G) : K_X7_canal l G := by
  intro m0 a4 a6 a7 a15 a16 a17 a21 a22 a24 a25 a26 a27 a28 a29 a30 f0 f1 f2 f3 f5 f8 f9 f10 f11 f12 f13 f14 f18 f19 f20 f23 f31 g4 g6 g7 g15 g16 g17 g21 g22 g24 g25 g26 g27 g28 g29 g30 k lane i n p0
  refine wk_X7_canal l G m0 a4 a6 a7 a15 a16 a17 a21 a22 a24 a25 a26 a27 a28 a29 a30 f0 f1 f2 f3 f5 f8 f9 f10 f11 f12 f13 f14 f18 f19 f20 f23 f31 g4 g6 g7 g15 g16 g17 g21 g22 g24 g25 g26 g27 g28 g29 g30 k lane i n (m_canalR g27 g28 g29 g15 g16 g17 k lane i n) (m_canalF g27 g28 k lane i n) (if m_cnOk g27 g28 g29 g15 g16 g17 k lane i n then q_hi (60 * k + i) n g29 else f1) (if m_cnOk g27 g28 g29 g15 g16 g17 k lane i n then q_wi (60 * k + i) n g29 else f2) (if m_cnOk g27 g28 g29 g15 g16 g17 k lane i n then 0 else f23) (if m_cnOk g27 g28 g29 g15 g16 g17 k lane i n then q_fr (60 * k + i) n g29 else f3) (if m_cnOk g27 g28 g29 g15 g16 g17 k lane i n then (q_sk (60 * k + i) n g29 g15 g16 g17).2.2.2.1 else f5) (if m_cnOk g27 g28 g29 g15 g16 g17 k lane i n then s_cpN (q_hi (60 * k + i) n g29 * q_wi (60 * k + i) n g29).toNatClampNeg (q_ce (60 * k + i) n g29 g15).2.1 g4 else g4) (if m_cnOk g27 g28 g29 g15 g16 g17 k lane i n then s_cpN (q_sk (60 * k + i) n g29 g15 g16 g17).2.2.2.1.toNatClampNeg (q_sk (60 * k + i) n g29 g15 g16 g17).2.1 g6 else g6) (if m_cnOk g27 g28 g29 g15 g16 g17 k lane i n then s_cpN (q_sk (60 * k + i) n g29 g15 g16 g17).2.2.2.1.toNatClampNeg (q_sk (60 * k + i) n g29 g15 g16 g17).2.2.1 g7 else g7) (fun c x y1 y10 y11 y12 y13 y14 y2 y3 y5 s1 s4 s5 s6 => m_cnOk g27 g28 g29 g15 g16 g17 k lane i n ∧ y1 = (q_hi (60 * k + i) n g29) ∧ y2 = (q_wi (60 * k + i) n g29) ∧ y3 = (q_fr (60 * k + i) n g29) ∧ y5 = (q_sk (60 * k + i) n g29 g15 g16 g17).2.2.2.1 ∧ s4 = (q_ce (60 * k + i) n g29 g15).2.1 ∧ s5 = (q_sk (60 * k + i) n g29 g15 g16 g17).2.1 ∧ s6 = (q_sk (60 * k + i) n g29 g15 g16 g17).2.2.1 ∧ ∃ m N : Nat, N ≤ 20 ∧ (q_hi (60 * k + i) n g29) * (q_wi (60 * k + i) n g29) = nI N ∧ m ≤ N ∧ c = N - m ∧ x = nI m ∧ s1 = s_cpN m (q_ce (60 * k + i) n g29 g15).2.1 g4) (fun c x y1 y10 y11 y12 y13 y14 y2 y3 y5 s1 s2 s3 s4 s5 s6 => m_cnOk g27 g28 g29 g15 g16 g17 k lane i n ∧ y1 = (q_hi (60 * k + i) n g29) ∧ y2 = (q_wi (60 * k + i) n g29) ∧ y3 = (q_fr (60 * k + i) n g29) ∧ y5 = (q_sk (60 * k + i) n g29 g15 g16 g17).2.2.2.1 ∧ s1 = s_cpN ((q_hi (60 * k + i) n g29) * (q_wi (60 * k + i) n g29)).toNatClampNeg (q_ce (60 * k + i) n g29 g15).2.1 g4 ∧ s5 = (q_sk (60 * k + i) n g29 g15 g16 g17).2.1 ∧ s6 = (q_sk (60 * k + i) n g29 g15 g16 g17).2.2.1 ∧ ∃ m d : Nat, d ≤ 4 ∧ (q_sk (60 * k + i) n g29 g15 g16 g17).2.2.2.1 = nI d ∧ m ≤ d ∧ c = d - m ∧ x = nI m ∧ s2 = s_cpN m (q_sk (60 * k + i) n g29 g15 g16 g17).2.1 g6 ∧ s3 = s_cpN m (q_sk (60 * k + i) n g29 g15 g16 g17).2.2.1 g7) h_X7_cells h_X7_cellsBarred h_X7_in h_X7_noSheet h_X7_readsCanal h_X7_refused ?_ ?_ ?_
  · refine ⟨fun h1 => ⟨fun h2 => ?_, fun h2 => ?_⟩, fun h1 => ?_⟩
    · have hk := vpK.resolve_left (fun z => z h1)
      rw [q_in02, Classical.not_not] at h2
      refine ⟨hk, fun h3 => ?_, fun h3 => ?_⟩
      · rw [bResV] at h3
        obtain ⟨K, I, N, hK, ek, ei, en, hl, e⟩ := barredOk hk p0 h3
        have hr : okRun (60 * k + i) n 240 := by
          rw [e, en]
          refine ⟨nI_pos (by omega), nI_pos (by omega), ?_⟩
          rw [nI_clamp (by omega), nI_clamp (by omega)]
          omega
        refine ⟨hr, ?_⟩
        intro z0 z1 z2 z3 z4 z5 z6 z7 zr q0 q1 q2 q3 q4 q5 q6 q7 qr
        replace q0 := q0.symm
        replace q1 := q1.symm
        replace q2 := q2.symm
        replace q3 := q3.symm
        replace q4 := q4.symm
        replace q5 := q5.symm
        replace q6 := q6.symm
        replace q7 := q7.symm
        replace qr := qr.symm
        subst q0 q1 q2 q3 q4 q5 q6 q7 qr
        refine ⟨fun h4 => ?_, fun h4 => ?_⟩
        · obtain ⟨hf, -⟩ := skOk h4
          obtain ⟨M, hM, eM, cM, -⟩ := (frOk hf).1.n
          exact ⟨M, ⟨⟨h1, h2, h3⟩, h4⟩, rfl, rfl, rfl, rfl, rfl, rfl, rfl, 0, M, hM, eM, Nat.zero_le _, (Nat.sub_zero _).symm, rfl, rfl⟩
        · have hn : ¬ m_cnOk g27 g28 g29 g15 g16 g17 k lane i n := fun z => z.2 h4
          simp only [if_neg hn]
          unfold m_canalR m_canalF
          rw [if_neg (fun z => z h1), if_neg (fun z => z h2), if_neg (fun z => z h3), if_pos h4, if_pos ⟨h1, h2⟩, h3]
          refine ⟨?_, ?_, ?_, ?_, ?_, ?_, ?_, ?_, ?_, ?_⟩ <;> first | rfl | trivial
      · rw [bResV] at h3
        have hn : ¬ m_cnOk g27 g28 g29 g15 g16 g17 k lane i n := fun z => h3 z.1.2.2
        simp only [if_neg hn]
        refine ⟨?_, ?_, ?_, ?_, ?_, ?_, ?_, ?_, ?_, ?_⟩
        · unfold q_bRes m_canalR
          rw [if_neg h3, if_neg (fun z => z h1), if_neg (fun z => z h2), if_pos h3]
        · unfold q_bFault m_canalF
          rw [if_neg h3, if_pos ⟨h1, h2⟩]
        all_goals first | rfl | trivial
    · rw [q_in02] at h2
      have hn : ¬ m_cnOk g27 g28 g29 g15 g16 g17 k lane i n := fun z => h2 z.1.2.1
      simp only [if_neg hn]
      unfold m_canalR m_canalF
      rw [if_neg (fun z => z h1), if_pos h2, if_neg (fun z => h2 z.2)]
      refine ⟨?_, ?_, ?_, ?_, ?_, ?_, ?_, ?_, ?_, ?_⟩ <;> first | rfl | trivial
    · have hn : ¬ m_cnOk g27 g28 g29 g15 g16 g17 k lane i n := fun z => h1 z.1.1
      simp only [if_neg hn]
      unfold m_canalR m_canalF
      rw [if_pos h1, if_neg (fun z => h1 z.1)]
      refine ⟨?_, ?_, ?_, ?_, ?_, ?_, ?_, ?_, ?_, ?_⟩ <;> first | rfl | trivial
  · intro c x y1 y10 y11 y12 y13 y14 y2 y3 y5 s1 s4 s5 s6 hJ
    obtain ⟨hok, r1, r2, r3, r5, r4, r6, r7, m, N, hN, eN, hm, ec, ex, es⟩ := hJ
    rw [r1, r2, eN, ex]
    refine ⟨fun h => ?_, fun h => ?_⟩
    · have e := lp_done (by omega) hm h
      obtain ⟨d, hd, ed⟩ := (skOk hok.2).2
      refine ⟨d, hok, rfl, rfl, r3, r5, ?_, r6, r7, 0, d, hd, ed, Nat.zero_le _, (Nat.sub_zero _).symm, rfl, rfl, rfl⟩
      rw [es, nI_clamp (by omega), e]
    · have hlt := lp_more (by omega) hm h
      rw [nI_cl (by omega)]
      refine ⟨vp_in_nI (by omega) (by omega), vp_in_nI (by omega) (by omega), N - (m + 1), by omega, hok, rfl, rfl, r3, r5, r4, r6, r7, m + 1, N, hN, rfl, hlt, rfl, nI_1 m, ?_⟩
      rw [es, r4]
      exact upd_run rfl
  · intro c x y1 y10 y11 y12 y13 y14 y2 y3 y5 s1 s2 s3 s4 s5 s6 hJ
    obtain ⟨hok, r1, r2, r3, r5, r4, r6, r7, m, d, hd, ed, hm, ec, ex, es2, es3⟩ := hJ
    rw [r5, ed, ex]
    refine ⟨fun h => ?_, fun h => ?_⟩
    · have e := lp_done (by omega) hm h
      simp only [if_pos hok]
      unfold m_canalR m_canalF
      have h1 := hok.1.1
      have h2 := hok.1.2.1
      have h3 := hok.1.2.2
      rw [if_neg (fun z => z h1), if_neg (fun z => z h2), if_neg (fun z => z h3), if_neg hok.2, if_pos ⟨h1, h2⟩, h3, ed, nI_clamp (by omega)]
      rw [← e]
      exact ⟨rfl, rfl, r1, r2, True.intro, r3, True.intro, r4, es2, es3⟩
    · have hlt := lp_more (by omega) hm h
      rw [nI_cl (by omega)]
      have hv := vp_in_nI hlt (by omega)
      have hv4 := vp_mono hv hd
      refine ⟨hv4, hv4, hv4, hv4, d - (m + 1), by omega, hok, r1, r2, r3, rfl, r4, r6, r7, m + 1, d, hd, rfl, hlt, rfl, nI_1 m, ?_, ?_⟩
      · rw [es2, r6]
        exact upd_run rfl
      · rw [es3, r7]
        exact upd_run rfl
