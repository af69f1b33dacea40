theorem ok_J6_bitCount_0f7a4 (l : Launch) (G : GT) : K_J6_bitCount_0f7a4 l G := by
  intro x
  refine wk_J6_bitCount_0f7a4 l G x (s_bitCount x) ?_
  rfl

theorem ok_X0_has (l : Launch) (G : GT) (h_X6_isWithin : K_X6_isWithin l G) : K_X0_has l G := by
  intro c0 c1 c2 cnt a
  refine wk_X0_has l G c0 c1 c2 cnt a (s_sk cnt a) h_X6_isWithin ?_
  exact ⟨in01 _ _ _, rfl⟩

theorem ok_X2_has (l : Launch) (G : GT) (h_X2_cells : K_X2_cells l G) (h_X6_isWithin : K_X6_isWithin l G) : K_X2_has l G := by
  intro i0 i1 hi wi fr fc lc ce
  refine wk_X2_has l G i0 i1 hi wi fr fc lc ce (s_ce hi wi ce) h_X2_cells h_X6_isWithin ?_
  exact ⟨in01 _ _ _, rfl⟩

theorem ok_X1_begin (l : Launch) (G : GT) : K_X1_begin l G := by
  intro d0 d1 i0 i1 dat dcut dfw hi wi fr fc lc fro dstr str
  refine wk_X1_begin l G d0 d1 i0 i1 dat dcut dfw hi wi fr fc lc fro dstr str fro 0 (-9) (s_cp20 str dstr) ?_
  exact ⟨by decide, by decide, by decide, by decide, by decide, rfl, rfl, rfl, cp20 str dstr⟩

theorem ok_X1_stroke (l : Launch) (G : GT) (h_X2_led : K_X2_led l G) : K_X1_stroke l G := by
  intro d0 d1 i0 i1 dat dcut dfw hi wi fr fc lc number stroke load dstr p0
  refine wk_X1_stroke l G d0 d1 i0 i1 dat dcut dfw hi wi fr fc lc number stroke load dstr (s_stAt (s_led hi wi fc lc dat stroke) load dstr dat) (s_stCut (s_led hi wi fc lc dat stroke) load dstr dcut) (s_stFw (s_led hi wi fc lc dat stroke) load dstr dfw number) (s_stStr (s_led hi wi fc lc dat stroke) load dstr) h_X2_led ?_
  grind (splits := 40) [s_stAt, s_stCut, s_stFw, s_stStr]

theorem ok_X4_has (l : Launch) (G : GT) (h_X6_isWithin : K_X6_isWithin l G) : K_X4_has l G := by
  intro s0 s1 sla sle i n
  refine wk_X4_has l G s0 s1 sla sle i n (s_shas sle i n) h_X6_isWithin ?_
  have := in01 n 0 (sle - i)
  grind (splits := 40) [s_shas]

theorem ok_X5_begin (l : Launch) (G : GT) : K_X5_begin l G := by
  intro x0 x1 s0 s1 xl xp xw sla sle i n xc sn p0
  refine wk_X5_begin l G x0 x1 s0 s1 xl xp xw sla sle i n xc sn n 0 0 (s_cpT sn xc i n) ?_
  obtain ⟨h1, h2, h3⟩ := p0
  refine ⟨h1, by decide, h2, h3, ?_, rfl, rfl, rfl, rfl⟩
  rw [show (0 : Int32).toNatClampNeg = 0 by decide]
  omega

theorem ok_X5_take (l : Launch) (G : GT) (h_X5_goesOn : K_X5_goesOn l G) (h_X6_isWithin : K_X6_isWithin l G) : K_X5_take l G := by
  intro x0 x1 xl xp xw least most xc p0
  refine wk_X5_take l G x0 x1 xl xp xw least most xc (s_takeR xl xp xw xc least most) (s_takeP xl xp xw xc least most) (s_takeW xl xp xw xc least most) h_X5_goesOn h_X6_isWithin ?_
  obtain ⟨a, b, hb, hab, rfl, rfl⟩ := p0
  have h1 : ¬ s_goesOn (nI b) (nI a) xw = 0 → vp_in (nI a) 60 := fun h => by
    have : nI a < nI b := by grind (splits := 40) [s_goesOn]
    exact vp_in_nI (by have := (nI_ltI (a := a) (b := b) (by omega) (by omega)).mp this; omega) (by omega)
  have e := add1sub1 (nI a)
  grind (splits := 40) [s_goesOn, s_takeR, s_takeP, s_takeW, s_in]

theorem ok_X5_kind (l : Launch) (G : GT) (h_X5_goesOn : K_X5_goesOn l G) (h_X5_sign : K_X5_sign l G) : K_X5_kind l G := by
  intro x0 x1 xl xp xw xc p0
  refine wk_X5_kind l G x0 x1 xl xp xw xc (s_kindR xl xp xw xc) (s_takeP xl xp xw xc (s_kindC xl xp xw xc) (s_kindC xl xp xw xc)) (s_takeW xl xp xw xc (s_kindC xl xp xw xc) (s_kindC xl xp xw xc)) h_X5_goesOn h_X5_sign ?_
  obtain ⟨a, b, hb, hab, rfl, rfl⟩ := p0
  have h0 : okT (nI b) (nI a) := ⟨a, b, hb, hab, rfl, rfl⟩
  have h1 : ¬ s_goesOn (nI b) (nI a) xw = 0 → vp_in (nI a) 60 := fun h => by
    have : nI a < nI b := by grind (splits := 40) [s_goesOn]
    exact vp_in_nI (by have := (nI_ltI (a := a) (b := b) (by omega) (by omega)).mp this; omega) (by omega)
  grind (splits := 40) [s_goesOn, s_kindC, s_kindR, s_kindCode]

theorem ok_X7_in (l : Launch) (G : GT) : K_X7_in l G := by
  intro v a b
  refine wk_X7_in l G v a b (q_in v a b) ?_
  simp only [lgl, lgg]
  grind (splits := 40) [q_in]

theorem ok_X7_isBeyond (l : Launch) (G : GT) : K_X7_isBeyond l G := by
  intro i n all
  refine wk_X7_isBeyond l G i n all (q_beyond i n all) ?_
  simp only [lgl, lgle]
  grind (splits := 40) [q_beyond]

theorem ok_X7_codeAt (l : Launch) (G : GT) : K_X7_codeAt l G := by
  intro m0 a4 a6 a7 a15 a16 a17 a21 a22 a24 a25 a26 a27 a28 a29 a30 f0 f1 f2 f3 f5 f8 f9 f10 f11 f12 f13 f14 f18 f19 f20 f23 f31 g4 g6 g7 g15 g16 g17 g21 g22 g24 g25 g26 g27 g28 g29 g30 fro n p0
  refine wk_X7_codeAt l G m0 a4 a6 a7 a15 a16 a17 a21 a22 a24 a25 a26 a27 a28 a29 a30 f0 f1 f2 f3 f5 f8 f9 f10 f11 f12 f13 f14 f18 f19 f20 f23 f31 g4 g6 g7 g15 g16 g17 g21 g22 g24 g25 g26 g27 g28 g29 g30 fro n (q_code f10 fro n g29) ?_
  have := p0
  unfold okC at this
  grind (splits := 40) [q_code]

theorem ok_X7_readsPlace (l : Launch) (G : GT) (h_X7_codeAt : K_X7_codeAt l G) (h_X7_figure : K_X7_figure l G) : K_X7_readsPlace l G := by
  intro m0 a4 a6 a7 a15 a16 a17 a21 a22 a24 a25 a26 a27 a28 a29 a30 f0 f1 f2 f3 f5 f8 f9 f10 f11 f12 f13 f14 f18 f19 f20 f23 f31 g4 g6 g7 g15 g16 g17 g21 g22 g24 g25 g26 g27 g28 g29 g30 fro n ce p0 p1 p2 p3
  refine wk_X7_readsPlace l G m0 a4 a6 a7 a15 a16 a17 a21 a22 a24 a25 a26 a27 a28 a29 a30 f0 f1 f2 f3 f5 f8 f9 f10 f11 f12 f13 f14 f18 f19 f20 f23 f31 g4 g6 g7 g15 g16 g17 g21 g22 g24 g25 g26 g27 g28 g29 g30 fro n ce (q_plR f10 fro n g29 f12 ce) (q_plP f10 fro n g29 f12 ce) (q_plS f10 fro n g29 f12 ce g15) h_X7_codeAt h_X7_figure ?_
  grind (splits := 40) [q_plR, q_plP, q_plS, q_due, q_semi, upd]

theorem ok_X7_readsSkater (l : Launch) (G : GT) (h_X7_codeAt : K_X7_codeAt l G) (h_X7_figure : K_X7_figure l G) : K_X7_readsSkater l G := by
  intro m0 a4 a6 a7 a15 a16 a17 a21 a22 a24 a25 a26 a27 a28 a29 a30 f0 f1 f2 f3 f5 f8 f9 f10 f11 f12 f13 f14 f18 f19 f20 f23 f31 g4 g6 g7 g15 g16 g17 g21 g22 g24 g25 g26 g27 g28 g29 g30 fro n p0 p1 p2 p3
  refine wk_X7_readsSkater l G m0 a4 a6 a7 a15 a16 a17 a21 a22 a24 a25 a26 a27 a28 a29 a30 f0 f1 f2 f3 f5 f8 f9 f10 f11 f12 f13 f14 f18 f19 f20 f23 f31 g4 g6 g7 g15 g16 g17 g21 g22 g24 g25 g26 g27 g28 g29 g30 fro n (q_skR f10 fro n g29 f14) (q_skP f10 fro n g29 f14) (q_skN f10 fro n g29 f14) (q_skK f10 fro n g29 f14 g16) (q_skV f10 fro n g29 f14 g17) h_X7_codeAt h_X7_figure ?_
  have hk := okN4 p3
  have hf : ∀ x : Int32, (0 ≤ x) = ¬ x < 0 := fun x => by grind
  simp only [hf, q_skR, q_skP, q_skN, q_skK, q_skV, q_skW, q_kindOf]
  by_cases h1 : f14 = 4 <;> by_cases h2 : q_code f10 fro n g29 = 44 <;> by_cases h3 : q_code (f10 + 1) fro n g29 = 115 <;> by_cases h4 : q_code (f10 + 1) fro n g29 = 107 <;> by_cases h5 : q_code (f10 + 1) fro n g29 = 98 <;> by_cases h6 : q_figR (f10 + 1 + 1) fro n g29 1 9 < 0 <;> simp_all [-Int32.not_lt]

theorem ok_X7_cellsBarred (l : Launch) (G : GT) (h_X7_failed : K_X7_failed l G) (h_X7_isBeyond : K_X7_isBeyond l G) : K_X7_cellsBarred l G := by
  intro m0 a4 a6 a7 a15 a16 a17 a21 a22 a24 a25 a26 a27 a28 a29 a30 f0 f1 f2 f3 f5 f8 f9 f10 f11 f12 f13 f14 f18 f19 f20 f23 f31 g4 g6 g7 g15 g16 g17 g21 g22 g24 g25 g26 g27 g28 g29 g30 k lane i n p0
  refine wk_X7_cellsBarred l G m0 a4 a6 a7 a15 a16 a17 a21 a22 a24 a25 a26 a27 a28 a29 a30 f0 f1 f2 f3 f5 f8 f9 f10 f11 f12 f13 f14 f18 f19 f20 f23 f31 g4 g6 g7 g15 g16 g17 g21 g22 g24 g25 g26 g27 g28 g29 g30 k lane i n (q_bRes (q_barred g27 g28 k lane i n)) (q_bFault (q_barred g27 g28 k lane i n) f0) h_X7_failed h_X7_isBeyond ?_
  simp only [lgge]
  have h0 : ∀ x : Int64, (x < 0) = ¬ 0 ≤ x := fun x => by grind
  grind (splits := 40) [q_barred, q_bRes, q_bFault, q_beyond]

theorem ok_X7_beside (l : Launch) (G : GT) (h_X7_in : K_X7_in l G) : K_X7_beside l G := by
  intro m0 a4 a6 a7 a15 a16 a17 a21 a22 a24 a25 a26 a27 a28 a29 a30 f0 f1 f2 f3 f5 f8 f9 f10 f11 f12 f13 f14 f18 f19 f20 f23 f31 g4 g6 g7 g15 g16 g17 g21 g22 g24 g25 g26 g27 g28 g29 g30 ce st p0
  refine wk_X7_beside l G m0 a4 a6 a7 a15 a16 a17 a21 a22 a24 a25 a26 a27 a28 a29 a30 f0 f1 f2 f3 f5 f8 f9 f10 f11 f12 f13 f14 f18 f19 f20 f23 f31 g4 g6 g7 g15 g16 g17 g21 g22 g24 g25 g26 g27 g28 g29 g30 ce st (q_beside f1 f2 ce st) h_X7_in ?_
  simp only [q_inM]
  grind (splits := 40) [q_beside, q_row, q_col]

theorem ok_X7_reading (l : Launch) (G : GT) (h_X7_noPlace : K_X7_noPlace l G) (h_X7_noSkater : K_X7_noSkater l G) : K_X7_reading l G := by
  intro m0 a4 a6 a7 a15 a16 a17 a21 a22 a24 a25 a26 a27 a28 a29 a30 f0 f1 f2 f3 f5 f8 f9 f10 f11 f12 f13 f14 f18 f19 f20 f23 f31 g4 g6 g7 g15 g16 g17 g21 g22 g24 g25 g26 g27 g28 g29 g30 a ce bore p0
  refine wk_X7_reading l G m0 a4 a6 a7 a15 a16 a17 a21 a22 a24 a25 a26 a27 a28 a29 a30 f0 f1 f2 f3 f5 f8 f9 f10 f11 f12 f13 f14 f18 f19 f20 f23 f31 g4 g6 g7 g15 g16 g17 g21 g22 g24 g25 g26 g27 g28 g29 g30 a ce bore (m_rdR f1 f2 f5 f23 a ce) (if m_rdOk f1 f2 f5 f23 a ce then f23 + 1 else f23) (if m_rdOk f1 f2 f5 f23 a ce then upd g25 f23.toNatClampNeg ce else g25) (if m_rdOk f1 f2 f5 f23 a ce then upd g26 f23.toNatClampNeg (vp_nar .boolean bore) else g26) (if m_rdOk f1 f2 f5 f23 a ce then upd g24 f23.toNatClampNeg a else g24) h_X7_noPlace h_X7_noSkater ?_
  have h := okR8 p0
  have e := add1sub1 f23
  grind (splits := 40) [m_rdR]

theorem ok_X7_put (l : Launch) (G : GT) (h_X7_failed : K_X7_failed l G) (h_X7_noCell : K_X7_noCell l G) (h_X7_noSheet : K_X7_noSheet l G) (h_X7_refused : K_X7_refused l G) : K_X7_put l G := by
  intro m0 a4 a6 a7 a15 a16 a17 a21 a22 a24 a25 a26 a27 a28 a29 a30 f0 f1 f2 f3 f5 f8 f9 f10 f11 f12 f13 f14 f18 f19 f20 f23 f31 g4 g6 g7 g15 g16 g17 g21 g22 g24 g25 g26 g27 g28 g29 g30 k ii v p0
  refine wk_X7_put l G m0 a4 a6 a7 a15 a16 a17 a21 a22 a24 a25 a26 a27 a28 a29 a30 f0 f1 f2 f3 f5 f8 f9 f10 f11 f12 f13 f14 f18 f19 f20 f23 f31 g4 g6 g7 g15 g16 g17 g21 g22 g24 g25 g26 g27 g28 g29 g30 k ii v (m_putR g27 k ii) (m_putF g27 k ii) (m_putS g27 g28 g29 k ii v) h_X7_failed h_X7_noCell h_X7_noSheet h_X7_refused ?_
  have hv := fun h0 => vpCellOf (k := k) (ii := ii) p0 h0
  have hz := noCellZ g27 k ii
  have hk := @vpK k
  grind (splits := 40) [m_putR, m_putF, m_putS, s_cut]

theorem ok_X7_cell (l : Launch) (G : GT) (h_X7_failedLong : K_X7_failedLong l G) (h_X7_in : K_X7_in l G) (h_X7_lost : K_X7_lost l G) (h_X7_noCell : K_X7_noCell l G) (h_X7_noSheet : K_X7_noSheet l G) : K_X7_cell l G := by
  intro m0 a4 a6 a7 a15 a16 a17 a21 a22 a24 a25 a26 a27 a28 a29 a30 f0 f1 f2 f3 f5 f8 f9 f10 f11 f12 f13 f14 f18 f19 f20 f23 f31 g4 g6 g7 g15 g16 g17 g21 g22 g24 g25 g26 g27 g28 g29 g30 k ii lane p0
  refine wk_X7_cell l G m0 a4 a6 a7 a15 a16 a17 a21 a22 a24 a25 a26 a27 a28 a29 a30 f0 f1 f2 f3 f5 f8 f9 f10 f11 f12 f13 f14 f18 f19 f20 f23 f31 g4 g6 g7 g15 g16 g17 g21 g22 g24 g25 g26 g27 g28 g29 g30 k ii lane (m_cellR g27 g28 g29 k ii lane) (m_cellF g27 g28 k ii lane) h_X7_failedLong h_X7_in h_X7_lost h_X7_noCell h_X7_noSheet ?_
  have hv := fun h0 => vpCellOf (k := k) (ii := ii) p0 h0
  have hz := noCellZ g27 k ii
  have hk := @vpK k
  simp only [q_in02]
  grind (splits := 40) [m_cellR, m_cellF, q_noCell]

theorem ok_X6_takeText (l : Launch) (G : GT) (h_X0_take : K_X0_take l G) (h_X2_take : K_X2_take l G) (h_X4_has : K_X4_has l G) (h_X5_begin : K_X5_begin l G) (h_X5_end : K_X5_end l G) (h_X6_changeToDraft : K_X6_changeToDraft l G) (h_X6_refusalOfLane : K_X6_refusalOfLane l G) (h_X6_sheetAt : K_X6_sheetAt l G) : K_X6_takeText l G := by
  intro b0 bs s0 s1 x0 x1 j0 j1 e0 e1 e2 r0 d0 i0 c0 r1 r2 r3 lf tr sla sle xl xp xw jhi jwi jfr jfc jlc ecnt rc sn xc jstr ek ewt sh sheet lane i n p0 p1 p2
  refine wk_X6_takeText l G b0 bs s0 s1 x0 x1 j0 j1 e0 e1 e2 r0 d0 i0 c0 r1 r2 r3 lf tr sla sle xl xp xw jhi jwi jfr jfc jlc ecnt rc sn xc jstr ek ewt sh sheet lane i n (x_ttR sla sle lane i n sn xc jstr ek ewt) (if x_ttOk sla sle lane i n sn xc jstr ek ewt then j0 else i0) (if x_ttOk sla sle lane i n sn xc jstr ek ewt then e0 else c0) (if x_ttOk sla sle lane i n sn xc jstr ek ewt then i0 else j0) (if x_ttOk sla sle lane i n sn xc jstr ek ewt then c0 else e0) (if x_ttGo sla sle lane i n then (x_ttCrew sn xc i n jstr ek ewt).2.2.1 else ewt) (if x_ttOk sla sle lane i n sn xc jstr ek ewt then 0 else rc) (if x_ttGo sla sle lane i n then itHi n (s_cpT sn xc i n) (0, 0) else jhi) (if x_ttGo sla sle lane i n then itWi n (s_cpT sn xc i n) (0, 0) else jwi) (if x_ttGo sla sle lane i n then itFr n (s_cpT sn xc i n) (0, 0) else jfr) (if x_ttGo sla sle lane i n then (x_ttIce sn xc i n jstr).2.2 else jfc) (if x_ttGo sla sle lane i n then (x_ttIce sn xc i n jstr).2.2 <<< ((itWi n (s_cpT sn xc i n) (0, 0) - 1) &&& 31) else jlc) (if x_ttGo sla sle lane i n then (x_ttIce sn xc i n jstr).2.1 else jstr) (if x_ttGo sla sle lane i n then (x_ttCrew sn xc i n jstr ek ewt).2.2.2 else ecnt) (if x_ttGo sla sle lane i n then (x_ttCrew sn xc i n jstr ek ewt).2.1 else ek) h_X0_take h_X2_take h_X4_has h_X5_begin h_X5_end h_X6_changeToDraft h_X6_refusalOfLane h_X6_sheetAt ?_
  have hr := shasR (i := i) (n := n) p2
  have h0 : ¬ n < 0 → n.toNatClampNeg ≤ 60 → okT n 0 := okT.new
  have h1 : okT n 0 → okT n (itRow n (s_cpT sn xc i n) (0, 0) jstr).1.1 := fun h => okT.itRow h
  have e : x_ttCrew sn xc i n jstr ek ewt = crwAll n (s_cpT sn xc i n) ((itRow n (s_cpT sn xc i n) (0, 0) jstr).1.1, (itRow n (s_cpT sn xc i n) (0, 0) jstr).1.2) ek ewt := rfl
  grind (splits := 60) [x_ttR, x_ttIce, x_ttEnd, okRun]

theorem ok_X6_isBond (l : Launch) (G : GT) (h_X0_load : K_X0_load l G) (h_X2_bearing : K_X2_bearing l G) (h_X2_shortest : K_X2_shortest l G) : K_X6_isBond l G := by
  intro b0 c0 c1 c2 i0 i1 bs x0 d0 r0 j0 e0 lf tr cnt hi wi fr fc lc ck cwt str a b fro to broken p0 p1 p2
  refine wk_X6_isBond l G b0 c0 c1 c2 i0 i1 bs x0 d0 r0 j0 e0 lf tr cnt hi wi fr fc lc ck cwt str a b fro to broken (x_isBd hi wi fc lc str ck cwt a b fro to broken) h_X0_load h_X2_bearing h_X2_shortest ?_
  grind (splits := 40) [x_isBd, x_brg]

theorem ok_X6_putNumber (l : Launch) (G : GT) (h_X4_has : K_X4_has l G) (h_X4_isNothing : K_X4_isNothing l G) (h_X4_set : K_X4_set l G) (h_X6_sheetAt : K_X6_sheetAt l G) : K_X6_putNumber l G := by
  intro b0 bs s0 s1 x0 d0 r0 i0 c0 j0 e0 lf tr sla sle sn sh k ii v p0 p1 p2
  refine wk_X6_putNumber l G b0 bs s0 s1 x0 d0 r0 i0 c0 j0 e0 lf tr sla sle sn sh k ii v (x_pnR sla sle ii) (if x_pnOk sla sle ii then upd sn ii.toNatClampNeg (s_cut sla v) else sn) h_X4_has h_X4_isNothing h_X4_set h_X6_sheetAt ?_
  have hr := shasV (ii := ii) p2
  grind (splits := 40) [x_pnR]

theorem ok_X6_copyNumbers (l : Launch) (G : GT) (h_X4_has : K_X4_has l G) (h_X4_isNothing : K_X4_isNothing l G) (h_X6_sheetAt : K_X6_sheetAt l G) : K_X6_copyNumbers l G := by
  intro b0 bs s0 s1 u0 u1 x0 d0 r0 i0 c0 j0 e0 lf tr sla sle ula ule sn un sh k i other j n p0 p1 p2 p3 p4 p5
  refine wk_X6_copyNumbers l G b0 bs s0 s1 u0 u1 x0 d0 r0 i0 c0 j0 e0 lf tr sla sle ula ule sn un sh k i other j n (x_cpR sla sle ula ule i j n) (x_cpS sla sle ula ule sn un i j n) h_X4_has h_X4_isNothing h_X6_sheetAt ?_
  have hr := shasR (i := i) (n := n) p4
  have hs := shasR (i := j) (n := n) p5
  grind (splits := 40) [x_cpR, x_cpS]

theorem ok_X6_copyNumbers_s (l : Launch) (G : GT) (h_X4_has : K_X4_has l G) (h_X4_isNothing : K_X4_isNothing l G) (h_X6_sheetAt : K_X6_sheetAt l G) : K_X6_copyNumbers_s l G := by
  intro b0 bs s0 s1 x0 d0 r0 i0 c0 j0 e0 lf tr sla sle sn sh k i other j n p0 p1 p2 p3 p4
  refine wk_X6_copyNumbers_s l G b0 bs s0 s1 x0 d0 r0 i0 c0 j0 e0 lf tr sla sle sn sh k i other j n (x_cpR sla sle sla sle i j n) (x_cpS sla sle sla sle sn sn i j n) h_X4_has h_X4_isNothing h_X6_sheetAt ?_
  have hr := shasR (i := i) (n := n) p4
  have hs := shasR (i := j) (n := n) p4
  grind (splits := 40) [x_cpR, x_cpS]

theorem ok_X6_bond (l : Launch) (G : GT) (h_X0_load : K_X0_load l G) (h_X2_bearing : K_X2_bearing l G) (h_X2_shortest : K_X2_shortest l G) (h_X2_strokeOfBond : K_X2_strokeOfBond l G) (h_X6_isBondKnown : K_X6_isBondKnown l G) (h_X6_isWithin : K_X6_isWithin l G) : K_X6_bond l G := by
  intro b0 c0 c1 c2 i0 i1 bs x0 d0 r0 j0 e0 lf tr cnt hi wi fr fc lc ck cwt str a b fro to k p0 p1
  refine wk_X6_bond l G b0 c0 c1 c2 i0 i1 bs x0 d0 r0 j0 e0 lf tr cnt hi wi fr fc lc ck cwt str a b fro to k (x_bondR hi wi fc lc cnt str ck cwt a b fro to k) h_X0_load h_X2_bearing h_X2_shortest h_X2_strokeOfBond h_X6_isBondKnown h_X6_isWithin ?_
  have hp := @vpPair cnt a b p1
  have hk : ¬ s_in k (-1) 39 = 0 → ¬ k = -1 → vp_in k 40 := fun h1 h2 => vp40 (by grind [s_in]) (by grind [s_in])
  grind (splits := 40) [x_bondR, x_bKn, x_brg]

theorem ok_X6_alone (l : Launch) (G : GT) (h_X0_has : K_X0_has l G) (h_X0_load : K_X0_load l G) (h_X2_bearing : K_X2_bearing l G) (h_X2_has : K_X2_has l G) (h_X2_reach : K_X2_reach l G) : K_X6_alone l G := by
  intro b0 c0 c1 c2 i0 i1 bs x0 d0 r0 j0 e0 lf tr cnt hi wi fr fc lc ck cwt str a fro p0 p1
  refine wk_X6_alone l G b0 c0 c1 c2 i0 i1 bs x0 d0 r0 j0 e0 lf tr cnt hi wi fr fc lc ck cwt str a fro (x_aloneR hi wi fc lc cnt str ck cwt a fro) h_X0_has h_X0_load h_X2_bearing h_X2_has h_X2_reach ?_
  have hp := @vpS cnt a p1
  grind (splits := 40) [x_aloneR, x_brg]

theorem ok_X6_reading (l : Launch) (G : GT) (h_X0_has : K_X0_has l G) (h_X2_has : K_X2_has l G) (h_X3_add : K_X3_add l G) : K_X6_reading l G := by
  intro b0 c0 i0 r0 r1 r2 r3 bs x0 d0 j0 e0 c1 c2 i1 lf tr cnt hi wi fr fc lc rc rs rl rb a ce bore p0
  refine wk_X6_reading l G b0 c0 i0 r0 r1 r2 r3 bs x0 d0 j0 e0 c1 c2 i1 lf tr cnt hi wi fr fc lc rc rs rl rb a ce bore (x_rdR hi wi cnt rc a ce) (if x_rdOk hi wi cnt a ce then s_addC rc else rc) (if x_rdOk hi wi cnt a ce then s_addF rc rs a else rs) (if x_rdOk hi wi cnt a ce then s_addF rc rl ce else rl) (if x_rdOk hi wi cnt a ce then s_addF rc rb (vp_nar .boolean bore) else rb) h_X0_has h_X2_has h_X3_add ?_
  have h := okR8 p0
  grind (splits := 40) [x_rdR]

theorem ok_X6_cell (l : Launch) (G : GT) (h_X6_keepFault : K_X6_keepFault l G) (h_X6_refusalOfPart : K_X6_refusalOfPart l G) (h_X6_sheetAt : K_X6_sheetAt l G) : K_X6_cell l G := by
  intro b0 bs s0 s1 x0 d0 r0 i0 c0 j0 e0 lf tr sla sle sn sh k ii lane p0 p1 p2
  refine wk_X6_cell l G b0 bs s0 s1 x0 d0 r0 i0 c0 j0 e0 lf tr sla sle sn sh k ii lane (x_cellR sla sle sn lane ii) (x_kf (x_rp sla sle lane ii 1)) h_X6_keepFault h_X6_refusalOfPart h_X6_sheetAt ?_
  have hr := shasV (ii := ii) p2
  grind (splits := 40) [x_cellR, x_rp]

