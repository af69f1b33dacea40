theorem ok_X6_isWithin (l : Launch) (G : GT) : K_X6_isWithin l G := by
  intro v a b
  refine wk_X6_isWithin l G v a b (s_in v a b) ?_
  first | grind [s_in] | grind [s_in, vpS, vpC, vpPair] | grind [s_in, vpS, vpC, vpPair]

theorem ok_X6_isIn (l : Launch) (G : GT) : K_X6_isIn l G := by
  intro set k
  refine wk_X6_isIn l G set k (s_isIn set k) ?_
  first | grind [s_isIn] | grind [s_isIn, vpS, vpC, vpPair] | grind [s_isIn, vpS, vpC, vpPair]

theorem ok_X0_load (l : Launch) (G : GT) : K_X0_load l G := by
  intro c0 c1 c2 cnt a ck cwt p0
  refine wk_X0_load l G c0 c1 c2 cnt a ck cwt (s_load ck cwt a) ?_
  first | grind [s_load] | grind [s_load, vpS, vpC, vpPair] | grind [s_load, vpS, vpC, vpPair]

theorem ok_X2_cells (l : Launch) (G : GT) : K_X2_cells l G := by
  intro i0 i1 hi wi fr fc lc
  refine wk_X2_cells l G i0 i1 hi wi fr fc lc (hi * wi) ?_
  first | grind [vp4] | grind [vpS, vpC, vpPair] | grind [vpS, vpC, vpPair]

theorem ok_X2_all (l : Launch) (G : GT) (h_X2_cells : K_X2_cells l G) : K_X2_all l G := by
  intro i0 i1 hi wi fr fc lc
  refine wk_X2_all l G i0 i1 hi wi fr fc lc (s_all hi wi) h_X2_cells ?_
  first | grind [s_all] | grind [s_all, vpS, vpC, vpPair] | grind [s_all, vpS, vpC, vpPair]

theorem ok_X2_led (l : Launch) (G : GT) (h_X2_cells : K_X2_cells l G) (h_X6_isIn : K_X6_isIn l G) : K_X2_led l G := by
  intro i0 i1 hi wi fr fc lc ce stroke
  refine wk_X2_led l G i0 i1 hi wi fr fc lc ce stroke (s_led hi wi fc lc ce stroke) h_X2_cells h_X6_isIn ?_
  first | grind [s_led] | grind [s_led, vpS, vpC, vpPair] | grind [s_led, vpS, vpC, vpPair]

theorem ok_X2_nextTo (l : Launch) (G : GT) (h_X2_all : K_X2_all l G) : K_X2_nextTo l G := by
  intro i0 i1 hi wi fr fc lc set
  refine wk_X2_nextTo l G i0 i1 hi wi fr fc lc set (s_next hi wi fc lc set) h_X2_all ?_
  first | grind [s_next] | grind [s_next, vpS, vpC, vpPair] | grind [s_next, vpS, vpC, vpPair]

theorem ok_X3_add (l : Launch) (G : GT) : K_X3_add l G := by
  intro r0 r1 r2 r3 rc a ce bore rs rl rb p0
  refine wk_X3_add l G r0 r1 r2 r3 rc a ce bore rs rl rb (s_addR rc) (s_addC rc) (s_addF rc rs a) (s_addF rc rl ce) (s_addF rc rb (vp_nar .boolean bore)) ?_
  first | grind [s_addR, s_addC, s_addF] | grind [s_addR, s_addC, s_addF, vpS, vpC, vpPair] | grind [s_addR, s_addC, s_addF, vpS, vpC, vpPair]

theorem ok_X4_begin (l : Launch) (G : GT) (h_J7_fill_53178 : K_J7_fill_53178 l G) : K_X4_begin l G := by
  intro s0 s1 sla sle nl ne sn
  refine wk_X4_begin l G s0 s1 sla sle nl ne sn nl ne (s_fill 0 sn) h_J7_fill_53178 ?_
  first | grind [s_fill] | grind [s_fill, vpS, vpC, vpPair] | grind [s_fill, vpS, vpC, vpPair]

theorem ok_X4_clear (l : Launch) (G : GT) : K_X4_clear l G := by
  intro s0 s1 sla sle
  refine wk_X4_clear l G s0 s1 sla sle (-1) 0 ?_
  first | grind [vp4] | grind [vpS, vpC, vpPair] | grind [vpS, vpC, vpPair]

theorem ok_X4_isNothing (l : Launch) (G : GT) : K_X4_isNothing l G := by
  intro s0 s1 sla sle
  refine wk_X4_isNothing l G s0 s1 sla sle (s_nothing sla) ?_
  first | grind [s_nothing] | grind [s_nothing, vpS, vpC, vpPair] | grind [s_nothing, vpS, vpC, vpPair]

theorem ok_X4_set (l : Launch) (G : GT) : K_X4_set l G := by
  intro s0 s1 sla sle i v sn p0
  refine wk_X4_set l G s0 s1 sla sle i v sn (upd sn i.toNatClampNeg (s_cut sla v)) ?_
  first | grind [s_cut] | grind [s_cut, vpS, vpC, vpPair] | grind [s_cut, vpS, vpC, vpPair]

theorem ok_X5_goesOn (l : Launch) (G : GT) : K_X5_goesOn l G := by
  intro x0 x1 xl xp xw
  refine wk_X5_goesOn l G x0 x1 xl xp xw (s_goesOn xl xp xw) ?_
  first | grind [s_goesOn] | grind [s_goesOn, vpS, vpC, vpPair] | grind [s_goesOn, vpS, vpC, vpPair]

theorem ok_X5_digit (l : Launch) (G : GT) (h_X5_take : K_X5_take l G) : K_X5_digit l G := by
  intro x0 x1 xl xp xw least most xc p0
  refine wk_X5_digit l G x0 x1 xl xp xw least most xc (least + s_takeR xl xp xw xc (48 + least) (48 + most)) (s_takeP xl xp xw xc (48 + least) (48 + most)) (s_takeW xl xp xw xc (48 + least) (48 + most)) h_X5_take ?_
  first | grind [s_takeR, s_takeP, s_takeW] | grind [s_takeR, s_takeP, s_takeW, vpS, vpC, vpPair] | grind [s_takeR, s_takeP, s_takeW, vpS, vpC, vpPair]

theorem ok_X5_sign (l : Launch) (G : GT) (h_X5_take : K_X5_take l G) : K_X5_sign l G := by
  intro x0 x1 xl xp xw code xc p0
  refine wk_X5_sign l G x0 x1 xl xp xw code xc (s_takeP xl xp xw xc code code) (s_takeW xl xp xw xc code code) h_X5_take ?_
  first | grind [s_takeP, s_takeW] | grind [s_takeP, s_takeW, vpS, vpC, vpPair] | grind [s_takeP, s_takeW, vpS, vpC, vpPair]

theorem ok_X5_end (l : Launch) (G : GT) : K_X5_end l G := by
  intro x0 x1 xl xp xw
  refine wk_X5_end l G x0 x1 xl xp xw (s_endW xl xp xw) ?_
  first | grind [s_endW] | grind [s_endW, vpS, vpC, vpPair] | grind [s_endW, vpS, vpC, vpPair]

theorem ok_X7_lost (l : Launch) (G : GT) : K_X7_lost l G := by
  refine wk_X7_lost l G  (-9223372036854775808 : Int64) ?_
  first | grind [vp4] | grind [vpQ, vpP, vpK, vpTwo, q_in02, q_in03, q_in04, q_in09, q_in01, q_in040, q_inm39, q_inV, q_in0V, q_inM] | grind [vpQ, vpP, vpK, vpTwo, q_in02, q_in03, q_in04, q_in09, q_in01, q_in040, q_inm39, q_inV, q_in0V, q_inM]

theorem ok_X7_isIn (l : Launch) (G : GT) : K_X7_isIn l G := by
  intro set k
  refine wk_X7_isIn l G set k (s_isIn set k) ?_
  first | grind [s_isIn] | grind [s_isIn, vpQ, vpP, vpK, vpTwo, q_in02, q_in03, q_in04, q_in09, q_in01, q_in040, q_inm39, q_inV, q_in0V, q_inM] | grind [s_isIn, vpQ, vpP, vpK, vpTwo, q_in02, q_in03, q_in04, q_in09, q_in01, q_in040, q_inm39, q_inV, q_in0V, q_inM]

theorem ok_X7_noSheet (l : Launch) (G : GT) (h_X7_in : K_X7_in l G) : K_X7_noSheet l G := by
  intro k
  refine wk_X7_noSheet l G k (q_noSheet k) h_X7_in ?_
  first | grind [q_noSheet] | grind [q_noSheet, vpQ, vpP, vpK, vpTwo, q_in02, q_in03, q_in04, q_in09, q_in01, q_in040, q_inm39, q_inV, q_in0V, q_inM] | grind [q_noSheet, q_in, vpQ, vpP, vpK, vpTwo, q_in02, q_in03, q_in04, q_in09, q_in01, q_in040, q_inm39, q_inV, q_in0V, q_inM]

theorem ok_X7_refused (l : Launch) (G : GT) : K_X7_refused l G := by
  intro m0 a4 a6 a7 a15 a16 a17 a21 a22 a24 a25 a26 a27 a28 a29 a30 f0 f1 f2 f3 f5 f8 f9 f10 f11 f12 f13 f14 f18 f19 f20 f23 f31 g4 g6 g7 g15 g16 g17 g21 g22 g24 g25 g26 g27 g28 g29 g30 code
  refine wk_X7_refused l G m0 a4 a6 a7 a15 a16 a17 a21 a22 a24 a25 a26 a27 a28 a29 a30 f0 f1 f2 f3 f5 f8 f9 f10 f11 f12 f13 f14 f18 f19 f20 f23 f31 g4 g6 g7 g15 g16 g17 g21 g22 g24 g25 g26 g27 g28 g29 g30 code code 0 ?_
  first | grind [vp4] | grind [vpQ, vpP, vpK, vpTwo, q_in02, q_in03, q_in04, q_in09, q_in01, q_in040, q_inm39, q_inV, q_in0V, q_inM] | grind [vpQ, vpP, vpK, vpTwo, q_in02, q_in03, q_in04, q_in09, q_in01, q_in040, q_inm39, q_inV, q_in0V, q_inM]

theorem ok_X7_failed (l : Launch) (G : GT) : K_X7_failed l G := by
  intro m0 a4 a6 a7 a15 a16 a17 a21 a22 a24 a25 a26 a27 a28 a29 a30 f0 f1 f2 f3 f5 f8 f9 f10 f11 f12 f13 f14 f18 f19 f20 f23 f31 g4 g6 g7 g15 g16 g17 g21 g22 g24 g25 g26 g27 g28 g29 g30 f
  refine wk_X7_failed l G m0 a4 a6 a7 a15 a16 a17 a21 a22 a24 a25 a26 a27 a28 a29 a30 f0 f1 f2 f3 f5 f8 f9 f10 f11 f12 f13 f14 f18 f19 f20 f23 f31 g4 g6 g7 g15 g16 g17 g21 g22 g24 g25 g26 g27 g28 g29 g30 f ((-10) - f) f ?_
  first | grind [vp4] | grind [vpQ, vpP, vpK, vpTwo, q_in02, q_in03, q_in04, q_in09, q_in01, q_in040, q_inm39, q_inV, q_in0V, q_inM] | grind [vpQ, vpP, vpK, vpTwo, q_in02, q_in03, q_in04, q_in09, q_in01, q_in040, q_inm39, q_inV, q_in0V, q_inM]

theorem ok_X7_failedLong (l : Launch) (G : GT) (h_X7_lost : K_X7_lost l G) : K_X7_failedLong l G := by
  intro m0 a4 a6 a7 a15 a16 a17 a21 a22 a24 a25 a26 a27 a28 a29 a30 f0 f1 f2 f3 f5 f8 f9 f10 f11 f12 f13 f14 f18 f19 f20 f23 f31 g4 g6 g7 g15 g16 g17 g21 g22 g24 g25 g26 g27 g28 g29 g30 f
  refine wk_X7_failedLong l G m0 a4 a6 a7 a15 a16 a17 a21 a22 a24 a25 a26 a27 a28 a29 a30 f0 f1 f2 f3 f5 f8 f9 f10 f11 f12 f13 f14 f18 f19 f20 f23 f31 g4 g6 g7 g15 g16 g17 g21 g22 g24 g25 g26 g27 g28 g29 g30 f (-9223372036854775808 : Int64) f h_X7_lost ?_
  first | grind [vp4] | grind [vpQ, vpP, vpK, vpTwo, q_in02, q_in03, q_in04, q_in09, q_in01, q_in040, q_inm39, q_inV, q_in0V, q_inM] | grind [vpQ, vpP, vpK, vpTwo, q_in02, q_in03, q_in04, q_in09, q_in01, q_in040, q_inm39, q_inV, q_in0V, q_inM]

theorem ok_X7_cells (l : Launch) (G : GT) : K_X7_cells l G := by
  intro m0 a4 a6 a7 a15 a16 a17 a21 a22 a24 a25 a26 a27 a28 a29 a30 f0 f1 f2 f3 f5 f8 f9 f10 f11 f12 f13 f14 f18 f19 f20 f23 f31 g4 g6 g7 g15 g16 g17 g21 g22 g24 g25 g26 g27 g28 g29 g30
  refine wk_X7_cells l G m0 a4 a6 a7 a15 a16 a17 a21 a22 a24 a25 a26 a27 a28 a29 a30 f0 f1 f2 f3 f5 f8 f9 f10 f11 f12 f13 f14 f18 f19 f20 f23 f31 g4 g6 g7 g15 g16 g17 g21 g22 g24 g25 g26 g27 g28 g29 g30 (f1 * f2) ?_
  first | grind [vp4] | grind [vpQ, vpP, vpK, vpTwo, q_in02, q_in03, q_in04, q_in09, q_in01, q_in040, q_inm39, q_inV, q_in0V, q_inM] | grind [vpQ, vpP, vpK, vpTwo, q_in02, q_in03, q_in04, q_in09, q_in01, q_in040, q_inm39, q_inV, q_in0V, q_inM]

theorem ok_X7_noPlace (l : Launch) (G : GT) (h_X7_cells : K_X7_cells l G) (h_X7_in : K_X7_in l G) : K_X7_noPlace l G := by
  intro m0 a4 a6 a7 a15 a16 a17 a21 a22 a24 a25 a26 a27 a28 a29 a30 f0 f1 f2 f3 f5 f8 f9 f10 f11 f12 f13 f14 f18 f19 f20 f23 f31 g4 g6 g7 g15 g16 g17 g21 g22 g24 g25 g26 g27 g28 g29 g30 ce
  refine wk_X7_noPlace l G m0 a4 a6 a7 a15 a16 a17 a21 a22 a24 a25 a26 a27 a28 a29 a30 f0 f1 f2 f3 f5 f8 f9 f10 f11 f12 f13 f14 f18 f19 f20 f23 f31 g4 g6 g7 g15 g16 g17 g21 g22 g24 g25 g26 g27 g28 g29 g30 ce (q_noPlace f1 f2 ce) h_X7_cells h_X7_in ?_
  first | grind [q_noPlace] | grind [q_noPlace, vpQ, vpP, vpK, vpTwo, q_in02, q_in03, q_in04, q_in09, q_in01, q_in040, q_inm39, q_inV, q_in0V, q_inM] | grind [q_noPlace, q_in, vpQ, vpP, vpK, vpTwo, q_in02, q_in03, q_in04, q_in09, q_in01, q_in040, q_inm39, q_inV, q_in0V, q_inM]

theorem ok_X7_noSkater (l : Launch) (G : GT) (h_X7_in : K_X7_in l G) : K_X7_noSkater l G := by
  intro m0 a4 a6 a7 a15 a16 a17 a21 a22 a24 a25 a26 a27 a28 a29 a30 f0 f1 f2 f3 f5 f8 f9 f10 f11 f12 f13 f14 f18 f19 f20 f23 f31 g4 g6 g7 g15 g16 g17 g21 g22 g24 g25 g26 g27 g28 g29 g30 a
  refine wk_X7_noSkater l G m0 a4 a6 a7 a15 a16 a17 a21 a22 a24 a25 a26 a27 a28 a29 a30 f0 f1 f2 f3 f5 f8 f9 f10 f11 f12 f13 f14 f18 f19 f20 f23 f31 g4 g6 g7 g15 g16 g17 g21 g22 g24 g25 g26 g27 g28 g29 g30 a (q_noSk f5 a) h_X7_in ?_
  first | grind [q_noSk] | grind [q_noSk, vpQ, vpP, vpK, vpTwo, q_in02, q_in03, q_in04, q_in09, q_in01, q_in040, q_inm39, q_inV, q_in0V, q_inM] | grind [q_noSk, q_in, vpQ, vpP, vpK, vpTwo, q_in02, q_in03, q_in04, q_in09, q_in01, q_in040, q_inm39, q_inV, q_in0V, q_inM]

theorem ok_X7_noTwo (l : Launch) (G : GT) (h_X7_noSkater : K_X7_noSkater l G) : K_X7_noTwo l G := by
  intro m0 a4 a6 a7 a15 a16 a17 a21 a22 a24 a25 a26 a27 a28 a29 a30 f0 f1 f2 f3 f5 f8 f9 f10 f11 f12 f13 f14 f18 f19 f20 f23 f31 g4 g6 g7 g15 g16 g17 g21 g22 g24 g25 g26 g27 g28 g29 g30 a b
  refine wk_X7_noTwo l G m0 a4 a6 a7 a15 a16 a17 a21 a22 a24 a25 a26 a27 a28 a29 a30 f0 f1 f2 f3 f5 f8 f9 f10 f11 f12 f13 f14 f18 f19 f20 f23 f31 g4 g6 g7 g15 g16 g17 g21 g22 g24 g25 g26 g27 g28 g29 g30 a b (q_noTwo f5 a b) h_X7_noSkater ?_
  first | grind [q_noTwo] | grind [q_noTwo, vpQ, vpP, vpK, vpTwo, q_in02, q_in03, q_in04, q_in09, q_in01, q_in040, q_inm39, q_inV, q_in0V, q_inM] | grind [q_noTwo, vpQ, vpP, vpK, vpTwo, q_in02, q_in03, q_in04, q_in09, q_in01, q_in040, q_inm39, q_inV, q_in0V, q_inM]

theorem ok_X7_figure (l : Launch) (G : GT) (h_X7_codeAt : K_X7_codeAt l G) (h_X7_in : K_X7_in l G) : K_X7_figure l G := by
  intro m0 a4 a6 a7 a15 a16 a17 a21 a22 a24 a25 a26 a27 a28 a29 a30 f0 f1 f2 f3 f5 f8 f9 f10 f11 f12 f13 f14 f18 f19 f20 f23 f31 g4 g6 g7 g15 g16 g17 g21 g22 g24 g25 g26 g27 g28 g29 g30 fro n lo mo p0
  refine wk_X7_figure l G m0 a4 a6 a7 a15 a16 a17 a21 a22 a24 a25 a26 a27 a28 a29 a30 f0 f1 f2 f3 f5 f8 f9 f10 f11 f12 f13 f14 f18 f19 f20 f23 f31 g4 g6 g7 g15 g16 g17 g21 g22 g24 g25 g26 g27 g28 g29 g30 fro n lo mo (q_figR f10 fro n g29 lo mo) (q_figP f10 fro n g29 lo mo) h_X7_codeAt h_X7_in ?_
  first | grind [q_figR, q_figP] | grind [q_figR, q_figP, vpQ, vpP, vpK, vpTwo, q_in02, q_in03, q_in04, q_in09, q_in01, q_in040, q_inm39, q_inV, q_in0V, q_inM] | grind [q_figR, q_figP, q_in, q_code, vpQ, vpP, vpK, vpTwo, q_in02, q_in03, q_in04, q_in09, q_in01, q_in040, q_inm39, q_inV, q_in0V, q_inM]

theorem ok_X7_loadOf (l : Launch) (G : GT) : K_X7_loadOf l G := by
  intro m0 a4 a6 a7 a15 a16 a17 a21 a22 a24 a25 a26 a27 a28 a29 a30 f0 f1 f2 f3 f5 f8 f9 f10 f11 f12 f13 f14 f18 f19 f20 f23 f31 g4 g6 g7 g15 g16 g17 g21 g22 g24 g25 g26 g27 g28 g29 g30 a p0
  refine wk_X7_loadOf l G m0 a4 a6 a7 a15 a16 a17 a21 a22 a24 a25 a26 a27 a28 a29 a30 f0 f1 f2 f3 f5 f8 f9 f10 f11 f12 f13 f14 f18 f19 f20 f23 f31 g4 g6 g7 g15 g16 g17 g21 g22 g24 g25 g26 g27 g28 g29 g30 a (q_load g6 g7 a) ?_
  first | grind [q_load] | grind [q_load, vpQ, vpP, vpK, vpTwo, q_in02, q_in03, q_in04, q_in09, q_in01, q_in040, q_inm39, q_inV, q_in0V, q_inM] | grind [q_load, vpQ, vpP, vpK, vpTwo, q_in02, q_in03, q_in04, q_in09, q_in01, q_in040, q_inm39, q_inV, q_in0V, q_inM]

theorem ok_X7_bears (l : Launch) (G : GT) (h_X7_isIn : K_X7_isIn l G) (h_X7_loadOf : K_X7_loadOf l G) : K_X7_bears l G := by
  intro m0 a4 a6 a7 a15 a16 a17 a21 a22 a24 a25 a26 a27 a28 a29 a30 f0 f1 f2 f3 f5 f8 f9 f10 f11 f12 f13 f14 f18 f19 f20 f23 f31 g4 g6 g7 g15 g16 g17 g21 g22 g24 g25 g26 g27 g28 g29 g30 ce a p0 p1
  refine wk_X7_bears l G m0 a4 a6 a7 a15 a16 a17 a21 a22 a24 a25 a26 a27 a28 a29 a30 f0 f1 f2 f3 f5 f8 f9 f10 f11 f12 f13 f14 f18 f19 f20 f23 f31 g4 g6 g7 g15 g16 g17 g21 g22 g24 g25 g26 g27 g28 g29 g30 ce a (q_bears f8 f9 g4 g6 g7 ce a) h_X7_isIn h_X7_loadOf ?_
  first | grind [q_bears] | grind [q_bears, vpQ, vpP, vpK, vpTwo, q_in02, q_in03, q_in04, q_in09, q_in01, q_in040, q_inm39, q_inV, q_in0V, q_inM] | grind [q_bears, q_load, vpQ, vpP, vpK, vpTwo, q_in02, q_in03, q_in04, q_in09, q_in01, q_in040, q_inm39, q_inV, q_in0V, q_inM]

theorem ok_X7_noCell (l : Launch) (G : GT) (h_X7_in : K_X7_in l G) : K_X7_noCell l G := by
  intro m0 a4 a6 a7 a15 a16 a17 a21 a22 a24 a25 a26 a27 a28 a29 a30 f0 f1 f2 f3 f5 f8 f9 f10 f11 f12 f13 f14 f18 f19 f20 f23 f31 g4 g6 g7 g15 g16 g17 g21 g22 g24 g25 g26 g27 g28 g29 g30 k ii p0
  refine wk_X7_noCell l G m0 a4 a6 a7 a15 a16 a17 a21 a22 a24 a25 a26 a27 a28 a29 a30 f0 f1 f2 f3 f5 f8 f9 f10 f11 f12 f13 f14 f18 f19 f20 f23 f31 g4 g6 g7 g15 g16 g17 g21 g22 g24 g25 g26 g27 g28 g29 g30 k ii (q_noCell g27 k ii) h_X7_in ?_
  first | grind [q_noCell] | grind [q_noCell, vpQ, vpP, vpK, vpTwo, q_in02, q_in03, q_in04, q_in09, q_in01, q_in040, q_inm39, q_inV, q_in0V, q_inM] | grind [q_noCell, q_in, vpQ, vpP, vpK, vpTwo, q_in02, q_in03, q_in04, q_in09, q_in01, q_in040, q_inm39, q_inV, q_in0V, q_inM]

theorem ok_X7_traced (l : Launch) (G : GT) : K_X7_traced l G := by
  intro m0 a4 a6 a7 a15 a16 a17 a21 a22 a24 a25 a26 a27 a28 a29 a30 f0 f1 f2 f3 f5 f8 f9 f10 f11 f12 f13 f14 f18 f19 f20 f23 f31 g4 g6 g7 g15 g16 g17 g21 g22 g24 g25 g26 g27 g28 g29 g30 n
  refine wk_X7_traced l G m0 a4 a6 a7 a15 a16 a17 a21 a22 a24 a25 a26 a27 a28 a29 a30 f0 f1 f2 f3 f5 f8 f9 f10 f11 f12 f13 f14 f18 f19 f20 f23 f31 g4 g6 g7 g15 g16 g17 g21 g22 g24 g25 g26 g27 g28 g29 g30 n (31 * f31 + n) ?_
  first | grind [vp4] | grind [vpQ, vpP, vpK, vpTwo, q_in02, q_in03, q_in04, q_in09, q_in01, q_in040, q_inm39, q_inV, q_in0V, q_inM] | grind [vpQ, vpP, vpK, vpTwo, q_in02, q_in03, q_in04, q_in09, q_in01, q_in040, q_inm39, q_inV, q_in0V, q_inM]

theorem ok_X7_ofSkater (l : Launch) (G : GT) (h_X7_bearingOf : K_X7_bearingOf l G) (h_X7_loadOf : K_X7_loadOf l G) (h_X7_noSkater : K_X7_noSkater l G) : K_X7_ofSkater l G := by
  intro m0 a4 a6 a7 a15 a16 a17 a21 a22 a24 a25 a26 a27 a28 a29 a30 f0 f1 f2 f3 f5 f8 f9 f10 f11 f12 f13 f14 f18 f19 f20 f23 f31 g4 g6 g7 g15 g16 g17 g21 g22 g24 g25 g26 g27 g28 g29 g30 a what p0 p1
  refine wk_X7_ofSkater l G m0 a4 a6 a7 a15 a16 a17 a21 a22 a24 a25 a26 a27 a28 a29 a30 f0 f1 f2 f3 f5 f8 f9 f10 f11 f12 f13 f14 f18 f19 f20 f23 f31 g4 g6 g7 g15 g16 g17 g21 g22 g24 g25 g26 g27 g28 g29 g30 a what (m_ofSkater f1 f2 f5 f8 f9 g4 g6 g7 a what) h_X7_bearingOf h_X7_loadOf h_X7_noSkater ?_
  first | grind [m_ofSkater] | grind [m_ofSkater, vpQ, vpP, vpK, vpTwo, q_in02, q_in03, q_in04, q_in09, q_in01, q_in040, q_inm39, q_inV, q_in0V, q_inM] | grind [m_ofSkater, q_load, vpQ, vpP, vpK, vpTwo, q_in02, q_in03, q_in04, q_in09, q_in01, q_in040, q_inm39, q_inV, q_in0V, q_inM]

theorem ok_X7_strength (l : Launch) (G : GT) (h_X7_noPlace : K_X7_noPlace l G) : K_X7_strength l G := by
  intro m0 a4 a6 a7 a15 a16 a17 a21 a22 a24 a25 a26 a27 a28 a29 a30 f0 f1 f2 f3 f5 f8 f9 f10 f11 f12 f13 f14 f18 f19 f20 f23 f31 g4 g6 g7 g15 g16 g17 g21 g22 g24 g25 g26 g27 g28 g29 g30 ce p0
  refine wk_X7_strength l G m0 a4 a6 a7 a15 a16 a17 a21 a22 a24 a25 a26 a27 a28 a29 a30 f0 f1 f2 f3 f5 f8 f9 f10 f11 f12 f13 f14 f18 f19 f20 f23 f31 g4 g6 g7 g15 g16 g17 g21 g22 g24 g25 g26 g27 g28 g29 g30 ce (m_strength f1 f2 g4 ce) h_X7_noPlace ?_
  first | grind [m_strength] | grind [m_strength, vpQ, vpP, vpK, vpTwo, q_in02, q_in03, q_in04, q_in09, q_in01, q_in040, q_inm39, q_inV, q_in0V, q_inM] | grind [m_strength, vpQ, vpP, vpK, vpTwo, q_in02, q_in03, q_in04, q_in09, q_in01, q_in040, q_inm39, q_inV, q_in0V, q_inM]

theorem ok_X7_freeze (l : Launch) (G : GT) (h_X7_in : K_X7_in l G) (h_X7_noPlace : K_X7_noPlace l G) : K_X7_freeze l G := by
  intro m0 a4 a6 a7 a15 a16 a17 a21 a22 a24 a25 a26 a27 a28 a29 a30 f0 f1 f2 f3 f5 f8 f9 f10 f11 f12 f13 f14 f18 f19 f20 f23 f31 g4 g6 g7 g15 g16 g17 g21 g22 g24 g25 g26 g27 g28 g29 g30 ce v p0
  refine wk_X7_freeze l G m0 a4 a6 a7 a15 a16 a17 a21 a22 a24 a25 a26 a27 a28 a29 a30 f0 f1 f2 f3 f5 f8 f9 f10 f11 f12 f13 f14 f18 f19 f20 f23 f31 g4 g6 g7 g15 g16 g17 g21 g22 g24 g25 g26 g27 g28 g29 g30 ce v (m_freezeR f1 f2 g4 ce v) (m_freezeS f1 f2 g4 ce v) h_X7_in h_X7_noPlace ?_
  first | grind [m_freezeR, m_freezeS] | grind [m_freezeR, m_freezeS, vpQ, vpP, vpK, vpTwo, q_in02, q_in03, q_in04, q_in09, q_in01, q_in040, q_inm39, q_inV, q_in0V, q_inM] | grind [m_freezeR, m_freezeS, q_in, vpQ, vpP, vpK, vpTwo, q_in02, q_in03, q_in04, q_in09, q_in01, q_in040, q_inm39, q_inV, q_in0V, q_inM]

theorem ok_X7_frost (l : Launch) (G : GT) (h_X7_in : K_X7_in l G) : K_X7_frost l G := by
  intro m0 a4 a6 a7 a15 a16 a17 a21 a22 a24 a25 a26 a27 a28 a29 a30 f0 f1 f2 f3 f5 f8 f9 f10 f11 f12 f13 f14 f18 f19 f20 f23 f31 g4 g6 g7 g15 g16 g17 g21 g22 g24 g25 g26 g27 g28 g29 g30 v
  refine wk_X7_frost l G m0 a4 a6 a7 a15 a16 a17 a21 a22 a24 a25 a26 a27 a28 a29 a30 f0 f1 f2 f3 f5 f8 f9 f10 f11 f12 f13 f14 f18 f19 f20 f23 f31 g4 g6 g7 g15 g16 g17 g21 g22 g24 g25 g26 g27 g28 g29 g30 v (m_wx f5 v f3) (if m_wxOk f5 v then v else f3) h_X7_in ?_
  first | grind [m_wx] | grind [m_wx, vpQ, vpP, vpK, vpTwo, q_in02, q_in03, q_in04, q_in09, q_in01, q_in040, q_inm39, q_inV, q_in0V, q_inM] | grind [m_wx, q_in, vpQ, vpP, vpK, vpTwo, q_in02, q_in03, q_in04, q_in09, q_in01, q_in040, q_inm39, q_inV, q_in0V, q_inM]

theorem ok_X7_back (l : Launch) (G : GT) (h_X7_in : K_X7_in l G) : K_X7_back l G := by
  intro m0 a4 a6 a7 a15 a16 a17 a21 a22 a24 a25 a26 a27 a28 a29 a30 f0 f1 f2 f3 f5 f8 f9 f10 f11 f12 f13 f14 f18 f19 f20 f23 f31 g4 g6 g7 g15 g16 g17 g21 g22 g24 g25 g26 g27 g28 g29 g30 k
  refine wk_X7_back l G m0 a4 a6 a7 a15 a16 a17 a21 a22 a24 a25 a26 a27 a28 a29 a30 f0 f1 f2 f3 f5 f8 f9 f10 f11 f12 f13 f14 f18 f19 f20 f23 f31 g4 g6 g7 g15 g16 g17 g21 g22 g24 g25 g26 g27 g28 g29 g30 k (m_backR f23 k) (m_backC f23 k) h_X7_in ?_
  first | grind [m_backR, m_backC] | grind [m_backR, m_backC, vpQ, vpP, vpK, vpTwo, q_in02, q_in03, q_in04, q_in09, q_in01, q_in040, q_inm39, q_inV, q_in0V, q_inM] | grind [m_backR, m_backC, q_in, vpQ, vpP, vpK, vpTwo, q_in02, q_in03, q_in04, q_in09, q_in01, q_in040, q_inm39, q_inV, q_in0V, q_inM]

theorem ok_X7_lose (l : Launch) (G : GT) (h_X7_noSheet : K_X7_noSheet l G) : K_X7_lose l G := by
  intro m0 a4 a6 a7 a15 a16 a17 a21 a22 a24 a25 a26 a27 a28 a29 a30 f0 f1 f2 f3 f5 f8 f9 f10 f11 f12 f13 f14 f18 f19 f20 f23 f31 g4 g6 g7 g15 g16 g17 g21 g22 g24 g25 g26 g27 g28 g29 g30 k
  refine wk_X7_lose l G m0 a4 a6 a7 a15 a16 a17 a21 a22 a24 a25 a26 a27 a28 a29 a30 f0 f1 f2 f3 f5 f8 f9 f10 f11 f12 f13 f14 f18 f19 f20 f23 f31 g4 g6 g7 g15 g16 g17 g21 g22 g24 g25 g26 g27 g28 g29 g30 k (m_loseR g27 k) (if q_noSheet k = 0 then upd g27 k.toNatClampNeg (-1) else g27) h_X7_noSheet ?_
  first | grind [m_loseR, q_noSheet] | grind [m_loseR, q_noSheet, vpQ, vpP, vpK, vpTwo, q_in02, q_in03, q_in04, q_in09, q_in01, q_in040, q_inm39, q_inV, q_in0V, q_inM] | grind [m_loseR, q_noSheet, vpQ, vpP, vpK, vpTwo, q_in02, q_in03, q_in04, q_in09, q_in01, q_in040, q_inm39, q_inV, q_in0V, q_inM]

theorem ok_X7_tell (l : Launch) (G : GT) (h_X7_noSkater : K_X7_noSkater l G) (h_X7_traced : K_X7_traced l G) : K_X7_tell l G := by
  intro m0 a4 a6 a7 a15 a16 a17 a21 a22 a24 a25 a26 a27 a28 a29 a30 f0 f1 f2 f3 f5 f8 f9 f10 f11 f12 f13 f14 f18 f19 f20 f23 f31 g4 g6 g7 g15 g16 g17 g21 g22 g24 g25 g26 g27 g28 g29 g30 a p0
  refine wk_X7_tell l G m0 a4 a6 a7 a15 a16 a17 a21 a22 a24 a25 a26 a27 a28 a29 a30 f0 f1 f2 f3 f5 f8 f9 f10 f11 f12 f13 f14 f18 f19 f20 f23 f31 g4 g6 g7 g15 g16 g17 g21 g22 g24 g25 g26 g27 g28 g29 g30 a (m_tellR f5 g6 g7 a) (m_tellT f5 g6 a f31) h_X7_noSkater h_X7_traced ?_
  first | grind [m_tellR, m_tellT] | grind [m_tellR, m_tellT, vpQ, vpP, vpK, vpTwo, q_in02, q_in03, q_in04, q_in09, q_in01, q_in040, q_inm39, q_inV, q_in0V, q_inM] | grind [m_tellR, m_tellT, vpQ, vpP, vpK, vpTwo, q_in02, q_in03, q_in04, q_in09, q_in01, q_in040, q_inm39, q_inV, q_in0V, q_inM]

theorem ok_X7_signed (l : Launch) (G : GT) (h_X7_noSkater : K_X7_noSkater l G) (h_X7_traced : K_X7_traced l G) : K_X7_signed l G := by
  intro m0 a4 a6 a7 a15 a16 a17 a21 a22 a24 a25 a26 a27 a28 a29 a30 f0 f1 f2 f3 f5 f8 f9 f10 f11 f12 f13 f14 f18 f19 f20 f23 f31 g4 g6 g7 g15 g16 g17 g21 g22 g24 g25 g26 g27 g28 g29 g30 a p0
  refine wk_X7_signed l G m0 a4 a6 a7 a15 a16 a17 a21 a22 a24 a25 a26 a27 a28 a29 a30 f0 f1 f2 f3 f5 f8 f9 f10 f11 f12 f13 f14 f18 f19 f20 f23 f31 g4 g6 g7 g15 g16 g17 g21 g22 g24 g25 g26 g27 g28 g29 g30 a (m_signedR f5 g6 a) (m_signedT f5 g6 a f31) h_X7_noSkater h_X7_traced ?_
  first | grind [m_signedR, m_signedT] | grind [m_signedR, m_signedT, vpQ, vpP, vpK, vpTwo, q_in02, q_in03, q_in04, q_in09, q_in01, q_in040, q_inm39, q_inV, q_in0V, q_inM] | grind [m_signedR, m_signedT, vpQ, vpP, vpK, vpTwo, q_in02, q_in03, q_in04, q_in09, q_in01, q_in040, q_inm39, q_inV, q_in0V, q_inM]

theorem ok_X7_as (l : Launch) (G : GT) (h_X7_failed : K_X7_failed l G) (h_X7_in : K_X7_in l G) (h_X7_noSkater : K_X7_noSkater l G) (h_X7_refused : K_X7_refused l G) : K_X7_as l G := by
  intro m0 a4 a6 a7 a15 a16 a17 a21 a22 a24 a25 a26 a27 a28 a29 a30 f0 f1 f2 f3 f5 f8 f9 f10 f11 f12 f13 f14 f18 f19 f20 f23 f31 g4 g6 g7 g15 g16 g17 g21 g22 g24 g25 g26 g27 g28 g29 g30 a kind p0
  refine wk_X7_as l G m0 a4 a6 a7 a15 a16 a17 a21 a22 a24 a25 a26 a27 a28 a29 a30 f0 f1 f2 f3 f5 f8 f9 f10 f11 f12 f13 f14 f18 f19 f20 f23 f31 g4 g6 g7 g15 g16 g17 g21 g22 g24 g25 g26 g27 g28 g29 g30 a kind (m_asR f5 g6 a kind) (m_asF f5 g6 a kind) h_X7_failed h_X7_in h_X7_noSkater h_X7_refused ?_
  first | grind [m_asR, m_asF] | grind [m_asR, m_asF, vpQ, vpP, vpK, vpTwo, q_in02, q_in03, q_in04, q_in09, q_in01, q_in040, q_inm39, q_inV, q_in0V, q_inM] | grind [m_asR, m_asF, q_in, vpQ, vpP, vpK, vpTwo, q_in02, q_in03, q_in04, q_in09, q_in01, q_in040, q_inm39, q_inV, q_in0V, q_inM]

theorem ok_X7_trace (l : Launch) (G : GT) : K_X7_trace l G := by
  intro m0 a4 a6 a7 a15 a16 a17 a21 a22 a24 a25 a26 a27 a28 a29 a30 f0 f1 f2 f3 f5 f8 f9 f10 f11 f12 f13 f14 f18 f19 f20 f23 f31 g4 g6 g7 g15 g16 g17 g21 g22 g24 g25 g26 g27 g28 g29 g30
  refine wk_X7_trace l G m0 a4 a6 a7 a15 a16 a17 a21 a22 a24 a25 a26 a27 a28 a29 a30 f0 f1 f2 f3 f5 f8 f9 f10 f11 f12 f13 f14 f18 f19 f20 f23 f31 g4 g6 g7 g15 g16 g17 g21 g22 g24 g25 g26 g27 g28 g29 g30 f31 ?_
  first | grind [vp4] | grind [vpQ, vpP, vpK, vpTwo, q_in02, q_in03, q_in04, q_in09, q_in01, q_in040, q_inm39, q_inV, q_in0V, q_inM] | grind [vpQ, vpP, vpK, vpTwo, q_in02, q_in03, q_in04, q_in09, q_in01, q_in040, q_inm39, q_inV, q_in0V, q_inM]

theorem ok_X7_fault (l : Launch) (G : GT) : K_X7_fault l G := by
  intro m0 a4 a6 a7 a15 a16 a17 a21 a22 a24 a25 a26 a27 a28 a29 a30 f0 f1 f2 f3 f5 f8 f9 f10 f11 f12 f13 f14 f18 f19 f20 f23 f31 g4 g6 g7 g15 g16 g17 g21 g22 g24 g25 g26 g27 g28 g29 g30
  refine wk_X7_fault l G m0 a4 a6 a7 a15 a16 a17 a21 a22 a24 a25 a26 a27 a28 a29 a30 f0 f1 f2 f3 f5 f8 f9 f10 f11 f12 f13 f14 f18 f19 f20 f23 f31 g4 g6 g7 g15 g16 g17 g21 g22 g24 g25 g26 g27 g28 g29 g30 f0 ?_
  first | grind [vp4] | grind [vpQ, vpP, vpK, vpTwo, q_in02, q_in03, q_in04, q_in09, q_in01, q_in040, q_inm39, q_inV, q_in0V, q_inM] | grind [vpQ, vpP, vpK, vpTwo, q_in02, q_in03, q_in04, q_in09, q_in01, q_in040, q_inm39, q_inV, q_in0V, q_inM]

theorem ok_X7_many (l : Launch) (G : GT) (h_X7_cells : K_X7_cells l G) : K_X7_many l G := by
  intro m0 a4 a6 a7 a15 a16 a17 a21 a22 a24 a25 a26 a27 a28 a29 a30 f0 f1 f2 f3 f5 f8 f9 f10 f11 f12 f13 f14 f18 f19 f20 f23 f31 g4 g6 g7 g15 g16 g17 g21 g22 g24 g25 g26 g27 g28 g29 g30 what
  refine wk_X7_many l G m0 a4 a6 a7 a15 a16 a17 a21 a22 a24 a25 a26 a27 a28 a29 a30 f0 f1 f2 f3 f5 f8 f9 f10 f11 f12 f13 f14 f18 f19 f20 f23 f31 g4 g6 g7 g15 g16 g17 g21 g22 g24 g25 g26 g27 g28 g29 g30 what (m_many f1 f2 f3 f5 f23 what) h_X7_cells ?_
  first | grind [m_many] | grind [m_many, vpQ, vpP, vpK, vpTwo, q_in02, q_in03, q_in04, q_in09, q_in01, q_in040, q_inm39, q_inV, q_in0V, q_inM] | grind [m_many, vpQ, vpP, vpK, vpTwo, q_in02, q_in03, q_in04, q_in09, q_in01, q_in040, q_inm39, q_inV, q_in0V, q_inM]

theorem ok_X6_keepFault (l : Launch) (G : GT) (h_X6_isWithin : K_X6_isWithin l G) : K_X6_keepFault l G := by
  intro b0 bs x0 d0 r0 i0 c0 j0 e0 lf tr v
  refine wk_X6_keepFault l G b0 bs x0 d0 r0 i0 c0 j0 e0 lf tr v v (x_kf v) h_X6_isWithin ?_
  first | grind [x_kf] | grind [x_kf, vpS, vpC, vpPair] | grind [x_kf, vpS, vpC, vpPair]

theorem ok_X6_sheetAt (l : Launch) (G : GT) (h_X6_isWithin : K_X6_isWithin l G) : K_X6_sheetAt l G := by
  intro b0 bs x0 d0 r0 i0 c0 j0 e0 lf tr sh k r p0 p1
  refine wk_X6_sheetAt l G b0 bs x0 d0 r0 i0 c0 j0 e0 lf tr sh k r r h_X6_isWithin ?_
  first | grind [s_shAt, s_in] | grind [s_shAt, s_in, vpS, vpC, vpPair] | grind [s_shAt, s_in, vpS, vpC, vpPair]

theorem ok_X6_refusalOfLane (l : Launch) (G : GT) (h_X4_isNothing : K_X4_isNothing l G) (h_X6_isWithin : K_X6_isWithin l G) : K_X6_refusalOfLane l G := by
  intro s0 s1 sla sle lane
  refine wk_X6_refusalOfLane l G s0 s1 sla sle lane (x_rl sla lane) h_X4_isNothing h_X6_isWithin ?_
  first | grind [x_rl] | grind [x_rl, vpS, vpC, vpPair] | grind [x_rl, vpS, vpC, vpPair]

theorem ok_X6_refusalOfLane_n (l : Launch) (G : GT) : K_X6_refusalOfLane_n l G := by
  intro lane
  refine wk_X6_refusalOfLane_n l G lane (-1) ?_
  first | grind [vp4] | grind [vpS, vpC, vpPair] | grind [vpS, vpC, vpPair]

theorem ok_X6_refusalOfPart (l : Launch) (G : GT) (h_X4_has : K_X4_has l G) (h_X6_refusalOfLane : K_X6_refusalOfLane l G) : K_X6_refusalOfPart l G := by
  intro s0 s1 sla sle lane i n
  refine wk_X6_refusalOfPart l G s0 s1 sla sle lane i n (x_rp sla sle lane i n) h_X4_has h_X6_refusalOfLane ?_
  first | grind [x_rp] | grind [x_rp, vpS, vpC, vpPair] | grind [x_rp, x_rl, vpS, vpC, vpPair]

theorem ok_X6_refusalOfPart_n (l : Launch) (G : GT) (h_X6_refusalOfLane_n : K_X6_refusalOfLane_n l G) : K_X6_refusalOfPart_n l G := by
  intro lane i n
  refine wk_X6_refusalOfPart_n l G lane i n (-1) h_X6_refusalOfLane_n ?_
  first | grind [vp4] | grind [vpS, vpC, vpPair] | grind [vpS, vpC, vpPair]

theorem ok_X6_refusalOfWeather (l : Launch) (G : GT) (h_X2_cells : K_X2_cells l G) (h_X6_isWithin : K_X6_isWithin l G) : K_X6_refusalOfWeather l G := by
  intro b0 i0 bs x0 d0 r0 c0 j0 e0 i1 lf tr hi wi fr fc lc v
  refine wk_X6_refusalOfWeather l G b0 i0 bs x0 d0 r0 c0 j0 e0 i1 lf tr hi wi fr fc lc v (x_rw hi wi v) h_X2_cells h_X6_isWithin ?_
  first | grind [x_rw] | grind [x_rw, vpS, vpC, vpPair] | grind [x_rw, vpS, vpC, vpPair]

theorem ok_X6_isPair (l : Launch) (G : GT) (h_X0_has : K_X0_has l G) : K_X6_isPair l G := by
  intro b0 c0 bs x0 d0 r0 i0 j0 e0 c1 c2 lf tr cnt a b
  refine wk_X6_isPair l G b0 c0 bs x0 d0 r0 i0 j0 e0 c1 c2 lf tr cnt a b (x_pair cnt a b) h_X0_has ?_
  first | grind [x_pair] | grind [x_pair, vpS, vpC, vpPair] | grind [x_pair, vpS, vpC, vpPair]

theorem ok_X6_changeToDraft (l : Launch) (G : GT) : K_X6_changeToDraft l G := by
  intro b0 r0 bs x0 d0 i0 c0 j0 e0 r1 r2 r3 lf tr rc
  refine wk_X6_changeToDraft l G b0 r0 bs x0 d0 i0 c0 j0 e0 r1 r2 r3 lf tr rc j0 e0 i0 c0 0 ?_
  first | grind [vp4] | grind [vpS, vpC, vpPair] | grind [vpS, vpC, vpPair]

theorem ok_X6_takeText_n (l : Launch) (G : GT) (h_X6_refusalOfLane_n : K_X6_refusalOfLane_n l G) (h_X6_sheetAt : K_X6_sheetAt l G) : K_X6_takeText_n l G := by
  intro b0 bs x0 d0 r0 i0 c0 j0 e0 lf tr sh sheet lane i n p0 p1
  refine wk_X6_takeText_n l G b0 bs x0 d0 r0 i0 c0 j0 e0 lf tr sh sheet lane i n (-1) h_X6_refusalOfLane_n h_X6_sheetAt ?_
  first | grind [s_shAt, s_in] | grind [s_shAt, s_in, vpS, vpC, vpPair] | grind [s_shAt, s_in, vpS, vpC, vpPair]

theorem ok_X6_isDeedKnown (l : Launch) (G : GT) (h_X2_has : K_X2_has l G) (h_X6_isPair : K_X6_isPair l G) (h_X6_sheetAt : K_X6_sheetAt l G) : K_X6_isDeedKnown l G := by
  intro b0 bs c0 i0 x0 d0 r0 j0 e0 c1 c2 i1 lf tr cnt hi wi fr fc lc sh a b ce sheet s0 p0 p1
  refine wk_X6_isDeedKnown l G b0 bs c0 i0 x0 d0 r0 j0 e0 c1 c2 i1 lf tr cnt hi wi fr fc lc sh a b ce sheet s0 (x_dKn hi wi cnt a b ce) h_X2_has h_X6_isPair h_X6_sheetAt ?_
  first | grind [s_shAt, s_in, x_dKn] | grind [s_shAt, s_in, x_dKn, vpS, vpC, vpPair] | grind [s_shAt, s_in, x_dKn, x_pair, vpS, vpC, vpPair]

theorem ok_X6_isDeedKnown_n (l : Launch) (G : GT) (h_X2_has : K_X2_has l G) (h_X6_isPair : K_X6_isPair l G) (h_X6_sheetAt : K_X6_sheetAt l G) : K_X6_isDeedKnown_n l G := by
  intro b0 bs c0 i0 x0 d0 r0 j0 e0 c1 c2 i1 lf tr cnt hi wi fr fc lc sh a b ce sheet p0 p1
  refine wk_X6_isDeedKnown_n l G b0 bs c0 i0 x0 d0 r0 j0 e0 c1 c2 i1 lf tr cnt hi wi fr fc lc sh a b ce sheet 0 h_X2_has h_X6_isPair h_X6_sheetAt ?_
  first | grind [s_shAt, s_in] | grind [s_shAt, s_in, vpS, vpC, vpPair] | grind [s_shAt, s_in, x_pair, vpS, vpC, vpPair]

theorem ok_X6_tryDeed_n (l : Launch) (G : GT) (h_X6_sheetAt : K_X6_sheetAt l G) : K_X6_tryDeed_n l G := by
  intro b0 bs x0 d0 r0 i0 c0 j0 e0 lf tr sh a b ce sheet lane i n p0 p1
  refine wk_X6_tryDeed_n l G b0 bs x0 d0 r0 i0 c0 j0 e0 lf tr sh a b ce sheet lane i n (-1) h_X6_sheetAt ?_
  first | grind [s_shAt, s_in] | grind [s_shAt, s_in, vpS, vpC, vpPair] | grind [s_shAt, s_in, vpS, vpC, vpPair]

theorem ok_X6_ofTrial (l : Launch) (G : GT) : K_X6_ofTrial l G := by
  intro b0 d0 d1 bs x0 r0 i0 c0 j0 e0 lf tr dat dcut dfw dstr n what p0
  refine wk_X6_ofTrial l G b0 d0 d1 bs x0 r0 i0 c0 j0 e0 lf tr dat dcut dfw dstr n what (x_ofT (dat, dcut, dfw, dstr) n what) ?_
  first | grind [x_ofT] | grind [x_ofT, vpS, vpC, vpPair] | grind [x_ofT, vpS, vpC, vpPair]

theorem ok_X6_isBondKnown (l : Launch) (G : GT) (h_X2_has : K_X2_has l G) (h_X6_isPair : K_X6_isPair l G) : K_X6_isBondKnown l G := by
  intro b0 c0 i0 bs x0 d0 r0 j0 e0 c1 c2 i1 lf tr cnt hi wi fr fc lc a b fro to
  refine wk_X6_isBondKnown l G b0 c0 i0 bs x0 d0 r0 j0 e0 c1 c2 i1 lf tr cnt hi wi fr fc lc a b fro to (x_bKn hi wi cnt a b fro to) h_X2_has h_X6_isPair ?_
  first | grind [x_bKn] | grind [x_bKn, vpS, vpC, vpPair] | grind [x_bKn, x_pair, vpS, vpC, vpPair]

theorem ok_X6_newRow (l : Launch) (G : GT) (h_X4_begin : K_X4_begin l G) (h_X6_isWithin : K_X6_isWithin l G) (h_X6_sheetAt : K_X6_sheetAt l G) : K_X6_newRow l G := by
  intro b0 bs s0 s1 x0 d0 r0 i0 c0 j0 e0 lf tr sla sle sn sh k lane n p0 p1
  refine wk_X6_newRow l G b0 bs s0 s1 x0 d0 r0 i0 c0 j0 e0 lf tr sla sle sn sh k lane n (x_nrR lane n) (if x_nrOk lane n then lane else sla) (if x_nrOk lane n then n else sle) (if x_nrOk lane n then s_fill 0 sn else sn) h_X4_begin h_X6_isWithin h_X6_sheetAt ?_
  first | grind [s_shAt, s_in, x_nrR, s_fill] | grind [s_shAt, s_in, x_nrR, s_fill, vpS, vpC, vpPair] | grind [s_shAt, s_in, x_nrR, s_fill, vpS, vpC, vpPair]

theorem ok_X6_newRow_n (l : Launch) (G : GT) (h_X6_sheetAt : K_X6_sheetAt l G) : K_X6_newRow_n l G := by
  intro b0 bs x0 d0 r0 i0 c0 j0 e0 lf tr sh k lane n p0 p1
  refine wk_X6_newRow_n l G b0 bs x0 d0 r0 i0 c0 j0 e0 lf tr sh k lane n (-1) h_X6_sheetAt ?_
  first | grind [s_shAt, s_in] | grind [s_shAt, s_in, vpS, vpC, vpPair] | grind [s_shAt, s_in, vpS, vpC, vpPair]

theorem ok_X6_putNumber_n (l : Launch) (G : GT) (h_X6_sheetAt : K_X6_sheetAt l G) : K_X6_putNumber_n l G := by
  intro b0 bs x0 d0 r0 i0 c0 j0 e0 lf tr sh k ii v p0 p1
  refine wk_X6_putNumber_n l G b0 bs x0 d0 r0 i0 c0 j0 e0 lf tr sh k ii v (-1) h_X6_sheetAt ?_
  first | grind [s_shAt, s_in] | grind [s_shAt, s_in, vpS, vpC, vpPair] | grind [s_shAt, s_in, vpS, vpC, vpPair]

theorem ok_X6_copyNumbers_n (l : Launch) (G : GT) (h_X6_sheetAt : K_X6_sheetAt l G) : K_X6_copyNumbers_n l G := by
  intro b0 bs x0 d0 r0 i0 c0 j0 e0 lf tr sh k i other j n p0 p1 p2 p3
  refine wk_X6_copyNumbers_n l G b0 bs x0 d0 r0 i0 c0 j0 e0 lf tr sh k i other j n (-1) h_X6_sheetAt ?_
  first | grind [s_shAt, s_in] | grind [s_shAt, s_in, vpS, vpC, vpPair] | grind [s_shAt, s_in, vpS, vpC, vpPair]

theorem ok_X6_copyNumbers_n1 (l : Launch) (G : GT) (h_X6_sheetAt : K_X6_sheetAt l G) : K_X6_copyNumbers_n1 l G := by
  intro b0 bs x0 d0 r0 i0 c0 j0 e0 lf tr sh k i other j n u0 p0 p1 p2 p3
  refine wk_X6_copyNumbers_n1 l G b0 bs x0 d0 r0 i0 c0 j0 e0 lf tr sh k i other j n u0 (-1) h_X6_sheetAt ?_
  first | grind [s_shAt, s_in] | grind [s_shAt, s_in, vpS, vpC, vpPair] | grind [s_shAt, s_in, vpS, vpC, vpPair]

theorem ok_X6_copyNumbers_n2 (l : Launch) (G : GT) (h_X6_sheetAt : K_X6_sheetAt l G) : K_X6_copyNumbers_n2 l G := by
  intro b0 bs x0 d0 r0 i0 c0 j0 e0 lf tr sh k i other j n s0 p0 p1 p2 p3
  refine wk_X6_copyNumbers_n2 l G b0 bs x0 d0 r0 i0 c0 j0 e0 lf tr sh k i other j n s0 (-1) h_X6_sheetAt ?_
  first | grind [s_shAt, s_in] | grind [s_shAt, s_in, vpS, vpC, vpPair] | grind [s_shAt, s_in, vpS, vpC, vpPair]

theorem ok_X6_leave (l : Launch) (G : GT) : K_X6_leave l G := by
  intro b0 bs x0 d0 r0 i0 c0 j0 e0 lf tr body
  refine wk_X6_leave l G b0 bs x0 d0 r0 i0 c0 j0 e0 lf tr body (31 * tr + body) ?_
  first | grind [vp4] | grind [vpS, vpC, vpPair] | grind [vpS, vpC, vpPair]

theorem ok_X6_skaterGives (l : Launch) (G : GT) (h_X6_leave : K_X6_leave l G) : K_X6_skaterGives l G := by
  intro b0 bs x0 d0 r0 i0 c0 j0 e0 lf tr w
  refine wk_X6_skaterGives l G b0 bs x0 d0 r0 i0 c0 j0 e0 lf tr w w (31 * tr + 1) h_X6_leave ?_
  first | grind [vp4] | grind [vpS, vpC, vpPair] | grind [vpS, vpC, vpPair]

theorem ok_X6_clerkGives (l : Launch) (G : GT) (h_X6_leave : K_X6_leave l G) (h_X6_skaterGives : K_X6_skaterGives l G) : K_X6_clerkGives l G := by
  intro b0 bs x0 d0 r0 i0 c0 j0 e0 lf tr w
  refine wk_X6_clerkGives l G b0 bs x0 d0 r0 i0 c0 j0 e0 lf tr w (w + 100) (31 * (31 * tr + 2) + 1) h_X6_leave h_X6_skaterGives ?_
  first | grind [vp4] | grind [vpS, vpC, vpPair] | grind [vpS, vpC, vpPair]

theorem ok_X6_bankerGives (l : Launch) (G : GT) (h_X6_clerkGives : K_X6_clerkGives l G) (h_X6_leave : K_X6_leave l G) (h_X6_skaterGives : K_X6_skaterGives l G) : K_X6_bankerGives l G := by
  intro b0 bs x0 d0 r0 i0 c0 j0 e0 lf tr w
  refine wk_X6_bankerGives l G b0 bs x0 d0 r0 i0 c0 j0 e0 lf tr w (w + 100 + w) (31 * (31 * (31 * (31 * tr + 3) + 2) + 1) + 1) h_X6_clerkGives h_X6_leave h_X6_skaterGives ?_
  first | grind [vp4] | grind [vpS, vpC, vpPair] | grind [vpS, vpC, vpPair]

theorem ok_X6_takeAs (l : Launch) (G : GT) (h_X0_has : K_X0_has l G) (h_X6_isWithin : K_X6_isWithin l G) : K_X6_takeAs l G := by
  intro b0 c0 c1 c2 bs x0 d0 r0 i0 j0 e0 lf tr cnt ck cwt a kind p0
  refine wk_X6_takeAs l G b0 c0 c1 c2 bs x0 d0 r0 i0 j0 e0 lf tr cnt ck cwt a kind (x_asR cnt ck a kind) h_X0_has h_X6_isWithin ?_
  first | grind [x_asR] | grind [x_asR, vpS, vpC, vpPair] | grind [x_asR, vpS, vpC, vpPair]

theorem ok_X6_canal (l : Launch) (G : GT) (h_X6_keepFault : K_X6_keepFault l G) (h_X6_takeText : K_X6_takeText l G) : K_X6_canal l G := by
  intro b0 bs s0 s1 x0 x1 j0 j1 e0 e1 e2 r0 d0 i0 c0 r1 r2 r3 lf tr sla sle xl xp xw jhi jwi jfr jfc jlc ecnt rc sn xc jstr ek ewt sh sheet lane i n p0 p1 p2
  refine wk_X6_canal l G b0 bs s0 s1 x0 x1 j0 j1 e0 e1 e2 r0 d0 i0 c0 r1 r2 r3 lf tr sla sle xl xp xw jhi jwi jfr jfc jlc ecnt rc sn xc jstr ek ewt sh sheet lane i n (x_ttR sla sle lane i n sn xc jstr ek ewt) (if x_ttOk sla sle lane i n sn xc jstr ek ewt then j0 else i0) (if x_ttOk sla sle lane i n sn xc jstr ek ewt then e0 else c0) (if x_ttOk sla sle lane i n sn xc jstr ek ewt then i0 else j0) (if x_ttOk sla sle lane i n sn xc jstr ek ewt then c0 else e0) (x_kf (x_ttR sla sle lane i n sn xc jstr ek ewt)) (if x_ttGo sla sle lane i n then (x_ttCrew sn xc i n jstr ek ewt).2.2.1 else ewt) (if x_ttOk sla sle lane i n sn xc jstr ek ewt then 0 else rc) (if x_ttGo sla sle lane i n then itHi n (s_cpT sn xc i n) (0, 0) else jhi) (if x_ttGo sla sle lane i n then itWi n (s_cpT sn xc i n) (0, 0) else jwi) (if x_ttGo sla sle lane i n then itFr n (s_cpT sn xc i n) (0, 0) else jfr) (if x_ttGo sla sle lane i n then (x_ttIce sn xc i n jstr).2.2 else jfc) (if x_ttGo sla sle lane i n then (x_ttIce sn xc i n jstr).2.2 <<< ((itWi n (s_cpT sn xc i n) (0, 0) - 1) &&& 31) else jlc) (if x_ttGo sla sle lane i n then (x_ttIce sn xc i n jstr).2.1 else jstr) (if x_ttGo sla sle lane i n then (x_ttCrew sn xc i n jstr ek ewt).2.2.2 else ecnt) (if x_ttGo sla sle lane i n then (x_ttCrew sn xc i n jstr ek ewt).2.1 else ek) h_X6_keepFault h_X6_takeText ?_
  first | grind [s_shAt, s_in, x_ttR, x_kf, itHi, s_cpT, itWi, itFr, x_ttIce, x_ttCrew] | grind [s_shAt, s_in, x_ttR, x_kf, itHi, s_cpT, itWi, itFr, x_ttIce, x_ttCrew, vpS, vpC, vpPair] | grind [s_shAt, s_in, x_ttR, x_kf, itHi, s_cpT, itWi, itFr, x_ttIce, x_ttCrew, vpS, vpC, vpPair]

theorem ok_X6_canal_n (l : Launch) (G : GT) (h_X6_keepFault : K_X6_keepFault l G) (h_X6_takeText_n : K_X6_takeText_n l G) : K_X6_canal_n l G := by
  intro b0 bs x0 d0 r0 i0 c0 j0 e0 lf tr sh sheet lane i n p0 p1
  refine wk_X6_canal_n l G b0 bs x0 d0 r0 i0 c0 j0 e0 lf tr sh sheet lane i n (-1) 0 h_X6_keepFault h_X6_takeText_n ?_
  first | grind [s_shAt, s_in] | grind [s_shAt, s_in, vpS, vpC, vpPair] | grind [s_shAt, s_in, x_kf, vpS, vpC, vpPair]

theorem ok_X6_ofSkater (l : Launch) (G : GT) (h_X0_has : K_X0_has l G) (h_X0_load : K_X0_load l G) (h_X2_bearing : K_X2_bearing l G) : K_X6_ofSkater l G := by
  intro b0 c0 c1 c2 i0 i1 bs x0 d0 r0 j0 e0 lf tr cnt hi wi fr fc lc ck cwt str a what p0 p1
  refine wk_X6_ofSkater l G b0 c0 c1 c2 i0 i1 bs x0 d0 r0 j0 e0 lf tr cnt hi wi fr fc lc ck cwt str a what (x_ofSk hi wi cnt str ck cwt a what) h_X0_has h_X0_load h_X2_bearing ?_
  first | grind [x_ofSk] | grind [x_ofSk, vpS, vpC, vpPair] | grind [x_ofSk, vpS, vpC, vpPair]

theorem ok_X6_strength (l : Launch) (G : GT) (h_X2_has : K_X2_has l G) : K_X6_strength l G := by
  intro b0 i0 i1 bs x0 d0 r0 c0 j0 e0 lf tr hi wi fr fc lc str ce p0
  refine wk_X6_strength l G b0 i0 i1 bs x0 d0 r0 c0 j0 e0 lf tr hi wi fr fc lc str ce (x_strength hi wi str ce) h_X2_has ?_
  first | grind [x_strength] | grind [x_strength, vpS, vpC, vpPair] | grind [x_strength, vpS, vpC, vpPair]

theorem ok_X6_freeze (l : Launch) (G : GT) (h_X2_has : K_X2_has l G) (h_X6_isWithin : K_X6_isWithin l G) : K_X6_freeze l G := by
  intro b0 i0 i1 bs x0 d0 r0 c0 j0 e0 lf tr hi wi fr fc lc str ce v p0
  refine wk_X6_freeze l G b0 i0 i1 bs x0 d0 r0 c0 j0 e0 lf tr hi wi fr fc lc str ce v (x_freezeR hi wi str ce v) (if x_frOk hi wi ce v then upd str ce.toNatClampNeg v else str) h_X2_has h_X6_isWithin ?_
  first | grind [x_freezeR] | grind [x_freezeR, vpS, vpC, vpPair] | grind [x_freezeR, vpS, vpC, vpPair]

theorem ok_X6_frost (l : Launch) (G : GT) (h_X6_refusalOfWeather : K_X6_refusalOfWeather l G) : K_X6_frost l G := by
  intro b0 i0 bs x0 d0 r0 c0 j0 e0 i1 lf tr hi wi fr fc lc v
  refine wk_X6_frost l G b0 i0 bs x0 d0 r0 c0 j0 e0 i1 lf tr hi wi fr fc lc v (x_wx hi wi v fr) (if x_rw hi wi v = 0 then v else fr) h_X6_refusalOfWeather ?_
  first | grind [x_wx, x_rw] | grind [x_wx, x_rw, vpS, vpC, vpPair] | grind [x_wx, x_rw, vpS, vpC, vpPair]

theorem ok_X6_deed_n (l : Launch) (G : GT) (h_X6_isDeedKnown_n : K_X6_isDeedKnown_n l G) (h_X6_isWithin : K_X6_isWithin l G) (h_X6_keepFault : K_X6_keepFault l G) (h_X6_tryDeed_n : K_X6_tryDeed_n l G) : K_X6_deed_n l G := by
  intro b0 bs c0 i0 x0 d0 r0 j0 e0 c1 c2 i1 lf tr cnt hi wi fr fc lc sh a b ce sheet lane i n what p0 p1
  refine wk_X6_deed_n l G b0 bs c0 i0 x0 d0 r0 j0 e0 c1 c2 i1 lf tr cnt hi wi fr fc lc sh a b ce sheet lane i n what (-1) 0 h_X6_isDeedKnown_n h_X6_isWithin h_X6_keepFault h_X6_tryDeed_n ?_
  first | grind [s_shAt, s_in] | grind [s_shAt, s_in, vpS, vpC, vpPair] | grind [s_shAt, s_in, x_kf, vpS, vpC, vpPair]

theorem ok_X6_write_n (l : Launch) (G : GT) (h_X6_keepFault : K_X6_keepFault l G) (h_X6_tryDeed_n : K_X6_tryDeed_n l G) : K_X6_write_n l G := by
  intro b0 bs x0 d0 r0 i0 c0 j0 e0 lf tr sh a b ce sheet lane i n p0 p1
  refine wk_X6_write_n l G b0 bs x0 d0 r0 i0 c0 j0 e0 lf tr sh a b ce sheet lane i n (-1) 0 h_X6_keepFault h_X6_tryDeed_n ?_
  first | grind [s_shAt, s_in] | grind [s_shAt, s_in, vpS, vpC, vpPair] | grind [s_shAt, s_in, x_kf, vpS, vpC, vpPair]

theorem ok_X6_nights (l : Launch) (G : GT) (h_X2_count : K_X2_count l G) (h_X2_strengthen : K_X2_strengthen l G) (h_X6_refusalOfWeather : K_X6_refusalOfWeather l G) : K_X6_nights l G := by
  intro b0 i0 i1 bs x0 d0 r0 c0 j0 e0 lf tr hi wi fr fc lc str n p0
  refine wk_X6_nights l G b0 i0 i1 bs x0 d0 r0 c0 j0 e0 lf tr hi wi fr fc lc str n (x_wx hi wi n (s_count (s_strengthen (hi * wi).toNatClampNeg (n * fr) str) 9 (hi * wi).toNatClampNeg)) (if x_rw hi wi n = 0 then s_strengthen (hi * wi).toNatClampNeg (n * fr) str else str) h_X2_count h_X2_strengthen h_X6_refusalOfWeather ?_
  first | grind [x_wx, s_strengthen, x_rw] | grind [x_wx, s_strengthen, x_rw, vpS, vpC, vpPair] | grind [x_wx, s_strengthen, x_rw, vpS, vpC, vpPair]

theorem ok_X6_thaw (l : Launch) (G : GT) (h_X2_count : K_X2_count l G) (h_X2_strengthen : K_X2_strengthen l G) (h_X6_refusalOfWeather : K_X6_refusalOfWeather l G) : K_X6_thaw l G := by
  intro b0 i0 i1 bs x0 d0 r0 c0 j0 e0 lf tr hi wi fr fc lc str n p0
  refine wk_X6_thaw l G b0 i0 i1 bs x0 d0 r0 c0 j0 e0 lf tr hi wi fr fc lc str n (x_wx hi wi n (s_count (s_strengthen (hi * wi).toNatClampNeg (-n) str) 0 (hi * wi).toNatClampNeg)) (if x_rw hi wi n = 0 then s_strengthen (hi * wi).toNatClampNeg (-n) str else str) h_X2_count h_X2_strengthen h_X6_refusalOfWeather ?_
  first | grind [x_wx, s_strengthen, x_rw] | grind [x_wx, s_strengthen, x_rw, vpS, vpC, vpPair] | grind [x_wx, s_strengthen, x_rw, vpS, vpC, vpPair]

theorem ok_X6_back (l : Launch) (G : GT) (h_X6_isWithin : K_X6_isWithin l G) : K_X6_back l G := by
  intro b0 r0 bs x0 d0 i0 c0 j0 e0 r1 r2 r3 lf tr rc k
  refine wk_X6_back l G b0 r0 bs x0 d0 i0 c0 j0 e0 r1 r2 r3 lf tr rc k (x_backR rc k) (x_backC rc k) h_X6_isWithin ?_
  first | grind [x_backR, x_backC] | grind [x_backR, x_backC, vpS, vpC, vpPair] | grind [x_backR, x_backC, vpS, vpC, vpPair]

theorem ok_X6_sheet (l : Launch) (G : GT) (h_X6_keepFault : K_X6_keepFault l G) (h_X6_newRow : K_X6_newRow l G) : K_X6_sheet l G := by
  intro b0 bs s0 s1 x0 d0 r0 i0 c0 j0 e0 lf tr sla sle sn sh k lane n p0 p1
  refine wk_X6_sheet l G b0 bs s0 s1 x0 d0 r0 i0 c0 j0 e0 lf tr sla sle sn sh k lane n (x_nrR lane n) (x_kf (x_nrR lane n)) (if x_nrOk lane n then lane else sla) (if x_nrOk lane n then n else sle) (if x_nrOk lane n then s_fill 0 sn else sn) h_X6_keepFault h_X6_newRow ?_
  first | grind [s_shAt, s_in, x_nrR, x_kf, s_fill] | grind [s_shAt, s_in, x_nrR, x_kf, s_fill, vpS, vpC, vpPair] | grind [s_shAt, s_in, x_nrR, x_kf, s_fill, vpS, vpC, vpPair]

theorem ok_X6_sheet_n (l : Launch) (G : GT) (h_X6_keepFault : K_X6_keepFault l G) (h_X6_newRow_n : K_X6_newRow_n l G) : K_X6_sheet_n l G := by
  intro b0 bs x0 d0 r0 i0 c0 j0 e0 lf tr sh k lane n p0 p1
  refine wk_X6_sheet_n l G b0 bs x0 d0 r0 i0 c0 j0 e0 lf tr sh k lane n (-1) 0 h_X6_keepFault h_X6_newRow_n ?_
  first | grind [s_shAt, s_in] | grind [s_shAt, s_in, vpS, vpC, vpPair] | grind [s_shAt, s_in, x_kf, vpS, vpC, vpPair]

theorem ok_X6_lose (l : Launch) (G : GT) (h_X4_clear : K_X4_clear l G) (h_X4_isNothing : K_X4_isNothing l G) (h_X6_sheetAt : K_X6_sheetAt l G) : K_X6_lose l G := by
  intro b0 bs s0 x0 d0 r0 i0 c0 j0 e0 s1 lf tr sla sle sh k p0 p1
  refine wk_X6_lose l G b0 bs s0 x0 d0 r0 i0 c0 j0 e0 s1 lf tr sla sle sh k (if s_nothing sla = 0 then 1 else 0) (-1) 0 h_X4_clear h_X4_isNothing h_X6_sheetAt ?_
  first | grind [s_shAt, s_in, s_nothing] | grind [s_shAt, s_in, s_nothing, vpS, vpC, vpPair] | grind [s_shAt, s_in, s_nothing, vpS, vpC, vpPair]

theorem ok_X6_lose_n (l : Launch) (G : GT) (h_X6_sheetAt : K_X6_sheetAt l G) : K_X6_lose_n l G := by
  intro b0 bs x0 d0 r0 i0 c0 j0 e0 lf tr sh k p0 p1
  refine wk_X6_lose_n l G b0 bs x0 d0 r0 i0 c0 j0 e0 lf tr sh k (-1) h_X6_sheetAt ?_
  first | grind [s_shAt, s_in] | grind [s_shAt, s_in, vpS, vpC, vpPair] | grind [s_shAt, s_in, vpS, vpC, vpPair]

theorem ok_X6_put (l : Launch) (G : GT) (h_X6_keepFault : K_X6_keepFault l G) (h_X6_putNumber : K_X6_putNumber l G) : K_X6_put l G := by
  intro b0 bs s0 s1 x0 d0 r0 i0 c0 j0 e0 lf tr sla sle sn sh k ii v p0 p1 p2
  refine wk_X6_put l G b0 bs s0 s1 x0 d0 r0 i0 c0 j0 e0 lf tr sla sle sn sh k ii v (x_pnR sla sle ii) (x_kf (x_pnR sla sle ii)) (if x_pnOk sla sle ii then upd sn ii.toNatClampNeg (s_cut sla v) else sn) h_X6_keepFault h_X6_putNumber ?_
  first | grind [s_shAt, s_in, x_pnR, x_kf, s_cut] | grind [s_shAt, s_in, x_pnR, x_kf, s_cut, vpS, vpC, vpPair] | grind [s_shAt, s_in, x_pnR, x_kf, s_cut, vpS, vpC, vpPair]

theorem ok_X6_put_n (l : Launch) (G : GT) (h_X6_keepFault : K_X6_keepFault l G) (h_X6_putNumber_n : K_X6_putNumber_n l G) : K_X6_put_n l G := by
  intro b0 bs x0 d0 r0 i0 c0 j0 e0 lf tr sh k ii v p0 p1
  refine wk_X6_put_n l G b0 bs x0 d0 r0 i0 c0 j0 e0 lf tr sh k ii v (-1) 0 h_X6_keepFault h_X6_putNumber_n ?_
  first | grind [s_shAt, s_in] | grind [s_shAt, s_in, vpS, vpC, vpPair] | grind [s_shAt, s_in, x_kf, vpS, vpC, vpPair]

theorem ok_X6_cell_n (l : Launch) (G : GT) (h_X6_keepFault : K_X6_keepFault l G) (h_X6_refusalOfPart_n : K_X6_refusalOfPart_n l G) (h_X6_sheetAt : K_X6_sheetAt l G) : K_X6_cell_n l G := by
  intro b0 bs x0 d0 r0 i0 c0 j0 e0 lf tr sh k ii lane p0 p1
  refine wk_X6_cell_n l G b0 bs x0 d0 r0 i0 c0 j0 e0 lf tr sh k ii lane (-9223372036854775808 : Int64) 0 h_X6_keepFault h_X6_refusalOfPart_n h_X6_sheetAt ?_
  first | grind [s_shAt, s_in] | grind [s_shAt, s_in, vpS, vpC, vpPair] | grind [s_shAt, s_in, x_kf, vpS, vpC, vpPair]

theorem ok_X6_copy (l : Launch) (G : GT) (h_X6_copyNumbers : K_X6_copyNumbers l G) (h_X6_keepFault : K_X6_keepFault l G) : K_X6_copy l G := by
  intro b0 bs s0 s1 u0 u1 x0 d0 r0 i0 c0 j0 e0 lf tr sla sle ula ule sn un sh k i other j n p0 p1 p2 p3 p4 p5
  refine wk_X6_copy l G b0 bs s0 s1 u0 u1 x0 d0 r0 i0 c0 j0 e0 lf tr sla sle ula ule sn un sh k i other j n (x_cpR sla sle ula ule i j n) (x_kf (x_cpR sla sle ula ule i j n)) (x_cpS sla sle ula ule sn un i j n) h_X6_copyNumbers h_X6_keepFault ?_
  first | grind [s_shAt, s_in, x_cpR, x_kf, x_cpS] | grind [s_shAt, s_in, x_cpR, x_kf, x_cpS, vpS, vpC, vpPair] | grind [s_shAt, s_in, x_cpR, x_kf, x_cpS, vpS, vpC, vpPair]

theorem ok_X6_copy_s (l : Launch) (G : GT) (h_X6_copyNumbers_s : K_X6_copyNumbers_s l G) (h_X6_keepFault : K_X6_keepFault l G) : K_X6_copy_s l G := by
  intro b0 bs s0 s1 x0 d0 r0 i0 c0 j0 e0 lf tr sla sle sn sh k i other j n p0 p1 p2 p3 p4
  refine wk_X6_copy_s l G b0 bs s0 s1 x0 d0 r0 i0 c0 j0 e0 lf tr sla sle sn sh k i other j n (x_cpR sla sle sla sle i j n) (x_kf (x_cpR sla sle sla sle i j n)) (x_cpS sla sle sla sle sn sn i j n) h_X6_copyNumbers_s h_X6_keepFault ?_
  first | grind [s_shAt, s_in, x_cpR, x_kf, x_cpS] | grind [s_shAt, s_in, x_cpR, x_kf, x_cpS, vpS, vpC, vpPair] | grind [s_shAt, s_in, x_cpR, x_kf, x_cpS, vpS, vpC, vpPair]

theorem ok_X6_copy_n (l : Launch) (G : GT) (h_X6_copyNumbers_n : K_X6_copyNumbers_n l G) (h_X6_keepFault : K_X6_keepFault l G) : K_X6_copy_n l G := by
  intro b0 bs x0 d0 r0 i0 c0 j0 e0 lf tr sh k i other j n p0 p1 p2 p3
  refine wk_X6_copy_n l G b0 bs x0 d0 r0 i0 c0 j0 e0 lf tr sh k i other j n (-1) 0 h_X6_copyNumbers_n h_X6_keepFault ?_
  first | grind [s_shAt, s_in] | grind [s_shAt, s_in, vpS, vpC, vpPair] | grind [s_shAt, s_in, x_kf, vpS, vpC, vpPair]

theorem ok_X6_copy_n1 (l : Launch) (G : GT) (h_X6_copyNumbers_n1 : K_X6_copyNumbers_n1 l G) (h_X6_keepFault : K_X6_keepFault l G) : K_X6_copy_n1 l G := by
  intro b0 bs x0 d0 r0 i0 c0 j0 e0 lf tr sh k i other j n u0 p0 p1 p2 p3
  refine wk_X6_copy_n1 l G b0 bs x0 d0 r0 i0 c0 j0 e0 lf tr sh k i other j n u0 (-1) 0 h_X6_copyNumbers_n1 h_X6_keepFault ?_
  first | grind [s_shAt, s_in] | grind [s_shAt, s_in, vpS, vpC, vpPair] | grind [s_shAt, s_in, x_kf, vpS, vpC, vpPair]

theorem ok_X6_copy_n2 (l : Launch) (G : GT) (h_X6_copyNumbers_n2 : K_X6_copyNumbers_n2 l G) (h_X6_keepFault : K_X6_keepFault l G) : K_X6_copy_n2 l G := by
  intro b0 bs x0 d0 r0 i0 c0 j0 e0 lf tr sh k i other j n s0 p0 p1 p2 p3
  refine wk_X6_copy_n2 l G b0 bs x0 d0 r0 i0 c0 j0 e0 lf tr sh k i other j n s0 (-1) 0 h_X6_copyNumbers_n2 h_X6_keepFault ?_
  first | grind [s_shAt, s_in] | grind [s_shAt, s_in, vpS, vpC, vpPair] | grind [s_shAt, s_in, x_kf, vpS, vpC, vpPair]

theorem ok_X6_tell (l : Launch) (G : GT) (h_X0_has : K_X0_has l G) (h_X6_bankerGives : K_X6_bankerGives l G) (h_X6_clerkGives : K_X6_clerkGives l G) (h_X6_skaterGives : K_X6_skaterGives l G) : K_X6_tell l G := by
  intro b0 c0 c1 c2 bs x0 d0 r0 i0 j0 e0 lf tr cnt ck cwt a p0
  refine wk_X6_tell l G b0 c0 c1 c2 bs x0 d0 r0 i0 j0 e0 lf tr cnt ck cwt a (x_tellR cnt ck cwt a) (x_tellT cnt ck a tr) h_X0_has h_X6_bankerGives h_X6_clerkGives h_X6_skaterGives ?_
  first | grind [x_tellR, x_tellT] | grind [x_tellR, x_tellT, vpS, vpC, vpPair] | grind [x_tellR, x_tellT, vpS, vpC, vpPair]

theorem ok_X6_signed (l : Launch) (G : GT) (h_X0_has : K_X0_has l G) (h_X6_leave : K_X6_leave l G) : K_X6_signed l G := by
  intro b0 c0 c1 c2 bs x0 d0 r0 i0 j0 e0 lf tr cnt ck cwt a p0
  refine wk_X6_signed l G b0 c0 c1 c2 bs x0 d0 r0 i0 j0 e0 lf tr cnt ck cwt a (x_signR cnt ck a) (x_signT cnt ck a tr) h_X0_has h_X6_leave ?_
  first | grind [x_signR, x_signT] | grind [x_signR, x_signT, vpS, vpC, vpPair] | grind [x_signR, x_signT, vpS, vpC, vpPair]

theorem ok_X6_as (l : Launch) (G : GT) (h_X6_keepFault : K_X6_keepFault l G) (h_X6_takeAs : K_X6_takeAs l G) : K_X6_as l G := by
  intro b0 c0 c1 c2 bs x0 d0 r0 i0 j0 e0 lf tr cnt ck cwt a kind p0
  refine wk_X6_as l G b0 c0 c1 c2 bs x0 d0 r0 i0 j0 e0 lf tr cnt ck cwt a kind (x_asR cnt ck a kind) (x_kf (x_asR cnt ck a kind)) h_X6_keepFault h_X6_takeAs ?_
  first | grind [x_asR, x_kf] | grind [x_asR, x_kf, vpS, vpC, vpPair] | grind [x_asR, x_kf, vpS, vpC, vpPair]

theorem ok_X6_trace (l : Launch) (G : GT) : K_X6_trace l G := by
  intro b0 bs x0 d0 r0 i0 c0 j0 e0 lf tr
  refine wk_X6_trace l G b0 bs x0 d0 r0 i0 c0 j0 e0 lf tr tr ?_
  first | grind [vp4] | grind [vpS, vpC, vpPair] | grind [vpS, vpC, vpPair]

theorem ok_X6_fault (l : Launch) (G : GT) : K_X6_fault l G := by
  intro b0 bs x0 d0 r0 i0 c0 j0 e0 lf tr
  refine wk_X6_fault l G b0 bs x0 d0 r0 i0 c0 j0 e0 lf tr lf ?_
  first | grind [vp4] | grind [vpS, vpC, vpPair] | grind [vpS, vpC, vpPair]

theorem ok_X6_many (l : Launch) (G : GT) (h_X2_cells : K_X2_cells l G) : K_X6_many l G := by
  intro b0 c0 i0 r0 bs x0 d0 j0 e0 c1 c2 i1 r1 r2 r3 lf tr cnt hi wi fr fc lc rc what
  refine wk_X6_many l G b0 c0 i0 r0 bs x0 d0 j0 e0 c1 c2 i1 r1 r2 r3 lf tr cnt hi wi fr fc lc rc what (x_many hi wi fr cnt rc what) h_X2_cells ?_
  first | grind [x_many] | grind [x_many, vpS, vpC, vpPair] | grind [x_many, vpS, vpC, vpPair]

