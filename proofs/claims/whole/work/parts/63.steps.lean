/-! one step a method -/
set_option maxHeartbeats 200000 in
theorem st_trace (l : Launch) (G : GT) {xa ma : Nat} {W : va_W} (hI : INV G xa ma W) : STEP Value.int l G xa ma yX6_trace cX6_trace 1 (some .int) rm_X6_trace yX7_trace cX7_trace 1 rm_X7_trace [] W := by
  obtain ⟨ad, sh, v, f, am, w, g, rfl, rfl, hsh, rfl, hR⟩ := hI
  have hR0 := hR
  obtain ⟨ga, gb, s, fr, rd, h0, hRI, ⟨w0, w31⟩, ⟨v8, w23⟩, hS, hC, hRd, hSh⟩ := hR
  obtain ⟨g0, hs, hz, hfr, hrd⟩ := id h0
  obtain ⟨v9, v10, v11, v12, v13, v14, w1, w2, w3, w5, w8, w9⟩ := id hRI
  have dX : okD (v 9) (v 10) := by rw [v9, v10]; exact g0.dd
  have dM : okD (w 1) (w 2) := by rw [w1, w2]; exact g0.dd
  have nX : okN (v 14) := by rw [v14]; exact ⟨s, hs, rfl⟩
  have nM : okN (w 5) := by rw [w5]; exact ⟨s, hs, rfl⟩
  have rX : okR (v 8) (f 2) (f 3) := by rw [v8]; exact (hRd.okR hrd hs g0.le).1
  have rM : okR (w 23) (g 24) (g 25) := by rw [w23]; exact (hRd.okR hrd hs g0.le).2
  refine step_J ((cw_trace l G ad sh v f).toJ) ((mw_trace l G am w g).toJ) ?_ rfl hsh ?_
  · exact w31.symm
  · intro ii jj
    exact hR0
set_option maxHeartbeats 200000 in
theorem st_fault (l : Launch) (G : GT) {xa ma : Nat} {W : va_W} (hI : INV G xa ma W) : STEP Value.int l G xa ma yX6_fault cX6_fault 1 (some .int) rm_X6_fault yX7_fault cX7_fault 1 rm_X7_fault [] W := by
  obtain ⟨ad, sh, v, f, am, w, g, rfl, rfl, hsh, rfl, hR⟩ := hI
  have hR0 := hR
  obtain ⟨ga, gb, s, fr, rd, h0, hRI, ⟨w0, w31⟩, ⟨v8, w23⟩, hS, hC, hRd, hSh⟩ := hR
  obtain ⟨g0, hs, hz, hfr, hrd⟩ := id h0
  obtain ⟨v9, v10, v11, v12, v13, v14, w1, w2, w3, w5, w8, w9⟩ := id hRI
  have dX : okD (v 9) (v 10) := by rw [v9, v10]; exact g0.dd
  have dM : okD (w 1) (w 2) := by rw [w1, w2]; exact g0.dd
  have nX : okN (v 14) := by rw [v14]; exact ⟨s, hs, rfl⟩
  have nM : okN (w 5) := by rw [w5]; exact ⟨s, hs, rfl⟩
  have rX : okR (v 8) (f 2) (f 3) := by rw [v8]; exact (hRd.okR hrd hs g0.le).1
  have rM : okR (w 23) (g 24) (g 25) := by rw [w23]; exact (hRd.okR hrd hs g0.le).2
  refine step_J ((cw_fault l G ad sh v f).toJ) ((mw_fault l G am w g).toJ) ?_ rfl hsh ?_
  · exact w0.symm
  · intro ii jj
    exact hR0
set_option maxHeartbeats 200000 in
theorem st_many (l : Launch) (G : GT) {xa ma : Nat} {W : va_W} (hI : INV G xa ma W) (what : Int32) : STEP Value.int l G xa ma yX6_many cX6_many 2 (some .int) rm_X6_many yX7_many cX7_many 2 rm_X7_many [.int what] W := by
  obtain ⟨ad, sh, v, f, am, w, g, rfl, rfl, hsh, rfl, hR⟩ := hI
  have hR0 := hR
  obtain ⟨ga, gb, s, fr, rd, h0, hRI, ⟨w0, w31⟩, ⟨v8, w23⟩, hS, hC, hRd, hSh⟩ := hR
  obtain ⟨g0, hs, hz, hfr, hrd⟩ := id h0
  obtain ⟨v9, v10, v11, v12, v13, v14, w1, w2, w3, w5, w8, w9⟩ := id hRI
  have dX : okD (v 9) (v 10) := by rw [v9, v10]; exact g0.dd
  have dM : okD (w 1) (w 2) := by rw [w1, w2]; exact g0.dd
  have nX : okN (v 14) := by rw [v14]; exact ⟨s, hs, rfl⟩
  have nM : okN (w 5) := by rw [w5]; exact ⟨s, hs, rfl⟩
  have rX : okR (v 8) (f 2) (f 3) := by rw [v8]; exact (hRd.okR hrd hs g0.le).1
  have rM : okR (w 23) (g 24) (g 25) := by rw [w23]; exact (hRd.okR hrd hs g0.le).2
  refine step_J ((cw_many l G ad sh v f what).toJ) ((mw_many l G am w g what).toJ) ?_ rfl hsh ?_
  · rw [v9, v10, v11, v14, v8, w1, w2, w3, w5, w23]
    exact many_ans ..
  · intro ii jj
    exact hR0
set_option maxHeartbeats 200000 in
theorem st_ofSkater (l : Launch) (G : GT) {xa ma : Nat} {W : va_W} (hI : INV G xa ma W) (a what : Int32) : STEP Value.int l G xa ma yX6_ofSkater cX6_ofSkater 3 (some .int) rm_X6_ofSkater yX7_ofSkater cX7_ofSkater 3 rm_X7_ofSkater [.int a, .int what] W := by
  obtain ⟨ad, sh, v, f, am, w, g, rfl, rfl, hsh, rfl, hR⟩ := hI
  have hR0 := hR
  obtain ⟨ga, gb, s, fr, rd, h0, hRI, ⟨w0, w31⟩, ⟨v8, w23⟩, hS, hC, hRd, hSh⟩ := hR
  obtain ⟨g0, hs, hz, hfr, hrd⟩ := id h0
  obtain ⟨v9, v10, v11, v12, v13, v14, w1, w2, w3, w5, w8, w9⟩ := id hRI
  have dX : okD (v 9) (v 10) := by rw [v9, v10]; exact g0.dd
  have dM : okD (w 1) (w 2) := by rw [w1, w2]; exact g0.dd
  have nX : okN (v 14) := by rw [v14]; exact ⟨s, hs, rfl⟩
  have nM : okN (w 5) := by rw [w5]; exact ⟨s, hs, rfl⟩
  have rX : okR (v 8) (f 2) (f 3) := by rw [v8]; exact (hRd.okR hrd hs g0.le).1
  have rM : okR (w 23) (g 24) (g 25) := by rw [w23]; exact (hRd.okR hrd hs g0.le).2
  refine step_J ((cw_ofSkater l G ad sh v f a what dX nX).toJ) ((mw_ofSkater l G am w g a what dM nM).toJ) ?_ rfl hsh ?_
  · rw [v9, v10, v14, w1, w2, w5, w8, w9]
    exact ofSk_ans g0 hs hS hC a what
  · intro ii jj
    exact hR0
set_option maxHeartbeats 200000 in
theorem st_strength (l : Launch) (G : GT) {xa ma : Nat} {W : va_W} (hI : INV G xa ma W) (ce : Int32) : STEP Value.int l G xa ma yX6_strength cX6_strength 2 (some .int) rm_X6_strength yX7_strength cX7_strength 2 rm_X7_strength [.int ce] W := by
  obtain ⟨ad, sh, v, f, am, w, g, rfl, rfl, hsh, rfl, hR⟩ := hI
  have hR0 := hR
  obtain ⟨ga, gb, s, fr, rd, h0, hRI, ⟨w0, w31⟩, ⟨v8, w23⟩, hS, hC, hRd, hSh⟩ := hR
  obtain ⟨g0, hs, hz, hfr, hrd⟩ := id h0
  obtain ⟨v9, v10, v11, v12, v13, v14, w1, w2, w3, w5, w8, w9⟩ := id hRI
  have dX : okD (v 9) (v 10) := by rw [v9, v10]; exact g0.dd
  have dM : okD (w 1) (w 2) := by rw [w1, w2]; exact g0.dd
  have nX : okN (v 14) := by rw [v14]; exact ⟨s, hs, rfl⟩
  have nM : okN (w 5) := by rw [w5]; exact ⟨s, hs, rfl⟩
  have rX : okR (v 8) (f 2) (f 3) := by rw [v8]; exact (hRd.okR hrd hs g0.le).1
  have rM : okR (w 23) (g 24) (g 25) := by rw [w23]; exact (hRd.okR hrd hs g0.le).2
  refine step_J ((cw_strength l G ad sh v f ce dX).toJ) ((mw_strength l G am w g ce dM).toJ) ?_ rfl hsh ?_
  · rw [v9, v10, w1, w2]
    exact strength_ans g0 hS ce
  · intro ii jj
    exact hR0
set_option maxHeartbeats 200000 in
theorem st_freeze (l : Launch) (G : GT) {xa ma : Nat} {W : va_W} (hI : INV G xa ma W) (ce vv : Int32) : STEP Value.int l G xa ma yX6_freeze cX6_freeze 4 (some .int) rm_X6_freeze yX7_freeze cX7_freeze 4 rm_X7_freeze [.int ce, .int vv] W := by
  obtain ⟨ad, sh, v, f, am, w, g, rfl, rfl, hsh, rfl, hR⟩ := hI
  have hR0 := hR
  obtain ⟨ga, gb, s, fr, rd, h0, hRI, ⟨w0, w31⟩, ⟨v8, w23⟩, hS, hC, hRd, hSh⟩ := hR
  obtain ⟨g0, hs, hz, hfr, hrd⟩ := id h0
  obtain ⟨v9, v10, v11, v12, v13, v14, w1, w2, w3, w5, w8, w9⟩ := id hRI
  have dX : okD (v 9) (v 10) := by rw [v9, v10]; exact g0.dd
  have dM : okD (w 1) (w 2) := by rw [w1, w2]; exact g0.dd
  have nX : okN (v 14) := by rw [v14]; exact ⟨s, hs, rfl⟩
  have nM : okN (w 5) := by rw [w5]; exact ⟨s, hs, rfl⟩
  have rX : okR (v 8) (f 2) (f 3) := by rw [v8]; exact (hRd.okR hrd hs g0.le).1
  have rM : okR (w 23) (g 24) (g 25) := by rw [w23]; exact (hRd.okR hrd hs g0.le).2
  refine step_J ((cw_freeze l G ad sh v f ce vv dX).toJ) ((mw_freeze l G am w g ce vv dM).toJ) ?_ rfl hsh ?_
  · rw [v9, v10, w1, w2]
    exact (freeze_ans g0 hS ce vv).1
  · intro ii jj
    exact ⟨ga, gb, s, fr, rd, h0, hRI, ⟨w0, w31⟩, ⟨v8, w23⟩, (by have := (freeze_ans g0 hS ce vv).2; rw [← v9, ← v10] at this; have h2 : m_freezeS (w 1) (w 2) (g 4) ce vv = m_freezeS (v 9) (v 10) (g 4) ce vv := by { rw [v9, v10, w1, w2] }; show rS (ga * gb) _ (m_freezeS (w 1) (w 2) (g 4) ce vv); rw [h2]; exact this), hC, hRd, hSh.keep (fun _ _ => rfl) (fun i hi => by rw [updF_ne (by omega)]) rfl rfl rfl⟩
set_option maxHeartbeats 200000 in
theorem st_frost (l : Launch) (G : GT) {xa ma : Nat} {W : va_W} (hI : INV G xa ma W) (vv : Int32) : STEP Value.int l G xa ma yX6_frost cX6_frost 4 (some .int) rm_X6_frost yX7_frost cX7_frost 3 rm_X7_frost [.int vv] W := by
  obtain ⟨ad, sh, v, f, am, w, g, rfl, rfl, hsh, rfl, hR⟩ := hI
  have hR0 := hR
  obtain ⟨ga, gb, s, fr, rd, h0, hRI, ⟨w0, w31⟩, ⟨v8, w23⟩, hS, hC, hRd, hSh⟩ := hR
  obtain ⟨g0, hs, hz, hfr, hrd⟩ := id h0
  obtain ⟨v9, v10, v11, v12, v13, v14, w1, w2, w3, w5, w8, w9⟩ := id hRI
  have dX : okD (v 9) (v 10) := by rw [v9, v10]; exact g0.dd
  have dM : okD (w 1) (w 2) := by rw [w1, w2]; exact g0.dd
  have nX : okN (v 14) := by rw [v14]; exact ⟨s, hs, rfl⟩
  have nM : okN (w 5) := by rw [w5]; exact ⟨s, hs, rfl⟩
  have rX : okR (v 8) (f 2) (f 3) := by rw [v8]; exact (hRd.okR hrd hs g0.le).1
  have rM : okR (w 23) (g 24) (g 25) := by rw [w23]; exact (hRd.okR hrd hs g0.le).2
  have hx := rw_ans g0 hs hz vv 0
  refine step_J ((cw_frost l G ad sh v f vv).toJ) ((mw_frost l G am w g vv).toJ) ?_ rfl hsh ?_
  · rw [v9, v10, w5, v11, w3]
    exact (rw_ans g0 hs hz vv (nI fr)).1
  · intro ii jj
    by_cases hok : m_wxOk (w 5) vv
    · have hok2 : x_rw (v 9) (v 10) vv = 0 := by rw [v9, v10, hx.2, ← w5]; exact hok
      obtain ⟨N, hN, e⟩ := nI_of2 (n := 9) (M := 9) (by decide) (Int32.not_lt.mpr hok.1.1) hok.1.2
      rw [if_pos hok, if_pos hok2]
      exact ⟨ga, gb, s, N, rd, ⟨g0, hs, hz, hN, hrd⟩, ⟨v9, v10, e, v12, v13, v14, w1, w2, e, w5, w8, w9⟩, ⟨w0, w31⟩, ⟨v8, w23⟩, hS, hC, hRd, hSh.keep (fun i hi => by rw [upd_ne (by omega)]) (fun _ _ => rfl) rfl rfl rfl⟩
    · have hok2 : ¬ x_rw (v 9) (v 10) vv = 0 := by rw [v9, v10, hx.2, ← w5]; exact hok
      rw [if_neg hok, if_neg hok2]
      exact ⟨ga, gb, s, fr, rd, h0, ⟨v9, v10, v11, v12, v13, v14, w1, w2, w3, w5, w8, w9⟩, ⟨w0, w31⟩, ⟨v8, w23⟩, hS, hC, hRd, hSh.keep (fun i hi => by rw [upd_ne (by omega)]) (fun _ _ => rfl) rfl rfl rfl⟩
set_option maxHeartbeats 200000 in
theorem st_nights (l : Launch) (G : GT) {xa ma : Nat} {W : va_W} (hI : INV G xa ma W) (n : Int32) : STEP Value.int l G xa ma yX6_nights cX6_nights 3 (some .int) rm_X6_nights yX7_nights cX7_nights 4 rm_X7_nights [.int n] W := by
  obtain ⟨ad, sh, v, f, am, w, g, rfl, rfl, hsh, rfl, hR⟩ := hI
  have hR0 := hR
  obtain ⟨ga, gb, s, fr, rd, h0, hRI, ⟨w0, w31⟩, ⟨v8, w23⟩, hS, hC, hRd, hSh⟩ := hR
  obtain ⟨g0, hs, hz, hfr, hrd⟩ := id h0
  obtain ⟨v9, v10, v11, v12, v13, v14, w1, w2, w3, w5, w8, w9⟩ := id hRI
  have dX : okD (v 9) (v 10) := by rw [v9, v10]; exact g0.dd
  have dM : okD (w 1) (w 2) := by rw [w1, w2]; exact g0.dd
  have nX : okN (v 14) := by rw [v14]; exact ⟨s, hs, rfl⟩
  have nM : okN (w 5) := by rw [w5]; exact ⟨s, hs, rfl⟩
  have rX : okR (v 8) (f 2) (f 3) := by rw [v8]; exact (hRd.okR hrd hs g0.le).1
  have rM : okR (w 23) (g 24) (g 25) := by rw [w23]; exact (hRd.okR hrd hs g0.le).2
  have hx := rw_ans g0 hs hz n 0
  have hl := g0.le
  have hn : (v 9 * v 10).toNatClampNeg = ga * gb := by rw [v9, v10, g0.cells, nI_clamp (by omega)]
  have hm : (w 1 * w 2).toNatClampNeg = ga * gb := by rw [w1, w2, g0.cells, nI_clamp (by omega)]
  have key : m_wxOk (nI s) n → rS (ga * gb) (s_strengthen (ga * gb) (n * v 11) (f 5)) (m_nightS (ga * gb) (n * w 3) (g 4)) := fun hok => by
    obtain ⟨N, hN, e⟩ := nI_of2 (n := 9) (M := 9) (by decide) (Int32.not_lt.mpr hok.1.1) hok.1.2
    rw [e, v11, w3]
    exact nights_ans g0 hS hN hfr
  refine step_J ((cw_nights l G ad sh v f n dX).toJ) ((mw_nights l G am w g n dM).toJ) ?_ rfl hsh ?_
  · rw [hn, hm, v9, v10, w5]
    refine wx_same g0 hs hz _ _ _ fun hok => ?_
    exact count_cong fun k hk => (key hok k hk).1
  · intro ii jj
    rw [hn, hm]
    by_cases hok : m_wxOk (w 5) n
    · have hok2 : x_rw (v 9) (v 10) n = 0 := by rw [v9, v10, hx.2, ← w5]; exact hok
      rw [if_pos hok, if_pos hok2]
      exact ⟨ga, gb, s, fr, rd, h0, hRI, ⟨w0, w31⟩, ⟨v8, w23⟩, (key (by rw [← w5]; exact hok)), hC, hRd, hSh.keep (fun _ _ => rfl) (fun i hi => by rw [updF_ne (by omega)]) rfl rfl rfl⟩
    · have hok2 : ¬ x_rw (v 9) (v 10) n = 0 := by rw [v9, v10, hx.2, ← w5]; exact hok
      rw [if_neg hok, if_neg hok2]
      exact ⟨ga, gb, s, fr, rd, h0, hRI, ⟨w0, w31⟩, ⟨v8, w23⟩, hS, hC, hRd, hSh.keep (fun _ _ => rfl) (fun i hi => by rw [updF_ne (by omega)]) rfl rfl rfl⟩
set_option maxHeartbeats 200000 in
theorem st_thaw (l : Launch) (G : GT) {xa ma : Nat} {W : va_W} (hI : INV G xa ma W) (n : Int32) : STEP Value.int l G xa ma yX6_thaw cX6_thaw 3 (some .int) rm_X6_thaw yX7_thaw cX7_thaw 4 rm_X7_thaw [.int n] W := by
  obtain ⟨ad, sh, v, f, am, w, g, rfl, rfl, hsh, rfl, hR⟩ := hI
  have hR0 := hR
  obtain ⟨ga, gb, s, fr, rd, h0, hRI, ⟨w0, w31⟩, ⟨v8, w23⟩, hS, hC, hRd, hSh⟩ := hR
  obtain ⟨g0, hs, hz, hfr, hrd⟩ := id h0
  obtain ⟨v9, v10, v11, v12, v13, v14, w1, w2, w3, w5, w8, w9⟩ := id hRI
  have dX : okD (v 9) (v 10) := by rw [v9, v10]; exact g0.dd
  have dM : okD (w 1) (w 2) := by rw [w1, w2]; exact g0.dd
  have nX : okN (v 14) := by rw [v14]; exact ⟨s, hs, rfl⟩
  have nM : okN (w 5) := by rw [w5]; exact ⟨s, hs, rfl⟩
  have rX : okR (v 8) (f 2) (f 3) := by rw [v8]; exact (hRd.okR hrd hs g0.le).1
  have rM : okR (w 23) (g 24) (g 25) := by rw [w23]; exact (hRd.okR hrd hs g0.le).2
  have hx := rw_ans g0 hs hz n 0
  have hl := g0.le
  have hn : (v 9 * v 10).toNatClampNeg = ga * gb := by rw [v9, v10, g0.cells, nI_clamp (by omega)]
  have hm : (w 1 * w 2).toNatClampNeg = ga * gb := by rw [w1, w2, g0.cells, nI_clamp (by omega)]
  have key : m_wxOk (nI s) n → rS (ga * gb) (s_strengthen (ga * gb) (-n) (f 5)) (m_thawS (ga * gb) n (g 4)) := fun hok => by
    obtain ⟨N, hN, e⟩ := nI_of2 (n := 9) (M := 9) (by decide) (Int32.not_lt.mpr hok.1.1) hok.1.2
    rw [e]
    exact thaw_ans g0 hS hN
  refine step_J ((cw_thaw l G ad sh v f n dX).toJ) ((mw_thaw l G am w g n dM).toJ) ?_ rfl hsh ?_
  · rw [hn, hm, v9, v10, w5]
    refine wx_same g0 hs hz _ _ _ fun hok => ?_
    exact count_cong fun k hk => (key hok k hk).1
  · intro ii jj
    rw [hn, hm]
    by_cases hok : m_wxOk (w 5) n
    · have hok2 : x_rw (v 9) (v 10) n = 0 := by rw [v9, v10, hx.2, ← w5]; exact hok
      rw [if_pos hok, if_pos hok2]
      exact ⟨ga, gb, s, fr, rd, h0, hRI, ⟨w0, w31⟩, ⟨v8, w23⟩, (key (by rw [← w5]; exact hok)), hC, hRd, hSh.keep (fun _ _ => rfl) (fun i hi => by rw [updF_ne (by omega)]) rfl rfl rfl⟩
    · have hok2 : ¬ x_rw (v 9) (v 10) n = 0 := by rw [v9, v10, hx.2, ← w5]; exact hok
      rw [if_neg hok, if_neg hok2]
      exact ⟨ga, gb, s, fr, rd, h0, hRI, ⟨w0, w31⟩, ⟨v8, w23⟩, hS, hC, hRd, hSh.keep (fun _ _ => rfl) (fun i hi => by rw [updF_ne (by omega)]) rfl rfl rfl⟩
set_option maxHeartbeats 200000 in
theorem st_bond (l : Launch) (G : GT) {xa ma : Nat} {W : va_W} (hI : INV G xa ma W) (a b fro to k : Int32) : STEP Value.int l G xa ma yX6_bond cX6_bond 9 (some .int) rm_X6_bond yX7_bond cX7_bond 9 rm_X7_bond [.int a, .int b, .int fro, .int to, .int k] W := by
  obtain ⟨ad, sh, v, f, am, w, g, rfl, rfl, hsh, rfl, hR⟩ := hI
  have hR0 := hR
  obtain ⟨ga, gb, s, fr, rd, h0, hRI, ⟨w0, w31⟩, ⟨v8, w23⟩, hS, hC, hRd, hSh⟩ := hR
  obtain ⟨g0, hs, hz, hfr, hrd⟩ := id h0
  obtain ⟨v9, v10, v11, v12, v13, v14, w1, w2, w3, w5, w8, w9⟩ := id hRI
  have dX : okD (v 9) (v 10) := by rw [v9, v10]; exact g0.dd
  have dM : okD (w 1) (w 2) := by rw [w1, w2]; exact g0.dd
  have nX : okN (v 14) := by rw [v14]; exact ⟨s, hs, rfl⟩
  have nM : okN (w 5) := by rw [w5]; exact ⟨s, hs, rfl⟩
  have rX : okR (v 8) (f 2) (f 3) := by rw [v8]; exact (hRd.okR hrd hs g0.le).1
  have rM : okR (w 23) (g 24) (g 25) := by rw [w23]; exact (hRd.okR hrd hs g0.le).2
  have hb := bond_ans g0 hs hS hC (g 22) a b fro to k
  refine step_J ((cw_bond l G ad sh v f a b fro to k dX nX).toJ) (mw_bond l G am w g a b fro to k dM nM (by rw [w1, w2, w5, w8, w9]; exact hb.2)) ?_ rfl hsh ?_
  · rw [v9, v10, v12, v13, v14, w1, w2, w5, w8, w9]
    exact hb.1
  · intro ii jj
    exact ⟨ga, gb, s, fr, rd, h0, hRI, ⟨w0, w31⟩, ⟨v8, w23⟩, hS, hC, hRd, hSh.keep (fun _ _ => rfl) (fun _ _ => rfl) rfl rfl rfl⟩
set_option maxHeartbeats 200000 in
theorem st_holds (l : Launch) (G : GT) {xa ma : Nat} {W : va_W} (hI : INV G xa ma W) (a b fro to : Int32) : STEP Value.int l G xa ma yX6_holds cX6_holds 8 (some .int) rm_X6_holds yX7_holds cX7_holds 7 rm_X7_holds [.int a, .int b, .int fro, .int to] W := by
  obtain ⟨ad, sh, v, f, am, w, g, rfl, rfl, hsh, rfl, hR⟩ := hI
  have hR0 := hR
  obtain ⟨ga, gb, s, fr, rd, h0, hRI, ⟨w0, w31⟩, ⟨v8, w23⟩, hS, hC, hRd, hSh⟩ := hR
  obtain ⟨g0, hs, hz, hfr, hrd⟩ := id h0
  obtain ⟨v9, v10, v11, v12, v13, v14, w1, w2, w3, w5, w8, w9⟩ := id hRI
  have dX : okD (v 9) (v 10) := by rw [v9, v10]; exact g0.dd
  have dM : okD (w 1) (w 2) := by rw [w1, w2]; exact g0.dd
  have nX : okN (v 14) := by rw [v14]; exact ⟨s, hs, rfl⟩
  have nM : okN (w 5) := by rw [w5]; exact ⟨s, hs, rfl⟩
  have rX : okR (v 8) (f 2) (f 3) := by rw [v8]; exact (hRd.okR hrd hs g0.le).1
  have rM : okR (w 23) (g 24) (g 25) := by rw [w23]; exact (hRd.okR hrd hs g0.le).2
  refine step_J ((cw_holds l G ad sh v f a b fro to dX nX).toJ) (mw_holds l G am w g a b fro to dM nM) ?_ rfl hsh ?_
  · rw [v9, v10, v12, v13, v14, w1, w2, w5, w8]
    exact holds_ans g0 hs hS hC a b fro to
  · intro ii jj
    exact ⟨ga, gb, s, fr, rd, h0, ⟨v9, v10, v11, v12, v13, v14, w1, w2, w3, w5, w8, ite_self0 w9⟩, ⟨w0, w31⟩, ⟨v8, w23⟩, hS, hC, hRd, hSh.keep (fun _ _ => rfl) (fun _ _ => rfl) rfl rfl rfl⟩
set_option maxHeartbeats 200000 in
theorem st_neck (l : Launch) (G : GT) {xa ma : Nat} {W : va_W} (hI : INV G xa ma W) (a b fro to : Int32) : STEP Value.int l G xa ma yX6_neck cX6_neck 6 (some .int) rm_X6_neck yX7_neck cX7_neck 8 rm_X7_neck [.int a, .int b, .int fro, .int to] W := by
  obtain ⟨ad, sh, v, f, am, w, g, rfl, rfl, hsh, rfl, hR⟩ := hI
  have hR0 := hR
  obtain ⟨ga, gb, s, fr, rd, h0, hRI, ⟨w0, w31⟩, ⟨v8, w23⟩, hS, hC, hRd, hSh⟩ := hR
  obtain ⟨g0, hs, hz, hfr, hrd⟩ := id h0
  obtain ⟨v9, v10, v11, v12, v13, v14, w1, w2, w3, w5, w8, w9⟩ := id hRI
  have dX : okD (v 9) (v 10) := by rw [v9, v10]; exact g0.dd
  have dM : okD (w 1) (w 2) := by rw [w1, w2]; exact g0.dd
  have nX : okN (v 14) := by rw [v14]; exact ⟨s, hs, rfl⟩
  have nM : okN (w 5) := by rw [w5]; exact ⟨s, hs, rfl⟩
  have rX : okR (v 8) (f 2) (f 3) := by rw [v8]; exact (hRd.okR hrd hs g0.le).1
  have rM : okR (w 23) (g 24) (g 25) := by rw [w23]; exact (hRd.okR hrd hs g0.le).2
  refine step_J ((cw_neck l G ad sh v f a b fro to dX nX).toJ) (mw_neck l G am w g a b fro to dM nM) ?_ rfl hsh ?_
  · rw [v9, v10, v12, v13, v14, w1, w2, w5, w8, w9]
    exact neck_ans g0 hs hS hC a b fro to
  · intro ii jj
    exact ⟨ga, gb, s, fr, rd, h0, ⟨v9, v10, v11, v12, v13, v14, w1, w2, w3, w5, ite_self0 w8, w9⟩, ⟨w0, w31⟩, ⟨v8, w23⟩, hS, hC, hRd, hSh.keep (fun _ _ => rfl) (fun _ _ => rfl) rfl rfl rfl⟩
set_option maxHeartbeats 200000 in
theorem st_odds (l : Launch) (G : GT) {xa ma : Nat} {W : va_W} (hI : INV G xa ma W) (a b fro to set which : Int32) : STEP Value.long l G xa ma yX6_odds cX6_odds 11 (some .long) rm_X6_odds yX7_odds cX7_odds 11 rm_X7_odds [.int a, .int b, .int fro, .int to, .int set, .int which] W := by
  obtain ⟨ad, sh, v, f, am, w, g, rfl, rfl, hsh, rfl, hR⟩ := hI
  have hR0 := hR
  obtain ⟨ga, gb, s, fr, rd, h0, hRI, ⟨w0, w31⟩, ⟨v8, w23⟩, hS, hC, hRd, hSh⟩ := hR
  obtain ⟨g0, hs, hz, hfr, hrd⟩ := id h0
  obtain ⟨v9, v10, v11, v12, v13, v14, w1, w2, w3, w5, w8, w9⟩ := id hRI
  have dX : okD (v 9) (v 10) := by rw [v9, v10]; exact g0.dd
  have dM : okD (w 1) (w 2) := by rw [w1, w2]; exact g0.dd
  have nX : okN (v 14) := by rw [v14]; exact ⟨s, hs, rfl⟩
  have nM : okN (w 5) := by rw [w5]; exact ⟨s, hs, rfl⟩
  have rX : okR (v 8) (f 2) (f 3) := by rw [v8]; exact (hRd.okR hrd hs g0.le).1
  have rM : okR (w 23) (g 24) (g 25) := by rw [w23]; exact (hRd.okR hrd hs g0.le).2
  refine step_J ((cw_odds l G ad sh v f a b fro to set which dX nX).toJ) (mw_odds l G am w g a b fro to set which dM nM) ?_ rfl hsh ?_
  · rw [v9, v10, v12, v13, v14, w1, w2, w5, w9]
    exact odds_ans g0 hs hS hC a b fro to set which
  · intro ii jj
    exact ⟨ga, gb, s, fr, rd, h0, ⟨v9, v10, v11, v12, v13, v14, w1, w2, w3, w5, ite_self0 w8, w9⟩, ⟨w0, w31⟩, ⟨v8, w23⟩, hS, hC, hRd, hSh.keep (fun _ _ => rfl) (fun _ _ => rfl) rfl rfl rfl⟩
set_option maxHeartbeats 200000 in
theorem st_alone (l : Launch) (G : GT) {xa ma : Nat} {W : va_W} (hI : INV G xa ma W) (a fro : Int32) : STEP Value.int l G xa ma yX6_alone cX6_alone 3 (some .int) rm_X6_alone yX7_alone cX7_alone 7 rm_X7_alone [.int a, .int fro] W := by
  obtain ⟨ad, sh, v, f, am, w, g, rfl, rfl, hsh, rfl, hR⟩ := hI
  have hR0 := hR
  obtain ⟨ga, gb, s, fr, rd, h0, hRI, ⟨w0, w31⟩, ⟨v8, w23⟩, hS, hC, hRd, hSh⟩ := hR
  obtain ⟨g0, hs, hz, hfr, hrd⟩ := id h0
  obtain ⟨v9, v10, v11, v12, v13, v14, w1, w2, w3, w5, w8, w9⟩ := id hRI
  have dX : okD (v 9) (v 10) := by rw [v9, v10]; exact g0.dd
  have dM : okD (w 1) (w 2) := by rw [w1, w2]; exact g0.dd
  have nX : okN (v 14) := by rw [v14]; exact ⟨s, hs, rfl⟩
  have nM : okN (w 5) := by rw [w5]; exact ⟨s, hs, rfl⟩
  have rX : okR (v 8) (f 2) (f 3) := by rw [v8]; exact (hRd.okR hrd hs g0.le).1
  have rM : okR (w 23) (g 24) (g 25) := by rw [w23]; exact (hRd.okR hrd hs g0.le).2
  refine step_J ((cw_alone l G ad sh v f a fro dX nX).toJ) ((mw_alone l G am w g a fro dM nM).toJ) ?_ rfl hsh ?_
  · rw [v9, v10, v12, v13, v14, w1, w2, w5, w8, w9]
    exact alone_ans g0 hs hS hC a fro
  · intro ii jj
    exact hR0
set_option maxHeartbeats 200000 in
theorem st_reading (l : Launch) (G : GT) {xa ma : Nat} {W : va_W} (hI : INV G xa ma W) (a ce bore : Int32) : STEP Value.int l G xa ma yX6_reading cX6_reading 4 (some .int) rm_X6_reading yX7_reading cX7_reading 4 rm_X7_reading [.int a, .int ce, .int bore] W := by
  obtain ⟨ad, sh, v, f, am, w, g, rfl, rfl, hsh, rfl, hR⟩ := hI
  have hR0 := hR
  obtain ⟨ga, gb, s, fr, rd, h0, hRI, ⟨w0, w31⟩, ⟨v8, w23⟩, hS, hC, hRd, hSh⟩ := hR
  obtain ⟨g0, hs, hz, hfr, hrd⟩ := id h0
  obtain ⟨v9, v10, v11, v12, v13, v14, w1, w2, w3, w5, w8, w9⟩ := id hRI
  have dX : okD (v 9) (v 10) := by rw [v9, v10]; exact g0.dd
  have dM : okD (w 1) (w 2) := by rw [w1, w2]; exact g0.dd
  have nX : okN (v 14) := by rw [v14]; exact ⟨s, hs, rfl⟩
  have nM : okN (w 5) := by rw [w5]; exact ⟨s, hs, rfl⟩
  have rX : okR (v 8) (f 2) (f 3) := by rw [v8]; exact (hRd.okR hrd hs g0.le).1
  have rM : okR (w 23) (g 24) (g 25) := by rw [w23]; exact (hRd.okR hrd hs g0.le).2
  obtain ⟨k1, rd2, k2, k3, k4, k5⟩ := reading_ans g0 hs hrd hRd a ce (vp_nar .boolean bore)
  rw [← v9, ← v10, ← v14, ← v8] at k3
  rw [← w1, ← w2, ← w5, ← w23] at k4
  have k5 : rRd rd2 s (ga * gb) (if x_rdOk (v 9) (v 10) (v 14) a ce then s_addF (v 8) (f 2) a else f 2) (if x_rdOk (v 9) (v 10) (v 14) a ce then s_addF (v 8) (f 3) ce else f 3) (if x_rdOk (v 9) (v 10) (v 14) a ce then s_addF (v 8) (f 4) (vp_nar .boolean bore) else f 4) (if m_rdOk (w 1) (w 2) (w 5) (w 23) a ce then upd (g 24) (w 23).toNatClampNeg a else g 24) (if m_rdOk (w 1) (w 2) (w 5) (w 23) a ce then upd (g 25) (w 23).toNatClampNeg ce else g 25) (if m_rdOk (w 1) (w 2) (w 5) (w 23) a ce then upd (g 26) (w 23).toNatClampNeg (vp_nar .boolean bore) else g 26) := by rw [v9, v10, v14, v8, w1, w2, w5, w23]; exact k5
  refine step_J ((cw_reading l G ad sh v f a ce bore rX).toJ) ((mw_reading l G am w g a ce bore rM).toJ) ?_ rfl hsh ?_
  · rw [v9, v10, v14, v8, w1, w2, w5, w23]
    exact k1
  · intro ii jj
    exact ⟨ga, gb, s, fr, rd2, ⟨g0, hs, hz, hfr, k2⟩, hRI, ⟨w0, w31⟩, ⟨k3, k4⟩, hS, hC, k5, hSh.keep (fun i hi => by rw [upd_ne (by omega)]) (fun i hi => by rw [updF_ne (by omega), updF_ne (by omega), updF_ne (by omega)]) rfl rfl rfl⟩
set_option maxHeartbeats 200000 in
theorem st_back (l : Launch) (G : GT) {xa ma : Nat} {W : va_W} (hI : INV G xa ma W) (k : Int32) : STEP Value.int l G xa ma yX6_back cX6_back 2 (some .int) rm_X6_back yX7_back cX7_back 2 rm_X7_back [.int k] W := by
  obtain ⟨ad, sh, v, f, am, w, g, rfl, rfl, hsh, rfl, hR⟩ := hI
  have hR0 := hR
  obtain ⟨ga, gb, s, fr, rd, h0, hRI, ⟨w0, w31⟩, ⟨v8, w23⟩, hS, hC, hRd, hSh⟩ := hR
  obtain ⟨g0, hs, hz, hfr, hrd⟩ := id h0
  obtain ⟨v9, v10, v11, v12, v13, v14, w1, w2, w3, w5, w8, w9⟩ := id hRI
  have dX : okD (v 9) (v 10) := by rw [v9, v10]; exact g0.dd
  have dM : okD (w 1) (w 2) := by rw [w1, w2]; exact g0.dd
  have nX : okN (v 14) := by rw [v14]; exact ⟨s, hs, rfl⟩
  have nM : okN (w 5) := by rw [w5]; exact ⟨s, hs, rfl⟩
  have rX : okR (v 8) (f 2) (f 3) := by rw [v8]; exact (hRd.okR hrd hs g0.le).1
  have rM : okR (w 23) (g 24) (g 25) := by rw [w23]; exact (hRd.okR hrd hs g0.le).2
  obtain ⟨k1, rd2, k2, k3, k4⟩ := back_ans hrd k
  refine step_J ((cw_back l G ad sh v f k).toJ) ((mw_back l G am w g k).toJ) ?_ rfl hsh ?_
  · rw [v8, w23]
    exact k1
  · intro ii jj
    exact ⟨ga, gb, s, fr, rd2, ⟨g0, hs, hz, hfr, Nat.le_trans k2 hrd⟩, hRI, ⟨w0, w31⟩, ⟨by rw [← v8] at k3; exact k3, by rw [← w23] at k4; exact k4⟩, hS, hC, (hRd.cut k2), hSh.keep (fun i hi => by rw [upd_ne (by omega)]) (fun _ _ => rfl) rfl rfl rfl⟩
set_option maxHeartbeats 200000 in
theorem st_weights (l : Launch) (G : GT) {xa ma : Nat} {W : va_W} (hI : INV G xa ma W) (a : Int32) : STEP Value.int l G xa ma yX6_weights cX6_weights 5 (some .int) rm_X6_weights yX7_weights cX7_weights 5 rm_X7_weights [.int a] W := by
  obtain ⟨ad, sh, v, f, am, w, g, rfl, rfl, hsh, rfl, hR⟩ := hI
  have hR0 := hR
  obtain ⟨ga, gb, s, fr, rd, h0, hRI, ⟨w0, w31⟩, ⟨v8, w23⟩, hS, hC, hRd, hSh⟩ := hR
  obtain ⟨g0, hs, hz, hfr, hrd⟩ := id h0
  obtain ⟨v9, v10, v11, v12, v13, v14, w1, w2, w3, w5, w8, w9⟩ := id hRI
  have dX : okD (v 9) (v 10) := by rw [v9, v10]; exact g0.dd
  have dM : okD (w 1) (w 2) := by rw [w1, w2]; exact g0.dd
  have nX : okN (v 14) := by rw [v14]; exact ⟨s, hs, rfl⟩
  have nM : okN (w 5) := by rw [w5]; exact ⟨s, hs, rfl⟩
  have rX : okR (v 8) (f 2) (f 3) := by rw [v8]; exact (hRd.okR hrd hs g0.le).1
  have rM : okR (w 23) (g 24) (g 25) := by rw [w23]; exact (hRd.okR hrd hs g0.le).2
  refine step_J ((cw_weights l G ad sh v f a nX rX).toJ) ((mw_weights l G am w g a nM rM).toJ) ?_ rfl hsh ?_
  · rw [v8, w23, nI_clamp (by omega), v14, w5, w8, w9]
    exact weights_ans g0 hs hRd hS hC a
  · intro ii jj
    rw [ite_back, ite_back2]
    exact ⟨ga, gb, s, fr, rd, h0, hRI, ⟨w0, w31⟩, ⟨v8, w23⟩, hS, hC, hRd, hSh.keep (fun _ _ => rfl) (fun i hi => by rw [updF_ne (by omega)]) rfl rfl rfl⟩
set_option maxHeartbeats 200000 in
theorem st_kinds (l : Launch) (G : GT) {xa ma : Nat} {W : va_W} (hI : INV G xa ma W) (a : Int32) : STEP Value.int l G xa ma yX6_kinds cX6_kinds 5 (some .int) rm_X6_kinds yX7_kinds cX7_kinds 5 rm_X7_kinds [.int a] W := by
  obtain ⟨ad, sh, v, f, am, w, g, rfl, rfl, hsh, rfl, hR⟩ := hI
  have hR0 := hR
  obtain ⟨ga, gb, s, fr, rd, h0, hRI, ⟨w0, w31⟩, ⟨v8, w23⟩, hS, hC, hRd, hSh⟩ := hR
  obtain ⟨g0, hs, hz, hfr, hrd⟩ := id h0
  obtain ⟨v9, v10, v11, v12, v13, v14, w1, w2, w3, w5, w8, w9⟩ := id hRI
  have dX : okD (v 9) (v 10) := by rw [v9, v10]; exact g0.dd
  have dM : okD (w 1) (w 2) := by rw [w1, w2]; exact g0.dd
  have nX : okN (v 14) := by rw [v14]; exact ⟨s, hs, rfl⟩
  have nM : okN (w 5) := by rw [w5]; exact ⟨s, hs, rfl⟩
  have rX : okR (v 8) (f 2) (f 3) := by rw [v8]; exact (hRd.okR hrd hs g0.le).1
  have rM : okR (w 23) (g 24) (g 25) := by rw [w23]; exact (hRd.okR hrd hs g0.le).2
  refine step_J ((cw_kinds l G ad sh v f a nX rX).toJ) ((mw_kinds l G am w g a nM rM).toJ) ?_ rfl hsh ?_
  · rw [v8, w23, nI_clamp (by omega), v14, w5, w8, w9]
    exact kinds_ans g0 hs hRd hS hC a
  · intro ii jj
    rw [ite_back, ite_back2]
    exact ⟨ga, gb, s, fr, rd, h0, hRI, ⟨w0, w31⟩, ⟨v8, w23⟩, hS, hC, hRd, hSh.keep (fun _ _ => rfl) (fun i hi => by rw [updF_ne (by omega)]) rfl rfl rfl⟩
set_option maxHeartbeats 200000 in
theorem st_strengths (l : Launch) (G : GT) {xa ma : Nat} {W : va_W} (hI : INV G xa ma W) (ce : Int32) : STEP Value.int l G xa ma yX6_strengths cX6_strengths 5 (some .int) rm_X6_strengths yX7_strengths cX7_strengths 5 rm_X7_strengths [.int ce] W := by
  obtain ⟨ad, sh, v, f, am, w, g, rfl, rfl, hsh, rfl, hR⟩ := hI
  have hR0 := hR
  obtain ⟨ga, gb, s, fr, rd, h0, hRI, ⟨w0, w31⟩, ⟨v8, w23⟩, hS, hC, hRd, hSh⟩ := hR
  obtain ⟨g0, hs, hz, hfr, hrd⟩ := id h0
  obtain ⟨v9, v10, v11, v12, v13, v14, w1, w2, w3, w5, w8, w9⟩ := id hRI
  have dX : okD (v 9) (v 10) := by rw [v9, v10]; exact g0.dd
  have dM : okD (w 1) (w 2) := by rw [w1, w2]; exact g0.dd
  have nX : okN (v 14) := by rw [v14]; exact ⟨s, hs, rfl⟩
  have nM : okN (w 5) := by rw [w5]; exact ⟨s, hs, rfl⟩
  have rX : okR (v 8) (f 2) (f 3) := by rw [v8]; exact (hRd.okR hrd hs g0.le).1
  have rM : okR (w 23) (g 24) (g 25) := by rw [w23]; exact (hRd.okR hrd hs g0.le).2
  refine step_J ((cw_strengths l G ad sh v f ce dX rX).toJ) ((mw_strengths l G am w g ce dM rM).toJ) ?_ rfl hsh ?_
  · rw [v8, w23, nI_clamp (by omega), v9, v10, w1, w2, w8, w9]
    exact strengths_ans g0 hs hRd hS hC ce
  · intro ii jj
    rw [ite_back, ite_back2]
    exact ⟨ga, gb, s, fr, rd, h0, hRI, ⟨w0, w31⟩, ⟨v8, w23⟩, hS, hC, hRd, hSh.keep (fun _ _ => rfl) (fun i hi => by rw [updF_ne (by omega)]) rfl rfl rfl⟩
set_option maxHeartbeats 200000 in
theorem st_tell (l : Launch) (G : GT) {xa ma : Nat} {W : va_W} (hI : INV G xa ma W) (a : Int32) : STEP Value.int l G xa ma yX6_tell cX6_tell 3 (some .int) rm_X6_tell yX7_tell cX7_tell 4 rm_X7_tell [.int a] W := by
  obtain ⟨ad, sh, v, f, am, w, g, rfl, rfl, hsh, rfl, hR⟩ := hI
  have hR0 := hR
  obtain ⟨ga, gb, s, fr, rd, h0, hRI, ⟨w0, w31⟩, ⟨v8, w23⟩, hS, hC, hRd, hSh⟩ := hR
  obtain ⟨g0, hs, hz, hfr, hrd⟩ := id h0
  obtain ⟨v9, v10, v11, v12, v13, v14, w1, w2, w3, w5, w8, w9⟩ := id hRI
  have dX : okD (v 9) (v 10) := by rw [v9, v10]; exact g0.dd
  have dM : okD (w 1) (w 2) := by rw [w1, w2]; exact g0.dd
  have nX : okN (v 14) := by rw [v14]; exact ⟨s, hs, rfl⟩
  have nM : okN (w 5) := by rw [w5]; exact ⟨s, hs, rfl⟩
  have rX : okR (v 8) (f 2) (f 3) := by rw [v8]; exact (hRd.okR hrd hs g0.le).1
  have rM : okR (w 23) (g 24) (g 25) := by rw [w23]; exact (hRd.okR hrd hs g0.le).2
  refine step_J ((cw_tell l G ad sh v f a nX).toJ) ((mw_tell l G am w g a nM).toJ) ?_ rfl hsh ?_
  · rw [v14, w5]
    exact (tell_ans hs hC a 0).1
  · intro ii jj
    exact ⟨ga, gb, s, fr, rd, h0, hRI, ⟨w0, by have := (tell_ans hs hC a (v 1)).2; show m_tellT (w 5) (g 6) a (w 31) = x_tellT (v 14) (f 6) a (v 1); rw [w5, v14, w31]; exact this.symm⟩, ⟨v8, w23⟩, hS, hC, hRd, hSh.keep (fun i hi => by rw [upd_ne (by omega)]) (fun _ _ => rfl) rfl rfl rfl⟩
set_option maxHeartbeats 200000 in
theorem st_signed (l : Launch) (G : GT) {xa ma : Nat} {W : va_W} (hI : INV G xa ma W) (a : Int32) : STEP Value.int l G xa ma yX6_signed cX6_signed 2 (some .int) rm_X6_signed yX7_signed cX7_signed 2 rm_X7_signed [.int a] W := by
  obtain ⟨ad, sh, v, f, am, w, g, rfl, rfl, hsh, rfl, hR⟩ := hI
  have hR0 := hR
  obtain ⟨ga, gb, s, fr, rd, h0, hRI, ⟨w0, w31⟩, ⟨v8, w23⟩, hS, hC, hRd, hSh⟩ := hR
  obtain ⟨g0, hs, hz, hfr, hrd⟩ := id h0
  obtain ⟨v9, v10, v11, v12, v13, v14, w1, w2, w3, w5, w8, w9⟩ := id hRI
  have dX : okD (v 9) (v 10) := by rw [v9, v10]; exact g0.dd
  have dM : okD (w 1) (w 2) := by rw [w1, w2]; exact g0.dd
  have nX : okN (v 14) := by rw [v14]; exact ⟨s, hs, rfl⟩
  have nM : okN (w 5) := by rw [w5]; exact ⟨s, hs, rfl⟩
  have rX : okR (v 8) (f 2) (f 3) := by rw [v8]; exact (hRd.okR hrd hs g0.le).1
  have rM : okR (w 23) (g 24) (g 25) := by rw [w23]; exact (hRd.okR hrd hs g0.le).2
  refine step_J ((cw_signed l G ad sh v f a nX).toJ) ((mw_signed l G am w g a nM).toJ) ?_ rfl hsh ?_
  · rw [v14, w5]
    exact (signed_ans hs hC a 0).1
  · intro ii jj
    exact ⟨ga, gb, s, fr, rd, h0, hRI, ⟨w0, by have := (signed_ans hs hC a (v 1)).2; show m_signedT (w 5) (g 6) a (w 31) = x_signT (v 14) (f 6) a (v 1); rw [w5, v14, w31]; exact this.symm⟩, ⟨v8, w23⟩, hS, hC, hRd, hSh.keep (fun i hi => by rw [upd_ne (by omega)]) (fun _ _ => rfl) rfl rfl rfl⟩
