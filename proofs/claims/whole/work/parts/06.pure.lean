/-! the pure words of the class's methods -/
def s_in (v a b : Int32) : Int32 := if a ≤ v ∧ v ≤ b then 1 else 0
def s_isIn (set k : Int32) : Int32 := if (set >>> (k &&& 31)) &&& 1 = 1 then 1 else 0
def s_ush (x k : Int32) : Int32 := (x.toUInt32 >>> (k.toUInt32 &&& Int32.toUInt32 31)).toInt32
def s_bc1 (x : Int32) : Int32 := x - (s_ush x 1 &&& 1431655765)
def s_bc2 (x : Int32) : Int32 := (x &&& 858993459) + (s_ush x 2 &&& 858993459)
def s_bc3 (x : Int32) : Int32 := (x + s_ush x 4) &&& 252645135
def s_bc4 (x : Int32) : Int32 := x + s_ush x 8
def s_bc5 (x : Int32) : Int32 := x + s_ush x 16
def s_bitCount (x : Int32) : Int32 := s_bc5 (s_bc4 (s_bc3 (s_bc2 (s_bc1 x)))) &&& 63
def s_fill (v : Int32) (g : Nat → Int32) : Nat → Int32 := fun k => if k < 60 then v else g k
/-- a canal's high and wide, or none -/
def okD (hi wi : Int32) : Prop := ∃ a b : Nat, a ≤ 4 ∧ b ≤ 5 ∧ hi = nI a ∧ wi = nI b
/-- n cells from i on of a row of N -/
def okRun (i n : Int32) (N : Nat) : Prop := ¬ i < 0 ∧ ¬ n < 0 ∧ i.toNatClampNeg + n.toNatClampNeg ≤ N
def s_load (ck cwt : Nat → Int32) (a : Int32) : Int32 := if ck a.toNatClampNeg = 1 then cwt a.toNatClampNeg + 1 else if ck a.toNatClampNeg = 2 then 2 * (cwt a.toNatClampNeg + 1) else cwt a.toNatClampNeg
def s_all (hi wi : Int32) : Int32 := ((1 : Int32) <<< ((hi * wi) &&& 31)) - 1
def s_cl (x : Int32) : Int32 := if x < 0 then 0 else if 9 < x then 9 else x
def s_strengthen (n : Nat) (more : Int32) (str : Nat → Int32) : Nat → Int32 := fun k => if k < n then s_cl (str k + more) else str k
def s_count (str : Nat → Int32) (v : Int32) : Nat → Int32
  | 0 => 0
  | n + 1 => s_count str v n + (if str n = v then 1 else 0)
def s_bearing (str : Nat → Int32) (load days : Int32) : Nat → Int32
  | 0 => 0
  | n + 1 => s_bearing str load days n ||| (if load ≤ str n - days then (1 : Int32) <<< (nI n &&& 31) else 0)
def s_led (hi wi fc lc ce stroke : Int32) : Int32 :=
  if stroke = 0 then (if wi ≤ ce then ce - wi else -9)
  else if stroke = 1 then (if s_isIn lc ce = 0 then ce + 1 else -9)
  else if stroke = 2 then (if ce + wi < hi * wi then ce + wi else -9)
  else if stroke = 3 then (if s_isIn fc ce = 0 then ce - 1 else -9)
  else -9
def s_next (hi wi fc lc set : Int32) : Int32 :=
  (((set &&& (lc ^^^ (-1))) <<< (1 &&& 31)) ||| ((set &&& (fc ^^^ (-1))) >>> (1 &&& 31)) ||| ((set <<< (wi &&& 31)) ||| (set >>> (wi &&& 31)))) &&& s_all hi wi
def s_reachN (hi wi fc lc bears : Int32) : Nat → Int32 → Int32
  | 0, set => set
  | n + 1, set => s_reachN hi wi fc lc bears n (set ||| (s_next hi wi fc lc set &&& bears))
termination_by k _ => k
def s_reach (hi wi fc lc fro bears : Int32) : Int32 := s_reachN hi wi fc lc bears 19 ((1 : Int32) <<< (fro &&& 31))
/-- the search: n rounds are left, so many strokes are made -/
def s_shortN (hi wi fc lc to bf bs : Int32) : Nat → Nat → Int32 → Int32 → Int32
  | 0, _, _, _ => -9
  | n + 1, k, there, seen => if there = 0 then -9 else if s_isIn there to = 0 then
      (s_shortN hi wi fc lc to bf bs n (k + 1) (s_next hi wi fc lc there &&& (if k % 2 = 0 then bf else bs) &&& (seen ^^^ (-1))) (seen ||| (s_next hi wi fc lc there &&& (if k % 2 = 0 then bf else bs) &&& (seen ^^^ (-1)))))
    else nI k
termination_by k _ _ _ => k
def s_shortest (hi wi fc lc fro to bf bs : Int32) : Int32 := s_shortN hi wi fc lc to bf bs 20 0 ((1 : Int32) <<< (fro &&& 31)) ((1 : Int32) <<< (fro &&& 31))
/-- whether a bond begins with this stroke -/
abbrev s_isBegin (hi wi fc lc fro to bf bs stroke : Int32) : Prop := ¬ s_led hi wi fc lc fro stroke = -9 ∧ ¬ s_isIn bf (s_led hi wi fc lc fro stroke) = 0 ∧ s_shortest hi wi fc lc (s_led hi wi fc lc fro stroke) to bs bf = s_shortest hi wi fc lc fro to bf bs - 1
def s_begin (hi wi fc lc fro to bf bs : Int32) : Int32 :=
  if s_isBegin hi wi fc lc fro to bf bs 0 then 0 else if s_isBegin hi wi fc lc fro to bf bs 1 then 1 else if s_isBegin hi wi fc lc fro to bf bs 2 then 2 else if s_isBegin hi wi fc lc fro to bf bs 3 then 3 else -9
def s_strokeN (hi wi fc lc to bf bs : Int32) : Nat → Nat → Int32 → Int32 → Int32
  | 0, _, _, st => st
  | n + 1, t, ce, st => if ce = -9 then st else
      s_strokeN hi wi fc lc to bf bs n (t + 1) (s_led hi wi fc lc ce (s_begin hi wi fc lc ce to (if t % 2 = 0 then bf else bs) (if t % 2 = 0 then bs else bf))) (s_begin hi wi fc lc ce to (if t % 2 = 0 then bf else bs) (if t % 2 = 0 then bs else bf))
def s_strokeOf (hi wi fc lc k fro to bf bs : Int32) : Int32 := s_strokeN hi wi fc lc to bf bs (k.toNatClampNeg + 1) 0 fro (-9)
-- a deed
def s_cp20 (f g : Nat → Int32) : Nat → Int32 := fun k => if k < 20 then f k else g k
abbrev s_stW (nx load : Int32) (d : Nat → Int32) : Prop := nx = -9 ∨ d nx.toNatClampNeg < load
def s_stAt (nx load : Int32) (d : Nat → Int32) (dat : Int32) : Int32 := if s_stW nx load d then dat else nx
def s_stCut (nx load : Int32) (d : Nat → Int32) (dcut : Int32) : Int32 := if s_stW nx load d then dcut else dcut ||| ((1 : Int32) <<< (nx &&& 31))
def s_stFw (nx load : Int32) (d : Nat → Int32) (dfw number : Int32) : Int32 := if s_stW nx load d then number else dfw
def s_stStr (nx load : Int32) (d : Nat → Int32) : Nat → Int32 := if s_stW nx load d then d else upd d nx.toNatClampNeg (d nx.toNatClampNeg - 1)
-- readings
def okR (rc : Int32) (rs rl : Nat → Int32) : Prop := ∃ n : Nat, n ≤ 8 ∧ rc = nI n ∧ ∀ k, k < n → vp_in (rs k) 4 ∧ vp_in (rl k) 20
def s_addR (rc : Int32) : Int32 := if 8 ≤ rc then -4 else rc
def s_addC (rc : Int32) : Int32 := if 8 ≤ rc then rc else rc + 1
def s_addF (rc : Int32) (f : Nat → Int32) (v : Int32) : Nat → Int32 := if 8 ≤ rc then f else upd f rc.toNatClampNeg v
def s_areSo (rs rl rb str ck cwt : Nat → Int32) (n : Nat) : Int32 := if ∀ k, k < n → (if s_load ck cwt (rs k) ≤ str (rl k).toNatClampNeg then (1 : Int32) else 0) = rb k then 1 else 0
-- sheets
def s_nothing (sla : Int32) : Int32 := if sla = -1 then 1 else 0
def s_shas (sle i n : Int32) : Int32 := if s_in i 0 sle = 0 then 0 else s_in n 0 (sle - i)
def s_cut (sla v : Int32) : Int32 := if sla = 0 then v.toInt8.toInt32 else if sla = 1 then v.toInt16.toInt32 else v
-- texts
def s_cpT (sn xc : Nat → Int32) (i n : Int32) : Nat → Int32 := va_cpy sn xc i.toNatClampNeg (0 : Int32).toNatClampNeg n.toNatClampNeg
def okT (xl xp : Int32) : Prop := ∃ a b : Nat, b ≤ 60 ∧ a ≤ b ∧ xl = nI b ∧ xp = nI a
abbrev s_go (xl xp xw : Int32) : Prop := xw = 0 ∧ xp < xl
def s_goesOn (xl xp xw : Int32) : Int32 := if s_go xl xp xw then 1 else 0
abbrev s_takeOk (xl xp xw : Int32) (xc : Nat → Int32) (least most : Int32) : Prop := s_go xl xp xw ∧ least ≤ xc xp.toNatClampNeg ∧ xc xp.toNatClampNeg ≤ most
def s_takeR (xl xp xw : Int32) (xc : Nat → Int32) (least most : Int32) : Int32 := if s_takeOk xl xp xw xc least most then xc xp.toNatClampNeg - least else 0
def s_takeP (xl xp xw : Int32) (xc : Nat → Int32) (least most : Int32) : Int32 := if s_takeOk xl xp xw xc least most then xp + 1 else xp
def s_takeW (xl xp xw : Int32) (xc : Nat → Int32) (least most : Int32) : Int32 := if s_takeOk xl xp xw xc least most then xw else 1
def s_kindCode (xl xp xw : Int32) (xc : Nat → Int32) : Int32 := if s_go xl xp xw then xc xp.toNatClampNeg else 0
def s_kindC (xl xp xw : Int32) (xc : Nat → Int32) : Int32 := if s_kindCode xl xp xw xc = 107 then 107 else if s_kindCode xl xp xw xc = 98 then 98 else 115
def s_kindR (xl xp xw : Int32) (xc : Nat → Int32) : Int32 := if s_kindCode xl xp xw xc = 107 then 1 else if s_kindCode xl xp xw xc = 98 then 2 else 0
def s_endW (xl xp xw : Int32) : Int32 := if xw = 0 then (if xp < xl then 1 else 0) else 1
/-- where a text stands (place, wrong), behind a code that is taken -/
abbrev tT : Type := Int32 × Int32
def tkS (xl : Int32) (xc : Nat → Int32) (least most : Int32) (t : tT) : tT := (s_takeP xl t.1 t.2 xc least most, s_takeW xl t.1 t.2 xc least most)
def tkR (xl : Int32) (xc : Nat → Int32) (least most : Int32) (t : tT) : Int32 := s_takeR xl t.1 t.2 xc least most
def dgS (xl : Int32) (xc : Nat → Int32) (least most : Int32) (t : tT) : tT := tkS xl xc (48 + least) (48 + most) t
def dgR (xl : Int32) (xc : Nat → Int32) (least most : Int32) (t : tT) : Int32 := least + tkR xl xc (48 + least) (48 + most) t
/-- c columns of a row of cells from base on -/
def colN (xl : Int32) (xc : Nat → Int32) (base : Nat) (t : tT) (str : Nat → Int32) : Nat → tT × (Nat → Int32)
  | 0 => (t, str)
  | c + 1 => (dgS xl xc 0 9 (colN xl xc base t str c).1, upd (colN xl xc base t str c).2 (base + c) (dgR xl xc 0 9 (colN xl xc base t str c).1))
/-- r rows: the text, the strengths, the first column -/
def rowN (xl : Int32) (xc : Nat → Int32) (w : Nat) (t : tT) (str : Nat → Int32) : Nat → tT × (Nat → Int32) × Int32
  | 0 => (t, str, 0)
  | r + 1 => ((colN xl xc (r * w) (tkS xl xc 59 59 (rowN xl xc w t str r).1) (rowN xl xc w t str r).2.1 w).1, (colN xl xc (r * w) (tkS xl xc 59 59 (rowN xl xc w t str r).1) (rowN xl xc w t str r).2.1 w).2, (rowN xl xc w t str r).2.2 ||| ((1 : Int32) <<< ((nI r * nI w) &&& 31)))
def it1 (xl : Int32) (xc : Nat → Int32) (t : tT) : tT := tkS xl xc 99 99 t
def it2 (xl : Int32) (xc : Nat → Int32) (t : tT) : tT := dgS xl xc 1 4 (it1 xl xc t)
def it3 (xl : Int32) (xc : Nat → Int32) (t : tT) : tT := dgS xl xc 2 5 (it2 xl xc t)
def it4 (xl : Int32) (xc : Nat → Int32) (t : tT) : tT := dgS xl xc 0 9 (it3 xl xc t)
def itHi (xl : Int32) (xc : Nat → Int32) (t : tT) : Int32 := dgR xl xc 1 4 (it1 xl xc t)
def itWi (xl : Int32) (xc : Nat → Int32) (t : tT) : Int32 := dgR xl xc 2 5 (it2 xl xc t)
def itFr (xl : Int32) (xc : Nat → Int32) (t : tT) : Int32 := dgR xl xc 0 9 (it3 xl xc t)
def itRow (xl : Int32) (xc : Nat → Int32) (t : tT) (str : Nat → Int32) : tT × (Nat → Int32) × Int32 := rowN xl xc (itWi xl xc t).toNatClampNeg (it4 xl xc t) str (itHi xl xc t).toNatClampNeg
/-- the skaters of a text -/
abbrev cT : Type := tT × (Nat → Int32) × (Nat → Int32) × Int32
def crw (xl : Int32) (xc : Nat → Int32) (a : Nat) (q : cT) : cT :=
  (dgS xl xc 1 9 (tkS xl xc (s_kindC xl (tkS xl xc 44 44 q.1).1 (tkS xl xc 44 44 q.1).2 xc) (s_kindC xl (tkS xl xc 44 44 q.1).1 (tkS xl xc 44 44 q.1).2 xc) (tkS xl xc 44 44 q.1)),
   upd q.2.1 a (s_kindR xl (tkS xl xc 44 44 q.1).1 (tkS xl xc 44 44 q.1).2 xc),
   upd q.2.2.1 a (dgR xl xc 1 9 (tkS xl xc (s_kindC xl (tkS xl xc 44 44 q.1).1 (tkS xl xc 44 44 q.1).2 xc) (s_kindC xl (tkS xl xc 44 44 q.1).1 (tkS xl xc 44 44 q.1).2 xc) (tkS xl xc 44 44 q.1))),
   nI (a + 1))
def crwN (xl : Int32) (xc : Nat → Int32) : Nat → Nat → cT → cT
  | 0, _, q => q
  | n + 1, a, q => if a < 2 ∨ s_go xl q.1.1 q.1.2 then crwN xl xc n (a + 1) (crw xl xc a q) else q
termination_by k _ _ => k
def crwAll (xl : Int32) (xc : Nat → Int32) (t : tT) (ck cwt : Nat → Int32) : cT := crwN xl xc 4 0 (t, ck, cwt, 0)
/-! the pure words of the reference's methods -/
def q_in (v a b : Int64) : Int32 := if a ≤ v ∧ v ≤ b then 1 else 0
def q_inN (v n : Int32) : Int32 := if 0 ≤ v ∧ v < n then 1 else 0
def q_bitsN : Nat → Int32 → Int32 → Int32
  | 0, n, _ => n
  | k + 1, n, left => if 0 < left then q_bitsN k (n + (left &&& 1)) (left >>> (1 &&& 31)) else n
termination_by k _ _ => k
def q_bits (set : Int32) : Int32 := q_bitsN 32 0 set
/-- the greatest common divisor by remainders, k rounds at most -/
def q_gcdN : Nat → Int64 → Int64 → Int64
  | 0, x, _ => x
  | k + 1, x, y => if y = 0 then x else q_gcdN k y (x - x / y * y)
termination_by k _ _ => k
def q_share (up down : Int64) (which : Int32) : Int64 := (if which = 0 then up else down) / q_gcdN 257 up down
def q_noPlace (hi wi ce : Int32) : Int32 := if 0 ≤ ce ∧ ce < hi * wi then 0 else 1
def q_noSk (sk a : Int32) : Int32 := if 0 ≤ a ∧ a < sk then 0 else 1
def q_noTwo (sk a b : Int32) : Int32 := if q_noSk sk a = 0 ∧ q_noSk sk b = 0 ∧ ¬ a = b then 0 else 1
def q_noSheet (k : Int32) : Int32 := if 0 ≤ k ∧ k ≤ 3 then 0 else 1
-- the reading of a text
def q_code (ra fro n : Int32) (sh : Nat → Int32) : Int32 := if ra < n then sh (fro + ra).toNatClampNeg else -9
def okC (ra fro n : Int32) : Prop := ra < n → vp_in (fro + ra) 240
abbrev q_figOk (ra fro n : Int32) (sh : Nat → Int32) (lo mo : Int32) : Prop := lo ≤ q_code ra fro n sh - 48 ∧ q_code ra fro n sh - 48 ≤ mo
def q_figR (ra fro n : Int32) (sh : Nat → Int32) (lo mo : Int32) : Int32 := if q_figOk ra fro n sh lo mo then q_code ra fro n sh - 48 else -9
def q_figP (ra fro n : Int32) (sh : Nat → Int32) (lo mo : Int32) : Int32 := if q_figOk ra fro n sh lo mo then ra + 1 else ra
/-- the place behind the ; of a row, if one is due -/
def q_semi (ra fro n : Int32) (sh : Nat → Int32) (due : Bool) : Int32 := if due = true ∧ q_code ra fro n sh = 59 then ra + 1 else ra
abbrev q_semiBad (ra fro n : Int32) (sh : Nat → Int32) (due : Bool) : Prop := due = true ∧ ¬ q_code ra fro n sh = 59
def q_due (rw ce : Int32) : Bool := decide (ce - ce / rw * rw = 0)
def q_plP (ra fro n : Int32) (sh : Nat → Int32) (rw ce : Int32) : Int32 := if q_semiBad ra fro n sh (q_due rw ce) then ra else q_figP (q_semi ra fro n sh (q_due rw ce)) fro n sh 0 9
def q_plS (ra fro n : Int32) (sh : Nat → Int32) (rw ce : Int32) (rstr : Nat → Int32) : Nat → Int32 := if q_semiBad ra fro n sh (q_due rw ce) then rstr else upd rstr ce.toNatClampNeg (q_figR (q_semi ra fro n sh (q_due rw ce)) fro n sh 0 9)
def q_plR (ra fro n : Int32) (sh : Nat → Int32) (rw ce : Int32) : Int32 := if q_semiBad ra fro n sh (q_due rw ce) then 0 else if 0 ≤ q_figR (q_semi ra fro n sh (q_due rw ce)) fro n sh 0 9 then 1 else 0
abbrev q_isK (k : Int32) : Prop := k = 115 ∨ k = 107 ∨ k = 98
def q_kindOf (k : Int32) : Int32 := if k = 115 then 0 else if k = 107 then 1 else 2
/-- how far a skater's text goes: 0 no comma, 1 no kind, 2 no weight, 3 whole -/
def q_skW (ra fro n : Int32) (sh : Nat → Int32) (rs : Int32) : Nat := if rs = 4 ∨ ¬ q_code ra fro n sh = 44 then 0 else if ¬ q_isK (q_code (ra + 1) fro n sh) then 1 else if q_figR (ra + 1 + 1) fro n sh 1 9 < 0 then 2 else 3
def q_skP (ra fro n : Int32) (sh : Nat → Int32) (rs : Int32) : Int32 := if q_skW ra fro n sh rs = 0 then ra else if q_skW ra fro n sh rs = 1 then ra + 1 else q_figP (ra + 1 + 1) fro n sh 1 9
def q_skR (ra fro n : Int32) (sh : Nat → Int32) (rs : Int32) : Int32 := if q_skW ra fro n sh rs = 3 then 1 else 0
def q_skN (ra fro n : Int32) (sh : Nat → Int32) (rs : Int32) : Int32 := if q_skW ra fro n sh rs = 3 then rs + 1 else rs
def q_skK (ra fro n : Int32) (sh : Nat → Int32) (rs : Int32) (rk : Nat → Int32) : Nat → Int32 := if q_skW ra fro n sh rs = 3 then upd rk rs.toNatClampNeg (q_kindOf (q_code (ra + 1) fro n sh)) else rk
def q_skV (ra fro n : Int32) (sh : Nat → Int32) (rs : Int32) (rw : Nat → Int32) : Nat → Int32 := if q_skW ra fro n sh rs = 3 then upd rw rs.toNatClampNeg (q_figR (ra + 1 + 1) fro n sh 1 9) else rw
/-- cells: place, strengths, whether it went well; k cells from ce on at the most -/
abbrev qT : Type := Int32 × (Nat → Int32) × Int32
def q_cellsN (fro n : Int32) (sh : Nat → Int32) (rw : Int32) : Nat → Nat → qT → qT
  | 0, _, q => q
  | k + 1, ce, q => if q.2.2 = 0 then q else q_cellsN fro n sh rw k (ce + 1) (q_plP q.1 fro n sh rw (nI ce), q_plS q.1 fro n sh rw (nI ce) q.2.1, q_plR q.1 fro n sh rw (nI ce))
termination_by k _ _ => k
/-- skaters: place, kinds, weights, how many, whether it went well -/
abbrev qU : Type := Int32 × (Nat → Int32) × (Nat → Int32) × Int32 × Int32
def q_skatN (fro n : Int32) (sh : Nat → Int32) : Nat → qU → qU
  | 0, q => q
  | k + 1, q => if ¬ q.2.2.2.2 = 0 ∧ (q.2.2.2.1 < 2 ∨ q.1 < n) then q_skatN fro n sh k (q_skP q.1 fro n sh q.2.2.2.1, q_skK q.1 fro n sh q.2.2.2.1 q.2.1, q_skV q.1 fro n sh q.2.2.2.1 q.2.2.1, q_skN q.1 fro n sh q.2.2.2.1, q_skR q.1 fro n sh q.2.2.2.1) else q
termination_by k _ => k
def q_h0 (fro n : Int32) (sh : Nat → Int32) : Int32 := if q_code 0 fro n sh = 99 then 1 else 0
def q_hi (fro n : Int32) (sh : Nat → Int32) : Int32 := if q_code 0 fro n sh = 99 then q_figR 1 fro n sh 1 4 else -9
def q_h1 (fro n : Int32) (sh : Nat → Int32) : Int32 := if q_code 0 fro n sh = 99 then q_figP 1 fro n sh 1 4 else 0
def q_wi (fro n : Int32) (sh : Nat → Int32) : Int32 := if 0 < q_hi fro n sh then q_figR (q_h1 fro n sh) fro n sh 2 5 else -9
def q_h2 (fro n : Int32) (sh : Nat → Int32) : Int32 := if 0 < q_hi fro n sh then q_figP (q_h1 fro n sh) fro n sh 2 5 else q_h1 fro n sh
def q_fr (fro n : Int32) (sh : Nat → Int32) : Int32 := if 0 < q_wi fro n sh then q_figR (q_h2 fro n sh) fro n sh 0 9 else -9
def q_h3 (fro n : Int32) (sh : Nat → Int32) : Int32 := if 0 < q_wi fro n sh then q_figP (q_h2 fro n sh) fro n sh 0 9 else q_h2 fro n sh
def q_ce (fro n : Int32) (sh : Nat → Int32) (rstr : Nat → Int32) : qT := q_cellsN fro n sh (q_wi fro n sh) (if 0 ≤ q_fr fro n sh then (q_hi fro n sh * q_wi fro n sh).toNatClampNeg else 0) 0 (q_h3 fro n sh, rstr, if 0 ≤ q_fr fro n sh then 1 else 0)
def q_sk (fro n : Int32) (sh : Nat → Int32) (rstr rk rw : Nat → Int32) : qU := q_skatN fro n sh 5 ((q_ce fro n sh rstr).1, rk, rw, 0, (q_ce fro n sh rstr).2.2)
/-- what bars n cells from i on of a sheet of a lane: 0 nothing, else the fault -/
def q_barred (sz sl : Nat → Int32) (k lane i : Int32) (n : Int64) : Int32 :=
  if 0 ≤ sz k.toNatClampNeg ∧ ¬ sl k.toNatClampNeg = lane then 2 else if sz k.toNatClampNeg < 0 then 1 else if n < 0 then 4 else if i < 0 ∨ (sz k.toNatClampNeg).toInt64 < i.toInt64 + n then 3 else 0
def q_bRes (c : Int32) : Int32 := if c = 0 then 0 else -10 - c
def q_bFault (c f0 : Int32) : Int32 := if c = 0 then f0 else c
def q_beyond (i : Int32) (n : Int64) (all : Int32) : Int32 := if i < 0 ∨ n < 0 ∨ all.toInt64 < i.toInt64 + n then 1 else 0
def q_load (kd wt : Nat → Int32) (a : Int32) : Int32 := if kd a.toNatClampNeg = 0 then wt a.toNatClampNeg else if kd a.toNatClampNeg = 1 then wt a.toNatClampNeg + 1 else 2 * (wt a.toNatClampNeg + 1)
def q_bears (br th : Int32) (str kd wt : Nat → Int32) (ce a : Int32) : Int32 := if s_isIn br ce = 0 ∧ q_load kd wt a ≤ str ce.toNatClampNeg - th then 1 else 0
def q_bearing (br th : Int32) (str kd wt : Nat → Int32) (a : Int32) : Nat → Int32
  | 0 => 0
  | n + 1 => q_bearing br th str kd wt a n ||| (if q_bears br th str kd wt (nI n) a = 0 then 0 else (1 : Int32) <<< (nI n &&& 31))
def q_row (wi ce st : Int32) : Int32 := ce / wi + (if st = 0 then -1 else if st = 2 then 1 else 0)
def q_col (wi ce st : Int32) : Int32 := (ce - ce / wi * wi) + (if st = 3 then -1 else if st = 1 then 1 else 0)
def q_beside (hi wi ce st : Int32) : Int32 := if (0 ≤ q_row wi ce st ∧ q_row wi ce st < hi) ∧ 0 ≤ q_col wi ce st ∧ q_col wi ce st < wi then q_row wi ce st * wi + q_col wi ce st else -9
/-- a deed: first wrong, where it stands, what is cut, strengths -/
abbrev dS : Type := Int32 × Int32 × Int32 × (Nat → Int32)
abbrev q_dBad (hi wi br th : Int32) (kd wt sh : Nat → Int32) (fro a : Int32) (x : Nat) (q : dS) : Prop := q_beside hi wi q.2.1 (sh (fro + nI x).toNatClampNeg) < 0 ∨ q_bears br th q.2.2.2 kd wt (q_beside hi wi q.2.1 (sh (fro + nI x).toNatClampNeg)) a = 0
def q_dStep (hi wi br th : Int32) (kd wt sh : Nat → Int32) (fro a : Int32) (x : Nat) (q : dS) : dS :=
  if q_dBad hi wi br th kd wt sh fro a x q then (nI x, q.2) else
    (q.1, q_beside hi wi q.2.1 (sh (fro + nI x).toNatClampNeg), q.2.2.1 ||| ((1 : Int32) <<< (q_beside hi wi q.2.1 (sh (fro + nI x).toNatClampNeg) &&& 31)), upd q.2.2.2 (q_beside hi wi q.2.1 (sh (fro + nI x).toNatClampNeg)).toNatClampNeg (q.2.2.2 (q_beside hi wi q.2.1 (sh (fro + nI x).toNatClampNeg)).toNatClampNeg - 1))
def q_deedN (hi wi br th : Int32) (kd wt sh : Nat → Int32) (fro a b ce : Int32) (str : Nat → Int32) : Nat → dS
  | 0 => (-9, ce, 0, str)
  | x + 1 => if (q_deedN hi wi br th kd wt sh fro a b ce str x).1 < 0 then q_dStep hi wi br th kd wt sh fro (if x % 2 = 0 then a else b) x (q_deedN hi wi br th kd wt sh fro a b ce str x) else q_deedN hi wi br th kd wt sh fro a b ce str x
/-- the first of n cells that is no stroke bars a deed -/
def q_noStroke (sh : Nat → Int32) (fro : Int32) (n : Nat) : Bool := decide (∃ x, x < n ∧ ¬ (0 ≤ sh (fro + nI x).toNatClampNeg ∧ sh (fro + nI x).toNatClampNeg ≤ 3))
-- bonds
abbrev q_can (hi wi br th : Int32) (str kd wt : Nat → Int32) (a b ce turn st : Int32) : Prop := 0 ≤ q_beside hi wi ce st ∧ ¬ q_bears br th str kd wt (q_beside hi wi ce st) (if turn = 0 then a else b) = 0
def q_its (hi wi br th : Int32) (str kd wt L : Nat → Int32) (a b ce turn st : Int32) : Int32 := if q_can hi wi br th str kd wt a b ce turn st then L (q_beside hi wi ce st + 20 * (1 - turn)).toNatClampNeg else -9
def q_best (best its : Int32) : Int32 := if 0 ≤ its ∧ (best < 0 ∨ its + 1 < best) then its + 1 else best
def q_leftN (hi wi br th : Int32) (str kd wt L : Nat → Int32) (a b ce turn : Int32) : Nat → Int32
  | 0 => -9
  | k + 1 => q_best (q_leftN hi wi br th str kd wt L a b ce turn k) (q_its hi wi br th str kd wt L a b ce turn (nI k))
termination_by k => k
def q_leftBy (hi wi br th : Int32) (str kd wt L : Nat → Int32) (a b place : Int32) : Int32 := q_leftN hi wi br th str kd wt L a b (place - place / 20 * 20) (place / 20) 4
def q_init (to : Int32) : Nat → Int32 := fun p => if p < 40 then (if nI (p % 20) = to then 0 else -9) else 0
def q_initN (to : Int32) (L : Nat → Int32) (n : Nat) : Nat → Int32 := fun p => if p < n then (if nI (p % 20) = to then 0 else -9) else L p
def q_one (hi wi br th : Int32) (str kd wt : Nat → Int32) (a b : Int32) (r p : Nat) (L : Nat → Int32) : Int32 :=
  if nI (p % 20) < hi * wi ∧ L p < 0 then (if q_leftBy hi wi br th str kd wt L a b (nI p) = nI r then q_leftBy hi wi br th str kd wt L a b (nI p) else L p) else (if -9 = nI r then -9 else L p)
def q_placesN (hi wi br th : Int32) (str kd wt : Nat → Int32) (a b : Int32) (r : Nat) (L : Nat → Int32) : Nat → Nat → Int32
  | 0 => L
  | p + 1 => upd (q_placesN hi wi br th str kd wt a b r L p) p (q_one hi wi br th str kd wt a b r p (q_placesN hi wi br th str kd wt a b r L p))
termination_by k => k
def q_roundsN (hi wi br th : Int32) (str kd wt : Nat → Int32) (a b : Int32) (L : Nat → Int32) : Nat → Nat → Int32
  | 0 => L
  | r + 1 => q_placesN hi wi br th str kd wt a b (r + 1) (q_roundsN hi wi br th str kd wt a b L r) 40
termination_by k => k
def q_bondL (hi wi br th : Int32) (str kd wt L0 : Nat → Int32) (a b to : Int32) : Nat → Int32 := q_roundsN hi wi br th str kd wt a b (q_initN to L0 40) 40
def q_isBond (hi wi br th : Int32) (str kd wt : Nat → Int32) (a b fro to : Int32) : Int32 := if 0 ≤ q_bondL hi wi br th str kd wt (fun _ => 0) a b to fro.toNatClampNeg then 1 else 0
abbrev q_stIs (hi wi br th : Int32) (str kd wt L : Nat → Int32) (a b ce turn st : Int32) : Prop := q_can hi wi br th str kd wt a b ce turn st ∧ L (q_beside hi wi ce st + 20 * (1 - turn)).toNatClampNeg = L (ce + 20 * turn).toNatClampNeg - 1
def q_strokeN (hi wi br th : Int32) (str kd wt L : Nat → Int32) (a b ce turn : Int32) : Nat → Int32
  | 0 => -9
  | k + 1 => if q_stIs hi wi br th str kd wt L a b ce turn (3 - nI k) then 3 - nI k else q_strokeN hi wi br th str kd wt L a b ce turn k
termination_by k => k
def q_strokeBy (hi wi br th : Int32) (str kd wt L : Nat → Int32) (a b ce turn : Int32) : Int32 := q_strokeN hi wi br th str kd wt L a b ce turn 4
def q_walkN (hi wi br th : Int32) (str kd wt L : Nat → Int32) (a b fro : Int32) : Nat → Int32
  | 0 => fro
  | x + 1 => q_beside hi wi (q_walkN hi wi br th str kd wt L a b fro x) (q_strokeBy hi wi br th str kd wt L a b (q_walkN hi wi br th str kd wt L a b fro x) (nI (x % 2)))
def q_countOf (str : Nat → Int32) (v : Int32) (n : Nat) : Int32 := s_count str v n
/-- one try of alone: step ce of 4 * cells -/
def q_alStep (hi wi br th : Int32) (str kd wt : Nat → Int32) (a : Int32) (x : Nat) (set : Int32) : Int32 := set ||| (if ¬ s_isIn set (nI (x / 4)) = 0 ∧ 0 ≤ q_beside hi wi (nI (x / 4)) (nI (x % 4)) ∧ ¬ q_bears br th str kd wt (q_beside hi wi (nI (x / 4)) (nI (x % 4))) a = 0 then (1 : Int32) <<< (q_beside hi wi (nI (x / 4)) (nI (x % 4)) &&& 31) else 0)
def q_alN (hi wi br th : Int32) (str kd wt : Nat → Int32) (a : Int32) : Nat → Int32 → Int32
  | 0, set => set
  | x + 1, set => q_alStep hi wi br th str kd wt a x (q_alN hi wi br th str kd wt a x set)
termination_by k _ => k
def q_alR (hi wi br th : Int32) (str kd wt : Nat → Int32) (a : Int32) (n : Nat) : Nat → Int32 → Int32
  | 0, set => set
  | r + 1, set => q_alN hi wi br th str kd wt a (4 * n) (q_alR hi wi br th str kd wt a n r set)
termination_by k _ => k
-- readings
def q_areSo (br th : Int32) (str kd wt rs rl rb : Nat → Int32) (n : Nat) : Int32 := if ∀ k, k < n → q_bears br th str kd wt (rl k) (rs k) = rb k then 1 else 0
def q_noCell (sz : Nat → Int32) (k ii : Int32) : Int32 := if sz k.toNatClampNeg < 0 then 1 else if 0 ≤ ii ∧ ii < sz k.toNatClampNeg then 0 else 3
/-- what bars the strokes of a deed -/
def q_sbBad (sz sl sh : Nat → Int32) (k lane i n : Int32) : Bool := q_noStroke sh (60 * k + i) n.toNatClampNeg
def q_sbRes (sz sl sh : Nat → Int32) (k lane i n : Int32) : Int32 := if q_barred sz sl k lane i n.toInt64 = 0 then (if q_sbBad sz sl sh k lane i n = true then -2 else 0) else -10 - q_barred sz sl k lane i n.toInt64
def q_sbFault (sz sl sh : Nat → Int32) (k lane i n : Int32) : Int32 := if q_barred sz sl k lane i n.toInt64 = 0 then 0 else q_barred sz sl k lane i n.toInt64
/-- every sheet has at most 60 numbers -/
def okSz (sz : Nat → Int32) : Prop := ∀ k, k < 4 → sz k ≤ 60
def okN (rs : Int32) : Prop := ∃ a : Nat, a ≤ 4 ∧ rs = nI a
def okSh (up down : Int64) : Prop := ∃ a b : Nat, a ≤ 2097152 ∧ b ≤ 256 ∧ 1 ≤ b ∧ up = lN a ∧ down = lN b
/-! the pure words of the reference's public methods -/
abbrev m_laneOk (lane : Int32) : Prop := 0 ≤ lane ∧ lane ≤ 2
abbrev m_cnGo (sz sl : Nat → Int32) (k lane i n : Int32) : Prop := q_noSheet k = 0 ∧ m_laneOk lane ∧ q_barred sz sl k lane i n.toInt64 = 0
abbrev m_cnOk (sz sl sh rstr rk rw : Nat → Int32) (k lane i n : Int32) : Prop := m_cnGo sz sl k lane i n ∧ ¬ (q_sk (60 * k + i) n sh rstr rk rw).2.2.2.2 = 0
def m_canalR (sz sl sh rstr rk rw : Nat → Int32) (k lane i n : Int32) : Int32 :=
  if ¬ q_noSheet k = 0 then -1 else if ¬ m_laneOk lane then -2 else if ¬ q_barred sz sl k lane i n.toInt64 = 0 then -10 - q_barred sz sl k lane i n.toInt64
  else if (q_sk (60 * k + i) n sh rstr rk rw).2.2.2.2 = 0 then -100 - (q_sk (60 * k + i) n sh rstr rk rw).1 else (q_sk (60 * k + i) n sh rstr rk rw).2.2.2.1
def m_canalF (sz sl : Nat → Int32) (k lane i n : Int32) : Int32 := if q_noSheet k = 0 ∧ m_laneOk lane then q_barred sz sl k lane i n.toInt64 else 0
def s_cpN (n : Nat) (f g : Nat → Int32) : Nat → Int32 := fun k => if k < n then f k else g k
def m_ofSkater (hi wi sk br th : Int32) (str kd wt : Nat → Int32) (a what : Int32) : Int32 :=
  if ¬ q_noSk sk a = 0 then -1 else if what = 0 then kd a.toNatClampNeg else if what = 1 then wt a.toNatClampNeg else if what = 2 then q_load kd wt a else if what = 3 then q_bearing br th str kd wt a (hi * wi).toNatClampNeg else -2
def m_strength (hi wi : Int32) (str : Nat → Int32) (ce : Int32) : Int32 := if q_noPlace hi wi ce = 0 then str ce.toNatClampNeg else -1
abbrev m_09 (v : Int32) : Prop := 0 ≤ v ∧ v ≤ 9
def m_freezeR (hi wi : Int32) (str : Nat → Int32) (ce v : Int32) : Int32 := if ¬ q_noPlace hi wi ce = 0 then -1 else if m_09 v then str ce.toNatClampNeg else -2
def m_freezeS (hi wi : Int32) (str : Nat → Int32) (ce v : Int32) : Nat → Int32 := if q_noPlace hi wi ce = 0 ∧ m_09 v then upd str ce.toNatClampNeg v else str
def m_wx (sk v r : Int32) : Int32 := if ¬ m_09 v then -2 else if sk = 0 then -3 else r
abbrev m_wxOk (sk v : Int32) : Prop := m_09 v ∧ ¬ sk = 0
def m_nightS (n : Nat) (more : Int32) (str : Nat → Int32) : Nat → Int32 := fun k => if k < n then (if 9 < str k + more then 9 else str k + more) else str k
def m_thawS (n : Nat) (less : Int32) (str : Nat → Int32) : Nat → Int32 := fun k => if k < n then (if str k - less < 0 then 0 else str k - less) else str k
abbrev m_dKnown (hi wi sk a b ce k : Int32) : Prop := q_noTwo sk a b = 0 ∧ q_noPlace hi wi ce = 0 ∧ q_noSheet k = 0
abbrev m_dIn (lane n : Int32) : Prop := m_laneOk lane ∧ 0 ≤ n ∧ n ≤ 40
abbrev m_dDo (hi wi sk : Int32) (sz sl sh : Nat → Int32) (a b ce k lane i n : Int32) : Prop := m_dKnown hi wi sk a b ce k ∧ m_dIn lane n ∧ q_sbRes sz sl sh k lane i n = 0
def m_deedN (hi wi br th : Int32) (str kd wt sh : Nat → Int32) (a b ce k i n : Int32) : dS := q_deedN hi wi br th kd wt sh (60 * k + i) a b ce str n.toNatClampNeg
def m_deedA (d : dS) (n what : Int32) : Int32 := if what = 1 then d.1 else if 0 ≤ d.1 then -100 - d.1 else if what = 0 then d.2.1 else if what = 2 then d.2.2.1 else if what = 3 then d.2.2.2 d.2.1.toNatClampNeg else (n + 1) / 2
def m_deedR (hi wi sk br th : Int32) (str kd wt sz sl sh : Nat → Int32) (a b ce k lane i n what : Int32) : Int32 :=
  if ¬ m_dKnown hi wi sk a b ce k then -1 else if ¬ (m_dIn lane n ∧ 0 ≤ what ∧ what ≤ 4) then -2 else if ¬ q_sbRes sz sl sh k lane i n = 0 then q_sbRes sz sl sh k lane i n else m_deedA (m_deedN hi wi br th str kd wt sh a b ce k i n) n what
def m_deedF (hi wi sk : Int32) (sz sl sh : Nat → Int32) (a b ce k lane i n what : Int32) : Int32 := if m_dKnown hi wi sk a b ce k ∧ m_dIn lane n ∧ 0 ≤ what ∧ what ≤ 4 then q_sbFault sz sl sh k lane i n else 0
def m_deedS (hi wi sk : Int32) (str sz sl sh kept : Nat → Int32) (a b ce k lane i n what : Int32) : Nat → Int32 := if m_dDo hi wi sk sz sl sh a b ce k lane i n ∧ 0 ≤ what ∧ what ≤ 4 then s_cp20 str (s_cp20 str str) else str
def m_writeR (hi wi sk br th : Int32) (str kd wt sz sl sh : Nat → Int32) (a b ce k lane i n : Int32) : Int32 :=
  if ¬ m_dKnown hi wi sk a b ce k then -1 else if ¬ m_dIn lane n then -2 else if ¬ q_sbRes sz sl sh k lane i n = 0 then q_sbRes sz sl sh k lane i n else if 0 ≤ (m_deedN hi wi br th str kd wt sh a b ce k i n).1 then -100 - (m_deedN hi wi br th str kd wt sh a b ce k i n).1 else n
def m_writeF (hi wi sk : Int32) (sz sl sh : Nat → Int32) (a b ce k lane i n : Int32) : Int32 := if m_dKnown hi wi sk a b ce k ∧ m_dIn lane n then q_sbFault sz sl sh k lane i n else 0
/-- the strengths behind a deed, from kept ones where it goes wrong -/
def m_writeS (hi wi sk br th : Int32) (str kd wt sz sl sh : Nat → Int32) (a b ce k lane i n : Int32) : Nat → Int32 :=
  if m_dDo hi wi sk sz sl sh a b ce k lane i n ∧ (m_deedN hi wi br th str kd wt sh a b ce k i n).1 < 0 then (m_deedN hi wi br th str kd wt sh a b ce k i n).2.2.2 else str
abbrev m_bKnown (hi wi sk a b fro to : Int32) : Prop := q_noTwo sk a b = 0 ∧ q_noPlace hi wi fro = 0 ∧ q_noPlace hi wi to = 0
def m_bondA (hi wi br th : Int32) (str kd wt L : Nat → Int32) (a b fro k : Int32) : Int32 :=
  if k < 0 then L fro.toNatClampNeg else if L fro.toNatClampNeg ≤ k then -9 else q_strokeBy hi wi br th str kd wt L a b (q_walkN hi wi br th str kd wt L a b fro k.toNatClampNeg) (nI (k.toNatClampNeg % 2))
def m_bondR (hi wi sk br th : Int32) (str kd wt L0 : Nat → Int32) (a b fro to k : Int32) : Int32 :=
  if ¬ m_bKnown hi wi sk a b fro to then -1 else if ¬ (-1 ≤ k ∧ k ≤ 39) then -2 else m_bondA hi wi br th str kd wt (q_bondL hi wi br th str kd wt L0 a b to) a b fro k
/-- the row of strokes stays on the ice as far as it is asked for -/
def m_bondOk (hi wi br th : Int32) (str kd wt L : Nat → Int32) (a b fro k : Int32) : Prop := ¬ k < 0 → ¬ L fro.toNatClampNeg ≤ k → ∀ x : Nat, x ≤ k.toNatClampNeg → vp_in (q_walkN hi wi br th str kd wt L a b fro x) 20
def m_holdsN (hi wi br : Int32) (str kd wt : Nat → Int32) (a b fro to : Int32) : Nat → Int32
  | 0 => -9
  | d + 1 => if q_isBond hi wi br (nI d) str kd wt a b fro to = 0 then m_holdsN hi wi br str kd wt a b fro to d else nI d
termination_by k => k
def m_holdsR (hi wi sk br : Int32) (str kd wt : Nat → Int32) (a b fro to : Int32) : Int32 := if ¬ m_bKnown hi wi sk a b fro to then -1 else m_holdsN hi wi br str kd wt a b fro to 10
def m_aloneR (hi wi sk br th : Int32) (str kd wt : Nat → Int32) (a fro : Int32) : Int32 :=
  if ¬ (q_noSk sk a = 0 ∧ q_noPlace hi wi fro = 0) then -1 else q_alR hi wi br th str kd wt a (hi * wi).toNatClampNeg (hi * wi).toNatClampNeg ((1 : Int32) <<< (fro &&& 31))
/-- the least cell of n, counted down from the last, without which there is no bond -/
def m_neckN (hi wi th : Int32) (str kd wt : Nat → Int32) (a b fro to : Int32) (n : Nat) : Nat → Int32
  | 0 => -9
  | x + 1 => if ¬ nI (n - 1 - x) = fro ∧ ¬ nI (n - 1 - x) = to ∧ q_isBond hi wi ((1 : Int32) <<< (nI (n - 1 - x) &&& 31)) th str kd wt a b fro to = 0 then nI (n - 1 - x) else m_neckN hi wi th str kd wt a b fro to n x
termination_by k => k
def m_neckR (hi wi sk br th : Int32) (str kd wt : Nat → Int32) (a b fro to : Int32) : Int32 :=
  if ¬ m_bKnown hi wi sk a b fro to then -1 else if q_isBond hi wi br th str kd wt a b fro to = 0 then -9 else m_neckN hi wi th str kd wt a b fro to (hi * wi).toNatClampNeg (hi * wi).toNatClampNeg
def m_backR (rc k : Int32) : Int32 := if 0 ≤ k ∧ k ≤ rc then rc - k else -2
def m_backC (rc k : Int32) : Int32 := if 0 ≤ k ∧ k ≤ rc then rc - k else rc
abbrev m_rdOk (hi wi sk rc a ce : Int32) : Prop := q_noSk sk a = 0 ∧ q_noPlace hi wi ce = 0 ∧ ¬ rc = 8
def m_rdR (hi wi sk rc a ce : Int32) : Int32 := if ¬ (q_noSk sk a = 0 ∧ q_noPlace hi wi ce = 0) then -1 else if rc = 8 then -4 else rc
/-- what holds of n values, as bits from the value lo on -/
def m_setN (P : Int32 → Int32) (lo : Nat) : Nat → Int32
  | 0 => 0
  | n + 1 => m_setN P lo n ||| (if P (nI (lo + n)) = 0 then 0 else (1 : Int32) <<< (nI (lo + n) &&& 31))
termination_by k => k
def m_weightsR (sk br th : Int32) (str kd wt rs rl rb : Nat → Int32) (n : Nat) (a : Int32) : Int32 := if ¬ q_noSk sk a = 0 then -1 else m_setN (fun v => q_areSo br th str kd (upd wt a.toNatClampNeg v) rs rl rb n) 1 9
def m_kindsR (sk br th : Int32) (str kd wt rs rl rb : Nat → Int32) (n : Nat) (a : Int32) : Int32 := if ¬ q_noSk sk a = 0 then -1 else m_setN (fun v => q_areSo br th str (upd kd a.toNatClampNeg v) wt rs rl rb n) 0 3
def m_strengthsR (hi wi br th : Int32) (str kd wt rs rl rb : Nat → Int32) (n : Nat) (ce : Int32) : Int32 := if ¬ q_noPlace hi wi ce = 0 then -1 else m_setN (fun v => q_areSo br th (upd str ce.toNatClampNeg v) kd wt rs rl rb n) 0 10
/-- how many of the sets below some, and some itself, leave a bond; k rounds at most -/
def m_manyN (hi wi th : Int32) (str kd wt : Nat → Int32) (a b fro to set : Int32) : Nat → Int32 → Int64 → Int64
  | 0, _, n => n
  | k + 1, sub, n => if sub = 0 then n + (if q_isBond hi wi sub th str kd wt a b fro to = 0 then 0 else 1) else
      m_manyN hi wi th str kd wt a b fro to set k ((sub - 1) &&& set) (n + (if q_isBond hi wi sub th str kd wt a b fro to = 0 then 0 else 1))
termination_by k _ _ => k
def m_oddsR (hi wi sk th : Int32) (str kd wt : Nat → Int32) (a b fro to set which : Int32) : Int64 :=
  if ¬ m_bKnown hi wi sk a b fro to then -9223372036854775808 else if ¬ ((0 ≤ set ∧ set.toInt64 ≤ ((1 : Int32) <<< ((hi * wi) &&& 31)).toInt64 - 1) ∧ q_bits set ≤ 8 ∧ 0 ≤ which ∧ which ≤ 1) then -9223372036854775808
  else q_share (m_manyN hi wi th str kd wt a b fro to set (set.toNatClampNeg + 1) set 0) ((1 : Int64) <<< ((q_bits set).toInt64 &&& 63)) which
-- sheets
abbrev m_shOk (k lane n : Int32) : Prop := q_noSheet k = 0 ∧ m_laneOk lane ∧ n ≤ 60
def m_sheetR (k lane n : Int32) : Int32 := if ¬ q_noSheet k = 0 then -1 else if ¬ (m_laneOk lane ∧ n ≤ 60) then -2 else if n < 0 then -14 else 1
def m_sheetF (k lane n : Int32) : Int32 := if m_shOk k lane n ∧ n < 0 then 4 else 0
def m_sheetS (k lane n : Int32) (sh : Nat → Int32) : Nat → Int32 := if m_shOk k lane n ∧ ¬ n < 0 then (fun q => if 60 * k.toNatClampNeg ≤ q ∧ q < 60 * k.toNatClampNeg + n.toNatClampNeg then 0 else sh q) else sh
def m_loseR (sz : Nat → Int32) (k : Int32) : Int32 := if ¬ q_noSheet k = 0 then -1 else if sz k.toNatClampNeg < 0 then 0 else 1
def m_putR (sz : Nat → Int32) (k ii : Int32) : Int32 := if ¬ q_noSheet k = 0 then -1 else if ¬ q_noCell sz k ii = 0 then -10 - q_noCell sz k ii else 1
def m_putF (sz : Nat → Int32) (k ii : Int32) : Int32 := if q_noSheet k = 0 then q_noCell sz k ii else 0
def m_putS (sz sl sh : Nat → Int32) (k ii v : Int32) : Nat → Int32 := if q_noSheet k = 0 ∧ q_noCell sz k ii = 0 then upd sh (60 * k + ii).toNatClampNeg (s_cut (sl k.toNatClampNeg) v) else sh
def m_cellF (sz sl : Nat → Int32) (k ii lane : Int32) : Int32 := if ¬ (q_noSheet k = 0 ∧ m_laneOk lane) then 0 else if 0 ≤ sz k.toNatClampNeg ∧ ¬ sl k.toNatClampNeg = lane then 2 else q_noCell sz k ii
def m_cellR (sz sl sh : Nat → Int32) (k ii lane : Int32) : Int64 := if q_noSheet k = 0 ∧ m_laneOk lane ∧ m_cellF sz sl k ii lane = 0 then (sh (60 * k + ii).toNatClampNeg).toInt64 else -9223372036854775808
def m_cpBar (sz sl : Nat → Int32) (k i o j n : Int32) : Int32 := if sz k.toNatClampNeg < 0 ∨ sz o.toNatClampNeg < 0 then 1 else if ¬ sl k.toNatClampNeg = sl o.toNatClampNeg then 2 else if ¬ q_beyond i n.toInt64 (sz k.toNatClampNeg) = 0 ∨ ¬ q_beyond j n.toInt64 (sz o.toNatClampNeg) = 0 then 3 else 0
abbrev m_cpK (k o : Int32) : Prop := q_noSheet k = 0 ∧ q_noSheet o = 0
def m_copyR (sz sl : Nat → Int32) (k i o j n : Int32) : Int32 := if ¬ m_cpK k o then -1 else if ¬ m_cpBar sz sl k i o j n = 0 then -10 - m_cpBar sz sl k i o j n else n
def m_copyF (sz sl : Nat → Int32) (k i o j n : Int32) : Int32 := if m_cpK k o then m_cpBar sz sl k i o j n else 0
def m_copyS (sz sl sh : Nat → Int32) (k i o j n : Int32) : Nat → Int32 := if m_cpK k o ∧ m_cpBar sz sl k i o j n = 0 then (fun q => if (60 * o + j).toNatClampNeg ≤ q ∧ q < (60 * o + j).toNatClampNeg + n.toNatClampNeg then sh ((60 * k + i).toNatClampNeg + (q - (60 * o + j).toNatClampNeg)) else sh q) else sh
def m_tellR (sk : Int32) (kd wt : Nat → Int32) (a : Int32) : Int32 := if ¬ q_noSk sk a = 0 then -1 else if kd a.toNatClampNeg = 0 then wt a.toNatClampNeg else if kd a.toNatClampNeg = 1 then wt a.toNatClampNeg + 100 else 2 * wt a.toNatClampNeg + 100
def m_tellT (sk : Int32) (kd : Nat → Int32) (a tr : Int32) : Int32 := if ¬ q_noSk sk a = 0 then tr else
  if kd a.toNatClampNeg = 2 then 31 * (31 * (31 * (31 * tr + 3) + 2) + 1) + 1 else if 0 < kd a.toNatClampNeg then 31 * (31 * tr + 2) + 1 else 31 * tr + 1
def m_signedR (sk : Int32) (kd : Nat → Int32) (a : Int32) : Int32 := if ¬ q_noSk sk a = 0 then -1 else if kd a.toNatClampNeg = 2 then 60 else a
def m_signedT (sk : Int32) (kd : Nat → Int32) (a tr : Int32) : Int32 := if ¬ q_noSk sk a = 0 then tr else if kd a.toNatClampNeg = 2 then 31 * tr + 5 else 31 * tr + 4
def m_asR (sk : Int32) (kd : Nat → Int32) (a kind : Int32) : Int32 := if ¬ q_noSk sk a = 0 then -1 else if ¬ m_laneOk kind then -2 else if kind ≤ kd a.toNatClampNeg then 1 else -12
def m_asF (sk : Int32) (kd : Nat → Int32) (a kind : Int32) : Int32 := if q_noSk sk a = 0 ∧ m_laneOk kind ∧ ¬ kind ≤ kd a.toNatClampNeg then 2 else 0
def m_many (hi wi fr sk rc what : Int32) : Int32 := if what = 0 then sk else if what = 1 then hi * wi else if what = 2 then wi else if what = 3 then fr else if what = 4 then rc else -2
/-- the strengths behind deed(): put back from what was kept -/
def m_deedS4 (hi wi sk br th : Int32) (str kd wt sz sl sh kept : Nat → Int32) (a b ce k lane i n what : Int32) : Nat → Int32 :=
  if m_dDo hi wi sk sz sl sh a b ce k lane i n ∧ 0 ≤ what ∧ what ≤ 4 then s_cp20 (s_cp20 str kept) (m_deedN hi wi br th str kd wt sh a b ce k i n).2.2.2 else str
def m_writeS4 (hi wi sk br th : Int32) (str kd wt sz sl sh kept : Nat → Int32) (a b ce k lane i n : Int32) : Nat → Int32 :=
  if m_dDo hi wi sk sz sl sh a b ce k lane i n then (if (m_deedN hi wi br th str kd wt sh a b ce k i n).1 < 0 then (m_deedN hi wi br th str kd wt sh a b ce k i n).2.2.2 else s_cp20 (s_cp20 str kept) (m_deedN hi wi br th str kd wt sh a b ce k i n).2.2.2) else str
abbrev m_oddsDo (hi wi sk a b fro to set which : Int32) : Prop := m_bKnown hi wi sk a b fro to ∧ (0 ≤ set ∧ set.toInt64 ≤ ((1 : Int32) <<< ((hi * wi) &&& 31)).toInt64 - 1) ∧ q_bits set ≤ 8 ∧ 0 ≤ which ∧ which ≤ 1
/-! the pure words of the class's own methods -/
def s_sk (cnt a : Int32) : Int32 := s_in a 0 (cnt - 1)
def s_ce (hi wi ce : Int32) : Int32 := s_in ce 0 (hi * wi - 1)
def s_shAt (sh : Nat → Option Nat) (k : Int32) : Option Nat := if s_in k 0 3 = 0 then none else sh k.toNatClampNeg
def x_kf (v : Int32) : Int32 := if s_in v (-14) (-11) = 0 then 0 else -10 - v
def x_pair (cnt a b : Int32) : Int32 := if ¬ s_sk cnt a = 0 ∧ ¬ s_sk cnt b = 0 ∧ ¬ a = b then 1 else 0
def x_rl (sla lane : Int32) : Int32 := if s_in lane 0 2 = 0 then -2 else if ¬ s_nothing sla = 0 then -11 else if sla = lane then 0 else -12
def x_rp (sla sle lane i n : Int32) : Int32 := if ¬ x_rl sla lane = 0 then x_rl sla lane else if s_shas sle i n = 0 then -13 else 0
def x_rw (hi wi v : Int32) : Int32 := if s_in v 0 9 = 0 then -2 else if hi * wi = 0 then -3 else 0
-- texts
abbrev x_ttGo (sla sle lane i n : Int32) : Prop := x_rl sla lane = 0 ∧ ¬ n < 0 ∧ ¬ s_shas sle i n = 0
def x_ttIce (sn xc : Nat → Int32) (i n : Int32) (str : Nat → Int32) : tT × (Nat → Int32) × Int32 := itRow n (s_cpT sn xc i n) (0, 0) str
def x_ttCrew (sn xc : Nat → Int32) (i n : Int32) (str ck cwt : Nat → Int32) : cT := crwAll n (s_cpT sn xc i n) (x_ttIce sn xc i n str).1 ck cwt
def x_ttEnd (sn xc : Nat → Int32) (i n : Int32) (str ck cwt : Nat → Int32) : Int32 := s_endW n (x_ttCrew sn xc i n str ck cwt).1.1 (x_ttCrew sn xc i n str ck cwt).1.2
abbrev x_ttOk (sla sle lane i n : Int32) (sn xc str ck cwt : Nat → Int32) : Prop := x_ttGo sla sle lane i n ∧ x_ttEnd sn xc i n str ck cwt = 0
def x_ttR (sla sle lane i n : Int32) (sn xc str ck cwt : Nat → Int32) : Int32 :=
  if ¬ x_rl sla lane = 0 then x_rl sla lane else if n < 0 then -14 else if s_shas sle i n = 0 then -13 else if ¬ x_ttEnd sn xc i n str ck cwt = 0 then -100 - (x_ttCrew sn xc i n str ck cwt).1.1 else (x_ttCrew sn xc i n str ck cwt).2.2.2
-- deeds
abbrev x_dK (hi wi cnt a b ce : Int32) : Prop := ¬ x_pair cnt a b = 0 ∧ ¬ s_ce hi wi ce = 0
def x_dKn (hi wi cnt a b ce : Int32) : Int32 := if x_dK hi wi cnt a b ce then 1 else 0
def x_noSt (sn : Nat → Int32) (i : Int32) (n : Nat) : Bool := decide (∃ x, x < n ∧ s_in (sn (i + nI x).toNatClampNeg) 0 3 = 0)
def x_tdR (hi wi cnt sla sle : Int32) (sn : Nat → Int32) (a b ce lane i n : Int32) : Int32 :=
  if ¬ x_dK hi wi cnt a b ce then -1 else if s_in n 0 40 = 0 then -2 else if ¬ x_rp sla sle lane i n = 0 then x_rp sla sle lane i n else if x_noSt sn i n.toNatClampNeg = true then -2 else 0
/-- a trial: where it stands, what is cut, first wrong, strengths -/
abbrev tS : Type := Int32 × Int32 × Int32 × (Nat → Int32)
def x_trStep (hi wi fc lc stroke load : Int32) (x : Nat) (q : tS) : tS :=
  (s_stAt (s_led hi wi fc lc q.1 stroke) load q.2.2.2 q.1, s_stCut (s_led hi wi fc lc q.1 stroke) load q.2.2.2 q.2.1, s_stFw (s_led hi wi fc lc q.1 stroke) load q.2.2.2 q.2.2.1 (nI x), s_stStr (s_led hi wi fc lc q.1 stroke) load q.2.2.2)
def x_trN (hi wi fc lc : Int32) (ck cwt sn str : Nat → Int32) (a b ce i : Int32) : Nat → tS
  | 0 => (ce, 0, -9, str)
  | x + 1 => if (x_trN hi wi fc lc ck cwt sn str a b ce i x).2.2.1 = -9 then x_trStep hi wi fc lc (sn (i + nI x).toNatClampNeg) (s_load ck cwt (if x % 2 = 0 then a else b)) x (x_trN hi wi fc lc ck cwt sn str a b ce i x) else x_trN hi wi fc lc ck cwt sn str a b ce i x
def x_tr (hi wi fc lc : Int32) (ck cwt sn str dstr : Nat → Int32) (a b ce i n : Int32) : tS := x_trN hi wi fc lc ck cwt sn (s_cp20 str dstr) a b ce i n.toNatClampNeg
def x_ofT (q : tS) (n what : Int32) : Int32 := if what = 1 then q.2.2.1 else if ¬ q.2.2.1 = -9 then -100 - q.2.2.1 else if what = 0 then q.1 else if what = 2 then q.2.1 else if what = 3 then q.2.2.2 q.1.toNatClampNeg else (n + 1) / 2
def x_deedR (hi wi fc lc cnt sla sle : Int32) (ck cwt sn str dstr : Nat → Int32) (a b ce lane i n what : Int32) : Int32 :=
  if s_in what 0 4 = 0 then (if x_dK hi wi cnt a b ce then -2 else -1) else if ¬ x_tdR hi wi cnt sla sle sn a b ce lane i n = 0 then x_tdR hi wi cnt sla sle sn a b ce lane i n else x_ofT (x_tr hi wi fc lc ck cwt sn str dstr a b ce i n) n what
def x_writeR (hi wi fc lc cnt sla sle : Int32) (ck cwt sn str dstr : Nat → Int32) (a b ce lane i n : Int32) : Int32 :=
  if ¬ x_tdR hi wi cnt sla sle sn a b ce lane i n = 0 then x_tdR hi wi cnt sla sle sn a b ce lane i n else if ¬ (x_tr hi wi fc lc ck cwt sn str dstr a b ce i n).2.2.1 = -9 then -100 - (x_tr hi wi fc lc ck cwt sn str dstr a b ce i n).2.2.1 else n
def x_writeS (hi wi fc lc cnt sla sle : Int32) (ck cwt sn str dstr : Nat → Int32) (a b ce lane i n : Int32) : Nat → Int32 :=
  if x_tdR hi wi cnt sla sle sn a b ce lane i n = 0 ∧ (x_tr hi wi fc lc ck cwt sn str dstr a b ce i n).2.2.1 = -9 then s_cp20 (x_tr hi wi fc lc ck cwt sn str dstr a b ce i n).2.2.2 str else str
-- the canal
def x_ofSk (hi wi cnt : Int32) (str ck cwt : Nat → Int32) (a what : Int32) : Int32 :=
  if s_sk cnt a = 0 then -1 else if what = 0 then ck a.toNatClampNeg else if what = 1 then cwt a.toNatClampNeg else if what = 2 then s_load ck cwt a else if what = 3 then s_bearing str (s_load ck cwt a) 0 (hi * wi).toNatClampNeg else -2
def x_strength (hi wi : Int32) (str : Nat → Int32) (ce : Int32) : Int32 := if s_ce hi wi ce = 0 then -1 else str ce.toNatClampNeg
abbrev x_frOk (hi wi ce v : Int32) : Prop := ¬ s_ce hi wi ce = 0 ∧ ¬ s_in v 0 9 = 0
def x_freezeR (hi wi : Int32) (str : Nat → Int32) (ce v : Int32) : Int32 := if s_ce hi wi ce = 0 then -1 else if s_in v 0 9 = 0 then -2 else str ce.toNatClampNeg
def x_wx (hi wi v r : Int32) : Int32 := if x_rw hi wi v = 0 then r else x_rw hi wi v
-- bonds
abbrev x_bK (hi wi cnt a b fro to : Int32) : Prop := ¬ x_pair cnt a b = 0 ∧ ¬ s_ce hi wi fro = 0 ∧ ¬ s_ce hi wi to = 0
def x_bKn (hi wi cnt a b fro to : Int32) : Int32 := if x_bK hi wi cnt a b fro to then 1 else 0
def x_brg (hi wi : Int32) (str ck cwt : Nat → Int32) (a days : Int32) : Int32 := s_bearing str (s_load ck cwt a) days (hi * wi).toNatClampNeg
def x_isBd (hi wi fc lc : Int32) (str ck cwt : Nat → Int32) (a b fro to broken : Int32) : Int32 :=
  if s_shortest hi wi fc lc fro to (x_brg hi wi str ck cwt a 0 &&& (broken ^^^ (-1))) (x_brg hi wi str ck cwt b 0 &&& (broken ^^^ (-1))) = -9 then 0 else 1
def x_bondR (hi wi fc lc cnt : Int32) (str ck cwt : Nat → Int32) (a b fro to k : Int32) : Int32 :=
  if ¬ x_bK hi wi cnt a b fro to then -1 else if s_in k (-1) 39 = 0 then -2 else if k = -1 then s_shortest hi wi fc lc fro to (x_brg hi wi str ck cwt a 0) (x_brg hi wi str ck cwt b 0)
  else if k < s_shortest hi wi fc lc fro to (x_brg hi wi str ck cwt a 0) (x_brg hi wi str ck cwt b 0) then s_strokeOf hi wi fc lc k fro to (x_brg hi wi str ck cwt a 0) (x_brg hi wi str ck cwt b 0) else -9
def x_holdsN (hi wi fc lc : Int32) (str ck cwt : Nat → Int32) (a b fro to : Int32) : Nat → Int32
  | 0 => -9
  | d + 1 => if s_shortest hi wi fc lc fro to (x_brg hi wi str ck cwt a (nI d)) (x_brg hi wi str ck cwt b (nI d)) = -9 then x_holdsN hi wi fc lc str ck cwt a b fro to d else nI d
termination_by d => d
def x_holdsR (hi wi fc lc cnt : Int32) (str ck cwt : Nat → Int32) (a b fro to : Int32) : Int32 := if ¬ x_bK hi wi cnt a b fro to then -1 else x_holdsN hi wi fc lc str ck cwt a b fro to 10
def x_aloneR (hi wi fc lc cnt : Int32) (str ck cwt : Nat → Int32) (a fro : Int32) : Int32 := if s_sk cnt a = 0 ∨ s_ce hi wi fro = 0 then -1 else s_reach hi wi fc lc fro (x_brg hi wi str ck cwt a 0)
/-- the first of k cells from ce on without which there is no bond -/
def x_neckN (hi wi fc lc : Int32) (str ck cwt : Nat → Int32) (a b fro to : Int32) : Nat → Nat → Int32
  | 0, _ => -9
  | k + 1, ce => if ¬ nI ce = fro ∧ ¬ nI ce = to ∧ x_isBd hi wi fc lc str ck cwt a b fro to ((1 : Int32) <<< (nI ce &&& 31)) = 0 then nI ce else x_neckN hi wi fc lc str ck cwt a b fro to k (ce + 1)
def x_neckR (hi wi fc lc cnt : Int32) (str ck cwt : Nat → Int32) (a b fro to : Int32) : Int32 :=
  if ¬ x_bK hi wi cnt a b fro to then -1 else if x_isBd hi wi fc lc str ck cwt a b fro to 0 = 0 then -9 else x_neckN hi wi fc lc str ck cwt a b fro to (hi * wi).toNatClampNeg 0
-- readings
def x_rdR (hi wi cnt rc a ce : Int32) : Int32 := if s_sk cnt a = 0 ∨ s_ce hi wi ce = 0 then -1 else s_addR rc
abbrev x_rdOk (hi wi cnt a ce : Int32) : Prop := ¬ (s_sk cnt a = 0 ∨ s_ce hi wi ce = 0)
def x_backR (rc k : Int32) : Int32 := if s_in k 0 rc = 0 then -2 else rc - k
def x_backC (rc k : Int32) : Int32 := if s_in k 0 rc = 0 then rc else rc - k
def x_weightsR (cnt : Int32) (rs rl rb str ck cwt : Nat → Int32) (n : Nat) (a : Int32) : Int32 := if s_sk cnt a = 0 then -1 else m_setN (fun v => s_areSo rs rl rb str ck (upd cwt a.toNatClampNeg v) n) 1 9
def x_kindsR (cnt : Int32) (rs rl rb str ck cwt : Nat → Int32) (n : Nat) (a : Int32) : Int32 := if s_sk cnt a = 0 then -1 else m_setN (fun v => s_areSo rs rl rb str (upd ck a.toNatClampNeg v) cwt n) 0 3
def x_strengthsR (hi wi : Int32) (rs rl rb str ck cwt : Nat → Int32) (n : Nat) (ce : Int32) : Int32 := if s_ce hi wi ce = 0 then -1 else m_setN (fun v => s_areSo rs rl rb (upd str ce.toNatClampNeg v) ck cwt n) 0 10
/-- how many of the first k sets of breaking cells leave a bond, and the next one -/
def x_nextSub (set broken : Int32) : Int32 := (broken - set) &&& set
def x_subN (set : Int32) : Nat → Int32
  | 0 => 0
  | k + 1 => x_nextSub set (x_subN set k)
def x_bondsN (hi wi fc lc : Int32) (str ck cwt : Nat → Int32) (a b fro to set : Int32) : Nat → Int32
  | 0 => 0
  | k + 1 => x_bondsN hi wi fc lc str ck cwt a b fro to set k + x_isBd hi wi fc lc str ck cwt a b fro to (x_subN set k)
def x_bonds (hi wi fc lc : Int32) (str ck cwt : Nat → Int32) (a b fro to set : Int32) : Int32 := x_bondsN hi wi fc lc str ck cwt a b fro to set ((1 : Int32) <<< (s_bitCount set &&& 31)).toNatClampNeg
/-- halves: upper, lower, k rounds at most -/
def x_halfN : Nat → Int32 → Int32 → Int32 × Int32
  | 0, u, d => (u, d)
  | k + 1, u, d => if 1 < d ∧ u - u / 2 * 2 = 0 then x_halfN k (u / 2) (d / 2) else (u, d)
termination_by k _ _ => k
abbrev x_oddsOk (hi wi cnt a b fro to set which : Int32) : Prop := x_bK hi wi cnt a b fro to ∧ (set &&& (s_all hi wi ^^^ (-1)) = 0 ∧ s_bitCount set ≤ 8) ∧ ¬ s_in which 0 1 = 0
def x_half (hi wi fc lc : Int32) (str ck cwt : Nat → Int32) (a b fro to set : Int32) : Int32 × Int32 := x_halfN 8 (x_bonds hi wi fc lc str ck cwt a b fro to set) ((1 : Int32) <<< (s_bitCount set &&& 31))
def x_oddsR (hi wi fc lc cnt : Int32) (str ck cwt : Nat → Int32) (a b fro to set which : Int32) : Int64 :=
  if x_oddsOk hi wi cnt a b fro to set which then (if which = 0 then (x_half hi wi fc lc str ck cwt a b fro to set).1 else (x_half hi wi fc lc str ck cwt a b fro to set).2).toInt64 else -9223372036854775808
-- sheets
def x_nrR (lane n : Int32) : Int32 := if s_in lane 0 2 = 0 ∨ 60 < n then -2 else if n < 0 then -14 else 1
abbrev x_nrOk (lane n : Int32) : Prop := ¬ s_in lane 0 2 = 0 ∧ ¬ 60 < n ∧ ¬ n < 0
def x_pnR (sla sle ii : Int32) : Int32 := if ¬ s_nothing sla = 0 then -11 else if s_shas sle ii 1 = 0 then -13 else 1
abbrev x_pnOk (sla sle ii : Int32) : Prop := s_nothing sla = 0 ∧ ¬ s_shas sle ii 1 = 0
def x_cellR (sla sle : Int32) (sn : Nat → Int32) (lane ii : Int32) : Int64 := if x_rp sla sle lane ii 1 = 0 then (sn ii.toNatClampNeg).toInt64 else -9223372036854775808
abbrev x_cpOk (sla sle ula ule i j n : Int32) : Prop := (s_nothing sla = 0 ∧ s_nothing ula = 0) ∧ sla = ula ∧ ¬ s_shas sle i n = 0 ∧ ¬ s_shas ule j n = 0
def x_cpR (sla sle ula ule i j n : Int32) : Int32 := if ¬ (s_nothing sla = 0 ∧ s_nothing ula = 0) then -11 else if ¬ sla = ula then -12 else if s_shas sle i n = 0 ∨ s_shas ule j n = 0 then -13 else n
def x_cpS (sla sle ula ule : Int32) (sn un : Nat → Int32) (i j n : Int32) : Nat → Int32 := if x_cpOk sla sle ula ule i j n then va_cpy sn un i.toNatClampNeg j.toNatClampNeg n.toNatClampNeg else un
-- telling
def x_tellR (cnt : Int32) (ck cwt : Nat → Int32) (a : Int32) : Int32 := if s_sk cnt a = 0 then -1 else if ck a.toNatClampNeg = 1 then cwt a.toNatClampNeg + 100 else if ck a.toNatClampNeg = 2 then cwt a.toNatClampNeg + 100 + cwt a.toNatClampNeg else cwt a.toNatClampNeg
def x_tellT (cnt : Int32) (ck : Nat → Int32) (a tr : Int32) : Int32 := if s_sk cnt a = 0 then tr else if ck a.toNatClampNeg = 1 then 31 * (31 * tr + 2) + 1 else if ck a.toNatClampNeg = 2 then 31 * (31 * (31 * (31 * tr + 3) + 2) + 1) + 1 else 31 * tr + 1
def x_signR (cnt : Int32) (ck : Nat → Int32) (a : Int32) : Int32 := if s_sk cnt a = 0 then -1 else if ck a.toNatClampNeg = 2 then 60 else a
def x_signT (cnt : Int32) (ck : Nat → Int32) (a tr : Int32) : Int32 := if s_sk cnt a = 0 then tr else if ck a.toNatClampNeg = 2 then 31 * tr + 5 else 31 * tr + 4
def x_asR (cnt : Int32) (ck : Nat → Int32) (a kind : Int32) : Int32 := if s_sk cnt a = 0 then -1 else if s_in kind 0 2 = 0 then -2 else if ck a.toNatClampNeg < kind then -12 else 1
def x_many (hi wi fr cnt rc what : Int32) : Int32 := if what = 0 then cnt else if what = 1 then hi * wi else if what = 2 then wi else if what = 3 then fr else if what = 4 then rc else -2
/-- every stroke of a trial leads to a cell of the ice, or off it; the run of strokes lies in its row -/
def okTrial (hi wi fc lc : Int32) (ck cwt sn str : Nat → Int32) (a b ce i n sle : Int32) : Prop := ∀ x : Nat, x < n.toNatClampNeg → okRun i n 60 → (∀ y, y < n.toNatClampNeg → s_in (sn (i + nI y).toNatClampNeg) 0 3 = 1) → (x_trN hi wi fc lc ck cwt sn str a b ce i x).2.2.1 = -9 → (s_led hi wi fc lc (x_trN hi wi fc lc ck cwt sn str a b ce i x).1 (sn (i + nI x).toNatClampNeg) = -9 ∨ vp_in (s_led hi wi fc lc (x_trN hi wi fc lc ck cwt sn str a b ce i x).1 (sn (i + nI x).toNatClampNeg)) 20)
