/-! the pure words of the class's methods -/
def s_in (v a b : Int32) : Int32 := if a ≤ v ∧ v ≤ b then 1 else 0
def s_isIn (set k : Int32) : Int32 := if (set >>> (k &&& 31)) &&& 1 = 1 then 1 else 0
def s_ush (x k : Int32) : Int32 := (x.toUInt32 >>> (k.toUInt32 &&& Int32.toUInt32 31)).toInt32
def s_bc1 (x : Int32) : Int32 := x - (s_ush x 1 &&& 1431655765)
def s_bc2 (x : Int32) : Int32 := (x &&& 858993459) + (s_ush x 2 &&& 858993459)
def s_bc3 (x : Int32) : Int32 := (x + s_ush x 4) &&& 252645135
def s_bc4 (x : Int32) : Int32 := x + s_ush x 8
def s_bc5 (x : Int32) : Int32 := x + s_ush x 16
def s_bitCount (x : Int32) : Int32 := s_bc5 (s_bc4 (s_bc3 (s_bc2 (s_bc1 x)))) &&& 63
def s_fill (v : Int32) (g : Nat → Int32) : Nat → Int32 := fun k => if k < 60 then v else g k
/-- a canal's high and wide, or none -/
def okD (hi wi : Int32) : Prop := ∃ a b : Nat, a ≤ 4 ∧ b ≤ 5 ∧ hi = nI a ∧ wi = nI b
/-- n cells from i on of a row of N -/
def okRun (i n : Int32) (N : Nat) : Prop := ¬ i < 0 ∧ ¬ n < 0 ∧ i.toNatClampNeg + n.toNatClampNeg ≤ N
def s_load (ck cwt : Nat → Int32) (a : Int32) : Int32 := if ck a.toNatClampNeg = 1 then cwt a.toNatClampNeg + 1 else if ck a.toNatClampNeg = 2 then 2 * (cwt a.toNatClampNeg + 1) else cwt a.toNatClampNeg
def s_all (hi wi : Int32) : Int32 := (1 <<< ((hi * wi) &&& 31)) - 1
def s_cl (x : Int32) : Int32 := if x < 0 then 0 else if 9 < x then 9 else x
def s_strengthen (n : Nat) (more : Int32) (str : Nat → Int32) : Nat → Int32 := fun k => if k < n then s_cl (str k + more) else str k
def s_count (str : Nat → Int32) (v : Int32) : Nat → Int32
  | 0 => 0
  | n + 1 => s_count str v n + (if str n = v then 1 else 0)
def s_bearing (str : Nat → Int32) (load days : Int32) : Nat → Int32
  | 0 => 0
  | n + 1 => s_bearing str load days n ||| (if load ≤ str n - days then 1 <<< (nI n &&& 31) else 0)
def s_led (hi wi fc lc ce stroke : Int32) : Int32 :=
  if stroke = 0 then (if wi ≤ ce then ce - wi else -9)
  else if stroke = 1 then (if s_isIn lc ce = 0 then ce + 1 else -9)
  else if stroke = 2 then (if ce + wi < hi * wi then ce + wi else -9)
  else if stroke = 3 then (if s_isIn fc ce = 0 then ce - 1 else -9)
  else -9
def s_next (hi wi fc lc set : Int32) : Int32 :=
  (((set &&& (lc ^^^ (-1))) <<< (1 &&& 31)) ||| ((set &&& (fc ^^^ (-1))) >>> (1 &&& 31)) ||| ((set <<< (wi &&& 31)) ||| (set >>> (wi &&& 31)))) &&& s_all hi wi
def s_reachN (hi wi fc lc bears : Int32) : Nat → Int32 → Int32
  | 0, set => set
  | n + 1, set => s_reachN hi wi fc lc bears n (set ||| (s_next hi wi fc lc set &&& bears))
def s_reach (hi wi fc lc fro bears : Int32) : Int32 := s_reachN hi wi fc lc bears 19 (1 <<< (fro &&& 31))
/-- the search: n rounds are left, so many strokes are made -/
def s_shortN (hi wi fc lc to bf bs : Int32) : Nat → Nat → Int32 → Int32 → Int32
  | 0, _, _, _ => -9
  | n + 1, k, there, seen => if there = 0 then -9 else if s_isIn there to = 0 then
      (s_shortN hi wi fc lc to bf bs n (k + 1) (s_next hi wi fc lc there &&& (if k % 2 = 0 then bf else bs) &&& (seen ^^^ (-1))) (seen ||| (s_next hi wi fc lc there &&& (if k % 2 = 0 then bf else bs) &&& (seen ^^^ (-1)))))
    else nI k
def s_shortest (hi wi fc lc fro to bf bs : Int32) : Int32 := s_shortN hi wi fc lc to bf bs 20 0 (1 <<< (fro &&& 31)) (1 <<< (fro &&& 31))
/-- whether a bond begins with this stroke -/
abbrev s_isBegin (hi wi fc lc fro to bf bs stroke : Int32) : Prop := ¬ s_led hi wi fc lc fro stroke = -9 ∧ ¬ s_isIn bf (s_led hi wi fc lc fro stroke) = 0 ∧ s_shortest hi wi fc lc (s_led hi wi fc lc fro stroke) to bs bf = s_shortest hi wi fc lc fro to bf bs - 1
def s_begin (hi wi fc lc fro to bf bs : Int32) : Int32 :=
  if s_isBegin hi wi fc lc fro to bf bs 0 then 0 else if s_isBegin hi wi fc lc fro to bf bs 1 then 1 else if s_isBegin hi wi fc lc fro to bf bs 2 then 2 else if s_isBegin hi wi fc lc fro to bf bs 3 then 3 else -9
def s_strokeN (hi wi fc lc to bf bs : Int32) : Nat → Nat → Int32 → Int32 → Int32
  | 0, _, _, st => st
  | n + 1, t, ce, st => if ce = -9 then st else
      s_strokeN hi wi fc lc to bf bs n (t + 1) (s_led hi wi fc lc ce (s_begin hi wi fc lc ce to (if t % 2 = 0 then bf else bs) (if t % 2 = 0 then bs else bf))) (s_begin hi wi fc lc ce to (if t % 2 = 0 then bf else bs) (if t % 2 = 0 then bs else bf))
def s_strokeOf (hi wi fc lc k fro to bf bs : Int32) : Int32 := s_strokeN hi wi fc lc to bf bs (k.toNatClampNeg + 1) 0 fro (-9)
-- a deed
def s_cp20 (f g : Nat → Int32) : Nat → Int32 := fun k => if k < 20 then f k else g k
abbrev s_stW (nx load : Int32) (d : Nat → Int32) : Prop := nx = -9 ∨ d nx.toNatClampNeg < load
def s_stAt (nx load : Int32) (d : Nat → Int32) (dat : Int32) : Int32 := if s_stW nx load d then dat else nx
def s_stCut (nx load : Int32) (d : Nat → Int32) (dcut : Int32) : Int32 := if s_stW nx load d then dcut else dcut ||| (1 <<< (nx &&& 31))
def s_stFw (nx load : Int32) (d : Nat → Int32) (dfw number : Int32) : Int32 := if s_stW nx load d then number else dfw
def s_stStr (nx load : Int32) (d : Nat → Int32) : Nat → Int32 := if s_stW nx load d then d else upd d nx.toNatClampNeg (d nx.toNatClampNeg - 1)
-- readings
def okR (rc : Int32) (rs rl : Nat → Int32) : Prop := ∃ n : Nat, n ≤ 8 ∧ rc = nI n ∧ ∀ k, k < n → vp_in (rs k) 4 ∧ vp_in (rl k) 20
def s_addR (rc : Int32) : Int32 := if 8 ≤ rc then -4 else rc
def s_addC (rc : Int32) : Int32 := if 8 ≤ rc then rc else rc + 1
def s_addF (rc : Int32) (f : Nat → Int32) (v : Int32) : Nat → Int32 := if 8 ≤ rc then f else upd f rc.toNatClampNeg v
def s_areSo (rs rl rb str ck cwt : Nat → Int32) (n : Nat) : Int32 := if ∀ k, k < n → (if s_load ck cwt (rs k) ≤ str (rl k).toNatClampNeg then (1 : Int32) else 0) = rb k then 1 else 0
-- sheets
def s_nothing (sla : Int32) : Int32 := if sla = -1 then 1 else 0
def s_shas (sle i n : Int32) : Int32 := if s_in i 0 sle = 0 then 0 else s_in n 0 (sle - i)
def s_cut (sla v : Int32) : Int32 := if sla = 0 then v.toInt8.toInt32 else if sla = 1 then v.toInt16.toInt32 else v
-- texts
def s_cpT (sn xc : Nat → Int32) (i n : Int32) : Nat → Int32 := va_cpy sn xc i.toNatClampNeg (0 : Int32).toNatClampNeg n.toNatClampNeg
def okT (xl xp : Int32) : Prop := ∃ a b : Nat, b ≤ 60 ∧ a ≤ b ∧ xl = nI b ∧ xp = nI a
abbrev s_go (xl xp xw : Int32) : Prop := xw = 0 ∧ xp < xl
def s_goesOn (xl xp xw : Int32) : Int32 := if s_go xl xp xw then 1 else 0
abbrev s_takeOk (xl xp xw : Int32) (xc : Nat → Int32) (least most : Int32) : Prop := s_go xl xp xw ∧ least ≤ xc xp.toNatClampNeg ∧ xc xp.toNatClampNeg ≤ most
def s_takeR (xl xp xw : Int32) (xc : Nat → Int32) (least most : Int32) : Int32 := if s_takeOk xl xp xw xc least most then xc xp.toNatClampNeg - least else 0
def s_takeP (xl xp xw : Int32) (xc : Nat → Int32) (least most : Int32) : Int32 := if s_takeOk xl xp xw xc least most then xp + 1 else xp
def s_takeW (xl xp xw : Int32) (xc : Nat → Int32) (least most : Int32) : Int32 := if s_takeOk xl xp xw xc least most then xw else 1
def s_kindCode (xl xp xw : Int32) (xc : Nat → Int32) : Int32 := if s_go xl xp xw then xc xp.toNatClampNeg else 0
def s_kindC (xl xp xw : Int32) (xc : Nat → Int32) : Int32 := if s_kindCode xl xp xw xc = 107 then 107 else if s_kindCode xl xp xw xc = 98 then 98 else 115
def s_kindR (xl xp xw : Int32) (xc : Nat → Int32) : Int32 := if s_kindCode xl xp xw xc = 107 then 1 else if s_kindCode xl xp xw xc = 98 then 2 else 0
def s_endW (xl xp xw : Int32) : Int32 := if xw = 0 then (if xp < xl then 1 else 0) else 1
/-- where a text stands (place, wrong), behind a code that is taken -/
abbrev tT : Type := Int32 × Int32
def tkS (xl : Int32) (xc : Nat → Int32) (least most : Int32) (t : tT) : tT := (s_takeP xl t.1 t.2 xc least most, s_takeW xl t.1 t.2 xc least most)
def tkR (xl : Int32) (xc : Nat → Int32) (least most : Int32) (t : tT) : Int32 := s_takeR xl t.1 t.2 xc least most
def dgS (xl : Int32) (xc : Nat → Int32) (least most : Int32) (t : tT) : tT := tkS xl xc (48 + least) (48 + most) t
def dgR (xl : Int32) (xc : Nat → Int32) (least most : Int32) (t : tT) : Int32 := least + tkR xl xc (48 + least) (48 + most) t
/-- c columns of a row of cells from base on -/
def colN (xl : Int32) (xc : Nat → Int32) (base : Nat) (t : tT) (str : Nat → Int32) : Nat → tT × (Nat → Int32)
  | 0 => (t, str)
  | c + 1 => (dgS xl xc 0 9 (colN xl xc base t str c).1, upd (colN xl xc base t str c).2 (base + c) (dgR xl xc 0 9 (colN xl xc base t str c).1))
/-- r rows: the text, the strengths, the first column -/
def rowN (xl : Int32) (xc : Nat → Int32) (w : Nat) (t : tT) (str : Nat → Int32) : Nat → tT × (Nat → Int32) × Int32
  | 0 => (t, str, 0)
  | r + 1 => ((colN xl xc (r * w) (tkS xl xc 59 59 (rowN xl xc w t str r).1) (rowN xl xc w t str r).2.1 w).1, (colN xl xc (r * w) (tkS xl xc 59 59 (rowN xl xc w t str r).1) (rowN xl xc w t str r).2.1 w).2, (rowN xl xc w t str r).2.2 ||| (1 <<< ((nI r * nI w) &&& 31)))
def it1 (xl : Int32) (xc : Nat → Int32) (t : tT) : tT := tkS xl xc 99 99 t
def it2 (xl : Int32) (xc : Nat → Int32) (t : tT) : tT := dgS xl xc 1 4 (it1 xl xc t)
def it3 (xl : Int32) (xc : Nat → Int32) (t : tT) : tT := dgS xl xc 2 5 (it2 xl xc t)
def it4 (xl : Int32) (xc : Nat → Int32) (t : tT) : tT := dgS xl xc 0 9 (it3 xl xc t)
def itHi (xl : Int32) (xc : Nat → Int32) (t : tT) : Int32 := dgR xl xc 1 4 (it1 xl xc t)
def itWi (xl : Int32) (xc : Nat → Int32) (t : tT) : Int32 := dgR xl xc 2 5 (it2 xl xc t)
def itFr (xl : Int32) (xc : Nat → Int32) (t : tT) : Int32 := dgR xl xc 0 9 (it3 xl xc t)
def itRow (xl : Int32) (xc : Nat → Int32) (t : tT) (str : Nat → Int32) : tT × (Nat → Int32) × Int32 := rowN xl xc (itWi xl xc t).toNatClampNeg (it4 xl xc t) str (itHi xl xc t).toNatClampNeg
/-- the skaters of a text -/
abbrev cT : Type := tT × (Nat → Int32) × (Nat → Int32) × Int32
def crw (xl : Int32) (xc : Nat → Int32) (a : Nat) (q : cT) : cT :=
  (dgS xl xc 1 9 (tkS xl xc (s_kindC xl (tkS xl xc 44 44 q.1).1 (tkS xl xc 44 44 q.1).2 xc) (s_kindC xl (tkS xl xc 44 44 q.1).1 (tkS xl xc 44 44 q.1).2 xc) (tkS xl xc 44 44 q.1)),
   upd q.2.1 a (s_kindR xl (tkS xl xc 44 44 q.1).1 (tkS xl xc 44 44 q.1).2 xc),
   upd q.2.2.1 a (dgR xl xc 1 9 (tkS xl xc (s_kindC xl (tkS xl xc 44 44 q.1).1 (tkS xl xc 44 44 q.1).2 xc) (s_kindC xl (tkS xl xc 44 44 q.1).1 (tkS xl xc 44 44 q.1).2 xc) (tkS xl xc 44 44 q.1))),
   nI (a + 1))
def crwN (xl : Int32) (xc : Nat → Int32) : Nat → Nat → cT → cT
  | 0, _, q => q
  | n + 1, a, q => if a < 2 ∨ s_go xl q.1.1 q.1.2 then crwN xl xc n (a + 1) (crw xl xc a q) else q
def crwAll (xl : Int32) (xc : Nat → Int32) (t : tT) (ck cwt : Nat → Int32) : cT := crwN xl xc 4 0 (t, ck, cwt, 0)
