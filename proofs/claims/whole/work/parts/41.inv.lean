/-! what holds between calls -/
def sOK (W pl br wa he : Int32) : Prop := 0 ≤ pl.toInt ∧ 4 ≤ br.toInt ∧ br.toInt ≤ 20 ∧ pl.toInt + br.toInt ≤ W.toInt ∧ 0 ≤ wa.toInt ∧ wa.toInt ≤ 99 ∧ 0 ≤ he.toInt ∧ he.toInt ≤ 99
def cOK (lf wd wm tk : Int32) : Prop := -40 ≤ lf.toInt ∧ lf.toInt ≤ 60 ∧ 5 ≤ wd.toInt ∧ wd.toInt ≤ 80 ∧ 0 ≤ wm.toInt ∧ wm.toInt ≤ 50 ∧ 0 ≤ tk.toInt ∧ tk.toInt ≤ 9
def iv_bed (s : zz_S) : Prop :=
  (s.1 79 1 = s.1 1 0 ∧ s.1 79 2 = s.1 1 1 ∧ s.1 79 7 = s.1 1 2) ∧ (s.1 80 = s.1 2 ∧ s.1 81 = s.1 3 ∧ s.1 82 = s.1 4 ∧ s.1 83 = s.1 5) ∧ (s.1 84 = s.1 6 ∧ s.1 85 = s.1 7 ∧ s.1 86 = s.1 8 ∧ s.1 87 = s.1 9) ∧
  (20 ≤ (s.1 1 0).toInt ∧ (s.1 1 0).toInt ≤ 60 ∧ 0 ≤ (s.1 1 1).toInt ∧ (s.1 1 1).toInt ≤ 6 ∧ 0 ≤ (s.1 1 2).toInt ∧ (s.1 1 2).toInt ≤ 3) ∧
  (∀ i : Nat, (i : Int) < (s.1 1 1).toInt → sOK (s.1 1 0) (s.1 2 i) (s.1 3 i) (s.1 4 i) (s.1 5 i)) ∧ ∀ c : Nat, (c : Int) < (s.1 1 2).toInt → cOK (s.1 6 c) (s.1 7 c) (s.1 8 c) (s.1 9 c)
/-- the turns: minute, sleeper, cells of each as they came; their numbers in the order of a night -/
def tOK (m b c : Int32) : Prop := 0 ≤ m.toInt ∧ m.toInt ≤ 479 ∧ 0 ≤ b.toInt ∧ b.toInt ≤ 5 ∧ -20 ≤ c.toInt ∧ c.toInt ≤ 20 ∧ ¬ c.toInt = 0
def byM (mi : Nat → Int32) (o : Nat → Int32) (n : Nat) : Prop :=
  (∀ k, k < n → 0 ≤ (o k).toInt ∧ (o k).toInt < n) ∧ (∀ j, j < n → ∃ k, k < n ∧ (o k).toInt = j) ∧ ∀ a b, a < b → b < n → (mi (o a).toInt.toNat).toInt < (mi (o b).toInt.toNat).toInt ∨ ((mi (o a).toInt.toNat).toInt = (mi (o b).toInt.toNat).toInt ∧ (o a).toInt < (o b).toInt)
def iv_turn (s : zz_S) : Prop :=
  s.1 79 12 = s.1 10 0 ∧ (s.1 88 = s.1 11 ∧ s.1 89 = s.1 12 ∧ s.1 90 = s.1 13) ∧ (0 ≤ (s.1 10 0).toInt ∧ (s.1 10 0).toInt ≤ 60) ∧ (∀ k : Nat, (k : Int) < (s.1 10 0).toInt → tOK (s.1 11 k) (s.1 12 k) (s.1 13 k)) ∧ byM (s.1 11) (s.1 14) (s.1 10 0).toInt.toNat
/-- the changes: done, known; those from done on are undone -/
def hOK (sl co nu wh wa be : Int32) : Prop := (0 ≤ nu.toInt ∧ 0 ≤ wh.toInt ∧ wh.toInt ≤ 3) ∧ (wh.toInt ≤ 1 → nu.toInt < sl.toInt ∧ 0 ≤ wa.toInt ∧ wa.toInt ≤ 99 ∧ 0 ≤ be.toInt ∧ be.toInt ≤ 99) ∧ (wh.toInt = 2 → nu.toInt < co.toInt ∧ 5 ≤ wa.toInt ∧ wa.toInt ≤ 80 ∧ 5 ≤ be.toInt ∧ be.toInt ≤ 80) ∧ (wh.toInt = 3 → nu.toInt < co.toInt ∧ 0 ≤ wa.toInt ∧ wa.toInt ≤ 9 ∧ 0 ≤ be.toInt ∧ be.toInt ≤ 9)
def iv_chg (s : zz_S) : Prop :=
  s.1 79 16 = s.1 39 0 ∧ (s.1 79 17).toInt = (s.1 39 1).toInt - (s.1 39 0).toInt ∧ (0 ≤ (s.1 39 0).toInt ∧ (s.1 39 0).toInt ≤ (s.1 39 1).toInt ∧ (s.1 39 1).toInt ≤ 40) ∧
  ∀ k : Nat, (k : Int) < (s.1 39 1).toInt → (s.1 92 k = s.1 40 k ∧ s.1 91 k = s.1 41 k ∧ s.1 93 k = s.1 42 k ∧ s.1 94 k = s.1 43 k) ∧ hOK (s.1 1 1) (s.1 1 2) (s.1 40 k) (s.1 41 k) (s.1 42 k) (s.1 43 k)
def iv_tape (s : zz_S) : Prop :=
  s.1 79 23 = s.1 44 0 ∧ (0 ≤ (s.1 44 0).toInt ∧ (s.1 44 0).toInt ≤ 120) ∧ ∀ k : Nat, (k : Int) < (s.1 44 0).toInt → 0 ≤ (s.1 48 k).toInt ∧ (s.1 48 k).toInt ≤ 255 ∧ s.1 95 k = vp_nar .byte (s.1 48 k).toInt8.toInt32
def iv_body (s : zz_S) : Prop :=
  (s.1 79 55 = s.1 49 0 ∧ s.1 79 57 = s.1 49 1 ∧ s.1 117 = s.1 50 ∧ s.1 118 = s.1 51) ∧ (0 ≤ (s.1 49 0).toInt ∧ (s.1 49 0).toInt ≤ 50 ∧ 0 ≤ (s.1 49 1).toInt ∧ (s.1 49 1).toInt ≤ 1000) ∧ ∀ k : Nat, (k : Int) < (s.1 49 0).toInt → 0 ≤ (s.1 50 k).toInt ∧ (s.1 50 k).toInt ≤ 7
/-- a shelf: what the class has of it (holds, body, sort, size, elements), what the reference has (holds, size, elements from a place on) -/
def shOK (nb : Int32) (f : Nat → Int32) (el : Nat → Int64) (ho sz : Int32) (me : Nat → Int64) (o : Nat) : Prop :=
  (∀ i : Nat, i < 60 → me (o + i) = el i) ∧
  (((f 0).toInt = 0 ∧ ho.toInt = -1) ∨ ((f 0).toInt = 1 ∧ ho = f 1 ∧ 0 ≤ (f 1).toInt ∧ (f 1).toInt < nb.toInt) ∨ ((f 0).toInt = 2 ∧ 0 ≤ (f 2).toInt ∧ (f 2).toInt ≤ 4 ∧ ho.toInt = -2 - (f 2).toInt ∧ sz = f 3 ∧ 0 ≤ (f 3).toInt ∧ (f 3).toInt ≤ 60))
def iv_shl (s : zz_S) : Prop :=
  shOK (s.1 49 0) (s.1 67) (s.2 68) (s.1 119 0) (s.1 120 0) (s.2 121) 0 ∧ shOK (s.1 49 0) (s.1 69) (s.2 70) (s.1 119 1) (s.1 120 1) (s.2 121) 60 ∧ shOK (s.1 49 0) (s.1 71) (s.2 72) (s.1 119 2) (s.1 120 2) (s.2 121) 120 ∧
  shOK (s.1 49 0) (s.1 73) (s.2 74) (s.1 119 3) (s.1 120 3) (s.2 121) 180 ∧ shOK (s.1 49 0) (s.1 75) (s.2 76) (s.1 119 4) (s.1 120 4) (s.2 121) 240 ∧ shOK (s.1 49 0) (s.1 77) (s.2 78) (s.1 119 5) (s.1 120 5) (s.2 121) 300
/-- a step of a text: what (1 a number, 2 a name, 3 not, 4 the other sign, else the sign of two), with what -/
def sgn (w : Int32) : Prop := w = 37 ∨ w = 38 ∨ w = 42 ∨ w = 43 ∨ w = 45 ∨ w = 47 ∨ w = 60 ∨ w = 61 ∨ w = 62 ∨ w = 124
def opOK (o : Int32 × Int32) : Prop := (o.1 = 1 ∧ 0 ≤ o.2.toInt ∧ o.2.toInt ≤ 9999) ∨ (o.1 = 2 ∧ 0 ≤ o.2.toInt ∧ o.2.toInt ≤ 7) ∨ o.1 = 3 ∨ o.1 = 4 ∨ sgn o.1
def xdep : List (Int32 × Int32) → Nat → Option Nat
  | [], h => some h
  | o :: l, h => if o.1 = 1 ∨ o.1 = 2 then xdep l (h + 1) else if o.1 = 3 ∨ o.1 = 4 then (if 1 ≤ h then xdep l h else none) else (if 2 ≤ h then xdep l (h - 1) else none)
def isX (l : List (Int32 × Int32)) : Prop := (∀ o ∈ l, opOK o) ∧ ∀ h, xdep l h = some (h + 1)
/-- the class's code of a step; a row of codes; a row of the reference's steps -/
def ccd (o : Int32 × Int32) : Int32 := if o.1 = 1 then o.2 else if o.1 = 2 then 20000 + o.2 else if o.1 = 3 then -33 else if o.1 = 4 then -126 else -o.1
def segC (f : Nat → Int32) : Nat → List (Int32 × Int32) → Prop
  | _, [] => True
  | i, o :: l => f i = ccd o ∧ segC f (i + 1) l
def segR (f g : Nat → Int32) : Nat → List (Int32 × Int32) → Prop
  | _, [] => True
  | i, o :: l => (f i = o.1 ∧ g i = o.2) ∧ segR f g (i + 1) l
def skl (t : List (Int32 × Int32)) : Nat := if t = [] then 0 else t.length + 1
def clx (f : Nat → Int32) : Nat → List (List (Int32 × Int32) × List (Int32 × Int32)) → Nat → Prop
  | i, [], e => i = e
  | i, q :: ls, e => segC f i q.1 ∧ (q.1 ≠ [] → (f (i + q.1.length)).toInt = 10000 + (i + skl q.1 + q.2.length + 1 : Nat)) ∧ segC f (i + skl q.1) q.2 ∧ f (i + skl q.1 + q.2.length) = -59 ∧ clx f (i + skl q.1 + q.2.length + 1) ls e
def rfx (a w te le : Nat → Int32) (b lb : Nat) : Nat → Nat → List (List (Int32 × Int32) × List (Int32 × Int32)) → Prop
  | _, _, [] => True
  | k, f, q :: ls => segR a w (b + f) q.1 ∧ (te (lb + k)).toInt = (f + q.1.length : Nat) ∧ segR a w (b + (f + q.1.length)) q.2 ∧ (le (lb + k)).toInt = (f + q.1.length + q.2.length : Nat) ∧ rfx a w te le b lb (k + 1) (f + q.1.length + q.2.length) ls
def xlen : List (List (Int32 × Int32) × List (Int32 × Int32)) → Nat
  | [] => 0
  | q :: ls => q.1.length + q.2.length + xlen ls
def refOK (a w lm te le : Nat → Int32) (p : Nat) (L : List (List (Int32 × Int32) × List (Int32 × Int32))) : Prop :=
  (∀ q ∈ L, (q.1 = [] ∨ isX q.1) ∧ isX q.2) ∧ (lm p).toInt = (L.length : Nat) ∧ L.length ≤ 61 ∧ xlen L ≤ 121 ∧ rfx a w te le (130 * p) (61 * p) 0 0 L
/-- what a text is worth -/
def tw (a x y : Int32) : Int32 := (f_M_twoOf a x y).getD 0
def xst (nm : Nat → Int32) (o : Int32 × Int32) (st : List Int32) : List Int32 :=
  if o.1 = 1 then o.2 :: st else if o.1 = 2 then nm o.2.toInt.toNat :: st else if o.1 = 3 then (match st with
    | x :: r => (if x = 0 then 1 else 0) :: r
    | [] => []) else if o.1 = 4 then (match st with
    | x :: r => -x :: r
    | [] => []) else match st with
    | y :: x :: r => tw o.1 x y :: r
    | r => r
def xrun (nm : Nat → Int32) : List (Int32 × Int32) → List Int32 → List Int32
  | [], st => st
  | o :: l, st => xrun nm l (xst nm o st)
def xev (nm : Nat → Int32) (l : List (Int32 × Int32)) : Int32 := (xrun nm l []).headD 0
def xval (nm : Nat → Int32) : List (List (Int32 × Int32) × List (Int32 × Int32)) → Int32
  | [] => 0
  | q :: ls => if q.1 = [] ∨ ¬ xev nm q.1 = 0 then xev nm q.2 else xval nm ls
/-- a law's text: the class's codes, the reference's steps and lines, of the same lines -/
def lawOK (size : Int32) (codes act wth lineMany testEnd lineEnd : Nat → Int32) (p : Nat) : Prop :=
  ∃ L, refOK act wth lineMany testEnd lineEnd p L ∧ 0 ≤ size.toInt ∧ size.toInt ≤ 121 ∧ clx codes 0 L size.toInt.toNat
/-- the room's degrees, worked out by the class, and the reference's text of it -/
def mnm (m : Nat) : Nat → Int32 := fun k => if k = 6 then Int32.ofNat m else if k = 7 then Int32.ofNat (m / 60) else 0
def roomOK (deg same nms : Nat → Int32) (has : Int32) (act wth lineMany testEnd lineEnd : Nat → Int32) : Prop :=
  (∀ m, m < 480 → (-50 ≤ (deg m).toInt ∧ (deg m).toInt ≤ 50) ∧ (m < (same m).toInt ∧ (same m).toInt ≤ 480) ∧ ∀ k : Nat, m ≤ k → (k : Int) < (same m).toInt → deg k = deg m) ∧ (∀ k, k < 6 → nms k = 0) ∧
  ((has = 0 ∧ ∀ m, m < 480 → deg m = 10) ∨ (has = 1 ∧ ∃ L, refOK act wth lineMany testEnd lineEnd 4 L ∧ ∀ m, m < 480 → deg m = zz_max (-50) (zz_min 50 (xval (mnm m) L))))
def iv_law (s : zz_S) : Prop :=
  (s.1 79 35 = s.1 0 11 ∧ s.1 79 36 = s.1 0 12) ∧ (0 ≤ (s.1 0 11).toInt ∧ (s.1 0 11).toInt ≤ 4 ∧ -1 ≤ (s.1 0 12).toInt ∧ (s.1 0 12).toInt < (s.1 0 11).toInt) ∧
  (0 < (s.1 0 11).toInt → lawOK (s.1 55 0) (s.1 56) (s.1 96) (s.1 97) (s.1 98) (s.1 99) (s.1 100) 0) ∧ (1 < (s.1 0 11).toInt → lawOK (s.1 58 0) (s.1 59) (s.1 96) (s.1 97) (s.1 98) (s.1 99) (s.1 100) 1) ∧
  (2 < (s.1 0 11).toInt → lawOK (s.1 61 0) (s.1 62) (s.1 96) (s.1 97) (s.1 98) (s.1 99) (s.1 100) 2) ∧ (3 < (s.1 0 11).toInt → lawOK (s.1 64 0) (s.1 65) (s.1 96) (s.1 97) (s.1 98) (s.1 99) (s.1 100) 3) ∧
  roomOK (s.1 16) (s.1 17) (s.1 18) (s.1 79 37) (s.1 96) (s.1 97) (s.1 98) (s.1 99) (s.1 100)
def iv_rest (s : zz_S) : Prop := (s.1 79 51).toInt = -1 ∧ (s.1 79 38).toInt = 0
def iv (s : zz_S) : Prop := iv_bed s ∧ iv_turn s ∧ iv_chg s ∧ iv_tape s ∧ iv_body s ∧ iv_shl s ∧ iv_law s ∧ iv_rest s
