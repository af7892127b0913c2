/-! what holds between calls -/
def sOK (W pl br wa he : Int32) : Prop := 0 ≤ pl.toInt ∧ 4 ≤ br.toInt ∧ br.toInt ≤ 20 ∧ pl.toInt + br.toInt ≤ W.toInt ∧ 0 ≤ wa.toInt ∧ wa.toInt ≤ 99 ∧ 0 ≤ he.toInt ∧ he.toInt ≤ 99
def cOK (lf wd wm tk : Int32) : Prop := -40 ≤ lf.toInt ∧ lf.toInt ≤ 60 ∧ 5 ≤ wd.toInt ∧ wd.toInt ≤ 80 ∧ 0 ≤ wm.toInt ∧ wm.toInt ≤ 50 ∧ 0 ≤ tk.toInt ∧ tk.toInt ≤ 9
def iv_bed (s : zz_S) : Prop :=
  (s.1 79 1 = s.1 1 0 ∧ s.1 79 2 = s.1 1 1 ∧ s.1 79 7 = s.1 1 2) ∧ (s.1 80 = s.1 2 ∧ s.1 81 = s.1 3 ∧ s.1 82 = s.1 4 ∧ s.1 83 = s.1 5) ∧ (s.1 84 = s.1 6 ∧ s.1 85 = s.1 7 ∧ s.1 86 = s.1 8 ∧ s.1 87 = s.1 9) ∧
  (20 ≤ (s.1 1 0).toInt ∧ (s.1 1 0).toInt ≤ 60 ∧ 0 ≤ (s.1 1 1).toInt ∧ (s.1 1 1).toInt ≤ 6 ∧ 0 ≤ (s.1 1 2).toInt ∧ (s.1 1 2).toInt ≤ 3) ∧
  (∀ i : Nat, (i : Int) < (s.1 1 1).toInt → sOK (s.1 1 0) (s.1 2 i) (s.1 3 i) (s.1 4 i) (s.1 5 i)) ∧ ∀ c : Nat, (c : Int) < (s.1 1 2).toInt → cOK (s.1 6 c) (s.1 7 c) (s.1 8 c) (s.1 9 c)
/-- the turns: minute, sleeper, cells of each as they came; their numbers in the order of a night -/
def tOK (m b c : Int32) : Prop := 0 ≤ m.toInt ∧ m.toInt ≤ 479 ∧ 0 ≤ b.toInt ∧ b.toInt ≤ 5 ∧ -20 ≤ c.toInt ∧ c.toInt ≤ 20 ∧ ¬ c.toInt = 0
def byM (mi : Nat → Int32) (o : Nat → Int32) (n : Nat) : Prop :=
  (∀ k, k < n → 0 ≤ (o k).toInt ∧ (o k).toInt < n) ∧ (∀ j, j < n → ∃ k, k < n ∧ (o k).toInt = j) ∧ ∀ a b, a < b → b < n → (mi (o a).toInt.toNat).toInt < (mi (o b).toInt.toNat).toInt ∨ ((mi (o a).toInt.toNat).toInt = (mi (o b).toInt.toNat).toInt ∧ (o a).toInt < (o b).toInt)
def iv_turn (s : zz_S) : Prop :=
  s.1 79 12 = s.1 10 0 ∧ (s.1 88 = s.1 11 ∧ s.1 89 = s.1 12 ∧ s.1 90 = s.1 13) ∧ (0 ≤ (s.1 10 0).toInt ∧ (s.1 10 0).toInt ≤ 60) ∧ (∀ k : Nat, (k : Int) < (s.1 10 0).toInt → tOK (s.1 11 k) (s.1 12 k) (s.1 13 k)) ∧ byM (s.1 11) (s.1 14) (s.1 10 0).toInt.toNat
/-- the changes: done, known; those from done on are undone -/
def hOK (sl co nu wh wa be : Int32) : Prop := (0 ≤ nu.toInt ∧ 0 ≤ wh.toInt ∧ wh.toInt ≤ 3) ∧ (wh.toInt ≤ 1 → nu.toInt < sl.toInt ∧ 0 ≤ wa.toInt ∧ wa.toInt ≤ 99 ∧ 0 ≤ be.toInt ∧ be.toInt ≤ 99) ∧ (wh.toInt = 2 → nu.toInt < co.toInt ∧ 5 ≤ wa.toInt ∧ wa.toInt ≤ 80 ∧ 5 ≤ be.toInt ∧ be.toInt ≤ 80) ∧ (wh.toInt = 3 → nu.toInt < co.toInt ∧ 0 ≤ wa.toInt ∧ wa.toInt ≤ 9 ∧ 0 ≤ be.toInt ∧ be.toInt ≤ 9)
def iv_chg (s : zz_S) : Prop :=
  s.1 79 16 = s.1 39 0 ∧ (s.1 79 17).toInt = (s.1 39 1).toInt - (s.1 39 0).toInt ∧ (0 ≤ (s.1 39 0).toInt ∧ (s.1 39 0).toInt ≤ (s.1 39 1).toInt ∧ (s.1 39 1).toInt ≤ 40) ∧
  ∀ k : Nat, (k : Int) < (s.1 39 1).toInt → (s.1 92 k = s.1 40 k ∧ s.1 91 k = s.1 41 k ∧ s.1 93 k = s.1 42 k ∧ s.1 94 k = s.1 43 k) ∧ hOK (s.1 1 1) (s.1 1 2) (s.1 40 k) (s.1 41 k) (s.1 42 k) (s.1 43 k)
def iv_tape (s : zz_S) : Prop :=
  s.1 79 23 = s.1 44 0 ∧ (0 ≤ (s.1 44 0).toInt ∧ (s.1 44 0).toInt ≤ 120) ∧ ∀ k : Nat, (k : Int) < (s.1 44 0).toInt → 0 ≤ (s.1 48 k).toInt ∧ (s.1 48 k).toInt ≤ 255 ∧ s.1 95 k = vp_nar .byte (s.1 48 k).toInt8.toInt32
def iv_body (s : zz_S) : Prop :=
  (s.1 79 55 = s.1 49 0 ∧ s.1 79 57 = s.1 49 1 ∧ s.1 117 = s.1 50 ∧ s.1 118 = s.1 51) ∧ (0 ≤ (s.1 49 0).toInt ∧ (s.1 49 0).toInt ≤ 50 ∧ 0 ≤ (s.1 49 1).toInt ∧ (s.1 49 1).toInt ≤ 1000) ∧ ∀ k : Nat, (k : Int) < (s.1 49 0).toInt → 0 ≤ (s.1 50 k).toInt ∧ (s.1 50 k).toInt ≤ 7
/-- a shelf: what the class has of it (holds, body, sort, size, elements), what the reference has (holds, size, elements from a place on) -/
def shOK (nb : Int32) (f : Nat → Int32) (el : Nat → Int64) (ho sz : Int32) (me : Nat → Int64) (o : Nat) : Prop :=
  (∀ i : Nat, i < 60 → me (o + i) = el i) ∧
  (((f 0).toInt = 0 ∧ ho.toInt = -1) ∨ ((f 0).toInt = 1 ∧ ho = f 1 ∧ 0 ≤ (f 1).toInt ∧ (f 1).toInt < nb.toInt) ∨ ((f 0).toInt = 2 ∧ 0 ≤ (f 2).toInt ∧ (f 2).toInt ≤ 4 ∧ ho.toInt = -2 - (f 2).toInt ∧ sz = f 3 ∧ 0 ≤ (f 3).toInt ∧ (f 3).toInt ≤ 60))
def iv_shl (s : zz_S) : Prop :=
  shOK (s.1 49 0) (s.1 67) (s.2 68) (s.1 119 0) (s.1 120 0) (s.2 121) 0 ∧ shOK (s.1 49 0) (s.1 69) (s.2 70) (s.1 119 1) (s.1 120 1) (s.2 121) 60 ∧ shOK (s.1 49 0) (s.1 71) (s.2 72) (s.1 119 2) (s.1 120 2) (s.2 121) 120 ∧
  shOK (s.1 49 0) (s.1 73) (s.2 74) (s.1 119 3) (s.1 120 3) (s.2 121) 180 ∧ shOK (s.1 49 0) (s.1 75) (s.2 76) (s.1 119 4) (s.1 120 4) (s.2 121) 240 ∧ shOK (s.1 49 0) (s.1 77) (s.2 78) (s.1 119 5) (s.1 120 5) (s.2 121) 300
/-- a law's text: the class's codes, the reference's steps and lines, answer alike whatever the names stand for -/
def lawOK (size : Int32) (codes act wth lineMany testEnd lineEnd : Nat → Int32) (p : Nat) : Prop := sorry
/-- the room's degrees, worked out by the class, and the reference's text of it -/
def roomOK (deg same : Nat → Int32) (has : Int32) (act wth lineMany testEnd lineEnd : Nat → Int32) : Prop := sorry
def iv_law (s : zz_S) : Prop :=
  (s.1 79 35 = s.1 0 11 ∧ s.1 79 36 = s.1 0 12) ∧ (0 ≤ (s.1 0 11).toInt ∧ (s.1 0 11).toInt ≤ 4 ∧ -1 ≤ (s.1 0 12).toInt ∧ (s.1 0 12).toInt < (s.1 0 11).toInt) ∧
  (0 < (s.1 0 11).toInt → lawOK (s.1 55 0) (s.1 56) (s.1 96) (s.1 97) (s.1 98) (s.1 99) (s.1 100) 0) ∧ (1 < (s.1 0 11).toInt → lawOK (s.1 58 0) (s.1 59) (s.1 96) (s.1 97) (s.1 98) (s.1 99) (s.1 100) 1) ∧
  (2 < (s.1 0 11).toInt → lawOK (s.1 61 0) (s.1 62) (s.1 96) (s.1 97) (s.1 98) (s.1 99) (s.1 100) 2) ∧ (3 < (s.1 0 11).toInt → lawOK (s.1 64 0) (s.1 65) (s.1 96) (s.1 97) (s.1 98) (s.1 99) (s.1 100) 3) ∧
  roomOK (s.1 16) (s.1 17) (s.1 79 37) (s.1 96) (s.1 97) (s.1 98) (s.1 99) (s.1 100)
def iv_rest (s : zz_S) : Prop := (s.1 79 51).toInt = -1 ∧ (s.1 79 38).toInt = 0
def iv (s : zz_S) : Prop := iv_bed s ∧ iv_turn s ∧ iv_chg s ∧ iv_tape s ∧ iv_body s ∧ iv_shl s ∧ iv_law s ∧ iv_rest s
