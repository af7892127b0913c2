def f_Bed_addCover (a1 : Int32) (a2 : Int32) (a3 : Int32) (a4 : Int32) (s : zz_S) : Option (Int32 × zz_S) :=
  if zz_in (s.1 1 2) 3 = true then
  some ((((s.1 1 2) + (1 : Int32)) - (1 : Int32)), (zz_w (zz_w (zz_w (zz_w (zz_w s 6 ((s.1 1 2).toNatClampNeg) a1) 7 ((s.1 1 2).toNatClampNeg) a2) 8 ((s.1 1 2).toNatClampNeg) a3) 9 ((s.1 1 2).toNatClampNeg) a4) 1 2 ((s.1 1 2) + (1 : Int32))))
  else none
def f_Bed_addSleeper (a1 : Int32) (a2 : Int32) (a3 : Int32) (a4 : Int32) (s : zz_S) : Option (Int32 × zz_S) :=
  if zz_in (s.1 1 1) 6 = true then
  some ((((s.1 1 1) + (1 : Int32)) - (1 : Int32)), (zz_w (zz_w (zz_w (zz_w (zz_w s 2 ((s.1 1 1).toNatClampNeg) a1) 3 ((s.1 1 1).toNatClampNeg) a2) 4 ((s.1 1 1).toNatClampNeg) a3) 5 ((s.1 1 1).toNatClampNeg) a4) 1 1 ((s.1 1 1) + (1 : Int32))))
  else none
def f_Bed_bitsOf (a1 : Int32) (a2 : Int32) (s : zz_S) : Int64 :=
  ((((1 : Int64) <<< (((zz_max (zz_max (0 : Int32) (zz_min (s.1 1 0) a1)) (zz_min (s.1 1 0) (a1 + a2))) - (zz_max (0 : Int32) (zz_min (s.1 1 0) a1))).toInt64 &&& 63)) - (1 : Int64)) <<< ((zz_max (0 : Int32) (zz_min (s.1 1 0) a1)).toInt64 &&& 63))
def f_Bed_hasCover (a1 : Int32) (s : zz_S) : Int32 :=
  if a1 < 0 then
    (0 : Int32)
  else
    if (s.1 1 2) ≤ a1 then
      (0 : Int32)
    else
      (1 : Int32)
def f_Bed_hasSleeper (a1 : Int32) (s : zz_S) : Int32 :=
  if a1 < 0 then
    (0 : Int32)
  else
    if (s.1 1 1) ≤ a1 then
      (0 : Int32)
    else
      (1 : Int32)
def f_Bed_heldWithin (a1 : Int32) (a2 : Int32) (s : zz_S) : Option (Int32) :=
  if zz_in a1 6 = true then
  some (zz_max (0 : Int32) (zz_min ((s.1 1 0) - (s.1 3 (a1.toNatClampNeg))) a2))
  else none
def f_Bed_isCold (a1 : Int32) (a2 : Int32) (s : zz_S) : Option (Int32) :=
  if zz_in a1 6 = true then
  if ((s.1 4 (a1.toNatClampNeg)) - (15 : Int32)) ≤ a2 then
    some (0 : Int32)
  else
    some (1 : Int32)
  else none
def f_Bed_isEasy (a1 : Int32) (a2 : Int32) (s : zz_S) : Option (Int32) :=
  if zz_in a1 6 = true then
  if a2 < ((s.1 4 (a1.toNatClampNeg)) - (5 : Int32)) then
    some (0 : Int32)
  else
    if ((s.1 4 (a1.toNatClampNeg)) + (5 : Int32)) < a2 then
      some (0 : Int32)
    else
      some (1 : Int32)
  else none
def f_Bed_laySideBySide_L5 : Nat → Int32 → Int32 → zz_S → Option (zz_S)
  | 0, _, _, _ => none
  | n + 1, v3, v4, s =>
  if (s.1 1 1) ≤ v4 then
    some s
  else
    if zz_in v4 6 = true then
    (f_Bed_heldWithin (s.1 53 (v4.toNatClampNeg)) v3 s).bind fun q3 =>
    if zz_in (s.1 53 (v4.toNatClampNeg)) 6 = true then
    f_Bed_laySideBySide_L5 n (v3 + (s.1 3 ((s.1 53 (v4.toNatClampNeg)).toNatClampNeg))) (v4 + (1 : Int32)) (zz_w s 54 ((s.1 53 (v4.toNatClampNeg)).toNatClampNeg) q3)
    else none
    else none
def f_Bed_laySideBySide (s : zz_S) : Option (zz_S) :=
  f_Bed_laySideBySide_L5 zF (0 : Int32) (0 : Int32) s
def f_Bed_mendable (a1 : Int32) : Nat :=
  if a1 = (0 : Int32) then
    4
  else
  if a1 = (1 : Int32) then
    5
  else
  if a1 = (2 : Int32) then
    7
  else
  9
def f_Bed_ofCover (a1 : Int32) (a2 : Int32) (s : zz_S) : Option (Int32) :=
  if a2 = (0 : Int32) then
    if zz_in a1 3 = true then
    some (s.1 6 (a1.toNatClampNeg))
    else none
  else
  if a2 = (1 : Int32) then
    if zz_in a1 3 = true then
    some (s.1 7 (a1.toNatClampNeg))
    else none
  else
  if a2 = (2 : Int32) then
    if zz_in a1 3 = true then
    some (s.1 8 (a1.toNatClampNeg))
    else none
  else
  if zz_in a1 3 = true then
  some (s.1 9 (a1.toNatClampNeg))
  else none
def f_Bed_ofSleeper (a1 : Int32) (a2 : Int32) (s : zz_S) : Option (Int32) :=
  if a2 = (0 : Int32) then
    if zz_in a1 6 = true then
    some (s.1 2 (a1.toNatClampNeg))
    else none
  else
  if a2 = (1 : Int32) then
    if zz_in a1 6 = true then
    some (s.1 3 (a1.toNatClampNeg))
    else none
  else
  if a2 = (2 : Int32) then
    if zz_in a1 6 = true then
    some (s.1 4 (a1.toNatClampNeg))
    else none
  else
  if zz_in a1 6 = true then
  some (s.1 5 (a1.toNatClampNeg))
  else none
def f_Bed_partOf (a1 : Int32) (a2 : Int32) (a3 : Int32) (s : zz_S) : Option (Int32) :=
  if zz_in a1 6 = true then
  if (s.1 3 (a1.toNatClampNeg)) = 0 then
    some (0 : Int32)
  else
    if (s.1 3 (a1.toNatClampNeg)) = 0 then none else
    some ((a2 * a3) / (s.1 3 (a1.toNatClampNeg)))
  else none
def f_Bodies_add (a1 : Int32) (s : zz_S) : Option (Int32 × zz_S) :=
  if zz_in (s.1 49 0) 50 = true then
  some ((((s.1 49 0) + (1 : Int32)) - (1 : Int32)), (zz_w (zz_w s 50 ((s.1 49 0).toNatClampNeg) a1) 49 0 ((s.1 49 0) + (1 : Int32))))
  else none
def f_Bodies_begins_J19 (s : zz_S) : Option (zz_S) :=
  some (zz_w s 49 1 ((s.1 49 1) + (1 : Int32)))
def f_Bodies_begins (a1 : Int32) (s : zz_S) : Option (zz_S) :=
  if (24 : Int32) ≤ (s.1 49 1) then
    f_Bodies_begins_J19 s
  else
    if zz_in (s.1 49 1) 24 = true then
    f_Bodies_begins_J19 (zz_w s 51 ((s.1 49 1).toNatClampNeg) a1)
    else none
def f_Bodies_has (a1 : Int32) (s : zz_S) : Int32 :=
  if a1 < 0 then
    (0 : Int32)
  else
    if (s.1 49 0) ≤ a1 then
      (0 : Int32)
    else
      (1 : Int32)
def f_Bodies_isUnder_L4 : Nat → Int32 → Int32 → Int32 → Option (Int32)
  | 0, _, _, _ => none
  | n + 1, v1, v2, v3 =>
  if (8 : Int32) ≤ v3 then
    some (0 : Int32)
  else
    if v2 < 0 then
      some (0 : Int32)
    else
      if v2 = v1 then
        some (1 : Int32)
      else
        if zz_in v2 8 = true then
        f_Bodies_isUnder_L4 n v1 (zz_abv.getD v2.toNatClampNeg 0) (v3 + (1 : Int32))
        else none
def f_Bodies_isUnder (a0 : Int32) (a1 : Int32) : Option (Int32) :=
  f_Bodies_isUnder_L4 zF a1 a0 (0 : Int32)
def f_Bodies_kindThatHas_L4 : Nat → Int32 → Int32 → Int32 → Option (Int32)
  | 0, _, _, _ => none
  | n + 1, v0, v2, v3 =>
  if (8 : Int32) ≤ v3 then
    some (-1 : Int32)
  else
    if v2 < 0 then
      some (-1 : Int32)
    else
      if zz_in ((v2 * (4 : Int32)) + v0) 32 = true then
      if (zz_own.getD ((v2 * (4 : Int32)) + v0).toNatClampNeg 0) = 0 then
        if zz_in v2 8 = true then
        f_Bodies_kindThatHas_L4 n v0 (zz_abv.getD v2.toNatClampNeg 0) (v3 + (1 : Int32))
        else none
      else
        some v2
      else none
def f_Bodies_kindThatHas (a0 : Int32) (a1 : Int32) : Option (Int32) :=
  f_Bodies_kindThatHas_L4 zF a0 a1 (0 : Int32)
def f_Bodies_run (R_Bodies_run : Int32 → Int32 → Int32 → Int32 → Int32 → zz_S → Option (Int32 × zz_S)) (a1 : Int32) (a2 : Int32) (a3 : Int32) (a4 : Int32) (a5 : Int32) (s : zz_S) : Option (Int32 × zz_S) :=
  (f_Bodies_kindThatHas a2 a3).bind fun q1 =>
  if q1 < 0 then
    some ((0 : Int32), s)
  else
    if a5 ≤ (40 : Int32) then
      if zz_in ((q1 * (4 : Int32)) + a2) 32 = true then
      (f_Bodies_begins (zz_own.getD ((q1 * (4 : Int32)) + a2).toNatClampNeg 0) s).bind fun q5 =>
      if zz_in q1 8 = true then
      if zz_in a1 50 = true then
      if (zz_own.getD ((q1 * (4 : Int32)) + a2).toNatClampNeg 0) = (1 : Int32) then
        some ((a4 + a1), q5)
      else
      if (zz_own.getD ((q1 * (4 : Int32)) + a2).toNatClampNeg 0) = (2 : Int32) then
        (R_Bodies_run a1 (1 : Int32) (q5.1 50 (a1.toNatClampNeg)) a4 (a5 + (1 : Int32)) q5).bind fun q10 =>
        (R_Bodies_run a1 (2 : Int32) (q5.1 50 (a1.toNatClampNeg)) (1 : Int32) (a5 + (1 : Int32)) q10.2).bind fun q11 =>
        some ((q10.1 - q11.1), q11.2)
      else
      if (zz_own.getD ((q1 * (4 : Int32)) + a2).toNatClampNeg 0) = (10 : Int32) then
        (R_Bodies_run a1 (0 : Int32) (q5.1 50 (a1.toNatClampNeg)) a4 (a5 + (1 : Int32)) q5).bind fun q13 =>
        some ((q13.1 * (2 : Int32)), q13.2)
      else
      if (zz_own.getD ((q1 * (4 : Int32)) + a2).toNatClampNeg 0) = (11 : Int32) then
        some ((a4 ^^^ a1), q5)
      else
      if (zz_own.getD ((q1 * (4 : Int32)) + a2).toNatClampNeg 0) = (20 : Int32) then
        (R_Bodies_run a1 (0 : Int32) (zz_abv.getD q1.toNatClampNeg 0) a4 (a5 + (1 : Int32)) q5).bind fun q16 =>
        some ((q16.1 + (3 : Int32)), q16.2)
      else
      if (zz_own.getD ((q1 * (4 : Int32)) + a2).toNatClampNeg 0) = (30 : Int32) then
        (R_Bodies_run a1 (1 : Int32) (zz_abv.getD q1.toNatClampNeg 0) a4 (a5 + (1 : Int32)) q5).bind fun q18 =>
        some ((-q18.1), q18.2)
      else
      if (zz_own.getD ((q1 * (4 : Int32)) + a2).toNatClampNeg 0) = (40 : Int32) then
        (R_Bodies_run a1 (2 : Int32) (zz_abv.getD q1.toNatClampNeg 0) a4 (a5 + (1 : Int32)) q5).bind fun q20 =>
        some ((q20.1 * (3 : Int32)), q20.2)
      else
      if (zz_own.getD ((q1 * (4 : Int32)) + a2).toNatClampNeg 0) = (41 : Int32) then
        (R_Bodies_run a1 (1 : Int32) (zz_abv.getD q1.toNatClampNeg 0) (a4 + (1 : Int32)) (a5 + (1 : Int32)) q5).bind fun q22 =>
        some (q22.1, q22.2)
      else
      if (zz_own.getD ((q1 * (4 : Int32)) + a2).toNatClampNeg 0) = (50 : Int32) then
        (R_Bodies_run a1 (3 : Int32) (zz_abv.getD q1.toNatClampNeg 0) a4 (a5 + (1 : Int32)) q5).bind fun q24 =>
        some ((q24.1 ^^^ (5 : Int32)), q24.2)
      else
      if (zz_own.getD ((q1 * (4 : Int32)) + a2).toNatClampNeg 0) = (60 : Int32) then
        (R_Bodies_run a1 (2 : Int32) (zz_abv.getD q1.toNatClampNeg 0) a4 (a5 + (1 : Int32)) q5).bind fun q26 =>
        (R_Bodies_run a1 (0 : Int32) (q5.1 50 (a1.toNatClampNeg)) (2 : Int32) (a5 + (1 : Int32)) q26.2).bind fun q27 =>
        some ((q26.1 - q27.1), q27.2)
      else
      if (zz_own.getD ((q1 * (4 : Int32)) + a2).toNatClampNeg 0) = (61 : Int32) then
        (R_Bodies_run a1 (3 : Int32) (zz_abv.getD q1.toNatClampNeg 0) a4 (a5 + (1 : Int32)) q5).bind fun q29 =>
        some ((q29.1 + (1 : Int32)), q29.2)
      else
      if (zz_own.getD ((q1 * (4 : Int32)) + a2).toNatClampNeg 0) = (70 : Int32) then
        (R_Bodies_run a1 (0 : Int32) (zz_abv.getD q1.toNatClampNeg 0) a4 (a5 + (1 : Int32)) q5).bind fun q31 =>
        some ((q31.1 * (2 : Int32)), q31.2)
      else
      if (zz_own.getD ((q1 * (4 : Int32)) + a2).toNatClampNeg 0) = (80 : Int32) then
        (R_Bodies_run a1 (1 : Int32) (zz_abv.getD q1.toNatClampNeg 0) a4 (a5 + (1 : Int32)) q5).bind fun q33 =>
        (R_Bodies_run a1 (2 : Int32) (q5.1 50 (a1.toNatClampNeg)) (2 : Int32) (a5 + (1 : Int32)) q33.2).bind fun q34 =>
        some ((q33.1 + q34.1), q34.2)
      else
      if (zz_own.getD ((q1 * (4 : Int32)) + a2).toNatClampNeg 0) = (81 : Int32) then
        (R_Bodies_run a1 (0 : Int32) (zz_abv.getD q1.toNatClampNeg 0) a4 (a5 + (1 : Int32)) q5).bind fun q36 =>
        some ((q36.1 - (1 : Int32)), q36.2)
      else
      some ((0 : Int32), q5)
      else none
      else none
      else none
    else
      some ((0 : Int32), s)
def f_grp_Bodies_run : Nat → (Int32 → Int32 → Int32 → Int32 → Int32 → zz_S → Option (Int32 × zz_S))
  | 0 => fun _ _ _ _ _ _ => none
  | n + 1 => f_Bodies_run (f_grp_Bodies_run n)
def g_Bodies_run (n : Nat) : Int32 → Int32 → Int32 → Int32 → Int32 → zz_S → Option (Int32 × zz_S) := (f_grp_Bodies_run n)
def f_Bodies_runFirst (a1 : Int32) (a2 : Int32) (a3 : Int32) (s : zz_S) : Option (Int32 × zz_S) :=
  if (f_Bodies_has a1 (zz_w s 49 1 (0 : Int32))) = 0 then
    some ((0 : Int32), (zz_w s 49 1 (0 : Int32)))
  else
    if a2 < 0 then
      some ((0 : Int32), (zz_w s 49 1 (0 : Int32)))
    else
      if a2 < (4 : Int32) then
        if zz_in a1 50 = true then
        (g_Bodies_run zR a1 a2 (s.1 50 (a1.toNatClampNeg)) a3 (0 : Int32) (zz_w s 49 1 (0 : Int32))).bind fun q5 =>
        some (q5.1, q5.2)
        else none
      else
        some ((0 : Int32), (zz_w s 49 1 (0 : Int32)))
def f_Changes_forgetOldest (s : zz_S) : Option (zz_S) :=
  some (zz_w (zz_copyiS (zz_copyiS (zz_copyiS (zz_copyiS s 40 40 (1 : Int32) (0 : Int32) (39 : Int32)) 41 41 (1 : Int32) (0 : Int32) (39 : Int32)) 42 42 (1 : Int32) (0 : Int32) (39 : Int32)) 43 43 (1 : Int32) (0 : Int32) (39 : Int32)) 39 0 (39 : Int32))
def f_Changes_add_J13 (v1 : Int32) (v2 : Int32) (v3 : Int32) (v4 : Int32) (s : zz_S) : Option (zz_S) :=
  if zz_in (s.1 39 0) 40 = true then
  some (zz_w (zz_w (zz_w (zz_w (zz_w (zz_w s 40 ((s.1 39 0).toNatClampNeg) v1) 41 ((s.1 39 0).toNatClampNeg) v2) 42 ((s.1 39 0).toNatClampNeg) v3) 43 ((s.1 39 0).toNatClampNeg) v4) 39 0 ((s.1 39 0) + (1 : Int32))) 39 1 ((s.1 39 0) + (1 : Int32)))
  else none
def f_Changes_add (a1 : Int32) (a2 : Int32) (a3 : Int32) (a4 : Int32) (s : zz_S) : Option (zz_S) :=
  if (s.1 39 0) < (40 : Int32) then
    f_Changes_add_J13 a1 a2 a3 a4 s
  else
    (f_Changes_forgetOldest s).bind fun q3 =>
    f_Changes_add_J13 a1 a2 a3 a4 q3
def f_Changes_doAgain (s : zz_S) : Option (zz_S) :=
  if (s.1 39 1) ≤ (s.1 39 0) then
    some s
  else
    if zz_in (s.1 39 0) 40 = true then
    if zz_in (s.1 40 ((s.1 39 0).toNatClampNeg)) (zz_n (f_Bed_mendable (s.1 41 ((s.1 39 0).toNatClampNeg)))) = true then
    some (zz_w (zz_w s (f_Bed_mendable (s.1 41 ((s.1 39 0).toNatClampNeg))) ((s.1 40 ((s.1 39 0).toNatClampNeg)).toNatClampNeg) (s.1 43 ((s.1 39 0).toNatClampNeg))) 39 0 (((zz_w s (f_Bed_mendable (s.1 41 ((s.1 39 0).toNatClampNeg))) ((s.1 40 ((s.1 39 0).toNatClampNeg)).toNatClampNeg) (s.1 43 ((s.1 39 0).toNatClampNeg))).1 39 0) + (1 : Int32)))
    else none
    else none
def f_Changes_takeBack (s : zz_S) : Option (zz_S) :=
  if (s.1 39 0) ≤ 0 then
    some s
  else
    if zz_in ((s.1 39 0) - (1 : Int32)) 40 = true then
    if zz_in (s.1 40 (((s.1 39 0) - (1 : Int32)).toNatClampNeg)) (zz_n (f_Bed_mendable (s.1 41 (((s.1 39 0) - (1 : Int32)).toNatClampNeg)))) = true then
    some (zz_w (zz_w s 39 0 ((s.1 39 0) - (1 : Int32))) (f_Bed_mendable (s.1 41 (((s.1 39 0) - (1 : Int32)).toNatClampNeg))) ((s.1 40 (((s.1 39 0) - (1 : Int32)).toNatClampNeg)).toNatClampNeg) (s.1 42 (((s.1 39 0) - (1 : Int32)).toNatClampNeg)))
    else none
    else none
def f_Lie_allCovers_L4 (s : zz_S) : Nat → Int64 → Int32 → Option (Int64)
  | 0, _, _ => none
  | n + 1, v1, v3 =>
  if (s.1 1 2) ≤ v3 then
    some v1
  else
    if zz_in v3 3 = true then
    f_Lie_allCovers_L4 s n (v1 ||| (s.2 38 (v3.toNatClampNeg))) (v3 + (1 : Int32))
    else none
def f_Lie_allCovers (s : zz_S) : Option (Int64) :=
  f_Lie_allCovers_L4 s zF (0 : Int64) (0 : Int32)
def f_Lie_moveCover (a1 : Int32) (a2 : Int32) (s : zz_S) : Option (zz_S) :=
  if zz_in a1 3 = true then
  some (zz_wl (zz_w s 36 (a1.toNatClampNeg) ((s.1 36 (a1.toNatClampNeg)) + a2)) 38 (a1.toNatClampNeg) (f_Bed_bitsOf ((zz_w s 36 (a1.toNatClampNeg) ((s.1 36 (a1.toNatClampNeg)) + a2)).1 36 (a1.toNatClampNeg)) (s.1 7 (a1.toNatClampNeg)) (zz_w s 36 (a1.toNatClampNeg) ((s.1 36 (a1.toNatClampNeg)) + a2))))
  else none
def f_Lie_moveSleeper (a1 : Int32) (a2 : Int32) (s : zz_S) : Option (zz_S) :=
  if zz_in a1 6 = true then
  (f_Bed_heldWithin a1 ((s.1 33 (a1.toNatClampNeg)) + a2) s).bind fun q2 =>
  some (zz_wl (zz_w s 33 (a1.toNatClampNeg) q2) 37 (a1.toNatClampNeg) (f_Bed_bitsOf ((zz_w s 33 (a1.toNatClampNeg) q2).1 33 (a1.toNatClampNeg)) (s.1 3 (a1.toNatClampNeg)) (zz_w s 33 (a1.toNatClampNeg) q2)))
  else none
def f_Long_bitCount (a0 : Int64) : Int32 :=
  (((((((((a0 - (((a0.toUInt64 >>> ((1 : Int32).toInt64.toUInt64 &&& Int64.toUInt64 63)).toInt64) &&& (6148914691236517205 : Int64))) &&& (3689348814741910323 : Int64)) + ((((a0 - (((a0.toUInt64 >>> ((1 : Int32).toInt64.toUInt64 &&& Int64.toUInt64 63)).toInt64) &&& (6148914691236517205 : Int64))).toUInt64 >>> ((2 : Int32).toInt64.toUInt64 &&& Int64.toUInt64 63)).toInt64) &&& (3689348814741910323 : Int64))) + (((((a0 - (((a0.toUInt64 >>> ((1 : Int32).toInt64.toUInt64 &&& Int64.toUInt64 63)).toInt64) &&& (6148914691236517205 : Int64))) &&& (3689348814741910323 : Int64)) + ((((a0 - (((a0.toUInt64 >>> ((1 : Int32).toInt64.toUInt64 &&& Int64.toUInt64 63)).toInt64) &&& (6148914691236517205 : Int64))).toUInt64 >>> ((2 : Int32).toInt64.toUInt64 &&& Int64.toUInt64 63)).toInt64) &&& (3689348814741910323 : Int64))).toUInt64 >>> ((4 : Int32).toInt64.toUInt64 &&& Int64.toUInt64 63)).toInt64)) &&& (1085102592571150095 : Int64)) + (((((((a0 - (((a0.toUInt64 >>> ((1 : Int32).toInt64.toUInt64 &&& Int64.toUInt64 63)).toInt64) &&& (6148914691236517205 : Int64))) &&& (3689348814741910323 : Int64)) + ((((a0 - (((a0.toUInt64 >>> ((1 : Int32).toInt64.toUInt64 &&& Int64.toUInt64 63)).toInt64) &&& (6148914691236517205 : Int64))).toUInt64 >>> ((2 : Int32).toInt64.toUInt64 &&& Int64.toUInt64 63)).toInt64) &&& (3689348814741910323 : Int64))) + (((((a0 - (((a0.toUInt64 >>> ((1 : Int32).toInt64.toUInt64 &&& Int64.toUInt64 63)).toInt64) &&& (6148914691236517205 : Int64))) &&& (3689348814741910323 : Int64)) + ((((a0 - (((a0.toUInt64 >>> ((1 : Int32).toInt64.toUInt64 &&& Int64.toUInt64 63)).toInt64) &&& (6148914691236517205 : Int64))).toUInt64 >>> ((2 : Int32).toInt64.toUInt64 &&& Int64.toUInt64 63)).toInt64) &&& (3689348814741910323 : Int64))).toUInt64 >>> ((4 : Int32).toInt64.toUInt64 &&& Int64.toUInt64 63)).toInt64)) &&& (1085102592571150095 : Int64)).toUInt64 >>> ((8 : Int32).toInt64.toUInt64 &&& Int64.toUInt64 63)).toInt64)) + ((((((((a0 - (((a0.toUInt64 >>> ((1 : Int32).toInt64.toUInt64 &&& Int64.toUInt64 63)).toInt64) &&& (6148914691236517205 : Int64))) &&& (3689348814741910323 : Int64)) + ((((a0 - (((a0.toUInt64 >>> ((1 : Int32).toInt64.toUInt64 &&& Int64.toUInt64 63)).toInt64) &&& (6148914691236517205 : Int64))).toUInt64 >>> ((2 : Int32).toInt64.toUInt64 &&& Int64.toUInt64 63)).toInt64) &&& (3689348814741910323 : Int64))) + (((((a0 - (((a0.toUInt64 >>> ((1 : Int32).toInt64.toUInt64 &&& Int64.toUInt64 63)).toInt64) &&& (6148914691236517205 : Int64))) &&& (3689348814741910323 : Int64)) + ((((a0 - (((a0.toUInt64 >>> ((1 : Int32).toInt64.toUInt64 &&& Int64.toUInt64 63)).toInt64) &&& (6148914691236517205 : Int64))).toUInt64 >>> ((2 : Int32).toInt64.toUInt64 &&& Int64.toUInt64 63)).toInt64) &&& (3689348814741910323 : Int64))).toUInt64 >>> ((4 : Int32).toInt64.toUInt64 &&& Int64.toUInt64 63)).toInt64)) &&& (1085102592571150095 : Int64)) + (((((((a0 - (((a0.toUInt64 >>> ((1 : Int32).toInt64.toUInt64 &&& Int64.toUInt64 63)).toInt64) &&& (6148914691236517205 : Int64))) &&& (3689348814741910323 : Int64)) + ((((a0 - (((a0.toUInt64 >>> ((1 : Int32).toInt64.toUInt64 &&& Int64.toUInt64 63)).toInt64) &&& (6148914691236517205 : Int64))).toUInt64 >>> ((2 : Int32).toInt64.toUInt64 &&& Int64.toUInt64 63)).toInt64) &&& (3689348814741910323 : Int64))) + (((((a0 - (((a0.toUInt64 >>> ((1 : Int32).toInt64.toUInt64 &&& Int64.toUInt64 63)).toInt64) &&& (6148914691236517205 : Int64))) &&& (3689348814741910323 : Int64)) + ((((a0 - (((a0.toUInt64 >>> ((1 : Int32).toInt64.toUInt64 &&& Int64.toUInt64 63)).toInt64) &&& (6148914691236517205 : Int64))).toUInt64 >>> ((2 : Int32).toInt64.toUInt64 &&& Int64.toUInt64 63)).toInt64) &&& (3689348814741910323 : Int64))).toUInt64 >>> ((4 : Int32).toInt64.toUInt64 &&& Int64.toUInt64 63)).toInt64)) &&& (1085102592571150095 : Int64)).toUInt64 >>> ((8 : Int32).toInt64.toUInt64 &&& Int64.toUInt64 63)).toInt64)).toUInt64 >>> ((16 : Int32).toInt64.toUInt64 &&& Int64.toUInt64 63)).toInt64)) + (((((((((a0 - (((a0.toUInt64 >>> ((1 : Int32).toInt64.toUInt64 &&& Int64.toUInt64 63)).toInt64) &&& (6148914691236517205 : Int64))) &&& (3689348814741910323 : Int64)) + ((((a0 - (((a0.toUInt64 >>> ((1 : Int32).toInt64.toUInt64 &&& Int64.toUInt64 63)).toInt64) &&& (6148914691236517205 : Int64))).toUInt64 >>> ((2 : Int32).toInt64.toUInt64 &&& Int64.toUInt64 63)).toInt64) &&& (3689348814741910323 : Int64))) + (((((a0 - (((a0.toUInt64 >>> ((1 : Int32).toInt64.toUInt64 &&& Int64.toUInt64 63)).toInt64) &&& (6148914691236517205 : Int64))) &&& (3689348814741910323 : Int64)) + ((((a0 - (((a0.toUInt64 >>> ((1 : Int32).toInt64.toUInt64 &&& Int64.toUInt64 63)).toInt64) &&& (6148914691236517205 : Int64))).toUInt64 >>> ((2 : Int32).toInt64.toUInt64 &&& Int64.toUInt64 63)).toInt64) &&& (3689348814741910323 : Int64))).toUInt64 >>> ((4 : Int32).toInt64.toUInt64 &&& Int64.toUInt64 63)).toInt64)) &&& (1085102592571150095 : Int64)) + (((((((a0 - (((a0.toUInt64 >>> ((1 : Int32).toInt64.toUInt64 &&& Int64.toUInt64 63)).toInt64) &&& (6148914691236517205 : Int64))) &&& (3689348814741910323 : Int64)) + ((((a0 - (((a0.toUInt64 >>> ((1 : Int32).toInt64.toUInt64 &&& Int64.toUInt64 63)).toInt64) &&& (6148914691236517205 : Int64))).toUInt64 >>> ((2 : Int32).toInt64.toUInt64 &&& Int64.toUInt64 63)).toInt64) &&& (3689348814741910323 : Int64))) + (((((a0 - (((a0.toUInt64 >>> ((1 : Int32).toInt64.toUInt64 &&& Int64.toUInt64 63)).toInt64) &&& (6148914691236517205 : Int64))) &&& (3689348814741910323 : Int64)) + ((((a0 - (((a0.toUInt64 >>> ((1 : Int32).toInt64.toUInt64 &&& Int64.toUInt64 63)).toInt64) &&& (6148914691236517205 : Int64))).toUInt64 >>> ((2 : Int32).toInt64.toUInt64 &&& Int64.toUInt64 63)).toInt64) &&& (3689348814741910323 : Int64))).toUInt64 >>> ((4 : Int32).toInt64.toUInt64 &&& Int64.toUInt64 63)).toInt64)) &&& (1085102592571150095 : Int64)).toUInt64 >>> ((8 : Int32).toInt64.toUInt64 &&& Int64.toUInt64 63)).toInt64)) + ((((((((a0 - (((a0.toUInt64 >>> ((1 : Int32).toInt64.toUInt64 &&& Int64.toUInt64 63)).toInt64) &&& (6148914691236517205 : Int64))) &&& (3689348814741910323 : Int64)) + ((((a0 - (((a0.toUInt64 >>> ((1 : Int32).toInt64.toUInt64 &&& Int64.toUInt64 63)).toInt64) &&& (6148914691236517205 : Int64))).toUInt64 >>> ((2 : Int32).toInt64.toUInt64 &&& Int64.toUInt64 63)).toInt64) &&& (3689348814741910323 : Int64))) + (((((a0 - (((a0.toUInt64 >>> ((1 : Int32).toInt64.toUInt64 &&& Int64.toUInt64 63)).toInt64) &&& (6148914691236517205 : Int64))) &&& (3689348814741910323 : Int64)) + ((((a0 - (((a0.toUInt64 >>> ((1 : Int32).toInt64.toUInt64 &&& Int64.toUInt64 63)).toInt64) &&& (6148914691236517205 : Int64))).toUInt64 >>> ((2 : Int32).toInt64.toUInt64 &&& Int64.toUInt64 63)).toInt64) &&& (3689348814741910323 : Int64))).toUInt64 >>> ((4 : Int32).toInt64.toUInt64 &&& Int64.toUInt64 63)).toInt64)) &&& (1085102592571150095 : Int64)) + (((((((a0 - (((a0.toUInt64 >>> ((1 : Int32).toInt64.toUInt64 &&& Int64.toUInt64 63)).toInt64) &&& (6148914691236517205 : Int64))) &&& (3689348814741910323 : Int64)) + ((((a0 - (((a0.toUInt64 >>> ((1 : Int32).toInt64.toUInt64 &&& Int64.toUInt64 63)).toInt64) &&& (6148914691236517205 : Int64))).toUInt64 >>> ((2 : Int32).toInt64.toUInt64 &&& Int64.toUInt64 63)).toInt64) &&& (3689348814741910323 : Int64))) + (((((a0 - (((a0.toUInt64 >>> ((1 : Int32).toInt64.toUInt64 &&& Int64.toUInt64 63)).toInt64) &&& (6148914691236517205 : Int64))) &&& (3689348814741910323 : Int64)) + ((((a0 - (((a0.toUInt64 >>> ((1 : Int32).toInt64.toUInt64 &&& Int64.toUInt64 63)).toInt64) &&& (6148914691236517205 : Int64))).toUInt64 >>> ((2 : Int32).toInt64.toUInt64 &&& Int64.toUInt64 63)).toInt64) &&& (3689348814741910323 : Int64))).toUInt64 >>> ((4 : Int32).toInt64.toUInt64 &&& Int64.toUInt64 63)).toInt64)) &&& (1085102592571150095 : Int64)).toUInt64 >>> ((8 : Int32).toInt64.toUInt64 &&& Int64.toUInt64 63)).toInt64)).toUInt64 >>> ((16 : Int32).toInt64.toUInt64 &&& Int64.toUInt64 63)).toInt64)).toUInt64 >>> ((32 : Int32).toInt64.toUInt64 &&& Int64.toUInt64 63)).toInt64)).toInt32 &&& (127 : Int32))
def f_Lie_coverAnew (a1 : Int32) (a2 : Int64) (s : zz_S) : Option (Int32 × zz_S) :=
  if zz_in a1 6 = true then
  some (((s.1 34 (a1.toNatClampNeg)) - ((zz_w s 34 (a1.toNatClampNeg) (f_Long_bitCount ((s.2 37 (a1.toNatClampNeg)) &&& a2))).1 34 (a1.toNatClampNeg))), (zz_w s 34 (a1.toNatClampNeg) (f_Long_bitCount ((s.2 37 (a1.toNatClampNeg)) &&& a2))))
  else none
def f_Lie_underOf (a1 : Int32) (a2 : Int32) (s : zz_S) : Option (Int32) :=
  if zz_in a1 6 = true then
  if zz_in a2 3 = true then
  some (f_Long_bitCount ((s.2 37 (a1.toNatClampNeg)) &&& (s.2 38 (a2.toNatClampNeg))))
  else none
  else none
def f_Lie_feelWarmth_L25 (K2 : Int32 → zz_S → Option (zz_S)) : Nat → Int32 → Int32 → Int32 → zz_S → Option (zz_S)
  | 0, _, _, _, _ => none
  | n + 1, v1, v2, v3, s =>
  if (s.1 1 2) ≤ v3 then
    if zz_in v1 6 = true then
    K2 (v1 + (1 : Int32)) (zz_w s 35 (v1.toNatClampNeg) v2)
    else none
  else
    if zz_in v3 3 = true then
    (f_Lie_underOf v1 v3 s).bind fun q6 =>
    (f_Bed_partOf v1 (s.1 8 (v3.toNatClampNeg)) q6 s).bind fun q7 =>
    f_Lie_feelWarmth_L25 K2 n v1 (v2 + q7) (v3 + (1 : Int32)) s
    else none
def f_Lie_feelWarmth_L2 : Nat → Int32 → zz_S → Option (zz_S)
  | 0, _, _ => none
  | n + 1, v1, s =>
  if (s.1 1 1) ≤ v1 then
    some s
  else
    if zz_in v1 6 = true then
    f_Lie_feelWarmth_L25 (f_Lie_feelWarmth_L2 n) zF v1 (s.1 5 (v1.toNatClampNeg)) (0 : Int32) s
    else none
def f_Lie_feelWarmth (s : zz_S) : Option (zz_S) :=
  f_Lie_feelWarmth_L2 zF (0 : Int32) s
def f_Lie_begin_L48 : Nat → Nat → Int64 → Int32 → zz_S → Option (zz_S)
  | 0, _, _, _, _ => none
  | n + 1, v1, v2, v4, s =>
  if (s.1 1 1) ≤ v4 then
    (f_Lie_feelWarmth s).bind fun q4 =>
    some q4
  else
    if zz_in v4 6 = true then
    (f_Lie_moveSleeper v4 (0 : Int32) (zz_w s 33 (v4.toNatClampNeg) (s.1 v1 (v4.toNatClampNeg)))).bind fun q6 =>
    (f_Lie_coverAnew v4 v2 q6).bind fun q7 =>
    f_Lie_begin_L48 n v1 v2 (v4 + (1 : Int32)) q7.2
    else none
def f_Lie_begin_L2 : Nat → Nat → Int32 → zz_S → Option (zz_S)
  | 0, _, _, _ => none
  | n + 1, v1, v2, s =>
  if (s.1 1 2) ≤ v2 then
    (f_Lie_allCovers s).bind fun q2 =>
    f_Lie_begin_L48 zF v1 q2 (0 : Int32) s
  else
    if zz_in v2 3 = true then
    (f_Lie_moveCover v2 (0 : Int32) (zz_w s 36 (v2.toNatClampNeg) (s.1 6 (v2.toNatClampNeg)))).bind fun q9 =>
    f_Lie_begin_L2 n v1 (v2 + (1 : Int32)) q9
    else none
def f_Lie_begin (a1 : Nat) (s : zz_S) : Option (zz_S) :=
  f_Lie_begin_L2 zF a1 (0 : Int32) s
def f_Lie_isBare (a1 : Int32) (s : zz_S) : Option (Int32) :=
  if zz_in a1 6 = true then
  if (s.1 3 (a1.toNatClampNeg)) ≤ (s.1 34 (a1.toNatClampNeg)) then
    some (0 : Int32)
  else
    some (1 : Int32)
  else none
def f_Lie_isNoneBare_L2 (s : zz_S) : Nat → Int32 → Option (Int32)
  | 0, _ => none
  | n + 1, v1 =>
  if (s.1 1 1) ≤ v1 then
    some (1 : Int32)
  else
    (f_Lie_isBare v1 s).bind fun q2 =>
    if q2 = 0 then
      f_Lie_isNoneBare_L2 s n (v1 + (1 : Int32))
    else
      some (0 : Int32)
def f_Lie_isNoneBare (s : zz_S) : Option (Int32) :=
  f_Lie_isNoneBare_L2 s zF (0 : Int32)
def f_Tally_begin (s : zz_S) : zz_S :=
  (zz_fillI (zz_fillI (zz_fillI (zz_fillI (zz_fillI (zz_fillI s 22 6 (0 : Int32)) 23 6 (0 : Int32)) 24 6 (0 : Int32)) 25 6 (-2 : Int32)) 26 6 (-2 : Int32)) 27 6 (0 : Int32))
def f_Night_begin (a1 : Int32) (a2 : Nat) (s : zz_S) : Option (zz_S) :=
  (f_Lie_begin a2 s).bind fun q1 =>
  some (zz_w (zz_w (zz_w (zz_w (zz_w (zz_w (f_Tally_begin (zz_fillI (zz_fillI q1 28 18 (0 : Int32)) 29 6 (0 : Int32))) 20 10 a1) 20 11 (0 : Int32)) 20 12 (0 : Int32)) 20 13 (0 : Int32)) 20 14 (-1 : Int32)) 20 16 (-1 : Int32))
def f_Night_warmOf (a1 : Int32) (a2 : Int32) (s : zz_S) : Option (Int32) :=
  if zz_in a2 480 = true then
  if zz_in a1 6 = true then
  some (((s.1 16 (a2.toNatClampNeg)) + (s.1 20 13)) + (s.1 35 (a1.toNatClampNeg)))
  else none
  else none
def f_Tally_wake (a1 : Int32) (a2 : Int32) (a3 : Int32) (s : zz_S) : Option (zz_S) :=
  if zz_in a1 6 = true then
  if (s.1 25 (a1.toNatClampNeg)) = (-2 : Int32) then
    some (zz_w (zz_w s 25 (a1.toNatClampNeg) a2) 26 (a1.toNatClampNeg) a3)
  else
    some s
  else none
def f_Tally_addCold_J56 (v1 : Int32) (v4 : Int32) (s : zz_S) : Option (zz_S) :=
  if zz_in v1 6 = true then
  some (zz_w s 27 (v1.toNatClampNeg) ((s.1 27 (v1.toNatClampNeg)) + v4))
  else none
def f_Tally_addCold (a1 : Int32) (a2 : Int32) (a3 : Int32) (a4 : Int32) (s : zz_S) : Option (zz_S) :=
  if a2 = 0 then
    if zz_in a1 6 = true then
    some (zz_w s 27 (a1.toNatClampNeg) (0 : Int32))
    else none
  else
    if zz_in a1 6 = true then
    if ((s.1 27 (a1.toNatClampNeg)) + a4) < (10 : Int32) then
      f_Tally_addCold_J56 a1 a4 (zz_w s 23 (a1.toNatClampNeg) ((s.1 23 (a1.toNatClampNeg)) + a4))
    else
      (f_Tally_wake a1 (((a3 + (10 : Int32)) - (1 : Int32)) - (s.1 27 (a1.toNatClampNeg))) (-1 : Int32) (zz_w s 23 (a1.toNatClampNeg) ((s.1 23 (a1.toNatClampNeg)) + a4))).bind fun q5 =>
      f_Tally_addCold_J56 a1 a4 q5
    else none
def f_Night_countIn_J58 (v1 : Int32) (v2 : Int32) (v3 : Int32) (v4 : Int32) (s : zz_S) : Option (zz_S) :=
  (f_Bed_isCold v1 v4 s).bind fun q6 =>
  (f_Tally_addCold v1 q6 v2 v3 s).bind fun q7 =>
  some q7
def f_Night_countIn_J34 (v1 : Int32) (v2 : Int32) (v3 : Int32) (v4 : Int32) (s : zz_S) : Option (zz_S) :=
  (f_Lie_isBare v1 s).bind fun q4 =>
  if q4 = 0 then
    f_Night_countIn_J58 v1 v2 v3 v4 s
  else
    if zz_in v1 6 = true then
    f_Night_countIn_J58 v1 v2 v3 v4 (zz_w s 24 (v1.toNatClampNeg) ((s.1 24 (v1.toNatClampNeg)) + v3))
    else none
def f_Night_countIn (a1 : Int32) (a2 : Int32) (a3 : Int32) (s : zz_S) : Option (zz_S) :=
  (f_Night_warmOf a1 a2 s).bind fun q1 =>
  (f_Bed_isEasy a1 q1 s).bind fun q2 =>
  if q2 = 0 then
    f_Night_countIn_J34 a1 a2 a3 q1 s
  else
    if zz_in a1 6 = true then
    f_Night_countIn_J34 a1 a2 a3 q1 (zz_w s 22 (a1.toNatClampNeg) ((s.1 22 (a1.toNatClampNeg)) + a3))
    else none
def f_Night_roll (s : zz_S) : Option (Int32 × zz_S) :=
  some ((((((s.1 20 15) * (1103515245 : Int32)) + (12345 : Int32)).toUInt32 >>> ((8 : Int32).toUInt32 &&& Int32.toUInt32 31)).toInt32), (zz_w s 20 15 (((s.1 20 15) * (1103515245 : Int32)) + (12345 : Int32))))
def f_Text_worthOfTwo_J92 : Option (Int32) :=
  some (1 : Int32)
def f_Text_worthOfTwo (a0 : Int32) (a1 : Int32) (a2 : Int32) : Option (Int32) :=
  if a0 = (38 : Int32) then
    if a1 = 0 then
      some (0 : Int32)
    else
      if a2 = 0 then
        some (0 : Int32)
      else
        some (1 : Int32)
  else
  if a0 = (42 : Int32) then
    some (a1 * a2)
  else
  if a0 = (43 : Int32) then
    some (a1 + a2)
  else
  if a0 = (45 : Int32) then
    some (a1 - a2)
  else
  if a0 = (47 : Int32) then
    if a2 = 0 then
      some (0 : Int32)
    else
      if a2 = 0 then none else
      some (a1 / a2)
  else
  if a0 = (60 : Int32) then
    if a2 ≤ a1 then
      some (0 : Int32)
    else
      some (1 : Int32)
  else
  if a0 = (61 : Int32) then
    if a1 = a2 then
      some (1 : Int32)
    else
      some (0 : Int32)
  else
  if a0 = (62 : Int32) then
    if a1 ≤ a2 then
      some (0 : Int32)
    else
      some (1 : Int32)
  else
  if a0 = (124 : Int32) then
    if a1 = 0 then
      if a2 = 0 then
        some (0 : Int32)
      else
        f_Text_worthOfTwo_J92
    else
      f_Text_worthOfTwo_J92
  else
  if a2 = 0 then
    some (0 : Int32)
  else
    if a2 = 0 then none else
    some (a1 % a2)
def f_Text_worth_J190 (K7 : Nat → Nat → Int32 → Int32 → Int32 → zz_S → Option (Int32 × zz_S)) (v0 : Nat) (v1 : Nat) (v2 : Int32) (v3 : Int32) (v4 : Int32) (t0 : Nat) (t1 : Int32) (t2 : Int32) (s : zz_S) : Option (Int32 × zz_S) :=
  if zz_in t1 122 = true then
  K7 v0 v1 v2 v3 (v4 + (1 : Int32)) (zz_w s t0 (t1.toNatClampNeg) t2)
  else none
def f_Text_worth_J142 (K7 : Nat → Nat → Int32 → Int32 → Int32 → zz_S → Option (Int32 × zz_S)) (v0 : Nat) (v1 : Nat) (v2 : Int32) (v3 : Int32) (v4 : Int32) (v5 : Int32) (s : zz_S) : Option (Int32 × zz_S) :=
  if v5 = (-126 : Int32) then
    if zz_in (zz_max (0 : Int32) (v2 - (1 : Int32))) 122 = true then
    f_Text_worth_J190 K7 v0 v1 v2 v3 v4 (v0 + 2) (zz_max (0 : Int32) (v2 - (1 : Int32))) (-(s.1 (v0 + 2) ((zz_max (0 : Int32) (v2 - (1 : Int32))).toNatClampNeg))) s
    else none
  else
    if zz_in (zz_max (0 : Int32) (v2 - (1 : Int32))) 122 = true then
    if (s.1 (v0 + 2) ((zz_max (0 : Int32) (v2 - (1 : Int32))).toNatClampNeg)) = 0 then
      f_Text_worth_J190 K7 v0 v1 v2 v3 v4 (v0 + 2) (zz_max (0 : Int32) (v2 - (1 : Int32))) (1 : Int32) s
    else
      f_Text_worth_J190 K7 v0 v1 v2 v3 v4 (v0 + 2) (zz_max (0 : Int32) (v2 - (1 : Int32))) (0 : Int32) s
    else none
def f_Text_worth_J91 (K7 : Nat → Nat → Int32 → Int32 → Int32 → zz_S → Option (Int32 × zz_S)) (v0 : Nat) (v1 : Nat) (v2 : Int32) (v4 : Int32) (t0 : Int32) (s : zz_S) : Option (Int32 × zz_S) :=
  K7 v0 v1 v2 t0 (v4 + (1 : Int32)) s
def f_Text_worth_L7 : Nat → Nat → Nat → Int32 → Int32 → Int32 → zz_S → Option (Int32 × zz_S)
  | 0, _, _, _, _, _, _ => none
  | n + 1, v0, v1, v2, v3, v4, s =>
  if (s.1 v0 0) ≤ v4 then
    some ((0 : Int32), s)
  else
    if zz_in v4 121 = true then
    if v3 ≤ v4 then
      if (s.1 (v0 + 1) (v4.toNatClampNeg)) < (20000 : Int32) then
        if (s.1 (v0 + 1) (v4.toNatClampNeg)) < (10000 : Int32) then
          if (s.1 (v0 + 1) (v4.toNatClampNeg)) < 0 then
            if (s.1 (v0 + 1) (v4.toNatClampNeg)) = (-59 : Int32) then
              some ((s.1 (v0 + 2) 0), s)
            else
              if (s.1 (v0 + 1) (v4.toNatClampNeg)) = (-126 : Int32) then
                f_Text_worth_J142 (f_Text_worth_L7 n) v0 v1 v2 v3 v4 (s.1 (v0 + 1) (v4.toNatClampNeg)) s
              else
                if (s.1 (v0 + 1) (v4.toNatClampNeg)) = (-33 : Int32) then
                  f_Text_worth_J142 (f_Text_worth_L7 n) v0 v1 v2 v3 v4 (s.1 (v0 + 1) (v4.toNatClampNeg)) s
                else
                  if zz_in ((zz_max (1 : Int32) (v2 - (1 : Int32))) - (1 : Int32)) 122 = true then
                  if zz_in (zz_max (1 : Int32) (v2 - (1 : Int32))) 122 = true then
                  (f_Text_worthOfTwo (-(s.1 (v0 + 1) (v4.toNatClampNeg))) (s.1 (v0 + 2) (((zz_max (1 : Int32) (v2 - (1 : Int32))) - (1 : Int32)).toNatClampNeg)) (s.1 (v0 + 2) ((zz_max (1 : Int32) (v2 - (1 : Int32))).toNatClampNeg))).bind fun q17 =>
                  f_Text_worth_L7 n v0 v1 (zz_max (1 : Int32) (v2 - (1 : Int32))) v3 (v4 + (1 : Int32)) (zz_w s (v0 + 2) (((zz_max (1 : Int32) (v2 - (1 : Int32))) - (1 : Int32)).toNatClampNeg) q17)
                  else none
                  else none
          else
            if zz_in v2 122 = true then
            f_Text_worth_L7 n v0 v1 (v2 + (1 : Int32)) v3 (v4 + (1 : Int32)) (zz_w s (v0 + 2) (v2.toNatClampNeg) (s.1 (v0 + 1) (v4.toNatClampNeg)))
            else none
        else
          if (s.1 (v0 + 2) 0) = 0 then
            f_Text_worth_J91 (f_Text_worth_L7 n) v0 v1 (0 : Int32) v4 ((s.1 (v0 + 1) (v4.toNatClampNeg)) - (10000 : Int32)) s
          else
            f_Text_worth_J91 (f_Text_worth_L7 n) v0 v1 (0 : Int32) v4 (0 : Int32) s
      else
        if zz_in ((s.1 (v0 + 1) (v4.toNatClampNeg)) - (20000 : Int32)) 8 = true then
        if zz_in v2 122 = true then
        f_Text_worth_L7 n v0 v1 (v2 + (1 : Int32)) v3 (v4 + (1 : Int32)) (zz_w s (v0 + 2) (v2.toNatClampNeg) (s.1 v1 (((s.1 (v0 + 1) (v4.toNatClampNeg)) - (20000 : Int32)).toNatClampNeg)))
        else none
        else none
    else
      f_Text_worth_L7 n v0 v1 v2 v3 (v4 + (1 : Int32)) s
    else none
def f_Text_worth (a0 : Nat) (a1 : Nat) (s : zz_S) : Option (Int32 × zz_S) :=
  f_Text_worth_L7 zF a0 a1 (0 : Int32) (0 : Int32) (0 : Int32) s
def f_Night_pullOf_J57 (v1 : Int32) (v2 : Int32) (v5 : Int32) (v6 : Int32) (v7 : Int32) (s : zz_S) : Option (Int32 × zz_S) :=
  if v7 = (1 : Int32) then
    some ((0 : Int32), s)
  else
    (f_Bed_partOf v1 v6 v5 s).bind fun q7 =>
    if zz_in v2 3 = true then
    some ((zz_max (0 : Int32) (q7 - (s.1 9 (v2.toNatClampNeg)))), s)
    else none
def f_Night_pullOf_J40 (v1 : Int32) (v2 : Int32) (v4 : Int32) (v5 : Int32) (v6 : Int32) (t0 : Int32) (s : zz_S) : Option (Int32 × zz_S) :=
  if (s.1 20 10) < 0 then
    f_Night_pullOf_J57 v1 v2 v5 v6 t0 s
  else
    if (s.1 20 10) < (4 : Int32) then
      if zz_in v2 3 = true then
      if zz_in (s.1 20 10) 4 = true then
      (f_Text_worth (zr_19 (s.1 20 10)) 31 (zz_w (zz_w (zz_w (zz_w (zz_w (zz_w (zz_w (zz_w s 31 0 v6) 31 1 v5) 31 2 (s.1 7 (v2.toNatClampNeg))) 31 3 (s.1 9 (v2.toNatClampNeg))) 31 4 v1) 31 5 t0) 31 6 v4) 31 7 (v4 / (60 : Int32)))).bind fun q12 =>
      some ((zz_max (0 : Int32) (zz_min v6 q12.1)), q12.2)
      else none
      else none
    else
      f_Night_pullOf_J57 v1 v2 v5 v6 t0 s
def f_Night_pullOf (a1 : Int32) (a2 : Int32) (a3 : Int32) (a4 : Int32) (s : zz_S) : Option (Int32 × zz_S) :=
  (f_Lie_underOf a1 a2 s).bind fun q1 =>
  if q1 = 0 then
    some ((0 : Int32), s)
  else
    if zz_in a1 6 = true then
    if 0 ≤ ((s.1 29 (a1.toNatClampNeg)) * a3) then
      f_Night_pullOf_J40 a1 a2 a4 q1 (zz_abs a3) (0 : Int32) s
    else
      f_Night_pullOf_J40 a1 a2 a4 q1 (zz_abs a3) (1 : Int32) s
    else none
def f_Night_turnOver_L138 : Nat → Int32 → Int32 → Int64 → Int32 → zz_S → Option (zz_S)
  | 0, _, _, _, _, _ => none
  | n + 1, v1, v3, v5, v7, s =>
  if (s.1 1 1) ≤ v7 then
    some s
  else
    (f_Lie_coverAnew v7 v5 s).bind fun q8 =>
    if v7 = v1 then
      f_Night_turnOver_L138 n v1 v3 v5 (v7 + (1 : Int32)) q8.2
    else
      if zz_in v7 6 = true then
      if ((2 : Int32) * q8.1) < (q8.2.1 3 (v7.toNatClampNeg)) then
        f_Night_turnOver_L138 n v1 v3 v5 (v7 + (1 : Int32)) q8.2
      else
        (f_Tally_wake v7 v3 v1 q8.2).bind fun q12 =>
        f_Night_turnOver_L138 n v1 v3 v5 (v7 + (1 : Int32)) q12
      else none
def f_Night_turnOver_L54 : Nat → Int32 → Int32 → Int32 → Int32 → Int32 → zz_S → Option (zz_S)
  | 0, _, _, _, _, _, _ => none
  | n + 1, v1, v2, v3, v4, v5, s =>
  if (s.1 1 2) ≤ v5 then
    (f_Lie_moveSleeper v1 v2 s).bind fun q4 =>
    if zz_in v1 6 = true then
    (f_Lie_allCovers (zz_w q4 29 (v1.toNatClampNeg) v4)).bind fun q6 =>
    f_Night_turnOver_L138 zF v1 v3 q6 (0 : Int32) (zz_w q4 29 (v1.toNatClampNeg) v4)
    else none
  else
    if zz_in v5 3 = true then
    (f_Lie_moveCover v5 (s.1 30 (v5.toNatClampNeg)) s).bind fun q14 =>
    if zz_in ((v1 * (3 : Int32)) + v5) 18 = true then
    f_Night_turnOver_L54 n v1 v2 v3 v4 (v5 + (1 : Int32)) (zz_w q14 28 (((v1 * (3 : Int32)) + v5).toNatClampNeg) ((q14.1 28 (((v1 * (3 : Int32)) + v5).toNatClampNeg)) + (q14.1 30 (v5.toNatClampNeg))))
    else none
    else none
def f_Night_turnOver_L14 : Nat → Int32 → Int32 → Int32 → Int32 → Int32 → zz_S → Option (zz_S)
  | 0, _, _, _, _, _, _ => none
  | n + 1, v1, v2, v3, v4, v5, s =>
  if (s.1 1 2) ≤ v5 then
    f_Night_turnOver_L54 zF v1 v2 v3 v4 (0 : Int32) s
  else
    (f_Night_pullOf v1 v5 v2 v3 s).bind fun q16 =>
    if zz_in v5 3 = true then
    f_Night_turnOver_L14 n v1 v2 v3 v4 (v5 + (1 : Int32)) (zz_w q16.2 30 (v5.toNatClampNeg) (v4 * q16.1))
    else none
def f_Night_turnOver_J9 (v1 : Int32) (v2 : Int32) (v3 : Int32) (t0 : Int32) (s : zz_S) : Option (zz_S) :=
  f_Night_turnOver_L14 zF v1 v2 v3 t0 (0 : Int32) s
def f_Night_turnOver (a1 : Int32) (a2 : Int32) (a3 : Int32) (s : zz_S) : Option (zz_S) :=
  if 0 ≤ a2 then
    f_Night_turnOver_J9 a1 a2 a3 (1 : Int32) s
  else
    f_Night_turnOver_J9 a1 a2 a3 (-1 : Int32) s
def f_Night_doDrawn_L2 : Nat → Int32 → Int32 → zz_S → Option (zz_S)
  | 0, _, _, _ => none
  | n + 1, v1, v2, s =>
  if (s.1 1 1) ≤ v2 then
    (f_Lie_feelWarmth s).bind fun q2 =>
    some q2
  else
    (f_Night_roll s).bind fun q3 =>
    if (q3.2.1 20 16) ≤ (q3.1 % (100 : Int32)) then
      f_Night_doDrawn_L2 n v1 (v2 + (1 : Int32)) q3.2
    else
      (f_Night_roll q3.2).bind fun q5 =>
      if ((q5.1 % (21 : Int32)) - (10 : Int32)) = 0 then
        f_Night_doDrawn_L2 n v1 (v2 + (1 : Int32)) q5.2
      else
        (f_Night_turnOver v2 ((q5.1 % (21 : Int32)) - (10 : Int32)) v1 q5.2).bind fun q7 =>
        f_Night_doDrawn_L2 n v1 (v2 + (1 : Int32)) q7
def f_Night_doDrawn (a1 : Int32) (s : zz_S) : Option (zz_S) :=
  f_Night_doDrawn_L2 zF a1 (0 : Int32) s
def f_Night_doTold_J117 (v2 : Int32) (s : zz_S) : Option (zz_S) :=
  if (s.1 20 12) ≤ v2 then
    some s
  else
    (f_Lie_feelWarmth s).bind fun q3 =>
    some q3
def f_Night_doTold_J104 (K5 : Int32 → Int32 → zz_S → Option (zz_S)) (v1 : Int32) (v2 : Int32) (s : zz_S) : Option (zz_S) :=
  K5 v1 v2 (zz_w s 20 12 ((s.1 20 12) + (1 : Int32)))
def f_Night_doTold_J88 (K5 : Int32 → Int32 → zz_S → Option (zz_S)) (v1 : Int32) (v2 : Int32) (v3 : Int32) (v4 : Int32) (s : zz_S) : Option (zz_S) :=
  if zz_in v3 60 = true then
  (f_Night_turnOver v4 (s.1 13 (v3.toNatClampNeg)) v1 s).bind fun q10 =>
  f_Night_doTold_J104 K5 v1 v2 q10
  else none
def f_Night_doTold_L5 : Nat → Int32 → Int32 → zz_S → Option (zz_S)
  | 0, _, _, _ => none
  | n + 1, v1, v2, s =>
  if (s.1 10 0) ≤ (s.1 20 12) then
    f_Night_doTold_J117 v2 s
  else
    if zz_in (s.1 20 12) 60 = true then
    if zz_in (s.1 14 ((s.1 20 12).toNatClampNeg)) 60 = true then
    if (s.1 11 ((s.1 14 ((s.1 20 12).toNatClampNeg)).toNatClampNeg)) = v1 then
      if (f_Bed_hasSleeper (s.1 12 ((s.1 14 ((s.1 20 12).toNatClampNeg)).toNatClampNeg)) s) = 0 then
        f_Night_doTold_J104 (f_Night_doTold_L5 n) v1 v2 s
      else
        if (s.1 20 14) = (-1 : Int32) then
          f_Night_doTold_J88 (f_Night_doTold_L5 n) v1 v2 (s.1 14 ((s.1 20 12).toNatClampNeg)) (s.1 12 ((s.1 14 ((s.1 20 12).toNatClampNeg)).toNatClampNeg)) s
        else
          if (s.1 20 14) = (s.1 12 ((s.1 14 ((s.1 20 12).toNatClampNeg)).toNatClampNeg)) then
            f_Night_doTold_J88 (f_Night_doTold_L5 n) v1 v2 (s.1 14 ((s.1 20 12).toNatClampNeg)) (s.1 12 ((s.1 14 ((s.1 20 12).toNatClampNeg)).toNatClampNeg)) s
          else
            f_Night_doTold_J104 (f_Night_doTold_L5 n) v1 v2 s
    else
      f_Night_doTold_J117 v2 s
    else none
    else none
def f_Night_doTold (a1 : Int32) (s : zz_S) : Option (zz_S) :=
  f_Night_doTold_L5 zF a1 (s.1 20 12) s
def f_Night_drawTurns (a1 : Int32) (a2 : Int32) (s : zz_S) : zz_S :=
  (zz_w (zz_w s 20 15 a1) 20 16 a2)
def f_Night_minuteOfTurns (a1 : Int32) (s : zz_S) : Option (Int32) :=
  if (s.1 20 16) < 0 then
    if (s.1 10 0) ≤ (s.1 20 12) then
      some (480 : Int32)
    else
      if zz_in (s.1 20 12) 60 = true then
      if zz_in (s.1 14 ((s.1 20 12).toNatClampNeg)) 60 = true then
      some (s.1 11 ((s.1 14 ((s.1 20 12).toNatClampNeg)).toNatClampNeg))
      else none
      else none
  else
    some ((a1 - (a1 % (10 : Int32))) + (10 : Int32))
def f_Night_play_L79 (K2 : Int32 → Int32 → zz_S → Option (zz_S)) : Nat → Int32 → Int32 → Int32 → Int32 → zz_S → Option (zz_S)
  | 0, _, _, _, _, _ => none
  | n + 1, v1, v2, v3, v4, s =>
  if (s.1 1 1) ≤ v4 then
    K2 v1 (v2 + (1 : Int32)) s
  else
    (f_Night_countIn v4 v3 ((s.1 20 11) - v3) s).bind fun q8 =>
    f_Night_play_L79 K2 n v1 v2 v3 (v4 + (1 : Int32)) q8
def f_Night_play_J49 (K2 : Int32 → Int32 → zz_S → Option (zz_S)) (v1 : Int32) (v2 : Int32) (v3 : Int32) (s : zz_S) : Option (zz_S) :=
  if zz_in v3 480 = true then
  (f_Night_minuteOfTurns v3 s).bind fun q6 =>
  f_Night_play_L79 K2 zF v1 v2 v3 (0 : Int32) (zz_w s 20 11 (zz_min (v1 + (1 : Int32)) (zz_min (s.1 17 (v3.toNatClampNeg)) q6)))
  else none
def f_Night_play_L2 : Nat → Int32 → Int32 → zz_S → Option (zz_S)
  | 0, _, _, _ => none
  | n + 1, v1, v2, s =>
  if (480 : Int32) ≤ v2 then
    some s
  else
    if v1 < (s.1 20 11) then
      some s
    else
      if 0 ≤ (s.1 20 16) then
        if ((s.1 20 11) % (10 : Int32)) = 0 then
          (f_Night_doDrawn (s.1 20 11) s).bind fun q9 =>
          f_Night_play_J49 (f_Night_play_L2 n) v1 v2 (s.1 20 11) q9
        else
          f_Night_play_J49 (f_Night_play_L2 n) v1 v2 (s.1 20 11) s
      else
        (f_Night_doTold (s.1 20 11) s).bind fun q10 =>
        f_Night_play_J49 (f_Night_play_L2 n) v1 v2 (s.1 20 11) q10
def f_Night_play (a1 : Int32) (s : zz_S) : Option (zz_S) :=
  f_Night_play_L2 zF a1 (0 : Int32) s
def f_Room_warmBy_J119 (K62 : Int32 → zz_S → Option (zz_S)) (v2 : Int32) (t1 : Int32) (t2 : Int32) (s : zz_S) : Option (zz_S) :=
  if zz_in t1 480 = true then
  K62 (v2 + (-1 : Int32)) (zz_w s 17 (t1.toNatClampNeg) t2)
  else none
def f_Room_warmBy_J95 (K62 : Int32 → zz_S → Option (zz_S)) (v2 : Int32) (t0 : Int32) (s : zz_S) : Option (zz_S) :=
  if t0 = 0 then
    f_Room_warmBy_J119 K62 v2 v2 (v2 + (1 : Int32)) s
  else
    if zz_in (v2 + (1 : Int32)) 480 = true then
    f_Room_warmBy_J119 K62 v2 v2 (s.1 17 ((v2 + (1 : Int32)).toNatClampNeg)) s
    else none
def f_Room_warmBy_J94 (K62 : Int32 → zz_S → Option (zz_S)) (v2 : Int32) (s : zz_S) : Option (zz_S) :=
  f_Room_warmBy_J95 K62 v2 (0 : Int32) s
def f_Room_warmBy_L62 : Nat → Int32 → zz_S → Option (zz_S)
  | 0, _, _ => none
  | n + 1, v2, s =>
  if v2 < 0 then
    some s
  else
    if (479 : Int32) ≤ v2 then
      f_Room_warmBy_J94 (f_Room_warmBy_L62 n) v2 s
    else
      if zz_in v2 480 = true then
      if zz_in (v2 + (1 : Int32)) 480 = true then
      if (s.1 16 (v2.toNatClampNeg)) = (s.1 16 ((v2 + (1 : Int32)).toNatClampNeg)) then
        f_Room_warmBy_J95 (f_Room_warmBy_L62 n) v2 (1 : Int32) s
      else
        f_Room_warmBy_J94 (f_Room_warmBy_L62 n) v2 s
      else none
      else none
def f_Room_warmBy_L2 : Nat → Int32 → zz_S → Option (zz_S)
  | 0, _, _ => none
  | n + 1, v2, s =>
  if (480 : Int32) ≤ v2 then
    f_Room_warmBy_L62 zF (479 : Int32) s
  else
    (f_Text_worth 45 18 (zz_w (zz_w s 18 6 v2) 18 7 (v2 / (60 : Int32)))).bind fun q10 =>
    if zz_in v2 480 = true then
    f_Room_warmBy_L2 n (v2 + (1 : Int32)) (zz_w q10.2 16 (v2.toNatClampNeg) (zz_max (-50 : Int32) (zz_min (50 : Int32) q10.1)))
    else none
def f_Room_warmBy (s : zz_S) : Option (zz_S) :=
  f_Room_warmBy_L2 zF (0 : Int32) s
def f_Shelf_hasPlaces (a0 : Nat) (a1 : Int32) (a2 : Int32) (s : zz_S) : Int32 :=
  if a1 < 0 then
    (0 : Int32)
  else
    if a2 < 0 then
      (0 : Int32)
    else
      if (s.1 a0 3) < a2 then
        (0 : Int32)
      else
        if ((s.1 a0 3) - a2) < a1 then
          (0 : Int32)
        else
          (1 : Int32)
def f_Shelf_holdBody (a0 : Nat) (a1 : Int32) (s : zz_S) : zz_S :=
  (zz_w (zz_w s a0 0 (1 : Int32)) a0 1 a1)
def f_Shelf_holdNothing (a0 : Nat) (s : zz_S) : zz_S :=
  (zz_w s a0 0 (0 : Int32))
def f_Shelf_holdRow (a0 : Nat) (a1 : Int32) (a2 : Int32) (s : zz_S) : zz_S :=
  (zz_fillJ (zz_w (zz_w (zz_w s a0 0 (2 : Int32)) a0 2 a1) a0 3 a2) (a0 + 1) 60 (0 : Int64))
def f_Shelf_isBody (a0 : Nat) (s : zz_S) : Int32 :=
  if (s.1 a0 0) = (1 : Int32) then
    (1 : Int32)
  else
    (0 : Int32)
def f_Shelf_isEmpty (a0 : Nat) (s : zz_S) : Int32 :=
  if (s.1 a0 0) = 0 then
    (1 : Int32)
  else
    (0 : Int32)
def f_Shelf_isRow (a0 : Nat) (s : zz_S) : Int32 :=
  if (s.1 a0 0) = (2 : Int32) then
    (1 : Int32)
  else
    (0 : Int32)
def f_Shelf_isRowOf (a0 : Nat) (a1 : Int32) (s : zz_S) : Int32 :=
  if (s.1 a0 0) = (2 : Int32) then
    if (s.1 a0 2) = a1 then
      (1 : Int32)
    else
      (0 : Int32)
  else
    (0 : Int32)
def f_Shelf_set_J100 (t0 : Nat) (t1 : Int32) (t2 : Int64) (s : zz_S) : Option (zz_S) :=
  if zz_in t1 60 = true then
  some (zz_wl s t0 (t1.toNatClampNeg) t2)
  else none
def f_Shelf_set (a0 : Nat) (a1 : Int32) (a2 : Int64) (s : zz_S) : Option (zz_S) :=
  if (s.1 a0 2) = (0 : Int32) then
    if zz_in a1 60 = true then
    some (zz_wl s (a0 + 1) (a1.toNatClampNeg) a2.toInt32.toInt8.toInt32.toInt64)
    else none
  else
  if (s.1 a0 2) = (1 : Int32) then
    if zz_in a1 60 = true then
    some (zz_wl s (a0 + 1) (a1.toNatClampNeg) a2.toInt32.toInt16.toInt32.toInt64)
    else none
  else
  if (s.1 a0 2) = (2 : Int32) then
    if zz_in a1 60 = true then
    some (zz_wl s (a0 + 1) (a1.toNatClampNeg) a2.toInt32.toInt64)
    else none
  else
  if (s.1 a0 2) = (3 : Int32) then
    if zz_in a1 60 = true then
    some (zz_wl s (a0 + 1) (a1.toNatClampNeg) a2)
    else none
  else
  if (lg_cmp a2 (0 : Int64)) = 0 then
    f_Shelf_set_J100 (a0 + 1) a1 (0 : Int64) s
  else
    f_Shelf_set_J100 (a0 + 1) a1 (1 : Int64) s
def f_Tally_easyOfAll_L4 (s : zz_S) : Nat → Int32 → Int32 → Int32 → Option (Int32)
  | 0, _, _, _ => none
  | n + 1, v1, v2, v3 =>
  if v1 ≤ v3 then
    some v2
  else
    if zz_in v3 6 = true then
    f_Tally_easyOfAll_L4 s n v1 (v2 + (s.1 22 (v3.toNatClampNeg))) (v3 + (1 : Int32))
    else none
def f_Tally_easyOfAll (a1 : Int32) (s : zz_S) : Option (Int32) :=
  f_Tally_easyOfAll_L4 s zF a1 (0 : Int32) (0 : Int32)
def f_Tally_leastEasy_L6 (s : zz_S) : Nat → Int32 → Int32 → Int32 → Option (Int32)
  | 0, _, _, _ => none
  | n + 1, v1, v2, v3 =>
  if v1 ≤ v3 then
    some v2
  else
    if zz_in v3 6 = true then
    f_Tally_leastEasy_L6 s n v1 (zz_min v2 (s.1 22 (v3.toNatClampNeg))) (v3 + (1 : Int32))
    else none
def f_Tally_leastEasy (a1 : Int32) (s : zz_S) : Option (Int32) :=
  f_Tally_leastEasy_L6 s zF a1 (480 : Int32) (0 : Int32)
def f_Tape_add (a1 : Int32) (s : zz_S) : Option (zz_S) :=
  if (120 : Int32) ≤ (s.1 44 0) then
    some s
  else
    if zz_in (s.1 44 0) 120 = true then
    some (zz_w (zz_w s 48 ((s.1 44 0).toNatClampNeg) a1) 44 0 ((s.1 44 0) + (1 : Int32)))
    else none
def f_Tape_fail (s : zz_S) : zz_S :=
  if (s.1 44 4) = (-1 : Int32) then
    (zz_w s 44 4 (s.1 44 3))
  else
    s
def f_Tape_isDigit (a0 : Int32) : Int32 :=
  if a0 < (48 : Int32) then
    (0 : Int32)
  else
    if (57 : Int32) < a0 then
      (0 : Int32)
    else
      (1 : Int32)
def f_Tape_peek (s : zz_S) : Option (Int32) :=
  if (s.1 44 4) = (-1 : Int32) then
    if (s.1 44 0) ≤ (s.1 44 3) then
      some (-1 : Int32)
    else
      if zz_in (s.1 44 3) 120 = true then
      some (s.1 48 ((s.1 44 3).toNatClampNeg))
      else none
  else
    some (-1 : Int32)
def f_Str_isLatin1 (a0 : Nat) : Int32 :=
  (1 : Int32)
def f_Str_coder (a0 : Nat) : Int32 :=
  (0 : Int32)
def f_Str_length (a0 : Nat) : Int32 :=
  ((Int32.ofNat (zz_sln.getD a0 0)) >>> ((0 : Int32) &&& 31))
def f_Lat_canEncode (a0 : Int32) : Int32 :=
  if a0 < 0 then
    (0 : Int32)
  else
    if (255 : Int32) < a0 then
      (0 : Int32)
    else
      (1 : Int32)
def f_Lat_indexOfChar_L7 : Nat → Nat → Int32 → Int32 → Int32 → Option (Int32)
  | 0, _, _, _, _ => none
  | n + 1, v0, v3, v4, v5 =>
  if v3 ≤ v5 then
    some (-1 : Int32)
  else
    if zz_in v5 (zz_sln.getD v0 0) = true then
    if ((zz_sby.getD v0 []).getD v5.toNatClampNeg 0) = v4 then
      some v5
    else
      f_Lat_indexOfChar_L7 n v0 v3 v4 (v5 + (1 : Int32))
    else none
def f_Lat_indexOfChar (a0 : Nat) (a1 : Int32) (a2 : Int32) (a3 : Int32) : Option (Int32) :=
  f_Lat_indexOfChar_L7 zF a0 a3 a1.toInt8.toInt32 a2
def f_Lat_indexOf (a0 : Nat) (a1 : Int32) (a2 : Int32) (a3 : Int32) : Option (Int32) :=
  if (f_Lat_canEncode a1) = 0 then
    some (-1 : Int32)
  else
    if (zz_max a2 (0 : Int32)) < (zz_min a3 (Int32.ofNat (zz_sln.getD a0 0))) then
      (f_Lat_indexOfChar a0 a1 (zz_max a2 (0 : Int32)) (zz_min a3 (Int32.ofNat (zz_sln.getD a0 0)))).bind fun q3 =>
      some q3
    else
      some (-1 : Int32)
def f_Str_indexOf2 (a0 : Nat) (a1 : Int32) (a2 : Int32) : Option (Int32) :=
  (f_Lat_indexOf a0 a1 a2 (f_Str_length a0)).bind fun q1 =>
  some q1
def f_Str_indexOf1 (a0 : Nat) (a1 : Int32) : Option (Int32) :=
  (f_Str_indexOf2 a0 a1 (0 : Int32)).bind fun q1 =>
  some q1
def f_Tape_placeIn (a0 : Nat) (a1 : Int32) : Option (Int32) :=
  if 0 ≤ a1 then
    (f_Str_indexOf1 a0 (a1.toUInt32 % 65536).toInt32).bind fun q2 =>
    some q2
  else
    some (-1 : Int32)
def f_Tape_signsOf (a0 : Int32) : Nat :=
  if a0 = (0 : Int32) then
    1
  else
  if a0 = (1 : Int32) then
    2
  else
  if a0 = (2 : Int32) then
    3
  else
  if a0 = (3 : Int32) then
    4
  else
  5
def f_Tape_takesOneOf (a1 : Nat) (s : zz_S) : Option (Int32 × zz_S) :=
  (f_Tape_peek s).bind fun q1 =>
  (f_Tape_placeIn a1 q1).bind fun q2 =>
  if 0 ≤ q2 then
    some (q1, (zz_w s 44 3 ((s.1 44 3) + (1 : Int32))))
  else
    some ((0 : Int32), s)
def f_Text_add (a1 : Int32) (s : zz_S) : Option (zz_S) :=
  if (121 : Int32) ≤ (s.1 45 0) then
    some s
  else
    if zz_in (s.1 45 0) 121 = true then
    some (zz_w (zz_w s 46 ((s.1 45 0).toNatClampNeg) a1) 45 0 ((s.1 45 0) + (1 : Int32)))
    else none
def f_Tape_takes (a1 : Int32) (s : zz_S) : Option (Int32 × zz_S) :=
  (f_Tape_peek s).bind fun q1 =>
  if q1 = a1 then
    some ((1 : Int32), (zz_w s 44 3 ((s.1 44 3) + (1 : Int32))))
  else
    some ((0 : Int32), s)
def f_Tape_readNumber_J48 (v1 : Int32) (s : zz_S) : Option (zz_S) :=
  (f_Text_add v1 s).bind fun q2 =>
  some q2
def f_Tape_readNumber_L4 : Nat → Int32 → Int32 → zz_S → Option (zz_S)
  | 0, _, _, _ => none
  | n + 1, v1, v2, s =>
  if (4 : Int32) ≤ v2 then
    f_Tape_readNumber_J48 v1 s
  else
    (f_Tape_peek s).bind fun q3 =>
    if (f_Tape_isDigit q3) = 0 then
      f_Tape_readNumber_J48 v1 s
    else
      (f_Tape_peek s).bind fun q5 =>
      f_Tape_readNumber_L4 n (((v1 * (10 : Int32)) + q5) - (48 : Int32)) (v2 + (1 : Int32)) (zz_w s 44 3 ((s.1 44 3) + (1 : Int32)))
def f_Tape_readNumber (s : zz_S) : Option (zz_S) :=
  f_Tape_readNumber_L4 zF (0 : Int32) (0 : Int32) s
def f_Tape_readOperand (R_Tape_readLevel : Int32 → Int32 → zz_S → Option (zz_S)) (R_Tape_readOperand : Int32 → zz_S → Option (zz_S)) (a1 : Int32) (s : zz_S) : Option (zz_S) :=
  (f_Tape_peek s).bind fun q1 =>
  (f_Tape_placeIn 0 q1).bind fun q2 =>
  (f_Tape_peek s).bind fun q3 =>
  if (f_Tape_isDigit q3) = 0 then
    if q2 < 0 then
      if a1 < (6 : Int32) then
        (f_Tape_takes (40 : Int32) s).bind fun q7 =>
        if q7.1 = 0 then
          (f_Tape_takes (33 : Int32) q7.2).bind fun q9 =>
          if q9.1 = 0 then
            (f_Tape_takes (45 : Int32) q9.2).bind fun q11 =>
            if q11.1 = 0 then
              some (f_Tape_fail q11.2)
            else
              (R_Tape_readOperand (a1 + (1 : Int32)) q11.2).bind fun q13 =>
              (f_Text_add (-126 : Int32) q13).bind fun q14 =>
              some q14
          else
            (R_Tape_readOperand (a1 + (1 : Int32)) q9.2).bind fun q15 =>
            (f_Text_add (-33 : Int32) q15).bind fun q16 =>
            some q16
        else
          (R_Tape_readLevel (0 : Int32) (a1 + (1 : Int32)) q7.2).bind fun q17 =>
          (f_Tape_takes (41 : Int32) q17).bind fun q18 =>
          if q18.1 = 0 then
            some (f_Tape_fail q18.2)
          else
            some q18.2
      else
        some (f_Tape_fail s)
    else
      (f_Text_add ((20000 : Int32) + q2) (zz_w s 44 3 ((s.1 44 3) + (1 : Int32)))).bind fun q20 =>
      some q20
  else
    (f_Tape_readNumber s).bind fun q21 =>
    some q21
def f_Tape_readLevel_J76 (R_Tape_readLevel : Int32 → Int32 → zz_S → Option (zz_S)) (R_Tape_readOperand : Int32 → zz_S → Option (zz_S)) (K31 : Int32 → Int32 → Int32 → Int32 → zz_S → Option (zz_S)) (v1 : Int32) (v2 : Int32) (v4 : Int32) (t0 : Int32) (s : zz_S) : Option (zz_S) :=
  K31 v1 v2 t0 (v4 + (1 : Int32)) s
def f_Tape_readLevel_L31 (R_Tape_readLevel : Int32 → Int32 → zz_S → Option (zz_S)) (R_Tape_readOperand : Int32 → zz_S → Option (zz_S)) : Nat → Int32 → Int32 → Int32 → Int32 → zz_S → Option (zz_S)
  | 0, _, _, _, _, _ => none
  | n + 1, v1, v2, v3, v4, s =>
  if (120 : Int32) ≤ v4 then
    some s
  else
    if v3 = 0 then
      some s
    else
      (R_Tape_readLevel (v1 + (1 : Int32)) v2 s).bind fun q6 =>
      (f_Text_add (-v3) q6).bind fun q7 =>
      if v1 = (2 : Int32) then
        f_Tape_readLevel_J76 R_Tape_readLevel R_Tape_readOperand (f_Tape_readLevel_L31 R_Tape_readLevel R_Tape_readOperand n) v1 v2 v4 (0 : Int32) q7
      else
        (f_Tape_takesOneOf (f_Tape_signsOf v1) q7).bind fun q9 =>
        f_Tape_readLevel_J76 R_Tape_readLevel R_Tape_readOperand (f_Tape_readLevel_L31 R_Tape_readLevel R_Tape_readOperand n) v1 v2 v4 q9.1 q9.2
def f_Tape_readLevel (R_Tape_readLevel : Int32 → Int32 → zz_S → Option (zz_S)) (R_Tape_readOperand : Int32 → zz_S → Option (zz_S)) (a1 : Int32) (a2 : Int32) (s : zz_S) : Option (zz_S) :=
  if a1 < (5 : Int32) then
    (R_Tape_readLevel (a1 + (1 : Int32)) a2 s).bind fun q2 =>
    (f_Tape_takesOneOf (f_Tape_signsOf a1) q2).bind fun q3 =>
    f_Tape_readLevel_L31 R_Tape_readLevel R_Tape_readOperand zF a1 a2 q3.1 (0 : Int32) q3.2
  else
    (R_Tape_readOperand a2 s).bind fun q10 =>
    some q10
def f_grp_Tape_readLevel : Nat → (Int32 → Int32 → zz_S → Option (zz_S)) × (Int32 → zz_S → Option (zz_S))
  | 0 => (fun _ _ _ => none, fun _ _ => none)
  | n + 1 => (f_Tape_readLevel (f_grp_Tape_readLevel n).1 (f_grp_Tape_readLevel n).2, f_Tape_readOperand (f_grp_Tape_readLevel n).1 (f_grp_Tape_readLevel n).2)
def g_Tape_readLevel (n : Nat) : Int32 → Int32 → zz_S → Option (zz_S) := (f_grp_Tape_readLevel n).1
def g_Tape_readOperand (n : Nat) : Int32 → zz_S → Option (zz_S) := (f_grp_Tape_readLevel n).2
def f_Text_skipToEnd (a1 : Int32) (s : zz_S) : Option (zz_S) :=
  if a1 < 0 then
    some s
  else
    if (s.1 45 0) ≤ a1 then
      some s
    else
      if zz_in a1 121 = true then
      some (zz_w s 46 (a1.toNatClampNeg) ((10000 : Int32) + (s.1 45 0)))
      else none
def f_Tape_readLine (s : zz_S) : Option (zz_S) :=
  (g_Tape_readLevel zR (0 : Int32) (0 : Int32) s).bind fun q1 =>
  (f_Tape_takes (63 : Int32) q1).bind fun q2 =>
  if q2.1 = 0 then
    (f_Text_add (-59 : Int32) q2.2).bind fun q4 =>
    some q4
  else
    (f_Text_add (10000 : Int32) q2.2).bind fun q5 =>
    (g_Tape_readLevel zR (0 : Int32) (0 : Int32) q5).bind fun q6 =>
    (f_Text_add (-59 : Int32) q6).bind fun q7 =>
    (f_Text_skipToEnd (q2.2.1 45 0) q7).bind fun q8 =>
    some q8
def f_Tape_readAll_J64 (s : zz_S) : Option (Int32 × zz_S) :=
  some ((s.1 44 4), (zz_w s 44 0 (0 : Int32)))
def f_Tape_readAll_J49 (s : zz_S) : Option (Int32 × zz_S) :=
  if (s.1 44 0) ≤ (s.1 44 3) then
    f_Tape_readAll_J64 s
  else
    f_Tape_readAll_J64 (f_Tape_fail s)
def f_Tape_readAll_L24 : Nat → Int32 → zz_S → Option (Int32 × zz_S)
  | 0, _, _ => none
  | n + 1, v1, s =>
  if (120 : Int32) ≤ v1 then
    f_Tape_readAll_J49 s
  else
    (f_Tape_takes (59 : Int32) s).bind fun q4 =>
    if q4.1 = 0 then
      f_Tape_readAll_J49 q4.2
    else
      (f_Tape_readLine q4.2).bind fun q6 =>
      f_Tape_readAll_L24 n (v1 + (1 : Int32)) q6
def f_Tape_readAll (s : zz_S) : Option (Int32 × zz_S) :=
  (f_Tape_readLine (zz_w (zz_w (zz_w s 44 3 (0 : Int32)) 44 4 (-1 : Int32)) 45 0 (0 : Int32))).bind fun q1 =>
  f_Tape_readAll_L24 zF (0 : Int32) q1
def f_Text_become (a0 : Nat) (s : zz_S) : Option (zz_S) :=
  some (zz_w (zz_copyiS s 46 (a0 + 1) (0 : Int32) (0 : Int32) (121 : Int32)) a0 0 ((zz_copyiS s 46 (a0 + 1) (0 : Int32) (0 : Int32) (121 : Int32)).1 45 0))
def f_Turns_add_J81 (v4 : Int32) (s : zz_S) : Option (Int32 × zz_S) :=
  if zz_in v4 60 = true then
  some ((((s.1 10 0) + (1 : Int32)) - (1 : Int32)), (zz_w (zz_w s 14 (v4.toNatClampNeg) (s.1 10 0)) 10 0 ((s.1 10 0) + (1 : Int32))))
  else none
def f_Turns_add_L36 : Nat → Int32 → Int32 → zz_S → Option (Int32 × zz_S)
  | 0, _, _, _ => none
  | n + 1, v1, v4, s =>
  if v4 ≤ 0 then
    f_Turns_add_J81 v4 s
  else
    if zz_in (v4 - (1 : Int32)) 60 = true then
    if zz_in (s.1 14 ((v4 - (1 : Int32)).toNatClampNeg)) 60 = true then
    if (s.1 11 ((s.1 14 ((v4 - (1 : Int32)).toNatClampNeg)).toNatClampNeg)) ≤ v1 then
      f_Turns_add_J81 v4 s
    else
      if zz_in v4 60 = true then
      f_Turns_add_L36 n v1 (v4 + (-1 : Int32)) (zz_w s 14 (v4.toNatClampNeg) (s.1 14 ((v4 - (1 : Int32)).toNatClampNeg)))
      else none
    else none
    else none
def f_Turns_add (a1 : Int32) (a2 : Int32) (a3 : Int32) (s : zz_S) : Option (Int32 × zz_S) :=
  if zz_in (s.1 10 0) 60 = true then
  f_Turns_add_L36 zF a1 (s.1 10 0) (zz_w (zz_w (zz_w s 11 ((s.1 10 0).toNatClampNeg) a1) 12 ((s.1 10 0).toNatClampNeg) a2) 13 ((s.1 10 0).toNatClampNeg) a3)
  else none
def f_Turns_has (a1 : Int32) (s : zz_S) : Int32 :=
  if a1 < 0 then
    (0 : Int32)
  else
    if (s.1 10 0) ≤ a1 then
      (0 : Int32)
    else
      (1 : Int32)
def f_B_isMinute (a0 : Int32) : Int32 :=
  if a0 < 0 then
    (0 : Int32)
  else
    if (479 : Int32) < a0 then
      (0 : Int32)
    else
      (1 : Int32)
def f_Turns_mayBe (a0 : Int32) (a1 : Int32) (a2 : Int32) : Int32 :=
  if (f_B_isMinute a0) = 0 then
    (0 : Int32)
  else
    if a1 < 0 then
      (0 : Int32)
    else
      if (6 : Int32) ≤ a1 then
        (0 : Int32)
      else
        if a2 < (-20 : Int32) then
          (0 : Int32)
        else
          if (20 : Int32) < a2 then
            (0 : Int32)
          else
            if a2 = 0 then
              (0 : Int32)
            else
              (1 : Int32)
def f_Turns_ofTurn (a1 : Int32) (a2 : Int32) (s : zz_S) : Option (Int32) :=
  if a2 = (0 : Int32) then
    if zz_in a1 60 = true then
    some (s.1 11 (a1.toNatClampNeg))
    else none
  else
  if a2 = (1 : Int32) then
    if zz_in a1 60 = true then
    some (s.1 12 (a1.toNatClampNeg))
    else none
  else
  if zz_in a1 60 = true then
  some (s.1 13 (a1.toNatClampNeg))
  else none
def f_B_orderAsDigits_L4 (s : zz_S) : Nat → Int32 → Int32 → Int32 → Option (Int32)
  | 0, _, _, _ => none
  | n + 1, v1, v2, v3 =>
  if v1 ≤ v3 then
    some v2
  else
    if zz_in v3 6 = true then
    f_B_orderAsDigits_L4 s n v1 (((v2 * (10 : Int32)) + (s.1 53 (v3.toNatClampNeg))) + (1 : Int32)) (v3 + (1 : Int32))
    else none
def f_B_orderAsDigits (a1 : Int32) (s : zz_S) : Option (Int32) :=
  f_B_orderAsDigits_L4 s zF a1 (0 : Int32) (0 : Int32)
def f_B_swapInOrder (a1 : Int32) (a2 : Int32) (s : zz_S) : Option (zz_S) :=
  if zz_in a1 6 = true then
  if zz_in a2 6 = true then
  some (zz_w (zz_w s 53 (a1.toNatClampNeg) (s.1 53 (a2.toNatClampNeg))) 53 (a2.toNatClampNeg) (s.1 53 (a1.toNatClampNeg)))
  else none
  else none
def f_B_goToNextOrder_L83 : Nat → Int32 → Int32 → zz_S → Option (Int32 × zz_S)
  | 0, _, _, _ => none
  | n + 1, v4, v5, s =>
  if v5 ≤ v4 then
    some ((1 : Int32), s)
  else
    (f_B_swapInOrder v4 v5 s).bind fun q6 =>
    f_B_goToNextOrder_L83 n (v4 + (1 : Int32)) (v5 + (-1 : Int32)) q6
def f_B_goToNextOrder_J67 (v1 : Int32) (v2 : Int32) (v3 : Int32) (s : zz_S) : Option (Int32 × zz_S) :=
  (f_B_swapInOrder v2 v3 s).bind fun q4 =>
  f_B_goToNextOrder_L83 zF (v2 + (1 : Int32)) (v1 - (1 : Int32)) q4
def f_B_goToNextOrder_L41 : Nat → Int32 → Int32 → Int32 → zz_S → Option (Int32 × zz_S)
  | 0, _, _, _, _ => none
  | n + 1, v1, v2, v3, s =>
  if v3 ≤ v2 then
    f_B_goToNextOrder_J67 v1 v2 v3 s
  else
    if zz_in v3 6 = true then
    if zz_in v2 6 = true then
    if (s.1 53 (v2.toNatClampNeg)) ≤ (s.1 53 (v3.toNatClampNeg)) then
      f_B_goToNextOrder_J67 v1 v2 v3 s
    else
      f_B_goToNextOrder_L41 n v1 v2 (v3 + (-1 : Int32)) s
    else none
    else none
def f_B_goToNextOrder_J31 (v1 : Int32) (v2 : Int32) (s : zz_S) : Option (Int32 × zz_S) :=
  if 0 ≤ v2 then
    f_B_goToNextOrder_L41 zF v1 v2 (v1 - (1 : Int32)) s
  else
    some ((0 : Int32), s)
def f_B_goToNextOrder_L4 : Nat → Int32 → Int32 → zz_S → Option (Int32 × zz_S)
  | 0, _, _, _ => none
  | n + 1, v1, v2, s =>
  if v2 < 0 then
    f_B_goToNextOrder_J31 v1 v2 s
  else
    if zz_in v2 6 = true then
    if zz_in (v2 + (1 : Int32)) 6 = true then
    if (s.1 53 (v2.toNatClampNeg)) ≤ (s.1 53 ((v2 + (1 : Int32)).toNatClampNeg)) then
      f_B_goToNextOrder_J31 v1 v2 s
    else
      f_B_goToNextOrder_L4 n v1 (v2 + (-1 : Int32)) s
    else none
    else none
def f_B_goToNextOrder (a1 : Int32) (s : zz_S) : Option (Int32 × zz_S) :=
  f_B_goToNextOrder_L4 zF a1 (a1 - (2 : Int32)) s
def f_B_across_J153 (v1 : Int32) (v3 : Int32) (v4 : Int32) (s : zz_S) : Option (Int32 × zz_S) :=
  if v1 = 0 then
    some (v3, s)
  else
    some (v4, s)
def f_B_across_J140 (K57 : Int32 → Int32 → Int32 → Int32 → Int32 → Int32 → zz_S → Option (Int32 × zz_S)) (v1 : Int32) (v2 : Int32) (v3 : Int32) (v4 : Int32) (v6 : Int32) (s : zz_S) : Option (Int32 × zz_S) :=
  (f_B_goToNextOrder v2 s).bind fun q13 =>
  K57 v1 v2 v3 v4 q13.1 (v6 + (1 : Int32)) q13.2
def f_B_across_L57 : Nat → Int32 → Int32 → Int32 → Int32 → Int32 → Int32 → zz_S → Option (Int32 × zz_S)
  | 0, _, _, _, _, _, _, _ => none
  | n + 1, v1, v2, v3, v4, v5, v6, s =>
  if (720 : Int32) ≤ v6 then
    f_B_across_J153 v1 v3 v4 s
  else
    if v5 = 0 then
      f_B_across_J153 v1 v3 v4 s
    else
      (f_Bed_laySideBySide s).bind fun q8 =>
      (f_Night_begin (q8.1 0 12) 54 q8).bind fun q9 =>
      (f_Night_play (479 : Int32) q9).bind fun q10 =>
      (f_Tally_leastEasy v2 q10).bind fun q11 =>
      if q11 ≤ v4 then
        f_B_across_J140 (f_B_across_L57 n) v1 v2 v3 v4 v6 q10
      else
        (f_B_orderAsDigits v2 q10).bind fun q14 =>
        f_B_across_J140 (f_B_across_L57 n) v1 v2 q14 q11 v6 q10
def f_B_across_L28 : Nat → Int32 → Int32 → Int32 → zz_S → Option (Int32 × zz_S)
  | 0, _, _, _, _ => none
  | n + 1, v1, v2, v3, s =>
  if v2 ≤ v3 then
    f_B_across_L57 zF v1 v2 (0 : Int32) (-1 : Int32) (1 : Int32) (0 : Int32) s
  else
    if zz_in v3 6 = true then
    f_B_across_L28 n v1 v2 (v3 + (1 : Int32)) (zz_w s 53 (v3.toNatClampNeg) v3)
    else none
def f_B_across (a1 : Int32) (s : zz_S) : Option (Int32 × zz_S) :=
  if a1 < 0 then
    some ((-1 : Int32), s)
  else
    if a1 ≤ (1 : Int32) then
      if (s.1 1 1) = 0 then
        some ((-5 : Int32), s)
      else
        f_B_across_L28 zF a1 (s.1 1 1) (0 : Int32) s
    else
      some ((-1 : Int32), s)
def f_B_act (a1 : Int32) (a2 : Int32) (a3 : Int32) (s : zz_S) : Option (Int32 × zz_S) :=
  (f_Bodies_runFirst a1 a2 a3 s).bind fun q1 =>
  some (q1.1, q1.2)
def f_B_isKind (a0 : Int32) : Int32 :=
  if a0 < 0 then
    (0 : Int32)
  else
    if (8 : Int32) ≤ a0 then
      (0 : Int32)
    else
      (1 : Int32)
def f_B_body (a1 : Int32) (s : zz_S) : Option (Int32 × zz_S) :=
  if (f_B_isKind a1) = 0 then
    some ((-1 : Int32), s)
  else
    if (s.1 49 0) < (50 : Int32) then
      (f_Bodies_add a1 s).bind fun q3 =>
      some (q3.1, q3.2)
    else
      some ((-3 : Int32), s)
def f_B_playTo (a1 : Int32) (s : zz_S) : Option (zz_S) :=
  (f_Night_begin (s.1 0 12) 2 s).bind fun q1 =>
  (f_Night_play a1 q1).bind fun q2 =>
  some q2
def f_B_broad_J90 (v1 : Int32) (v3 : Int32) (v4 : Int32) (s : zz_S) : Option (Int32 × zz_S) :=
  if zz_in v1 3 = true then
  some (v4, (zz_w s 7 (v1.toNatClampNeg) v3))
  else none
def f_B_broad_L37 : Nat → Int32 → Int32 → Int32 → Int32 → Int32 → zz_S → Option (Int32 × zz_S)
  | 0, _, _, _, _, _, _ => none
  | n + 1, v1, v2, v3, v4, v5, s =>
  if (80 : Int32) < v5 then
    f_B_broad_J90 v1 v3 v4 s
  else
    if v4 = (-2 : Int32) then
      if zz_in v1 3 = true then
      (f_B_playTo v2 (zz_w s 7 (v1.toNatClampNeg) v5)).bind fun q8 =>
      (f_Lie_isNoneBare q8).bind fun q9 =>
      if q9 = 0 then
        f_B_broad_L37 n v1 v2 v3 v4 (v5 + (1 : Int32)) q8
      else
        f_B_broad_L37 n v1 v2 v3 v5 (v5 + (1 : Int32)) q8
      else none
    else
      f_B_broad_J90 v1 v3 v4 s
def f_B_broad (a1 : Int32) (a2 : Int32) (s : zz_S) : Option (Int32 × zz_S) :=
  if (f_Bed_hasCover a1 s) = 0 then
    some ((-1 : Int32), s)
  else
    if (f_B_isMinute a2) = 0 then
      some ((-1 : Int32), s)
    else
      if zz_in a1 3 = true then
      f_B_broad_L37 zF a1 a2 (s.1 7 (a1.toNatClampNeg)) (-2 : Int32) (5 : Int32) s
      else none
def f_B_clear (s : zz_S) : Option (Int32 × zz_S) :=
  some ((s.1 10 0), (zz_w s 10 0 (0 : Int32)))
def f_B_count (a1 : Int32) (s : zz_S) : Int32 :=
  if a1 = (0 : Int32) then
    (s.1 1 1)
  else
  if a1 = (1 : Int32) then
    (s.1 1 2)
  else
  if a1 = (2 : Int32) then
    (s.1 10 0)
  else
  if a1 = (3 : Int32) then
    (s.1 0 11)
  else
  if a1 = (4 : Int32) then
    (s.1 44 0)
  else
  if a1 = (5 : Int32) then
    (s.1 39 0)
  else
  if a1 = (6 : Int32) then
    (s.1 49 0)
  else
  if a1 = (7 : Int32) then
    (s.1 49 1)
  else
  (-1 : Int32)
def f_B_cover (a1 : Int32) (a2 : Int32) (a3 : Int32) (s : zz_S) : Option (Int32 × zz_S) :=
  if a1 < (-40 : Int32) then
    some ((-1 : Int32), s)
  else
    if (60 : Int32) < a1 then
      some ((-1 : Int32), s)
    else
      if a2 < 0 then
        some ((-1 : Int32), s)
      else
        if a3 < 0 then
          some ((-1 : Int32), s)
        else
          if a3 ≤ (9 : Int32) then
            if (a2 / (100 : Int32)) < (5 : Int32) then
              some ((-1 : Int32), s)
            else
              if (80 : Int32) < (a2 / (100 : Int32)) then
                some ((-1 : Int32), s)
              else
                if (a2 % (100 : Int32)) ≤ (50 : Int32) then
                  if (s.1 1 2) < (3 : Int32) then
                    (f_Bed_addCover a1 (a2 / (100 : Int32)) (a2 % (100 : Int32)) a3 s).bind fun q10 =>
                    some (q10.1, q10.2)
                  else
                    some ((-3 : Int32), s)
                else
                  some ((-1 : Int32), s)
          else
            some ((-1 : Int32), s)
def f_B_drawn_J184 (K95 : Int32 → Int32 → Int32 → Int32 → Int32 → Int32 → Int32 → zz_S → Option (Int32 × zz_S)) (v3 : Int32) (v4 : Int32) (v5 : Int32) (v6 : Int32) (v9 : Int32) (v10 : Int32) (t0 : Int32) (t1 : Int32) (s : zz_S) : Option (Int32 × zz_S) :=
  K95 v3 v4 v5 v6 (t0 + t1) v9 (v10 + (1 : Int32)) s
def f_B_drawn_L95 : Nat → Int32 → Int32 → Int32 → Int32 → Int32 → Int32 → Int32 → zz_S → Option (Int32 × zz_S)
  | 0, _, _, _, _, _, _, _, _ => none
  | n + 1, v3, v4, v5, v6, v8, v9, v10, s =>
  if v5 ≤ v10 then
    if v5 = 0 then none else
    some ((v8 / v5), s)
  else
    (f_Night_begin (s.1 0 12) 2 s).bind fun q11 =>
    (f_Night_play (479 : Int32) (f_Night_drawTurns v9 v6 q11)).bind fun q12 =>
    if v4 = 0 then
      if zz_in v3 6 = true then
      f_B_drawn_J184 (f_B_drawn_L95 n) v3 v4 v5 v6 (q12.1 20 15) v10 v8 (q12.1 22 (v3.toNatClampNeg)) q12
      else none
    else
      if zz_in v3 3 = true then
      f_B_drawn_J184 (f_B_drawn_L95 n) v3 v4 v5 v6 (q12.1 20 15) v10 v8 (q12.1 36 (v3.toNatClampNeg)) q12
      else none
def f_B_drawn_J76 (v1 : Int32) (v3 : Int32) (v4 : Int32) (v5 : Int32) (v6 : Int32) (t0 : Int32) (s : zz_S) : Option (Int32 × zz_S) :=
  if t0 = 0 then
    some ((-2000000000 : Int32), s)
  else
    f_B_drawn_L95 zF v3 v4 v5 v6 (0 : Int32) v1 (0 : Int32) s
def f_B_drawn (a1 : Int32) (a2 : Int32) (a3 : Int32) (a4 : Int32) (s : zz_S) : Option (Int32 × zz_S) :=
  if a2 < 0 then
    some ((-2000000000 : Int32), s)
  else
    if (a2 / (1000 : Int32)) < (1 : Int32) then
      some ((-2000000000 : Int32), s)
    else
      if (20 : Int32) < (a2 / (1000 : Int32)) then
        some ((-2000000000 : Int32), s)
      else
        if (100 : Int32) < (a2 % (1000 : Int32)) then
          some ((-2000000000 : Int32), s)
        else
          if a4 < 0 then
            some ((-2000000000 : Int32), s)
          else
            if a4 ≤ (1 : Int32) then
              if a4 = 0 then
                f_B_drawn_J76 a1 a3 a4 (a2 / (1000 : Int32)) (a2 % (1000 : Int32)) (f_Bed_hasSleeper a3 s) s
              else
                f_B_drawn_J76 a1 a3 a4 (a2 / (1000 : Int32)) (a2 % (1000 : Int32)) (f_Bed_hasCover a3 s) s
            else
              some ((-2000000000 : Int32), s)
def f_B_hasShelf (a0 : Int32) : Int32 :=
  if a0 < 0 then
    (0 : Int32)
  else
    if (6 : Int32) ≤ a0 then
      (0 : Int32)
    else
      (1 : Int32)
def f_B_refusalOfPlace_J48 (s : zz_S) : Option (Int32) :=
  some (-13 : Int32)
def f_B_refusalOfPlace (a1 : Int32) (a2 : Int32) (s : zz_S) : Option (Int32) :=
  if (f_B_hasShelf a1) = 0 then
    some (-1 : Int32)
  else
    if zz_in a1 6 = true then
    if (f_Shelf_isEmpty (zr_52 a1) s) = 0 then
      if (f_Shelf_isRow (zr_52 a1) s) = 0 then
        some (-12 : Int32)
      else
        if a2 < 0 then
          f_B_refusalOfPlace_J48 s
        else
          if a2 < (s.1 (zr_52 a1) 3) then
            some (0 : Int32)
          else
            f_B_refusalOfPlace_J48 s
    else
      some (-11 : Int32)
    else none
def f_B_element (a1 : Int32) (a2 : Int32) (s : zz_S) : Option (Int64) :=
  (f_B_refusalOfPlace a1 a2 s).bind fun q1 =>
  if q1 = 0 then
    if zz_in a1 6 = true then
    if zz_in a2 60 = true then
    some (s.2 ((zr_52 a1) + 1) (a2.toNatClampNeg))
    else none
    else none
  else
    some (-9223372036854775808 : Int64)
def f_B_feed (a1 : Int32) (s : zz_S) : Option (Int32 × zz_S) :=
  if a1 < 0 then
    some ((-1 : Int32), s)
  else
    if a1 ≤ (255 : Int32) then
      if (s.1 44 0) < (120 : Int32) then
        (f_Tape_add a1 s).bind fun q4 =>
        some ((q4.1 44 0), q4)
      else
        some ((-3 : Int32), s)
    else
      some ((-1 : Int32), s)
def f_B_isFilmOf_L17 : Nat → Nat → Int32 → zz_S → Option (Int32 × zz_S)
  | 0, _, _, _ => none
  | n + 1, v2, v3, s =>
  if (9 : Int32) ≤ v3 then
    some ((1 : Int32), s)
  else
    (f_Night_play (zz_min ((60 : Int32) * v3) (479 : Int32)) s).bind fun q3 =>
    if zz_in v3 60 = true then
    if (lg_cmp (q3.1 36 0).toInt64 (q3.2 (v2 + 1) (v3.toNatClampNeg))) = 0 then
      f_B_isFilmOf_L17 n v2 (v3 + (1 : Int32)) q3
    else
      some ((0 : Int32), q3)
    else none
def f_B_isFilmOf (a1 : Int32) (a2 : Nat) (s : zz_S) : Option (Int32 × zz_S) :=
  (f_Night_begin a1 2 s).bind fun q1 =>
  f_B_isFilmOf_L17 zF a2 (0 : Int32) q1
def f_B_film_L67 : Nat → Nat → Int32 → Int32 → zz_S → Option (Int32 × zz_S)
  | 0, _, _, _, _ => none
  | n + 1, v2, v3, v4, s =>
  if (s.1 0 11) ≤ v4 then
    some (v3, s)
  else
    (f_B_isFilmOf v4 v2 s).bind fun q8 =>
    if q8.1 = 0 then
      f_B_film_L67 n v2 v3 (v4 + (1 : Int32)) q8.2
    else
      f_B_film_L67 n v2 (v3 ||| ((1 : Int32) <<< ((v4 + (1 : Int32)) &&& 31))) (v4 + (1 : Int32)) q8.2
def f_B_film (a1 : Int32) (s : zz_S) : Option (Int32 × zz_S) :=
  if (f_B_hasShelf a1) = 0 then
    some ((-1 : Int32), s)
  else
    if zz_in a1 6 = true then
    if (f_Shelf_isEmpty (zr_52 a1) s) = 0 then
      if (f_Shelf_isRowOf (zr_52 a1) (1 : Int32) s) = 0 then
        some ((-12 : Int32), s)
      else
        if (9 : Int32) ≤ (s.1 (zr_52 a1) 3) then
          if (s.1 1 2) = 0 then
            some ((-5 : Int32), s)
          else
            f_B_film_L67 zF (zr_52 a1) (0 : Int32) (-1 : Int32) s
        else
          some ((-13 : Int32), s)
    else
      some ((-11 : Int32), s)
    else none
def f_B_force (a1 : Int32) (s : zz_S) : Option (Int32 × zz_S) :=
  if a1 < (-1 : Int32) then
    some ((-2000000000 : Int32), s)
  else
    if a1 < (s.1 0 11) then
      some ((s.1 0 12), (zz_w s 0 12 a1))
    else
      some ((-2000000000 : Int32), s)
def f_B_keep (a1 : Int32) (a2 : Int32) (s : zz_S) : Option (Int32 × zz_S) :=
  if (f_B_hasShelf a1) = 0 then
    some ((-1 : Int32), s)
  else
    if a2 < (-1 : Int32) then
      some ((-1 : Int32), s)
    else
      if a2 < (s.1 49 0) then
        if a2 = (-1 : Int32) then
          if zz_in a1 6 = true then
          some ((1 : Int32), (f_Shelf_holdNothing (zr_52 a1) s))
          else none
        else
          if zz_in a1 6 = true then
          some ((1 : Int32), (f_Shelf_holdBody (zr_52 a1) a2 s))
          else none
      else
        some ((-1 : Int32), s)
def f_B_law (s : zz_S) : Option (Int32 × zz_S) :=
  if (s.1 0 11) < (4 : Int32) then
    (f_Tape_readAll s).bind fun q2 =>
    if q2.1 < 0 then
      if zz_in (q2.2.1 0 11) 4 = true then
      (f_Text_become (zr_19 (q2.2.1 0 11)) q2.2).bind fun q5 =>
      some ((((q5.1 0 11) + (1 : Int32)) - (1 : Int32)), (zz_w q5 0 11 ((q5.1 0 11) + (1 : Int32))))
      else none
    else
      some (((-100 : Int32) - q2.1), q2.2)
  else
    some ((-3 : Int32), s)
def f_B_leastOf (a0 : Int32) : Int32 :=
  if a0 = (2 : Int32) then
    (5 : Int32)
  else
    (0 : Int32)
def f_B_lies (a1 : Int32) (a2 : Int32) (s : zz_S) : Option (Int32 × zz_S) :=
  if (f_Bed_hasCover a1 s) = 0 then
    some ((-2000000000 : Int32), s)
  else
    if (f_B_isMinute a2) = 0 then
      some ((-2000000000 : Int32), s)
    else
      (f_B_playTo a2 s).bind fun q3 =>
      if zz_in a1 3 = true then
      some ((q3.1 36 (a1.toNatClampNeg)), q3)
      else none
def f_B_mostOf (a0 : Int32) : Int32 :=
  if a0 = (3 : Int32) then
    (9 : Int32)
  else
    if a0 = (2 : Int32) then
      (80 : Int32)
    else
      (99 : Int32)
def f_B_mend_J35 (v1 : Int32) (v2 : Int32) (v3 : Int32) (t0 : Int32) (s : zz_S) : Option (Int32 × zz_S) :=
  if t0 = 0 then
    some ((-1 : Int32), s)
  else
    if v3 < (f_B_leastOf v2) then
      some ((-1 : Int32), s)
    else
      if v3 ≤ (f_B_mostOf v2) then
        if zz_in v1 (zz_n (f_Bed_mendable v2)) = true then
        if v3 = (s.1 (f_Bed_mendable v2) (v1.toNatClampNeg)) then
          some ((s.1 (f_Bed_mendable v2) (v1.toNatClampNeg)), s)
        else
          (f_Changes_add v1 v2 (s.1 (f_Bed_mendable v2) (v1.toNatClampNeg)) v3 (zz_w s (f_Bed_mendable v2) (v1.toNatClampNeg) v3)).bind fun q9 =>
          some ((s.1 (f_Bed_mendable v2) (v1.toNatClampNeg)), q9)
        else none
      else
        some ((-1 : Int32), s)
def f_B_mend (a1 : Int32) (a2 : Int32) (a3 : Int32) (s : zz_S) : Option (Int32 × zz_S) :=
  if a2 < 0 then
    some ((-1 : Int32), s)
  else
    if a2 ≤ (3 : Int32) then
      if (2 : Int32) ≤ a2 then
        f_B_mend_J35 a1 a2 a3 (f_Bed_hasCover a1 s) s
      else
        f_B_mend_J35 a1 a2 a3 (f_Bed_hasSleeper a1 s) s
    else
      some ((-1 : Int32), s)
def f_B_minutes (a1 : Int32) (a2 : Int32) (s : zz_S) : Option (Int32 × zz_S) :=
  if (f_Bed_hasSleeper a1 s) = 0 then
    some ((-1 : Int32), s)
  else
    if a2 < 0 then
      some ((-1 : Int32), s)
    else
      if a2 ≤ (2 : Int32) then
        (f_B_playTo (479 : Int32) s).bind fun q4 =>
        if a2 = (0 : Int32) then
          if zz_in a1 6 = true then
          some ((q4.1 22 (a1.toNatClampNeg)), q4)
          else none
        else
        if a2 = (1 : Int32) then
          if zz_in a1 6 = true then
          some ((q4.1 23 (a1.toNatClampNeg)), q4)
          else none
        else
        if zz_in a1 6 = true then
        some ((q4.1 24 (a1.toNatClampNeg)), q4)
        else none
      else
        some ((-1 : Int32), s)
def f_B_morning_J136 (K56 : Int32 → Int32 → Int32 → Int32 → Int32 → Int32 → zz_S → Option (Int32 × zz_S)) (v1 : Int32) (v2 : Int32) (v3 : Int32) (v6 : Int32) (v7 : Int32) (s : zz_S) : Option (Int32 × zz_S) :=
  K56 v1 v2 v3 v6 v7 (v6 + (1 : Int32)) s
def f_B_morning_L56 : Nat → Int32 → Int32 → Int32 → Int32 → Int32 → Int32 → zz_S → Option (Int32 × zz_S)
  | 0, _, _, _, _, _, _, _ => none
  | n + 1, v1, v2, v3, v4, v5, v6, s =>
  if (s.1 1 1) ≤ v6 then
    if v3 = 0 then
      some (v4, s)
    else
      some (v5, s)
  else
    (f_Night_begin (s.1 0 12) 2 s).bind fun q9 =>
    (f_Night_play (479 : Int32) (zz_w q9 20 14 v6)).bind fun q10 =>
    if zz_in v1 3 = true then
    if v6 = 0 then
      f_B_morning_J136 (f_B_morning_L56 n) v1 v2 v3 v6 (zz_abs ((q10.1 36 (v1.toNatClampNeg)) - v2)) q10
    else
      if v5 ≤ (zz_abs ((q10.1 36 (v1.toNatClampNeg)) - v2)) then
        f_B_morning_L56 n v1 v2 v3 v4 v5 (v6 + (1 : Int32)) q10
      else
        f_B_morning_J136 (f_B_morning_L56 n) v1 v2 v3 v6 (zz_abs ((q10.1 36 (v1.toNatClampNeg)) - v2)) q10
    else none
def f_B_morning (a1 : Int32) (a2 : Int32) (a3 : Int32) (s : zz_S) : Option (Int32 × zz_S) :=
  if (f_Bed_hasCover a1 s) = 0 then
    some ((-1 : Int32), s)
  else
    if a2 < (-99 : Int32) then
      some ((-1 : Int32), s)
    else
      if (99 : Int32) < a2 then
        some ((-1 : Int32), s)
      else
        if a3 < 0 then
          some ((-1 : Int32), s)
        else
          if a3 ≤ (1 : Int32) then
            if (s.1 1 1) = 0 then
              some ((-5 : Int32), s)
            else
              f_B_morning_L56 zF a1 a2 a3 (0 : Int32) (0 : Int32) (0 : Int32) s
          else
            some ((-1 : Int32), s)
def f_B_of_J76 (v1 : Int32) (v2 : Int32) (s : zz_S) : Option (Int32) :=
  if v2 < (20 : Int32) then
    some (-2000000000 : Int32)
  else
    if (22 : Int32) < v2 then
      some (-2000000000 : Int32)
    else
      if (f_Turns_has v1 s) = 0 then
        some (-2000000000 : Int32)
      else
        (f_Turns_ofTurn v1 (v2 - (20 : Int32)) s).bind fun q6 =>
        some q6
def f_B_of_J35 (v1 : Int32) (v2 : Int32) (s : zz_S) : Option (Int32) :=
  if v2 < (10 : Int32) then
    f_B_of_J76 v1 v2 s
  else
    if (13 : Int32) < v2 then
      f_B_of_J76 v1 v2 s
    else
      if (f_Bed_hasCover v1 s) = 0 then
        some (-2000000000 : Int32)
      else
        (f_Bed_ofCover v1 (v2 - (10 : Int32)) s).bind fun q9 =>
        some q9
def f_B_of (a1 : Int32) (a2 : Int32) (s : zz_S) : Option (Int32) :=
  if a2 < 0 then
    f_B_of_J35 a1 a2 s
  else
    if (3 : Int32) < a2 then
      f_B_of_J35 a1 a2 s
    else
      if (f_Bed_hasSleeper a1 s) = 0 then
        some (-2000000000 : Int32)
      else
        (f_Bed_ofSleeper a1 a2 s).bind fun q12 =>
        some q12
def f_B_put (a1 : Int32) (a2 : Int32) (a3 : Int64) (s : zz_S) : Option (Int32 × zz_S) :=
  (f_B_refusalOfPlace a1 a2 s).bind fun q1 =>
  if q1 = 0 then
    if zz_in a1 6 = true then
    (f_Shelf_set (zr_52 a1) a2 a3 s).bind fun q4 =>
    some ((1 : Int32), q4)
    else none
  else
    some (q1, s)
def f_B_redo (s : zz_S) : Option (Int32 × zz_S) :=
  if (s.1 39 0) = (s.1 39 1) then
    some ((-5 : Int32), s)
  else
    (f_Changes_doAgain s).bind fun q2 =>
    some (((q2.1 39 1) - (q2.1 39 0)), q2)
def f_B_room (s : zz_S) : Option (Int32 × zz_S) :=
  (f_Tape_readAll s).bind fun q1 =>
  if q1.1 < 0 then
    (f_Room_warmBy q1.2).bind fun q3 =>
    some ((1 : Int32), q3)
  else
    some (((-100 : Int32) - q1.1), q1.2)
def f_B_row (a1 : Int32) (a2 : Int32) (a3 : Int32) (s : zz_S) : Option (Int32 × zz_S) :=
  if (f_B_hasShelf a1) = 0 then
    some ((-1 : Int32), s)
  else
    if a2 < 0 then
      some ((-1 : Int32), s)
    else
      if (4 : Int32) < a2 then
        some ((-1 : Int32), s)
      else
        if a3 ≤ (60 : Int32) then
          if 0 ≤ a3 then
            if zz_in a1 6 = true then
            some ((1 : Int32), (f_Shelf_holdRow (zr_52 a1) a2 a3 s))
            else none
          else
            some ((-14 : Int32), s)
        else
          some ((-1 : Int32), s)
def f_B_shift (a1 : Int32) (a2 : Int32) (a3 : Int32) (a4 : Int32) (a5 : Int32) (s : zz_S) : Option (Int32 × zz_S) :=
  if (f_B_hasShelf a1) = 0 then
    some ((-1 : Int32), s)
  else
    if (f_B_hasShelf a3) = 0 then
      some ((-1 : Int32), s)
    else
      if zz_in a1 6 = true then
      if zz_in a3 6 = true then
      if (f_Shelf_isEmpty (zr_52 a1) s) = 0 then
        if (f_Shelf_isEmpty (zr_52 a3) s) = 0 then
          if (f_Shelf_isRow (zr_52 a1) s) = 0 then
            some ((-12 : Int32), s)
          else
            if (f_Shelf_isRowOf (zr_52 a3) (s.1 (zr_52 a1) 2) s) = 0 then
              some ((-12 : Int32), s)
            else
              if (f_Shelf_hasPlaces (zr_52 a1) a2 a5 s) = 0 then
                some ((-13 : Int32), s)
              else
                if (f_Shelf_hasPlaces (zr_52 a3) a4 a5 s) = 0 then
                  some ((-13 : Int32), s)
                else
                  if zz_cpk a2 a4 a5 60 60 = true then
                  some (a5, (zz_copylS s ((zr_52 a1) + 1) ((zr_52 a3) + 1) a2 a4 a5))
                  else none
        else
          some ((-11 : Int32), s)
      else
        some ((-11 : Int32), s)
      else none
      else none
def f_B_sleeper (a1 : Int32) (a2 : Int32) (s : zz_S) : Option (Int32 × zz_S) :=
  if a1 < 0 then
    some ((-1 : Int32), s)
  else
    if a2 < 0 then
      some ((-1 : Int32), s)
    else
      if a2 ≤ (9999 : Int32) then
        if (a1 % (100 : Int32)) < (4 : Int32) then
          some ((-1 : Int32), s)
        else
          if (20 : Int32) < (a1 % (100 : Int32)) then
            some ((-1 : Int32), s)
          else
            if (a1 / (100 : Int32)) ≤ ((s.1 1 0) - (a1 % (100 : Int32))) then
              if (s.1 1 1) < (6 : Int32) then
                (f_Bed_addSleeper (a1 / (100 : Int32)) (a1 % (100 : Int32)) (a2 / (100 : Int32)) (a2 % (100 : Int32)) s).bind fun q8 =>
                some (q8.1, q8.2)
              else
                some ((-3 : Int32), s)
            else
              some ((-1 : Int32), s)
      else
        some ((-1 : Int32), s)
def f_B_sleeps (a1 : Int32) (a2 : Int32) (a3 : Int32) (s : zz_S) : Option (Int32 × zz_S) :=
  if (f_Bed_hasSleeper a1 s) = 0 then
    some ((-2000000000 : Int32), s)
  else
    if (f_B_isMinute a2) = 0 then
      some ((-2000000000 : Int32), s)
    else
      if a3 < 0 then
        some ((-2000000000 : Int32), s)
      else
        if a3 ≤ (3 : Int32) then
          (f_B_playTo a2 s).bind fun q5 =>
          (f_Night_warmOf a1 a2 q5).bind fun q6 =>
          if a3 = (0 : Int32) then
            if zz_in a1 6 = true then
            some ((q5.1 33 (a1.toNatClampNeg)), q5)
            else none
          else
          if a3 = (1 : Int32) then
            if zz_in a1 6 = true then
            some ((q5.1 34 (a1.toNatClampNeg)), q5)
            else none
          else
          if a3 = (2 : Int32) then
            some (q6, q5)
          else
          (f_Bed_isEasy a1 q6 q5).bind fun q12 =>
          if q12 = 0 then
            some ((0 : Int32), q5)
          else
            some ((1 : Int32), q5)
        else
          some ((-2000000000 : Int32), s)
def f_B_taken (a1 : Int32) (a2 : Int32) (s : zz_S) : Option (Int32) :=
  if (f_B_hasShelf a1) = 0 then
    some (-1 : Int32)
  else
    if (f_B_isKind a2) = 0 then
      some (-1 : Int32)
    else
      if zz_in a1 6 = true then
      if (f_Shelf_isEmpty (zr_52 a1) s) = 0 then
        if (f_Shelf_isBody (zr_52 a1) s) = 0 then
          some (-12 : Int32)
        else
          if zz_in (s.1 (zr_52 a1) 1) 50 = true then
          (f_Bodies_isUnder (s.1 50 ((s.1 (zr_52 a1) 1).toNatClampNeg)) a2).bind fun q7 =>
          if q7 = 0 then
            some (-12 : Int32)
          else
            some (s.1 50 ((s.1 (zr_52 a1) 1).toNatClampNeg))
          else none
      else
        some (-11 : Int32)
      else none
def f_B_took (a1 : Int32) (s : zz_S) : Option (Int32 × zz_S) :=
  if a1 < 0 then
    some ((-2000000000 : Int32), s)
  else
    if (f_Bed_hasSleeper (a1 / (10 : Int32)) s) = 0 then
      some ((-2000000000 : Int32), s)
    else
      if (f_Bed_hasCover (a1 % (10 : Int32)) s) = 0 then
        some ((-2000000000 : Int32), s)
      else
        (f_B_playTo (479 : Int32) s).bind fun q4 =>
        if zz_in (((a1 / (10 : Int32)) * (3 : Int32)) + (a1 % (10 : Int32))) 18 = true then
        some ((q4.1 28 ((((a1 / (10 : Int32)) * (3 : Int32)) + (a1 % (10 : Int32))).toNatClampNeg)), q4)
        else none
def f_B_tossedFrom_L3 : Nat → Nat → Int32 → Int32 → Int32 → zz_S → Option (Int32 × zz_S)
  | 0, _, _, _, _, _ => none
  | n + 1, v1, v2, v3, v4, s =>
  if v3 ≤ v4 then
    some (v3, s)
  else
    if ((s.1 v1 3) - (3 : Int32)) < v2 then
      some (v4, s)
    else
      if (s.1 10 0) < (60 : Int32) then
        if zz_in v2 60 = true then
        if zz_in (v2 + (1 : Int32)) 60 = true then
        if zz_in (v2 + (2 : Int32)) 60 = true then
        if (f_Turns_mayBe (s.2 (v1 + 1) (v2.toNatClampNeg)).toInt32 (s.2 (v1 + 1) ((v2 + (1 : Int32)).toNatClampNeg)).toInt32 (s.2 (v1 + 1) ((v2 + (2 : Int32)).toNatClampNeg)).toInt32) = 0 then
          some (v4, s)
        else
          (f_Turns_add (s.2 (v1 + 1) (v2.toNatClampNeg)).toInt32 (s.2 (v1 + 1) ((v2 + (1 : Int32)).toNatClampNeg)).toInt32 (s.2 (v1 + 1) ((v2 + (2 : Int32)).toNatClampNeg)).toInt32 s).bind fun q8 =>
          f_B_tossedFrom_L3 n v1 (v2 + (3 : Int32)) v3 (v4 + (1 : Int32)) q8.2
        else none
        else none
        else none
      else
        some (v4, s)
def f_B_tossedFrom (a1 : Nat) (a2 : Int32) (a3 : Int32) (s : zz_S) : Option (Int32 × zz_S) :=
  f_B_tossedFrom_L3 zF a1 a2 a3 (0 : Int32) s
def f_B_tosses (a1 : Int32) (a2 : Int32) (a3 : Int32) (s : zz_S) : Option (Int32 × zz_S) :=
  if (f_B_hasShelf a1) = 0 then
    some ((-1 : Int32), s)
  else
    if a3 < (1 : Int32) then
      some ((-1 : Int32), s)
    else
      if a3 ≤ (20 : Int32) then
        if zz_in a1 6 = true then
        if (f_Shelf_isEmpty (zr_52 a1) s) = 0 then
          if (f_Shelf_isRowOf (zr_52 a1) (1 : Int32) s) = 0 then
            some ((-12 : Int32), s)
          else
            if 0 ≤ a2 then
              (f_B_tossedFrom (zr_52 a1) a2 a3 s).bind fun q8 =>
              some (q8.1, q8.2)
            else
              some ((0 : Int32), s)
        else
          some ((0 : Int32), s)
        else none
      else
        some ((-1 : Int32), s)
def f_B_trace (a1 : Int32) (s : zz_S) : Option (Int32) :=
  if a1 < 0 then
    some (-1 : Int32)
  else
    if (24 : Int32) ≤ a1 then
      some (-1 : Int32)
    else
      if a1 < (s.1 49 1) then
        if zz_in a1 24 = true then
        some (s.1 51 (a1.toNatClampNeg))
        else none
      else
        some (-1 : Int32)
def f_B_tucked_L41 : Nat → Int32 → Int32 → Int32 → Int32 → Int32 → Int32 → zz_S → Option (Int32 × zz_S)
  | 0, _, _, _, _, _, _, _ => none
  | n + 1, v1, v2, v3, v4, v5, v6, s =>
  if (9 : Int32) < v6 then
    if zz_in v1 3 = true then
    if v2 = 0 then
      some (v4, (zz_w s 9 (v1.toNatClampNeg) v3))
    else
      some (v5, (zz_w s 9 (v1.toNatClampNeg) v3))
    else none
  else
    if zz_in v1 3 = true then
    (f_B_playTo (479 : Int32) (zz_w s 9 (v1.toNatClampNeg) v6)).bind fun q9 =>
    (f_Tally_easyOfAll (q9.1 1 1) q9).bind fun q10 =>
    if q10 ≤ v5 then
      f_B_tucked_L41 n v1 v2 v3 v4 v5 (v6 + (1 : Int32)) q9
    else
      f_B_tucked_L41 n v1 v2 v3 v6 q10 (v6 + (1 : Int32)) q9
    else none
def f_B_tucked (a1 : Int32) (a2 : Int32) (s : zz_S) : Option (Int32 × zz_S) :=
  if (f_Bed_hasCover a1 s) = 0 then
    some ((-1 : Int32), s)
  else
    if a2 < 0 then
      some ((-1 : Int32), s)
    else
      if a2 ≤ (1 : Int32) then
        if zz_in a1 3 = true then
        f_B_tucked_L41 zF a1 a2 (s.1 9 (a1.toNatClampNeg)) (0 : Int32) (-1 : Int32) (0 : Int32) s
        else none
      else
        some ((-1 : Int32), s)
def f_B_turn (a1 : Int32) (a2 : Int32) (a3 : Int32) (s : zz_S) : Option (Int32 × zz_S) :=
  if (f_Turns_mayBe a1 a2 a3) = 0 then
    some ((-1 : Int32), s)
  else
    if (s.1 10 0) < (60 : Int32) then
      (f_Turns_add a1 a2 a3 s).bind fun q3 =>
      some (q3.1, q3.2)
    else
      some ((-3 : Int32), s)
def f_B_undo (s : zz_S) : Option (Int32 × zz_S) :=
  if (s.1 39 0) = 0 then
    some ((-5 : Int32), s)
  else
    (f_Changes_takeBack s).bind fun q2 =>
    some ((q2.1 39 0), q2)
def f_B_wakes (a1 : Int32) (a2 : Int32) (s : zz_S) : Option (Int32 × zz_S) :=
  if (f_Bed_hasSleeper a1 s) = 0 then
    some ((-2000000000 : Int32), s)
  else
    if a2 < 0 then
      some ((-2000000000 : Int32), s)
    else
      if a2 ≤ (1 : Int32) then
        (f_B_playTo (479 : Int32) s).bind fun q4 =>
        if a2 = 0 then
          if zz_in a1 6 = true then
          some ((q4.1 25 (a1.toNatClampNeg)), q4)
          else none
        else
          if zz_in a1 6 = true then
          some ((q4.1 26 (a1.toNatClampNeg)), q4)
          else none
      else
        some ((-2000000000 : Int32), s)
def f_B_wide (a1 : Int32) (s : zz_S) : Option (Int32 × zz_S) :=
  if a1 < (20 : Int32) then
    some ((-1 : Int32), s)
  else
    if a1 ≤ (60 : Int32) then
      if (s.1 1 1) ≤ 0 then
        some ((s.1 1 0), (zz_w s 1 0 a1))
      else
        some ((-5 : Int32), s)
    else
      some ((-1 : Int32), s)
def f_B_window_L30 : Nat → Int32 → Int32 → Int32 → Int32 → zz_S → Option (Int32 × zz_S)
  | 0, _, _, _, _, _ => none
  | n + 1, v1, v2, v3, v4, s =>
  if (9 : Int32) < v4 then
    if v1 = 0 then
      some (v2, s)
    else
      some (v3, s)
  else
    (f_Night_begin (s.1 0 12) 2 s).bind fun q6 =>
    (f_Night_play (479 : Int32) (zz_w q6 20 13 v4)).bind fun q7 =>
    (f_Tally_leastEasy (q7.1 1 1) q7).bind fun q8 =>
    if q8 ≤ v3 then
      f_B_window_L30 n v1 v2 v3 (v4 + (1 : Int32)) q7
    else
      f_B_window_L30 n v1 v4 q8 (v4 + (1 : Int32)) q7
def f_B_window (a1 : Int32) (s : zz_S) : Option (Int32 × zz_S) :=
  if a1 < 0 then
    some ((-2000000000 : Int32), s)
  else
    if (1 : Int32) < a1 then
      some ((-2000000000 : Int32), s)
    else
      if (s.1 1 1) = 0 then
        some ((-2000000000 : Int32), s)
      else
        f_B_window_L30 zF a1 (0 : Int32) (-1 : Int32) (-9 : Int32) s
def f_M_begin_L104 : Nat → Int32 → zz_S → Option (zz_S)
  | 0, _, _ => none
  | n + 1, v1, s =>
  if (18 : Int32) ≤ v1 then
    some s
  else
    if zz_in v1 18 = true then
    f_M_begin_L104 n (v1 + (1 : Int32)) (zz_w s 113 (v1.toNatClampNeg) (0 : Int32))
    else none
def f_M_begin_L79 : Nat → Int32 → zz_S → Option (zz_S)
  | 0, _, _ => none
  | n + 1, v1, s =>
  if (3 : Int32) ≤ v1 then
    f_M_begin_L104 zF (0 : Int32) s
  else
    if zz_in v1 3 = true then
    f_M_begin_L79 n (v1 + (1 : Int32)) (zz_w s 104 (v1.toNatClampNeg) (s.1 84 (v1.toNatClampNeg)))
    else none
def f_M_begin_L2 : Nat → Int32 → zz_S → Option (zz_S)
  | 0, _, _ => none
  | n + 1, v1, s =>
  if (6 : Int32) ≤ v1 then
    f_M_begin_L79 zF (0 : Int32) s
  else
    if zz_in v1 6 = true then
    f_M_begin_L2 n (v1 + (1 : Int32)) (zz_w (zz_w (zz_w (zz_w (zz_w (zz_w (zz_w (zz_w s 103 (v1.toNatClampNeg) (s.1 80 (v1.toNatClampNeg))) 105 (v1.toNatClampNeg) (0 : Int32)) 107 (v1.toNatClampNeg) (0 : Int32)) 108 (v1.toNatClampNeg) (0 : Int32)) 109 (v1.toNatClampNeg) (0 : Int32)) 110 (v1.toNatClampNeg) (0 : Int32)) 111 (v1.toNatClampNeg) (-2 : Int32)) 112 (v1.toNatClampNeg) (-2 : Int32))
    else none
def f_M_begin (s : zz_S) : Option (zz_S) :=
  f_M_begin_L2 zF (0 : Int32) s
def f_M_sizeOf (a0 : Int32) : Int32 :=
  if 0 ≤ a0 then
    a0
  else
    (-a0)
def f_M_twoOf_J163 : Option (Int32) :=
  some (0 : Int32)
def f_M_twoOf_J226 : Option (Int32) :=
  some (1 : Int32)
def f_M_twoOf (a0 : Int32) (a1 : Int32) (a2 : Int32) : Option (Int32) :=
  if a0 = (37 : Int32) then
    if a2 = 0 then
      f_M_twoOf_J163
    else
      if a2 = (-1 : Int32) then
        f_M_twoOf_J163
      else
        if a2 = 0 then none else
        some (a1 % a2)
  else
  if a0 = (38 : Int32) then
    if a1 = 0 then
      some (0 : Int32)
    else
      if a2 = 0 then
        some (0 : Int32)
      else
        some (1 : Int32)
  else
  if a0 = (42 : Int32) then
    some (a1 * a2)
  else
  if a0 = (43 : Int32) then
    some (a1 + a2)
  else
  if a0 = (45 : Int32) then
    some (a1 - a2)
  else
  if a0 = (47 : Int32) then
    if a2 = 0 then
      some (0 : Int32)
    else
      if a2 = (-1 : Int32) then
        some (-a1)
      else
        if a2 = 0 then none else
        some (a1 / a2)
  else
  if a0 = (60 : Int32) then
    if a2 ≤ a1 then
      some (0 : Int32)
    else
      some (1 : Int32)
  else
  if a0 = (61 : Int32) then
    if a1 = a2 then
      some (1 : Int32)
    else
      some (0 : Int32)
  else
  if a0 = (62 : Int32) then
    if a1 ≤ a2 then
      some (0 : Int32)
    else
      some (1 : Int32)
  else
  if a1 = 0 then
    if a2 = 0 then
      some (0 : Int32)
    else
      f_M_twoOf_J226
  else
    f_M_twoOf_J226
def f_M_worked_J79 (K12 : Int32 → Int32 → Int32 → Int32 → zz_S → Option (Int32 × zz_S)) (v1 : Int32) (v3 : Int32) (v4 : Int32) (v5 : Int32) (t1 : Int32) (t2 : Int32) (s : zz_S) : Option (Int32 × zz_S) :=
  if zz_in t1 130 = true then
  K12 v1 v3 (v4 + (1 : Int32)) (v5 + (1 : Int32)) (zz_w s 102 (t1.toNatClampNeg) t2)
  else none
def f_M_worked_J45 (K12 : Int32 → Int32 → Int32 → Int32 → zz_S → Option (Int32 × zz_S)) (v1 : Int32) (v3 : Int32) (v4 : Int32) (v5 : Int32) (v6 : Int32) (s : zz_S) : Option (Int32 × zz_S) :=
  if v6 = (1 : Int32) then
    if zz_in v5 780 = true then
    f_M_worked_J79 K12 v1 v3 v4 v5 v4 (s.1 97 (v5.toNatClampNeg)) s
    else none
  else
    if zz_in v5 780 = true then
    if zz_in (s.1 97 (v5.toNatClampNeg)) 8 = true then
    f_M_worked_J79 K12 v1 v3 v4 v5 v4 (s.1 101 ((s.1 97 (v5.toNatClampNeg)).toNatClampNeg)) s
    else none
    else none
def f_M_worked_J117 (K12 : Int32 → Int32 → Int32 → Int32 → zz_S → Option (Int32 × zz_S)) (v1 : Int32) (v3 : Int32) (v4 : Int32) (v5 : Int32) (t1 : Int32) (t2 : Int32) (s : zz_S) : Option (Int32 × zz_S) :=
  if zz_in t1 130 = true then
  K12 v1 v3 v4 (v5 + (1 : Int32)) (zz_w s 102 (t1.toNatClampNeg) t2)
  else none
def f_M_worked_L12 : Nat → Int32 → Int32 → Int32 → Int32 → zz_S → Option (Int32 × zz_S)
  | 0, _, _, _, _, _ => none
  | n + 1, v1, v3, v4, v5, s =>
  if (((130 : Int32) * v1) + v3) ≤ v5 then
    some ((s.1 102 0), s)
  else
    if zz_in v5 780 = true then
    if (s.1 96 (v5.toNatClampNeg)) = (1 : Int32) then
      f_M_worked_J45 (f_M_worked_L12 n) v1 v3 v4 v5 (s.1 96 (v5.toNatClampNeg)) s
    else
      if (s.1 96 (v5.toNatClampNeg)) = (2 : Int32) then
        f_M_worked_J45 (f_M_worked_L12 n) v1 v3 v4 v5 (s.1 96 (v5.toNatClampNeg)) s
      else
        if (s.1 96 (v5.toNatClampNeg)) = (3 : Int32) then
          if zz_in (v4 - (1 : Int32)) 130 = true then
          if (s.1 102 ((v4 - (1 : Int32)).toNatClampNeg)) = 0 then
            f_M_worked_J117 (f_M_worked_L12 n) v1 v3 v4 v5 (v4 - (1 : Int32)) (1 : Int32) s
          else
            f_M_worked_J117 (f_M_worked_L12 n) v1 v3 v4 v5 (v4 - (1 : Int32)) (0 : Int32) s
          else none
        else
          if (s.1 96 (v5.toNatClampNeg)) = (4 : Int32) then
            if zz_in (v4 - (1 : Int32)) 130 = true then
            f_M_worked_L12 n v1 v3 v4 (v5 + (1 : Int32)) (zz_w s 102 ((v4 - (1 : Int32)).toNatClampNeg) (-(s.1 102 ((v4 - (1 : Int32)).toNatClampNeg))))
            else none
          else
            if zz_in ((v4 + (-1 : Int32)) - (1 : Int32)) 130 = true then
            if zz_in (v4 + (-1 : Int32)) 130 = true then
            (f_M_twoOf (s.1 96 (v5.toNatClampNeg)) (s.1 102 (((v4 + (-1 : Int32)) - (1 : Int32)).toNatClampNeg)) (s.1 102 ((v4 + (-1 : Int32)).toNatClampNeg))).bind fun q14 =>
            f_M_worked_L12 n v1 v3 (v4 + (-1 : Int32)) (v5 + (1 : Int32)) (zz_w s 102 (((v4 + (-1 : Int32)) - (1 : Int32)).toNatClampNeg) q14)
            else none
            else none
    else none
def f_M_worked (a1 : Int32) (a2 : Int32) (a3 : Int32) (s : zz_S) : Option (Int32 × zz_S) :=
  f_M_worked_L12 zF a1 a3 (0 : Int32) (((130 : Int32) * a1) + a2) s
def f_M_gives_J47 (v1 : Int32) (v3 : Int32) (s : zz_S) : Option (Int32 × zz_S) :=
  if zz_in v3 366 = true then
  (f_M_worked v1 (s.1 99 (v3.toNatClampNeg)) (s.1 100 (v3.toNatClampNeg)) s).bind fun q6 =>
  some (q6.1, q6.2)
  else none
def f_M_gives_L7 : Nat → Int32 → Int32 → Int32 → zz_S → Option (Int32 × zz_S)
  | 0, _, _, _, _ => none
  | n + 1, v1, v2, v3, s =>
  if zz_in v1 6 = true then
  if (((61 : Int32) * v1) + (s.1 98 (v1.toNatClampNeg))) ≤ v3 then
    some ((0 : Int32), s)
  else
    if zz_in v3 366 = true then
    if (s.1 99 (v3.toNatClampNeg)) = v2 then
      f_M_gives_J47 v1 v3 s
    else
      (f_M_worked v1 v2 (s.1 99 (v3.toNatClampNeg)) s).bind fun q7 =>
      if q7.1 = 0 then
        f_M_gives_L7 n v1 (q7.2.1 100 (v3.toNatClampNeg)) (v3 + (1 : Int32)) q7.2
      else
        f_M_gives_J47 v1 v3 q7.2
    else none
  else none
def f_M_gives (a1 : Int32) (s : zz_S) : Option (Int32 × zz_S) :=
  f_M_gives_L7 zF a1 (0 : Int32) ((61 : Int32) * a1) s
def f_M_held (a0 : Int32) (a1 : Int32) (a2 : Int32) : Int32 :=
  if a1 ≤ a0 then
    if a0 ≤ a2 then
      a0
    else
      a2
  else
    a1
def f_M_under_J89 (v3 : Int32) (t0 : Int32) (s : zz_S) : Option (Int32) :=
  if t0 ≤ v3 then
    some (0 : Int32)
  else
    some (t0 - v3)
def f_M_under_J30 (v1 : Int32) (v2 : Int32) (t0 : Int32) (s : zz_S) : Option (Int32) :=
  if zz_in v1 6 = true then
  if zz_in v2 3 = true then
  if ((s.1 104 (v2.toNatClampNeg)) + (s.1 85 (v2.toNatClampNeg))) ≤ ((s.1 103 (v1.toNatClampNeg)) + (s.1 81 (v1.toNatClampNeg))) then
    f_M_under_J89 t0 ((s.1 104 (v2.toNatClampNeg)) + (s.1 85 (v2.toNatClampNeg))) s
  else
    f_M_under_J89 t0 ((s.1 103 (v1.toNatClampNeg)) + (s.1 81 (v1.toNatClampNeg))) s
  else none
  else none
def f_M_under (a1 : Int32) (a2 : Int32) (s : zz_S) : Option (Int32) :=
  if zz_in a1 6 = true then
  if zz_in a2 3 = true then
  if (s.1 103 (a1.toNatClampNeg)) ≤ (s.1 104 (a2.toNatClampNeg)) then
    f_M_under_J30 a1 a2 (s.1 104 (a2.toNatClampNeg)) s
  else
    f_M_under_J30 a1 a2 (s.1 103 (a1.toNatClampNeg)) s
  else none
  else none
def f_M_drawBy_J50 (t0 : Int32) (s : zz_S) : Option (Int32 × zz_S) :=
  if 0 ≤ t0 then
    some (t0, s)
  else
    some ((0 : Int32), s)
def f_M_drawBy (a1 : Int32) (a2 : Int32) (a3 : Int32) (a4 : Int32) (a5 : Int32) (s : zz_S) : Option (Int32 × zz_S) :=
  (f_M_under a1 a2 s).bind fun q1 =>
  if 0 ≤ (s.1 79 36) then
    if zz_in a2 3 = true then
    (f_M_gives (s.1 79 36) (zz_w (zz_w (zz_w (zz_w (zz_w (zz_w (zz_w (zz_w s 101 0 (f_M_sizeOf a3)) 101 1 q1) 101 2 (s.1 85 (a2.toNatClampNeg))) 101 3 (s.1 87 (a2.toNatClampNeg))) 101 4 a1) 101 5 a4) 101 6 a5) 101 7 (a5 / (60 : Int32)))).bind fun q4 =>
    some ((f_M_held q4.1 (0 : Int32) (f_M_sizeOf a3)), q4.2)
    else none
  else
    if a4 = (1 : Int32) then
      f_M_drawBy_J50 (0 : Int32) s
    else
      if zz_in a1 6 = true then
      if (s.1 81 (a1.toNatClampNeg)) = 0 then none else
      if zz_in a2 3 = true then
      f_M_drawBy_J50 ((((f_M_sizeOf a3) * q1) / (s.1 81 (a1.toNatClampNeg))) - (s.1 87 (a2.toNatClampNeg))) s
      else none
      else none
def f_M_coveredOf_L32 (K9 : Int32 → Int32 → Int32 → Option (Int32)) (s : zz_S) : Nat → Int32 → Int32 → Int32 → Int32 → Int32 → Option (Int32)
  | 0, _, _, _, _, _ => none
  | n + 1, v1, v2, v3, v4, v5 =>
  if (s.1 79 7) ≤ v5 then
    if v4 = 0 then
      K9 v1 v2 (v3 + (1 : Int32))
    else
      K9 v1 (v2 + (1 : Int32)) (v3 + (1 : Int32))
  else
    if zz_in v5 3 = true then
    if v3 < (s.1 104 (v5.toNatClampNeg)) then
      f_M_coveredOf_L32 K9 s n v1 v2 v3 v4 (v5 + (1 : Int32))
    else
      if ((s.1 104 (v5.toNatClampNeg)) + (s.1 85 (v5.toNatClampNeg))) ≤ v3 then
        f_M_coveredOf_L32 K9 s n v1 v2 v3 v4 (v5 + (1 : Int32))
      else
        f_M_coveredOf_L32 K9 s n v1 v2 v3 (1 : Int32) (v5 + (1 : Int32))
    else none
def f_M_coveredOf_L9 (s : zz_S) : Nat → Int32 → Int32 → Int32 → Option (Int32)
  | 0, _, _, _ => none
  | n + 1, v1, v2, v3 =>
  if zz_in v1 6 = true then
  if ((s.1 103 (v1.toNatClampNeg)) + (s.1 81 (v1.toNatClampNeg))) ≤ v3 then
    some v2
  else
    f_M_coveredOf_L32 (f_M_coveredOf_L9 s n) s zF v1 v2 v3 (0 : Int32) (0 : Int32)
  else none
def f_M_coveredOf (a1 : Int32) (s : zz_S) : Option (Int32) :=
  if zz_in a1 6 = true then
  f_M_coveredOf_L9 s zF a1 (0 : Int32) (s.1 103 (a1.toNatClampNeg))
  else none
def f_M_turnNow_L221 : Nat → Int32 → Int32 → Int32 → zz_S → Option (zz_S)
  | 0, _, _, _, _ => none
  | n + 1, v1, v3, v6, s =>
  if (s.1 79 2) ≤ v6 then
    some s
  else
    if v6 = v1 then
      f_M_turnNow_L221 n v1 v3 (v6 + (1 : Int32)) s
    else
      if zz_in v6 6 = true then
      if 0 ≤ (s.1 111 (v6.toNatClampNeg)) then
        f_M_turnNow_L221 n v1 v3 (v6 + (1 : Int32)) s
      else
        (f_M_coveredOf v6 s).bind fun q12 =>
        if (s.1 81 (v6.toNatClampNeg)) ≤ ((2 : Int32) * ((s.1 114 (v6.toNatClampNeg)) - q12)) then
          f_M_turnNow_L221 n v1 v3 (v6 + (1 : Int32)) (zz_w (zz_w s 111 (v6.toNatClampNeg) v3) 112 (v6.toNatClampNeg) v1)
        else
          f_M_turnNow_L221 n v1 v3 (v6 + (1 : Int32)) s
      else none
def f_M_turnNow_L122 : Nat → Int32 → Int32 → Int32 → Int32 → Int32 → zz_S → Option (zz_S)
  | 0, _, _, _, _, _, _ => none
  | n + 1, v1, v2, v3, v4, v6, s =>
  if (s.1 79 7) ≤ v6 then
    if zz_in v1 6 = true then
    f_M_turnNow_L221 zF v1 v3 (0 : Int32) (zz_w (zz_w s 103 (v1.toNatClampNeg) (f_M_held ((s.1 103 (v1.toNatClampNeg)) + v2) (0 : Int32) ((s.1 79 1) - (s.1 81 (v1.toNatClampNeg))))) 105 (v1.toNatClampNeg) v4)
    else none
  else
    if zz_in v6 3 = true then
    if zz_in (((3 : Int32) * v1) + v6) 18 = true then
    f_M_turnNow_L122 n v1 v2 v3 v4 (v6 + (1 : Int32)) (zz_w (zz_w s 104 (v6.toNatClampNeg) ((s.1 104 (v6.toNatClampNeg)) + (v4 * (s.1 106 (v6.toNatClampNeg))))) 113 ((((3 : Int32) * v1) + v6).toNatClampNeg) ((s.1 113 ((((3 : Int32) * v1) + v6).toNatClampNeg)) + (v4 * (s.1 106 (v6.toNatClampNeg)))))
    else none
    else none
def f_M_turnNow_J112 (K72 : Int32 → Int32 → Int32 → Int32 → Int32 → Int32 → zz_S → Option (zz_S)) (v1 : Int32) (v2 : Int32) (v3 : Int32) (v4 : Int32) (v5 : Int32) (v6 : Int32) (t1 : Int32) (t2 : Int32) (s : zz_S) : Option (zz_S) :=
  if zz_in t1 3 = true then
  K72 v1 v2 v3 v4 v5 (v6 + (1 : Int32)) (zz_w s 106 (t1.toNatClampNeg) t2)
  else none
def f_M_turnNow_L72 : Nat → Int32 → Int32 → Int32 → Int32 → Int32 → Int32 → zz_S → Option (zz_S)
  | 0, _, _, _, _, _, _, _ => none
  | n + 1, v1, v2, v3, v4, v5, v6, s =>
  if (s.1 79 7) ≤ v6 then
    f_M_turnNow_L122 zF v1 v2 v3 v4 (0 : Int32) s
  else
    (f_M_under v1 v6 s).bind fun q16 =>
    if q16 ≤ 0 then
      f_M_turnNow_J112 (f_M_turnNow_L72 n) v1 v2 v3 v4 v5 v6 v6 (0 : Int32) s
    else
      (f_M_drawBy v1 v6 v2 v5 v3 s).bind fun q19 =>
      f_M_turnNow_J112 (f_M_turnNow_L72 n) v1 v2 v3 v4 v5 v6 v6 q19.1 q19.2
def f_M_turnNow_L41 : Nat → Int32 → Int32 → Int32 → Int32 → Int32 → Int32 → zz_S → Option (zz_S)
  | 0, _, _, _, _, _, _, _ => none
  | n + 1, v1, v2, v3, v4, v5, v6, s =>
  if (s.1 79 2) ≤ v6 then
    f_M_turnNow_L72 zF v1 v2 v3 v4 v5 (0 : Int32) s
  else
    (f_M_coveredOf v6 s).bind fun q20 =>
    if zz_in v6 6 = true then
    f_M_turnNow_L41 n v1 v2 v3 v4 v5 (v6 + (1 : Int32)) (zz_w s 114 (v6.toNatClampNeg) q20)
    else none
def f_M_turnNow_J36 (v1 : Int32) (v2 : Int32) (v3 : Int32) (v4 : Int32) (t0 : Int32) (s : zz_S) : Option (zz_S) :=
  f_M_turnNow_L41 zF v1 v2 v3 v4 t0 (0 : Int32) s
def f_M_turnNow_J35 (v1 : Int32) (v2 : Int32) (v3 : Int32) (v4 : Int32) (s : zz_S) : Option (zz_S) :=
  f_M_turnNow_J36 v1 v2 v3 v4 (0 : Int32) s
def f_M_turnNow_J9 (v1 : Int32) (v2 : Int32) (v3 : Int32) (t0 : Int32) (s : zz_S) : Option (zz_S) :=
  if zz_in v1 6 = true then
  if (s.1 105 (v1.toNatClampNeg)) = 0 then
    f_M_turnNow_J35 v1 v2 v3 t0 s
  else
    if (s.1 105 (v1.toNatClampNeg)) = t0 then
      f_M_turnNow_J35 v1 v2 v3 t0 s
    else
      f_M_turnNow_J36 v1 v2 v3 t0 (1 : Int32) s
  else none
def f_M_turnNow (a1 : Int32) (a2 : Int32) (a3 : Int32) (s : zz_S) : Option (zz_S) :=
  if 0 ≤ a2 then
    f_M_turnNow_J9 a1 a2 a3 (1 : Int32) s
  else
    f_M_turnNow_J9 a1 a2 a3 (-1 : Int32) s
def f_M_minute_J53 (K2 : Int32 → Int32 → zz_S → Option (zz_S)) (v1 : Int32) (v2 : Int32) (s : zz_S) : Option (zz_S) :=
  if zz_in v2 60 = true then
  (f_M_turnNow (s.1 89 (v2.toNatClampNeg)) (s.1 90 (v2.toNatClampNeg)) v1 s).bind fun q7 =>
  K2 v1 (v2 + (1 : Int32)) q7
  else none
def f_M_minute_L2 : Nat → Int32 → Int32 → zz_S → Option (zz_S)
  | 0, _, _, _ => none
  | n + 1, v1, v2, s =>
  if (s.1 79 12) ≤ v2 then
    some s
  else
    if zz_in v2 60 = true then
    if (s.1 88 (v2.toNatClampNeg)) = v1 then
      if (s.1 79 2) ≤ (s.1 89 (v2.toNatClampNeg)) then
        f_M_minute_L2 n v1 (v2 + (1 : Int32)) s
      else
        if (s.1 79 51) < 0 then
          f_M_minute_J53 (f_M_minute_L2 n) v1 v2 s
        else
          if (s.1 89 (v2.toNatClampNeg)) = (s.1 79 51) then
            f_M_minute_J53 (f_M_minute_L2 n) v1 v2 s
          else
            f_M_minute_L2 n v1 (v2 + (1 : Int32)) s
    else
      f_M_minute_L2 n v1 (v2 + (1 : Int32)) s
    else none
def f_M_minute (a1 : Int32) (s : zz_S) : Option (zz_S) :=
  f_M_minute_L2 zF a1 (0 : Int32) s
def f_M_warmOf_L12 (s : zz_S) : Nat → Int32 → Int32 → Int32 → Option (Int32)
  | 0, _, _, _ => none
  | n + 1, v1, v3, v4 =>
  if (s.1 79 7) ≤ v4 then
    some v3
  else
    if zz_in v4 3 = true then
    (f_M_under v1 v4 s).bind fun q4 =>
    if zz_in v1 6 = true then
    if (s.1 81 (v1.toNatClampNeg)) = 0 then none else
    f_M_warmOf_L12 s n v1 (v3 + (((s.1 86 (v4.toNatClampNeg)) * q4) / (s.1 81 (v1.toNatClampNeg)))) (v4 + (1 : Int32))
    else none
    else none
def f_M_warmOf (a1 : Int32) (a2 : Int32) (s : zz_S) : Option (Int32) :=
  if zz_in a1 6 = true then
  f_M_warmOf_L12 s zF a1 (a2 + (s.1 83 (a1.toNatClampNeg))) (0 : Int32)
  else none
def f_M_degrees_L17 : Nat → Int32 → Int32 → zz_S → Option (Int32 × zz_S)
  | 0, _, _, _ => none
  | n + 1, v1, v2, s =>
  if (6 : Int32) ≤ v2 then
    (f_M_gives (4 : Int32) (zz_w (zz_w s 101 6 v1) 101 7 (v1 / (60 : Int32)))).bind fun q3 =>
    some (((f_M_held q3.1 (-50 : Int32) (50 : Int32)) + (q3.2.1 79 38)), q3.2)
  else
    if zz_in v2 8 = true then
    f_M_degrees_L17 n v1 (v2 + (1 : Int32)) (zz_w s 101 (v2.toNatClampNeg) (0 : Int32))
    else none
def f_M_degrees (a1 : Int32) (s : zz_S) : Option (Int32 × zz_S) :=
  if (s.1 79 37) = 0 then
    some (((10 : Int32) + (s.1 79 38)), s)
  else
    f_M_degrees_L17 zF a1 (0 : Int32) s
def f_M_countNow_J125 (K8 : Int32 → Int32 → Int32 → zz_S → Option (zz_S)) (v1 : Int32) (v2 : Int32) (v3 : Int32) (s : zz_S) : Option (zz_S) :=
  if zz_in v3 6 = true then
  if (s.1 110 (v3.toNatClampNeg)) = (10 : Int32) then
    if 0 ≤ (s.1 111 (v3.toNatClampNeg)) then
      K8 v1 v2 (v3 + (1 : Int32)) s
    else
      K8 v1 v2 (v3 + (1 : Int32)) (zz_w (zz_w s 111 (v3.toNatClampNeg) v1) 112 (v3.toNatClampNeg) (-1 : Int32))
  else
    K8 v1 v2 (v3 + (1 : Int32)) s
  else none
def f_M_countNow_J101 (K8 : Int32 → Int32 → Int32 → zz_S → Option (zz_S)) (v1 : Int32) (v2 : Int32) (v3 : Int32) (s : zz_S) : Option (zz_S) :=
  (f_M_coveredOf v3 s).bind fun q11 =>
  if zz_in v3 6 = true then
  if (s.1 81 (v3.toNatClampNeg)) ≤ q11 then
    f_M_countNow_J125 K8 v1 v2 v3 s
  else
    f_M_countNow_J125 K8 v1 v2 v3 (zz_w s 109 (v3.toNatClampNeg) ((s.1 109 (v3.toNatClampNeg)) + (1 : Int32)))
  else none
def f_M_countNow_J81 (K8 : Int32 → Int32 → Int32 → zz_S → Option (zz_S)) (v1 : Int32) (v2 : Int32) (v3 : Int32) (t1 : Int32) (t2 : Int32) (s : zz_S) : Option (zz_S) :=
  if zz_in t1 6 = true then
  if zz_in v3 6 = true then
  if ((zz_w s 110 (t1.toNatClampNeg) t2).1 110 (v3.toNatClampNeg)) ≤ 0 then
    f_M_countNow_J101 K8 v1 v2 v3 (zz_w s 110 (t1.toNatClampNeg) t2)
  else
    f_M_countNow_J101 K8 v1 v2 v3 (zz_w (zz_w s 110 (t1.toNatClampNeg) t2) 108 (v3.toNatClampNeg) ((s.1 108 (v3.toNatClampNeg)) + (1 : Int32)))
  else none
  else none
def f_M_countNow_J50 (K8 : Int32 → Int32 → Int32 → zz_S → Option (zz_S)) (v1 : Int32) (v2 : Int32) (v3 : Int32) (v4 : Int32) (s : zz_S) : Option (zz_S) :=
  if zz_in v3 6 = true then
  if ((s.1 82 (v3.toNatClampNeg)) - v4) ≤ (15 : Int32) then
    f_M_countNow_J81 K8 v1 v2 v3 v3 (0 : Int32) s
  else
    f_M_countNow_J81 K8 v1 v2 v3 v3 ((s.1 110 (v3.toNatClampNeg)) + (1 : Int32)) s
  else none
def f_M_countNow_L8 : Nat → Int32 → Int32 → Int32 → zz_S → Option (zz_S)
  | 0, _, _, _, _ => none
  | n + 1, v1, v2, v3, s =>
  if (s.1 79 2) ≤ v3 then
    some s
  else
    (f_M_warmOf v3 v2 s).bind fun q3 =>
    if zz_in v3 6 = true then
    if (5 : Int32) < (f_M_sizeOf (q3 - (s.1 82 (v3.toNatClampNeg)))) then
      f_M_countNow_J50 (f_M_countNow_L8 n) v1 v2 v3 q3 s
    else
      f_M_countNow_J50 (f_M_countNow_L8 n) v1 v2 v3 q3 (zz_w s 107 (v3.toNatClampNeg) ((s.1 107 (v3.toNatClampNeg)) + (1 : Int32)))
    else none
def f_M_countNow (a1 : Int32) (s : zz_S) : Option (zz_S) :=
  (f_M_degrees a1 s).bind fun q1 =>
  f_M_countNow_L8 zF a1 q1.1 (0 : Int32) q1.2
def f_M_night_L6 : Nat → Int32 → Int32 → zz_S → Option (zz_S)
  | 0, _, _, _ => none
  | n + 1, v1, v2, s =>
  if v1 < v2 then
    some s
  else
    (f_M_minute v2 s).bind fun q3 =>
    (f_M_countNow v2 q3).bind fun q4 =>
    f_M_night_L6 n v1 (v2 + (1 : Int32)) q4
def f_M_night (a1 : Int32) (s : zz_S) : Option (zz_S) :=
  (f_M_begin s).bind fun q1 =>
  f_M_night_L6 zF a1 (0 : Int32) q1
def f_M_leastEasy_L16 : Nat → Int32 → Int32 → zz_S → Option (Int32 × zz_S)
  | 0, _, _, _ => none
  | n + 1, v1, v2, s =>
  if (s.1 79 2) ≤ v2 then
    some (v1, s)
  else
    if zz_in v2 6 = true then
    if v1 ≤ (s.1 107 (v2.toNatClampNeg)) then
      f_M_leastEasy_L16 n v1 (v2 + (1 : Int32)) s
    else
      f_M_leastEasy_L16 n (s.1 107 (v2.toNatClampNeg)) (v2 + (1 : Int32)) s
    else none
def f_M_leastEasy (s : zz_S) : Option (Int32 × zz_S) :=
  (f_M_night (479 : Int32) s).bind fun q1 =>
  f_M_leastEasy_L16 zF (q1.1 107 0) (1 : Int32) q1
def f_M_in (a0 : Int32) (a1 : Int32) (a2 : Int32) : Int32 :=
  if a0 < a1 then
    (0 : Int32)
  else
    if a2 < a0 then
      (0 : Int32)
    else
      (1 : Int32)
def f_M_isOrder_L12 : Nat → Int32 → Int32 → Int32 → zz_S → Option (Int32 × zz_S)
  | 0, _, _, _, _ => none
  | n + 1, v2, v3, v4, s =>
  if v4 < 0 then
    some ((1 : Int32), s)
  else
    if (s.1 79 2) = 0 then none else
    if zz_in v4 6 = true then
    if (s.1 79 2) = 0 then none else
    if ((v3 >>> (((zz_w s 116 (v4.toNatClampNeg) (v2 % (s.1 79 2))).1 116 (v4.toNatClampNeg)) &&& 31)) &&& (1 : Int32)) = (1 : Int32) then
      some ((0 : Int32), (zz_w s 116 (v4.toNatClampNeg) (v2 % (s.1 79 2))))
    else
      f_M_isOrder_L12 n (v2 / (s.1 79 2)) (v3 ||| ((1 : Int32) <<< (((zz_w s 116 (v4.toNatClampNeg) (v2 % (s.1 79 2))).1 116 (v4.toNatClampNeg)) &&& 31))) (v4 + (-1 : Int32)) (zz_w s 116 (v4.toNatClampNeg) (v2 % (s.1 79 2)))
    else none
def f_M_isOrder (a1 : Int32) (s : zz_S) : Option (Int32 × zz_S) :=
  f_M_isOrder_L12 zF a1 (0 : Int32) ((s.1 79 2) - (1 : Int32)) s
def f_M_across_L230 : Nat → Int32 → Int32 → Int32 → Int32 → zz_S → Option (Int32 × zz_S)
  | 0, _, _, _, _, _ => none
  | n + 1, v1, v3, v4, v5, s =>
  if (s.1 79 2) ≤ v5 then
    if v1 = 0 then
      some (v3, s)
    else
      some (v4, s)
  else
    if zz_in v5 6 = true then
    f_M_across_L230 n v1 v3 v4 (v5 + (1 : Int32)) (zz_w s 80 (v5.toNatClampNeg) (s.1 115 (v5.toNatClampNeg)))
    else none
def f_M_across_J179 (K82 : Int32 → Int32 → Int32 → Int32 → Int32 → zz_S → Option (Int32 × zz_S)) (K109 : Int32 → Int32 → Int32 → Int32 → Int32 → Int32 → Int32 → Int32 → zz_S → Option (Int32 × zz_S)) (v1 : Int32) (v2 : Int32) (v3 : Int32) (v4 : Int32) (v5 : Int32) (v6 : Int32) (v7 : Int32) (v8 : Int32) (v9 : Int32) (t1 : Int32) (t2 : Int32) (s : zz_S) : Option (Int32 × zz_S) :=
  if zz_in t1 6 = true then
  if zz_in v9 6 = true then
  K109 v1 v2 v3 v4 v5 v6 (v7 + (s.1 81 (v9.toNatClampNeg))) (v8 + (1 : Int32)) (zz_w s 80 (t1.toNatClampNeg) t2)
  else none
  else none
def f_M_across_L109 (K82 : Int32 → Int32 → Int32 → Int32 → Int32 → zz_S → Option (Int32 × zz_S)) : Nat → Int32 → Int32 → Int32 → Int32 → Int32 → Int32 → Int32 → Int32 → zz_S → Option (Int32 × zz_S)
  | 0, _, _, _, _, _, _, _, _, _ => none
  | n + 1, v1, v2, v3, v4, v5, v6, v7, v8, s =>
  if (s.1 79 2) ≤ v8 then
    (f_M_leastEasy s).bind fun q12 =>
    if v4 < q12.1 then
      K82 v1 v2 v6 q12.1 (v5 + (1 : Int32)) q12.2
    else
      K82 v1 v2 v3 v4 (v5 + (1 : Int32)) q12.2
  else
    if zz_in v8 6 = true then
    if zz_in (s.1 116 (v8.toNatClampNeg)) 6 = true then
    if ((s.1 79 1) - (s.1 81 ((s.1 116 (v8.toNatClampNeg)).toNatClampNeg))) ≤ v7 then
      f_M_across_J179 K82 (f_M_across_L109 K82 n) v1 v2 v3 v4 v5 ((((10 : Int32) * v6) + (s.1 116 (v8.toNatClampNeg))) + (1 : Int32)) v7 v8 (s.1 116 (v8.toNatClampNeg)) (s.1 116 (v8.toNatClampNeg)) ((s.1 79 1) - (s.1 81 ((s.1 116 (v8.toNatClampNeg)).toNatClampNeg))) s
    else
      f_M_across_J179 K82 (f_M_across_L109 K82 n) v1 v2 v3 v4 v5 ((((10 : Int32) * v6) + (s.1 116 (v8.toNatClampNeg))) + (1 : Int32)) v7 v8 (s.1 116 (v8.toNatClampNeg)) (s.1 116 (v8.toNatClampNeg)) v7 s
    else none
    else none
def f_M_across_L82 : Nat → Int32 → Int32 → Int32 → Int32 → Int32 → zz_S → Option (Int32 × zz_S)
  | 0, _, _, _, _, _, _ => none
  | n + 1, v1, v2, v3, v4, v5, s =>
  if v2 ≤ v5 then
    f_M_across_L230 zF v1 v3 v4 (0 : Int32) s
  else
    (f_M_isOrder v5 s).bind fun q9 =>
    if q9.1 = 0 then
      f_M_across_L82 n v1 v2 v3 v4 (v5 + (1 : Int32)) q9.2
    else
      f_M_across_L109 (f_M_across_L82 n) zF v1 v2 v3 v4 v5 (0 : Int32) (0 : Int32) (0 : Int32) q9.2
def f_M_across_L53 : Nat → Int32 → Int32 → Int32 → zz_S → Option (Int32 × zz_S)
  | 0, _, _, _, _ => none
  | n + 1, v1, v2, v3, s =>
  if (s.1 79 2) ≤ v3 then
    f_M_across_L82 zF v1 v2 (0 : Int32) (-1 : Int32) (0 : Int32) s
  else
    f_M_across_L53 n v1 (v2 * (s.1 79 2)) (v3 + (1 : Int32)) s
def f_M_across_L23 : Nat → Int32 → Int32 → zz_S → Option (Int32 × zz_S)
  | 0, _, _, _ => none
  | n + 1, v1, v2, s =>
  if (s.1 79 2) ≤ v2 then
    f_M_across_L53 zF v1 (1 : Int32) (0 : Int32) s
  else
    if zz_in v2 6 = true then
    f_M_across_L23 n v1 (v2 + (1 : Int32)) (zz_w s 115 (v2.toNatClampNeg) (s.1 80 (v2.toNatClampNeg)))
    else none
def f_M_across (a1 : Int32) (s : zz_S) : Option (Int32 × zz_S) :=
  if (f_M_in a1 (0 : Int32) (1 : Int32)) = 0 then
    some ((-1 : Int32), s)
  else
    if (s.1 79 2) = 0 then
      some ((-5 : Int32), s)
    else
      f_M_across_L23 zF a1 (0 : Int32) s
def f_M_ran_J19 (s : zz_S) : Option (zz_S) :=
  some (zz_w s 79 57 ((s.1 79 57) + (1 : Int32)))
def f_M_ran (a1 : Int32) (s : zz_S) : Option (zz_S) :=
  if (24 : Int32) ≤ (s.1 79 57) then
    f_M_ran_J19 s
  else
    if zz_in (s.1 79 57) 24 = true then
    f_M_ran_J19 (zz_w s 118 ((s.1 79 57).toNatClampNeg) a1)
    else none
def f_M_plainTurns (a1 : Int32) (a2 : Int32) (s : zz_S) : Option (Int32 × zz_S) :=
  (f_M_ran (1 : Int32) s).bind fun q1 =>
  some ((a2 + a1), q1)
def f_M_legTurns (a1 : Int32) (a2 : Int32) (s : zz_S) : Option (Int32 × zz_S) :=
  (f_M_ran (70 : Int32) s).bind fun q1 =>
  (f_M_plainTurns a1 a2 q1).bind fun q2 =>
  some ((q2.1 * (2 : Int32)), q2.2)
def f_M_isUnder_J56 : Int32 :=
  (1 : Int32)
def f_M_isUnder_J44 (v0 : Int32) (v1 : Int32) : Int32 :=
  if v1 = (6 : Int32) then
    if v0 = (7 : Int32) then
      f_M_isUnder_J56
    else
      (0 : Int32)
  else
    (0 : Int32)
def f_M_isUnder_J34 (v0 : Int32) (v1 : Int32) : Int32 :=
  if v1 = (4 : Int32) then
    if v0 = (5 : Int32) then
      f_M_isUnder_J56
    else
      f_M_isUnder_J44 v0 v1
  else
    f_M_isUnder_J44 v0 v1
def f_M_isUnder_J24 (v0 : Int32) (v1 : Int32) : Int32 :=
  if v1 = (2 : Int32) then
    if v0 = (3 : Int32) then
      f_M_isUnder_J56
    else
      f_M_isUnder_J34 v0 v1
  else
    f_M_isUnder_J34 v0 v1
def f_M_isUnder (a0 : Int32) (a1 : Int32) : Int32 :=
  if a1 = 0 then
    f_M_isUnder_J56
  else
    if a0 = a1 then
      f_M_isUnder_J56
    else
      if a1 = (1 : Int32) then
        if a0 = (4 : Int32) then
          f_M_isUnder_J56
        else
          if a0 = (5 : Int32) then
            f_M_isUnder_J56
          else
            f_M_isUnder_J24 a0 a1
      else
        f_M_isUnder_J24 a0 a1
def f_M_turning (a1 : Int32) (a2 : Int32) (s : zz_S) : Option (Int32 × zz_S) :=
  if zz_in a1 50 = true then
  if (f_M_isUnder (s.1 117 (a1.toNatClampNeg)) (1 : Int32)) = 0 then
    if (s.1 117 (a1.toNatClampNeg)) = (7 : Int32) then
      (f_M_ran (81 : Int32) s).bind fun q7 =>
      (f_M_legTurns a1 a2 q7).bind fun q8 =>
      some ((q8.1 - (1 : Int32)), q8.2)
    else
      if (s.1 117 (a1.toNatClampNeg)) = (6 : Int32) then
        (f_M_legTurns a1 a2 s).bind fun q6 =>
        some (q6.1, q6.2)
      else
        (f_M_plainTurns a1 a2 s).bind fun q5 =>
        some (q5.1, q5.2)
  else
    (f_M_ran (20 : Int32) s).bind fun q9 =>
    (f_M_plainTurns a1 a2 q9).bind fun q10 =>
    some ((q10.1 + (3 : Int32)), q10.2)
  else none
def f_M_plainDraws (a1 : Int32) (a2 : Int32) (s : zz_S) : Option (Int32 × zz_S) :=
  (f_M_ran (10 : Int32) s).bind fun q1 =>
  (f_M_turning a1 a2 q1).bind fun q2 =>
  some ((q2.1 * (2 : Int32)), q2.2)
def f_M_underDraws (a1 : Int32) (a2 : Int32) (s : zz_S) : Option (Int32 × zz_S) :=
  (f_M_ran (30 : Int32) s).bind fun q1 =>
  (f_M_plainDraws a1 a2 q1).bind fun q2 =>
  some ((-q2.1), q2.2)
def f_M_plainWarms (a1 : Int32) (a2 : Int32) (s : zz_S) : Option (Int32 × zz_S) :=
  (f_M_ran (11 : Int32) s).bind fun q1 =>
  some ((a2 ^^^ a1), q1)
def f_M_warming (a1 : Int32) (a2 : Int32) (s : zz_S) : Option (Int32 × zz_S) :=
  if zz_in a1 50 = true then
  if (s.1 117 (a1.toNatClampNeg)) = (3 : Int32) then
    (f_M_ran (40 : Int32) s).bind fun q8 =>
    (f_M_plainWarms a1 a2 q8).bind fun q9 =>
    some ((q9.1 * (3 : Int32)), q9.2)
  else
    if (s.1 117 (a1.toNatClampNeg)) = (5 : Int32) then
      (f_M_ran (60 : Int32) s).bind fun q5 =>
      (f_M_plainWarms a1 a2 q5).bind fun q6 =>
      (f_M_turning a1 (2 : Int32) q6.2).bind fun q7 =>
      some ((q6.1 - q7.1), q7.2)
    else
      (f_M_plainWarms a1 a2 s).bind fun q4 =>
      some (q4.1, q4.2)
  else none
def f_M_drawing (a1 : Int32) (a2 : Int32) (s : zz_S) : Option (Int32 × zz_S) :=
  if zz_in a1 50 = true then
  if (s.1 117 (a1.toNatClampNeg)) = (3 : Int32) then
    (f_M_ran (41 : Int32) s).bind fun q10 =>
    (f_M_underDraws a1 (a2 + (1 : Int32)) q10).bind fun q11 =>
    some (q11.1, q11.2)
  else
    if (s.1 117 (a1.toNatClampNeg)) = (7 : Int32) then
      (f_M_ran (80 : Int32) s).bind fun q7 =>
      (f_M_plainDraws a1 a2 q7).bind fun q8 =>
      (f_M_warming a1 (2 : Int32) q8.2).bind fun q9 =>
      some ((q8.1 + q9.1), q9.2)
    else
      if (s.1 117 (a1.toNatClampNeg)) = (2 : Int32) then
        (f_M_underDraws a1 a2 s).bind fun q6 =>
        some (q6.1, q6.2)
      else
        (f_M_plainDraws a1 a2 s).bind fun q5 =>
        some (q5.1, q5.2)
  else none
def f_M_plainWakes (a1 : Int32) (a2 : Int32) (s : zz_S) : Option (Int32 × zz_S) :=
  (f_M_ran (2 : Int32) s).bind fun q1 =>
  (f_M_drawing a1 a2 q1).bind fun q2 =>
  (f_M_warming a1 (1 : Int32) q2.2).bind fun q3 =>
  some ((q2.1 - q3.1), q3.2)
def f_M_wokenWakes (a1 : Int32) (a2 : Int32) (s : zz_S) : Option (Int32 × zz_S) :=
  (f_M_ran (50 : Int32) s).bind fun q1 =>
  (f_M_plainWakes a1 a2 q1).bind fun q2 =>
  some ((q2.1 ^^^ (5 : Int32)), q2.2)
def f_M_waking (a1 : Int32) (a2 : Int32) (s : zz_S) : Option (Int32 × zz_S) :=
  if zz_in a1 50 = true then
  if (s.1 117 (a1.toNatClampNeg)) = (5 : Int32) then
    (f_M_ran (61 : Int32) s).bind fun q6 =>
    (f_M_wokenWakes a1 a2 q6).bind fun q7 =>
    some ((q7.1 + (1 : Int32)), q7.2)
  else
    if (s.1 117 (a1.toNatClampNeg)) = (4 : Int32) then
      (f_M_wokenWakes a1 a2 s).bind fun q5 =>
      some (q5.1, q5.2)
    else
      (f_M_plainWakes a1 a2 s).bind fun q4 =>
      some (q4.1, q4.2)
  else none
def f_M_isBody (a1 : Int32) (s : zz_S) : Int32 :=
  (f_M_in a1 (0 : Int32) ((s.1 79 55) - (1 : Int32)))
def f_M_act (a1 : Int32) (a2 : Int32) (a3 : Int32) (s : zz_S) : Option (Int32 × zz_S) :=
  if (f_M_isBody a1 (zz_w s 79 57 (0 : Int32))) = 0 then
    some ((0 : Int32), (zz_w s 79 57 (0 : Int32)))
  else
    if (f_M_in a2 (0 : Int32) (3 : Int32)) = 0 then
      some ((0 : Int32), (zz_w s 79 57 (0 : Int32)))
    else
      if a2 = 0 then
        (f_M_turning a1 a3 (zz_w s 79 57 (0 : Int32))).bind fun q9 =>
        some (q9.1, q9.2)
      else
        if a2 = (1 : Int32) then
          (f_M_drawing a1 a3 (zz_w s 79 57 (0 : Int32))).bind fun q8 =>
          some (q8.1, q8.2)
        else
          if a2 = (2 : Int32) then
            (f_M_warming a1 a3 (zz_w s 79 57 (0 : Int32))).bind fun q7 =>
            some (q7.1, q7.2)
          else
            (f_M_waking a1 a3 (zz_w s 79 57 (0 : Int32))).bind fun q6 =>
            some (q6.1, q6.2)
def f_M_addStep (a1 : Int32) (a2 : Int32) (s : zz_S) : Option (zz_S) :=
  if zz_in ((650 : Int32) + (s.1 79 27)) 780 = true then
  some (zz_w (zz_w (zz_w s 96 (((650 : Int32) + (s.1 79 27)).toNatClampNeg) (vp_nar .byte a1.toInt8.toInt32)) 97 (((650 : Int32) + (s.1 79 27)).toNatClampNeg) a2) 79 27 ((s.1 79 27) + (1 : Int32)))
  else none
def f_M_addTurn (a1 : Int32) (a2 : Int32) (a3 : Int32) (s : zz_S) : Option (Int32 × zz_S) :=
  if zz_in (s.1 79 12) 60 = true then
  some ((((s.1 79 12) + (1 : Int32)) - (1 : Int32)), (zz_w (zz_w (zz_w (zz_w s 88 ((s.1 79 12).toNatClampNeg) a1) 89 ((s.1 79 12).toNatClampNeg) a2) 90 ((s.1 79 12).toNatClampNeg) a3) 79 12 ((s.1 79 12) + (1 : Int32))))
  else none
def f_M_body (a1 : Int32) (s : zz_S) : Option (Int32 × zz_S) :=
  if (f_M_in a1 (0 : Int32) (7 : Int32)) = 0 then
    some ((-1 : Int32), s)
  else
    if (s.1 79 55) = (50 : Int32) then
      some ((-3 : Int32), s)
    else
      if zz_in (s.1 79 55) 50 = true then
      some ((((s.1 79 55) + (1 : Int32)) - (1 : Int32)), (zz_w (zz_w s 117 ((s.1 79 55).toNatClampNeg) a1) 79 55 ((s.1 79 55) + (1 : Int32))))
      else none
def f_M_look (s : zz_S) : Option (Int32) :=
  if (s.1 79 23) ≤ (s.1 79 24) then
    some (-1 : Int32)
  else
    if zz_in (s.1 79 24) 120 = true then
    some (s.1 95 ((s.1 79 24).toNatClampNeg))
    else none
def f_M_either_L4 (R_M_both : zz_S → Option (zz_S)) (R_M_compared : zz_S → Option (zz_S)) (R_M_either : zz_S → Option (zz_S)) (R_M_operand : zz_S → Option (zz_S)) (R_M_product : zz_S → Option (zz_S)) (R_M_sum : zz_S → Option (zz_S)) : Nat → zz_S → Option (zz_S)
  | 0, _ => none
  | n + 1, s =>
  if 0 ≤ (s.1 79 25) then
    some s
  else
    (f_M_look s).bind fun q3 =>
    if q3 = (124 : Int32) then
      (R_M_both (zz_w s 79 24 ((s.1 79 24) + (1 : Int32)))).bind fun q5 =>
      (f_M_addStep (124 : Int32) (0 : Int32) q5).bind fun q6 =>
      f_M_either_L4 R_M_both R_M_compared R_M_either R_M_operand R_M_product R_M_sum n q6
    else
      some s
def f_M_either (R_M_both : zz_S → Option (zz_S)) (R_M_compared : zz_S → Option (zz_S)) (R_M_either : zz_S → Option (zz_S)) (R_M_operand : zz_S → Option (zz_S)) (R_M_product : zz_S → Option (zz_S)) (R_M_sum : zz_S → Option (zz_S)) (s : zz_S) : Option (zz_S) :=
  (R_M_both s).bind fun q1 =>
  f_M_either_L4 R_M_both R_M_compared R_M_either R_M_operand R_M_product R_M_sum zF q1
def f_M_faulty (s : zz_S) : zz_S :=
  if 0 ≤ (s.1 79 25) then
    s
  else
    (zz_w s 79 25 (s.1 79 24))
def f_M_nameOf (a0 : Int32) : Int32 :=
  if a0 = (98 : Int32) then
    (5 : Int32)
  else
  if a0 = (104 : Int32) then
    (7 : Int32)
  else
  if a0 = (107 : Int32) then
    (3 : Int32)
  else
  if a0 = (109 : Int32) then
    (6 : Int32)
  else
  if a0 = (115 : Int32) then
    (4 : Int32)
  else
  if a0 = (116 : Int32) then
    (0 : Int32)
  else
  if a0 = (117 : Int32) then
    (1 : Int32)
  else
  if a0 = (119 : Int32) then
    (2 : Int32)
  else
  (-1 : Int32)
def f_M_figure_J74 (v1 : Int32) (s : zz_S) : Option (zz_S) :=
  (f_M_addStep (1 : Int32) v1 s).bind fun q3 =>
  some q3
def f_M_figure_J70 (v1 : Int32) (s : zz_S) : Option (zz_S) :=
  f_M_figure_J74 v1 (f_M_faulty s)
def f_M_figure_J52 (v1 : Int32) (v2 : Int32) (s : zz_S) : Option (zz_S) :=
  if v2 = 0 then
    f_M_figure_J70 v1 s
  else
    (f_M_look s).bind fun q4 =>
    if (f_M_in q4 (48 : Int32) (57 : Int32)) = 0 then
      f_M_figure_J74 v1 s
    else
      f_M_figure_J70 v1 s
def f_M_figure_L4 : Nat → Int32 → Int32 → zz_S → Option (zz_S)
  | 0, _, _, _ => none
  | n + 1, v1, v2, s =>
  if (4 : Int32) ≤ v2 then
    f_M_figure_J52 v1 v2 s
  else
    (f_M_look s).bind fun q6 =>
    if (f_M_in q6 (48 : Int32) (57 : Int32)) = 0 then
      f_M_figure_J52 v1 v2 s
    else
      (f_M_look s).bind fun q8 =>
      f_M_figure_L4 n ((((10 : Int32) * v1) + q8) - (48 : Int32)) (v2 + (1 : Int32)) (zz_w s 79 24 ((s.1 79 24) + (1 : Int32)))
def f_M_figure (s : zz_S) : Option (zz_S) :=
  f_M_figure_L4 zF (0 : Int32) (0 : Int32) s
def f_M_opens (s : zz_S) : Option (Int32 × zz_S) :=
  if (s.1 79 26) = (6 : Int32) then
    some ((0 : Int32), (f_M_faulty s))
  else
    some ((1 : Int32), (zz_w (zz_w s 79 26 ((s.1 79 26) + (1 : Int32))) 79 24 ((s.1 79 24) + (1 : Int32))))
def f_M_operand_J80 (R_M_both : zz_S → Option (zz_S)) (R_M_compared : zz_S → Option (zz_S)) (R_M_either : zz_S → Option (zz_S)) (R_M_operand : zz_S → Option (zz_S)) (R_M_product : zz_S → Option (zz_S)) (R_M_sum : zz_S → Option (zz_S)) (t1 : Int32) (s : zz_S) : Option (zz_S) :=
  (f_M_addStep t1 (0 : Int32) s).bind fun q8 =>
  some q8
def f_M_operand_J46 (R_M_both : zz_S → Option (zz_S)) (R_M_compared : zz_S → Option (zz_S)) (R_M_either : zz_S → Option (zz_S)) (R_M_operand : zz_S → Option (zz_S)) (R_M_product : zz_S → Option (zz_S)) (R_M_sum : zz_S → Option (zz_S)) (v1 : Int32) (s : zz_S) : Option (zz_S) :=
  (f_M_opens s).bind fun q4 =>
  if q4.1 = 0 then
    some q4.2
  else
    (R_M_operand q4.2).bind fun q6 =>
    if v1 = (33 : Int32) then
      f_M_operand_J80 R_M_both R_M_compared R_M_either R_M_operand R_M_product R_M_sum (3 : Int32) (zz_w q6 79 26 ((q6.1 79 26) - (1 : Int32)))
    else
      f_M_operand_J80 R_M_both R_M_compared R_M_either R_M_operand R_M_product R_M_sum (4 : Int32) (zz_w q6 79 26 ((q6.1 79 26) - (1 : Int32)))
def f_M_operand (R_M_both : zz_S → Option (zz_S)) (R_M_compared : zz_S → Option (zz_S)) (R_M_either : zz_S → Option (zz_S)) (R_M_operand : zz_S → Option (zz_S)) (R_M_product : zz_S → Option (zz_S)) (R_M_sum : zz_S → Option (zz_S)) (s : zz_S) : Option (zz_S) :=
  (f_M_look s).bind fun q1 =>
  if (f_M_nameOf q1) < 0 then
    if q1 = (33 : Int32) then
      f_M_operand_J46 R_M_both R_M_compared R_M_either R_M_operand R_M_product R_M_sum q1 s
    else
      if q1 = (45 : Int32) then
        f_M_operand_J46 R_M_both R_M_compared R_M_either R_M_operand R_M_product R_M_sum q1 s
      else
        if q1 = (40 : Int32) then
          (f_M_opens s).bind fun q12 =>
          if q12.1 = 0 then
            some q12.2
          else
            (R_M_either q12.2).bind fun q14 =>
            if (q14.1 79 25) < 0 then
              (f_M_look q14).bind fun q16 =>
              if q16 = (41 : Int32) then
                some (zz_w (zz_w q14 79 24 ((q14.1 79 24) + (1 : Int32))) 79 26 ((q14.1 79 26) - (1 : Int32)))
              else
                some (f_M_faulty q14)
            else
              some q14
        else
          (f_M_figure s).bind fun q11 =>
          some q11
  else
    (f_M_addStep (2 : Int32) (f_M_nameOf q1) s).bind fun q18 =>
    some (zz_w q18 79 24 ((q18.1 79 24) + (1 : Int32)))
def f_M_product_J38 (R_M_both : zz_S → Option (zz_S)) (R_M_compared : zz_S → Option (zz_S)) (R_M_either : zz_S → Option (zz_S)) (R_M_operand : zz_S → Option (zz_S)) (R_M_product : zz_S → Option (zz_S)) (R_M_sum : zz_S → Option (zz_S)) (K4 : zz_S → Option (zz_S)) (s : zz_S) : Option (zz_S) :=
  (f_M_look s).bind fun q5 =>
  (R_M_operand (zz_w s 79 24 ((s.1 79 24) + (1 : Int32)))).bind fun q6 =>
  (f_M_addStep q5 (0 : Int32) q6).bind fun q7 =>
  K4 q7
def f_M_product_L4 (R_M_both : zz_S → Option (zz_S)) (R_M_compared : zz_S → Option (zz_S)) (R_M_either : zz_S → Option (zz_S)) (R_M_operand : zz_S → Option (zz_S)) (R_M_product : zz_S → Option (zz_S)) (R_M_sum : zz_S → Option (zz_S)) : Nat → zz_S → Option (zz_S)
  | 0, _ => none
  | n + 1, s =>
  if 0 ≤ (s.1 79 25) then
    some s
  else
    (f_M_look s).bind fun q3 =>
    if q3 = (42 : Int32) then
      f_M_product_J38 R_M_both R_M_compared R_M_either R_M_operand R_M_product R_M_sum (f_M_product_L4 R_M_both R_M_compared R_M_either R_M_operand R_M_product R_M_sum n) s
    else
      (f_M_look s).bind fun q8 =>
      if q8 = (47 : Int32) then
        f_M_product_J38 R_M_both R_M_compared R_M_either R_M_operand R_M_product R_M_sum (f_M_product_L4 R_M_both R_M_compared R_M_either R_M_operand R_M_product R_M_sum n) s
      else
        (f_M_look s).bind fun q10 =>
        if q10 = (37 : Int32) then
          f_M_product_J38 R_M_both R_M_compared R_M_either R_M_operand R_M_product R_M_sum (f_M_product_L4 R_M_both R_M_compared R_M_either R_M_operand R_M_product R_M_sum n) s
        else
          some s
def f_M_product (R_M_both : zz_S → Option (zz_S)) (R_M_compared : zz_S → Option (zz_S)) (R_M_either : zz_S → Option (zz_S)) (R_M_operand : zz_S → Option (zz_S)) (R_M_product : zz_S → Option (zz_S)) (R_M_sum : zz_S → Option (zz_S)) (s : zz_S) : Option (zz_S) :=
  (R_M_operand s).bind fun q1 =>
  f_M_product_L4 R_M_both R_M_compared R_M_either R_M_operand R_M_product R_M_sum zF q1
def f_M_sum_J29 (R_M_both : zz_S → Option (zz_S)) (R_M_compared : zz_S → Option (zz_S)) (R_M_either : zz_S → Option (zz_S)) (R_M_operand : zz_S → Option (zz_S)) (R_M_product : zz_S → Option (zz_S)) (R_M_sum : zz_S → Option (zz_S)) (K4 : zz_S → Option (zz_S)) (s : zz_S) : Option (zz_S) :=
  (f_M_look s).bind fun q5 =>
  (R_M_product (zz_w s 79 24 ((s.1 79 24) + (1 : Int32)))).bind fun q6 =>
  (f_M_addStep q5 (0 : Int32) q6).bind fun q7 =>
  K4 q7
def f_M_sum_L4 (R_M_both : zz_S → Option (zz_S)) (R_M_compared : zz_S → Option (zz_S)) (R_M_either : zz_S → Option (zz_S)) (R_M_operand : zz_S → Option (zz_S)) (R_M_product : zz_S → Option (zz_S)) (R_M_sum : zz_S → Option (zz_S)) : Nat → zz_S → Option (zz_S)
  | 0, _ => none
  | n + 1, s =>
  if 0 ≤ (s.1 79 25) then
    some s
  else
    (f_M_look s).bind fun q3 =>
    if q3 = (43 : Int32) then
      f_M_sum_J29 R_M_both R_M_compared R_M_either R_M_operand R_M_product R_M_sum (f_M_sum_L4 R_M_both R_M_compared R_M_either R_M_operand R_M_product R_M_sum n) s
    else
      (f_M_look s).bind fun q8 =>
      if q8 = (45 : Int32) then
        f_M_sum_J29 R_M_both R_M_compared R_M_either R_M_operand R_M_product R_M_sum (f_M_sum_L4 R_M_both R_M_compared R_M_either R_M_operand R_M_product R_M_sum n) s
      else
        some s
def f_M_sum (R_M_both : zz_S → Option (zz_S)) (R_M_compared : zz_S → Option (zz_S)) (R_M_either : zz_S → Option (zz_S)) (R_M_operand : zz_S → Option (zz_S)) (R_M_product : zz_S → Option (zz_S)) (R_M_sum : zz_S → Option (zz_S)) (s : zz_S) : Option (zz_S) :=
  (R_M_product s).bind fun q1 =>
  f_M_sum_L4 R_M_both R_M_compared R_M_either R_M_operand R_M_product R_M_sum zF q1
def f_M_compared_J35 (R_M_both : zz_S → Option (zz_S)) (R_M_compared : zz_S → Option (zz_S)) (R_M_either : zz_S → Option (zz_S)) (R_M_operand : zz_S → Option (zz_S)) (R_M_product : zz_S → Option (zz_S)) (R_M_sum : zz_S → Option (zz_S)) (v1 : Int32) (s : zz_S) : Option (zz_S) :=
  (R_M_sum (zz_w s 79 24 ((s.1 79 24) + (1 : Int32)))).bind fun q5 =>
  (f_M_addStep v1 (0 : Int32) q5).bind fun q6 =>
  some q6
def f_M_compared (R_M_both : zz_S → Option (zz_S)) (R_M_compared : zz_S → Option (zz_S)) (R_M_either : zz_S → Option (zz_S)) (R_M_operand : zz_S → Option (zz_S)) (R_M_product : zz_S → Option (zz_S)) (R_M_sum : zz_S → Option (zz_S)) (s : zz_S) : Option (zz_S) :=
  (R_M_sum s).bind fun q1 =>
  (f_M_look q1).bind fun q2 =>
  if 0 ≤ (q1.1 79 25) then
    some q1
  else
    if q2 = (60 : Int32) then
      f_M_compared_J35 R_M_both R_M_compared R_M_either R_M_operand R_M_product R_M_sum q2 q1
    else
      if q2 = (61 : Int32) then
        f_M_compared_J35 R_M_both R_M_compared R_M_either R_M_operand R_M_product R_M_sum q2 q1
      else
        if q2 = (62 : Int32) then
          f_M_compared_J35 R_M_both R_M_compared R_M_either R_M_operand R_M_product R_M_sum q2 q1
        else
          some q1
def f_M_both_L4 (R_M_both : zz_S → Option (zz_S)) (R_M_compared : zz_S → Option (zz_S)) (R_M_either : zz_S → Option (zz_S)) (R_M_operand : zz_S → Option (zz_S)) (R_M_product : zz_S → Option (zz_S)) (R_M_sum : zz_S → Option (zz_S)) : Nat → zz_S → Option (zz_S)
  | 0, _ => none
  | n + 1, s =>
  if 0 ≤ (s.1 79 25) then
    some s
  else
    (f_M_look s).bind fun q3 =>
    if q3 = (38 : Int32) then
      (R_M_compared (zz_w s 79 24 ((s.1 79 24) + (1 : Int32)))).bind fun q5 =>
      (f_M_addStep (38 : Int32) (0 : Int32) q5).bind fun q6 =>
      f_M_both_L4 R_M_both R_M_compared R_M_either R_M_operand R_M_product R_M_sum n q6
    else
      some s
def f_M_both (R_M_both : zz_S → Option (zz_S)) (R_M_compared : zz_S → Option (zz_S)) (R_M_either : zz_S → Option (zz_S)) (R_M_operand : zz_S → Option (zz_S)) (R_M_product : zz_S → Option (zz_S)) (R_M_sum : zz_S → Option (zz_S)) (s : zz_S) : Option (zz_S) :=
  (R_M_compared s).bind fun q1 =>
  f_M_both_L4 R_M_both R_M_compared R_M_either R_M_operand R_M_product R_M_sum zF q1
def f_grp_M_both : Nat → (zz_S → Option (zz_S)) × (zz_S → Option (zz_S)) × (zz_S → Option (zz_S)) × (zz_S → Option (zz_S)) × (zz_S → Option (zz_S)) × (zz_S → Option (zz_S))
  | 0 => (fun _ => none, fun _ => none, fun _ => none, fun _ => none, fun _ => none, fun _ => none)
  | n + 1 => (f_M_both (f_grp_M_both n).1 (f_grp_M_both n).2.1 (f_grp_M_both n).2.2.1 (f_grp_M_both n).2.2.2.1 (f_grp_M_both n).2.2.2.2.1 (f_grp_M_both n).2.2.2.2.2, f_M_compared (f_grp_M_both n).1 (f_grp_M_both n).2.1 (f_grp_M_both n).2.2.1 (f_grp_M_both n).2.2.2.1 (f_grp_M_both n).2.2.2.2.1 (f_grp_M_both n).2.2.2.2.2, f_M_either (f_grp_M_both n).1 (f_grp_M_both n).2.1 (f_grp_M_both n).2.2.1 (f_grp_M_both n).2.2.2.1 (f_grp_M_both n).2.2.2.2.1 (f_grp_M_both n).2.2.2.2.2, f_M_operand (f_grp_M_both n).1 (f_grp_M_both n).2.1 (f_grp_M_both n).2.2.1 (f_grp_M_both n).2.2.2.1 (f_grp_M_both n).2.2.2.2.1 (f_grp_M_both n).2.2.2.2.2, f_M_product (f_grp_M_both n).1 (f_grp_M_both n).2.1 (f_grp_M_both n).2.2.1 (f_grp_M_both n).2.2.2.1 (f_grp_M_both n).2.2.2.2.1 (f_grp_M_both n).2.2.2.2.2, f_M_sum (f_grp_M_both n).1 (f_grp_M_both n).2.1 (f_grp_M_both n).2.2.1 (f_grp_M_both n).2.2.2.1 (f_grp_M_both n).2.2.2.2.1 (f_grp_M_both n).2.2.2.2.2)
def g_M_both (n : Nat) : zz_S → Option (zz_S) := (f_grp_M_both n).1
def g_M_compared (n : Nat) : zz_S → Option (zz_S) := (f_grp_M_both n).2.1
def g_M_either (n : Nat) : zz_S → Option (zz_S) := (f_grp_M_both n).2.2.1
def g_M_operand (n : Nat) : zz_S → Option (zz_S) := (f_grp_M_both n).2.2.2.1
def g_M_product (n : Nat) : zz_S → Option (zz_S) := (f_grp_M_both n).2.2.2.2.1
def g_M_sum (n : Nat) : zz_S → Option (zz_S) := (f_grp_M_both n).2.2.2.2.2
def f_M_isCover (a1 : Int32) (s : zz_S) : Int32 :=
  (f_M_in a1 (0 : Int32) ((s.1 79 7) - (1 : Int32)))
def f_M_isSomeBare_L2 (s : zz_S) : Nat → Int32 → Option (Int32)
  | 0, _ => none
  | n + 1, v1 =>
  if (s.1 79 2) ≤ v1 then
    some (0 : Int32)
  else
    (f_M_coveredOf v1 s).bind fun q2 =>
    if zz_in v1 6 = true then
    if (s.1 81 (v1.toNatClampNeg)) ≤ q2 then
      f_M_isSomeBare_L2 s n (v1 + (1 : Int32))
    else
      some (1 : Int32)
    else none
def f_M_isSomeBare (s : zz_S) : Option (Int32) :=
  f_M_isSomeBare_L2 s zF (0 : Int32)
def f_M_isMinute (a0 : Int32) : Int32 :=
  (f_M_in a0 (0 : Int32) (479 : Int32))
def f_M_broad_J73 (v1 : Int32) (v3 : Int32) (v4 : Int32) (s : zz_S) : Option (Int32 × zz_S) :=
  if zz_in v1 3 = true then
  some (v4, (zz_w s 85 (v1.toNatClampNeg) v3))
  else none
def f_M_broad_L31 : Nat → Int32 → Int32 → Int32 → Int32 → Int32 → zz_S → Option (Int32 × zz_S)
  | 0, _, _, _, _, _, _ => none
  | n + 1, v1, v2, v3, v4, v5, s =>
  if (80 : Int32) < v5 then
    f_M_broad_J73 v1 v3 v4 s
  else
    if 0 ≤ v4 then
      f_M_broad_J73 v1 v3 v4 s
    else
      if zz_in v1 3 = true then
      (f_M_night v2 (zz_w s 85 (v1.toNatClampNeg) v5)).bind fun q8 =>
      (f_M_isSomeBare q8).bind fun q9 =>
      if q9 = 0 then
        f_M_broad_L31 n v1 v2 v3 v5 (v5 + (1 : Int32)) q8
      else
        f_M_broad_L31 n v1 v2 v3 v4 (v5 + (1 : Int32)) q8
      else none
def f_M_broad (a1 : Int32) (a2 : Int32) (s : zz_S) : Option (Int32 × zz_S) :=
  if (f_M_isCover a1 s) = 0 then
    some ((-1 : Int32), s)
  else
    if (f_M_isMinute a2) = 0 then
      some ((-1 : Int32), s)
    else
      if zz_in a1 3 = true then
      f_M_broad_L31 zF a1 a2 (s.1 85 (a1.toNatClampNeg)) (-2 : Int32) (5 : Int32) s
      else none
def f_M_lays (a1 : Int32) (a2 : Int32) (a3 : Int32) (s : zz_S) : Option (zz_S) :=
  if a1 = (0 : Int32) then
    if zz_in a2 6 = true then
    some (zz_w s 82 (a2.toNatClampNeg) a3)
    else none
  else
  if a1 = (1 : Int32) then
    if zz_in a2 6 = true then
    some (zz_w s 83 (a2.toNatClampNeg) a3)
    else none
  else
  if a1 = (2 : Int32) then
    if zz_in a2 3 = true then
    some (zz_w s 85 (a2.toNatClampNeg) a3)
    else none
  else
  if zz_in a2 3 = true then
  some (zz_w s 87 (a2.toNatClampNeg) a3)
  else none
def f_M_valueAt (a1 : Int32) (a2 : Int32) (s : zz_S) : Option (Int32) :=
  if a1 = 0 then
    if zz_in a2 6 = true then
    some (s.1 82 (a2.toNatClampNeg))
    else none
  else
    if a1 = (1 : Int32) then
      if zz_in a2 6 = true then
      some (s.1 83 (a2.toNatClampNeg))
      else none
    else
      if a1 = (2 : Int32) then
        if zz_in a2 3 = true then
        some (s.1 85 (a2.toNatClampNeg))
        else none
      else
        if zz_in a2 3 = true then
        some (s.1 87 (a2.toNatClampNeg))
        else none
def f_M_changes_J121 (v1 : Int32) (v2 : Int32) (v3 : Int32) (v4 : Int32) (s : zz_S) : Option (Int32 × zz_S) :=
  if zz_in (s.1 79 16) 40 = true then
  (f_M_lays v1 v2 v3 (zz_w (zz_w (zz_w (zz_w (zz_w s 91 ((s.1 79 16).toNatClampNeg) v1) 92 ((s.1 79 16).toNatClampNeg) v2) 93 ((s.1 79 16).toNatClampNeg) v4) 94 ((s.1 79 16).toNatClampNeg) v3) 79 16 ((s.1 79 16) + (1 : Int32)))).bind fun q5 =>
  some (v4, q5)
  else none
def f_M_changes_L34 : Nat → Int32 → Int32 → Int32 → Int32 → Int32 → zz_S → Option (Int32 × zz_S)
  | 0, _, _, _, _, _, _ => none
  | n + 1, v1, v2, v3, v4, v5, s =>
  if (40 : Int32) ≤ v5 then
    f_M_changes_J121 v1 v2 v3 v4 (zz_w s 79 16 ((s.1 79 16) - (1 : Int32)))
  else
    if zz_in v5 40 = true then
    if zz_in (v5 - (1 : Int32)) 40 = true then
    f_M_changes_L34 n v1 v2 v3 v4 (v5 + (1 : Int32)) (zz_w (zz_w (zz_w (zz_w s 91 ((v5 - (1 : Int32)).toNatClampNeg) (s.1 91 (v5.toNatClampNeg))) 92 ((v5 - (1 : Int32)).toNatClampNeg) (s.1 92 (v5.toNatClampNeg))) 93 ((v5 - (1 : Int32)).toNatClampNeg) (s.1 93 (v5.toNatClampNeg))) 94 ((v5 - (1 : Int32)).toNatClampNeg) (s.1 94 (v5.toNatClampNeg)))
    else none
    else none
def f_M_changes (a1 : Int32) (a2 : Int32) (a3 : Int32) (s : zz_S) : Option (Int32 × zz_S) :=
  (f_M_valueAt a1 a2 s).bind fun q1 =>
  if q1 = a3 then
    some (q1, s)
  else
    if (s.1 79 16) = (40 : Int32) then
      f_M_changes_L34 zF a1 a2 a3 q1 (1 : Int32) (zz_w s 79 17 (0 : Int32))
    else
      f_M_changes_J121 a1 a2 a3 q1 (zz_w s 79 17 (0 : Int32))
def f_M_clear (s : zz_S) : Option (Int32 × zz_S) :=
  some ((s.1 79 12), (zz_w s 79 12 (0 : Int32)))
def f_M_count (a1 : Int32) (s : zz_S) : Int32 :=
  if a1 = (0 : Int32) then
    (s.1 79 2)
  else
  if a1 = (1 : Int32) then
    (s.1 79 7)
  else
  if a1 = (2 : Int32) then
    (s.1 79 12)
  else
  if a1 = (3 : Int32) then
    (s.1 79 35)
  else
  if a1 = (4 : Int32) then
    (s.1 79 23)
  else
  if a1 = (5 : Int32) then
    (s.1 79 16)
  else
  if a1 = (6 : Int32) then
    (s.1 79 55)
  else
  if a1 = (7 : Int32) then
    (s.1 79 57)
  else
  (-1 : Int32)
def f_M_cover (a1 : Int32) (a2 : Int32) (a3 : Int32) (s : zz_S) : Option (Int32 × zz_S) :=
  if (f_M_in a1 (-40 : Int32) (60 : Int32)) = 0 then
    some ((-1 : Int32), s)
  else
    if a2 < 0 then
      some ((-1 : Int32), s)
    else
      if (f_M_in (a2 / (100 : Int32)) (5 : Int32) (80 : Int32)) = 0 then
        some ((-1 : Int32), s)
      else
        if (50 : Int32) < (a2 % (100 : Int32)) then
          some ((-1 : Int32), s)
        else
          if (f_M_in a3 (0 : Int32) (9 : Int32)) = 0 then
            some ((-1 : Int32), s)
          else
            if (s.1 79 7) = (3 : Int32) then
              some ((-3 : Int32), s)
            else
              if zz_in (s.1 79 7) 3 = true then
              some ((((s.1 79 7) + (1 : Int32)) - (1 : Int32)), (zz_w (zz_w (zz_w (zz_w (zz_w s 84 ((s.1 79 7).toNatClampNeg) a1) 85 ((s.1 79 7).toNatClampNeg) (a2 / (100 : Int32))) 86 ((s.1 79 7).toNatClampNeg) (a2 % (100 : Int32))) 87 ((s.1 79 7).toNatClampNeg) a3) 79 7 ((s.1 79 7) + (1 : Int32))))
              else none
def f_M_draw (a1 : Int32) (s : zz_S) : Option (Int32 × zz_S) :=
  if a1 = 0 then none else
  some (((((((s.1 79 54) * (1103515245 : Int32)) + (12345 : Int32)).toUInt32 >>> ((8 : Int32).toUInt32 &&& Int32.toUInt32 31)).toInt32) % a1), (zz_w s 79 54 (((s.1 79 54) * (1103515245 : Int32)) + (12345 : Int32))))
def f_M_isSleeper (a1 : Int32) (s : zz_S) : Int32 :=
  (f_M_in a1 (0 : Int32) ((s.1 79 2) - (1 : Int32)))
def f_M_drawnNight_J73 (K6 : Int32 → Int32 → zz_S → Option (zz_S)) (v1 : Int32) (v2 : Int32) (s : zz_S) : Option (zz_S) :=
  (f_M_countNow v2 s).bind fun q4 =>
  K6 v1 (v2 + (1 : Int32)) q4
def f_M_drawnNight_L22 (K6 : Int32 → Int32 → zz_S → Option (zz_S)) : Nat → Int32 → Int32 → Int32 → zz_S → Option (zz_S)
  | 0, _, _, _, _ => none
  | n + 1, v1, v2, v3, s =>
  if (s.1 79 2) ≤ v3 then
    f_M_drawnNight_J73 K6 v1 v2 s
  else
    (f_M_draw (100 : Int32) s).bind fun q6 =>
    if q6.1 < v1 then
      (f_M_draw (21 : Int32) q6.2).bind fun q8 =>
      if (q8.1 - (10 : Int32)) = 0 then
        f_M_drawnNight_L22 K6 n v1 v2 (v3 + (1 : Int32)) q8.2
      else
        (f_M_turnNow v3 (q8.1 - (10 : Int32)) v2 q8.2).bind fun q10 =>
        f_M_drawnNight_L22 K6 n v1 v2 (v3 + (1 : Int32)) q10
    else
      f_M_drawnNight_L22 K6 n v1 v2 (v3 + (1 : Int32)) q6.2
def f_M_drawnNight_L6 : Nat → Int32 → Int32 → zz_S → Option (zz_S)
  | 0, _, _, _ => none
  | n + 1, v1, v2, s =>
  if (480 : Int32) ≤ v2 then
    some s
  else
    if (v2 % (10 : Int32)) = 0 then
      f_M_drawnNight_L22 (f_M_drawnNight_L6 n) zF v1 v2 (0 : Int32) s
    else
      f_M_drawnNight_J73 (f_M_drawnNight_L6 n) v1 v2 s
def f_M_drawnNight (a1 : Int32) (s : zz_S) : Option (zz_S) :=
  (f_M_begin s).bind fun q1 =>
  f_M_drawnNight_L6 zF a1 (0 : Int32) q1
def f_M_drawn_J117 (K76 : Int32 → Int32 → Int32 → Int32 → Int32 → zz_S → Option (Int32 × zz_S)) (v2 : Int32) (v3 : Int32) (v4 : Int32) (v6 : Int32) (t0 : Int32) (t1 : Int32) (s : zz_S) : Option (Int32 × zz_S) :=
  K76 v2 v3 v4 (t0 + t1) (v6 + (1 : Int32)) s
def f_M_drawn_L76 : Nat → Int32 → Int32 → Int32 → Int32 → Int32 → zz_S → Option (Int32 × zz_S)
  | 0, _, _, _, _, _, _ => none
  | n + 1, v2, v3, v4, v5, v6, s =>
  if (v2 / (1000 : Int32)) ≤ v6 then
    if (v2 / (1000 : Int32)) = 0 then none else
    some ((v5 / (v2 / (1000 : Int32))), s)
  else
    (f_M_drawnNight (v2 % (1000 : Int32)) s).bind fun q9 =>
    if v4 = 0 then
      if zz_in v3 6 = true then
      f_M_drawn_J117 (f_M_drawn_L76 n) v2 v3 v4 v6 v5 (q9.1 107 (v3.toNatClampNeg)) q9
      else none
    else
      if zz_in v3 3 = true then
      f_M_drawn_J117 (f_M_drawn_L76 n) v2 v3 v4 v6 v5 (q9.1 104 (v3.toNatClampNeg)) q9
      else none
def f_M_drawn_J65 (v1 : Int32) (v2 : Int32) (v3 : Int32) (v4 : Int32) (s : zz_S) : Option (Int32 × zz_S) :=
  f_M_drawn_L76 zF v2 v3 v4 (0 : Int32) (0 : Int32) (zz_w s 79 54 v1)
def f_M_drawn (a1 : Int32) (a2 : Int32) (a3 : Int32) (a4 : Int32) (s : zz_S) : Option (Int32 × zz_S) :=
  if a2 < 0 then
    some ((-2000000000 : Int32), s)
  else
    if (f_M_in (a2 / (1000 : Int32)) (1 : Int32) (20 : Int32)) = 0 then
      some ((-2000000000 : Int32), s)
    else
      if (100 : Int32) < (a2 % (1000 : Int32)) then
        some ((-2000000000 : Int32), s)
      else
        if (f_M_in a4 (0 : Int32) (1 : Int32)) = 0 then
          some ((-2000000000 : Int32), s)
        else
          if a4 = 0 then
            if (f_M_isSleeper a3 s) = 0 then
              some ((-2000000000 : Int32), s)
            else
              f_M_drawn_J65 a1 a2 a3 a4 s
          else
            if (f_M_isCover a3 s) = 0 then
              some ((-2000000000 : Int32), s)
            else
              f_M_drawn_J65 a1 a2 a3 a4 s
def f_M_easyOfAll_L11 : Nat → Int32 → Int32 → zz_S → Option (Int32 × zz_S)
  | 0, _, _, _ => none
  | n + 1, v1, v2, s =>
  if (s.1 79 2) ≤ v2 then
    some (v1, s)
  else
    if zz_in v2 6 = true then
    f_M_easyOfAll_L11 n (v1 + (s.1 107 (v2.toNatClampNeg))) (v2 + (1 : Int32)) s
    else none
def f_M_easyOfAll (s : zz_S) : Option (Int32 × zz_S) :=
  (f_M_night (479 : Int32) s).bind fun q1 =>
  f_M_easyOfAll_L11 zF (0 : Int32) (0 : Int32) q1
def f_M_isShelf (a0 : Int32) : Int32 :=
  (f_M_in a0 (0 : Int32) (5 : Int32))
def f_M_whyNoPlace (a1 : Int32) (a2 : Int32) (s : zz_S) : Option (Int32) :=
  if (f_M_isShelf a1) = 0 then
    some (-1 : Int32)
  else
    if zz_in a1 6 = true then
    if (s.1 119 (a1.toNatClampNeg)) = (-1 : Int32) then
      some (-11 : Int32)
    else
      if (s.1 119 (a1.toNatClampNeg)) < 0 then
        if (f_M_in a2 (0 : Int32) ((s.1 120 (a1.toNatClampNeg)) - (1 : Int32))) = 0 then
          some (-13 : Int32)
        else
          some (0 : Int32)
      else
        some (-12 : Int32)
    else none
def f_M_element (a1 : Int32) (a2 : Int32) (s : zz_S) : Option (Int64) :=
  (f_M_whyNoPlace a1 a2 s).bind fun q1 =>
  if 0 ≤ q1 then
    if zz_in (((60 : Int32) * a1) + a2) 360 = true then
    some (s.2 121 ((((60 : Int32) * a1) + a2).toNatClampNeg))
    else none
  else
    some (-9223372036854775808 : Int64)
def f_M_feed (a1 : Int32) (s : zz_S) : Option (Int32 × zz_S) :=
  if (f_M_in a1 (0 : Int32) (255 : Int32)) = 0 then
    some ((-1 : Int32), s)
  else
    if (s.1 79 23) = (120 : Int32) then
      some ((-3 : Int32), s)
    else
      if zz_in (s.1 79 23) 120 = true then
      some (((s.1 79 23) + (1 : Int32)), (zz_w (zz_w s 95 ((s.1 79 23).toNatClampNeg) (vp_nar .byte a1.toInt8.toInt32)) 79 23 ((s.1 79 23) + (1 : Int32))))
      else none
def f_M_isAsFilm_J45 (K6 : Int32 → Int32 → zz_S → Option (Int32 × zz_S)) (v1 : Int32) (v2 : Int32) (t0 : Int32) (s : zz_S) : Option (Int32 × zz_S) :=
  if t0 < 0 then
    K6 v1 (v2 + (1 : Int32)) s
  else
    if zz_in (((60 : Int32) * v1) + t0) 360 = true then
    if (lg_cmp (s.2 121 ((((60 : Int32) * v1) + t0).toNatClampNeg)) (s.1 104 0).toInt64) = 0 then
      K6 v1 (v2 + (1 : Int32)) s
    else
      some ((0 : Int32), s)
    else none
def f_M_isAsFilm_L6 : Nat → Int32 → Int32 → zz_S → Option (Int32 × zz_S)
  | 0, _, _, _ => none
  | n + 1, v1, v2, s =>
  if (480 : Int32) ≤ v2 then
    some ((1 : Int32), s)
  else
    (f_M_minute v2 s).bind fun q3 =>
    if v2 = (479 : Int32) then
      f_M_isAsFilm_J45 (f_M_isAsFilm_L6 n) v1 v2 (8 : Int32) q3
    else
      if (v2 % (60 : Int32)) = 0 then
        f_M_isAsFilm_J45 (f_M_isAsFilm_L6 n) v1 v2 (v2 / (60 : Int32)) q3
      else
        f_M_isAsFilm_J45 (f_M_isAsFilm_L6 n) v1 v2 (-1 : Int32) q3
def f_M_isAsFilm (a1 : Int32) (s : zz_S) : Option (Int32 × zz_S) :=
  (f_M_begin s).bind fun q1 =>
  f_M_isAsFilm_L6 zF a1 (0 : Int32) q1
def f_M_film_L70 : Nat → Int32 → Int32 → Int32 → Int32 → zz_S → Option (Int32 × zz_S)
  | 0, _, _, _, _, _ => none
  | n + 1, v1, v2, v3, v4, s =>
  if (s.1 79 35) ≤ v4 then
    some (v3, (zz_w s 79 36 v2))
  else
    (f_M_isAsFilm v1 (zz_w s 79 36 v4)).bind fun q8 =>
    if q8.1 = 0 then
      f_M_film_L70 n v1 v2 v3 (v4 + (1 : Int32)) q8.2
    else
      f_M_film_L70 n v1 v2 (v3 ||| ((1 : Int32) <<< ((v4 + (1 : Int32)) &&& 31))) (v4 + (1 : Int32)) q8.2
def f_M_film (a1 : Int32) (s : zz_S) : Option (Int32 × zz_S) :=
  if (f_M_isShelf a1) = 0 then
    some ((-1 : Int32), s)
  else
    if zz_in a1 6 = true then
    if (s.1 119 (a1.toNatClampNeg)) = (-1 : Int32) then
      some ((-11 : Int32), s)
    else
      if (s.1 119 (a1.toNatClampNeg)) = (-3 : Int32) then
        if (9 : Int32) ≤ (s.1 120 (a1.toNatClampNeg)) then
          if (s.1 79 7) = 0 then
            some ((-5 : Int32), s)
          else
            f_M_film_L70 zF a1 (s.1 79 36) (0 : Int32) (-1 : Int32) s
        else
          some ((-13 : Int32), s)
      else
        some ((-12 : Int32), s)
    else none
def f_M_force (a1 : Int32) (s : zz_S) : Option (Int32 × zz_S) :=
  if (f_M_in a1 (-1 : Int32) ((s.1 79 35) - (1 : Int32))) = 0 then
    some ((-2000000000 : Int32), s)
  else
    some ((s.1 79 36), (zz_w s 79 36 a1))
def f_M_isTurn (a0 : Int32) (a1 : Int32) (a2 : Int32) : Int32 :=
  if (f_M_isMinute a0) = 0 then
    (0 : Int32)
  else
    if (f_M_in a1 (0 : Int32) (5 : Int32)) = 0 then
      (0 : Int32)
    else
      if (f_M_in a2 (-20 : Int32) (20 : Int32)) = 0 then
        (0 : Int32)
      else
        if a2 = 0 then
          (0 : Int32)
        else
          (1 : Int32)
def f_M_keep_J22 (v1 : Int32) (v2 : Int32) (s : zz_S) : Option (Int32 × zz_S) :=
  if zz_in v1 6 = true then
  some ((1 : Int32), (zz_w s 119 (v1.toNatClampNeg) v2))
  else none
def f_M_keep (a1 : Int32) (a2 : Int32) (s : zz_S) : Option (Int32 × zz_S) :=
  if (f_M_isShelf a1) = 0 then
    some ((-1 : Int32), s)
  else
    if a2 = (-1 : Int32) then
      f_M_keep_J22 a1 a2 s
    else
      if (f_M_isBody a2 s) = 0 then
        some ((-1 : Int32), s)
      else
        f_M_keep_J22 a1 a2 s
def f_M_line_J67 (v1 : Int32) (s : zz_S) : Option (zz_S) :=
  if zz_in v1 366 = true then
  some (zz_w (zz_w s 100 (v1.toNatClampNeg) (vp_nar .short (s.1 79 27).toInt16.toInt32)) 98 5 ((s.1 98 5) + (1 : Int32)))
  else none
def f_M_line (s : zz_S) : Option (zz_S) :=
  if zz_in ((305 : Int32) + (s.1 98 5)) 366 = true then
  (g_M_either zR (zz_w s 99 (((305 : Int32) + (s.1 98 5)).toNatClampNeg) (vp_nar .short (s.1 79 27).toInt16.toInt32))).bind fun q2 =>
  if 0 ≤ (q2.1 79 25) then
    f_M_line_J67 ((305 : Int32) + (s.1 98 5)) q2
  else
    (f_M_look q2).bind fun q5 =>
    if q5 = (63 : Int32) then
      (g_M_either zR (zz_w (zz_w q2 79 24 ((q2.1 79 24) + (1 : Int32))) 99 (((305 : Int32) + (s.1 98 5)).toNatClampNeg) (vp_nar .short (q2.1 79 27).toInt16.toInt32))).bind fun q7 =>
      f_M_line_J67 ((305 : Int32) + (s.1 98 5)) q7
    else
      f_M_line_J67 ((305 : Int32) + (s.1 98 5)) q2
  else none
def f_M_readText_L177 : Nat → Int32 → Int32 → zz_S → Option (Int32 × zz_S)
  | 0, _, _, _ => none
  | n + 1, v1, v2, s =>
  if zz_in v1 6 = true then
  if (s.1 98 (v1.toNatClampNeg)) ≤ v2 then
    some ((-1 : Int32), s)
  else
    if zz_in ((305 : Int32) + v2) 366 = true then
    if zz_in (((61 : Int32) * v1) + v2) 366 = true then
    f_M_readText_L177 n v1 (v2 + (1 : Int32)) (zz_w (zz_w s 99 ((((61 : Int32) * v1) + v2).toNatClampNeg) (vp_nar .short (s.1 99 (((305 : Int32) + v2).toNatClampNeg)))) 100 ((((61 : Int32) * v1) + v2).toNatClampNeg) (vp_nar .short (s.1 100 (((305 : Int32) + v2).toNatClampNeg))))
    else none
    else none
  else none
def f_M_readText_L105 : Nat → Int32 → Int32 → zz_S → Option (Int32 × zz_S)
  | 0, _, _, _ => none
  | n + 1, v1, v2, s =>
  if (s.1 79 27) ≤ v2 then
    if zz_in v1 6 = true then
    f_M_readText_L177 zF v1 (0 : Int32) (zz_w s 98 (v1.toNatClampNeg) (s.1 98 5))
    else none
  else
    if zz_in ((650 : Int32) + v2) 780 = true then
    if zz_in (((130 : Int32) * v1) + v2) 780 = true then
    f_M_readText_L105 n v1 (v2 + (1 : Int32)) (zz_w (zz_w s 96 ((((130 : Int32) * v1) + v2).toNatClampNeg) (vp_nar .byte (s.1 96 (((650 : Int32) + v2).toNatClampNeg)))) 97 ((((130 : Int32) * v1) + v2).toNatClampNeg) (s.1 97 (((650 : Int32) + v2).toNatClampNeg)))
    else none
    else none
def f_M_readText_J86 (v1 : Int32) (s : zz_S) : Option (Int32 × zz_S) :=
  if (s.1 79 25) < 0 then
    f_M_readText_L105 zF v1 (0 : Int32) (zz_w s 79 23 (0 : Int32))
  else
    some ((s.1 79 25), (zz_w s 79 23 (0 : Int32)))
def f_M_readText_J64 (v1 : Int32) (s : zz_S) : Option (Int32 × zz_S) :=
  if 0 ≤ (s.1 79 25) then
    f_M_readText_J86 v1 s
  else
    if (s.1 79 23) ≤ (s.1 79 24) then
      f_M_readText_J86 v1 s
    else
      f_M_readText_J86 v1 (f_M_faulty s)
def f_M_readText_L31 : Nat → Int32 → zz_S → Option (Int32 × zz_S)
  | 0, _, _ => none
  | n + 1, v1, s =>
  if 0 ≤ (s.1 79 25) then
    f_M_readText_J64 v1 s
  else
    (f_M_look s).bind fun q14 =>
    if q14 = (59 : Int32) then
      (f_M_line (zz_w s 79 24 ((s.1 79 24) + (1 : Int32)))).bind fun q16 =>
      f_M_readText_L31 n v1 q16
    else
      f_M_readText_J64 v1 s
def f_M_readText (a1 : Int32) (s : zz_S) : Option (Int32 × zz_S) :=
  (f_M_line (zz_w (zz_w (zz_w (zz_w (zz_w s 79 24 (0 : Int32)) 79 25 (-1 : Int32)) 79 26 (0 : Int32)) 79 27 (0 : Int32)) 98 5 (0 : Int32))).bind fun q1 =>
  f_M_readText_L31 zF a1 q1
def f_M_law (s : zz_S) : Option (Int32 × zz_S) :=
  if (s.1 79 35) = (4 : Int32) then
    some ((-3 : Int32), s)
  else
    (f_M_readText (s.1 79 35) s).bind fun q2 =>
    if q2.1 < 0 then
      some ((((q2.2.1 79 35) + (1 : Int32)) - (1 : Int32)), (zz_w q2.2 79 35 ((q2.2.1 79 35) + (1 : Int32))))
    else
      some (((-100 : Int32) - q2.1), q2.2)
def f_M_lies (a1 : Int32) (a2 : Int32) (s : zz_S) : Option (Int32 × zz_S) :=
  if (f_M_isCover a1 s) = 0 then
    some ((-2000000000 : Int32), s)
  else
    if (f_M_isMinute a2) = 0 then
      some ((-2000000000 : Int32), s)
    else
      (f_M_night a2 s).bind fun q3 =>
      if zz_in a1 3 = true then
      some ((q3.1 104 (a1.toNatClampNeg)), q3)
      else none
def f_M_mend (a1 : Int32) (a2 : Int32) (a3 : Int32) (s : zz_S) : Option (Int32 × zz_S) :=
  if a2 = (0 : Int32) then
    if (f_M_isSleeper a1 s) = 0 then
      some ((-1 : Int32), s)
    else
      if (f_M_in a3 (0 : Int32) (99 : Int32)) = 0 then
        some ((-1 : Int32), s)
      else
        (f_M_changes (0 : Int32) a1 a3 s).bind fun q4 =>
        some (q4.1, q4.2)
  else
  if a2 = (1 : Int32) then
    if (f_M_isSleeper a1 s) = 0 then
      some ((-1 : Int32), s)
    else
      if (f_M_in a3 (0 : Int32) (99 : Int32)) = 0 then
        some ((-1 : Int32), s)
      else
        (f_M_changes (1 : Int32) a1 a3 s).bind fun q8 =>
        some (q8.1, q8.2)
  else
  if a2 = (2 : Int32) then
    if (f_M_isCover a1 s) = 0 then
      some ((-1 : Int32), s)
    else
      if (f_M_in a3 (5 : Int32) (80 : Int32)) = 0 then
        some ((-1 : Int32), s)
      else
        (f_M_changes (2 : Int32) a1 a3 s).bind fun q12 =>
        some (q12.1, q12.2)
  else
  if a2 = (3 : Int32) then
    if (f_M_isCover a1 s) = 0 then
      some ((-1 : Int32), s)
    else
      if (f_M_in a3 (0 : Int32) (9 : Int32)) = 0 then
        some ((-1 : Int32), s)
      else
        (f_M_changes (3 : Int32) a1 a3 s).bind fun q16 =>
        some (q16.1, q16.2)
  else
  some ((-1 : Int32), s)
def f_M_minutes (a1 : Int32) (a2 : Int32) (s : zz_S) : Option (Int32 × zz_S) :=
  if (f_M_isSleeper a1 s) = 0 then
    some ((-1 : Int32), s)
  else
    if (f_M_in a2 (0 : Int32) (2 : Int32)) = 0 then
      some ((-1 : Int32), s)
    else
      (f_M_night (479 : Int32) s).bind fun q3 =>
      if a2 = 0 then
        if zz_in a1 6 = true then
        some ((q3.1 107 (a1.toNatClampNeg)), q3)
        else none
      else
        if a2 = (1 : Int32) then
          if zz_in a1 6 = true then
          some ((q3.1 108 (a1.toNatClampNeg)), q3)
          else none
        else
          if zz_in a1 6 = true then
          some ((q3.1 109 (a1.toNatClampNeg)), q3)
          else none
def f_M_morning_J99 (K49 : Int32 → Int32 → Int32 → Int32 → Int32 → Int32 → zz_S → Option (Int32 × zz_S)) (v1 : Int32) (v2 : Int32) (v3 : Int32) (v6 : Int32) (v7 : Int32) (s : zz_S) : Option (Int32 × zz_S) :=
  K49 v1 v2 v3 v6 v7 (v6 + (1 : Int32)) s
def f_M_morning_L49 : Nat → Int32 → Int32 → Int32 → Int32 → Int32 → Int32 → zz_S → Option (Int32 × zz_S)
  | 0, _, _, _, _, _, _, _ => none
  | n + 1, v1, v2, v3, v4, v5, v6, s =>
  if (s.1 79 2) ≤ v6 then
    if v3 = 0 then
      some (v4, (zz_w s 79 51 (-1 : Int32)))
    else
      some (v5, (zz_w s 79 51 (-1 : Int32)))
  else
    (f_M_night (479 : Int32) (zz_w s 79 51 v6)).bind fun q7 =>
    if zz_in v1 3 = true then
    if v4 < 0 then
      f_M_morning_J99 (f_M_morning_L49 n) v1 v2 v3 v6 (f_M_sizeOf ((q7.1 104 (v1.toNatClampNeg)) - v2)) q7
    else
      if (f_M_sizeOf ((q7.1 104 (v1.toNatClampNeg)) - v2)) < v5 then
        f_M_morning_J99 (f_M_morning_L49 n) v1 v2 v3 v6 (f_M_sizeOf ((q7.1 104 (v1.toNatClampNeg)) - v2)) q7
      else
        f_M_morning_L49 n v1 v2 v3 v4 v5 (v6 + (1 : Int32)) q7
    else none
def f_M_morning (a1 : Int32) (a2 : Int32) (a3 : Int32) (s : zz_S) : Option (Int32 × zz_S) :=
  if (f_M_isCover a1 s) = 0 then
    some ((-1 : Int32), s)
  else
    if (f_M_in a2 (-99 : Int32) (99 : Int32)) = 0 then
      some ((-1 : Int32), s)
    else
      if (f_M_in a3 (0 : Int32) (1 : Int32)) = 0 then
        some ((-1 : Int32), s)
      else
        if (s.1 79 2) = 0 then
          some ((-5 : Int32), s)
        else
          f_M_morning_L49 zF a1 a2 a3 (-1 : Int32) (0 : Int32) (0 : Int32) s
def f_M_of (a1 : Int32) (a2 : Int32) (s : zz_S) : Option (Int32) :=
  if (f_M_in a2 (0 : Int32) (3 : Int32)) = 0 then
    if (f_M_in a2 (10 : Int32) (13 : Int32)) = 0 then
      if (f_M_in a2 (20 : Int32) (22 : Int32)) = 0 then
        some (-2000000000 : Int32)
      else
        if (f_M_in a1 (0 : Int32) ((s.1 79 12) - (1 : Int32))) = 0 then
          some (-2000000000 : Int32)
        else
          if a2 = (20 : Int32) then
            if zz_in a1 60 = true then
            some (s.1 88 (a1.toNatClampNeg))
            else none
          else
            if a2 = (21 : Int32) then
              if zz_in a1 60 = true then
              some (s.1 89 (a1.toNatClampNeg))
              else none
            else
              if zz_in a1 60 = true then
              some (s.1 90 (a1.toNatClampNeg))
              else none
    else
      if (f_M_isCover a1 s) = 0 then
        some (-2000000000 : Int32)
      else
        if a2 = (10 : Int32) then
          if zz_in a1 3 = true then
          some (s.1 84 (a1.toNatClampNeg))
          else none
        else
          if a2 = (11 : Int32) then
            if zz_in a1 3 = true then
            some (s.1 85 (a1.toNatClampNeg))
            else none
          else
            if a2 = (12 : Int32) then
              if zz_in a1 3 = true then
              some (s.1 86 (a1.toNatClampNeg))
              else none
            else
              if zz_in a1 3 = true then
              some (s.1 87 (a1.toNatClampNeg))
              else none
  else
    if (f_M_isSleeper a1 s) = 0 then
      some (-2000000000 : Int32)
    else
      if a2 = 0 then
        if zz_in a1 6 = true then
        some (s.1 80 (a1.toNatClampNeg))
        else none
      else
        if a2 = (1 : Int32) then
          if zz_in a1 6 = true then
          some (s.1 81 (a1.toNatClampNeg))
          else none
        else
          if a2 = (2 : Int32) then
            if zz_in a1 6 = true then
            some (s.1 82 (a1.toNatClampNeg))
            else none
          else
            if zz_in a1 6 = true then
            some (s.1 83 (a1.toNatClampNeg))
            else none
def f_M_put_J95 (t1 : Int32) (t2 : Int64) (s : zz_S) : Option (Int32 × zz_S) :=
  if zz_in t1 360 = true then
  some ((1 : Int32), (zz_wl s 121 (t1.toNatClampNeg) t2))
  else none
def f_M_put (a1 : Int32) (a2 : Int32) (a3 : Int64) (s : zz_S) : Option (Int32 × zz_S) :=
  (f_M_whyNoPlace a1 a2 s).bind fun q1 =>
  if 0 ≤ q1 then
    if zz_in a1 6 = true then
    if ((-2 : Int32) - (s.1 119 (a1.toNatClampNeg))) = 0 then
      f_M_put_J95 (((60 : Int32) * a1) + a2) a3.toInt32.toInt8.toInt32.toInt64 s
    else
      if ((-2 : Int32) - (s.1 119 (a1.toNatClampNeg))) = (1 : Int32) then
        f_M_put_J95 (((60 : Int32) * a1) + a2) a3.toInt32.toInt16.toInt32.toInt64 s
      else
        if ((-2 : Int32) - (s.1 119 (a1.toNatClampNeg))) = (2 : Int32) then
          f_M_put_J95 (((60 : Int32) * a1) + a2) a3.toInt32.toInt64 s
        else
          if ((-2 : Int32) - (s.1 119 (a1.toNatClampNeg))) = (3 : Int32) then
            f_M_put_J95 (((60 : Int32) * a1) + a2) a3 s
          else
            if (lg_cmp a3 (0 : Int64)) = 0 then
              f_M_put_J95 (((60 : Int32) * a1) + a2) (0 : Int64) s
            else
              f_M_put_J95 (((60 : Int32) * a1) + a2) (1 : Int64) s
    else none
  else
    some (q1, s)
def f_M_redo (s : zz_S) : Option (Int32 × zz_S) :=
  if (s.1 79 17) = 0 then
    some ((-5 : Int32), s)
  else
    if zz_in (s.1 79 16) 40 = true then
    (f_M_lays (s.1 91 ((s.1 79 16).toNatClampNeg)) (s.1 92 ((s.1 79 16).toNatClampNeg)) (s.1 94 ((s.1 79 16).toNatClampNeg)) s).bind fun q3 =>
    some (((q3.1 79 17) - (1 : Int32)), (zz_w (zz_w q3 79 16 ((q3.1 79 16) + (1 : Int32))) 79 17 ((q3.1 79 17) - (1 : Int32))))
    else none
def f_M_room (s : zz_S) : Option (Int32 × zz_S) :=
  (f_M_readText (4 : Int32) s).bind fun q1 =>
  if q1.1 < 0 then
    some ((1 : Int32), (zz_w q1.2 79 37 (1 : Int32)))
  else
    some (((-100 : Int32) - q1.1), q1.2)
def f_M_row_L54 : Nat → Int32 → Int32 → zz_S → Option (Int32 × zz_S)
  | 0, _, _, _ => none
  | n + 1, v1, v4, s =>
  if (((60 : Int32) * v1) + (60 : Int32)) ≤ v4 then
    some ((1 : Int32), s)
  else
    if zz_in v4 360 = true then
    f_M_row_L54 n v1 (v4 + (1 : Int32)) (zz_wl s 121 (v4.toNatClampNeg) (0 : Int64))
    else none
def f_M_row (a1 : Int32) (a2 : Int32) (a3 : Int32) (s : zz_S) : Option (Int32 × zz_S) :=
  if (f_M_isShelf a1) = 0 then
    some ((-1 : Int32), s)
  else
    if (f_M_in a2 (0 : Int32) (4 : Int32)) = 0 then
      some ((-1 : Int32), s)
    else
      if a3 ≤ (60 : Int32) then
        if 0 ≤ a3 then
          if zz_in a1 6 = true then
          f_M_row_L54 zF a1 ((60 : Int32) * a1) (zz_w (zz_w s 119 (a1.toNatClampNeg) ((-2 : Int32) - a2)) 120 (a1.toNatClampNeg) a3)
          else none
        else
          some ((-14 : Int32), s)
      else
        some ((-1 : Int32), s)
def f_M_shift_L150 : Nat → Int32 → Int32 → Int32 → Int32 → zz_S → Option (Int32 × zz_S)
  | 0, _, _, _, _, _ => none
  | n + 1, v3, v4, v5, v6, s =>
  if v5 ≤ v6 then
    some (v5, s)
  else
    if zz_in v6 60 = true then
    if zz_in ((((60 : Int32) * v3) + v4) + v6) 360 = true then
    f_M_shift_L150 n v3 v4 v5 (v6 + (1 : Int32)) (zz_wl s 121 (((((60 : Int32) * v3) + v4) + v6).toNatClampNeg) (s.2 122 (v6.toNatClampNeg)))
    else none
    else none
def f_M_shift_L113 : Nat → Int32 → Int32 → Int32 → Int32 → Int32 → Int32 → zz_S → Option (Int32 × zz_S)
  | 0, _, _, _, _, _, _, _ => none
  | n + 1, v1, v2, v3, v4, v5, v6, s =>
  if v5 ≤ v6 then
    f_M_shift_L150 zF v3 v4 v5 (0 : Int32) s
  else
    if zz_in ((((60 : Int32) * v1) + v2) + v6) 360 = true then
    if zz_in v6 60 = true then
    f_M_shift_L113 n v1 v2 v3 v4 v5 (v6 + (1 : Int32)) (zz_wl s 122 (v6.toNatClampNeg) (s.2 121 (((((60 : Int32) * v1) + v2) + v6).toNatClampNeg)))
    else none
    else none
def f_M_shift (a1 : Int32) (a2 : Int32) (a3 : Int32) (a4 : Int32) (a5 : Int32) (s : zz_S) : Option (Int32 × zz_S) :=
  if (f_M_isShelf a1) = 0 then
    some ((-1 : Int32), s)
  else
    if (f_M_isShelf a3) = 0 then
      some ((-1 : Int32), s)
    else
      if zz_in a1 6 = true then
      if (s.1 119 (a1.toNatClampNeg)) = (-1 : Int32) then
        some ((-11 : Int32), s)
      else
        if zz_in a3 6 = true then
        if (s.1 119 (a3.toNatClampNeg)) = (-1 : Int32) then
          some ((-11 : Int32), s)
        else
          if 0 ≤ (s.1 119 (a1.toNatClampNeg)) then
            some ((-12 : Int32), s)
          else
            if (s.1 119 (a1.toNatClampNeg)) = (s.1 119 (a3.toNatClampNeg)) then
              if a5 < 0 then
                some ((-13 : Int32), s)
              else
                if a2 < 0 then
                  some ((-13 : Int32), s)
                else
                  if a4 < 0 then
                    some ((-13 : Int32), s)
                  else
                    if ((s.1 120 (a1.toNatClampNeg)) - a5) < a2 then
                      some ((-13 : Int32), s)
                    else
                      if a4 ≤ ((s.1 120 (a3.toNatClampNeg)) - a5) then
                        f_M_shift_L113 zF a1 a2 a3 a4 a5 (0 : Int32) s
                      else
                        some ((-13 : Int32), s)
            else
              some ((-12 : Int32), s)
        else none
      else none
def f_M_sleeper (a1 : Int32) (a2 : Int32) (s : zz_S) : Option (Int32 × zz_S) :=
  if a1 < 0 then
    some ((-1 : Int32), s)
  else
    if (f_M_in (a1 / (100 : Int32)) (0 : Int32) (59 : Int32)) = 0 then
      some ((-1 : Int32), s)
    else
      if (f_M_in (a1 % (100 : Int32)) (4 : Int32) (20 : Int32)) = 0 then
        some ((-1 : Int32), s)
      else
        if (s.1 79 1) < ((a1 / (100 : Int32)) + (a1 % (100 : Int32))) then
          some ((-1 : Int32), s)
        else
          if (f_M_in a2 (0 : Int32) (9999 : Int32)) = 0 then
            some ((-1 : Int32), s)
          else
            if (s.1 79 2) = (6 : Int32) then
              some ((-3 : Int32), s)
            else
              if zz_in (s.1 79 2) 6 = true then
              some ((((s.1 79 2) + (1 : Int32)) - (1 : Int32)), (zz_w (zz_w (zz_w (zz_w (zz_w s 80 ((s.1 79 2).toNatClampNeg) (a1 / (100 : Int32))) 81 ((s.1 79 2).toNatClampNeg) (a1 % (100 : Int32))) 82 ((s.1 79 2).toNatClampNeg) (a2 / (100 : Int32))) 83 ((s.1 79 2).toNatClampNeg) (a2 % (100 : Int32))) 79 2 ((s.1 79 2) + (1 : Int32))))
              else none
def f_M_sleeps (a1 : Int32) (a2 : Int32) (a3 : Int32) (s : zz_S) : Option (Int32 × zz_S) :=
  if (f_M_isSleeper a1 s) = 0 then
    some ((-2000000000 : Int32), s)
  else
    if (f_M_isMinute a2) = 0 then
      some ((-2000000000 : Int32), s)
    else
      if (f_M_in a3 (0 : Int32) (3 : Int32)) = 0 then
        some ((-2000000000 : Int32), s)
      else
        (f_M_night a2 s).bind fun q4 =>
        (f_M_degrees a2 q4).bind fun q5 =>
        (f_M_warmOf a1 q5.1 q5.2).bind fun q6 =>
        if a3 = 0 then
          if zz_in a1 6 = true then
          some ((q5.2.1 103 (a1.toNatClampNeg)), q5.2)
          else none
        else
          if a3 = (1 : Int32) then
            (f_M_coveredOf a1 q5.2).bind fun q12 =>
            some (q12, q5.2)
          else
            if a3 = (2 : Int32) then
              some (q6, q5.2)
            else
              if zz_in a1 6 = true then
              if (5 : Int32) < (f_M_sizeOf (q6 - (q5.2.1 82 (a1.toNatClampNeg)))) then
                some ((0 : Int32), q5.2)
              else
                some ((1 : Int32), q5.2)
              else none
def f_M_taken (a1 : Int32) (a2 : Int32) (s : zz_S) : Option (Int32) :=
  if (f_M_isShelf a1) = 0 then
    some (-1 : Int32)
  else
    if (f_M_in a2 (0 : Int32) (7 : Int32)) = 0 then
      some (-1 : Int32)
    else
      if zz_in a1 6 = true then
      if (s.1 119 (a1.toNatClampNeg)) = (-1 : Int32) then
        some (-11 : Int32)
      else
        if (s.1 119 (a1.toNatClampNeg)) < 0 then
          some (-12 : Int32)
        else
          if zz_in (s.1 119 (a1.toNatClampNeg)) 50 = true then
          if (f_M_isUnder (s.1 117 ((s.1 119 (a1.toNatClampNeg)).toNatClampNeg)) a2) = 0 then
            some (-12 : Int32)
          else
            some (s.1 117 ((s.1 119 (a1.toNatClampNeg)).toNatClampNeg))
          else none
      else none
def f_M_took (a1 : Int32) (s : zz_S) : Option (Int32 × zz_S) :=
  if a1 < 0 then
    some ((-2000000000 : Int32), s)
  else
    if (f_M_isSleeper (a1 / (10 : Int32)) s) = 0 then
      some ((-2000000000 : Int32), s)
    else
      if (f_M_isCover (a1 % (10 : Int32)) s) = 0 then
        some ((-2000000000 : Int32), s)
      else
        (f_M_night (479 : Int32) s).bind fun q4 =>
        if zz_in (((3 : Int32) * (a1 / (10 : Int32))) + (a1 % (10 : Int32))) 18 = true then
        some ((q4.1 113 ((((3 : Int32) * (a1 / (10 : Int32))) + (a1 % (10 : Int32))).toNatClampNeg)), q4)
        else none
def f_M_tosses_L58 : Nat → Int32 → Int32 → Int32 → Int32 → zz_S → Option (Int32 × zz_S)
  | 0, _, _, _, _, _ => none
  | n + 1, v1, v2, v3, v4, s =>
  if v3 ≤ v4 then
    some (v3, s)
  else
    if (lg_cmp (v2.toInt64 + ((3 : Int32) * v4).toInt64) (0 : Int64)) < 0 then
      some (v4, s)
    else
      if zz_in v1 6 = true then
      if 0 ≤ (lg_cmp ((v2.toInt64 + ((3 : Int32) * v4).toInt64) + (2 : Int64)) (s.1 120 (v1.toNatClampNeg)).toInt64) then
        some (v4, s)
      else
        if (s.1 79 12) = (60 : Int32) then
          some (v4, s)
        else
          if zz_in (((60 : Int32) * v1) + (v2.toInt64 + ((3 : Int32) * v4).toInt64).toInt32) 360 = true then
          if zz_in ((((60 : Int32) * v1) + (v2.toInt64 + ((3 : Int32) * v4).toInt64).toInt32) + (1 : Int32)) 360 = true then
          if zz_in ((((60 : Int32) * v1) + (v2.toInt64 + ((3 : Int32) * v4).toInt64).toInt32) + (2 : Int32)) 360 = true then
          if (f_M_isTurn (s.2 121 ((((60 : Int32) * v1) + (v2.toInt64 + ((3 : Int32) * v4).toInt64).toInt32).toNatClampNeg)).toInt32 (s.2 121 (((((60 : Int32) * v1) + (v2.toInt64 + ((3 : Int32) * v4).toInt64).toInt32) + (1 : Int32)).toNatClampNeg)).toInt32 (s.2 121 (((((60 : Int32) * v1) + (v2.toInt64 + ((3 : Int32) * v4).toInt64).toInt32) + (2 : Int32)).toNatClampNeg)).toInt32) = 0 then
            some (v4, s)
          else
            (f_M_addTurn (s.2 121 ((((60 : Int32) * v1) + (v2.toInt64 + ((3 : Int32) * v4).toInt64).toInt32).toNatClampNeg)).toInt32 (s.2 121 (((((60 : Int32) * v1) + (v2.toInt64 + ((3 : Int32) * v4).toInt64).toInt32) + (1 : Int32)).toNatClampNeg)).toInt32 (s.2 121 (((((60 : Int32) * v1) + (v2.toInt64 + ((3 : Int32) * v4).toInt64).toInt32) + (2 : Int32)).toNatClampNeg)).toInt32 s).bind fun q16 =>
            f_M_tosses_L58 n v1 v2 v3 (v4 + (1 : Int32)) q16.2
          else none
          else none
          else none
      else none
def f_M_tosses_J43 (v1 : Int32) (v2 : Int32) (v3 : Int32) (s : zz_S) : Option (Int32 × zz_S) :=
  if zz_in v1 6 = true then
  if (s.1 119 (v1.toNatClampNeg)) = (-1 : Int32) then
    some ((0 : Int32), s)
  else
    f_M_tosses_L58 zF v1 v2 v3 (0 : Int32) s
  else none
def f_M_tosses (a1 : Int32) (a2 : Int32) (a3 : Int32) (s : zz_S) : Option (Int32 × zz_S) :=
  if (f_M_isShelf a1) = 0 then
    some ((-1 : Int32), s)
  else
    if (f_M_in a3 (1 : Int32) (20 : Int32)) = 0 then
      some ((-1 : Int32), s)
    else
      if zz_in a1 6 = true then
      if (s.1 119 (a1.toNatClampNeg)) = (-1 : Int32) then
        f_M_tosses_J43 a1 a2 a3 s
      else
        if (s.1 119 (a1.toNatClampNeg)) = (-3 : Int32) then
          f_M_tosses_J43 a1 a2 a3 s
        else
          some ((-12 : Int32), s)
      else none
def f_M_trace (a1 : Int32) (s : zz_S) : Option (Int32) :=
  if a1 < 0 then
    some (-1 : Int32)
  else
    if (s.1 79 57) ≤ a1 then
      some (-1 : Int32)
    else
      if (24 : Int32) ≤ a1 then
        some (-1 : Int32)
      else
        if zz_in a1 24 = true then
        some (s.1 118 (a1.toNatClampNeg))
        else none
def f_M_tucked_J71 (K35 : Int32 → Int32 → Int32 → Int32 → Int32 → Int32 → zz_S → Option (Int32 × zz_S)) (v1 : Int32) (v2 : Int32) (v3 : Int32) (v6 : Int32) (v7 : Int32) (s : zz_S) : Option (Int32 × zz_S) :=
  K35 v1 v2 v3 v6 v7 (v6 + (1 : Int32)) s
def f_M_tucked_L35 : Nat → Int32 → Int32 → Int32 → Int32 → Int32 → Int32 → zz_S → Option (Int32 × zz_S)
  | 0, _, _, _, _, _, _, _ => none
  | n + 1, v1, v2, v3, v4, v5, v6, s =>
  if (9 : Int32) < v6 then
    if zz_in v1 3 = true then
    if v2 = 0 then
      some (v4, (zz_w s 87 (v1.toNatClampNeg) v3))
    else
      some (v5, (zz_w s 87 (v1.toNatClampNeg) v3))
    else none
  else
    if zz_in v1 3 = true then
    (f_M_easyOfAll (zz_w s 87 (v1.toNatClampNeg) v6)).bind fun q8 =>
    if v4 < 0 then
      f_M_tucked_J71 (f_M_tucked_L35 n) v1 v2 v3 v6 q8.1 q8.2
    else
      if v5 < q8.1 then
        f_M_tucked_J71 (f_M_tucked_L35 n) v1 v2 v3 v6 q8.1 q8.2
      else
        f_M_tucked_L35 n v1 v2 v3 v4 v5 (v6 + (1 : Int32)) q8.2
    else none
def f_M_tucked (a1 : Int32) (a2 : Int32) (s : zz_S) : Option (Int32 × zz_S) :=
  if (f_M_isCover a1 s) = 0 then
    some ((-1 : Int32), s)
  else
    if (f_M_in a2 (0 : Int32) (1 : Int32)) = 0 then
      some ((-1 : Int32), s)
    else
      if zz_in a1 3 = true then
      f_M_tucked_L35 zF a1 a2 (s.1 87 (a1.toNatClampNeg)) (-1 : Int32) (0 : Int32) (0 : Int32) s
      else none
def f_M_turn (a1 : Int32) (a2 : Int32) (a3 : Int32) (s : zz_S) : Option (Int32 × zz_S) :=
  if (f_M_isTurn a1 a2 a3) = 0 then
    some ((-1 : Int32), s)
  else
    if (s.1 79 12) = (60 : Int32) then
      some ((-3 : Int32), s)
    else
      (f_M_addTurn a1 a2 a3 s).bind fun q3 =>
      some (q3.1, q3.2)
def f_M_undo (s : zz_S) : Option (Int32 × zz_S) :=
  if (s.1 79 16) = 0 then
    some ((-5 : Int32), s)
  else
    if zz_in ((s.1 79 16) - (1 : Int32)) 40 = true then
    (f_M_lays (s.1 91 (((s.1 79 16) - (1 : Int32)).toNatClampNeg)) (s.1 92 (((s.1 79 16) - (1 : Int32)).toNatClampNeg)) (s.1 93 (((s.1 79 16) - (1 : Int32)).toNatClampNeg)) (zz_w (zz_w s 79 16 ((s.1 79 16) - (1 : Int32))) 79 17 ((s.1 79 17) + (1 : Int32)))).bind fun q3 =>
    some ((q3.1 79 16), q3)
    else none
def f_M_wakes (a1 : Int32) (a2 : Int32) (s : zz_S) : Option (Int32 × zz_S) :=
  if (f_M_isSleeper a1 s) = 0 then
    some ((-2000000000 : Int32), s)
  else
    if (f_M_in a2 (0 : Int32) (1 : Int32)) = 0 then
      some ((-2000000000 : Int32), s)
    else
      (f_M_night (479 : Int32) s).bind fun q3 =>
      if a2 = 0 then
        if zz_in a1 6 = true then
        some ((q3.1 111 (a1.toNatClampNeg)), q3)
        else none
      else
        if zz_in a1 6 = true then
        some ((q3.1 112 (a1.toNatClampNeg)), q3)
        else none
def f_M_wide (a1 : Int32) (s : zz_S) : Option (Int32 × zz_S) :=
  if (f_M_in a1 (20 : Int32) (60 : Int32)) = 0 then
    some ((-1 : Int32), s)
  else
    if (s.1 79 2) ≤ 0 then
      some ((s.1 79 1), (zz_w s 79 1 a1))
    else
      some ((-5 : Int32), s)
def f_M_window_L27 : Nat → Int32 → Int32 → Int32 → Int32 → zz_S → Option (Int32 × zz_S)
  | 0, _, _, _, _, _ => none
  | n + 1, v1, v2, v3, v4, s =>
  if (9 : Int32) < v4 then
    if v1 = 0 then
      some (v2, (zz_w s 79 38 (0 : Int32)))
    else
      some (v3, (zz_w s 79 38 (0 : Int32)))
  else
    (f_M_leastEasy (zz_w s 79 38 v4)).bind fun q5 =>
    if v3 < q5.1 then
      f_M_window_L27 n v1 v4 q5.1 (v4 + (1 : Int32)) q5.2
    else
      f_M_window_L27 n v1 v2 v3 (v4 + (1 : Int32)) q5.2
def f_M_window (a1 : Int32) (s : zz_S) : Option (Int32 × zz_S) :=
  if (f_M_in a1 (0 : Int32) (1 : Int32)) = 0 then
    some ((-2000000000 : Int32), s)
  else
    if (s.1 79 2) = 0 then
      some ((-2000000000 : Int32), s)
    else
      f_M_window_L27 zF a1 (0 : Int32) (-1 : Int32) (-9 : Int32) s
theorem zbool_M_in (a b c : Int32) : f_M_in a b c = 0 ∨ f_M_in a b c = 1 := by
  unfold f_M_in
  repeat' split
  all_goals first | exact Or.inl rfl | exact Or.inr rfl
theorem zmem_Bed_mendable (a : Int32) : f_Bed_mendable a ∈ zS0 := by
  unfold f_Bed_mendable
  repeat' split
  all_goals decide
theorem zmem_Tape_signsOf (a : Int32) : f_Tape_signsOf a < 6 := by
  unfold f_Tape_signsOf
  repeat' split
  all_goals decide
