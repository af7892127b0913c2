/-- a run that only answers: kind 0's turning -/
theorem ac_turn0 (a x dep : Int32) {c r : zz_S} {n : Int} (f : Nat) (h : acR c r n) (hn : n < 1000) (ha : zz_in a 50 = true) (hd : dep ≤ 40) : ∃ v c2 r2, g_Bodies_run (f + 1) a 0 0 x dep c = some (v, c2) ∧ f_M_plainTurns a x r = some (v, r2) ∧ acR c2 r2 (n + 1) ∧ acF c r c2 r2 := by
  obtain ⟨c2, r2, g1, g2, g3, g4⟩ := ac_step 1 h hn
  have k1 : f_Bodies_kindThatHas 0 0 = some 0 := by decide +kernel
  refine ⟨x + a, c2, r2, ?_, ?_, g3, g4⟩
  · show f_Bodies_run (f_grp_Bodies_run f) a 0 0 x dep c = _
    unfold f_Bodies_run
    rw [k1, Option.bind_some, if_neg (by decide), if_pos hd, if_pos (by decide), show zz_own.getD ((0 : Int32) * 4 + 0).toNatClampNeg 0 = 1 by decide, g1, Option.bind_some, if_pos (by decide), if_pos ha, if_pos rfl]
  · unfold f_M_plainTurns
    rw [g2]
    rfl
theorem ac_warm0 (a x dep : Int32) {c r : zz_S} {n : Int} (f : Nat) (h : acR c r n) (hn : n < 1000) (ha : zz_in a 50 = true) (hd : dep ≤ 40) : ∃ v c2 r2, g_Bodies_run (f + 1) a 2 0 x dep c = some (v, c2) ∧ f_M_plainWarms a x r = some (v, r2) ∧ acR c2 r2 (n + 1) ∧ acF c r c2 r2 := by
  obtain ⟨c2, r2, g1, g2, g3, g4⟩ := ac_step 11 h hn
  have k1 : f_Bodies_kindThatHas 2 0 = some 0 := by decide +kernel
  refine ⟨x ^^^ a, c2, r2, ?_, ?_, g3, g4⟩
  · show f_Bodies_run (f_grp_Bodies_run f) a 2 0 x dep c = _
    unfold f_Bodies_run
    rw [k1, Option.bind_some, if_neg (by decide), if_pos hd, if_pos (by decide), show zz_own.getD ((0 : Int32) * 4 + 2).toNatClampNeg 0 = 11 by decide, g1, Option.bind_some, if_pos (by decide), if_pos ha, if_neg (by decide), if_neg (by decide), if_neg (by decide), if_pos rfl]
  · unfold f_M_plainWarms
    rw [g2]
    rfl
theorem ac_turn6 (a x dep : Int32) {c r : zz_S} {n : Int} (f : Nat) (h : acR c r n) (hn : n + 1 < 1000) (ha : zz_in a 50 = true) (hd : dep.toInt ≤ 39) (hd0 : 0 ≤ dep.toInt) : ∃ v c2 r2, g_Bodies_run (f + 2) a 0 6 x dep c = some (v, c2) ∧ f_M_legTurns a x r = some (v, r2) ∧ acR c2 r2 (n + 1 + 1) ∧ acF c r c2 r2 := by
  obtain ⟨c2, r2, g1, g2, g3, g4⟩ := ac_step 70 h (by omega)
  have l40 : (40 : Int32).toInt = 40 := rfl
  have hdi := i_inc (a := dep) (by omega)
  obtain ⟨v, c3, r3, k2, k3, k4, k5⟩ := ac_turn0 a x (dep + 1) f g3 (by omega) ha (by rw [i_le, l40]; omega)
  have k1 : f_Bodies_kindThatHas 0 6 = some 6 := by decide +kernel
  refine ⟨v * 2, c3, r3, ?_, ?_, k4, acF_tr g4 k5⟩
  · show f_Bodies_run (f_grp_Bodies_run (f + 1)) a 0 6 x dep c = _
    have e1 : f_grp_Bodies_run (f + 1) a 0 0 x (dep + 1) c2 = some (v, c3) := k2
    unfold f_Bodies_run
    rw [k1, Option.bind_some, if_neg (by decide), if_pos (by rw [i_le, l40]; omega), if_pos (by decide), show zz_own.getD ((6 : Int32) * 4 + 0).toNatClampNeg 0 = 70 by decide, g1, Option.bind_some, if_pos (by decide), if_pos ha, if_neg (by decide), if_neg (by decide), if_neg (by decide), if_neg (by decide), if_neg (by decide), if_neg (by decide), if_neg (by decide), if_neg (by decide), if_neg (by decide), if_neg (by decide), if_neg (by decide), if_pos rfl, show zz_abv.getD (6 : Int32).toNatClampNeg 0 = 0 by decide, e1]
    rfl
  · unfold f_M_legTurns
    rw [g2, Option.bind_some, k3]
    rfl
theorem ac_start (a m k k2 x dep : Int32) (c : zz_S) (f : Nat) (h : f_Bodies_kindThatHas m k = f_Bodies_kindThatHas m k2) : g_Bodies_run (f + 1) a m k x dep c = g_Bodies_run (f + 1) a m k2 x dep c := by
  show f_Bodies_run (f_grp_Bodies_run f) a m k x dep c = f_Bodies_run (f_grp_Bodies_run f) a m k2 x dep c
  unfold f_Bodies_run
  rw [h]
theorem ac_turn1 (a x dep : Int32) {c r : zz_S} {n : Int} (f : Nat) (h : acR c r n) (hn : n + 1 < 1000) (ha : zz_in a 50 = true) (hd : dep.toInt ≤ 39) (hd0 : 0 ≤ dep.toInt) : ∃ v c2 r1 r2, g_Bodies_run (f + 2) a 0 1 x dep c = some (v + 3, c2) ∧ f_M_ran 20 r = some r1 ∧ f_M_plainTurns a x r1 = some (v, r2) ∧ acR c2 r2 (n + 1 + 1) ∧ acF c r c2 r2 := by
  obtain ⟨c2, r2, g1, g2, g3, g4⟩ := ac_step 20 h (by omega)
  have l40 : (40 : Int32).toInt = 40 := rfl
  have hdi := i_inc (a := dep) (by omega)
  obtain ⟨v, c3, r3, k2, k3, k4, k5⟩ := ac_turn0 a x (dep + 1) f g3 (by omega) ha (by rw [i_le, l40]; omega)
  have k1 : f_Bodies_kindThatHas 0 1 = some 1 := by decide +kernel
  refine ⟨v, c3, r2, r3, ?_, g2, k3, k4, acF_tr g4 k5⟩
  show f_Bodies_run (f_grp_Bodies_run (f + 1)) a 0 1 x dep c = _
  have e1 : f_grp_Bodies_run (f + 1) a 0 0 x (dep + 1) c2 = some (v, c3) := k2
  unfold f_Bodies_run
  rw [k1, Option.bind_some, if_neg (by decide), if_pos (by rw [i_le, l40]; omega), if_pos (by decide), show zz_own.getD ((1 : Int32) * 4 + 0).toNatClampNeg 0 = 20 by decide, g1, Option.bind_some, if_pos (by decide), if_pos ha, if_neg (by decide), if_neg (by decide), if_neg (by decide), if_neg (by decide), if_pos rfl, show zz_abv.getD (1 : Int32).toNatClampNeg 0 = 0 by decide, e1]
  rfl
theorem ac_turn7 (a x dep : Int32) {c r : zz_S} {n : Int} (f : Nat) (h : acR c r n) (hn : n + 2 < 1000) (ha : zz_in a 50 = true) (hd : dep.toInt ≤ 38) (hd0 : 0 ≤ dep.toInt) : ∃ v c2 r1 r2, g_Bodies_run (f + 3) a 0 7 x dep c = some (v - 1, c2) ∧ f_M_ran 81 r = some r1 ∧ f_M_legTurns a x r1 = some (v, r2) ∧ acR c2 r2 (n + 1 + 1 + 1) ∧ acF c r c2 r2 := by
  obtain ⟨c2, r2, g1, g2, g3, g4⟩ := ac_step 81 h (by omega)
  have l40 : (40 : Int32).toInt = 40 := rfl
  have hdi := i_inc (a := dep) (by omega)
  obtain ⟨v, c3, r3, k2, k3, k4, k5⟩ := ac_turn6 a x (dep + 1) f g3 (by omega) ha (by omega) (by omega)
  have k1 : f_Bodies_kindThatHas 0 7 = some 7 := by decide +kernel
  refine ⟨v, c3, r2, r3, ?_, g2, k3, k4, acF_tr g4 k5⟩
  show f_Bodies_run (f_grp_Bodies_run (f + 2)) a 0 7 x dep c = _
  have e1 : f_grp_Bodies_run (f + 2) a 0 6 x (dep + 1) c2 = some (v, c3) := k2
  unfold f_Bodies_run
  rw [k1, Option.bind_some, if_neg (by decide), if_pos (by rw [i_le, l40]; omega), if_pos (by decide), show zz_own.getD ((7 : Int32) * 4 + 0).toNatClampNeg 0 = 81 by decide, g1, Option.bind_some, if_pos (by decide), if_pos ha]
  simp only [show ((81 : Int32) = 1) = False by decide, show ((81 : Int32) = 2) = False by decide, show ((81 : Int32) = 10) = False by decide, show ((81 : Int32) = 11) = False by decide, show ((81 : Int32) = 20) = False by decide, show ((81 : Int32) = 30) = False by decide, show ((81 : Int32) = 40) = False by decide, show ((81 : Int32) = 41) = False by decide, show ((81 : Int32) = 50) = False by decide, show ((81 : Int32) = 60) = False by decide, show ((81 : Int32) = 61) = False by decide, show ((81 : Int32) = 70) = False by decide, show ((81 : Int32) = 80) = False by decide, if_false, if_true]
  rw [show zz_abv.getD (7 : Int32).toNatClampNeg 0 = 6 by decide, e1]
  rfl
