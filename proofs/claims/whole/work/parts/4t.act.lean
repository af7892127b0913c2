theorem ac_draw2 (a x dep : Int32) {c r : zz_S} {n : Int} (f : Nat) (h : acR c r n) (hn : n + 4 < 1000) (ha : zz_in a 50 = true) (hd : dep.toInt ≤ 36) (hd0 : 0 ≤ dep.toInt) (hk0 : 0 ≤ (c.1 50 a.toNatClampNeg).toInt) (hk7 : (c.1 50 a.toNatClampNeg).toInt ≤ 7) : ∃ v c2 r2, g_Bodies_run (f + 5) a 1 2 x dep c = some (v, c2) ∧ f_M_underDraws a x r = some (v, r2) ∧ acR c2 r2 (n + 1 + 1 + 3) ∧ acF c r c2 r2 := by
  obtain ⟨c2, r2, g1, g2, g3, g4⟩ := ac_step 30 h (by omega)
  have l40 : (40 : Int32).toInt = 40 := rfl
  have hdi := i_inc (a := dep) (by omega)
  have e50 : c2.1 50 = c.1 50 := g4.1 50 (by decide) (by decide)
  obtain ⟨v, c3, r3, k2, k3, k4, k5⟩ := ac_draw0 a x (dep + 1) f g3 (by omega) ha (by omega) (by omega) (by rw [e50]; exact hk0) (by rw [e50]; exact hk7)
  have k1 : f_Bodies_kindThatHas 1 2 = some 2 := by decide +kernel
  refine ⟨-v, c3, r3, ?_, ?_, k4, acF_tr g4 k5⟩
  · show f_Bodies_run (f_grp_Bodies_run (f + 4)) a 1 2 x dep c = _
    have e1 : f_grp_Bodies_run (f + 4) a 1 0 x (dep + 1) c2 = some (v, c3) := k2
    unfold f_Bodies_run
    rw [k1, Option.bind_some, if_neg (by decide), if_pos (by rw [i_le, l40]; omega), if_pos (by decide), show zz_own.getD ((2 : Int32) * 4 + 1).toNatClampNeg 0 = 30 by decide, g1, Option.bind_some, if_pos (by decide), if_pos ha]
    simp only [show ((30 : Int32) = 1) = False by decide, show ((30 : Int32) = 2) = False by decide, show ((30 : Int32) = 10) = False by decide, show ((30 : Int32) = 11) = False by decide, show ((30 : Int32) = 20) = False by decide, if_false, if_true]
    rw [show zz_abv.getD (2 : Int32).toNatClampNeg 0 = 0 by decide, e1]
    rfl
  · unfold f_M_underDraws
    rw [g2, Option.bind_some, k3]
    rfl
theorem ac_draw3 (a x dep : Int32) {c r : zz_S} {n : Int} (f : Nat) (h : acR c r n) (hn : n + 5 < 1000) (ha : zz_in a 50 = true) (hd : dep.toInt ≤ 35) (hd0 : 0 ≤ dep.toInt) (hk0 : 0 ≤ (c.1 50 a.toNatClampNeg).toInt) (hk7 : (c.1 50 a.toNatClampNeg).toInt ≤ 7) : ∃ v c2 r1 r2, g_Bodies_run (f + 6) a 1 3 x dep c = some (v, c2) ∧ f_M_ran 41 r = some r1 ∧ f_M_underDraws a (x + 1) r1 = some (v, r2) ∧ acR c2 r2 (n + 1 + 1 + 1 + 3) ∧ acF c r c2 r2 := by
  obtain ⟨c2, r2, g1, g2, g3, g4⟩ := ac_step 41 h (by omega)
  have l40 : (40 : Int32).toInt = 40 := rfl
  have hdi := i_inc (a := dep) (by omega)
  have e50 : c2.1 50 = c.1 50 := g4.1 50 (by decide) (by decide)
  obtain ⟨v, c3, r3, k2, k3, k4, k5⟩ := ac_draw2 a (x + 1) (dep + 1) f g3 (by omega) ha (by omega) (by omega) (by rw [e50]; exact hk0) (by rw [e50]; exact hk7)
  have k1 : f_Bodies_kindThatHas 1 3 = some 3 := by decide +kernel
  refine ⟨v, c3, r2, r3, ?_, g2, k3, k4, acF_tr g4 k5⟩
  show f_Bodies_run (f_grp_Bodies_run (f + 5)) a 1 3 x dep c = _
  have e1 : f_grp_Bodies_run (f + 5) a 1 2 (x + 1) (dep + 1) c2 = some (v, c3) := k2
  unfold f_Bodies_run
  rw [k1, Option.bind_some, if_neg (by decide), if_pos (by rw [i_le, l40]; omega), if_pos (by decide), show zz_own.getD ((3 : Int32) * 4 + 1).toNatClampNeg 0 = 41 by decide, g1, Option.bind_some, if_pos (by decide), if_pos ha]
  simp only [show ((41 : Int32) = 1) = False by decide, show ((41 : Int32) = 2) = False by decide, show ((41 : Int32) = 10) = False by decide, show ((41 : Int32) = 11) = False by decide, show ((41 : Int32) = 20) = False by decide, show ((41 : Int32) = 30) = False by decide, show ((41 : Int32) = 40) = False by decide, if_false, if_true]
  rw [show zz_abv.getD (3 : Int32).toNatClampNeg 0 = 2 by decide, e1]
  rfl
theorem ac_draw7 (a x dep : Int32) {c r : zz_S} {n : Int} (f : Nat) (h : acR c r n) (hn : n + 10 < 1000) (ha : zz_in a 50 = true) (hd : dep.toInt ≤ 35) (hd0 : 0 ≤ dep.toInt) (hk0 : 0 ≤ (c.1 50 a.toNatClampNeg).toInt) (hk7 : (c.1 50 a.toNatClampNeg).toInt ≤ 7) : ∃ v w c2 r1 r2 r3, g_Bodies_run (f + 6) a 1 7 x dep c = some (v + w, c2) ∧ f_M_ran 80 r = some r1 ∧ f_M_plainDraws a x r1 = some (v, r2) ∧ f_M_warming a 2 r2 = some (w, r3) ∧ acR c2 r3 (n + 1 + 1 + 3 + 5) ∧ acF c r c2 r3 := by
  obtain ⟨c2, r2, g1, g2, g3, g4⟩ := ac_step 80 h (by omega)
  have l40 : (40 : Int32).toInt = 40 := rfl
  have hdi := i_inc (a := dep) (by omega)
  have e50 : c2.1 50 = c.1 50 := g4.1 50 (by decide) (by decide)
  obtain ⟨v, c3, r3, k2, k3, k4, k5⟩ := ac_draw0 a x (dep + 1) (f + 1) g3 (by omega) ha (by omega) (by omega) (by rw [e50]; exact hk0) (by rw [e50]; exact hk7)
  have e50' : c3.1 50 = c.1 50 := (k5.1 50 (by decide) (by decide)).trans e50
  obtain ⟨w, c4, r4, m2, m3, m4, m5⟩ := ac_warming a 2 (dep + 1) (f + 1) k4 (by omega) ha (by omega) (by omega) (by rw [e50']; exact hk0) (by rw [e50']; exact hk7)
  have k1 : f_Bodies_kindThatHas 1 7 = some 7 := by decide +kernel
  refine ⟨v, w, c4, r2, r3, r4, ?_, g2, k3, m3, m4, acF_tr g4 (acF_tr k5 m5)⟩
  show f_Bodies_run (f_grp_Bodies_run (f + 5)) a 1 7 x dep c = _
  have e1 : f_grp_Bodies_run (f + 5) a 1 6 x (dep + 1) c2 = some (v, c3) := (ac_start a 1 6 0 x (dep + 1) c2 (f + 4) (by decide +kernel)).trans k2
  have e2 : f_grp_Bodies_run (f + 5) a 2 (c2.1 50 a.toNatClampNeg) 2 (dep + 1) c3 = some (w, c4) := by rw [e50, ← e50']; exact m2
  unfold f_Bodies_run
  rw [k1, Option.bind_some, if_neg (by decide), if_pos (by rw [i_le, l40]; omega), if_pos (by decide), show zz_own.getD ((7 : Int32) * 4 + 1).toNatClampNeg 0 = 80 by decide, g1, Option.bind_some, if_pos (by decide), if_pos ha]
  simp only [show ((80 : Int32) = 1) = False by decide, show ((80 : Int32) = 2) = False by decide, show ((80 : Int32) = 10) = False by decide, show ((80 : Int32) = 11) = False by decide, show ((80 : Int32) = 20) = False by decide, show ((80 : Int32) = 30) = False by decide, show ((80 : Int32) = 40) = False by decide, show ((80 : Int32) = 41) = False by decide, show ((80 : Int32) = 50) = False by decide, show ((80 : Int32) = 60) = False by decide, show ((80 : Int32) = 61) = False by decide, show ((80 : Int32) = 70) = False by decide, if_false, if_true]
  rw [show zz_abv.getD (7 : Int32).toNatClampNeg 0 = 6 by decide, e1, Option.bind_some, e2]
  rfl
