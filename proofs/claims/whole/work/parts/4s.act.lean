theorem ac_draw0 (a x dep : Int32) {c r : zz_S} {n : Int} (f : Nat) (h : acR c r n) (hn : n + 3 < 1000) (ha : zz_in a 50 = true) (hd : dep.toInt ≤ 37) (hd0 : 0 ≤ dep.toInt) (hk0 : 0 ≤ (c.1 50 a.toNatClampNeg).toInt) (hk7 : (c.1 50 a.toNatClampNeg).toInt ≤ 7) : ∃ v c2 r2, g_Bodies_run (f + 4) a 1 0 x dep c = some (v, c2) ∧ f_M_plainDraws a x r = some (v, r2) ∧ acR c2 r2 (n + 1 + 3) ∧ acF c r c2 r2 := by
  obtain ⟨c2, r2, g1, g2, g3, g4⟩ := ac_step 10 h (by omega)
  have l40 : (40 : Int32).toInt = 40 := rfl
  have hdi := i_inc (a := dep) (by omega)
  have e50 : c2.1 50 = c.1 50 := g4.1 50 (by decide) (by decide)
  obtain ⟨v, c3, r3, k2, k3, k4, k5⟩ := ac_turning a x (dep + 1) f g3 (by omega) ha (by omega) (by omega) (by rw [e50]; exact hk0) (by rw [e50]; exact hk7)
  have k1 : f_Bodies_kindThatHas 1 0 = some 0 := by decide +kernel
  refine ⟨v * 2, c3, r3, ?_, ?_, k4, acF_tr g4 k5⟩
  · show f_Bodies_run (f_grp_Bodies_run (f + 3)) a 1 0 x dep c = _
    have e1 : f_grp_Bodies_run (f + 3) a 0 (c2.1 50 a.toNatClampNeg) x (dep + 1) c2 = some (v, c3) := k2
    unfold f_Bodies_run
    rw [k1, Option.bind_some, if_neg (by decide), if_pos (by rw [i_le, l40]; omega), if_pos (by decide), show zz_own.getD ((0 : Int32) * 4 + 1).toNatClampNeg 0 = 10 by decide, g1, Option.bind_some, if_pos (by decide), if_pos ha]
    simp only [show ((10 : Int32) = 1) = False by decide, show ((10 : Int32) = 2) = False by decide, if_false, if_true]
    rw [e1]
    rfl
  · unfold f_M_plainDraws
    rw [g2, Option.bind_some, k3]
    rfl
