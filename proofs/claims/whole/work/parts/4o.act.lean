/-- a run that only answers: kind 0's turning -/
theorem ac_turn0 (a x dep : Int32) {c r : zz_S} {n : Int} (f : Nat) (h : acR c r n) (hn : n < 1000) (ha : zz_in a 50 = true) (hd : dep ≤ 40) : ∃ v c2 r2, g_Bodies_run (f + 1) a 0 0 x dep c = some (v, c2) ∧ f_M_plainTurns a x r = some (v, r2) ∧ acR c2 r2 (n + 1) ∧ acF c r c2 r2 := by
  obtain ⟨c2, r2, g1, g2, g3, g4⟩ := ac_step 1 h hn
  have k1 : f_Bodies_kindThatHas 0 0 = some 0 := by decide +kernel
  refine ⟨x + a, c2, r2, ?_, ?_, g3, g4⟩
  · show f_Bodies_run (f_grp_Bodies_run f) a 0 0 x dep c = _
    unfold f_Bodies_run
    rw [k1, Option.bind_some, if_neg (by decide), if_pos hd, if_pos (by decide), show zz_own.getD ((0 : Int32) * 4 + 0).toNatClampNeg 0 = 1 by decide, g1, Option.bind_some, if_pos (by decide), if_pos ha, if_pos rfl]
  · unfold f_M_plainTurns
    rw [g2]
    rfl
