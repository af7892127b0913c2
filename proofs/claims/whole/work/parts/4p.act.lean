theorem acR_le {c r : zz_S} {n m : Int} (h : acR c r n) (hm : n ≤ m) : acR c r m := ⟨h.1, h.2.1, by have := h.2.2; omega⟩
theorem ac_turning (a x dep : Int32) {c r : zz_S} {n : Int} (f : Nat) (h : acR c r n) (hn : n + 2 < 1000) (ha : zz_in a 50 = true) (hd : dep.toInt ≤ 38) (hd0 : 0 ≤ dep.toInt) (hk0 : 0 ≤ (c.1 50 a.toNatClampNeg).toInt) (hk7 : (c.1 50 a.toNatClampNeg).toInt ≤ 7) : ∃ v c2 r2, g_Bodies_run (f + 3) a 0 (c.1 50 a.toNatClampNeg) x dep c = some (v, c2) ∧ f_M_turning a x r = some (v, r2) ∧ acR c2 r2 (n + 3) ∧ acF c r c2 r2 := by
  have e50 : r.1 117 = c.1 50 := h.1.2.2.symm
  have l40 : (40 : Int32).toInt = 40 := rfl
  unfold f_M_turning
  rw [if_pos ha, e50]
  generalize c.1 50 a.toNatClampNeg = k at *
  have d40 : dep ≤ 40 := by rw [i_le, l40]; omega
  have zero : f_Bodies_kindThatHas 0 k = f_Bodies_kindThatHas 0 0 → f_M_isUnder k 1 = 0 → ¬ k = 7 → ¬ k = 6 → ∃ v c2 r2, g_Bodies_run (f + 3) a 0 k x dep c = some (v, c2) ∧ (if f_M_isUnder k 1 = 0 then if k = 7 then (f_M_ran 81 r).bind fun q7 => (f_M_legTurns a x q7).bind fun q8 => some (q8.1 - 1, q8.2) else if k = 6 then (f_M_legTurns a x r).bind fun q6 => some (q6.1, q6.2) else (f_M_plainTurns a x r).bind fun q5 => some (q5.1, q5.2) else (f_M_ran 20 r).bind fun q9 => (f_M_plainTurns a x q9).bind fun q10 => some (q10.1 + 3, q10.2)) = some (v, r2) ∧ acR c2 r2 (n + 3) ∧ acF c r c2 r2 := by
    intro h1 h2 h3 h4
    obtain ⟨v, c2, r2, g1, g2, g3, g4⟩ := ac_turn0 a x dep (f + 2) h (by omega) ha d40
    exact ⟨v, c2, r2, (ac_start a 0 k 0 x dep c (f + 2) h1).trans g1, by rw [if_pos h2, if_neg h3, if_neg h4, g2]; rfl, acR_le g3 (by omega), g4⟩
  have one : f_Bodies_kindThatHas 0 k = f_Bodies_kindThatHas 0 1 → ¬ f_M_isUnder k 1 = 0 → ∃ v c2 r2, g_Bodies_run (f + 3) a 0 k x dep c = some (v, c2) ∧ (if f_M_isUnder k 1 = 0 then if k = 7 then (f_M_ran 81 r).bind fun q7 => (f_M_legTurns a x q7).bind fun q8 => some (q8.1 - 1, q8.2) else if k = 6 then (f_M_legTurns a x r).bind fun q6 => some (q6.1, q6.2) else (f_M_plainTurns a x r).bind fun q5 => some (q5.1, q5.2) else (f_M_ran 20 r).bind fun q9 => (f_M_plainTurns a x q9).bind fun q10 => some (q10.1 + 3, q10.2)) = some (v, r2) ∧ acR c2 r2 (n + 3) ∧ acF c r c2 r2 := by
    intro h1 h2
    obtain ⟨v, c2, r1, r2, g1, g2, g3, g4, g5⟩ := ac_turn1 a x dep (f + 1) h (by omega) ha (by omega) hd0
    exact ⟨v + 3, c2, r2, (ac_start a 0 k 1 x dep c (f + 2) h1).trans g1, by rw [if_neg h2, g2, Option.bind_some, g3]; rfl, acR_le g4 (by omega), g5⟩
  have cs : k.toInt = 0 ∨ k.toInt = 1 ∨ k.toInt = 2 ∨ k.toInt = 3 ∨ k.toInt = 4 ∨ k.toInt = 5 ∨ k.toInt = 6 ∨ k.toInt = 7 := by omega
  rcases cs with q | q | q | q | q | q | q | q
  · obtain rfl : k = 0 := i_lit q
    exact zero rfl (by decide) (by decide) (by decide)
  · obtain rfl : k = 1 := i_lit q
    exact one rfl (by decide)
  · obtain rfl : k = 2 := i_lit q
    exact zero (by decide +kernel) (by decide) (by decide) (by decide)
  · obtain rfl : k = 3 := i_lit q
    exact zero (by decide +kernel) (by decide) (by decide) (by decide)
  · obtain rfl : k = 4 := i_lit q
    exact one (by decide +kernel) (by decide)
  · obtain rfl : k = 5 := i_lit q
    exact one (by decide +kernel) (by decide)
  · obtain rfl : k = 6 := i_lit q
    obtain ⟨v, c2, r2, g1, g2, g3, g4⟩ := ac_turn6 a x dep (f + 1) h (by omega) ha (by omega) hd0
    exact ⟨v, c2, r2, g1, by rw [if_pos (by decide), if_neg (by decide), if_pos rfl, g2]; rfl, acR_le g3 (by omega), g4⟩
  · obtain rfl : k = 7 := i_lit q
    obtain ⟨v, c2, r1, r2, g1, g2, g3, g4, g5⟩ := ac_turn7 a x dep f h (by omega) ha (by omega) hd0
    exact ⟨v - 1, c2, r2, g1, by rw [if_pos (by decide), if_pos rfl, g2, Option.bind_some, g3]; rfl, acR_le g4 (by omega), g5⟩
