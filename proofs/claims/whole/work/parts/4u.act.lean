theorem ac_drawing (a x dep : Int32) {c r : zz_S} {n : Int} (f : Nat) (h : acR c r n) (hn : n + 10 < 1000) (ha : zz_in a 50 = true) (hd : dep.toInt ≤ 35) (hd0 : 0 ≤ dep.toInt) (hk0 : 0 ≤ (c.1 50 a.toNatClampNeg).toInt) (hk7 : (c.1 50 a.toNatClampNeg).toInt ≤ 7) : ∃ v c2 r2, g_Bodies_run (f + 6) a 1 (c.1 50 a.toNatClampNeg) x dep c = some (v, c2) ∧ f_M_drawing a x r = some (v, r2) ∧ acR c2 r2 (n + 10) ∧ acF c r c2 r2 := by
  have e50 : r.1 117 = c.1 50 := h.1.2.2.symm
  have l40 : (40 : Int32).toInt = 40 := rfl
  have w0 := ac_draw0 a x dep (f + 2) h (by omega) ha (by omega) hd0 hk0 hk7
  have w2 := ac_draw2 a x dep (f + 1) h (by omega) ha (by omega) hd0 hk0 hk7
  have w3 := ac_draw3 a x dep f h (by omega) ha (by omega) hd0 hk0 hk7
  have w7 := ac_draw7 a x dep f h (by omega) ha (by omega) hd0 hk0 hk7
  unfold f_M_drawing
  rw [if_pos ha, e50]
  generalize c.1 50 a.toNatClampNeg = k at *
  by_cases q3 : k = 3
  · obtain ⟨v, c2, r1, r2, g1, g2, g3, g4, g5⟩ := w3
    rw [if_pos q3, q3]
    exact ⟨v, c2, r2, g1, by rw [g2, Option.bind_some, g3]; rfl, acR_le g4 (by omega), g5⟩
  · rw [if_neg q3]
    by_cases q7 : k = 7
    · obtain ⟨v, w, c2, r1, r2, r3, g1, g2, g3, g4, g5, g6⟩ := w7
      rw [if_pos q7, q7]
      exact ⟨v + w, c2, r3, g1, by rw [g2, Option.bind_some, g3, Option.bind_some, g4]; rfl, acR_le g5 (by omega), g6⟩
    · rw [if_neg q7]
      by_cases q2 : k = 2
      · obtain ⟨v, c2, r2, g1, g2, g3, g4⟩ := w2
        rw [if_pos q2, q2]
        exact ⟨v, c2, r2, g1, by rw [g2]; rfl, acR_le g3 (by omega), g4⟩
      · rw [if_neg q2]
        have hs : f_Bodies_kindThatHas 1 k = f_Bodies_kindThatHas 1 0 := by
          have cs : k.toInt = 0 ∨ k.toInt = 1 ∨ k.toInt = 2 ∨ k.toInt = 3 ∨ k.toInt = 4 ∨ k.toInt = 5 ∨ k.toInt = 6 ∨ k.toInt = 7 := by omega
          rcases cs with q | q | q | q | q | q | q | q
          · rw [i_lit (b := 0) q]
          · rw [i_lit (b := 1) q]; decide +kernel
          · exact absurd (i_lit (b := 2) q) q2
          · exact absurd (i_lit (b := 3) q) q3
          · rw [i_lit (b := 4) q]; decide +kernel
          · rw [i_lit (b := 5) q]; decide +kernel
          · rw [i_lit (b := 6) q]; decide +kernel
          · exact absurd (i_lit (b := 7) q) q7
        obtain ⟨v, c2, r2, g1, g2, g3, g4⟩ := w0
        exact ⟨v, c2, r2, (ac_start a 1 k 0 x dep c (f + 5) hs).trans g1, by rw [g2]; rfl, acR_le g3 (by omega), g4⟩
theorem ac_wake0 (a x dep : Int32) {c r : zz_S} {n : Int} (f : Nat) (h : acR c r n) (hn : n + 16 < 1000) (ha : zz_in a 50 = true) (hd : dep.toInt ≤ 34) (hd0 : 0 ≤ dep.toInt) (hk0 : 0 ≤ (c.1 50 a.toNatClampNeg).toInt) (hk7 : (c.1 50 a.toNatClampNeg).toInt ≤ 7) : ∃ v c2 r2, g_Bodies_run (f + 7) a 3 0 x dep c = some (v, c2) ∧ f_M_plainWakes a x r = some (v, r2) ∧ acR c2 r2 (n + 1 + 10 + 5) ∧ acF c r c2 r2 := by
  obtain ⟨c2, r2, g1, g2, g3, g4⟩ := ac_step 2 h (by omega)
  have l40 : (40 : Int32).toInt = 40 := rfl
  have hdi := i_inc (a := dep) (by omega)
  have e50 : c2.1 50 = c.1 50 := g4.1 50 (by decide) (by decide)
  obtain ⟨v, c3, r3, k2, k3, k4, k5⟩ := ac_drawing a x (dep + 1) f g3 (by omega) ha (by omega) (by omega) (by rw [e50]; exact hk0) (by rw [e50]; exact hk7)
  have e50' : c3.1 50 = c2.1 50 := k5.1 50 (by decide) (by decide)
  obtain ⟨w, c4, r4, m2, m3, m4, m5⟩ := ac_warming a 1 (dep + 1) (f + 2) k4 (by omega) ha (by omega) (by omega) (by rw [e50', e50]; exact hk0) (by rw [e50', e50]; exact hk7)
  have k1 : f_Bodies_kindThatHas 3 0 = some 0 := by decide +kernel
  refine ⟨v - w, c4, r4, ?_, ?_, m4, acF_tr g4 (acF_tr k5 m5)⟩
  · show f_Bodies_run (f_grp_Bodies_run (f + 6)) a 3 0 x dep c = _
    have e1 : f_grp_Bodies_run (f + 6) a 1 (c2.1 50 a.toNatClampNeg) x (dep + 1) c2 = some (v, c3) := k2
    have e2 : f_grp_Bodies_run (f + 6) a 2 (c2.1 50 a.toNatClampNeg) 1 (dep + 1) c3 = some (w, c4) := by rw [← e50']; exact m2
    unfold f_Bodies_run
    rw [k1, Option.bind_some, if_neg (by decide), if_pos (by rw [i_le, l40]; omega), if_pos (by decide), show zz_own.getD ((0 : Int32) * 4 + 3).toNatClampNeg 0 = 2 by decide, g1, Option.bind_some, if_pos (by decide), if_pos ha]
    simp only [show ((2 : Int32) = 1) = False by decide, if_false, if_true]
    rw [e1, Option.bind_some, e2]
    rfl
  · unfold f_M_plainWakes
    rw [g2, Option.bind_some, k3, Option.bind_some, m3]
    rfl
theorem ac_wake4 (a x dep : Int32) {c r : zz_S} {n : Int} (f : Nat) (h : acR c r n) (hn : n + 17 < 1000) (ha : zz_in a 50 = true) (hd : dep.toInt ≤ 33) (hd0 : 0 ≤ dep.toInt) (hk0 : 0 ≤ (c.1 50 a.toNatClampNeg).toInt) (hk7 : (c.1 50 a.toNatClampNeg).toInt ≤ 7) : ∃ v c2 r2, g_Bodies_run (f + 8) a 3 4 x dep c = some (v, c2) ∧ f_M_wokenWakes a x r = some (v, r2) ∧ acR c2 r2 (n + 1 + 1 + 10 + 5) ∧ acF c r c2 r2 := by
  obtain ⟨c2, r2, g1, g2, g3, g4⟩ := ac_step 50 h (by omega)
  have l40 : (40 : Int32).toInt = 40 := rfl
  have hdi := i_inc (a := dep) (by omega)
  have e50 : c2.1 50 = c.1 50 := g4.1 50 (by decide) (by decide)
  obtain ⟨v, c3, r3, k2, k3, k4, k5⟩ := ac_wake0 a x (dep + 1) f g3 (by omega) ha (by omega) (by omega) (by rw [e50]; exact hk0) (by rw [e50]; exact hk7)
  have k1 : f_Bodies_kindThatHas 3 4 = some 4 := by decide +kernel
  refine ⟨v ^^^ 5, c3, r3, ?_, ?_, k4, acF_tr g4 k5⟩
  · show f_Bodies_run (f_grp_Bodies_run (f + 7)) a 3 4 x dep c = _
    have e1 : f_grp_Bodies_run (f + 7) a 3 1 x (dep + 1) c2 = some (v, c3) := (ac_start a 3 1 0 x (dep + 1) c2 (f + 6) (by decide +kernel)).trans k2
    unfold f_Bodies_run
    rw [k1, Option.bind_some, if_neg (by decide), if_pos (by rw [i_le, l40]; omega), if_pos (by decide), show zz_own.getD ((4 : Int32) * 4 + 3).toNatClampNeg 0 = 50 by decide, g1, Option.bind_some, if_pos (by decide), if_pos ha]
    simp only [show ((50 : Int32) = 1) = False by decide, show ((50 : Int32) = 2) = False by decide, show ((50 : Int32) = 10) = False by decide, show ((50 : Int32) = 11) = False by decide, show ((50 : Int32) = 20) = False by decide, show ((50 : Int32) = 30) = False by decide, show ((50 : Int32) = 40) = False by decide, show ((50 : Int32) = 41) = False by decide, if_false, if_true]
    rw [show zz_abv.getD (4 : Int32).toNatClampNeg 0 = 1 by decide, e1]
    rfl
  · unfold f_M_wokenWakes
    rw [g2, Option.bind_some, k3]
    rfl
theorem ac_wake5 (a x dep : Int32) {c r : zz_S} {n : Int} (f : Nat) (h : acR c r n) (hn : n + 18 < 1000) (ha : zz_in a 50 = true) (hd : dep.toInt ≤ 32) (hd0 : 0 ≤ dep.toInt) (hk0 : 0 ≤ (c.1 50 a.toNatClampNeg).toInt) (hk7 : (c.1 50 a.toNatClampNeg).toInt ≤ 7) : ∃ v c2 r1 r2, g_Bodies_run (f + 9) a 3 5 x dep c = some (v + 1, c2) ∧ f_M_ran 61 r = some r1 ∧ f_M_wokenWakes a x r1 = some (v, r2) ∧ acR c2 r2 (n + 1 + 1 + 1 + 10 + 5) ∧ acF c r c2 r2 := by
  obtain ⟨c2, r2, g1, g2, g3, g4⟩ := ac_step 61 h (by omega)
  have l40 : (40 : Int32).toInt = 40 := rfl
  have hdi := i_inc (a := dep) (by omega)
  have e50 : c2.1 50 = c.1 50 := g4.1 50 (by decide) (by decide)
  obtain ⟨v, c3, r3, k2, k3, k4, k5⟩ := ac_wake4 a x (dep + 1) f g3 (by omega) ha (by omega) (by omega) (by rw [e50]; exact hk0) (by rw [e50]; exact hk7)
  have k1 : f_Bodies_kindThatHas 3 5 = some 5 := by decide +kernel
  refine ⟨v, c3, r2, r3, ?_, g2, k3, k4, acF_tr g4 k5⟩
  show f_Bodies_run (f_grp_Bodies_run (f + 8)) a 3 5 x dep c = _
  have e1 : f_grp_Bodies_run (f + 8) a 3 4 x (dep + 1) c2 = some (v, c3) := k2
  unfold f_Bodies_run
  rw [k1, Option.bind_some, if_neg (by decide), if_pos (by rw [i_le, l40]; omega), if_pos (by decide), show zz_own.getD ((5 : Int32) * 4 + 3).toNatClampNeg 0 = 61 by decide, g1, Option.bind_some, if_pos (by decide), if_pos ha]
  simp only [show ((61 : Int32) = 1) = False by decide, show ((61 : Int32) = 2) = False by decide, show ((61 : Int32) = 10) = False by decide, show ((61 : Int32) = 11) = False by decide, show ((61 : Int32) = 20) = False by decide, show ((61 : Int32) = 30) = False by decide, show ((61 : Int32) = 40) = False by decide, show ((61 : Int32) = 41) = False by decide, show ((61 : Int32) = 50) = False by decide, show ((61 : Int32) = 60) = False by decide, if_false, if_true]
  rw [show zz_abv.getD (5 : Int32).toNatClampNeg 0 = 4 by decide, e1]
  rfl
theorem ac_waking (a x dep : Int32) {c r : zz_S} {n : Int} (f : Nat) (h : acR c r n) (hn : n + 18 < 1000) (ha : zz_in a 50 = true) (hd : dep.toInt ≤ 32) (hd0 : 0 ≤ dep.toInt) (hk0 : 0 ≤ (c.1 50 a.toNatClampNeg).toInt) (hk7 : (c.1 50 a.toNatClampNeg).toInt ≤ 7) : ∃ v c2 r2, g_Bodies_run (f + 9) a 3 (c.1 50 a.toNatClampNeg) x dep c = some (v, c2) ∧ f_M_waking a x r = some (v, r2) ∧ acR c2 r2 (n + 18) ∧ acF c r c2 r2 := by
  have e50 : r.1 117 = c.1 50 := h.1.2.2.symm
  have l40 : (40 : Int32).toInt = 40 := rfl
  have w0 := ac_wake0 a x dep (f + 2) h (by omega) ha (by omega) hd0 hk0 hk7
  have w4 := ac_wake4 a x dep (f + 1) h (by omega) ha (by omega) hd0 hk0 hk7
  have w5 := ac_wake5 a x dep f h (by omega) ha (by omega) hd0 hk0 hk7
  unfold f_M_waking
  rw [if_pos ha, e50]
  generalize c.1 50 a.toNatClampNeg = k at *
  by_cases q5 : k = 5
  · obtain ⟨v, c2, r1, r2, g1, g2, g3, g4, g5⟩ := w5
    rw [if_pos q5, q5]
    exact ⟨v + 1, c2, r2, g1, by rw [g2, Option.bind_some, g3]; rfl, acR_le g4 (by omega), g5⟩
  · rw [if_neg q5]
    by_cases q4 : k = 4
    · obtain ⟨v, c2, r2, g1, g2, g3, g4⟩ := w4
      rw [if_pos q4, q4]
      exact ⟨v, c2, r2, g1, by rw [g2]; rfl, acR_le g3 (by omega), g4⟩
    · rw [if_neg q4]
      have hs : f_Bodies_kindThatHas 3 k = f_Bodies_kindThatHas 3 0 := by
        have cs : k.toInt = 0 ∨ k.toInt = 1 ∨ k.toInt = 2 ∨ k.toInt = 3 ∨ k.toInt = 4 ∨ k.toInt = 5 ∨ k.toInt = 6 ∨ k.toInt = 7 := by omega
        rcases cs with q | q | q | q | q | q | q | q
        · rw [i_lit (b := 0) q]
        · rw [i_lit (b := 1) q]; decide +kernel
        · rw [i_lit (b := 2) q]; decide +kernel
        · rw [i_lit (b := 3) q]; decide +kernel
        · exact absurd (i_lit (b := 4) q) q4
        · exact absurd (i_lit (b := 5) q) q5
        · rw [i_lit (b := 6) q]; decide +kernel
        · rw [i_lit (b := 7) q]; decide +kernel
      obtain ⟨v, c2, r2, g1, g2, g3, g4⟩ := w0
      exact ⟨v, c2, r2, (ac_start a 3 k 0 x dep c (f + 8) hs).trans g1, by rw [g2]; rfl, acR_le g3 (by omega), g4⟩
