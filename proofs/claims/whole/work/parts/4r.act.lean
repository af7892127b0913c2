theorem ac_warming (a x dep : Int32) {c r : zz_S} {n : Int} (f : Nat) (h : acR c r n) (hn : n + 5 < 1000) (ha : zz_in a 50 = true) (hd : dep.toInt ≤ 37) (hd0 : 0 ≤ dep.toInt) (hk0 : 0 ≤ (c.1 50 a.toNatClampNeg).toInt) (hk7 : (c.1 50 a.toNatClampNeg).toInt ≤ 7) : ∃ v c2 r2, g_Bodies_run (f + 4) a 2 (c.1 50 a.toNatClampNeg) x dep c = some (v, c2) ∧ f_M_warming a x r = some (v, r2) ∧ acR c2 r2 (n + 5) ∧ acF c r c2 r2 := by
  have e50 : r.1 117 = c.1 50 := h.1.2.2.symm
  have l40 : (40 : Int32).toInt = 40 := rfl
  have w5 := ac_warm5 a x dep f h hn ha hd hd0 hk0 hk7
  unfold f_M_warming
  rw [if_pos ha, e50]
  generalize c.1 50 a.toNatClampNeg = k at *
  have d40 : dep ≤ 40 := by rw [i_le, l40]; omega
  by_cases q3 : k = 3
  · obtain ⟨v, c2, r1, r2, g1, g2, g3, g4, g5⟩ := ac_warm3 a x dep (f + 2) h (by omega) ha (by omega) hd0
    rw [if_pos q3, q3]
    exact ⟨v * 3, c2, r2, g1, by rw [g2, Option.bind_some, g3]; rfl, acR_le g4 (by omega), g5⟩
  · rw [if_neg q3]
    by_cases q5 : k = 5
    · obtain ⟨v, w, c2, r1, r2, r3, g1, g2, g3, g4, g5, g6⟩ := w5
      rw [if_pos q5, q5]
      exact ⟨v - w, c2, r3, g1, by rw [g2, Option.bind_some, g3, Option.bind_some, g4]; rfl, acR_le g5 (by omega), g6⟩
    · rw [if_neg q5]
      have hs : f_Bodies_kindThatHas 2 k = f_Bodies_kindThatHas 2 0 := by
        have cs : k.toInt = 0 ∨ k.toInt = 1 ∨ k.toInt = 2 ∨ k.toInt = 3 ∨ k.toInt = 4 ∨ k.toInt = 5 ∨ k.toInt = 6 ∨ k.toInt = 7 := by omega
        rcases cs with q | q | q | q | q | q | q | q
        · rw [i_lit (b := 0) q]
        · rw [i_lit (b := 1) q]; decide +kernel
        · rw [i_lit (b := 2) q]; decide +kernel
        · exact absurd (i_lit (b := 3) q) q3
        · rw [i_lit (b := 4) q]; decide +kernel
        · exact absurd (i_lit (b := 5) q) q5
        · rw [i_lit (b := 6) q]; decide +kernel
        · rw [i_lit (b := 7) q]; decide +kernel
      obtain ⟨v, c2, r2, g1, g2, g3, g4⟩ := ac_warm0 a x dep (f + 3) h (by omega) ha d40
      exact ⟨v, c2, r2, (ac_start a 2 k 0 x dep c (f + 3) hs).trans g1, by rw [g2]; rfl, acR_le g3 (by omega), g4⟩
