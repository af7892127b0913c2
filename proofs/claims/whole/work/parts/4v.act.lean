/-! act -/
theorem p_act (a m x : Int32) {s : zz_S} (h : iv s) : ag iv (f_B_act a m x s) (f_M_act a m x) := by
  have hiv := h
  obtain ⟨hb, ht, hc, hta, ⟨⟨b1, b2, b3, b4⟩, ⟨b5, b6, b7, b8⟩, b9⟩, hsh, hla, hre⟩ := h
  have l0 : (0 : Int32).toInt = 0 := rfl
  have l1 : (1 : Int32).toInt = 1 := rfl
  have l3 : (3 : Int32).toInt = 3 := rfl
  have l4 : (4 : Int32).toInt = 4 := rfl
  refine lock (s := s) fun r hr => ?_
  have q57 : r.1 79 = s.1 79 := by rw [← hr]; rfl
  have q117 : r.1 117 = s.1 117 := by rw [← hr]; rfl
  have q118 : r.1 118 = s.1 118 := by rw [← hr]; rfl
  have hdec := i_dec (a := s.1 49 0) (by omega)
  have hB : f_M_isBody a (zz_w r 79 57 0) = 0 ↔ ¬ (0 ≤ a.toInt ∧ a.toInt < (s.1 49 0).toInt) := by
    unfold f_M_isBody
    rw [M_in0, show (zz_w r 79 57 0).1 79 55 = s.1 49 0 from by rw [← b1, ← q57]; simp [w_get], l0, hdec]
    omega
  have hA : f_Bodies_has a (zz_w s 49 1 0) = 0 ↔ ¬ (0 ≤ a.toInt ∧ a.toInt < (s.1 49 0).toInt) := by
    unfold f_Bodies_has
    rw [show (zz_w s 49 1 0).1 49 0 = s.1 49 0 from by simp [w_get]]
    by_cases c1 : a.toInt < 0
    · rw [if_pos (by rw [i_lt, l0]; exact c1)]; simp; omega
    · rw [if_neg (by rw [i_lt, l0]; exact c1)]
      by_cases c2 : (s.1 49 0).toInt ≤ a.toInt
      · rw [if_pos (by rw [i_le]; exact c2)]; simp; omega
      · rw [if_neg (by rw [i_le]; exact c2)]; simp; omega
  -- what holds behind it
  have fin : ∀ c2 r2 : zz_S, acR c2 r2 1000 → acF (zz_w s 49 1 0) (zz_w r 79 57 0) c2 r2 → iv (mix c2 r2) ∧ rf s c2 ∧ cl r r2 := by
    intro c2 r2 ⟨⟨g1, g2, g3⟩, g4, g5⟩ ⟨k1, k2, k3, k4, k5, k6⟩
    have f1 : ∀ o, o ≠ 49 → o ≠ 51 → c2.1 o = s.1 o := fun o h1 h2 => (k1 o h1 h2).trans (by simp [w_row, h1])
    have f2 : ∀ o, o ≠ 79 → o ≠ 118 → r2.1 o = r.1 o := fun o h1 h2 => (k4 o h1 h2).trans (by simp [w_row, h1])
    have f3 : ∀ k, k ≠ 57 → r2.1 79 k = r.1 79 k := fun k h1 => (k6 k h1).trans (by simp [w_get, h1])
    have f4 : c2.1 49 0 = s.1 49 0 := k3.trans (by simp [w_get])
    have f5 : c2.2 = s.2 := k2
    have f6 : r2.2 = r.2 := k5
    have M : ∀ o, o ≠ 49 → o ≠ 51 → o ≠ 79 → o ≠ 118 → (mix c2 r2).1 o = s.1 o := fun o h1 h2 h3 h4 => by
      show (if o < 79 then c2.1 o else r2.1 o) = s.1 o
      by_cases q : o < 79
      · rw [if_pos q, f1 o h1 h2]
      · rw [if_neg q, f2 o h3 h4, ← hr]
        show r.1 o = (if o < 79 then s.1 o else r.1 o)
        rw [if_neg q]
    have M79 : ∀ k, k ≠ 57 → (mix c2 r2).1 79 k = s.1 79 k := fun k h1 => by
      show r2.1 79 k = s.1 79 k
      rw [f3 k h1, q57]
    have M2 : (mix c2 r2).2 = s.2 := by
      rw [← hr]
      refine funext fun o => ?_
      show (if o < 79 then c2.2 o else r2.2 o) = (if o < 79 then s.2 o else r.2 o)
      rw [f5, f6]
    have m49 : (mix c2 r2).1 49 0 = s.1 49 0 := f4
    refine ⟨⟨?_, ?_, ?_, ?_, ?_, ?_, ?_, ?_⟩, fun o ho => ⟨f1 o (by omega) (by omega), by rw [f5]⟩, fun o ho => ⟨f2 o (by omega) (by omega), by rw [f6]⟩⟩
    · unfold iv_bed at hb ⊢
      rw [M79 1 (by decide), M79 2 (by decide), M79 7 (by decide), M 1 (by decide) (by decide) (by decide) (by decide), M 2 (by decide) (by decide) (by decide) (by decide), M 3 (by decide) (by decide) (by decide) (by decide), M 4 (by decide) (by decide) (by decide) (by decide), M 5 (by decide) (by decide) (by decide) (by decide), M 6 (by decide) (by decide) (by decide) (by decide), M 7 (by decide) (by decide) (by decide) (by decide), M 8 (by decide) (by decide) (by decide) (by decide), M 9 (by decide) (by decide) (by decide) (by decide), M 80 (by decide) (by decide) (by decide) (by decide), M 81 (by decide) (by decide) (by decide) (by decide), M 82 (by decide) (by decide) (by decide) (by decide), M 83 (by decide) (by decide) (by decide) (by decide), M 84 (by decide) (by decide) (by decide) (by decide), M 85 (by decide) (by decide) (by decide) (by decide), M 86 (by decide) (by decide) (by decide) (by decide), M 87 (by decide) (by decide) (by decide) (by decide)]
      exact hb
    · unfold iv_turn at ht ⊢
      rw [M79 12 (by decide), M 10 (by decide) (by decide) (by decide) (by decide), M 11 (by decide) (by decide) (by decide) (by decide), M 12 (by decide) (by decide) (by decide) (by decide), M 13 (by decide) (by decide) (by decide) (by decide), M 14 (by decide) (by decide) (by decide) (by decide), M 88 (by decide) (by decide) (by decide) (by decide), M 89 (by decide) (by decide) (by decide) (by decide), M 90 (by decide) (by decide) (by decide) (by decide)]
      exact ht
    · unfold iv_chg at hc ⊢
      rw [M79 16 (by decide), M79 17 (by decide), M 1 (by decide) (by decide) (by decide) (by decide), M 39 (by decide) (by decide) (by decide) (by decide), M 40 (by decide) (by decide) (by decide) (by decide), M 41 (by decide) (by decide) (by decide) (by decide), M 42 (by decide) (by decide) (by decide) (by decide), M 43 (by decide) (by decide) (by decide) (by decide), M 91 (by decide) (by decide) (by decide) (by decide), M 92 (by decide) (by decide) (by decide) (by decide), M 93 (by decide) (by decide) (by decide) (by decide), M 94 (by decide) (by decide) (by decide) (by decide)]
      exact hc
    · unfold iv_tape at hta ⊢
      rw [M79 23 (by decide), M 44 (by decide) (by decide) (by decide) (by decide), M 48 (by decide) (by decide) (by decide) (by decide), M 95 (by decide) (by decide) (by decide) (by decide)]
      exact hta
    · refine ⟨⟨?_, ?_, ?_, ?_⟩, ⟨?_, ?_, ?_, ?_⟩, ?_⟩
      · rw [M79 55 (by decide), m49]; exact b1
      · exact g1.symm
      · exact g3.symm
      · exact g2.symm
      · rw [m49]; exact b5
      · rw [m49]; exact b6
      · exact g4
      · exact g5
      · rw [m49, M 50 (by decide) (by decide) (by decide) (by decide)]; exact b9
    · unfold iv_shl at hsh ⊢
      rw [M2, m49, M 67 (by decide) (by decide) (by decide) (by decide), M 69 (by decide) (by decide) (by decide) (by decide), M 71 (by decide) (by decide) (by decide) (by decide), M 73 (by decide) (by decide) (by decide) (by decide), M 75 (by decide) (by decide) (by decide) (by decide), M 77 (by decide) (by decide) (by decide) (by decide), M 119 (by decide) (by decide) (by decide) (by decide), M 120 (by decide) (by decide) (by decide) (by decide)]
      exact hsh
    · unfold iv_law at hla ⊢
      rw [M79 35 (by decide), M79 36 (by decide), M79 37 (by decide), M 0 (by decide) (by decide) (by decide) (by decide), M 16 (by decide) (by decide) (by decide) (by decide), M 17 (by decide) (by decide) (by decide) (by decide), M 18 (by decide) (by decide) (by decide) (by decide), M 55 (by decide) (by decide) (by decide) (by decide), M 56 (by decide) (by decide) (by decide) (by decide), M 58 (by decide) (by decide) (by decide) (by decide), M 59 (by decide) (by decide) (by decide) (by decide), M 61 (by decide) (by decide) (by decide) (by decide), M 62 (by decide) (by decide) (by decide) (by decide), M 64 (by decide) (by decide) (by decide) (by decide), M 65 (by decide) (by decide) (by decide) (by decide), M 96 (by decide) (by decide) (by decide) (by decide), M 97 (by decide) (by decide) (by decide) (by decide), M 98 (by decide) (by decide) (by decide) (by decide), M 99 (by decide) (by decide) (by decide) (by decide), M 100 (by decide) (by decide) (by decide) (by decide)]
      exact hla
    · unfold iv_rest at hre ⊢
      rw [M79 51 (by decide), M79 38 (by decide)]
      exact hre
  have hR : acR (zz_w s 49 1 0) (zz_w r 79 57 0) 0 := by
    refine ⟨⟨?_, ?_, ?_⟩, ?_, ?_⟩
    · simp [w_get]
    · simp [w_row, q118, b4]
    · simp [w_row, q117, b3]
    · simp [w_get, l0]
    · simp [w_get, l0]
  unfold f_B_act f_Bodies_runFirst f_M_act
  by_cases ca : 0 ≤ a.toInt ∧ a.toInt < (s.1 49 0).toInt
  · rw [if_neg (fun q => (hA.mp q) ca), if_neg (fun q => (hB.mp q) ca)]
    have ha : zz_in a 50 = true := i_in.mpr (by omega)
    have e50 : (zz_w s 49 1 0).1 50 = s.1 50 := by simp [w_row]
    have hk := b9 a.toNatClampNeg (by rw [i_nat]; omega)
    rw [← e50] at hk
    rw [← e50]
    by_cases cm : 0 ≤ m.toInt ∧ m.toInt ≤ 3
    · have t1 : ¬ f_M_in m 0 3 = 0 := fun q => (M_in0 m 0 3).mp q (by rw [l0, l3]; exact cm)
      rw [if_neg t1, if_neg (by rw [i_lt, l0]; omega), if_pos (by rw [i_lt, l4]; omega), if_pos ha]
      have cs : m.toInt = 0 ∨ m.toInt = 1 ∨ m.toInt = 2 ∨ m.toInt = 3 := by omega
      rcases cs with q | q | q | q
      · obtain rfl : m = 0 := i_lit q
        obtain ⟨v, c2, r2, g1, g2, g3, g4⟩ := ac_turning a x 0 197 hR (by omega) ha (by decide) (by decide) hk.1 hk.2
        obtain ⟨k1, k2, k3⟩ := fin c2 r2 (acR_le g3 (by omega)) g4
        refine ⟨v, c2, r2, ?_, ?_, k1, k2, k3⟩
        · rw [show zR = 197 + 3 from rfl, g1]; rfl
        · rw [if_pos rfl, g2]; rfl
      · obtain rfl : m = 1 := i_lit q
        obtain ⟨v, c2, r2, g1, g2, g3, g4⟩ := ac_drawing a x 0 194 hR (by omega) ha (by decide) (by decide) hk.1 hk.2
        obtain ⟨k1, k2, k3⟩ := fin c2 r2 (acR_le g3 (by omega)) g4
        refine ⟨v, c2, r2, ?_, ?_, k1, k2, k3⟩
        · rw [show zR = 194 + 6 from rfl, g1]; rfl
        · rw [if_neg (by decide), if_pos rfl, g2]; rfl
      · obtain rfl : m = 2 := i_lit q
        obtain ⟨v, c2, r2, g1, g2, g3, g4⟩ := ac_warming a x 0 196 hR (by omega) ha (by decide) (by decide) hk.1 hk.2
        obtain ⟨k1, k2, k3⟩ := fin c2 r2 (acR_le g3 (by omega)) g4
        refine ⟨v, c2, r2, ?_, ?_, k1, k2, k3⟩
        · rw [show zR = 196 + 4 from rfl, g1]; rfl
        · rw [if_neg (by decide), if_neg (by decide), if_pos rfl, g2]; rfl
      · obtain rfl : m = 3 := i_lit q
        obtain ⟨v, c2, r2, g1, g2, g3, g4⟩ := ac_waking a x 0 191 hR (by omega) ha (by decide) (by decide) hk.1 hk.2
        obtain ⟨k1, k2, k3⟩ := fin c2 r2 (acR_le g3 (by omega)) g4
        refine ⟨v, c2, r2, ?_, ?_, k1, k2, k3⟩
        · rw [show zR = 191 + 9 from rfl, g1]; rfl
        · rw [if_neg (by decide), if_neg (by decide), if_neg (by decide), g2]; rfl
    · have t1 : f_M_in m 0 3 = 0 := (M_in0 m 0 3).mpr (by rw [l0, l3]; exact cm)
      rw [if_pos t1]
      obtain ⟨k1, k2, k3⟩ := fin _ _ (acR_le hR (by omega)) (acF_me _ _)
      refine ⟨0, _, _, ?_, rfl, k1, k2, k3⟩
      by_cases c1 : m.toInt < 0
      · rw [if_pos (by rw [i_lt, l0]; exact c1)]; rfl
      · rw [if_neg (by rw [i_lt, l0]; exact c1), if_neg (by rw [i_lt, l4]; omega)]; rfl
  · rw [if_pos (hA.mpr ca), if_pos (hB.mpr ca)]
    obtain ⟨k1, k2, k3⟩ := fin _ _ (acR_le hR (by omega)) (acF_me _ _)
    exact ⟨0, _, _, rfl, rfl, k1, k2, k3⟩
