/-! the plain calls -/
theorem p_wide (a : Int32) {s : zz_S} (h : iv s) : ag iv (f_B_wide a s) (f_M_wide a) := by
  obtain ⟨⟨⟨b1, b2, b3⟩, b4, b5, ⟨b6, b7, b8, b9, b10, b11⟩, b12, b13⟩, hr⟩ := id h
  unfold f_B_wide
  simp only [i_lt, i_le]
  by_cases h1 : a.toInt < (20 : Int32).toInt
  · rw [if_pos h1]
    refine ⟨_, s, s, rfl, ?_, h⟩
    unfold f_M_wide
    rw [if_pos ((M_in0 _ _ _).mpr (by omega))]
  · rw [if_neg h1]
    by_cases h2 : a.toInt ≤ (60 : Int32).toInt
    · rw [if_pos h2]
      have e1 : (20 : Int32).toInt = 20 := rfl
      have e2 : (60 : Int32).toInt = 60 := rfl
      have e3 : (0 : Int32).toInt = 0 := rfl
      by_cases h3 : (s.1 1 1).toInt ≤ (0 : Int32).toInt
      · rw [if_pos h3]
        refine ⟨_, _, zz_w (zz_w s 1 0 a) 79 1 a, rfl, ?_, ?_⟩
        · unfold f_M_wide
          rw [if_neg (fun q => (M_in0 _ _ _).mp q (by omega)), if_pos (by rw [i_le]; simp only [w_get]; simpa [b2] using h3)]
          simp [w_get, b1]
        · refine ⟨⟨?_, ?_, ?_, ?_, ?_, ?_⟩, ?_⟩
          · simp [w_get, b2, b3]
          · simpa [w_row] using b4
          · simpa [w_row] using b5
          · simp [w_get]; omega
          · intro i hi
            simp [w_get] at hi
            omega
          · simpa [w_get] using b13
          · simpa [iv_turn, iv_chg, iv_tape, iv_body, iv_shl, iv_law, iv_rest, w_get, w_row, w_lng] using hr
      · rw [if_neg h3]
        refine ⟨_, s, s, rfl, ?_, h⟩
        unfold f_M_wide
        rw [if_neg (fun q => (M_in0 _ _ _).mp q (by omega)), if_neg (by rw [i_le, b2]; exact h3)]
    · rw [if_neg h2]
      refine ⟨_, s, s, rfl, ?_, h⟩
      unfold f_M_wide
      rw [if_pos ((M_in0 _ _ _).mpr (by omega))]
theorem p_clear {s : zz_S} (h : iv s) : ag iv (f_B_clear s) f_M_clear := by
  obtain ⟨hb, ⟨t1, t2, t3, t4, t5⟩, hr⟩ := id h
  refine ⟨_, _, zz_w (zz_w s 10 0 0) 79 12 0, rfl, ?_, ?_⟩
  · unfold f_M_clear
    simp [w_get, t1]
  · refine ⟨?_, ⟨?_, ?_, ?_, ?_, ?_⟩, ?_⟩
    · simpa [iv_bed, w_get, w_row] using hb
    · simp [w_get]
    · simpa [w_row] using t2
    · simp [w_get]
    · intro k hk
      simp [w_get] at hk
      omega
    · simp [w_get, byM]
    · simpa [iv_chg, iv_tape, iv_body, iv_shl, iv_law, iv_rest, w_get, w_row, w_lng] using hr
theorem p_force (a : Int32) {s : zz_S} (h : iv s) : ag iv (f_B_force a s) (f_M_force a) := by
  obtain ⟨hb, ht, hc, hta, hbo, hsh, ⟨⟨l1, l2⟩, ⟨l3, l4, l5, l6⟩, l7⟩, hr⟩ := id h
  have em : (-1 : Int32).toInt = -1 := rfl
  have e1 : (1 : Int32).toInt = 1 := rfl
  have es : (s.1 79 35 - 1).toInt = (s.1 0 11).toInt - 1 := by rw [i_sub (by rw [l1]; omega) (by rw [l1]; omega), l1, e1]
  unfold f_B_force
  simp only [i_lt]
  by_cases h1 : a.toInt < (-1 : Int32).toInt
  · rw [if_pos h1]
    refine ⟨_, s, s, rfl, ?_, h⟩
    unfold f_M_force
    rw [if_pos ((M_in0 _ _ _).mpr (by omega))]
  · rw [if_neg h1]
    by_cases h2 : a.toInt < (s.1 0 11).toInt
    · rw [if_pos h2]
      refine ⟨_, _, zz_w (zz_w s 0 12 a) 79 36 a, rfl, ?_, ?_⟩
      · unfold f_M_force
        rw [if_neg (fun q => (M_in0 _ _ _).mp q (by simp [w_get] at *; omega))]
        simp [w_get, l2]
      · refine ⟨?_, ?_, ?_, ?_, ?_, ?_, ⟨⟨?_, ?_⟩, ?_, ?_⟩, ?_⟩
        · simpa [iv_bed, w_get, w_row] using hb
        · simpa [iv_turn, w_get, w_row] using ht
        · simpa [iv_chg, w_get, w_row] using hc
        · simpa [iv_tape, w_get, w_row] using hta
        · simpa [iv_body, w_get, w_row] using hbo
        · simpa [iv_shl, w_get, w_row, w_lng] using hsh
        · simp [w_get, l1]
        · simp [w_get]
        · simp [w_get]; omega
        · simpa [w_get, w_row] using l7
        · simpa [iv_rest, w_get] using hr
    · rw [if_neg h2]
      refine ⟨_, s, s, rfl, ?_, h⟩
      unfold f_M_force
      rw [if_pos ((M_in0 _ _ _).mpr (by omega))]
theorem p_count (a : Int32) {s : zz_S} (h : iv s) : f_M_count a s = f_B_count a s := by
  obtain ⟨⟨⟨b1, b2, b3⟩, -⟩, ⟨t1, -⟩, ⟨c1, -⟩, ⟨u1, -⟩, ⟨⟨o1, o2, -⟩, -⟩, -, ⟨⟨l1, -⟩, -⟩, -⟩ := h
  unfold f_M_count f_B_count
  rw [b2, b3, t1, c1, u1, o1, o2, l1]
theorem s_B_sleeper (a b : Int32) {s : zz_S} (hn : 0 ≤ (s.1 1 1).toInt) (hw : (s.1 1 0).toInt ≤ 60) (hw2 : 20 ≤ (s.1 1 0).toInt) : f_B_sleeper a b s =
    if 0 ≤ a.toInt ∧ 0 ≤ b.toInt ∧ b.toInt ≤ 9999 ∧ 4 ≤ a.toInt % 100 ∧ a.toInt % 100 ≤ 20 ∧ a.toInt / 100 + a.toInt % 100 ≤ (s.1 1 0).toInt then
      (if (s.1 1 1).toInt < 6 then some (s.1 1 1, zz_w (zz_w (zz_w (zz_w (zz_w s 2 (s.1 1 1).toInt.toNat (a / 100)) 3 (s.1 1 1).toInt.toNat (a % 100)) 4 (s.1 1 1).toInt.toNat (b / 100)) 5 (s.1 1 1).toInt.toNat (b % 100)) 1 1 (s.1 1 1 + 1)) else some (-3, s))
    else some (-1, s) := by
  unfold f_B_sleeper
  simp only [i_lt, i_le, show (0 : Int32).toInt = 0 from rfl, show (9999 : Int32).toInt = 9999 from rfl, show (4 : Int32).toInt = 4 from rfl, show (20 : Int32).toInt = 20 from rfl, show (6 : Int32).toInt = 6 from rfl]
  by_cases ha : a.toInt < 0
  · rw [if_pos ha, if_neg (by omega)]
  · have hq := i_div100 (a := a) (by omega)
    have hr := i_mod100 (a := a) (by omega)
    have hs : (s.1 1 0 - a % 100).toInt = (s.1 1 0).toInt - a.toInt % 100 := by rw [i_sub (by omega) (by omega), hr]
    rw [if_neg ha, hq, hr, hs]
    by_cases hP : 0 ≤ a.toInt ∧ 0 ≤ b.toInt ∧ b.toInt ≤ 9999 ∧ 4 ≤ a.toInt % 100 ∧ a.toInt % 100 ≤ 20 ∧ a.toInt / 100 + a.toInt % 100 ≤ (s.1 1 0).toInt
    · rw [if_pos hP, if_neg (by omega), if_pos (by omega), if_neg (by omega), if_neg (by omega), if_pos (by omega)]
      by_cases h6 : (s.1 1 1).toInt < 6
      · rw [if_pos h6, if_pos h6]
        unfold f_Bed_addSleeper
        rw [if_pos (i_in.mpr (by omega))]
        show some (_, _) = _
        rw [i_incdec]
        rfl
      · rw [if_neg h6, if_neg h6]
    · rw [if_neg hP]
      repeat' split
      all_goals first | rfl | (exfalso; omega)
theorem s_M_sleeper (a b : Int32) {s : zz_S} (hn : 0 ≤ (s.1 79 2).toInt) (hn6 : (s.1 79 2).toInt ≤ 6) (hw : (s.1 79 1).toInt ≤ 60) : f_M_sleeper a b s =
    if 0 ≤ a.toInt ∧ 0 ≤ b.toInt ∧ b.toInt ≤ 9999 ∧ 4 ≤ a.toInt % 100 ∧ a.toInt % 100 ≤ 20 ∧ a.toInt / 100 + a.toInt % 100 ≤ (s.1 79 1).toInt then
      (if (s.1 79 2).toInt < 6 then some (s.1 79 2, zz_w (zz_w (zz_w (zz_w (zz_w s 80 (s.1 79 2).toInt.toNat (a / 100)) 81 (s.1 79 2).toInt.toNat (a % 100)) 82 (s.1 79 2).toInt.toNat (b / 100)) 83 (s.1 79 2).toInt.toNat (b % 100)) 79 2 (s.1 79 2 + 1)) else some (-3, s))
    else some (-1, s) := by
  unfold f_M_sleeper
  simp only [M_in0]
  simp only [i_lt, i_eq, show (0 : Int32).toInt = 0 from rfl, show (9999 : Int32).toInt = 9999 from rfl, show (4 : Int32).toInt = 4 from rfl, show (20 : Int32).toInt = 20 from rfl, show (6 : Int32).toInt = 6 from rfl, show (59 : Int32).toInt = 59 from rfl]
  by_cases ha : a.toInt < 0
  · rw [if_pos ha, if_neg (by omega)]
  · have hq := i_div100 (a := a) (by omega)
    have hr := i_mod100 (a := a) (by omega)
    have ht := i_hi a
    have hs : (a / 100 + a % 100).toInt = a.toInt / 100 + a.toInt % 100 := by rw [i_add (by omega) (by omega), hq, hr]
    rw [if_neg ha, hq, hr, hs]
    by_cases hP : 0 ≤ a.toInt ∧ 0 ≤ b.toInt ∧ b.toInt ≤ 9999 ∧ 4 ≤ a.toInt % 100 ∧ a.toInt % 100 ≤ 20 ∧ a.toInt / 100 + a.toInt % 100 ≤ (s.1 79 1).toInt
    · rw [if_pos hP, if_neg (by omega), if_neg (by omega), if_neg (by omega), if_neg (by omega)]
      by_cases h6 : (s.1 79 2).toInt < 6
      · rw [if_neg (by omega), if_pos h6, if_pos (i_in.mpr (by omega)), i_incdec]
        rfl
      · rw [if_pos (by omega), if_neg h6]
    · rw [if_neg hP]
      repeat' split
      all_goals first | rfl | (exfalso; omega)
theorem p_sleeper (a b : Int32) {s : zz_S} (h : iv s) : ag iv (f_B_sleeper a b s) (f_M_sleeper a b) := by
  obtain ⟨⟨⟨b1, b2, b3⟩, ⟨b4, b4b, b4c, b4d⟩, b5, ⟨b6, b7, b8, b9, b10, b11⟩, b12, b13⟩, ht, hc, hta, hbo, hsh, hla, hre⟩ := id h
  rw [s_B_sleeper a b b8 b7 b6]
  by_cases hP : 0 ≤ a.toInt ∧ 0 ≤ b.toInt ∧ b.toInt ≤ 9999 ∧ 4 ≤ a.toInt % 100 ∧ a.toInt % 100 ≤ 20 ∧ a.toInt / 100 + a.toInt % 100 ≤ (s.1 1 0).toInt
  · rw [if_pos hP]
    by_cases h6 : (s.1 1 1).toInt < 6
    · rw [if_pos h6]
      refine ag_of rfl ?_
      rw [s_M_sleeper a b ?h1 ?h2 ?h3, if_pos ?h4, if_pos ?h5]
      case h1 => simpa [w_get, b2] using b8
      case h2 => simpa [w_get, b2] using b9
      case h3 => simpa [w_get, b1] using b7
      case h4 => simpa [w_get, b1] using hP
      case h5 => simpa [w_get, b2] using h6
      refine ⟨_, sp (by simp [w_get, b2]), ?_⟩
      · have hq := i_div100 (a := a) (by omega)
        have hr := i_mod100 (a := a) (by omega)
        have hq2 := i_div100 (a := b) (by omega)
        have hr2 := i_mod100 (a := b) (by omega)
        have hinc := i_inc (a := s.1 1 1) (by omega)
        refine ⟨⟨?_, ?_, ?_, ?_, ?_, ?_⟩, ?_, ?_, ?_, ?_, ?_, ?_, ?_⟩
        · simp [w_get, b1, b2, b3]
        · simp [w_row, b4, b4b, b4c, b4d, b2]
        · simpa [w_row] using b5
        · simp [w_get, hinc]; omega
        · intro i hi
          simp [w_get, hinc] at hi
          by_cases hik : i = (s.1 1 1).toInt.toNat
          · simp [w_get, hik, sOK, hq, hr, hq2, hr2]
            omega
          · have := b12 i (by omega)
            simpa [w_get, show ¬ i = (s.1 1 1).toNatClampNeg from hik] using this
        · simpa [w_get] using b13
        · simpa [iv_turn, w_get, w_row] using ht
        · obtain ⟨c1, c2, c3, c4⟩ := hc
          refine ⟨by simpa [w_get] using c1, by simpa [w_get] using c2, by simpa [w_get] using c3, fun k hk => ?_⟩
          obtain ⟨d1, d2, d3, d4, d5⟩ := c4 k (by simpa [w_get] using hk)
          refine ⟨by simpa [w_get] using d1, ?_⟩
          simp [w_get, hOK, hinc]
          exact ⟨d2, fun q => ⟨by have := (d3 q).1; omega, (d3 q).2⟩, d4, d5⟩
        · simpa [iv_tape, w_get, w_row] using hta
        · simpa [iv_body, w_get, w_row] using hbo
        · simpa [iv_shl, w_get, w_row, w_lng] using hsh
        · simpa [iv_law, w_get, w_row] using hla
        · simpa [iv_rest, w_get] using hre
    · rw [if_neg h6]
      refine ⟨_, s, s, rfl, ?_, h⟩
      rw [s_M_sleeper a b (s := s) (by rw [b2]; exact b8) (by rw [b2]; exact b9) (by rw [b1]; exact b7), if_pos (by rw [b1]; exact hP), if_neg (by rw [b2]; exact h6)]
  · rw [if_neg hP]
    refine ⟨_, s, s, rfl, ?_, h⟩
    rw [s_M_sleeper a b (s := s) (by rw [b2]; exact b8) (by rw [b2]; exact b9) (by rw [b1]; exact b7), if_neg (by rw [b1]; exact hP)]
