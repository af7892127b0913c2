theorem s_B_cover (a b c : Int32) {s : zz_S} (hn : 0 ≤ (s.1 1 2).toInt) : f_B_cover a b c s =
    if -40 ≤ a.toInt ∧ a.toInt ≤ 60 ∧ 0 ≤ b.toInt ∧ 0 ≤ c.toInt ∧ c.toInt ≤ 9 ∧ 5 ≤ b.toInt / 100 ∧ b.toInt / 100 ≤ 80 ∧ b.toInt % 100 ≤ 50 then
      (if (s.1 1 2).toInt < 3 then some (s.1 1 2, zz_w (zz_w (zz_w (zz_w (zz_w s 6 (s.1 1 2).toInt.toNat a) 7 (s.1 1 2).toInt.toNat (b / 100)) 8 (s.1 1 2).toInt.toNat (b % 100)) 9 (s.1 1 2).toInt.toNat c) 1 2 (s.1 1 2 + 1)) else some (-3, s))
    else some (-1, s) := by
  unfold f_B_cover
  simp only [i_lt, i_le, show (0 : Int32).toInt = 0 from rfl, show (-40 : Int32).toInt = -40 from rfl, show (60 : Int32).toInt = 60 from rfl, show (9 : Int32).toInt = 9 from rfl, show (5 : Int32).toInt = 5 from rfl, show (80 : Int32).toInt = 80 from rfl, show (50 : Int32).toInt = 50 from rfl, show (3 : Int32).toInt = 3 from rfl]
  by_cases hb : b.toInt < 0
  · rw [if_neg (show ¬ (-40 ≤ a.toInt ∧ a.toInt ≤ 60 ∧ 0 ≤ b.toInt ∧ 0 ≤ c.toInt ∧ c.toInt ≤ 9 ∧ 5 ≤ b.toInt / 100 ∧ b.toInt / 100 ≤ 80 ∧ b.toInt % 100 ≤ 50) by omega)]
    rw [if_pos hb]
    repeat' split
    all_goals first | rfl | (exfalso; omega)
  · have hq := i_div100 (a := b) (by omega)
    have hr := i_mod100 (a := b) (by omega)
    rw [if_neg hb, hq, hr]
    by_cases hP : -40 ≤ a.toInt ∧ a.toInt ≤ 60 ∧ 0 ≤ b.toInt ∧ 0 ≤ c.toInt ∧ c.toInt ≤ 9 ∧ 5 ≤ b.toInt / 100 ∧ b.toInt / 100 ≤ 80 ∧ b.toInt % 100 ≤ 50
    · rw [if_pos hP, if_neg (by omega), if_neg (by omega), if_neg (by omega), if_pos (by omega), if_neg (by omega), if_neg (by omega), if_pos (by omega)]
      by_cases h6 : (s.1 1 2).toInt < 3
      · rw [if_pos h6, if_pos h6]
        unfold f_Bed_addCover
        rw [if_pos (i_in.mpr (by omega))]
        show some (_, _) = _
        rw [i_incdec]
        rfl
      · rw [if_neg h6, if_neg h6]
    · rw [if_neg hP]
      repeat' split
      all_goals first | rfl | (exfalso; omega)
theorem s_M_cover (a b c : Int32) {s : zz_S} (hn : 0 ≤ (s.1 79 7).toInt) (hn3 : (s.1 79 7).toInt ≤ 3) : f_M_cover a b c s =
    if -40 ≤ a.toInt ∧ a.toInt ≤ 60 ∧ 0 ≤ b.toInt ∧ 0 ≤ c.toInt ∧ c.toInt ≤ 9 ∧ 5 ≤ b.toInt / 100 ∧ b.toInt / 100 ≤ 80 ∧ b.toInt % 100 ≤ 50 then
      (if (s.1 79 7).toInt < 3 then some (s.1 79 7, zz_w (zz_w (zz_w (zz_w (zz_w s 84 (s.1 79 7).toInt.toNat a) 85 (s.1 79 7).toInt.toNat (b / 100)) 86 (s.1 79 7).toInt.toNat (b % 100)) 87 (s.1 79 7).toInt.toNat c) 79 7 (s.1 79 7 + 1)) else some (-3, s))
    else some (-1, s) := by
  unfold f_M_cover
  simp only [M_in0]
  simp only [i_lt, i_eq, show (0 : Int32).toInt = 0 from rfl, show (-40 : Int32).toInt = -40 from rfl, show (60 : Int32).toInt = 60 from rfl, show (9 : Int32).toInt = 9 from rfl, show (5 : Int32).toInt = 5 from rfl, show (80 : Int32).toInt = 80 from rfl, show (50 : Int32).toInt = 50 from rfl, show (3 : Int32).toInt = 3 from rfl]
  by_cases hb : b.toInt < 0
  · rw [if_pos hb, if_neg (show ¬ (-40 ≤ a.toInt ∧ a.toInt ≤ 60 ∧ 0 ≤ b.toInt ∧ 0 ≤ c.toInt ∧ c.toInt ≤ 9 ∧ 5 ≤ b.toInt / 100 ∧ b.toInt / 100 ≤ 80 ∧ b.toInt % 100 ≤ 50) by omega)]
    split <;> rfl
  · have hq := i_div100 (a := b) (by omega)
    have hr := i_mod100 (a := b) (by omega)
    rw [if_neg hb, hq, hr]
    by_cases hP : -40 ≤ a.toInt ∧ a.toInt ≤ 60 ∧ 0 ≤ b.toInt ∧ 0 ≤ c.toInt ∧ c.toInt ≤ 9 ∧ 5 ≤ b.toInt / 100 ∧ b.toInt / 100 ≤ 80 ∧ b.toInt % 100 ≤ 50
    · rw [if_pos hP, if_neg (by omega), if_neg (by omega), if_neg (by omega), if_neg (by omega)]
      by_cases h6 : (s.1 79 7).toInt < 3
      · rw [if_neg (by omega), if_pos h6, if_pos (i_in.mpr (by omega)), i_incdec]
        rfl
      · rw [if_pos (by omega), if_neg h6]
    · rw [if_neg hP]
      repeat' split
      all_goals first | rfl | (exfalso; omega)
theorem p_cover (a b c : Int32) {s : zz_S} (h : iv s) : ag iv (f_B_cover a b c s) (f_M_cover a b c) := by
  obtain ⟨⟨⟨b1, b2, b3⟩, b4, ⟨b5, b5b, b5c, b5d⟩, ⟨b6, b7, b8, b9, b10, b11⟩, b12, b13⟩, ht, hc, hta, hbo, hsh, hla, hre⟩ := id h
  rw [s_B_cover a b c b10]
  by_cases hP : -40 ≤ a.toInt ∧ a.toInt ≤ 60 ∧ 0 ≤ b.toInt ∧ 0 ≤ c.toInt ∧ c.toInt ≤ 9 ∧ 5 ≤ b.toInt / 100 ∧ b.toInt / 100 ≤ 80 ∧ b.toInt % 100 ≤ 50
  · rw [if_pos hP]
    by_cases h6 : (s.1 1 2).toInt < 3
    · rw [if_pos h6]
      refine ag_of rfl ?_
      rw [s_M_cover a b c ?h1 ?h2, if_pos hP, if_pos ?h5]
      case h1 => simpa [w_get, b3] using b10
      case h2 => simpa [w_get, b3] using b11
      case h5 => simpa [w_get, b3] using h6
      refine ⟨_, sp (by simp [w_get, b3]), ?_⟩
      · have hq := i_div100 (a := b) (by omega)
        have hr := i_mod100 (a := b) (by omega)
        have hinc := i_inc (a := s.1 1 2) (by omega)
        refine ⟨⟨?_, ?_, ?_, ?_, ?_, ?_⟩, ?_, ?_, ?_, ?_, ?_, ?_, ?_⟩
        · simp [w_get, b1, b2, b3]
        · simpa [w_row] using b4
        · simp [w_row, b5, b5b, b5c, b5d, b3]
        · simp [w_get, hinc]; omega
        · simpa [w_get] using b12
        · intro i hi
          simp [w_get, hinc] at hi
          by_cases hik : i = (s.1 1 2).toInt.toNat
          · simp [w_get, hik, cOK, hq, hr]
            omega
          · have := b13 i (by omega)
            simpa [w_get, show ¬ i = (s.1 1 2).toNatClampNeg from hik] using this
        · simpa [iv_turn, w_get, w_row] using ht
        · obtain ⟨c1, c2, c3, c4⟩ := hc
          refine ⟨by simpa [w_get] using c1, by simpa [w_get] using c2, by simpa [w_get] using c3, fun k hk => ?_⟩
          obtain ⟨d1, d2, d3, d4, d5⟩ := c4 k (by simpa [w_get] using hk)
          refine ⟨by simpa [w_get] using d1, ?_⟩
          simp [w_get, hOK, hinc]
          exact ⟨d2, d3, fun q => ⟨by have := (d4 q).1; omega, (d4 q).2⟩, fun q => ⟨by have := (d5 q).1; omega, (d5 q).2⟩⟩
        · simpa [iv_tape, w_get, w_row] using hta
        · simpa [iv_body, w_get, w_row] using hbo
        · simpa [iv_shl, w_get, w_row, w_lng] using hsh
        · simpa [iv_law, w_get, w_row] using hla
        · simpa [iv_rest, w_get] using hre
    · rw [if_neg h6]
      refine ⟨_, s, s, rfl, ?_, h⟩
      rw [s_M_cover a b c (s := s) (by rw [b3]; exact b10) (by rw [b3]; exact b11), if_pos hP, if_neg (by rw [b3]; exact h6)]
  · rw [if_neg hP]
    refine ⟨_, s, s, rfl, ?_, h⟩
    rw [s_M_cover a b c (s := s) (by rw [b3]; exact b10) (by rw [b3]; exact b11), if_neg hP]
theorem p_feed (a : Int32) {s : zz_S} (h : iv s) : ag iv (f_B_feed a s) (f_M_feed a) := by
  obtain ⟨hb, ht, hc, ⟨t1, ⟨t2, t3⟩, t4⟩, hbo, hsh, hla, hre⟩ := id h
  have e0 : (0 : Int32).toInt = 0 := rfl
  have e1 : (255 : Int32).toInt = 255 := rfl
  have e2 : (120 : Int32).toInt = 120 := rfl
  unfold f_B_feed
  simp only [i_lt, i_le]
  by_cases h1 : a.toInt < (0 : Int32).toInt
  · rw [if_pos h1]
    refine ⟨_, s, s, rfl, ?_, h⟩
    unfold f_M_feed
    rw [if_pos ((M_in0 _ _ _).mpr (by omega))]
  · rw [if_neg h1]
    by_cases h2 : a.toInt ≤ (255 : Int32).toInt
    · rw [if_pos h2]
      by_cases h3 : (s.1 44 0).toInt < (120 : Int32).toInt
      · rw [if_pos h3]
        unfold f_Tape_add
        rw [if_neg (by rw [i_le]; omega), if_pos (i_in.mpr (by omega))]
        refine ag_of rfl ?_
        unfold f_M_feed
        rw [if_neg (fun q => (M_in0 _ _ _).mp q (by omega)), if_neg ?h1, if_pos ?h2]
        case h1 => rw [i_eq]; simp [w_get, t1]; omega
        case h2 => rw [i_in]; simp [w_get, t1]; omega
        refine ⟨_, sp (by simp [w_get, t1]), ?_⟩
        have hinc := i_inc (a := s.1 44 0) (by omega)
        refine ⟨?_, ?_, ?_, ⟨?_, ?_, ?_⟩, ?_, ?_, ?_, ?_⟩
        · simpa [iv_bed, w_get, w_row] using hb
        · simpa [iv_turn, w_get, w_row] using ht
        · simpa [iv_chg, w_get, w_row] using hc
        · simp [w_get, t1]
        · simp [w_get, hinc]; omega
        · intro k hk
          simp [w_get, hinc] at hk
          by_cases hik : k = (s.1 44 0).toNatClampNeg
          · simp [w_get, t1, hik]
            omega
          · have hik2 : ¬ k = (s.1 44 0).toInt.toNat := hik
            have := t4 k (by omega)
            simpa [w_get, t1, hik] using this
        · simpa [iv_body, w_get, w_row] using hbo
        · simpa [iv_shl, w_get, w_row, w_lng] using hsh
        · simpa [iv_law, w_get, w_row] using hla
        · simpa [iv_rest, w_get] using hre
      · rw [if_neg h3]
        refine ⟨_, s, s, rfl, ?_, h⟩
        unfold f_M_feed
        rw [if_neg (fun q => (M_in0 _ _ _).mp q (by omega)), if_pos (by rw [i_eq, t1]; omega)]
    · rw [if_neg h2]
      refine ⟨_, s, s, rfl, ?_, h⟩
      unfold f_M_feed
      rw [if_pos ((M_in0 _ _ _).mpr (by omega))]
theorem p_body (a : Int32) {s : zz_S} (h : iv s) : ag iv (f_B_body a s) (f_M_body a) := by
  obtain ⟨hb, ht, hc, hta, ⟨⟨o1, o2, o3, o4⟩, ⟨o5, o6, o7, o8⟩, o9⟩, hsh, hla, hre⟩ := id h
  have e0 : (0 : Int32).toInt = 0 := rfl
  have e7 : (7 : Int32).toInt = 7 := rfl
  have e8 : (8 : Int32).toInt = 8 := rfl
  have e2 : (50 : Int32).toInt = 50 := rfl
  have hk : f_B_isKind a = 0 ↔ ¬ (0 ≤ a.toInt ∧ a.toInt ≤ 7) := by
    unfold f_B_isKind
    simp only [i_lt, i_le]
    repeat' split
    all_goals first | (simp; omega) | simp_all
  unfold f_B_body
  by_cases h1 : 0 ≤ a.toInt ∧ a.toInt ≤ 7
  · rw [if_neg (fun q => (hk.mp q) h1)]
    simp only [i_lt]
    by_cases h3 : (s.1 49 0).toInt < (50 : Int32).toInt
    · rw [if_pos h3]
      unfold f_Bodies_add
      rw [if_pos (i_in.mpr (by omega))]
      refine ag_of rfl ?_
      unfold f_M_body
      rw [if_neg (fun q => (M_in0 _ _ _).mp q (by omega)), if_neg ?h1, if_pos ?h2]
      case h1 => rw [i_eq]; simp [w_get, o1]; omega
      case h2 => rw [i_in]; simp [w_get, o1]; omega
      refine ⟨_, sp (by simp [w_get, o1]), ?_⟩
      have hinc := i_inc (a := s.1 49 0) (by omega)
      refine ⟨?_, ?_, ?_, ?_, ⟨?_, ?_, ?_⟩, ?_, ?_, ?_⟩
      · simpa [iv_bed, w_get, w_row] using hb
      · simpa [iv_turn, w_get, w_row] using ht
      · simpa [iv_chg, w_get, w_row] using hc
      · simpa [iv_tape, w_get, w_row] using hta
      · simp [w_get, w_row, o1, o2, o3, o4]
      · simp [w_get, hinc]; omega
      · intro k hk
        simp [w_get, hinc] at hk
        by_cases hik : k = (s.1 49 0).toNatClampNeg
        · simp [w_get, hik]
          omega
        · have hik2 : ¬ k = (s.1 49 0).toInt.toNat := hik
          have := o9 k (by omega)
          simpa [w_get, hik] using this
      · have hmono : ∀ f el ho sz me o, shOK (s.1 49 0) f el ho sz me o → shOK (s.1 49 0 + 1) f el ho sz me o := by
          rintro f el ho sz me o ⟨g1, g2⟩
          refine ⟨g1, ?_⟩
          rcases g2 with g | ⟨g, g', g'', g3⟩ | g
          · exact Or.inl g
          · exact Or.inr (Or.inl ⟨g, g', g'', by omega⟩)
          · exact Or.inr (Or.inr g)
        obtain ⟨k1, k2, k3, k4, k5, k6⟩ := hsh
        simp only [iv_shl, w_get, w_row, w_lng]
        exact ⟨hmono _ _ _ _ _ _ k1, hmono _ _ _ _ _ _ k2, hmono _ _ _ _ _ _ k3, hmono _ _ _ _ _ _ k4, hmono _ _ _ _ _ _ k5, hmono _ _ _ _ _ _ k6⟩
      · simpa [iv_law, w_get, w_row] using hla
      · simpa [iv_rest, w_get] using hre
    · rw [if_neg h3]
      refine ⟨_, s, s, rfl, ?_, h⟩
      unfold f_M_body
      rw [if_neg (fun q => (M_in0 _ _ _).mp q (by omega)), if_pos (by rw [i_eq, o1]; omega)]
  · rw [if_pos (hk.mpr h1)]
    refine ⟨_, s, s, rfl, ?_, h⟩
    unfold f_M_body
    rw [if_pos ((M_in0 _ _ _).mpr (by omega))]
theorem p_trace (a : Int32) {s : zz_S} (h : iv s) : ∃ r, f_B_trace a s = some r ∧ f_M_trace a s = some r := by
  obtain ⟨-, -, -, -, ⟨⟨o1, o2, o3, o4⟩, -⟩, -⟩ := h
  have e0 : (0 : Int32).toInt = 0 := rfl
  have e2 : (24 : Int32).toInt = 24 := rfl
  unfold f_B_trace f_M_trace
  rw [o2, o4]
  simp only [i_lt, i_le, e0, e2]
  by_cases h1 : a.toInt < 0
  · exact ⟨_, if_pos h1, if_pos h1⟩
  · rw [if_neg h1, if_neg h1]
    by_cases h2 : 24 ≤ a.toInt
    · rw [if_pos h2]
      refine ⟨_, rfl, ?_⟩
      split
      · rfl
      · first | rfl | rw [if_pos h2]
    · rw [if_neg h2]
      by_cases h3 : a.toInt < (s.1 49 1).toInt
      · rw [if_pos h3, if_neg (show ¬ (s.1 49 1).toInt ≤ a.toInt by omega), if_neg h2, if_pos (i_in.mpr (show 0 ≤ a.toInt ∧ a.toInt < (24 : Nat) by omega))]
        exact ⟨_, rfl, rfl⟩
      · rw [if_neg h3, if_pos (by omega)]
        exact ⟨_, rfl, rfl⟩
