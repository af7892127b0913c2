theorem i_lit {a : Int32} {b : Int32} (h : a.toInt = b.toInt) : a = b := Int32.toInt_inj.mp h
theorem t_has (a : Int32) (s : zz_S) : f_Turns_has a s = 0 ↔ ¬ (0 ≤ a.toInt ∧ a.toInt < (s.1 10 0).toInt) := by
  unfold f_Turns_has
  simp only [i_lt, i_le, show (0 : Int32).toInt = 0 from rfl]
  repeat' split
  all_goals first | (simp; omega) | simp_all
theorem b_hasS (a : Int32) (s : zz_S) : f_Bed_hasSleeper a s = 0 ↔ ¬ (0 ≤ a.toInt ∧ a.toInt < (s.1 1 1).toInt) := by
  unfold f_Bed_hasSleeper
  simp only [i_lt, i_le, show (0 : Int32).toInt = 0 from rfl]
  repeat' split
  all_goals first | (simp; omega) | simp_all
theorem b_hasC (a : Int32) (s : zz_S) : f_Bed_hasCover a s = 0 ↔ ¬ (0 ≤ a.toInt ∧ a.toInt < (s.1 1 2).toInt) := by
  unfold f_Bed_hasCover
  simp only [i_lt, i_le, show (0 : Int32).toInt = 0 from rfl]
  repeat' split
  all_goals first | (simp; omega) | simp_all
theorem m_isS (a : Int32) {s : zz_S} (h : 0 ≤ (s.1 79 2).toInt) : f_M_isSleeper a s = 0 ↔ ¬ (0 ≤ a.toInt ∧ a.toInt < (s.1 79 2).toInt) := by
  unfold f_M_isSleeper
  rw [M_in0, i_dec (by omega)]
  show ¬ (0 ≤ a.toInt ∧ _) ↔ _
  omega
theorem m_isC (a : Int32) {s : zz_S} (h : 0 ≤ (s.1 79 7).toInt) : f_M_isCover a s = 0 ↔ ¬ (0 ≤ a.toInt ∧ a.toInt < (s.1 79 7).toInt) := by
  unfold f_M_isCover
  rw [M_in0, i_dec (by omega)]
  show ¬ (0 ≤ a.toInt ∧ _) ↔ _
  omega
theorem p_of (a b : Int32) {s : zz_S} (h : iv s) : ∃ r, f_B_of a b s = some r ∧ f_M_of a b s = some r := by
  obtain ⟨⟨⟨b1, b2, b3⟩, ⟨b4, b4b, b4c, b4d⟩, ⟨b5, b5b, b5c, b5d⟩, ⟨b6, b7, b8, b9, b10, b11⟩, -⟩, ⟨t1, ⟨t2, t3, t4⟩, ⟨t5, t6⟩, -⟩, -⟩ := h
  have hS := b_hasS a s
  have hC := b_hasC a s
  have hT := t_has a s
  have mS := m_isS a (s := s) (by rw [b2]; exact b8)
  have mC := m_isC a (s := s) (by rw [b3]; exact b10)
  have mT : f_M_in a 0 (s.1 79 12 - 1) = 0 ↔ ¬ (0 ≤ a.toInt ∧ a.toInt < (s.1 10 0).toInt) := by
    rw [M_in0, i_dec (by rw [t1]; omega), t1]
    show ¬ (0 ≤ a.toInt ∧ _) ↔ _
    omega
  rw [b2] at mS
  rw [b3] at mC
  have key : ∀ (P : Prop) (x y z w : Int32), (x = 0 ↔ ¬ P) → (y = 0 ↔ ¬ P) → (x = 0 ↔ y = 0) := fun P x y z w h1 h2 => h1.trans h2.symm
  have c0 : b.toInt = 0 ∨ b.toInt = 1 ∨ b.toInt = 2 ∨ b.toInt = 3 ∨ b.toInt = 10 ∨ b.toInt = 11 ∨ b.toInt = 12 ∨ b.toInt = 13 ∨ b.toInt = 20 ∨ b.toInt = 21 ∨ b.toInt = 22 ∨ (¬ (0 ≤ b.toInt ∧ b.toInt ≤ 3) ∧ ¬ (10 ≤ b.toInt ∧ b.toInt ≤ 13) ∧ ¬ (20 ≤ b.toInt ∧ b.toInt ≤ 22)) := by omega
  rcases c0 with q | q | q | q | q | q | q | q | q | q | q | q
  iterate 4
    · first | have e : b = 0 := i_lit q | have e : b = 1 := i_lit q | have e : b = 2 := i_lit q | have e : b = 3 := i_lit q
      subst e
      by_cases hp : 0 ≤ a.toInt ∧ a.toInt < (s.1 1 1).toInt
      · have z : zz_in a 6 = true := i_in.mpr (by omega)
        have n1 : ¬ f_Bed_hasSleeper a s = 0 := fun h => hS.mp h hp
        have n2 : ¬ f_M_isSleeper a s = 0 := fun h => mS.mp h hp
        simp [f_B_of, f_M_of, f_Bed_ofSleeper, n1, n2, z, M_in, b4, b4b, b4c, b4d]
      · have n1 : f_Bed_hasSleeper a s = 0 := hS.mpr hp
        have n2 : f_M_isSleeper a s = 0 := mS.mpr hp
        simp [f_B_of, f_M_of, n1, n2, M_in]
  iterate 4
    · first | have e : b = 10 := i_lit q | have e : b = 11 := i_lit q | have e : b = 12 := i_lit q | have e : b = 13 := i_lit q
      subst e
      by_cases hp : 0 ≤ a.toInt ∧ a.toInt < (s.1 1 2).toInt
      · have z : zz_in a 3 = true := i_in.mpr (by omega)
        have n1 : ¬ f_Bed_hasCover a s = 0 := fun h => hC.mp h hp
        have n2 : ¬ f_M_isCover a s = 0 := fun h => mC.mp h hp
        simp [f_B_of, f_B_of_J35, f_M_of, f_Bed_ofCover, n1, n2, z, M_in, b5, b5b, b5c, b5d]
      · have n1 : f_Bed_hasCover a s = 0 := hC.mpr hp
        have n2 : f_M_isCover a s = 0 := mC.mpr hp
        simp [f_B_of, f_B_of_J35, f_M_of, n1, n2, M_in]
  iterate 3
    · first | have e : b = 20 := i_lit q | have e : b = 21 := i_lit q | have e : b = 22 := i_lit q
      subst e
      by_cases hp : 0 ≤ a.toInt ∧ a.toInt < (s.1 10 0).toInt
      · have z : zz_in a 60 = true := i_in.mpr (by omega)
        have n1 : ¬ f_Turns_has a s = 0 := fun h => hT.mp h hp
        have n2 : ¬ f_M_in a 0 (s.1 79 12 - 1) = 0 := fun h => mT.mp h hp
        have k1 : ¬ f_M_in 20 20 22 = 0 := by decide
        have k2 : ¬ f_M_in 21 20 22 = 0 := by decide
        have k3 : ¬ f_M_in 22 20 22 = 0 := by decide
        have k4 : f_M_in 20 0 3 = 0 ∧ f_M_in 20 10 13 = 0 := by decide
        have k5 : f_M_in 21 0 3 = 0 ∧ f_M_in 21 10 13 = 0 := by decide
        have k6 : f_M_in 22 0 3 = 0 ∧ f_M_in 22 10 13 = 0 := by decide
        simp [f_B_of, f_B_of_J35, f_B_of_J76, f_M_of, f_Turns_ofTurn, n1, n2, z, k1, k2, k3, k4, k5, k6, t2, t3, t4]
      · have n1 : f_Turns_has a s = 0 := hT.mpr hp
        have n2 : f_M_in a 0 (s.1 79 12 - 1) = 0 := mT.mpr hp
        have k1 : ¬ f_M_in 20 20 22 = 0 := by decide
        have k2 : ¬ f_M_in 21 20 22 = 0 := by decide
        have k3 : ¬ f_M_in 22 20 22 = 0 := by decide
        have k4 : f_M_in 20 0 3 = 0 ∧ f_M_in 20 10 13 = 0 := by decide
        have k5 : f_M_in 21 0 3 = 0 ∧ f_M_in 21 10 13 = 0 := by decide
        have k6 : f_M_in 22 0 3 = 0 ∧ f_M_in 22 10 13 = 0 := by decide
        simp [f_B_of, f_B_of_J35, f_B_of_J76, f_M_of, n1, n2, k1, k2, k3, k4, k5, k6]
  · obtain ⟨q1, q2, q3⟩ := q
    refine ⟨-2000000000, ?_, ?_⟩
    · have e76 : f_B_of_J76 a b s = some (-2000000000) := by
        unfold f_B_of_J76
        simp only [i_lt, show (20 : Int32).toInt = 20 from rfl, show (22 : Int32).toInt = 22 from rfl]
        by_cases g1 : b.toInt < 20
        · rw [if_pos g1]
        · rw [if_neg g1, if_pos (by omega)]
      have e35 : f_B_of_J35 a b s = some (-2000000000) := by
        unfold f_B_of_J35
        simp only [i_lt, show (10 : Int32).toInt = 10 from rfl, show (13 : Int32).toInt = 13 from rfl]
        by_cases g1 : b.toInt < 10
        · rw [if_pos g1, e76]
        · rw [if_neg g1, if_pos (by omega), e76]
      unfold f_B_of
      simp only [i_lt, show (0 : Int32).toInt = 0 from rfl, show (3 : Int32).toInt = 3 from rfl]
      by_cases g1 : b.toInt < 0
      · rw [if_pos g1, e35]
      · rw [if_neg g1, if_pos (by omega), e35]
    · unfold f_M_of
      rw [if_pos ((M_in0 b 0 3).mpr q1), if_pos ((M_in0 b 10 13).mpr q2), if_pos ((M_in0 b 20 22).mpr q3)]
