theorem under_all : ∀ k m : Fin 8, f_Bodies_isUnder (Int32.ofNat k) (Int32.ofNat m) = some (f_M_isUnder (Int32.ofNat k) (Int32.ofNat m)) := by decide +kernel
theorem under {k m : Int32} (h1 : 0 ≤ k.toInt) (h2 : k.toInt < 8) (h3 : 0 ≤ m.toInt) (h4 : m.toInt < 8) : f_Bodies_isUnder k m = some (f_M_isUnder k m) := by
  have cut : ∀ x : Int32, 0 ≤ x.toInt → x.toInt < 8 → ∃ j : Fin 8, x = Int32.ofNat j := by
    intro x p q
    have c : x.toInt = 0 ∨ x.toInt = 1 ∨ x.toInt = 2 ∨ x.toInt = 3 ∨ x.toInt = 4 ∨ x.toInt = 5 ∨ x.toInt = 6 ∨ x.toInt = 7 := by omega
    rcases c with q | q | q | q | q | q | q | q
    · exact ⟨0, i_lit q⟩
    · exact ⟨1, i_lit q⟩
    · exact ⟨2, i_lit q⟩
    · exact ⟨3, i_lit q⟩
    · exact ⟨4, i_lit q⟩
    · exact ⟨5, i_lit q⟩
    · exact ⟨6, i_lit q⟩
    · exact ⟨7, i_lit q⟩
  obtain ⟨i, rfl⟩ := cut k h1 h2
  obtain ⟨j, rfl⟩ := cut m h3 h4
  exact under_all i j
theorem l_kind (a : Int32) : (f_B_isKind a = 0 ↔ ¬ (0 ≤ a.toInt ∧ a.toInt < 8)) ∧ (f_M_in a 0 7 = 0 ↔ ¬ (0 ≤ a.toInt ∧ a.toInt < 8)) := by
  have l0 : (0 : Int32).toInt = 0 := rfl
  have l7 : (7 : Int32).toInt = 7 := rfl
  have l8 : (8 : Int32).toInt = 8 := rfl
  have n10 : ¬ (1 : Int32) = 0 := by decide
  constructor
  · unfold f_B_isKind
    simp only [i_lt, i_le, l0, l8]
    repeat' split
    all_goals (try simp only [n10, false_iff, true_iff, not_true_eq_false])
    all_goals (try omega)
  · simp only [M_in0, l0, l7]
    omega
theorem p_taken (a k : Int32) {s : zz_S} (h : iv s) : ∃ w, f_B_taken a k s = some w ∧ f_M_taken a k s = some w := by
  obtain ⟨l1, l2⟩ := l_shelf a
  obtain ⟨l3, l4⟩ := l_kind k
  have l0 : (0 : Int32).toInt = 0 := rfl
  have m1 : (-1 : Int32).toInt = -1 := rfl
  unfold f_B_taken f_M_taken
  by_cases ha : 0 ≤ a.toInt ∧ a.toInt < 6
  · by_cases hkd : 0 ≤ k.toInt ∧ k.toInt < 8
    · have z : zz_in a 6 = true := i_in.mpr (by omega)
      have hk : a.toNatClampNeg = a.toInt.toNat := rfl
      obtain ⟨-, sh2⟩ := (shl_at s).mp h.2.2.2.2.2.1 a.toInt.toNat (by omega)
      obtain ⟨⟨-, -, bk, -⟩, ⟨b1, b2, -⟩, b3⟩ := h.2.2.2.2.1
      rw [if_neg (fun q => l1.mp q ha), if_neg (fun q => l3.mp q hkd), if_pos z, if_neg (fun q => l2.mp q ha), if_neg (fun q => l4.mp q hkd), if_pos z, zr52 ha.1 ha.2, hk]
      generalize a.toInt.toNat = i at *
      unfold f_Shelf_isEmpty f_Shelf_isBody
      rcases sh2 with ⟨e1, e2⟩ | ⟨e1, e2, e3, e4⟩ | ⟨e1, e2, e3, e4, e5, e6, e7⟩
      · have q1 : s.1 (67 + 2 * i) 0 = 0 := i_lit e1
        have q2 : s.1 119 i = -1 := i_lit e2
        exact ⟨-11, by rw [q1]; simp, by rw [if_pos q2]⟩
      · have q1 : s.1 (67 + 2 * i) 0 = 1 := i_lit e1
        have q2 : ¬ s.1 119 i = -1 := fun q => by rw [e2] at q; rw [q, m1] at e3; omega
        have q3 : ¬ s.1 119 i < 0 := by rw [e2, i_lt, l0]; omega
        have z2 : zz_in (s.1 (67 + 2 * i) 1) 50 = true := i_in.mpr (by omega)
        have hkk : (s.1 (67 + 2 * i) 1).toNatClampNeg = (s.1 (67 + 2 * i) 1).toInt.toNat := rfl
        obtain ⟨c1, c2⟩ := b3 (s.1 (67 + 2 * i) 1).toInt.toNat (by omega)
        rw [if_neg q2, if_neg q3, e2, q1, bk, hkk, if_pos z2]
        rw [under c1 (by omega) hkd.1 hkd.2]
        simp only [show ¬ (1 : Int32) = 0 by decide, if_false, if_true, Option.bind_some, if_pos z2]
        by_cases c : f_M_isUnder (s.1 50 (s.1 (67 + 2 * i) 1).toInt.toNat) k = 0
        · exact ⟨-12, by rw [if_pos c], by rw [if_pos c]⟩
        · exact ⟨_, by rw [if_neg c], by rw [if_neg c]⟩
      · have q1 : s.1 (67 + 2 * i) 0 = 2 := i_lit e1
        have q2 : ¬ s.1 119 i = -1 := fun q => by rw [q, m1] at e4; omega
        have q3 : s.1 119 i < 0 := by rw [i_lt, l0]; omega
        exact ⟨-12, by rw [q1]; simp, by rw [if_neg q2, if_pos q3]⟩
    · rw [if_neg (fun q => l1.mp q ha), if_pos (l3.mpr hkd), if_neg (fun q => l2.mp q ha), if_pos (l4.mpr hkd)]
      exact ⟨-1, rfl, rfl⟩
  · rw [if_pos (l1.mpr ha), if_pos (l2.mpr ha)]
    exact ⟨-1, rfl, rfl⟩
