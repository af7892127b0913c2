theorem sh_kind {s : zz_S} {i : Nat} (h : shAt s i) : (f_Shelf_isEmpty (67 + 2 * i) s = 1 ∧ s.1 119 i = -1) ∨ (f_Shelf_isEmpty (67 + 2 * i) s = 0 ∧ f_Shelf_isRow (67 + 2 * i) s = 0 ∧ (∀ t, f_Shelf_isRowOf (67 + 2 * i) t s = 0) ∧ ¬ s.1 119 i = -1 ∧ 0 ≤ (s.1 119 i).toInt) ∨ (f_Shelf_isEmpty (67 + 2 * i) s = 0 ∧ f_Shelf_isRow (67 + 2 * i) s = 1 ∧ (∀ t, f_Shelf_isRowOf (67 + 2 * i) t s = if s.1 (67 + 2 * i) 2 = t then 1 else 0) ∧ ¬ s.1 119 i = -1 ∧ (s.1 119 i).toInt < 0 ∧ (s.1 119 i).toInt = -2 - (s.1 (67 + 2 * i) 2).toInt ∧ s.1 120 i = s.1 (67 + 2 * i) 3 ∧ 0 ≤ (s.1 (67 + 2 * i) 3).toInt ∧ (s.1 (67 + 2 * i) 3).toInt ≤ 60) := by
  have m1 : (-1 : Int32).toInt = -1 := rfl
  obtain ⟨-, sh2⟩ := h
  unfold f_Shelf_isEmpty f_Shelf_isRow f_Shelf_isRowOf
  rcases sh2 with ⟨e1, e2⟩ | ⟨e1, e2, e3, e4⟩ | ⟨e1, e2, e3, e4, e5, e6, e7⟩
  · have q1 : s.1 (67 + 2 * i) 0 = 0 := i_lit e1
    exact Or.inl ⟨by rw [if_pos q1], i_lit e2⟩
  · have q1 : s.1 (67 + 2 * i) 0 = 1 := i_lit e1
    have q2 : ¬ s.1 119 i = -1 := fun q => by rw [e2] at q; rw [q, m1] at e3; omega
    exact Or.inr (Or.inl ⟨by rw [q1]; rfl, by rw [q1]; rfl, fun t => by rw [q1]; rfl, q2, by rw [e2]; exact e3⟩)
  · have q1 : s.1 (67 + 2 * i) 0 = 2 := i_lit e1
    have q2 : ¬ s.1 119 i = -1 := fun q => by rw [q, m1] at e4; omega
    exact Or.inr (Or.inr ⟨by rw [q1]; rfl, by rw [q1]; rfl, fun t => by rw [if_pos q1], q2, by omega, e4, e5, e6, e7⟩)
theorem l_places (r : Nat) (p n : Int32) {s : zz_S} (h1 : 0 ≤ (s.1 r 3).toInt) (h2 : (s.1 r 3).toInt ≤ 60) : f_Shelf_hasPlaces r p n s = 0 ↔ ¬ (0 ≤ p.toInt ∧ 0 ≤ n.toInt ∧ p.toInt + n.toInt ≤ (s.1 r 3).toInt) := by
  have l0 : (0 : Int32).toInt = 0 := rfl
  have n10 : ¬ (1 : Int32) = 0 := by decide
  have hp := i_hi p
  have hn := i_hi n
  unfold f_Shelf_hasPlaces
  by_cases c1 : p.toInt < 0
  · rw [if_pos (by rw [i_lt, l0]; exact c1)]
    simp only [true_iff]
    omega
  · rw [if_neg (by rw [i_lt, l0]; exact c1)]
    by_cases c2 : n.toInt < 0
    · rw [if_pos (by rw [i_lt, l0]; exact c2)]
      simp only [true_iff]
      omega
    · rw [if_neg (by rw [i_lt, l0]; exact c2)]
      by_cases c3 : (s.1 r 3).toInt < n.toInt
      · rw [if_pos (by rw [i_lt]; exact c3)]
        simp only [true_iff]
        omega
      · rw [if_neg (by rw [i_lt]; exact c3)]
        have hs := i_sub (a := s.1 r 3) (b := n) (by omega) (by omega)
        by_cases c4 : (s.1 r 3).toInt - n.toInt < p.toInt
        · rw [if_pos (by rw [i_lt, hs]; exact c4)]
          simp only [true_iff]
          omega
        · rw [if_neg (by rw [i_lt, hs]; exact c4)]
          simp only [n10, false_iff]
          omega
theorem sh_ref (v1 v2 v3 v4 v5 : Int32) (s : zz_S) (i a j b n : Nat) (h1 : v1.toInt = i) (h2 : v2.toInt = a) (h3 : v3.toInt = j) (h4 : v4.toInt = b) (h5 : v5.toInt = n) (hi : i < 6) (hj : j < 6) (ha : a + n ≤ 60) (hb : b + n ≤ 60) : ∃ s2 : zz_S, f_M_shift_L113 zF v1 v2 v3 v4 v5 0 s = some (v5, s2) ∧ s2.1 = s.1 ∧ (∀ o, o < 121 → s2.2 o = s.2 o) ∧ ∀ k, s2.2 121 k = if 60 * j + b ≤ k ∧ k < 60 * j + b + n then s.2 121 (60 * i + a + (k - (60 * j + b))) else s.2 121 k := by
  have l0 : (0 : Int32).toInt = 0 := rfl
  obtain ⟨t, g1, g2, g3, g4⟩ := sh_out v1 v2 v3 v4 v5 i a n h1 h2 h5 hi ha n zF s 0 (Nat.le_refl n) (by unfold zF; omega) (by rw [l0]; omega)
  obtain ⟨u, k1, k2, k3, k4⟩ := sh_back v3 v4 v5 j b n h3 h4 h5 hj hb n zF t 0 (Nat.le_refl n) (by unfold zF; omega) (by rw [l0]; omega)
  refine ⟨u, by rw [g1, k1], by rw [k2, g2], fun o ho => by rw [k3 o (by omega), g3 o (by omega)], fun k => ?_⟩
  rw [k4 k]
  by_cases c : 60 * j + b ≤ k ∧ k < 60 * j + b + n
  · rw [if_pos (by omega), if_pos c, g4, if_pos (by omega)]
  · rw [if_neg (by omega), if_neg c, g3 121 (by omega)]
