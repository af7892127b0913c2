theorem why_same {s s1 : zz_S} (a c : Int32) (h : s1.1 = s.1) : f_M_whyNoPlace a c s1 = f_M_whyNoPlace a c s := by
  unfold f_M_whyNoPlace
  rw [h]
theorem place_why (a c : Int32) {s : zz_S} (h : iv s) : ∃ v, f_B_refusalOfPlace a c s = some v ∧ f_M_whyNoPlace a c s = some v ∧ (v.toInt < 0 ∨ (v = 0 ∧ (0 ≤ a.toInt ∧ a.toInt < 6) ∧ 0 ≤ (s.1 (67 + 2 * a.toInt.toNat) 2).toInt ∧ (s.1 (67 + 2 * a.toInt.toNat) 2).toInt ≤ 4 ∧ (s.1 119 a.toInt.toNat).toInt = -2 - (s.1 (67 + 2 * a.toInt.toNat) 2).toInt ∧ 0 ≤ c.toInt ∧ c.toInt < 60 ∧ c.toInt < (s.1 (67 + 2 * a.toInt.toNat) 3).toInt)) := by
  obtain ⟨l1, l2⟩ := l_shelf a
  have l0 : (0 : Int32).toInt = 0 := rfl
  have m1 : (-1 : Int32).toInt = -1 := rfl
  unfold f_B_refusalOfPlace f_B_refusalOfPlace_J48 f_M_whyNoPlace
  by_cases ha : 0 ≤ a.toInt ∧ a.toInt < 6
  · have z : zz_in a 6 = true := i_in.mpr (by omega)
    have hk : a.toNatClampNeg = a.toInt.toNat := rfl
    obtain ⟨-, sh2⟩ := (shl_at s).mp h.2.2.2.2.2.1 a.toInt.toNat (by omega)
    rw [if_neg (fun q => l1.mp q ha), if_pos z, if_neg (fun q => l2.mp q ha), if_pos z, zr52 ha.1 ha.2, hk]
    generalize a.toInt.toNat = i at *
    unfold f_Shelf_isEmpty f_Shelf_isRow
    rcases sh2 with ⟨e1, e2⟩ | ⟨e1, e2, e3, e4⟩ | ⟨e1, e2, e3, e4, e5, e6, e7⟩
    · have q1 : s.1 (67 + 2 * i) 0 = 0 := i_lit e1
      have q2 : s.1 119 i = -1 := i_lit e2
      exact ⟨-11, by rw [q1]; simp, by rw [if_pos q2], Or.inl (by decide)⟩
    · have q1 : s.1 (67 + 2 * i) 0 = 1 := i_lit e1
      have q2 : ¬ s.1 119 i = -1 := fun q => by rw [e2] at q; rw [q, m1] at e3; omega
      have q3 : ¬ s.1 119 i < 0 := by rw [e2, i_lt, l0]; omega
      exact ⟨-12, by rw [q1]; simp, by rw [if_neg q2, if_neg q3], Or.inl (by decide)⟩
    · have q1 : s.1 (67 + 2 * i) 0 = 2 := i_lit e1
      have q2 : ¬ s.1 119 i = -1 := fun q => by rw [q, m1] at e4; omega
      have q3 : s.1 119 i < 0 := by rw [i_lt, l0]; omega
      rw [if_neg q2, if_pos q3, q1, e5]
      by_cases hc : 0 ≤ c.toInt ∧ c.toInt < (s.1 (67 + 2 * i) 3).toInt
      · have c1 : ¬ c < 0 := by rw [i_lt, l0]; omega
        have c2 : c < s.1 (67 + 2 * i) 3 := by rw [i_lt]; omega
        have c3 : ¬ f_M_in c 0 (s.1 (67 + 2 * i) 3 - 1) = 0 := by rw [M_in0, l0, i_dec (by omega)]; omega
        exact ⟨0, by simp [c1, c2], by rw [if_neg c3], Or.inr ⟨rfl, ha, e2, e3, e4, hc.1, by omega, hc.2⟩⟩
      · have c3 : f_M_in c 0 (s.1 (67 + 2 * i) 3 - 1) = 0 := by rw [M_in0, l0, i_dec (by omega)]; omega
        refine ⟨-13, ?_, by rw [if_pos c3], Or.inl (by decide)⟩
        by_cases c1 : c < 0
        · simp [c1]
        · have c2 : ¬ c < s.1 (67 + 2 * i) 3 := by
            rw [i_lt, l0] at c1
            rw [i_lt]
            omega
          simp only [show ¬ (2 : Int32) = 0 by decide, if_false, if_true, c1, c2, show ¬ (1 : Int32) = 0 by decide]
  · rw [if_pos (l1.mpr ha), if_pos (l2.mpr ha)]
    exact ⟨-1, rfl, rfl, Or.inl (by decide)⟩
theorem put_val {so ho : Int32} (v : Int64) (h1 : 0 ≤ so.toInt) (h2 : so.toInt ≤ 4) (h3 : ho.toInt = -2 - so.toInt) : ∃ w : Int64, (∀ (r : Nat) (c : Int32) (s : zz_S), zz_in c 60 = true → s.1 r 2 = so → f_Shelf_set r c v s = some (zz_wl s (r + 1) c.toNatClampNeg w)) ∧ ∀ (a c : Int32) (s : zz_S), zz_in a 6 = true → s.1 119 a.toNatClampNeg = ho → f_M_whyNoPlace a c s = some 0 → zz_in (60 * a + c) 360 = true → f_M_put a c v s = some (1, zz_wl s 121 (60 * a + c).toNatClampNeg w) := by
  have z : ¬ (1 : Int32) = 0 := by decide
  have c0 : so.toInt = 0 ∨ so.toInt = 1 ∨ so.toInt = 2 ∨ so.toInt = 3 ∨ so.toInt = 4 := by omega
  rcases c0 with q | q | q | q | q <;> rw [q] at h3
  · have e1 : so = 0 := i_lit q
    have e2 : ho = -2 := i_lit h3
    subst e1 e2
    exact ⟨v.toInt32.toInt8.toInt32.toInt64, fun r c s z hs => by simp [f_Shelf_set, hs, z], fun a c s z hs hw zz => by simp [f_M_put, f_M_put_J95, hs, z, hw, zz]⟩
  · have e1 : so = 1 := i_lit q
    have e2 : ho = -3 := i_lit h3
    subst e1 e2
    exact ⟨v.toInt32.toInt16.toInt32.toInt64, fun r c s z hs => by simp [f_Shelf_set, hs, z], fun a c s z hs hw zz => by simp [f_M_put, f_M_put_J95, hs, z, hw, zz]⟩
  · have e1 : so = 2 := i_lit q
    have e2 : ho = -4 := i_lit h3
    subst e1 e2
    exact ⟨v.toInt32.toInt64, fun r c s z hs => by simp [f_Shelf_set, hs, z], fun a c s z hs hw zz => by simp [f_M_put, f_M_put_J95, hs, z, hw, zz]⟩
  · have e1 : so = 3 := i_lit q
    have e2 : ho = -5 := i_lit h3
    subst e1 e2
    exact ⟨v, fun r c s z hs => by simp [f_Shelf_set, hs, z], fun a c s z hs hw zz => by simp [f_M_put, f_M_put_J95, hs, z, hw, zz]⟩
  · have e1 : so = 4 := i_lit q
    have e2 : ho = -6 := i_lit h3
    subst e1 e2
    by_cases hv : lg_cmp v 0 = 0
    · exact ⟨0, fun r c s z hs => by simp [f_Shelf_set, f_Shelf_set_J100, hs, z, hv], fun a c s z hs hw zz => by simp [f_M_put, f_M_put_J95, hs, z, hw, zz, hv]⟩
    · exact ⟨1, fun r c s z hs => by simp [f_Shelf_set, f_Shelf_set_J100, hs, z, hv], fun a c s z hs hw zz => by simp [f_M_put, f_M_put_J95, hs, z, hw, zz, hv]⟩
theorem place_at {a c : Int32} (h1 : 0 ≤ a.toInt) (h2 : a.toInt < 6) (h3 : 0 ≤ c.toInt) (h4 : c.toInt < 60) : (60 * a + c).toInt = 60 * a.toInt + c.toInt := by
  have h60 := i_60 h1 h2
  rw [i_add (by rw [h60]; omega) (by rw [h60]; omega), h60]
theorem p_put (a c : Int32) (v : Int64) {s : zz_S} (h : iv s) : ag iv (f_B_put a c v s) (f_M_put a c v) := by
  obtain ⟨w, w1, w2, w3⟩ := place_why a c h
  rcases w3 with w3 | ⟨rfl, ha, e1, e2, e3, e4, e5, e6⟩
  · have n0 : ¬ w = 0 := fun q => by rw [q] at w3; exact absurd w3 (by decide)
    have n1 : ¬ 0 ≤ w := by rw [i_le, show (0 : Int32).toInt = 0 from rfl]; omega
    exact ⟨w, s, s, by simp [f_B_put, w1, n0], by simp only [f_M_put, w2, Option.bind_some, if_neg n1], h⟩
  · have z : zz_in a 6 = true := i_in.mpr (by omega)
    have zc : zz_in c 60 = true := i_in.mpr (by omega)
    have hp := place_at ha.1 ha.2 e4 e5
    have zp : zz_in (60 * a + c) 360 = true := i_in.mpr (by omega)
    have hk : a.toNatClampNeg = a.toInt.toNat := rfl
    have hkc : c.toNatClampNeg = c.toInt.toNat := rfl
    have hkp : (60 * a + c).toNatClampNeg = 60 * a.toInt.toNat + c.toInt.toNat := by show (60 * a + c).toInt.toNat = _; omega
    obtain ⟨x, x1, x2⟩ := put_val v e1 e2 e3
    obtain ⟨sh1, sh2⟩ := (shl_at s).mp h.2.2.2.2.2.1 a.toInt.toNat (by omega)
    unfold f_B_put
    rw [w1, Option.bind_some, if_pos rfl, if_pos z, zr52 ha.1 ha.2, x1 _ c s zc rfl]
    refine ag_of rfl ⟨_, x2 a c _ z rfl ((why_same (s := s) a c rfl).trans w2) zp, ?_⟩
    rw [hkc, hkp]
    generalize hi : a.toInt.toNat = i at *
    refine shl_set (s := s) i (by omega) (fun o _ _ => rfl) (fun o h1 h2 => ?_) (fun k _ => rfl) (fun k _ => rfl) (fun k hk => ?_) h ⟨fun j hj => ?_, sh2⟩
    · rw [zz_wl_ne _ 121 _ _ (by omega), zz_wl_ne _ _ _ _ (by omega)]
    · rw [wl_get, if_pos rfl, if_neg (by omega), wl_get, if_neg (by omega)]
    · have L : (zz_wl (zz_wl s (67 + 2 * i + 1) c.toInt.toNat x) 121 (60 * i + c.toInt.toNat) x).2 121 (60 * i + j) = if 60 * i + j = 60 * i + c.toInt.toNat then x else s.2 121 (60 * i + j) := by rw [wl_get, if_pos rfl, wl_get, if_neg (show ¬ 121 = 67 + 2 * i + 1 by omega)]
      have R : (zz_wl (zz_wl s (67 + 2 * i + 1) c.toInt.toNat x) 121 (60 * i + c.toInt.toNat) x).2 (68 + 2 * i) j = if j = c.toInt.toNat then x else s.2 (68 + 2 * i) j := by rw [wl_get, if_neg (show ¬ 68 + 2 * i = 121 by omega), wl_get, if_pos (show 68 + 2 * i = 67 + 2 * i + 1 by omega)]
      refine L.trans (Eq.trans ?_ R.symm)
      by_cases c1 : j = c.toInt.toNat
      · rw [if_pos (by omega), if_pos c1]
      · rw [if_neg (by omega), if_neg c1]
        exact sh1 j hj
theorem p_element (a c : Int32) {s : zz_S} (h : iv s) : ∃ w, f_B_element a c s = some w ∧ f_M_element a c s = some w := by
  obtain ⟨w, w1, w2, w3⟩ := place_why a c h
  rcases w3 with w3 | ⟨rfl, ha, e1, e2, e3, e4, e5, e6⟩
  · have n0 : ¬ w = 0 := fun q => by rw [q] at w3; exact absurd w3 (by decide)
    have n1 : ¬ 0 ≤ w := by rw [i_le, show (0 : Int32).toInt = 0 from rfl]; omega
    exact ⟨_, by simp only [f_B_element, w1, Option.bind_some, if_neg n0]; rfl, by simp only [f_M_element, w2, Option.bind_some, if_neg n1]⟩
  · have z : zz_in a 6 = true := i_in.mpr (by omega)
    have zc : zz_in c 60 = true := i_in.mpr (by omega)
    have hp := place_at ha.1 ha.2 e4 e5
    have zp : zz_in (60 * a + c) 360 = true := i_in.mpr (by omega)
    have hkc : c.toNatClampNeg = c.toInt.toNat := rfl
    have hkp : (60 * a + c).toNatClampNeg = 60 * a.toInt.toNat + c.toInt.toNat := by show (60 * a + c).toInt.toNat = _; omega
    obtain ⟨sh1, sh2⟩ := (shl_at s).mp h.2.2.2.2.2.1 a.toInt.toNat (by omega)
    refine ⟨s.2 (68 + 2 * a.toInt.toNat) c.toInt.toNat, ?_, ?_⟩
    · unfold f_B_element
      rw [w1, Option.bind_some, if_pos rfl, if_pos z, if_pos zc, zr52 ha.1 ha.2, hkc]
      have : 67 + 2 * a.toInt.toNat + 1 = 68 + 2 * a.toInt.toNat := by omega
      rw [this]
    · unfold f_M_element
      rw [w2, Option.bind_some, if_pos (by decide), if_pos zp, hkp, sh1 c.toInt.toNat (by omega)]
