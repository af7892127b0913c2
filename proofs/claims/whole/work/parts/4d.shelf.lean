/-! the shelves -/
theorem l_shelf (a : Int32) : (f_B_hasShelf a = 0 ↔ ¬ (0 ≤ a.toInt ∧ a.toInt < 6)) ∧ (f_M_isShelf a = 0 ↔ ¬ (0 ≤ a.toInt ∧ a.toInt < 6)) := by
  have l0 : (0 : Int32).toInt = 0 := rfl
  have l5 : (5 : Int32).toInt = 5 := rfl
  have l6 : (6 : Int32).toInt = 6 := rfl
  have n10 : ¬ (1 : Int32) = 0 := by decide
  constructor
  · unfold f_B_hasShelf
    simp only [i_lt, i_le, l0, l6]
    repeat' split
    all_goals (try simp only [n10, false_iff, true_iff, not_true_eq_false])
    all_goals (try omega)
  · unfold f_M_isShelf
    simp only [M_in0, l0, l5]
    omega
theorem zr52 {a : Int32} (h1 : 0 ≤ a.toInt) (h2 : a.toInt < 6) : zr_52 a = 67 + 2 * a.toInt.toNat := by
  have c : a.toInt = 0 ∨ a.toInt = 1 ∨ a.toInt = 2 ∨ a.toInt = 3 ∨ a.toInt = 4 ∨ a.toInt = 5 := by omega
  rcases c with q | q | q | q | q | q
  · rw [i_lit (b := 0) q]; rfl
  · rw [i_lit (b := 1) q]; rfl
  · rw [i_lit (b := 2) q]; rfl
  · rw [i_lit (b := 3) q]; rfl
  · rw [i_lit (b := 4) q]; rfl
  · rw [i_lit (b := 5) q]; rfl
def shAt (s : zz_S) (i : Nat) : Prop := shOK (s.1 49 0) (s.1 (67 + 2 * i)) (s.2 (68 + 2 * i)) (s.1 119 i) (s.1 120 i) (s.2 121) (60 * i)
theorem shl_at (s : zz_S) : iv_shl s ↔ ∀ i, i < 6 → shAt s i := by
  constructor
  · rintro ⟨h0, h1, h2, h3, h4, h5⟩ i hi
    match i, hi with
    | 0, _ => exact h0
    | 1, _ => exact h1
    | 2, _ => exact h2
    | 3, _ => exact h3
    | 4, _ => exact h4
    | 5, _ => exact h5
  · intro h
    exact ⟨h 0 (by decide), h 1 (by decide), h 2 (by decide), h 3 (by decide), h 4 (by decide), h 5 (by decide)⟩
theorem shl_off {s s2 : zz_S} (hf : ∀ o, o < 67 ∨ (78 < o ∧ o < 119) → s2.1 o = s.1 o) (h : iv s) (hs : iv_shl s2) : iv s2 := by
  obtain ⟨hb, ht, hc, hta, hbo, -, hla, hre⟩ := h
  have f := fun o h => hf o h
  refine ⟨?_, ?_, ?_, ?_, ?_, hs, ?_, ?_⟩
  · unfold iv_bed at hb ⊢
    rw [f 79 (by omega), f 1 (by omega), f 2 (by omega), f 3 (by omega), f 4 (by omega), f 5 (by omega), f 6 (by omega), f 7 (by omega), f 8 (by omega), f 9 (by omega), f 80 (by omega), f 81 (by omega), f 82 (by omega), f 83 (by omega), f 84 (by omega), f 85 (by omega), f 86 (by omega), f 87 (by omega)]
    exact hb
  · unfold iv_turn at ht ⊢
    rw [f 79 (by omega), f 10 (by omega), f 11 (by omega), f 12 (by omega), f 13 (by omega), f 14 (by omega), f 88 (by omega), f 89 (by omega), f 90 (by omega)]
    exact ht
  · unfold iv_chg at hc ⊢
    rw [f 79 (by omega), f 1 (by omega), f 39 (by omega), f 40 (by omega), f 41 (by omega), f 42 (by omega), f 43 (by omega), f 91 (by omega), f 92 (by omega), f 93 (by omega), f 94 (by omega)]
    exact hc
  · unfold iv_tape at hta ⊢
    rw [f 79 (by omega), f 44 (by omega), f 48 (by omega), f 95 (by omega)]
    exact hta
  · unfold iv_body at hbo ⊢
    rw [f 79 (by omega), f 49 (by omega), f 50 (by omega), f 51 (by omega), f 117 (by omega), f 118 (by omega)]
    exact hbo
  · unfold iv_law at hla ⊢
    rw [f 79 (by omega), f 0 (by omega), f 16 (by omega), f 17 (by omega), f 18 (by omega), f 55 (by omega), f 56 (by omega), f 58 (by omega), f 59 (by omega), f 61 (by omega), f 62 (by omega), f 64 (by omega), f 65 (by omega), f 96 (by omega), f 97 (by omega), f 98 (by omega), f 99 (by omega), f 100 (by omega)]
    exact hla
  · unfold iv_rest at hre ⊢
    rw [f 79 (by omega)]
    exact hre
/-- only shelf i has changed -/
theorem shl_set {s s2 : zz_S} (i : Nat) (hi : i < 6) (hf : ∀ o, o < 119 → o ≠ 67 + 2 * i → s2.1 o = s.1 o) (hl : ∀ o, o < 79 → o ≠ 68 + 2 * i → s2.2 o = s.2 o) (h119 : ∀ k, k ≠ i → s2.1 119 k = s.1 119 k) (h120 : ∀ k, k ≠ i → s2.1 120 k = s.1 120 k) (h121 : ∀ k, k < 60 * i ∨ 60 * i + 60 ≤ k → s2.2 121 k = s.2 121 k) (h : iv s) (hn : shAt s2 i) : iv s2 := by
  refine shl_off (fun o ho => hf o (by omega) (by omega)) h ((shl_at s2).mpr fun k hk => ?_)
  by_cases c : k = i
  · rw [c]; exact hn
  · have q := (shl_at s).mp h.2.2.2.2.2.1 k hk
    obtain ⟨q1, q2⟩ := q
    unfold shAt
    rw [hf 49 (by omega) (by omega), hf (67 + 2 * k) (by omega) (by omega), hl (68 + 2 * k) (by omega) (by omega), h119 k c, h120 k c]
    refine ⟨fun j hj => ?_, q2⟩
    rw [h121 (60 * k + j) (by omega)]
    exact q1 j hj
theorem p_keep (a b : Int32) {s : zz_S} (h : iv s) : ag iv (f_B_keep a b s) (f_M_keep a b) := by
  obtain ⟨l1, l2⟩ := l_shelf a
  have hbo := h.2.2.2.2.1
  obtain ⟨⟨b1, -⟩, ⟨b2, b3, -⟩, -⟩ := id hbo
  unfold f_B_keep
  by_cases ha : 0 ≤ a.toInt ∧ a.toInt < 6
  · rw [if_neg (fun q => l1.mp q ha)]
    obtain ⟨sh1, sh2⟩ := (shl_at s).mp h.2.2.2.2.2.1 a.toInt.toNat (by omega)
    have z : zz_in a 6 = true := i_in.mpr (by omega)
    have zr := zr52 ha.1 ha.2
    have hk : a.toNatClampNeg = a.toInt.toNat := rfl
    have m1 : (-1 : Int32).toInt = -1 := rfl
    generalize hi : a.toInt.toNat = i at *
    have hi6 : i < 6 := by omega
    by_cases hm : b.toInt = -1
    · have e : b = -1 := i_lit hm
      subst e
      have k1 : ¬ ((-1 : Int32) < -1) := by decide
      have k2 : (-1 : Int32) < s.1 49 0 := by rw [i_lt, m1]; omega
      rw [if_neg k1, if_pos k2, if_pos rfl, if_pos z, zr]
      refine ag_of rfl ⟨zz_w (zz_w s (67 + 2 * i) 0 0) 119 i (-1), ?_, ?_⟩
      · unfold f_M_keep f_M_keep_J22 f_Shelf_holdNothing
        rw [if_neg (fun q => l2.mp q ha), if_pos rfl, if_pos z, hk]
      · refine shl_set (s := s) i hi6 (fun o h1 h2 => ?_) (fun o _ _ => rfl) (fun k hk => ?_) (fun k hk => ?_) (fun k _ => rfl) h ⟨sh1, Or.inl ⟨?_, ?_⟩⟩
        · have a1 : ¬ o = 119 := by omega
          simp [w_row, a1, h2]
        · have a2 : ¬ 119 = 67 + 2 * i := by omega
          simp [w_get, hk, a2]
        · have a2 : ¬ 120 = 67 + 2 * i := by omega
          simp [w_get, a2]
        · have a2 : ¬ 67 + 2 * i = 119 := by omega
          simp [w_get, a2]
        · simp [w_get]
    · by_cases hb : -1 ≤ b.toInt ∧ b.toInt < (s.1 49 0).toInt
      · have k1 : ¬ (b < -1) := by rw [i_lt, m1]; omega
        have k2 : b < s.1 49 0 := by rw [i_lt]; omega
        have k3 : ¬ b = -1 := fun q => hm (by rw [q]; rfl)
        rw [if_neg k1, if_pos k2, if_neg k3, if_pos z, zr]
        refine ag_of rfl ⟨zz_w (zz_w (zz_w s (67 + 2 * i) 0 1) (67 + 2 * i) 1 b) 119 i b, ?_, ?_⟩
        · have a2 : ¬ 79 = 67 + 2 * i := by omega
          have k4 : ¬ f_M_isBody b (zz_w (zz_w s (67 + 2 * i) 0 1) (67 + 2 * i) 1 b) = 0 := fun q => by
            unfold f_M_isBody at q
            rw [M_in0] at q
            simp only [w_get, if_neg a2] at q
            rw [b1, i_dec (by omega), show (0 : Int32).toInt = 0 from rfl] at q
            omega
          unfold f_M_keep f_M_keep_J22 f_Shelf_holdBody
          rw [if_neg (fun q => l2.mp q ha), if_neg k3, if_neg k4, if_pos z, hk]
        · refine shl_set (s := s) i hi6 (fun o h1 h2 => ?_) (fun o _ _ => rfl) (fun k hk => ?_) (fun k hk => ?_) (fun k _ => rfl) h ⟨sh1, Or.inr (Or.inl ⟨?_, ?_, ?_, ?_⟩)⟩
          · have a1 : ¬ o = 119 := by omega
            simp [w_row, a1, h2]
          · have a2 : ¬ 119 = 67 + 2 * i := by omega
            simp [w_get, hk, a2]
          · have a2 : ¬ 120 = 67 + 2 * i := by omega
            simp [w_get, a2]
          · have a2 : ¬ 67 + 2 * i = 119 := by omega
            simp [w_get, a2]
          · have a2 : ¬ 67 + 2 * i = 119 := by omega
            simp [w_get, a2]
          · have a2 : ¬ 67 + 2 * i = 119 := by omega
            simp [w_get, a2]
            omega
          · have a2 : ¬ 67 + 2 * i = 119 := by omega
            have a3 : ¬ 49 = 67 + 2 * i := by omega
            simp [w_get, a2, a3]
            omega
      · refine ⟨-1, s, s, ?_, ?_, h⟩
        · by_cases k1 : b < -1
          · rw [if_pos k1]
          · rw [if_neg k1, if_neg]
            rw [i_lt, m1] at k1
            rw [i_lt]
            omega
        · have k3 : ¬ b = -1 := fun q => hm (by rw [q]; rfl)
          have k4 : f_M_isBody b s = 0 := by
            unfold f_M_isBody
            rw [M_in0, b1, i_dec (by omega), show (0 : Int32).toInt = 0 from rfl]
            omega
          unfold f_M_keep
          rw [if_neg (fun q => l2.mp q ha), if_neg k3, if_pos k4]
  · rw [if_pos (l1.mpr ha)]
    exact ⟨_, s, s, rfl, by unfold f_M_keep; rw [if_pos (l2.mpr ha)], h⟩
