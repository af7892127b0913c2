theorem i_60 {a : Int32} (h1 : 0 ≤ a.toInt) (h2 : a.toInt < 6) : (60 * a).toInt = 60 * a.toInt := by
  rw [i_mul (by rw [show (60 : Int32).toInt = 60 from rfl]; omega) (by rw [show (60 : Int32).toInt = 60 from rfl]; omega)]
  rfl
theorem wl_get (s : zz_S) (o k : Nat) (v : Int64) (a j : Nat) : (zz_wl s o k v).2 a j = if a = o then (if j = k then v else s.2 a j) else s.2 a j := rfl
theorem row_loop (v1 : Int32) (i : Nat) (hi : v1.toInt = i) (hi6 : i < 6) : ∀ (d fuel : Nat) (s : zz_S) (v4 : Int32), d ≤ 60 → d < fuel → v4.toInt = 60 * i + 60 - d → ∃ s2 : zz_S, f_M_row_L54 fuel v1 v4 s = some (1, s2) ∧ s2.1 = s.1 ∧ (∀ o, o ≠ 121 → s2.2 o = s.2 o) ∧ ∀ k, s2.2 121 k = if 60 * i + 60 ≤ k + d ∧ k < 60 * i + 60 then 0 else s.2 121 k := by
  have h60 := i_60 (a := v1) (by omega) (by omega)
  have hend : (60 * v1 + 60).toInt = 60 * i + 60 := by
    rw [i_add (by rw [show (60 : Int32).toInt = 60 from rfl]; omega) (by rw [show (60 : Int32).toInt = 60 from rfl]; omega), h60, show (60 : Int32).toInt = 60 from rfl]
    omega
  intro d
  induction d with
  | zero =>
    intro fuel s v4 hd hf hv
    obtain ⟨f, rfl⟩ : ∃ f, fuel = f + 1 := ⟨fuel - 1, by omega⟩
    refine ⟨s, ?_, rfl, fun _ _ => rfl, fun k => ?_⟩
    · unfold f_M_row_L54
      rw [if_pos (by rw [i_le, hend, hv]; omega)]
    · rw [if_neg (by omega)]
  | succ d ih =>
    intro fuel s v4 hd hf hv
    obtain ⟨f, rfl⟩ : ∃ f, fuel = f + 1 := ⟨fuel - 1, by omega⟩
    have hk : v4.toNatClampNeg = 60 * i + 60 - (d + 1) := by show v4.toInt.toNat = _; omega
    have hinc := i_inc (a := v4) (by omega)
    obtain ⟨s2, g1, g2, g3, g4⟩ := ih f (zz_wl s 121 (60 * i + 60 - (d + 1)) 0) (v4 + 1) (by omega) (by omega) (by rw [hinc]; omega)
    refine ⟨s2, ?_, g2, fun o ho => ?_, fun k => ?_⟩
    · unfold f_M_row_L54
      rw [if_neg (by rw [i_le, hend, hv]; omega), if_pos (i_in.mpr (by omega)), hk]
      exact g1
    · rw [g3 o ho]
      exact zz_wl_ne s 121 _ 0 ho
    · rw [g4 k, wl_get, if_pos rfl]
      by_cases c : 60 * i + 60 ≤ k + (d + 1) ∧ k < 60 * i + 60
      · rw [if_pos c]
        by_cases c2 : 60 * i + 60 ≤ k + d ∧ k < 60 * i + 60
        · rw [if_pos c2]
        · rw [if_neg c2, if_pos (by omega)]
      · rw [if_neg c, if_neg (by omega), if_neg (by omega)]
theorem p_row (a b n : Int32) {s : zz_S} (h : iv s) : ag iv (f_B_row a b n s) (f_M_row a b n) := by
  obtain ⟨l1, l2⟩ := l_shelf a
  have l0 : (0 : Int32).toInt = 0 := rfl
  have l4 : (4 : Int32).toInt = 4 := rfl
  have l60 : (60 : Int32).toInt = 60 := rfl
  have m2 : (-2 : Int32).toInt = -2 := rfl
  have same : ∀ v, f_B_row a b n s = some (v, s) → f_M_row a b n s = some (v, s) → ag iv (f_B_row a b n s) (f_M_row a b n) := fun v h1 h2 => ⟨v, s, s, h1, h2, h⟩
  by_cases ha : 0 ≤ a.toInt ∧ a.toInt < 6
  · have a1 : ¬ f_B_hasShelf a = 0 := fun q => l1.mp q ha
    have a2 : ¬ f_M_isShelf a = 0 := fun q => l2.mp q ha
    by_cases hb : 0 ≤ b.toInt ∧ b.toInt ≤ 4
    · have b1 : ¬ b < 0 := by rw [i_lt, l0]; omega
      have b2 : ¬ (4 : Int32) < b := by rw [i_lt, l4]; omega
      have b3 : ¬ f_M_in b 0 4 = 0 := by rw [M_in0, l0, l4]; omega
      by_cases hn : n.toInt ≤ 60
      · have n1 : n ≤ 60 := by rw [i_le, l60]; exact hn
        by_cases hp : 0 ≤ n.toInt
        · have n2 : 0 ≤ n := by rw [i_le, l0]; exact hp
          have z : zz_in a 6 = true := i_in.mpr (by omega)
          have zr := zr52 ha.1 ha.2
          have hk : a.toNatClampNeg = a.toInt.toNat := rfl
          have hsub := i_sub (a := -2) (b := b) (by rw [m2]; omega) (by rw [m2]; omega)
          obtain ⟨sh1, sh2⟩ := (shl_at s).mp h.2.2.2.2.2.1 a.toInt.toNat (by omega)
          generalize hi : a.toInt.toNat = i at *
          have hi6 : i < 6 := by omega
          have hai : a.toInt = i := by omega
          unfold f_B_row
          rw [if_neg a1, if_neg b1, if_neg b2, if_pos n1, if_pos n2, if_pos z, zr]
          obtain ⟨s2, g1, g2, g3, g4⟩ := row_loop a i hai hi6 60 zF (zz_w (zz_w (f_Shelf_holdRow (67 + 2 * i) b n s) 119 i (-2 - b)) 120 i n) (60 * a) (by omega) (by unfold zF; omega) (by rw [i_60 (by omega) (by omega)]; omega)
          refine ag_of rfl ⟨s2, ?_, ?_⟩
          · unfold f_M_row
            rw [if_neg a2, if_neg b3, if_pos n1, if_pos n2, if_pos z, hk]
            exact g1
          · have e1 : s2.1 = (zz_w (zz_w (zz_w (zz_w (zz_w s (67 + 2 * i) 0 2) (67 + 2 * i) 2 b) (67 + 2 * i) 3 n) 119 i (-2 - b)) 120 i n).1 := g2
            have c1 : ¬ 67 + 2 * i = 119 := by omega
            have c2 : ¬ 67 + 2 * i = 120 := by omega
            have c3 : ¬ 119 = 67 + 2 * i := by omega
            have c4 : ¬ 120 = 67 + 2 * i := by omega
            refine shl_set (s := s) i hi6 (fun o h1 h2 => ?_) (fun o h1 h2 => ?_) (fun k hk => ?_) (fun k hk => ?_) (fun k hk => ?_) h ⟨fun j hj => ?_, Or.inr (Or.inr ⟨?_, ?_, ?_, ?_, ?_, ?_, ?_⟩)⟩
            · rw [e1]
              have d1 : ¬ o = 119 := by omega
              have d2 : ¬ o = 120 := by omega
              simp [w_row, d1, d2, h2]
            · rw [g3 o (by omega)]
              refine funext fun j => ?_
              show (if o = 67 + 2 * i + 1 then (if j < 60 then (0 : Int64) else s.2 o j) else s.2 o j) = s.2 o j
              rw [if_neg (by omega)]
            · rw [e1]
              simp [w_get, hk, c3]
            · rw [e1]
              simp [w_get, hk, c4]
            · rw [g4 k, if_neg (by omega)]
              show (if 121 = 67 + 2 * i + 1 then (if k < 60 then (0 : Int64) else s.2 121 k) else s.2 121 k) = s.2 121 k
              rw [if_neg (by omega)]
            · rw [g4, if_pos (by omega), g3 _ (by omega)]
              show (0 : Int64) = (if 68 + 2 * i = 67 + 2 * i + 1 then (if j < 60 then (0 : Int64) else s.2 (68 + 2 * i) j) else s.2 (68 + 2 * i) j)
              rw [if_pos (by omega), if_pos hj]
            · rw [e1]; simp [w_get, c1, c2]
            · rw [e1]; simp [w_get, c1, c2]; omega
            · rw [e1]; simp [w_get, c1, c2]; omega
            · rw [e1]
              have q : (zz_w (zz_w (zz_w (zz_w (zz_w s (67 + 2 * i) 0 2) (67 + 2 * i) 2 b) (67 + 2 * i) 3 n) 119 i (-2 - b)) 120 i n).1 119 i = -2 - b := by simp [w_get]
              have q2 : (zz_w (zz_w (zz_w (zz_w (zz_w s (67 + 2 * i) 0 2) (67 + 2 * i) 2 b) (67 + 2 * i) 3 n) 119 i (-2 - b)) 120 i n).1 (67 + 2 * i) 2 = b := by simp [w_get, c1, c2]
              rw [q, q2, hsub, m2]
            · rw [e1]; simp [w_get, c1, c2]
            · rw [e1]; simp [w_get, c1, c2]; omega
            · rw [e1]; simp [w_get, c1, c2]; omega
        · have n2 : ¬ 0 ≤ n := by rw [i_le, l0]; exact hp
          exact same (-14) (by unfold f_B_row; rw [if_neg a1, if_neg b1, if_neg b2, if_pos n1, if_neg n2]) (by unfold f_M_row; rw [if_neg a2, if_neg b3, if_pos n1, if_neg n2])
      · have n1 : ¬ n ≤ 60 := by rw [i_le, l60]; exact hn
        exact same (-1) (by unfold f_B_row; rw [if_neg a1, if_neg b1, if_neg b2, if_neg n1]) (by unfold f_M_row; rw [if_neg a2, if_neg b3, if_neg n1])
    · have b3 : f_M_in b 0 4 = 0 := by rw [M_in0, l0, l4]; omega
      refine same (-1) ?_ (by unfold f_M_row; rw [if_neg a2, if_pos b3])
      unfold f_B_row
      rw [if_neg a1]
      by_cases b1 : b < 0
      · rw [if_pos b1]
      · rw [if_neg b1, if_pos]
        rw [i_lt, l0] at b1
        rw [i_lt, l4]
        omega
  · exact same (-1) (by unfold f_B_row; rw [if_pos (l1.mpr ha)]) (by unfold f_M_row; rw [if_pos (l2.mpr ha)])
