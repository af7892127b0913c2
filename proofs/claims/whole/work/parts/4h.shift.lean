theorem sh_back (v3 v4 v5 : Int32) (i a n : Nat) (h3 : v3.toInt = i) (h4 : v4.toInt = a) (h5 : v5.toInt = n) (hi : i < 6) (ha : a + n ≤ 60) : ∀ (d fuel : Nat) (s : zz_S) (v6 : Int32), d ≤ n → d < fuel → v6.toInt = n - d → ∃ s2 : zz_S, f_M_shift_L150 fuel v3 v4 v5 v6 s = some (v5, s2) ∧ s2.1 = s.1 ∧ (∀ o, o ≠ 121 → s2.2 o = s.2 o) ∧ ∀ k, s2.2 121 k = if 60 * i + a + n ≤ k + d ∧ k < 60 * i + a + n then s.2 122 (k - (60 * i + a)) else s.2 121 k := by
  have h60 := i_60 (a := v3) (by omega) (by omega)
  intro d
  induction d with
  | zero =>
    intro fuel s v6 hd hf hv
    obtain ⟨f, rfl⟩ : ∃ f, fuel = f + 1 := ⟨fuel - 1, by omega⟩
    refine ⟨s, ?_, rfl, fun _ _ => rfl, fun k => ?_⟩
    · unfold f_M_shift_L150
      rw [if_pos (by rw [i_le, h5, hv]; omega)]
    · rw [if_neg (by omega)]
  | succ d ih =>
    intro fuel s v6 hd hf hv
    obtain ⟨f, rfl⟩ : ∃ f, fuel = f + 1 := ⟨fuel - 1, by omega⟩
    have p1 : (60 * v3 + v4).toInt = 60 * i + a := by rw [i_add (by omega) (by omega)]; omega
    have p2 : (60 * v3 + v4 + v6).toInt = 60 * i + a + n - (d + 1) := by rw [i_add (by omega) (by omega)]; omega
    have hk : (60 * v3 + v4 + v6).toNatClampNeg = 60 * i + a + n - (d + 1) := by show (60 * v3 + v4 + v6).toInt.toNat = _; omega
    have hk6 : v6.toNatClampNeg = n - (d + 1) := by show v6.toInt.toNat = _; omega
    have hinc := i_inc (a := v6) (by omega)
    have z6 : zz_in v6 60 = true := i_in.mpr (by omega)
    have zp : zz_in (60 * v3 + v4 + v6) 360 = true := i_in.mpr (by omega)
    clear p2 p1
    obtain ⟨s2, g1, g2, g3, g4⟩ := ih f (zz_wl s 121 (60 * i + a + n - (d + 1)) (s.2 122 (n - (d + 1)))) (v6 + 1) (by omega) (by omega) (by rw [hinc]; omega)
    refine ⟨s2, ?_, g2, fun o ho => ?_, fun k => ?_⟩
    · unfold f_M_shift_L150
      rw [if_neg (by rw [i_le, h5, hv]; omega), if_pos z6, if_pos zp, hk, hk6]
      exact g1
    · rw [g3 o ho]
      exact zz_wl_ne s 121 _ _ ho
    · rw [g4 k, wl_get s 121 _ _ 122, wl_get s 121 _ _ 121, if_neg (show ¬ (122 : Nat) = 121 by decide), if_pos (rfl : (121 : Nat) = 121)]
      by_cases c : 60 * i + a + n ≤ k + (d + 1) ∧ k < 60 * i + a + n
      · rw [if_pos c]
        by_cases c2 : 60 * i + a + n ≤ k + d ∧ k < 60 * i + a + n
        · rw [if_pos c2]
        · rw [if_neg c2, if_pos (by omega)]
          have : k - (60 * i + a) = n - (d + 1) := by omega
          rw [this]
      · rw [if_neg c, if_neg (by omega), if_neg (by omega)]
theorem sh_out (v1 v2 v3 v4 v5 : Int32) (i a n : Nat) (h1 : v1.toInt = i) (h2 : v2.toInt = a) (h5 : v5.toInt = n) (hi : i < 6) (ha : a + n ≤ 60) : ∀ (d fuel : Nat) (s : zz_S) (v6 : Int32), d ≤ n → d < fuel → v6.toInt = n - d → ∃ s2 : zz_S, f_M_shift_L113 fuel v1 v2 v3 v4 v5 v6 s = f_M_shift_L150 zF v3 v4 v5 0 s2 ∧ s2.1 = s.1 ∧ (∀ o, o ≠ 122 → s2.2 o = s.2 o) ∧ ∀ k, s2.2 122 k = if n ≤ k + d ∧ k < n then s.2 121 (60 * i + a + k) else s.2 122 k := by
  have h60 := i_60 (a := v1) (by omega) (by omega)
  intro d
  induction d with
  | zero =>
    intro fuel s v6 hd hf hv
    obtain ⟨f, rfl⟩ : ∃ f, fuel = f + 1 := ⟨fuel - 1, by omega⟩
    refine ⟨s, ?_, rfl, fun _ _ => rfl, fun k => ?_⟩
    · rw [f_M_shift_L113]
      rw [if_pos (by rw [i_le, h5, hv]; omega)]
    · rw [if_neg (by omega)]
  | succ d ih =>
    intro fuel s v6 hd hf hv
    obtain ⟨f, rfl⟩ : ∃ f, fuel = f + 1 := ⟨fuel - 1, by omega⟩
    have p1 : (60 * v1 + v2).toInt = 60 * i + a := by rw [i_add (by omega) (by omega)]; omega
    have p2 : (60 * v1 + v2 + v6).toInt = 60 * i + a + n - (d + 1) := by rw [i_add (by omega) (by omega)]; omega
    have hk : (60 * v1 + v2 + v6).toNatClampNeg = 60 * i + a + (n - (d + 1)) := by show (60 * v1 + v2 + v6).toInt.toNat = _; omega
    have hk6 : v6.toNatClampNeg = n - (d + 1) := by show v6.toInt.toNat = _; omega
    have hinc := i_inc (a := v6) (by omega)
    have z6 : zz_in v6 60 = true := i_in.mpr (by omega)
    have zp : zz_in (60 * v1 + v2 + v6) 360 = true := i_in.mpr (by omega)
    clear p2 p1
    obtain ⟨s2, g1, g2, g3, g4⟩ := ih f (zz_wl s 122 (n - (d + 1)) (s.2 121 (60 * i + a + (n - (d + 1))))) (v6 + 1) (by omega) (by omega) (by rw [hinc]; omega)
    refine ⟨s2, ?_, g2, fun o ho => ?_, fun k => ?_⟩
    · rw [f_M_shift_L113]
      rw [if_neg (by rw [i_le, h5, hv]; omega), if_pos zp, if_pos z6, hk, hk6]
      exact g1
    · rw [g3 o ho]
      exact zz_wl_ne s 122 _ _ ho
    · rw [g4 k, wl_get s 122 _ _ 121, wl_get s 122 _ _ 122, if_neg (show ¬ (121 : Nat) = 122 by decide), if_pos (rfl : (122 : Nat) = 122)]
      by_cases c : n ≤ k + (d + 1) ∧ k < n
      · rw [if_pos c]
        by_cases c2 : n ≤ k + d ∧ k < n
        · rw [if_pos c2]
        · rw [if_neg c2, if_pos (by omega)]
          have : k = n - (d + 1) := by omega
          rw [this]
      · rw [if_neg c, if_neg (by omega), if_neg (by omega)]
