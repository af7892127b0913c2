theorem toss_loop (a b cnt : Int32) (i : Nat) (hi : a.toInt = i) (hi6 : i < 6) (hb : 0 ≤ b.toInt) (hc : cnt.toInt ≤ 20) : ∀ (d f1 f2 : Nat) (c r : zz_S) (v2 v4 : Int32), d < f1 → d < f2 → cnt.toInt ≤ v4.toInt + d → 0 ≤ v4.toInt → v4.toInt ≤ 20 → v2.toInt = b.toInt + 3 * v4.toInt → r.1 120 i = c.1 (67 + 2 * i) 3 → 0 ≤ (c.1 (67 + 2 * i) 3).toInt → (c.1 (67 + 2 * i) 3).toInt ≤ 60 → (∀ x : Nat, x < 60 → r.2 121 (60 * i + x) = c.2 (68 + 2 * i) x) → iv_turn (mix c r) →
    ∃ v c2 r2, f_B_tossedFrom_L3 f1 (67 + 2 * i) v2 cnt v4 c = some (v, c2) ∧ f_M_tosses_L58 f2 a b cnt v4 r = some (v, r2) ∧ iv_turn (mix c2 r2) ∧ (∀ o, o < 10 ∨ 14 < o → c2.1 o = c.1 o) ∧ c2.2 = c.2 ∧ (∀ o, o < 79 ∨ (79 < o ∧ o < 88) ∨ 90 < o → r2.1 o = r.1 o) ∧ (∀ k, k ≠ 12 → r2.1 79 k = r.1 79 k) ∧ r2.2 = r.2 := by
  have l0 : (0 : Int32).toInt = 0 := rfl
  have l3 : (3 : Int32).toInt = 3 := rfl
  have l60 : (60 : Int32).toInt = 60 := rfl
  have h60 := i_60 (a := a) (by omega) (by omega)
  have za : zz_in a 6 = true := i_in.mpr (by omega)
  have ka : a.toNatClampNeg = i := by show a.toInt.toNat = i; omega
  intro d
  induction d with
  | zero =>
    intro f1 f2 c r v2 v4 hf1 hf2 hd h0 h20 hv hsz hz1 hz2 hel ht
    obtain ⟨f, rfl⟩ : ∃ f, f1 = f + 1 := ⟨f1 - 1, by omega⟩
    obtain ⟨g, rfl⟩ : ∃ g, f2 = g + 1 := ⟨f2 - 1, by omega⟩
    refine ⟨cnt, c, r, ?_, ?_, ht, fun _ _ => rfl, rfl, fun _ _ => rfl, fun _ _ => rfl, rfl⟩
    · rw [f_B_tossedFrom_L3, if_pos (by rw [i_le]; omega)]
    · rw [f_M_tosses_L58, if_pos (by rw [i_le]; omega)]
  | succ d ih =>
    intro f1 f2 c r v2 v4 hf1 hf2 hd h0 h20 hv hsz hz1 hz2 hel ht
    obtain ⟨f, rfl⟩ : ∃ f, f1 = f + 1 := ⟨f1 - 1, by omega⟩
    obtain ⟨g, rfl⟩ : ∃ g, f2 = g + 1 := ⟨f2 - 1, by omega⟩
    rw [f_B_tossedFrom_L3, f_M_tosses_L58]
    by_cases q1 : cnt.toInt ≤ v4.toInt
    · refine ⟨cnt, c, r, ?_, ?_, ht, fun _ _ => rfl, rfl, fun _ _ => rfl, fun _ _ => rfl, rfl⟩
      · rw [if_pos (by rw [i_le]; exact q1)]
      · rw [if_pos (by rw [i_le]; exact q1)]
    · have t1 : ¬ cnt ≤ v4 := by rw [i_le]; exact q1
      rw [if_neg t1, if_neg t1]
      have hX : (b.toInt64 + (3 * v4).toInt64).toInt = v2.toInt := by
        have hm : (3 * v4).toInt = 3 * v4.toInt := by rw [i_mul (by rw [l3]; omega) (by rw [l3]; omega), l3]
        have := i_hi b
        rw [j_add (by rw [j_of, j_of, hm]; omega) (by rw [j_of, j_of, hm]; omega), j_of, j_of, hm, hv]
      have hX2 : (b.toInt64 + (3 * v4).toInt64 + 2).toInt = v2.toInt + 2 := by
        have := i_hi v2
        rw [j_add (by rw [hX, show (2 : Int64).toInt = 2 from rfl]; omega) (by rw [hX, show (2 : Int64).toInt = 2 from rfl]; omega), hX]
        rfl
      have hX3 : (b.toInt64 + (3 * v4).toInt64).toInt32 = v2 := by
        have h1 := i_lo v2
        have h2 := i_hi v2
        exact i_lit (by rw [j_to (by omega) (by omega), hX])
      have n1 : ¬ lg_cmp (b.toInt64 + (3 * v4).toInt64) 0 < 0 := by rw [cmp_neg, hX, show (0 : Int64).toInt = 0 from rfl]; omega
      have hs3 := i_sub (a := c.1 (67 + 2 * i) 3) (b := 3) (by rw [l3]; omega) (by rw [l3]; omega)
      rw [l3] at hs3
      rw [if_neg n1, if_pos za, ka, hsz, hX3]
      by_cases q2 : (c.1 (67 + 2 * i) 3).toInt - 3 < v2.toInt
      · refine ⟨v4, c, r, ?_, ?_, ht, fun _ _ => rfl, rfl, fun _ _ => rfl, fun _ _ => rfl, rfl⟩
        · rw [if_pos (by rw [i_lt, hs3]; exact q2)]
        · rw [if_pos (by rw [cmp_pos, hX2, j_of]; omega)]
      · have n3 : ¬ 0 ≤ lg_cmp (b.toInt64 + (3 * v4).toInt64 + 2) (c.1 (67 + 2 * i) 3).toInt64 := by rw [cmp_pos, hX2, j_of]; omega
        rw [if_neg (by rw [i_lt, hs3]; exact q2), if_neg n3]
        have ht12 : r.1 79 12 = c.1 10 0 := ht.1
        have ht60 : (c.1 10 0).toInt ≤ 60 := ht.2.2.1.2
        by_cases q3 : (c.1 10 0).toInt < 60
        · have n4 : ¬ r.1 79 12 = 60 := fun q => by rw [ht12, i_eq, l60] at q; omega
          have p0 : (60 * a + v2).toInt = 60 * i + v2.toInt := by rw [i_add (by omega) (by omega)]; omega
          have p1 := i_inc (a := 60 * a + v2) (by omega)
          have p2 : (60 * a + v2 + 2).toInt = 60 * i + v2.toInt + 2 := by rw [i_add (by rw [show (2 : Int32).toInt = 2 from rfl]; omega) (by rw [show (2 : Int32).toInt = 2 from rfl]; omega), p0]; rfl
          have r1 := i_inc (a := v2) (by omega)
          have r2 : (v2 + 2).toInt = v2.toInt + 2 := by rw [i_add (by rw [show (2 : Int32).toInt = 2 from rfl]; omega) (by rw [show (2 : Int32).toInt = 2 from rfl]; omega)]; rfl
          have y0 : zz_in v2 60 = true := i_in.mpr (by omega)
          have y1 : zz_in (v2 + 1) 60 = true := i_in.mpr (by omega)
          have y2 : zz_in (v2 + 2) 60 = true := i_in.mpr (by omega)
          have u0 : zz_in (60 * a + v2) 360 = true := i_in.mpr (by omega)
          have u1 : zz_in (60 * a + v2 + 1) 360 = true := i_in.mpr (by omega)
          have u2 : zz_in (60 * a + v2 + 2) 360 = true := i_in.mpr (by omega)
          have e0 : r.2 121 (60 * a + v2).toNatClampNeg = c.2 (68 + 2 * i) v2.toNatClampNeg := by
            rw [← hel v2.toNatClampNeg (by show v2.toInt.toNat < 60; omega)]
            have : (60 * a + v2).toNatClampNeg = 60 * i + v2.toNatClampNeg := by show (60 * a + v2).toInt.toNat = 60 * i + v2.toInt.toNat; omega
            rw [this]
          have e1 : r.2 121 (60 * a + v2 + 1).toNatClampNeg = c.2 (68 + 2 * i) (v2 + 1).toNatClampNeg := by
            rw [← hel (v2 + 1).toNatClampNeg (by show (v2 + 1).toInt.toNat < 60; omega)]
            have : (60 * a + v2 + 1).toNatClampNeg = 60 * i + (v2 + 1).toNatClampNeg := by show (60 * a + v2 + 1).toInt.toNat = 60 * i + (v2 + 1).toInt.toNat; omega
            rw [this]
          have e2 : r.2 121 (60 * a + v2 + 2).toNatClampNeg = c.2 (68 + 2 * i) (v2 + 2).toNatClampNeg := by
            rw [← hel (v2 + 2).toNatClampNeg (by show (v2 + 2).toInt.toNat < 60; omega)]
            have : (60 * a + v2 + 2).toNatClampNeg = 60 * i + (v2 + 2).toNatClampNeg := by show (60 * a + v2 + 2).toInt.toNat = 60 * i + (v2 + 2).toInt.toNat; omega
            rw [this]
          clear p0 p1 p2 r1 r2
          rw [if_pos (by rw [i_lt, l60]; exact q3), if_pos y0, if_pos y1, if_pos y2, if_neg n4, if_pos u0, if_pos u1, if_pos u2, e0, e1, e2, show 67 + 2 * i + 1 = 68 + 2 * i by omega]
          generalize (c.2 (68 + 2 * i) v2.toNatClampNeg).toInt32 = x
          generalize (c.2 (68 + 2 * i) (v2 + 1).toNatClampNeg).toInt32 = y
          generalize (c.2 (68 + 2 * i) (v2 + 2).toNatClampNeg).toInt32 = z
          obtain ⟨m1, m2⟩ := may_turn x y z
          by_cases hok : tOK x y z
          · rw [if_neg (fun q => m1.mp q hok), if_neg (fun q => m2.mp q hok)]
            obtain ⟨c2, r2, g1, g2, g3, g4, g5, g6, g7, g8, g9⟩ := turn_add ht q3 hok
            have hinc := i_inc (a := v4) (by omega)
            have h3 : (v2 + 3).toInt = v2.toInt + 3 := by rw [i_add (by rw [l3]; omega) (by rw [l3]; omega), l3]
            obtain ⟨v, c3, r3, k1, k2, k3, k4, k5, k6, k7, k8⟩ := ih f g c2 r2 (v2 + 3) (v4 + 1) (by omega) (by omega) (by omega) (by omega) (by omega) (by omega) (by rw [g6 120 (by omega), g4 (67 + 2 * i) (by omega)]; exact hsz) (by rw [g4 (67 + 2 * i) (by omega)]; exact hz1) (by rw [g4 (67 + 2 * i) (by omega)]; exact hz2) (fun x hx => by rw [g8, g5]; exact hel x hx) g3
            refine ⟨v, c3, r3, ?_, ?_, k3, fun o ho => by rw [k4 o ho, g4 o ho], by rw [k5, g5], fun o ho => by rw [k6 o ho, g6 o ho], fun k hk => by rw [k7 k hk, g7 k hk], by rw [k8, g8]⟩
            · rw [g1]
              exact k1
            · rw [g2]
              exact k2
          · refine ⟨v4, c, r, ?_, ?_, ht, fun _ _ => rfl, rfl, fun _ _ => rfl, fun _ _ => rfl, rfl⟩
            · rw [if_pos (m1.mpr hok)]
            · rw [if_pos (m2.mpr hok)]
        · have n4 : r.1 79 12 = 60 := by rw [ht12, i_eq, l60]; omega
          refine ⟨v4, c, r, ?_, ?_, ht, fun _ _ => rfl, rfl, fun _ _ => rfl, fun _ _ => rfl, rfl⟩
          · rw [if_neg (by rw [i_lt, l60]; exact q3)]
          · rw [if_pos n4]
