theorem cp_row (s : zz_S) (o0 o1 : Nat) (a b n : Int32) (o : Nat) : (zz_copylS s o0 o1 a b n).2 o = if o = o1 then va_cpy (s.2 o0) (s.2 o1) a.toInt.toNat b.toInt.toNat n.toInt.toNat else s.2 o := rfl
theorem p_shift (a1 a2 a3 a4 a5 : Int32) {s : zz_S} (h : iv s) : ag iv (f_B_shift a1 a2 a3 a4 a5 s) (f_M_shift a1 a2 a3 a4 a5) := by
  obtain ⟨l1, l2⟩ := l_shelf a1
  obtain ⟨l3, l4⟩ := l_shelf a3
  have l0 : (0 : Int32).toInt = 0 := rfl
  have n10 : ¬ (1 : Int32) = 0 := by decide
  unfold f_B_shift
  by_cases h1 : 0 ≤ a1.toInt ∧ a1.toInt < 6
  · rw [if_neg (fun q => l1.mp q h1)]
    have r1 : ¬ f_M_isShelf a1 = 0 := fun q => l2.mp q h1
    by_cases h3 : 0 ≤ a3.toInt ∧ a3.toInt < 6
    · rw [if_neg (fun q => l3.mp q h3)]
      have r3 : ¬ f_M_isShelf a3 = 0 := fun q => l4.mp q h3
      have z1 : zz_in a1 6 = true := i_in.mpr (by omega)
      have z3 : zz_in a3 6 = true := i_in.mpr (by omega)
      have k1 : a1.toNatClampNeg = a1.toInt.toNat := rfl
      have k3 : a3.toNatClampNeg = a3.toInt.toNat := rfl
      have hs := (shl_at s).mp h.2.2.2.2.2.1
      have s1 := hs a1.toInt.toNat (by omega)
      have s3 := hs a3.toInt.toNat (by omega)
      rw [if_pos z1, if_pos z3, zr52 h1.1 h1.2, zr52 h3.1 h3.2]
      generalize hi : a1.toInt.toNat = i at *
      generalize hj : a3.toInt.toNat = j at *
      have hi6 : i < 6 := by omega
      have hj6 : j < 6 := by omega
      rcases sh_kind s1 with ⟨c1, c2⟩ | ⟨c1, c2, c3, c4, c5⟩ | ⟨c1, c2, c3, c4, c5, c6, c7, c8, c9⟩
      · exact ⟨-11, s, s, by rw [c1, if_neg n10], by unfold f_M_shift; rw [if_neg r1, if_neg r3, if_pos z1, k1, if_pos c2], h⟩
      · rcases sh_kind s3 with ⟨d1, d2⟩ | ⟨d1, d2, d3, d4, d5⟩ | ⟨d1, d2, d3, d4, d5, d6, d7, d8, d9⟩
        · exact ⟨-11, s, s, by rw [c1, if_pos rfl, d1, if_neg n10], by unfold f_M_shift; rw [if_neg r1, if_neg r3, if_pos z1, k1, if_neg c4, if_pos z3, k3, if_pos d2], h⟩
        · exact ⟨-12, s, s, by rw [c1, if_pos rfl, d1, if_pos rfl, c2, if_pos rfl], by unfold f_M_shift; rw [if_neg r1, if_neg r3, if_pos z1, k1, if_neg c4, if_pos z3, k3, if_neg d4, if_pos (by rw [i_le, l0]; exact c5)], h⟩
        · exact ⟨-12, s, s, by rw [c1, if_pos rfl, d1, if_pos rfl, c2, if_pos rfl], by unfold f_M_shift; rw [if_neg r1, if_neg r3, if_pos z1, k1, if_neg c4, if_pos z3, k3, if_neg d4, if_pos (by rw [i_le, l0]; exact c5)], h⟩
      · have c5' : ¬ 0 ≤ s.1 119 i := by rw [i_le, l0]; omega
        rcases sh_kind s3 with ⟨d1, d2⟩ | ⟨d1, d2, d3, d4, d5⟩ | ⟨d1, d2, d3, d4, d5, d6, d7, d8, d9⟩
        · exact ⟨-11, s, s, by rw [c1, if_pos rfl, d1, if_neg n10], by unfold f_M_shift; rw [if_neg r1, if_neg r3, if_pos z1, k1, if_neg c4, if_pos z3, k3, if_pos d2], h⟩
        · exact ⟨-12, s, s, by rw [c1, if_pos rfl, d1, if_pos rfl, c2, if_neg n10, d3, if_pos rfl], by unfold f_M_shift; rw [if_neg r1, if_neg r3, if_pos z1, k1, if_neg c4, if_pos z3, k3, if_neg d4, if_neg c5', if_neg (fun q => by rw [q] at c5; omega)], h⟩
        · rw [c1, if_pos rfl, d1, if_pos rfl, c2, if_neg n10, d3]
          by_cases e : s.1 119 i = s.1 119 j
          · have e2 : s.1 (67 + 2 * j) 2 = s.1 (67 + 2 * i) 2 := i_lit (by rw [e] at c6; omega)
            rw [if_pos e2, if_neg n10]
            have p1 := l_places (67 + 2 * i) a2 a5 c8 c9
            have p3 := l_places (67 + 2 * j) a4 a5 d8 d9
            have M : ∀ t : zz_S, t.1 = s.1 → f_M_shift a1 a2 a3 a4 a5 t = if 0 ≤ a5.toInt ∧ 0 ≤ a2.toInt ∧ 0 ≤ a4.toInt ∧ a2.toInt + a5.toInt ≤ (s.1 (67 + 2 * i) 3).toInt ∧ a4.toInt + a5.toInt ≤ (s.1 (67 + 2 * j) 3).toInt then f_M_shift_L113 zF a1 a2 a3 a4 a5 0 t else some (-13, t) := by
              intro t ht
              unfold f_M_shift
              rw [ht, if_neg r1, if_neg r3, if_pos z1, k1, if_neg c4, if_pos z3, k3, if_neg d4, if_neg c5', if_pos e, c7, d7]
              by_cases f1 : a5.toInt < 0
              · rw [if_pos (by rw [i_lt, l0]; exact f1), if_neg (by omega)]
              · rw [if_neg (by rw [i_lt, l0]; exact f1)]
                have hh := i_hi a5
                have g1 := i_sub (a := s.1 (67 + 2 * i) 3) (b := a5) (by omega) (by omega)
                have g3 := i_sub (a := s.1 (67 + 2 * j) 3) (b := a5) (by omega) (by omega)
                by_cases f2 : a2.toInt < 0
                · rw [if_pos (by rw [i_lt, l0]; exact f2), if_neg (by omega)]
                · rw [if_neg (by rw [i_lt, l0]; exact f2)]
                  by_cases f3 : a4.toInt < 0
                  · rw [if_pos (by rw [i_lt, l0]; exact f3), if_neg (by omega)]
                  · rw [if_neg (by rw [i_lt, l0]; exact f3)]
                    by_cases f4 : (s.1 (67 + 2 * i) 3).toInt - a5.toInt < a2.toInt
                    · rw [if_pos (by rw [i_lt, g1]; exact f4), if_neg (by omega)]
                    · rw [if_neg (by rw [i_lt, g1]; exact f4)]
                      by_cases f5 : a4.toInt ≤ (s.1 (67 + 2 * j) 3).toInt - a5.toInt
                      · rw [if_pos (by rw [i_le, g3]; exact f5), if_pos (by omega)]
                      · rw [if_neg (by rw [i_le, g3]; exact f5), if_neg (by omega)]
            by_cases q1 : 0 ≤ a2.toInt ∧ 0 ≤ a5.toInt ∧ a2.toInt + a5.toInt ≤ (s.1 (67 + 2 * i) 3).toInt
            · rw [if_neg (fun q => p1.mp q q1)]
              by_cases q3 : 0 ≤ a4.toInt ∧ 0 ≤ a5.toInt ∧ a4.toInt + a5.toInt ≤ (s.1 (67 + 2 * j) 3).toInt
              · rw [if_neg (fun q => p3.mp q q3)]
                have zc : zz_cpk a2 a4 a5 60 60 = true := by
                  refine decide_eq_true ⟨?_, ?_, ?_, ?_, ?_⟩
                  · rw [i_lt, l0]; omega
                  · rw [i_lt, l0]; omega
                  · rw [i_lt, l0]; omega
                  · show a2.toInt.toNat + a5.toInt.toNat ≤ 60
                    omega
                  · show a4.toInt.toNat + a5.toInt.toNat ≤ 60
                    omega
                rw [if_pos zc, show 67 + 2 * i + 1 = 68 + 2 * i by omega, show 67 + 2 * j + 1 = 68 + 2 * j by omega]
                obtain ⟨u, g1, g2, g3, g4⟩ := sh_ref a1 a2 a3 a4 a5 (zz_copylS s (68 + 2 * i) (68 + 2 * j) a2 a4 a5) i a2.toInt.toNat j a4.toInt.toNat a5.toInt.toNat (by omega) (by omega) (by omega) (by omega) (by omega) hi6 hj6 (by omega) (by omega)
                refine ag_of rfl ⟨u, ?_, ?_⟩
                · rw [M (zz_copylS s (68 + 2 * i) (68 + 2 * j) a2 a4 a5) rfl, if_pos (by omega)]
                  exact g1
                · have e1 : u.1 = s.1 := g2
                  refine shl_set (s := s) j hj6 (fun o _ _ => by rw [e1]) (fun o o1 o2 => ?_) (fun k _ => by rw [e1]) (fun k _ => by rw [e1]) (fun k hk => ?_) h ⟨fun x hx => ?_, ?_⟩
                  · rw [g3 o (by omega), cp_row, if_neg o2]
                  · rw [g4 k, if_neg (by omega), cp_row, if_neg (by omega)]
                  · rw [g4, g3 (68 + 2 * j) (by omega), cp_row, cp_row, if_neg (show ¬ 121 = 68 + 2 * j by omega), if_pos (rfl : 68 + 2 * j = 68 + 2 * j)]
                    unfold va_cpy
                    by_cases w : a4.toInt.toNat ≤ x ∧ x < a4.toInt.toNat + a5.toInt.toNat
                    · rw [if_pos (by omega), if_pos w]
                      have := s1.1 (a2.toInt.toNat + (x - a4.toInt.toNat)) (by omega)
                      rw [← this]
                      have w2 : 60 * i + a2.toInt.toNat + (60 * j + x - (60 * j + a4.toInt.toNat)) = 60 * i + (a2.toInt.toNat + (x - a4.toInt.toNat)) := by omega
                      rw [w2]
                    · rw [if_neg (by omega), if_neg w]
                      exact s3.1 x hx
                  · rw [e1]
                    exact s3.2
              · rw [if_pos (p3.mpr q3)]
                exact ⟨-13, s, s, rfl, by rw [M s rfl, if_neg (by omega)], h⟩
            · rw [if_pos (p1.mpr q1)]
              exact ⟨-13, s, s, rfl, by rw [M s rfl, if_neg (by omega)], h⟩
          · have e2 : ¬ s.1 (67 + 2 * j) 2 = s.1 (67 + 2 * i) 2 := fun q => e (i_lit (by rw [q] at d6; omega))
            rw [if_neg e2, if_pos rfl]
            exact ⟨-12, s, s, rfl, by unfold f_M_shift; rw [if_neg r1, if_neg r3, if_pos z1, k1, if_neg c4, if_pos z3, k3, if_neg d4, if_neg c5', if_neg e], h⟩
    · rw [if_pos (l3.mpr h3)]
      exact ⟨-1, s, s, rfl, by unfold f_M_shift; rw [if_neg r1, if_pos (l4.mpr h3)], h⟩
  · rw [if_pos (l1.mpr h1)]
    exact ⟨-1, s, s, rfl, by unfold f_M_shift; rw [if_pos (l2.mpr h1)], h⟩
