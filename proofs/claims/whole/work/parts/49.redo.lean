theorem p_redo {s : zz_S} (h : iv s) : ag iv (f_B_redo s) f_M_redo := by
  obtain ⟨⟨-, -, -, ⟨-, -, -, bs, -, bc⟩, -⟩, -, ⟨c1, c2, ⟨c3, c4, c5⟩, c6⟩, -⟩ := id h
  unfold f_B_redo
  by_cases h0 : s.1 39 0 = s.1 39 1
  · rw [if_pos h0]
    have e17 : s.1 79 17 = 0 := i_lit (by rw [c2, h0]; show _ = (0 : Int); omega)
    exact ⟨_, s, s, rfl, by unfold f_M_redo; rw [if_pos e17], h⟩
  · rw [if_neg h0]
    have hpos : (s.1 39 0).toInt < (s.1 39 1).toInt := by
      have : ¬ (s.1 39 0).toInt = (s.1 39 1).toInt := fun q => h0 (i_eq.mpr q)
      omega
    have n17 : ¬ s.1 79 17 = 0 := fun q => by
      rw [q] at c2
      have : (0 : Int32).toInt = 0 := rfl
      omega
    have hk : (s.1 39 0).toNatClampNeg = (s.1 39 0).toInt.toNat := rfl
    have hinc := i_inc (a := s.1 39 0) (by omega)
    have hdec := i_dec (a := s.1 79 17) (by omega)
    have hsub := i_sub (a := s.1 39 1) (b := s.1 39 0 + 1) (by omega) (by omega)
    obtain ⟨⟨e1, e2, e3, e4⟩, hok⟩ := c6 (s.1 39 0).toInt.toNat (by omega)
    obtain ⟨cid, mid, m1, m2, m3, -, m4⟩ := ent bs bc hok
    obtain ⟨k1, k2, k3⟩ := cm_b m4
    unfold f_Changes_doAgain
    rw [if_neg (by rw [i_le]; exact Int.not_le.mpr hpos), hk, if_pos (i_in.mpr (by omega)), m1, if_pos m2]
    refine ag_of rfl ?_
    unfold f_M_redo
    have n79 : ¬ 79 = cid := by omega
    have n91 : ¬ 91 = cid := by omega
    have n92 : ¬ 92 = cid := by omega
    have n94 : ¬ 94 = cid := by omega
    have n39 : ¬ 39 = mid := by omega
    simp only [w_get, n79, n91, n92, n94, show ((79 : Nat) = 39) = False by decide, show ((91 : Nat) = 39) = False by decide, show ((92 : Nat) = 39) = False by decide, show ((94 : Nat) = 39) = False by decide, if_false, c1, if_neg n17]
    rw [hk, if_pos (i_in.mpr (by omega)), e1, e2, e4, m3]
    have a79 : ¬ 79 = mid := by omega
    have a39 : ¬ 39 = cid := by omega
    refine ⟨_, sp ?_, ?_⟩
    · have key : s.1 39 1 - (s.1 39 0 + 1) = s.1 79 17 - 1 := i_eq.mpr (by rw [hsub, hinc, hdec]; omega)
      simpa [w_get, a79, a39, n79] using key.symm
    · refine undo_iv cid mid (s.1 40 (s.1 39 0).toInt.toNat).toInt.toNat (s.1 43 (s.1 39 0).toInt.toNat) h m4 (fun o ho h1 h2 => ?_) rfl (fun k h1 h2 => ?_) ?_ ?_ (fun g8 g9 => ?_)
      · have a1 : ¬ o = 39 := by omega
        by_cases a2 : o = 79
        · omega
        · simp [w_row, a1, a2, h1, h2]
      · have a1 : ¬ 79 = mid := by omega
        simp [w_get, h1, h2, a1, n79]
      · have a1 : ¬ cid = mid := by omega
        have a2 : ¬ cid = 79 := by omega
        have a3 : ¬ cid = 39 := by omega
        simp [w_row, a1, a2, a3]
      · have a1 : ¬ mid = cid := by omega
        have a2 : ¬ mid = 79 := by omega
        have a3 : ¬ mid = 39 := by omega
        simp [w_row, a1, a2, a3]
      · refine ⟨?_, ?_, ?_, ?_⟩
        · simp [w_get, a79, n39, a39, n79, c1]
        · simp [w_get, a79, n39, a39, n79, hinc, hdec]
          omega
        · simp [w_get, n39, a39, hinc]
          omega
        · intro k hk2
          simp [w_get, n39, a39] at hk2
          have q := c6 k hk2
          have b40 : ¬ 40 = cid := by omega
          have b41 : ¬ 41 = cid := by omega
          have b42 : ¬ 42 = cid := by omega
          have b43 : ¬ 43 = cid := by omega
          have d40 : ¬ 40 = mid := by omega
          have d41 : ¬ 41 = mid := by omega
          have d42 : ¬ 42 = mid := by omega
          have d43 : ¬ 43 = mid := by omega
          have b93 : ¬ 93 = cid := by omega
          have d91 : ¬ 91 = mid := by omega
          have d92 : ¬ 92 = mid := by omega
          have d93 : ¬ 93 = mid := by omega
          have d94 : ¬ 94 = mid := by omega
          rw [g8, g9]
          simpa [w_get, b40, b41, b42, b43, d40, d41, d42, d43, n91, n92, b93, n94, d91, d92, d93, d94] using q
