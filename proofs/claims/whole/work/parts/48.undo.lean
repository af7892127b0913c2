def cmOK (cid mid : Nat) (v : Int32) : Prop := (cid = 4 ∧ mid = 82 ∧ 0 ≤ v.toInt ∧ v.toInt ≤ 99) ∨ (cid = 5 ∧ mid = 83 ∧ 0 ≤ v.toInt ∧ v.toInt ≤ 99) ∨ (cid = 7 ∧ mid = 85 ∧ 5 ≤ v.toInt ∧ v.toInt ≤ 80) ∨ (cid = 9 ∧ mid = 87 ∧ 0 ≤ v.toInt ∧ v.toInt ≤ 9)
theorem ent {sl co nu w wa be : Int32} (hs : sl.toInt ≤ 6) (hc : co.toInt ≤ 3) (h : hOK sl co nu w wa be) : ∃ cid mid, f_Bed_mendable w = cid ∧ zz_in nu (zz_n cid) = true ∧ (∀ v s', f_M_lays w nu v s' = some (zz_w s' mid nu.toInt.toNat v)) ∧ cmOK cid mid wa ∧ cmOK cid mid be := by
  obtain ⟨⟨h1, h2, h3⟩, h4, h5, h6⟩ := h
  have c0 : w.toInt = 0 ∨ w.toInt = 1 ∨ w.toInt = 2 ∨ w.toInt = 3 := by omega
  rcases c0 with q | q | q | q
  · have e : w = 0 := i_lit q
    subst e
    obtain ⟨g1, g2⟩ := h4 (by decide)
    have z : zz_in nu 6 = true := i_in.mpr (by omega)
    exact ⟨4, 82, rfl, z, fun v s' => by simp [f_M_lays, z], Or.inl ⟨rfl, rfl, by omega⟩, Or.inl ⟨rfl, rfl, by omega⟩⟩
  · have e : w = 1 := i_lit q
    subst e
    obtain ⟨g1, g2⟩ := h4 (by decide)
    have z : zz_in nu 6 = true := i_in.mpr (by omega)
    exact ⟨5, 83, rfl, z, fun v s' => by simp [f_M_lays, z], Or.inr (Or.inl ⟨rfl, rfl, by omega⟩), Or.inr (Or.inl ⟨rfl, rfl, by omega⟩)⟩
  · have e : w = 2 := i_lit q
    subst e
    obtain ⟨g1, g2⟩ := h5 (by decide)
    have z : zz_in nu 3 = true := i_in.mpr (by omega)
    exact ⟨7, 85, rfl, z, fun v s' => by simp [f_M_lays, z], Or.inr (Or.inr (Or.inl ⟨rfl, rfl, by omega⟩)), Or.inr (Or.inr (Or.inl ⟨rfl, rfl, by omega⟩))⟩
  · have e : w = 3 := i_lit q
    subst e
    obtain ⟨g1, g2⟩ := h6 (by decide)
    have z : zz_in nu 3 = true := i_in.mpr (by omega)
    exact ⟨9, 87, rfl, z, fun v s' => by simp [f_M_lays, z], Or.inr (Or.inr (Or.inr ⟨rfl, rfl, by omega⟩)), Or.inr (Or.inr (Or.inr ⟨rfl, rfl, by omega⟩))⟩
theorem cm_b {cid mid : Nat} {v : Int32} (h : cmOK cid mid v) : cid < 10 ∧ 81 < mid ∧ mid < 88 := by
  unfold cmOK at h
  omega
theorem undo_iv {s s2 : zz_S} (cid mid i : Nat) (v : Int32) (h : iv s) (hcm : cmOK cid mid v) (hf : ∀ o, o < 39 ∨ (43 < o ∧ o < 79) ∨ (79 < o ∧ o < 91) ∨ 94 < o → o ≠ cid → o ≠ mid → s2.1 o = s.1 o) (h2 : s2.2 = s.2) (h79 : ∀ k, k ≠ 16 → k ≠ 17 → s2.1 79 k = s.1 79 k) (hc : s2.1 cid = upd (s.1 cid) i v) (hm : s2.1 mid = upd (s.1 mid) i v) (hchg : s2.1 1 1 = s.1 1 1 → s2.1 1 2 = s.1 1 2 → iv_chg s2) : iv s2 := by
  obtain ⟨g1, g2, g3, g4, g5, g6, g7, g8, g9⟩ := mend_iv cid mid i v h hcm s2 hf h2 h79 hc hm
  exact ⟨g1, g2, hchg g8 g9, g3, g4, g5, g6, g7⟩
theorem p_undo {s : zz_S} (h : iv s) : ag iv (f_B_undo s) f_M_undo := by
  obtain ⟨⟨-, -, -, ⟨-, -, -, bs, -, bc⟩, -⟩, -, ⟨c1, c2, ⟨c3, c4, c5⟩, c6⟩, -⟩ := id h
  unfold f_B_undo
  by_cases h0 : s.1 39 0 = 0
  · rw [if_pos h0]
    exact ⟨_, s, s, rfl, by unfold f_M_undo; rw [c1, if_pos h0], h⟩
  · rw [if_neg h0]
    have hpos : 0 < (s.1 39 0).toInt := by
      have : ¬ (s.1 39 0).toInt = 0 := fun q => h0 (i_lit q)
      omega
    have hdec := i_dec (a := s.1 39 0) (by omega)
    have hk : (s.1 39 0 - 1).toNatClampNeg = (s.1 39 0 - 1).toInt.toNat := rfl
    obtain ⟨⟨e1, e2, e3, e4⟩, hok⟩ := c6 (s.1 39 0 - 1).toInt.toNat (by omega)
    obtain ⟨cid, mid, m1, m2, m3, m4, -⟩ := ent bs bc hok
    obtain ⟨k1, k2, k3⟩ := cm_b m4
    unfold f_Changes_takeBack
    rw [if_neg (by rw [i_le]; exact Int.not_le.mpr hpos), hk, if_pos (i_in.mpr (by omega)), m1, if_pos m2]
    refine ag_of rfl ?_
    unfold f_M_undo
    have n79 : ¬ 79 = cid := by omega
    have n91 : ¬ 91 = cid := by omega
    have n92 : ¬ 92 = cid := by omega
    have n93 : ¬ 93 = cid := by omega
    have n39 : ¬ 39 = mid := by omega
    simp only [w_get, n79, n91, n92, n93, show ((79 : Nat) = 39) = False by decide, show ((91 : Nat) = 39) = False by decide, show ((92 : Nat) = 39) = False by decide, show ((93 : Nat) = 39) = False by decide, if_false, c1, if_neg h0]
    rw [hk, if_pos (i_in.mpr (by omega)), e1, e2, e3, m3]
    refine ⟨_, sp ?_, ?_⟩
    · have : ¬ 79 = mid := by omega
      have n39' : ¬ 39 = cid := by omega
      simp [w_get, this, n39']
    · refine undo_iv cid mid (s.1 40 (s.1 39 0 - 1).toInt.toNat).toInt.toNat (s.1 42 (s.1 39 0 - 1).toInt.toNat) h m4 (fun o ho h1 h2 => ?_) rfl (fun k h1 h2 => ?_) ?_ ?_ (fun g8 g9 => ?_)
      · have a1 : ¬ o = 39 := by omega
        by_cases a2 : o = 79
        · omega
        · simp [w_row, a1, a2, h1, h2]
      · have a1 : ¬ 79 = mid := by omega
        simp [w_get, h1, h2, a1, n79]
      · have a1 : ¬ cid = mid := by omega
        have a2 : ¬ cid = 79 := by omega
        have a3 : ¬ cid = 39 := by omega
        simp [w_row, a1, a2, a3]
      · have a1 : ¬ mid = cid := by omega
        have a2 : ¬ mid = 79 := by omega
        have a3 : ¬ mid = 39 := by omega
        simp [w_row, a1, a2, a3]
      · refine ⟨?_, ?_, ?_, ?_⟩
        · have a1 : ¬ 79 = mid := by omega
          have a2 : ¬ 39 = cid := by omega
          simp [w_get, a1, n39, a2]
        · have a1 : ¬ 79 = mid := by omega
          have a2 : ¬ 39 = cid := by omega
          have hinc := i_inc (a := s.1 79 17) (by omega)
          simp [w_get, a1, n39, a2, hinc, hdec]
          omega
        · have a2 : ¬ 39 = cid := by omega
          simp [w_get, n39, a2, hdec]
          omega
        · intro k hk2
          have a2 : ¬ 39 = cid := by omega
          simp [w_get, n39, a2] at hk2
          have q := c6 k hk2
          have b40 : ¬ 40 = cid := by omega
          have b41 : ¬ 41 = cid := by omega
          have b42 : ¬ 42 = cid := by omega
          have b43 : ¬ 43 = cid := by omega
          have d40 : ¬ 40 = mid := by omega
          have d41 : ¬ 41 = mid := by omega
          have d42 : ¬ 42 = mid := by omega
          have d43 : ¬ 43 = mid := by omega
          have b94 : ¬ 94 = cid := by omega
          have d91 : ¬ 91 = mid := by omega
          have d92 : ¬ 92 = mid := by omega
          have d93 : ¬ 93 = mid := by omega
          have d94 : ¬ 94 = mid := by omega
          rw [g8, g9]
          simpa [w_get, b40, b41, b42, b43, d40, d41, d42, d43, n91, n92, n93, b94, d91, d92, d93, d94] using q
