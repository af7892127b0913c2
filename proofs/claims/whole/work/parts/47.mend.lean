theorem iv_off {s s2 : zz_S} (hf : ∀ o, o = 0 ∨ (10 ≤ o ∧ o < 39) ∨ (43 < o ∧ o < 79) ∨ (88 ≤ o ∧ o < 91) ∨ 94 < o → s2.1 o = s.1 o) (h2 : s2.2 = s.2) (h79 : ∀ k, 12 ≤ k → k ≠ 16 → k ≠ 17 → s2.1 79 k = s.1 79 k) (h : iv s) : iv_turn s2 ∧ iv_tape s2 ∧ iv_body s2 ∧ iv_shl s2 ∧ iv_law s2 ∧ iv_rest s2 := by
  obtain ⟨-, ht, -, hta, hbo, hsh, hla, hre⟩ := h
  have f := fun o h => hf o h
  refine ⟨?_, ?_, ?_, ?_, ?_, ?_⟩
  · unfold iv_turn at ht ⊢
    rw [h79 12 (by decide) (by decide) (by decide), f 10 (by omega), f 11 (by omega), f 12 (by omega), f 13 (by omega), f 14 (by omega), f 88 (by omega), f 89 (by omega), f 90 (by omega)]
    exact ht
  · unfold iv_tape at hta ⊢
    rw [h79 23 (by decide) (by decide) (by decide), f 44 (by omega), f 48 (by omega), f 95 (by omega)]
    exact hta
  · unfold iv_body at hbo ⊢
    rw [h79 55 (by decide) (by decide) (by decide), h79 57 (by decide) (by decide) (by decide), f 49 (by omega), f 50 (by omega), f 51 (by omega), f 117 (by omega), f 118 (by omega)]
    exact hbo
  · unfold iv_shl at hsh ⊢
    rw [h2, f 49 (by omega), f 67 (by omega), f 69 (by omega), f 71 (by omega), f 73 (by omega), f 75 (by omega), f 77 (by omega), f 119 (by omega), f 120 (by omega)]
    exact hsh
  · unfold iv_law at hla ⊢
    rw [h79 35 (by decide) (by decide) (by decide), h79 36 (by decide) (by decide) (by decide), h79 37 (by decide) (by decide) (by decide), f 0 (by omega), f 16 (by omega), f 17 (by omega), f 18 (by omega), f 55 (by omega), f 56 (by omega), f 58 (by omega), f 59 (by omega), f 61 (by omega), f 62 (by omega), f 64 (by omega), f 65 (by omega), f 96 (by omega), f 97 (by omega), f 98 (by omega), f 99 (by omega), f 100 (by omega)]
    exact hla
  · unfold iv_rest at hre ⊢
    rw [h79 51 (by decide) (by decide) (by decide), h79 38 (by decide) (by decide) (by decide)]
    exact hre
/-- a value of a sleeper or a cover becomes another one that may be -/
theorem bed_set {s s2 : zz_S} (cid mid i : Nat) (v : Int32) (h : iv_bed s) (hcm : (cid = 4 ∧ mid = 82 ∧ 0 ≤ v.toInt ∧ v.toInt ≤ 99) ∨ (cid = 5 ∧ mid = 83 ∧ 0 ≤ v.toInt ∧ v.toInt ≤ 99) ∨ (cid = 7 ∧ mid = 85 ∧ 5 ≤ v.toInt ∧ v.toInt ≤ 80) ∨ (cid = 9 ∧ mid = 87 ∧ 0 ≤ v.toInt ∧ v.toInt ≤ 9))
    (hf : ∀ o, o < 10 ∨ (80 ≤ o ∧ o < 88) → o ≠ cid → o ≠ mid → s2.1 o = s.1 o) (h79 : ∀ k, k < 12 → s2.1 79 k = s.1 79 k) (hc : s2.1 cid = upd (s.1 cid) i v) (hm : s2.1 mid = upd (s.1 mid) i v) : iv_bed s2 := by
  obtain ⟨⟨b1, b2, b3⟩, ⟨b4, b4b, b4c, b4d⟩, ⟨b5, b5b, b5c, b5d⟩, b6, b12, b13⟩ := h
  have e1 : s2.1 1 = s.1 1 := hf 1 (by omega) (by omega) (by omega)
  have e2 : s2.1 2 = s.1 2 := hf 2 (by omega) (by omega) (by omega)
  have e3 : s2.1 3 = s.1 3 := hf 3 (by omega) (by omega) (by omega)
  have e6 : s2.1 6 = s.1 6 := hf 6 (by omega) (by omega) (by omega)
  have e8 : s2.1 8 = s.1 8 := hf 8 (by omega) (by omega) (by omega)
  have e80 : s2.1 80 = s.1 80 := hf 80 (by omega) (by omega) (by omega)
  have e81 : s2.1 81 = s.1 81 := hf 81 (by omega) (by omega) (by omega)
  have e84 : s2.1 84 = s.1 84 := hf 84 (by omega) (by omega) (by omega)
  have e86 : s2.1 86 = s.1 86 := hf 86 (by omega) (by omega) (by omega)
  unfold iv_bed
  rw [e1, e2, e3, e6, e8, e80, e81, e84, e86, h79 1 (by omega), h79 2 (by omega), h79 7 (by omega)]
  have hu : ∀ (f : Nat → Int32) (k : Nat), (upd f i v k = v ∧ k = i) ∨ upd f i v k = f k := by
    intro f k
    unfold upd
    by_cases hk : k = i
    · exact Or.inl ⟨if_pos hk, hk⟩
    · exact Or.inr (if_neg hk)
  rcases hcm with ⟨rfl, rfl, hv⟩ | ⟨rfl, rfl, hv⟩ | ⟨rfl, rfl, hv⟩ | ⟨rfl, rfl, hv⟩
  · rw [hf 5 (by omega) (by omega) (by omega), hf 83 (by omega) (by omega) (by omega), hf 7 (by omega) (by omega) (by omega), hf 85 (by omega) (by omega) (by omega), hf 9 (by omega) (by omega) (by omega), hf 87 (by omega) (by omega) (by omega), hc, hm]
    refine ⟨⟨b1, b2, b3⟩, ⟨b4, b4b, by rw [b4c], b4d⟩, ⟨b5, b5b, b5c, b5d⟩, b6, fun k hk => ?_, b13⟩
    obtain ⟨a1, a2, a3, a4, a5, a6, a7, a8⟩ := b12 k hk
    rcases hu (s.1 4) k with ⟨e, -⟩ | e <;> rw [e]
    · exact ⟨a1, a2, a3, a4, hv.1, hv.2, a7, a8⟩
    · exact ⟨a1, a2, a3, a4, a5, a6, a7, a8⟩
  · rw [hf 4 (by omega) (by omega) (by omega), hf 82 (by omega) (by omega) (by omega), hf 7 (by omega) (by omega) (by omega), hf 85 (by omega) (by omega) (by omega), hf 9 (by omega) (by omega) (by omega), hf 87 (by omega) (by omega) (by omega), hc, hm]
    refine ⟨⟨b1, b2, b3⟩, ⟨b4, b4b, b4c, by rw [b4d]⟩, ⟨b5, b5b, b5c, b5d⟩, b6, fun k hk => ?_, b13⟩
    obtain ⟨a1, a2, a3, a4, a5, a6, a7, a8⟩ := b12 k hk
    rcases hu (s.1 5) k with ⟨e, -⟩ | e <;> rw [e]
    · exact ⟨a1, a2, a3, a4, a5, a6, hv.1, hv.2⟩
    · exact ⟨a1, a2, a3, a4, a5, a6, a7, a8⟩
  · rw [hf 4 (by omega) (by omega) (by omega), hf 82 (by omega) (by omega) (by omega), hf 5 (by omega) (by omega) (by omega), hf 83 (by omega) (by omega) (by omega), hf 9 (by omega) (by omega) (by omega), hf 87 (by omega) (by omega) (by omega), hc, hm]
    refine ⟨⟨b1, b2, b3⟩, ⟨b4, b4b, b4c, b4d⟩, ⟨b5, by rw [b5b], b5c, b5d⟩, b6, b12, fun k hk => ?_⟩
    obtain ⟨a1, a2, a3, a4, a5, a6, a7, a8⟩ := b13 k hk
    rcases hu (s.1 7) k with ⟨e, -⟩ | e <;> rw [e]
    · exact ⟨a1, a2, hv.1, hv.2, a5, a6, a7, a8⟩
    · exact ⟨a1, a2, a3, a4, a5, a6, a7, a8⟩
  · rw [hf 4 (by omega) (by omega) (by omega), hf 82 (by omega) (by omega) (by omega), hf 5 (by omega) (by omega) (by omega), hf 83 (by omega) (by omega) (by omega), hf 7 (by omega) (by omega) (by omega), hf 85 (by omega) (by omega) (by omega), hc, hm]
    refine ⟨⟨b1, b2, b3⟩, ⟨b4, b4b, b4c, b4d⟩, ⟨b5, b5b, b5c, by rw [b5d]⟩, b6, b12, fun k hk => ?_⟩
    obtain ⟨a1, a2, a3, a4, a5, a6, a7, a8⟩ := b13 k hk
    rcases hu (s.1 9) k with ⟨e, -⟩ | e <;> rw [e]
    · exact ⟨a1, a2, a3, a4, a5, a6, hv.1, hv.2⟩
    · exact ⟨a1, a2, a3, a4, a5, a6, a7, a8⟩
theorem mend_iv {s : zz_S} (cid mid i : Nat) (v : Int32) (h : iv s) (hcm : (cid = 4 ∧ mid = 82 ∧ 0 ≤ v.toInt ∧ v.toInt ≤ 99) ∨ (cid = 5 ∧ mid = 83 ∧ 0 ≤ v.toInt ∧ v.toInt ≤ 99) ∨ (cid = 7 ∧ mid = 85 ∧ 5 ≤ v.toInt ∧ v.toInt ≤ 80) ∨ (cid = 9 ∧ mid = 87 ∧ 0 ≤ v.toInt ∧ v.toInt ≤ 9)) :
    ∀ s2 : zz_S, (∀ o, o < 39 ∨ (43 < o ∧ o < 79) ∨ (79 < o ∧ o < 91) ∨ 94 < o → o ≠ cid → o ≠ mid → s2.1 o = s.1 o) → s2.2 = s.2 → (∀ k, k ≠ 16 → k ≠ 17 → s2.1 79 k = s.1 79 k) → s2.1 cid = upd (s.1 cid) i v → s2.1 mid = upd (s.1 mid) i v → iv_bed s2 ∧ iv_turn s2 ∧ iv_tape s2 ∧ iv_body s2 ∧ iv_shl s2 ∧ iv_law s2 ∧ iv_rest s2 ∧ s2.1 1 1 = s.1 1 1 ∧ s2.1 1 2 = s.1 1 2 := by
  intro s2 hf h2 h79 hc hm
  obtain ⟨g1, g2, g3, g4, g5, g6⟩ := iv_off (s2 := s2) (fun o ho => hf o (by omega) (by omega) (by omega)) h2 (fun k _ h1 h2 => h79 k h1 h2) h
  have e1 : s2.1 1 = s.1 1 := hf 1 (by omega) (by omega) (by omega)
  exact ⟨bed_set cid mid i v h.1 hcm (fun o ho => hf o (by omega)) (fun k hk => h79 k (by omega) (by omega)) hc hm, g1, g2, g3, g4, g5, g6, by rw [e1], by rw [e1]⟩
theorem p_mend (a b v : Int32) {s : zz_S} (h : iv s) : ag iv (f_B_mend a b v s) (f_M_mend a b v) := by
  obtain ⟨⟨⟨b1, b2, b3⟩, ⟨b4, b4b, b4c, b4d⟩, ⟨b5, b5b, b5c, b5d⟩, ⟨b6, b7, b8, b9, b10, b11⟩, b12, b13⟩, -⟩ := id h
  have hS := b_hasS a s
  have hC := b_hasC a s
  have mS := m_isS a (s := s) (by rw [b2]; exact b8)
  have mC := m_isC a (s := s) (by rw [b3]; exact b10)
  rw [b2] at mS
  rw [b3] at mC
  have refuse : f_B_mend a b v s = some (-1, s) → f_M_mend a b v s = some (-1, s) → ag iv (f_B_mend a b v s) (f_M_mend a b v) := fun h1 h2 => ⟨-1, s, s, h1, h2, h⟩
  have c0 : b.toInt = 0 ∨ b.toInt = 1 ∨ b.toInt = 2 ∨ b.toInt = 3 ∨ ¬ (0 ≤ b.toInt ∧ b.toInt ≤ 3) := by omega
  rcases c0 with q | q | q | q | q
  · have e : b = 0 := i_lit q
    subst e
    have k0 : ¬ ((0 : Int32) < 0) := by decide
    have k1 : (0 : Int32) ≤ 3 := by decide
    by_cases hp : 0 ≤ a.toInt ∧ a.toInt < (s.1 1 1).toInt
    · have z : zz_in a 6 = true := i_in.mpr (by omega)
      have n1 : ¬ f_Bed_hasSleeper a s = 0 := fun h => hS.mp h hp
      have n2 : ∀ s' : zz_S, s'.1 79 = s.1 79 → ¬ f_M_isSleeper a s' = 0 := fun s' h79 h => by
        have e2 : f_M_isSleeper a s' = f_M_isSleeper a s := by unfold f_M_isSleeper; rw [h79]
        rw [e2] at h
        exact mS.mp h hp
      by_cases hv : 0 ≤ v.toInt ∧ v.toInt ≤ 99
      · have l1 : ¬ v < 0 := by rw [i_lt]; exact fun q => absurd hv.1 (Int.not_le.mpr q)
        have l2 : v ≤ 99 := by rw [i_le]; exact hv.2
        have l3 : ¬ f_M_in v 0 99 = 0 := fun q => (M_in0 _ _ _).mp q hv
        have e1 : f_B_mend a 0 v s = (if v = s.1 4 a.toInt.toNat then some (s.1 4 a.toInt.toNat, s) else (f_Changes_add a 0 (s.1 4 a.toInt.toNat) v (zz_w s 4 a.toInt.toNat v)).bind fun q9 => some (s.1 4 a.toInt.toNat, q9)) := by
          simp [f_B_mend, f_B_mend_J35, f_Bed_mendable, f_B_leastOf, f_B_mostOf, n1, l1, l2, show zz_n 4 = 6 from rfl, z]
        rw [e1]
        exact mend_core a 0 v 4 82 6 (f_M_mend a 0 v) h (fun s' h79 => by simp [f_M_mend, n2 s' h79, l3]) (by omega) (by omega) (fun s' => by simp [f_M_valueAt, z]) (fun s' => by simp [f_M_lays, z]) b4c ⟨⟨hp.1, by decide, by decide⟩, fun _ => ⟨hp.2, by have hh := b12 a.toInt.toNat (by omega); unfold sOK at hh; omega⟩, fun q => absurd q (by decide), fun q => absurd q (by decide)⟩ (mend_iv 4 82 a.toInt.toNat v h (Or.inl ⟨rfl, rfl, hv⟩))
      · refine refuse ?_ ?_
        · have l1 : v < 0 ∨ ¬ v ≤ 99 := by rw [i_lt, i_le]; show v.toInt < 0 ∨ ¬ v.toInt ≤ 99; omega
          rcases l1 with l1 | l1
          · simp [f_B_mend, f_B_mend_J35, f_B_leastOf, f_B_mostOf, n1, l1]
          · have l1' : 99 < v := Int32.not_le.mp l1
            simp [f_B_mend, f_B_mend_J35, f_B_leastOf, f_B_mostOf, n1, l1', Int32.not_le.mpr l1']
        · have l3 : f_M_in v 0 99 = 0 := (M_in0 _ _ _).mpr hv
          simp [f_M_mend, n2 s rfl, l3]
    · have n1 : f_Bed_hasSleeper a s = 0 := hS.mpr hp
      have n2 : f_M_isSleeper a s = 0 := mS.mpr hp
      exact refuse (by simp [f_B_mend, f_B_mend_J35, n1]) (by simp [f_M_mend, n2])
  · have e : b = 1 := i_lit q
    subst e
    have k0 : ¬ ((1 : Int32) < 0) := by decide
    have k1 : (1 : Int32) ≤ 3 := by decide
    by_cases hp : 0 ≤ a.toInt ∧ a.toInt < (s.1 1 1).toInt
    · have z : zz_in a 6 = true := i_in.mpr (by omega)
      have n1 : ¬ f_Bed_hasSleeper a s = 0 := fun h => hS.mp h hp
      have n2 : ∀ s' : zz_S, s'.1 79 = s.1 79 → ¬ f_M_isSleeper a s' = 0 := fun s' h79 h => by
        have e2 : f_M_isSleeper a s' = f_M_isSleeper a s := by unfold f_M_isSleeper; rw [h79]
        rw [e2] at h
        exact mS.mp h hp
      by_cases hv : 0 ≤ v.toInt ∧ v.toInt ≤ 99
      · have l1 : ¬ v < 0 := by rw [i_lt]; exact fun q => absurd hv.1 (Int.not_le.mpr q)
        have l2 : v ≤ 99 := by rw [i_le]; exact hv.2
        have l3 : ¬ f_M_in v 0 99 = 0 := fun q => (M_in0 _ _ _).mp q hv
        have e1 : f_B_mend a 1 v s = (if v = s.1 5 a.toInt.toNat then some (s.1 5 a.toInt.toNat, s) else (f_Changes_add a 1 (s.1 5 a.toInt.toNat) v (zz_w s 5 a.toInt.toNat v)).bind fun q9 => some (s.1 5 a.toInt.toNat, q9)) := by
          simp [f_B_mend, f_B_mend_J35, f_Bed_mendable, f_B_leastOf, f_B_mostOf, n1, l1, l2, show zz_n 5 = 6 from rfl, z]
        rw [e1]
        exact mend_core a 1 v 5 83 6 (f_M_mend a 1 v) h (fun s' h79 => by simp [f_M_mend, n2 s' h79, l3]) (by omega) (by omega) (fun s' => by simp [f_M_valueAt, z]) (fun s' => by simp [f_M_lays, z]) b4d ⟨⟨hp.1, by decide, by decide⟩, fun _ => ⟨hp.2, by have hh := b12 a.toInt.toNat (by omega); unfold sOK at hh; omega⟩, fun q => absurd q (by decide), fun q => absurd q (by decide)⟩ (mend_iv 5 83 a.toInt.toNat v h (Or.inr (Or.inl ⟨rfl, rfl, hv⟩)))
      · refine refuse ?_ ?_
        · have l1 : v < 0 ∨ ¬ v ≤ 99 := by rw [i_lt, i_le]; show v.toInt < 0 ∨ ¬ v.toInt ≤ 99; omega
          rcases l1 with l1 | l1
          · simp [f_B_mend, f_B_mend_J35, f_B_leastOf, f_B_mostOf, n1, l1]
          · have l1' : 99 < v := Int32.not_le.mp l1
            simp [f_B_mend, f_B_mend_J35, f_B_leastOf, f_B_mostOf, n1, l1', Int32.not_le.mpr l1']
        · have l3 : f_M_in v 0 99 = 0 := (M_in0 _ _ _).mpr hv
          simp [f_M_mend, n2 s rfl, l3]
    · have n1 : f_Bed_hasSleeper a s = 0 := hS.mpr hp
      have n2 : f_M_isSleeper a s = 0 := mS.mpr hp
      exact refuse (by simp [f_B_mend, f_B_mend_J35, n1]) (by simp [f_M_mend, n2])
  · have e : b = 2 := i_lit q
    subst e
    have k0 : ¬ ((2 : Int32) < 0) := by decide
    have k1 : (2 : Int32) ≤ 3 := by decide
    by_cases hp : 0 ≤ a.toInt ∧ a.toInt < (s.1 1 2).toInt
    · have z : zz_in a 3 = true := i_in.mpr (by omega)
      have n1 : ¬ f_Bed_hasCover a s = 0 := fun h => hC.mp h hp
      have n2 : ∀ s' : zz_S, s'.1 79 = s.1 79 → ¬ f_M_isCover a s' = 0 := fun s' h79 h => by
        have e2 : f_M_isCover a s' = f_M_isCover a s := by unfold f_M_isCover; rw [h79]
        rw [e2] at h
        exact mC.mp h hp
      by_cases hv : 5 ≤ v.toInt ∧ v.toInt ≤ 80
      · have l1 : ¬ v < 5 := by rw [i_lt]; exact fun q => absurd hv.1 (Int.not_le.mpr q)
        have l2 : v ≤ 80 := by rw [i_le]; exact hv.2
        have l3 : ¬ f_M_in v 5 80 = 0 := fun q => (M_in0 _ _ _).mp q hv
        have e1 : f_B_mend a 2 v s = (if v = s.1 7 a.toInt.toNat then some (s.1 7 a.toInt.toNat, s) else (f_Changes_add a 2 (s.1 7 a.toInt.toNat) v (zz_w s 7 a.toInt.toNat v)).bind fun q9 => some (s.1 7 a.toInt.toNat, q9)) := by
          simp [f_B_mend, f_B_mend_J35, f_Bed_mendable, f_B_leastOf, f_B_mostOf, n1, l1, l2, show zz_n 7 = 3 from rfl, z]
        rw [e1]
        exact mend_core a 2 v 7 85 3 (f_M_mend a 2 v) h (fun s' h79 => by simp [f_M_mend, n2 s' h79, l3]) (by omega) (by omega) (fun s' => by simp [f_M_valueAt, z]) (fun s' => by simp [f_M_lays, z]) b5b ⟨⟨hp.1, by decide, by decide⟩, fun q => absurd q (by decide), fun _ => ⟨hp.2, by have hh := b13 a.toInt.toNat (by omega); unfold cOK at hh; omega⟩, fun q => absurd q (by decide)⟩ (mend_iv 7 85 a.toInt.toNat v h (Or.inr (Or.inr (Or.inl ⟨rfl, rfl, hv⟩))))
      · refine refuse ?_ ?_
        · have l1 : v < 5 ∨ ¬ v ≤ 80 := by rw [i_lt, i_le]; show v.toInt < 5 ∨ ¬ v.toInt ≤ 80; omega
          rcases l1 with l1 | l1
          · simp [f_B_mend, f_B_mend_J35, f_B_leastOf, f_B_mostOf, n1, l1]
          · have l1' : 80 < v := Int32.not_le.mp l1
            simp [f_B_mend, f_B_mend_J35, f_B_leastOf, f_B_mostOf, n1, l1', Int32.not_le.mpr l1']
        · have l3 : f_M_in v 5 80 = 0 := (M_in0 _ _ _).mpr hv
          simp [f_M_mend, n2 s rfl, l3]
    · have n1 : f_Bed_hasCover a s = 0 := hC.mpr hp
      have n2 : f_M_isCover a s = 0 := mC.mpr hp
      exact refuse (by simp [f_B_mend, f_B_mend_J35, n1]) (by simp [f_M_mend, n2])
  · have e : b = 3 := i_lit q
    subst e
    have k0 : ¬ ((3 : Int32) < 0) := by decide
    have k1 : (3 : Int32) ≤ 3 := by decide
    by_cases hp : 0 ≤ a.toInt ∧ a.toInt < (s.1 1 2).toInt
    · have z : zz_in a 3 = true := i_in.mpr (by omega)
      have n1 : ¬ f_Bed_hasCover a s = 0 := fun h => hC.mp h hp
      have n2 : ∀ s' : zz_S, s'.1 79 = s.1 79 → ¬ f_M_isCover a s' = 0 := fun s' h79 h => by
        have e2 : f_M_isCover a s' = f_M_isCover a s := by unfold f_M_isCover; rw [h79]
        rw [e2] at h
        exact mC.mp h hp
      by_cases hv : 0 ≤ v.toInt ∧ v.toInt ≤ 9
      · have l1 : ¬ v < 0 := by rw [i_lt]; exact fun q => absurd hv.1 (Int.not_le.mpr q)
        have l2 : v ≤ 9 := by rw [i_le]; exact hv.2
        have l3 : ¬ f_M_in v 0 9 = 0 := fun q => (M_in0 _ _ _).mp q hv
        have e1 : f_B_mend a 3 v s = (if v = s.1 9 a.toInt.toNat then some (s.1 9 a.toInt.toNat, s) else (f_Changes_add a 3 (s.1 9 a.toInt.toNat) v (zz_w s 9 a.toInt.toNat v)).bind fun q9 => some (s.1 9 a.toInt.toNat, q9)) := by
          simp [f_B_mend, f_B_mend_J35, f_Bed_mendable, f_B_leastOf, f_B_mostOf, n1, l1, l2, show zz_n 9 = 3 from rfl, z]
        rw [e1]
        exact mend_core a 3 v 9 87 3 (f_M_mend a 3 v) h (fun s' h79 => by simp [f_M_mend, n2 s' h79, l3]) (by omega) (by omega) (fun s' => by simp [f_M_valueAt, z]) (fun s' => by simp [f_M_lays, z]) b5d ⟨⟨hp.1, by decide, by decide⟩, fun q => absurd q (by decide), fun q => absurd q (by decide), fun _ => ⟨hp.2, by have hh := b13 a.toInt.toNat (by omega); unfold cOK at hh; omega⟩⟩ (mend_iv 9 87 a.toInt.toNat v h (Or.inr (Or.inr (Or.inr ⟨rfl, rfl, hv⟩))))
      · refine refuse ?_ ?_
        · have l1 : v < 0 ∨ ¬ v ≤ 9 := by rw [i_lt, i_le]; show v.toInt < 0 ∨ ¬ v.toInt ≤ 9; omega
          rcases l1 with l1 | l1
          · simp [f_B_mend, f_B_mend_J35, f_B_leastOf, f_B_mostOf, n1, l1]
          · have l1' : 9 < v := Int32.not_le.mp l1
            simp [f_B_mend, f_B_mend_J35, f_B_leastOf, f_B_mostOf, n1, l1', Int32.not_le.mpr l1']
        · have l3 : f_M_in v 0 9 = 0 := (M_in0 _ _ _).mpr hv
          simp [f_M_mend, n2 s rfl, l3]
    · have n1 : f_Bed_hasCover a s = 0 := hC.mpr hp
      have n2 : f_M_isCover a s = 0 := mC.mpr hp
      exact refuse (by simp [f_B_mend, f_B_mend_J35, n1]) (by simp [f_M_mend, n2])
  · refine refuse ?_ ?_
    · by_cases h1 : b < 0
      · simp [f_B_mend, h1]
      · have h2 : ¬ b ≤ 3 := by
          rw [i_lt] at h1
          rw [i_le]
          show ¬ b.toInt ≤ 3
          have : ¬ b.toInt < 0 := h1
          omega
        have h2' : 3 < b := Int32.not_le.mp h2
        simp [f_B_mend, h2', Int32.not_le.mpr h2']
    · have k0 : ¬ b = 0 := fun e => q (by rw [e]; decide)
      have k1 : ¬ b = 1 := fun e => q (by rw [e]; decide)
      have k2 : ¬ b = 2 := fun e => q (by rw [e]; decide)
      have k3 : ¬ b = 3 := fun e => q (by rw [e]; decide)
      simp [f_M_mend, k0, k1, k2, k3]
