/-! the night begins: the reference -/
theorem rb3_loop {r0 : zz_S} : ∀ (q j n : Nat) (v1 : Int32) (r : zz_S), j + q = 18 → v1.toInt = j → q < n → (∀ o, o ≠ 113 → r.1 o = r0.1 o) → r.2 = r0.2 → (∀ k, k < j → r.1 113 k = 0) →
    ∃ r2, f_M_begin_L104 n v1 r = some r2 ∧ (∀ o, o ≠ 113 → r2.1 o = r0.1 o) ∧ r2.2 = r0.2 ∧ ∀ k, k < 18 → r2.1 113 k = 0 := by
  have l18 : (18 : Int32).toInt = 18 := rfl
  intro q
  induction q with
  | zero =>
    intro j n v1 r hj hv hn h1 h2 h3
    obtain ⟨n, rfl⟩ : ∃ x, n = x + 1 := ⟨n - 1, by omega⟩
    exact ⟨r, by rw [f_M_begin_L104, if_pos (by rw [i_le, l18]; omega)], h1, h2, fun k hk => h3 k (by omega)⟩
  | succ q ih =>
    intro j n v1 r hj hv hn h1 h2 h3
    obtain ⟨n, rfl⟩ : ∃ x, n = x + 1 := ⟨n - 1, by omega⟩
    have hv1 := i_inc (a := v1) (by omega)
    rw [f_M_begin_L104, if_neg (by rw [i_le, l18]; omega), if_pos (i_in.mpr (by omega)), nz_eq hv]
    refine ih (j + 1) n (v1 + 1) _ (by omega) (by omega) (by omega) (fun o ho => by rw [w_row, if_neg ho, h1 o ho]) h2 (fun k hk => ?_)
    rw [w_get, if_pos rfl]
    by_cases e : k = j
    · rw [if_pos e]
    · rw [if_neg e]; exact h3 k (by omega)
theorem rb2_loop {r0 : zz_S} : ∀ (q j n : Nat) (v1 : Int32) (r : zz_S), j + q = 3 → v1.toInt = j → q < n → (∀ o, o ≠ 104 → r.1 o = r0.1 o) → r.2 = r0.2 → (∀ k, k < j → r.1 104 k = r0.1 84 k) →
    ∃ r2, f_M_begin_L79 n v1 r = f_M_begin_L104 zF 0 r2 ∧ (∀ o, o ≠ 104 → r2.1 o = r0.1 o) ∧ r2.2 = r0.2 ∧ ∀ k, k < 3 → r2.1 104 k = r0.1 84 k := by
  have l3 : (3 : Int32).toInt = 3 := rfl
  intro q
  induction q with
  | zero =>
    intro j n v1 r hj hv hn h1 h2 h3
    obtain ⟨n, rfl⟩ : ∃ x, n = x + 1 := ⟨n - 1, by omega⟩
    exact ⟨r, by rw [f_M_begin_L79, if_pos (by rw [i_le, l3]; omega)], h1, h2, fun k hk => h3 k (by omega)⟩
  | succ q ih =>
    intro j n v1 r hj hv hn h1 h2 h3
    obtain ⟨n, rfl⟩ : ∃ x, n = x + 1 := ⟨n - 1, by omega⟩
    have hv1 := i_inc (a := v1) (by omega)
    rw [f_M_begin_L79, if_neg (by rw [i_le, l3]; omega), if_pos (i_in.mpr (by omega)), nz_eq hv]
    refine ih (j + 1) n (v1 + 1) _ (by omega) (by omega) (by omega) (fun o ho => by rw [w_row, if_neg ho, h1 o ho]) h2 (fun k hk => ?_)
    rw [w_get, if_pos rfl]
    by_cases e : k = j
    · rw [if_pos e, e, h1 84 (by decide)]
    · rw [if_neg e]; exact h3 k (by omega)
def rbq (r0 r : zz_S) (i : Nat) : Prop := r.1 103 i = r0.1 80 i ∧ r.1 105 i = 0 ∧ r.1 107 i = 0 ∧ r.1 108 i = 0 ∧ r.1 109 i = 0 ∧ r.1 110 i = 0 ∧ r.1 111 i = -2 ∧ r.1 112 i = -2
theorem rb1_loop {r0 : zz_S} : ∀ (q j n : Nat) (v1 : Int32) (r : zz_S), j + q = 6 → v1.toInt = j → q < n → (∀ o, o ≠ 103 → o ≠ 105 → ¬ (107 ≤ o ∧ o ≤ 112) → r.1 o = r0.1 o) → r.2 = r0.2 → (∀ k, k < j → rbq r0 r k) →
    ∃ r2, f_M_begin_L2 n v1 r = f_M_begin_L79 zF 0 r2 ∧ (∀ o, o ≠ 103 → o ≠ 105 → ¬ (107 ≤ o ∧ o ≤ 112) → r2.1 o = r0.1 o) ∧ r2.2 = r0.2 ∧ ∀ k, k < 6 → rbq r0 r2 k := by
  have l6 : (6 : Int32).toInt = 6 := rfl
  intro q
  induction q with
  | zero =>
    intro j n v1 r hj hv hn h1 h2 h3
    obtain ⟨n, rfl⟩ : ∃ x, n = x + 1 := ⟨n - 1, by omega⟩
    exact ⟨r, by rw [f_M_begin_L2, if_pos (by rw [i_le, l6]; omega)], h1, h2, fun k hk => h3 k (by omega)⟩
  | succ q ih =>
    intro j n v1 r hj hv hn h1 h2 h3
    obtain ⟨n, rfl⟩ : ∃ x, n = x + 1 := ⟨n - 1, by omega⟩
    have hv1 := i_inc (a := v1) (by omega)
    rw [f_M_begin_L2, if_neg (by rw [i_le, l6]; omega), if_pos (i_in.mpr (by omega)), nz_eq hv, h1 80 (by decide) (by decide) (by omega)]
    refine ih (j + 1) n (v1 + 1) _ (by omega) (by omega) (by omega) (fun o a b d => ?_) h2 (fun k hk => ?_)
    · have n1 : ¬ o = 107 := by omega
      have n2 : ¬ o = 108 := by omega
      have n3 : ¬ o = 109 := by omega
      have n4 : ¬ o = 110 := by omega
      have n5 : ¬ o = 111 := by omega
      have n6 : ¬ o = 112 := by omega
      simp only [w_row, a, b, n1, n2, n3, n4, n5, n6, if_false]
      exact h1 o a b d
    · by_cases e : k = j
      · subst e
        unfold rbq
        simp [w_get]
      · have := h3 k (by omega)
        unfold rbq at this ⊢
        simp only [w_get, show ((103 : Nat) = 105) = False by decide, show ((103 : Nat) = 107) = False by decide, show ((103 : Nat) = 108) = False by decide, show ((103 : Nat) = 109) = False by decide, show ((103 : Nat) = 110) = False by decide, show ((103 : Nat) = 111) = False by decide, show ((103 : Nat) = 112) = False by decide, show ((105 : Nat) = 103) = False by decide, show ((105 : Nat) = 107) = False by decide, show ((105 : Nat) = 108) = False by decide, show ((105 : Nat) = 109) = False by decide, show ((105 : Nat) = 110) = False by decide, show ((105 : Nat) = 111) = False by decide, show ((105 : Nat) = 112) = False by decide, show ((107 : Nat) = 103) = False by decide, show ((107 : Nat) = 105) = False by decide, show ((107 : Nat) = 108) = False by decide, show ((107 : Nat) = 109) = False by decide, show ((107 : Nat) = 110) = False by decide, show ((107 : Nat) = 111) = False by decide, show ((107 : Nat) = 112) = False by decide, show ((108 : Nat) = 103) = False by decide, show ((108 : Nat) = 105) = False by decide, show ((108 : Nat) = 107) = False by decide, show ((108 : Nat) = 109) = False by decide, show ((108 : Nat) = 110) = False by decide, show ((108 : Nat) = 111) = False by decide, show ((108 : Nat) = 112) = False by decide, show ((109 : Nat) = 103) = False by decide, show ((109 : Nat) = 105) = False by decide, show ((109 : Nat) = 107) = False by decide, show ((109 : Nat) = 108) = False by decide, show ((109 : Nat) = 110) = False by decide, show ((109 : Nat) = 111) = False by decide, show ((109 : Nat) = 112) = False by decide, show ((110 : Nat) = 103) = False by decide, show ((110 : Nat) = 105) = False by decide, show ((110 : Nat) = 107) = False by decide, show ((110 : Nat) = 108) = False by decide, show ((110 : Nat) = 109) = False by decide, show ((110 : Nat) = 111) = False by decide, show ((110 : Nat) = 112) = False by decide, show ((111 : Nat) = 103) = False by decide, show ((111 : Nat) = 105) = False by decide, show ((111 : Nat) = 107) = False by decide, show ((111 : Nat) = 108) = False by decide, show ((111 : Nat) = 109) = False by decide, show ((111 : Nat) = 110) = False by decide, show ((111 : Nat) = 112) = False by decide, show ((112 : Nat) = 103) = False by decide, show ((112 : Nat) = 105) = False by decide, show ((112 : Nat) = 107) = False by decide, show ((112 : Nat) = 108) = False by decide, show ((112 : Nat) = 109) = False by decide, show ((112 : Nat) = 110) = False by decide, show ((112 : Nat) = 111) = False by decide, if_false, if_true, e]
        exact this
theorem rb_of (r : zz_S) : ∃ r2, f_M_begin r = some r2 ∧ (∀ o, ¬ (103 ≤ o ∧ o ≤ 105) → ¬ (107 ≤ o ∧ o ≤ 113) → r2.1 o = r.1 o) ∧ r2.2 = r.2 ∧ (∀ i, i < 6 → rbq r r2 i) ∧ (∀ k, k < 3 → r2.1 104 k = r.1 84 k) ∧ ∀ k, k < 18 → r2.1 113 k = 0 := by
  obtain ⟨r1, a1, a2, a3, a4⟩ := rb1_loop (r0 := r) 6 0 zF 0 r rfl rfl (by unfold zF; omega) (fun _ _ _ _ => rfl) rfl (fun k hk => by omega)
  obtain ⟨r2, b1, b2, b3, b4⟩ := rb2_loop (r0 := r1) 3 0 zF 0 r1 rfl rfl (by unfold zF; omega) (fun _ _ => rfl) rfl (fun k hk => by omega)
  obtain ⟨r3, c1, c2, c3, c4⟩ := rb3_loop (r0 := r2) 18 0 zF 0 r2 rfl rfl (by unfold zF; omega) (fun _ _ => rfl) rfl (fun k hk => by omega)
  refine ⟨r3, ?_, fun o h1 h2 => ?_, by rw [c3, b3, a3], fun i hi => ?_, fun k hk => ?_, c4⟩
  · unfold f_M_begin
    rw [a1, b1, c1]
  · rw [c2 o (by omega), b2 o (by omega), a2 o (by omega) (by omega) (by omega)]
  · have := a4 i hi
    unfold rbq at this ⊢
    rw [c2 103 (by decide), c2 105 (by decide), c2 107 (by decide), c2 108 (by decide), c2 109 (by decide), c2 110 (by decide), c2 111 (by decide), c2 112 (by decide), b2 103 (by decide), b2 105 (by decide), b2 107 (by decide), b2 108 (by decide), b2 109 (by decide), b2 110 (by decide), b2 111 (by decide), b2 112 (by decide)]
    exact this
  · rw [c2 104 (by decide), b4 k hk, a2 84 (by decide) (by decide) (by omega)]
