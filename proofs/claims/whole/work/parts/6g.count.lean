theorem rin_J101 {r0 r : zz_S} {i cov : Nat} {i' m dg br : Int32} (K : Int32 → Int32 → Int32 → zz_S → Option zz_S) (hi' : i'.toInt = i) (hi : i < 6) (hcov : cov ≤ 20) (HC : ∀ r' : zz_S, (∀ o, o < 107 ∨ 112 < o → r'.1 o = r0.1 o) → f_M_coveredOf i' r' = some (nI cov)) (hbr : r0.1 81 i = br) (hr : ∀ o, o < 107 ∨ 112 < o → r.1 o = r0.1 o) (hb : -1 ≤ (r.1 109 i).toInt ∧ (r.1 109 i).toInt ≤ 1000) :
    ∃ r2, f_M_countNow_J101 K m dg i' r = K m dg (i' + 1) r2 ∧ rF i r r2 ∧ tR r2 i = ((r.1 107 i).toInt, (r.1 108 i).toInt, (r.1 109 i).toInt + (if baB cov br.toInt = true then 1 else 0), (r.1 110 i).toInt, (if (r.1 110 i).toInt = 10 ∧ ¬ 0 ≤ (r.1 111 i).toInt then m.toInt else (r.1 111 i).toInt), (if (r.1 110 i).toInt = 10 ∧ ¬ 0 ≤ (r.1 111 i).toInt then -1 else (r.1 112 i).toInt)) := by
  have z1 : zz_in i' 6 = true := i_in.mpr (by omega)
  have ki := nz_eq hi'
  have hc := nI_int (show cov ≤ 1000 by omega)
  unfold f_M_countNow_J101
  rw [HC r hr, Option.bind_some, if_pos z1, ki, hr 81 (by omega), hbr]
  by_cases q : br ≤ nI cov
  · have hba : baB cov br.toInt = false := by
      unfold baB
      rw [i_le] at q
      exact decide_eq_false (by omega)
    rw [if_pos q, hba]
    obtain ⟨r2, g1, g2, g3⟩ := rin_J125 (r := r) (m := m) (dg := dg) K hi' hi
    refine ⟨r2, g1, g2, ?_⟩
    rw [g3]
    simp
  · have hba : baB cov br.toInt = true := by
      unfold baB
      rw [i_le] at q
      exact decide_eq_true (by omega)
    have a1 := i_inc (a := r.1 109 i) (by omega)
    rw [if_neg q, hba]
    obtain ⟨r2, g1, g2, g3⟩ := rin_J125 (r := zz_w r 109 i (r.1 109 i + 1)) (m := m) (dg := dg) K hi' hi
    refine ⟨r2, g1, rF_tr (rF_w i 109 (by omega) _ r) g2, ?_⟩
    rw [g3]
    have e : ∀ o, o ≠ 109 → (zz_w r 109 i (r.1 109 i + 1)).1 o = r.1 o := fun o h => by rw [w_row, if_neg h]
    have e9 : (zz_w r 109 i (r.1 109 i + 1)).1 109 i = r.1 109 i + 1 := by simp [w_get]
    rw [e 107 (by decide), e 108 (by decide), e 110 (by decide), e 111 (by decide), e 112 (by decide), e9, a1]
    simp
theorem rin_J50 {r0 r : zz_S} {i cov : Nat} {i' m dg br x want : Int32} (K : Int32 → Int32 → Int32 → zz_S → Option zz_S) (hi' : i'.toInt = i) (hi : i < 6) (hcov : cov ≤ 20) (HC : ∀ r' : zz_S, (∀ o, o < 107 ∨ 112 < o → r'.1 o = r0.1 o) → f_M_coveredOf i' r' = some (nI cov)) (hbr : r0.1 81 i = br) (hwant : r0.1 82 i = want) (hw : 0 ≤ want.toInt ∧ want.toInt ≤ 99) (hx : -2000 ≤ x.toInt ∧ x.toInt ≤ 2000) (hr : ∀ o, o < 107 ∨ 112 < o → r.1 o = r0.1 o) (ht : tOk 480 (tR r i)) (hm : 0 ≤ m.toInt ∧ m.toInt ≤ 479) :
    ∃ r2, f_M_countNow_J50 K m dg i' x r = K m dg (i' + 1) r2 ∧ rF i r r2 ∧ tR r2 i = cUp false (coB x.toInt want.toInt) (baB cov br.toInt) m.toInt 1 (tR r i) := by
  have z1 : zz_in i' 6 = true := i_in.mpr (by omega)
  have ki := nz_eq hi'
  have l15 : (15 : Int32).toInt = 15 := rfl
  have l0 : (0 : Int32).toInt = 0 := rfl
  obtain ⟨t1, t2, t3, t4, t5, t6⟩ := ht
  simp only [tR] at t1 t2 t3 t4 t5 t6
  have a1 := i_sub (a := want) (b := x) (by omega) (by omega)
  unfold f_M_countNow_J50 f_M_countNow_J81
  rw [if_pos z1, ki, hr 82 (by omega), hwant]
  by_cases q : want - x ≤ 15
  · have hco : coB x.toInt want.toInt = false := by
      unfold coB
      rw [i_le, l15] at q
      exact decide_eq_false (by omega)
    have e0 : (zz_w r 110 i 0).1 110 i = 0 := by simp [w_get]
    have e : ∀ o, o ≠ 110 → (zz_w r 110 i 0).1 o = r.1 o := fun o h => by rw [w_row, if_neg h]
    rw [if_pos q, if_pos z1, if_pos z1, e0, if_pos (by decide), hco]
    obtain ⟨r2, g1, g2, g3⟩ := rin_J101 (r0 := r0) (r := zz_w r 110 i 0) (m := m) (dg := dg) K hi' hi hcov HC hbr (fun o ho => by rw [e o (by omega), hr o ho]) (by rw [e 109 (by decide)]; omega)
    refine ⟨r2, g1, rF_tr (rF_w i 110 (by omega) _ r) g2, ?_⟩
    rw [g3, e 107 (by decide), e 108 (by decide), e 109 (by decide), e 111 (by decide), e 112 (by decide), e0, l0]
    simp [cUp, tR]
  · have hco : coB x.toInt want.toInt = true := by
      unfold coB
      rw [i_le, l15] at q
      exact decide_eq_true (by omega)
    have a2 := i_inc (a := r.1 110 i) (by omega)
    have a3 := i_inc (a := r.1 108 i) (by omega)
    have e0 : (zz_w r 110 i (r.1 110 i + 1)).1 110 i = r.1 110 i + 1 := by simp [w_get]
    rw [if_neg q, if_pos z1, if_pos z1, e0, if_neg (by rw [i_le, l0]; omega), hco]
    have e : ∀ o, o ≠ 110 → o ≠ 108 → (zz_w (zz_w r 110 i (r.1 110 i + 1)) 108 i (r.1 108 i + 1)).1 o = r.1 o := fun o h h2 => by rw [w_row, if_neg h2, w_row, if_neg h]
    have e1 : (zz_w (zz_w r 110 i (r.1 110 i + 1)) 108 i (r.1 108 i + 1)).1 110 i = r.1 110 i + 1 := by simp [w_get]
    have e2 : (zz_w (zz_w r 110 i (r.1 110 i + 1)) 108 i (r.1 108 i + 1)).1 108 i = r.1 108 i + 1 := by simp [w_get]
    obtain ⟨r2, g1, g2, g3⟩ := rin_J101 (r0 := r0) (r := zz_w (zz_w r 110 i (r.1 110 i + 1)) 108 i (r.1 108 i + 1)) (m := m) (dg := dg) K hi' hi hcov HC hbr (fun o ho => by rw [e o (by omega) (by omega), hr o ho]) (by rw [e 109 (by decide) (by decide)]; omega)
    refine ⟨r2, g1, rF_tr (rF_tr (rF_w i 110 (by omega) _ r) (rF_w i 108 (by omega) _ _)) g2, ?_⟩
    rw [g3, e 107 (by decide) (by decide), e 109 (by decide) (by decide), e 111 (by decide) (by decide), e 112 (by decide) (by decide), e1, e2, a2, a3]
    unfold cUp tR
    simp only [true_and, if_true, Bool.false_eq_true, if_false, Int.add_zero]
    by_cases c : (r.1 110 i).toInt + 1 = 10 ∧ ¬ 0 ≤ (r.1 111 i).toInt
    · have c2 : 10 ≤ (r.1 110 i).toInt + 1 ∧ (r.1 111 i).toInt = -2 := by omega
      rw [if_pos c, if_pos c, if_pos c2, if_pos c2, show m.toInt + 9 - (r.1 110 i).toInt = m.toInt by omega]
    · have c2 : ¬ (10 ≤ (r.1 110 i).toInt + 1 ∧ (r.1 111 i).toInt = -2) := by omega
      rw [if_neg c, if_neg c, if_neg c2, if_neg c2]
theorem rin_of {r : zz_S} {i cov : Nat} {i' m dg br x want : Int32} (K : Int32 → Int32 → Int32 → zz_S → Option zz_S) (hi' : i'.toInt = i) (hi : i < 6) (hcov : cov ≤ 20) (HC : ∀ r' : zz_S, (∀ o, o < 107 ∨ 112 < o → r'.1 o = r.1 o) → f_M_coveredOf i' r' = some (nI cov)) (hbr : r.1 81 i = br) (hwant : r.1 82 i = want) (hw : 0 ≤ want.toInt ∧ want.toInt ≤ 99) (hx : -2000 ≤ x.toInt ∧ x.toInt ≤ 2000) (ht : tOk 479 (tR r i)) (hm : 0 ≤ m.toInt ∧ m.toInt ≤ 479) :
    ∃ r2, (if (5 : Int32) < (f_M_sizeOf (x - want)) then f_M_countNow_J50 K m dg i' x r else f_M_countNow_J50 K m dg i' x (zz_w r 107 i (r.1 107 i + 1))) = K m dg (i' + 1) r2 ∧ rF i r r2 ∧ tR r2 i = cUp (ezB x.toInt want.toInt) (coB x.toInt want.toInt) (baB cov br.toInt) m.toInt 1 (tR r i) := by
  have l5 : (5 : Int32).toInt = 5 := rfl
  obtain ⟨t1, t2, t3, t4, t5, t6⟩ := ht
  have a1 := i_sub (a := x) (b := want) (by omega) (by omega)
  have a2 := (abs_of (x - want) (by omega)).2
  by_cases q : (5 : Int32) < f_M_sizeOf (x - want)
  · have hez : ezB x.toInt want.toInt = false := by
      unfold ezB
      rw [i_lt, l5] at q
      exact decide_eq_false (by omega)
    rw [if_pos q, hez]
    exact rin_J50 K hi' hi hcov HC hbr hwant hw hx (fun _ _ => rfl) ⟨by omega, by omega, by omega, by omega, t5, t6⟩ hm
  · have hez : ezB x.toInt want.toInt = true := by
      unfold ezB
      rw [i_lt, l5] at q
      exact decide_eq_true (by omega)
    simp only [tR] at t1 t2 t3 t4 t5 t6
    have a3 := i_inc (a := r.1 107 i) (by omega)
    have e : tR (zz_w r 107 i (r.1 107 i + 1)) i = ((r.1 107 i).toInt + 1, (r.1 108 i).toInt, (r.1 109 i).toInt, (r.1 110 i).toInt, (r.1 111 i).toInt, (r.1 112 i).toInt) := by
      simp [tR, w_get, a3]
    rw [if_neg q, hez]
    obtain ⟨r2, g1, g2, g3⟩ := rin_J50 (r0 := r) (r := zz_w r 107 i (r.1 107 i + 1)) (m := m) (dg := dg) (x := x) K hi' hi hcov HC hbr hwant hw hx (fun o ho => by rw [w_row, if_neg (by omega)]) (by rw [e]; exact ⟨⟨by simp only; omega, by simp only; omega⟩, ⟨by simp only; omega, by simp only; omega⟩, ⟨by simp only; omega, by simp only; omega⟩, ⟨by simp only; omega, by simp only; omega⟩, t5, t6⟩) hm
    refine ⟨r2, g1, rF_tr (rF_w i 107 (by omega) _ r) g2, ?_⟩
    rw [g3, e]
    exact (cUp_e _ _ _ _ _ _ _ _ _ _).symm
