/-! the night: a turn -/
theorem lit_neg {x : Int32} (h : x.toInt = 1 ∨ x.toInt = -1) : x = 1 ∨ x = -1 := by
  rcases h with h | h
  · exact Or.inl (i_lit (b := 1) h)
  · exact Or.inr (i_lit (b := -1) h)
theorem way_mul {way b : Int32} (hw : way = 1 ∨ way = -1) (h0 : 0 ≤ b.toInt) (h1 : b.toInt ≤ 20) : -20 ≤ (way * b).toInt ∧ (way * b).toInt ≤ 20 := by
  rcases hw with rfl | rfl
  · rw [Int32.one_mul]; omega
  · rw [i_mul (by rw [show (-1 : Int32).toInt = -1 from rfl]; omega) (by rw [show (-1 : Int32).toInt = -1 from rfl]; omega), show (-1 : Int32).toInt = -1 from rfl]; omega
/-- how far each cover is drawn: all asked ahead of any that moves -/
theorem pl_loop {c0 r0 : zz_S} {S C W B i : Nat} {i' cells m way back : Int32} (hs : nS c0 r0 S C W) (hw : nW c0 r0) (hi : i < S) (hi' : i'.toInt = i) (hp : nP c0 r0 W i) (hq : ∀ k, k < C → nQ c0 r0 W B k) (hB : B ≤ 1000000000) (hc : -20 ≤ cells.toInt ∧ cells.toInt ≤ 20) (hback : back = if (0 : Int32) ≤ c0.1 29 i * cells then 0 else 1) (hway : way = 1 ∨ way = -1) :
    ∀ (q j n n2 : Nat) (v5 : Int32) (c r : zz_S), j + q = C → v5.toInt = j → q < n → q < n2 →
      (∀ o, o ≠ 30 → o ≠ 31 → o ≠ 57 → o ≠ 60 → o ≠ 63 → o ≠ 66 → c.1 o = c0.1 o) → c.2 = c0.2 → (∀ o, o ≠ 101 → o ≠ 102 → o ≠ 106 → r.1 o = r0.1 o) → r.2 = r0.2 → (∀ k, k < j → c.1 30 k = way * r.1 106 k ∧ 0 ≤ (r.1 106 k).toInt ∧ (r.1 106 k).toInt ≤ 20) →
      ∃ c2 r2 : zz_S, f_Night_turnOver_L14 n i' cells m way v5 c = f_Night_turnOver_L54 zF i' cells m way 0 c2 ∧ f_M_turnNow_L72 n2 i' cells m way back v5 r = f_M_turnNow_L122 zF i' cells m way 0 r2 ∧
        (∀ o, o ≠ 30 → o ≠ 31 → o ≠ 57 → o ≠ 60 → o ≠ 63 → o ≠ 66 → c2.1 o = c0.1 o) ∧ c2.2 = c0.2 ∧ (∀ o, o ≠ 101 → o ≠ 102 → o ≠ 106 → r2.1 o = r0.1 o) ∧ r2.2 = r0.2 ∧ ∀ k, k < C → c2.1 30 k = way * r2.1 106 k ∧ 0 ≤ (r2.1 106 k).toInt ∧ (r2.1 106 k).toInt ≤ 20 := by
  have hs' := hs
  obtain ⟨⟨s1, s2, s3⟩, ⟨s4, s5⟩, ⟨s6, s7⟩, ⟨rr1, rr2, r7⟩, ⟨r81, r82, r83, r85, r86, r87⟩, s8, s9⟩ := hs
  intro q
  induction q with
  | zero =>
    intro j n n2 v5 c r hj hv hn hn2 c1 c2 r1 r2 h
    obtain ⟨n, rfl⟩ : ∃ k, n = k + 1 := ⟨n - 1, by omega⟩
    obtain ⟨n2, rfl⟩ : ∃ k, n2 = k + 1 := ⟨n2 - 1, by omega⟩
    refine ⟨c, r, ?_, ?_, c1, c2, r1, r2, fun k hk => h k (by omega)⟩
    · rw [f_Night_turnOver_L14, if_pos (by rw [i_le, c1 1 (by decide) (by decide) (by decide) (by decide) (by decide) (by decide)]; omega)]
    · rw [f_M_turnNow_L72, if_pos (by rw [i_le, r1 79 (by decide) (by decide) (by decide), r7]; omega)]
  | succ q ih =>
    intro j n n2 v5 c r hj hv hn hn2 c1 c2 r1 r2 h
    obtain ⟨n, rfl⟩ : ∃ k, n = k + 1 := ⟨n - 1, by omega⟩
    obtain ⟨n2, rfl⟩ : ∃ k, n2 = k + 1 := ⟨n2 - 1, by omega⟩
    have hv1 := i_inc (a := v5) (by omega)
    have C1 := fun o h1 h2 h3 h4 h5 h6 => c1 o h1 h2 h3 h4 h5 h6
    have hsr : nS c r S C W := by
      unfold nS at hs' ⊢
      rw [c1 1 (by decide) (by decide) (by decide) (by decide) (by decide) (by decide), c1 3 (by decide) (by decide) (by decide) (by decide) (by decide) (by decide), c1 4 (by decide) (by decide) (by decide) (by decide) (by decide) (by decide), c1 5 (by decide) (by decide) (by decide) (by decide) (by decide) (by decide), c1 7 (by decide) (by decide) (by decide) (by decide) (by decide) (by decide), c1 8 (by decide) (by decide) (by decide) (by decide) (by decide) (by decide), c1 9 (by decide) (by decide) (by decide) (by decide) (by decide) (by decide), r1 79 (by decide) (by decide) (by decide), r1 81 (by decide) (by decide) (by decide), r1 82 (by decide) (by decide) (by decide), r1 83 (by decide) (by decide) (by decide), r1 85 (by decide) (by decide) (by decide), r1 86 (by decide) (by decide) (by decide), r1 87 (by decide) (by decide) (by decide)]
      exact hs'
    have hwr : nW c r := by
      obtain ⟨w1, ⟨w2, w2'⟩, w3⟩ := hw
      unfold nW
      rw [c1 20 (by decide) (by decide) (by decide) (by decide) (by decide) (by decide), r1 79 (by decide) (by decide) (by decide), r1 96 (by decide) (by decide) (by decide), r1 97 (by decide) (by decide) (by decide), r1 98 (by decide) (by decide) (by decide), r1 99 (by decide) (by decide) (by decide), r1 100 (by decide) (by decide) (by decide)]
      refine ⟨w1, ⟨w2, w2'⟩, fun hlaw => ?_⟩
      rw [c1 (55 + 3 * (c0.1 20 10).toInt.toNat) (by omega) (by omega) (by omega) (by omega) (by omega) (by omega), c1 (56 + 3 * (c0.1 20 10).toInt.toNat) (by omega) (by omega) (by omega) (by omega) (by omega) (by omega)]
      exact w3 hlaw
    have hpr : nP c r W i := by
      unfold nP at hp ⊢
      rw [c1 33 (by decide) (by decide) (by decide) (by decide) (by decide) (by decide), c1 3 (by decide) (by decide) (by decide) (by decide) (by decide) (by decide), c2, r1 103 (by decide) (by decide) (by decide)]
      exact hp
    have hqr : nQ c r W B j := by
      have := hq j (by omega)
      unfold nQ at this ⊢
      rw [c1 36 (by decide) (by decide) (by decide) (by decide) (by decide) (by decide), c1 7 (by decide) (by decide) (by decide) (by decide) (by decide) (by decide), c2, r1 104 (by decide) (by decide) (by decide)]
      exact this
    obtain ⟨b, c3, r3, u, g1, g2, g3, ⟨g4, g4'⟩, ⟨g5, g6⟩, g7, g8⟩ := pull_of (back := back) (m := m) hsr hwr hi (show j < C by omega) hi' hv hpr hqr hB hc (by rw [c1 29 (by decide) (by decide) (by decide) (by decide) (by decide) (by decide)]; exact hback)
    have z5 : zz_in v5 3 = true := i_in.mpr (by omega)
    have e1 : f_Night_turnOver_L14 (n + 1) i' cells m way v5 c = f_Night_turnOver_L14 n i' cells m way (v5 + 1) (zz_w c3 30 j (way * b)) := by
      rw [f_Night_turnOver_L14, if_neg (by rw [i_le, c1 1 (by decide) (by decide) (by decide) (by decide) (by decide) (by decide)]; omega), g1, Option.bind_some, if_pos z5, nz_eq hv]
    have e2 : f_M_turnNow_L72 (n2 + 1) i' cells m way back v5 r = f_M_turnNow_L72 n2 i' cells m way back (v5 + 1) (zz_w r3 106 j b) := by
      rw [f_M_turnNow_L72, if_neg (by rw [i_le, r1 79 (by decide) (by decide) (by decide), r7]; omega), g2, Option.bind_some]
      rcases g3 with ⟨h1, h2, h3⟩ | ⟨h1, h2⟩
      · rw [if_pos h1, h2, h3]
        unfold f_M_turnNow_J112
        rw [if_pos z5, nz_eq hv]
      · rw [if_neg h1, h2, Option.bind_some]
        unfold f_M_turnNow_J112
        rw [if_pos z5, nz_eq hv]
    rw [e1, e2]
    refine ih (j + 1) n n2 (v5 + 1) _ _ (by omega) (by omega) (by omega) (by omega) (fun o h1 h2 h3 h4 h5 h6 => ?_) (g6.trans c2) (fun o h1 h2 h3 => ?_) (g8.trans r2) (fun k hk => ?_)
    · rw [w_row, if_neg h1, g5 o h2 h3 h4 h5 h6, c1 o h1 h2 h3 h4 h5 h6]
    · rw [w_row, if_neg h3, g7 o h1 h2, r1 o h1 h2 h3]
    · by_cases hkj : k = j
      · subst hkj
        have x1 : (zz_w r3 106 k b).1 106 k = b := by simp [w_get]
        have x2 : (zz_w c3 30 k (way * b)).1 30 k = way * b := by simp [w_get]
        rw [x1, x2]
        exact ⟨rfl, g4, by omega⟩
      · simp only [w_get, if_true, if_neg hkj]
        rw [g5 30 (by decide) (by decide) (by decide) (by decide) (by decide), g7 106 (by decide) (by decide)]
        exact h k (by omega)
/-- the covers are moved -/
theorem tm_loop {c0 r0 : zz_S} {S C W B i : Nat} {i' cells m way : Int32} (hs : nS c0 r0 S C W) (hi : i < S) (hi' : i'.toInt = i) (hq : ∀ k, k < C → nQ c0 r0 W B k) (hB : B ≤ 900000000) (hway : way = 1 ∨ way = -1) (hpl : ∀ k, k < C → c0.1 30 k = way * r0.1 106 k ∧ 0 ≤ (r0.1 106 k).toInt ∧ (r0.1 106 k).toInt ≤ 20) :
    ∀ (q j n n2 : Nat) (v5 : Int32) (c r : zz_S), j + q = C → v5.toInt = j → q < n → q < n2 →
      (∀ o, o ≠ 28 → o ≠ 36 → c.1 o = c0.1 o) → (∀ o, o ≠ 38 → c.2 o = c0.2 o) → (∀ o, o ≠ 104 → o ≠ 113 → r.1 o = r0.1 o) → r.2 = r0.2 → (∀ k, k < j → nQ c r W (B + 20) k) → (∀ k, j ≤ k → k < C → nQ c r W B k) → (∀ k, k < 18 → r.1 113 k = c.1 28 k) →
      ∃ c2 r2 : zz_S, f_Night_turnOver_L54 n i' cells m way v5 c = f_Night_turnOver_L54 1 i' cells m way (c0.1 1 2) c2 ∧ f_M_turnNow_L122 n2 i' cells m way v5 r = f_M_turnNow_L122 1 i' cells m way (r0.1 79 7) r2 ∧
        (∀ o, o ≠ 28 → o ≠ 36 → c2.1 o = c0.1 o) ∧ (∀ o, o ≠ 38 → c2.2 o = c0.2 o) ∧ (∀ o, o ≠ 104 → o ≠ 113 → r2.1 o = r0.1 o) ∧ r2.2 = r0.2 ∧ (∀ k, k < C → nQ c2 r2 W (B + 20) k) ∧ ∀ k, k < 18 → r2.1 113 k = c2.1 28 k := by
  have hs' := hs
  obtain ⟨⟨s1, s2, s3⟩, ⟨s4, s5⟩, ⟨s6, s7⟩, ⟨rr1, rr2, r7⟩, ⟨r81, r82, r83, r85, r86, r87⟩, s8, s9⟩ := hs
  have l3 : (3 : Int32).toInt = 3 := rfl
  intro q
  induction q with
  | zero =>
    intro j n n2 v5 c r hj hv hn hn2 c1 c2 r1 r2 h1 h2 h3
    obtain ⟨n, rfl⟩ : ∃ k, n = k + 1 := ⟨n - 1, by omega⟩
    obtain ⟨n2, rfl⟩ : ∃ k, n2 = k + 1 := ⟨n2 - 1, by omega⟩
    refine ⟨c, r, ?_, ?_, c1, c2, r1, r2, fun k hk => h1 k (by omega), h3⟩
    · rw [f_Night_turnOver_L54, f_Night_turnOver_L54, if_pos (by rw [i_le, c1 1 (by decide) (by decide)]; omega), if_pos (by rw [i_le, c1 1 (by decide) (by decide)]; omega)]
    · have t1 : r.1 79 7 ≤ v5 := by rw [i_le, r1 79 (by decide) (by decide), r7]; omega
      have t2 : r.1 79 7 ≤ r0.1 79 7 := by rw [i_le, r1 79 (by decide) (by decide)]; omega
      rw [f_M_turnNow_L122, if_pos t1, f_M_turnNow_L122, if_pos t2]
  | succ q ih =>
    intro j n n2 v5 c r hj hv hn hn2 c1 c2 r1 r2 h1 h2 h3
    obtain ⟨n, rfl⟩ : ∃ k, n = k + 1 := ⟨n - 1, by omega⟩
    obtain ⟨n2, rfl⟩ : ∃ k, n2 = k + 1 := ⟨n2 - 1, by omega⟩
    have hv1 := i_inc (a := v5) (by omega)
    have z5 : zz_in v5 3 = true := i_in.mpr (by omega)
    obtain ⟨p1, p2, p3⟩ := hpl j (by omega)
    obtain ⟨q1, ⟨q2, q2'⟩, q3⟩ := h2 j (Nat.le_refl _) (by omega)
    have w := s9 j (by omega)
    have hd := way_mul hway p2 p3
    have m1 := i_mul (a := i') (b := 3) (by rw [l3]; omega) (by rw [l3]; omega)
    rw [l3] at m1
    have m2 := i_add (a := i' * 3) (b := v5) (by omega) (by omega)
    have hx : (i' * 3 + v5).toInt = (3 * i + j : Nat) := by omega
    have hx2 : (3 * i' + v5).toInt = (3 * i + j : Nat) := by rw [Int32.mul_comm]; exact hx
    have hadd := i_add (a := c.1 36 j) (b := way * r0.1 106 j) (by omega) (by omega)
    have e1 : f_Night_turnOver_L54 (n + 1) i' cells m way v5 c = f_Night_turnOver_L54 n i' cells m way (v5 + 1) (zz_w (zz_wl (zz_w c 36 j (c.1 36 j + way * r0.1 106 j)) 38 j (lN (seg (sF W (c.1 36 j + way * r0.1 106 j).toInt) (sE W (c.1 36 j + way * r0.1 106 j).toInt (c.1 7 j).toInt)))) 28 (3 * i + j) (c.1 28 (3 * i + j) + way * r0.1 106 j)) := by
      have hbits := bits_of (s := zz_w c 36 j (c.1 36 j + way * r0.1 106 j)) (W := W) (c.1 36 j + way * r0.1 106 j) (c.1 7 j) (by rw [w_row, if_neg (by decide), c1 1 (by decide) (by decide)]; exact s1) s3 (by omega) (by omega) (by rw [c1 7 (by decide) (by decide)]; omega) (by rw [c1 7 (by decide) (by decide)]; omega)
      have e30 : c.1 30 j = way * r0.1 106 j := by rw [c1 30 (by decide) (by decide)]; exact p1
      rw [f_Night_turnOver_L54, if_neg (by rw [i_le, c1 1 (by decide) (by decide)]; omega), if_pos z5]
      unfold f_Lie_moveCover
      rw [if_pos z5, nz_eq hv, e30, Option.bind_some, if_pos (i_in.mpr (by omega)), nz_eq hx]
      have e36 : (zz_w c 36 j (c.1 36 j + way * r0.1 106 j)).1 36 j = c.1 36 j + way * r0.1 106 j := by simp [w_get]
      rw [e36, hbits]
      have f30 : ∀ v, (zz_wl (zz_w c 36 j (c.1 36 j + way * r0.1 106 j)) 38 j v).1 30 j = way * r0.1 106 j := fun v => by
        rw [← e30]
        show (zz_w c 36 j (c.1 36 j + c.1 30 j)).1 30 j = c.1 30 j
        simp [w_get]
      have f28 : ∀ v, (zz_wl (zz_w c 36 j (c.1 36 j + way * r0.1 106 j)) 38 j v).1 28 (3 * i + j) = c.1 28 (3 * i + j) := fun v => by
        show (zz_w c 36 j (c.1 36 j + way * r0.1 106 j)).1 28 (3 * i + j) = c.1 28 (3 * i + j)
        simp [w_get]
      rw [f30, f28]
    have e2 : f_M_turnNow_L122 (n2 + 1) i' cells m way v5 r = f_M_turnNow_L122 n2 i' cells m way (v5 + 1) (zz_w (zz_w r 104 j (c.1 36 j + way * r0.1 106 j)) 113 (3 * i + j) (c.1 28 (3 * i + j) + way * r0.1 106 j)) := by
      rw [f_M_turnNow_L122, if_neg (by rw [i_le, r1 79 (by decide) (by decide), r7]; omega), if_pos z5, if_pos (i_in.mpr (by omega)), nz_eq hv, nz_eq hx2, q1, r1 106 (by decide) (by decide), h3 _ (by omega)]
    have F36 : ∀ k, (zz_w (zz_wl (zz_w c 36 j (c.1 36 j + way * r0.1 106 j)) 38 j (lN (seg (sF W (c.1 36 j + way * r0.1 106 j).toInt) (sE W (c.1 36 j + way * r0.1 106 j).toInt (c.1 7 j).toInt)))) 28 (3 * i + j) (c.1 28 (3 * i + j) + way * r0.1 106 j)).1 36 k = if k = j then c.1 36 j + way * r0.1 106 j else c.1 36 k := fun k => by
      rw [w_get, if_neg (by decide)]
      show (zz_w c 36 j (c.1 36 j + way * r0.1 106 j)).1 36 k = _
      rw [w_get, if_pos rfl]
    have F7 : (zz_w (zz_wl (zz_w c 36 j (c.1 36 j + way * r0.1 106 j)) 38 j (lN (seg (sF W (c.1 36 j + way * r0.1 106 j).toInt) (sE W (c.1 36 j + way * r0.1 106 j).toInt (c.1 7 j).toInt)))) 28 (3 * i + j) (c.1 28 (3 * i + j) + way * r0.1 106 j)).1 7 = c.1 7 := by
      rw [w_row, if_neg (by decide)]
      show (zz_w c 36 j (c.1 36 j + way * r0.1 106 j)).1 7 = _
      rw [w_row, if_neg (by decide)]
    have F38 : ∀ k, (zz_w (zz_wl (zz_w c 36 j (c.1 36 j + way * r0.1 106 j)) 38 j (lN (seg (sF W (c.1 36 j + way * r0.1 106 j).toInt) (sE W (c.1 36 j + way * r0.1 106 j).toInt (c.1 7 j).toInt)))) 28 (3 * i + j) (c.1 28 (3 * i + j) + way * r0.1 106 j)).2 38 k = if k = j then lN (seg (sF W (c.1 36 j + way * r0.1 106 j).toInt) (sE W (c.1 36 j + way * r0.1 106 j).toInt (c.1 7 j).toInt)) else c.2 38 k := fun k => by
      show (zz_wl (zz_w c 36 j (c.1 36 j + way * r0.1 106 j)) 38 j _).2 38 k = _
      rw [zz_wl_same]
      rfl
    have F104 : ∀ k, (zz_w (zz_w r 104 j (c.1 36 j + way * r0.1 106 j)) 113 (3 * i + j) (c.1 28 (3 * i + j) + way * r0.1 106 j)).1 104 k = if k = j then c.1 36 j + way * r0.1 106 j else r.1 104 k := fun k => by
      rw [w_get, if_neg (by decide), w_get, if_pos rfl]
    rw [e1, e2]
    refine ih (j + 1) n n2 (v5 + 1) _ _ (by omega) (by omega) (by omega) (by omega) (fun o h1 h2 => ?_) (fun o h1 => ?_) (fun o h1 h2 => ?_) r2 (fun k hk => ?_) (fun k hk hk2 => ?_) (fun k hk => ?_)
    · rw [w_row, if_neg h1]
      show (zz_w c 36 j (c.1 36 j + way * r0.1 106 j)).1 o = c0.1 o
      rw [w_row, if_neg h2, c1 o h1 h2]
    · show (zz_wl (zz_w c 36 j (c.1 36 j + way * r0.1 106 j)) 38 j _).2 o = c0.2 o
      rw [zz_wl_ne _ _ _ _ h1]
      exact c2 o h1
    · rw [w_row, if_neg h2, w_row, if_neg h1, r1 o h1 h2]
    · unfold nQ
      rw [F36, F7, F38, F104]
      by_cases hkj : k = j
      · rw [if_pos hkj, if_pos hkj, if_pos hkj, hkj]
        exact ⟨rfl, ⟨by omega, by omega⟩, rfl⟩
      · rw [if_neg hkj, if_neg hkj, if_neg hkj]
        exact h1 k (by omega)
    · unfold nQ
      rw [F36, F7, F38, F104, if_neg (by omega), if_neg (by omega), if_neg (by omega)]
      exact h2 k (by omega) hk2
    · by_cases hkj : k = 3 * i + j
      · subst hkj; simp [w_get]
      · have e3 : ∀ v, (zz_wl (zz_w c 36 j (c.1 36 j + way * r0.1 106 j)) 38 j v).1 28 k = c.1 28 k := fun v => by
          show (zz_w c 36 j (c.1 36 j + way * r0.1 106 j)).1 28 k = c.1 28 k
          simp [w_get]
        simp only [w_get, if_true, if_neg hkj, show ((113 : Nat) = 104) = False by decide, if_false]
        rw [h3 k hk]
        exact (e3 _).symm
