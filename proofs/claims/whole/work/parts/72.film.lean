/-! the film: the reference does not count -/
/-- who wakes by it -/
theorem wk_loopE {c0 r0 : zz_S} {S C W B i M : Nat} {i' m : Int32} {was : Nat → Nat} (hs : nS c0 r0 S C W) (hi' : i'.toInt = i) (hp : ∀ k, k < S → nP c0 r0 W k) (hq : ∀ k, k < C → nQ c0 r0 W B k) (hB : B ≤ 1000000000) (hM : M < 2 ^ 60) (hMb : ∀ k, k < W → M.testBit k = cvr (c0.1 36) (c0.1 7) C k) (hwas : ∀ k, k < S → r0.1 114 k = nI (was k) ∧ was k ≤ 20) (hm : 0 ≤ m.toInt) :
    ∀ (q j n n2 : Nat) (v7 : Int32) (c r : zz_S), j + q = S → v7.toInt = j → q < n → q < n2 →
      (∀ o, o ≠ 25 → o ≠ 26 → o ≠ 34 → c.1 o = c0.1 o) → c.2 = c0.2 → (∀ o, o ≠ 111 → o ≠ 112 → r.1 o = r0.1 o) → r.2 = r0.2 →
      (∀ k, k < S → c.1 34 k = nI (if k < j then cvN (c0.1 36) (c0.1 7) C (c0.1 33 k) (c0.1 3 k) else was k)) → (∀ k, k < S → (c.1 25 k = -2 ∨ 0 ≤ (c.1 25 k).toInt) ∧ (10 ≤ (c0.1 27 k).toInt → 0 ≤ (c.1 25 k).toInt)) →
      ∃ c2 r2 : zz_S, f_Night_turnOver_L138 n i' m (lN M) v7 c = some c2 ∧ f_M_turnNow_L221 n2 i' m v7 r = some r2 ∧
        (∀ o, o ≠ 25 → o ≠ 26 → o ≠ 34 → c2.1 o = c0.1 o) ∧ c2.2 = c0.2 ∧ (∀ o, o ≠ 111 → o ≠ 112 → r2.1 o = r0.1 o) ∧ r2.2 = r0.2 ∧
        (∀ k, k < S → c2.1 34 k = nI (cvN (c0.1 36) (c0.1 7) C (c0.1 33 k) (c0.1 3 k))) ∧ ∀ k, k < S → (c2.1 25 k = -2 ∨ 0 ≤ (c2.1 25 k).toInt) ∧ (10 ≤ (c0.1 27 k).toInt → 0 ≤ (c2.1 25 k).toInt) := by
  have hs' := hs
  obtain ⟨⟨s1, s2, s3⟩, ⟨s4, s5⟩, ⟨s6, s7⟩, ⟨rr1, rr2, r7⟩, ⟨r81, r82, r83, r85, r86, r87⟩, s8, s9⟩ := hs
  have l2 : (2 : Int32).toInt = 2 := rfl
  have l0 : (0 : Int32).toInt = 0 := rfl
  intro q
  induction q with
  | zero =>
    intro j n n2 v7 c r hj hv hn hn2 c1 c2 r1 r2 h1 h2
    obtain ⟨n, rfl⟩ : ∃ k, n = k + 1 := ⟨n - 1, by omega⟩
    obtain ⟨n2, rfl⟩ : ∃ k, n2 = k + 1 := ⟨n2 - 1, by omega⟩
    refine ⟨c, r, ?_, ?_, c1, c2, r1, r2, fun k hk => by rw [h1 k hk, if_pos (by omega)], h2⟩
    · rw [f_Night_turnOver_L138, if_pos (by rw [i_le, c1 1 (by decide) (by decide) (by decide)]; omega)]
    · rw [f_M_turnNow_L221, if_pos (by rw [i_le, r1 79 (by decide) (by decide), rr2]; omega)]
  | succ q ih =>
    intro j n n2 v7 c r hj hv hn hn2 c1 c2 r1 r2 h1 h2
    obtain ⟨n, rfl⟩ : ∃ k, n = k + 1 := ⟨n - 1, by omega⟩
    obtain ⟨n2, rfl⟩ : ∃ k, n2 = k + 1 := ⟨n2 - 1, by omega⟩
    have hv1 := i_inc (a := v7) (by omega)
    have z7 : zz_in v7 6 = true := i_in.mpr (by omega)
    have hjS : j < S := by omega
    obtain ⟨p0, ⟨p1, p2⟩, p3⟩ := hp j hjS
    have b := s8 j hjS
    have hsr : nS c r S C W := by
      unfold nS at hs' ⊢
      rw [c1 1 (by decide) (by decide) (by decide), c1 3 (by decide) (by decide) (by decide), c1 4 (by decide) (by decide) (by decide), c1 5 (by decide) (by decide) (by decide), c1 7 (by decide) (by decide) (by decide), c1 8 (by decide) (by decide) (by decide), c1 9 (by decide) (by decide) (by decide), r1 79 (by decide) (by decide), r1 81 (by decide) (by decide), r1 82 (by decide) (by decide), r1 83 (by decide) (by decide), r1 85 (by decide) (by decide), r1 86 (by decide) (by decide), r1 87 (by decide) (by decide)]
      exact hs'
    have hco := co_ref (B := B) hsr (fun k hk => by
      have := hq k hk
      rw [r1 104 (by decide) (by decide), c1 36 (by decide) (by decide) (by decide)]
      exact ⟨this.1, this.2.1⟩) hjS hv (by rw [r1 103 (by decide) (by decide), c1 33 (by decide) (by decide) (by decide), c1 3 (by decide) (by decide) (by decide)]; exact ⟨p0, p1, p2⟩) hB
    rw [c1 36 (by decide) (by decide) (by decide), c1 7 (by decide) (by decide) (by decide), c1 33 (by decide) (by decide) (by decide), c1 3 (by decide) (by decide) (by decide)] at hco
    have hcnt := count_of (W := W) (M := M) (lf := c0.1 36) (wd := c0.1 7) (C := C) (p := (c0.1 33 j).toInt.toNat) (b := (c0.1 3 j).toInt.toNat) (pp := c0.1 33 j) (bb := c0.1 3 j) s3 (by omega) (by omega) (by omega) hM hMb
    have hnew : cvN (c0.1 36) (c0.1 7) C (c0.1 33 j) (c0.1 3 j) ≤ 20 := by
      have := ct_le (fun k => cvr (c0.1 36) (c0.1 7) C ((c0.1 33 j).toInt + k)) (c0.1 3 j).toInt.toNat
      unfold cvN
      omega
    obtain ⟨w1, w2⟩ := hwas j hjS
    have hold : c.1 34 j = nI (was j) := by rw [h1 j hjS, if_neg (by omega)]
    have hco34 : f_Lie_coverAnew v7 (lN M) c = some (nI (was j) - nI (cvN (c0.1 36) (c0.1 7) C (c0.1 33 j) (c0.1 3 j)), zz_w c 34 j (nI (cvN (c0.1 36) (c0.1 7) C (c0.1 33 j) (c0.1 3 j)))) := by
      unfold f_Lie_coverAnew
      rw [if_pos z7, nz_eq hv, c2, p3, hcnt, hold]
      have : (zz_w c 34 j (nI (cvN (c0.1 36) (c0.1 7) C (c0.1 33 j) (c0.1 3 j)))).1 34 j = nI (cvN (c0.1 36) (c0.1 7) C (c0.1 33 j) (c0.1 3 j)) := by simp [w_get]
      rw [this]
    generalize hN : cvN (c0.1 36) (c0.1 7) C (c0.1 33 j) (c0.1 3 j) = N at *
    have i1 := nI_int (show was j ≤ 1000 by omega)
    have i2 := nI_int (show N ≤ 1000 by omega)
    have hsub := i_sub (a := nI (was j)) (b := nI N) (by omega) (by omega)
    have hmul := i_mul (a := 2) (b := nI (was j) - nI N) (by rw [l2]; omega) (by rw [l2]; omega)
    rw [l2, hsub, i1, i2] at hmul
    obtain ⟨k3, k4⟩ := h2 j hjS
    have e1 : f_Night_turnOver_L138 (n + 1) i' m (lN M) v7 c = (if v7 = i' then f_Night_turnOver_L138 n i' m (lN M) (v7 + 1) (zz_w c 34 j (nI N)) else if 2 * (nI (was j) - nI N) < c0.1 3 j then f_Night_turnOver_L138 n i' m (lN M) (v7 + 1) (zz_w c 34 j (nI N)) else (f_Tally_wake v7 m i' (zz_w c 34 j (nI N))).bind fun q12 => f_Night_turnOver_L138 n i' m (lN M) (v7 + 1) q12) := by
      rw [f_Night_turnOver_L138, if_neg (by rw [i_le, c1 1 (by decide) (by decide) (by decide)]; omega), hco34, Option.bind_some, if_pos z7, nz_eq hv]
      have : (zz_w c 34 j (nI N)).1 3 j = c0.1 3 j := by rw [w_row, if_neg (by decide), c1 3 (by decide) (by decide) (by decide)]
      rw [this]
    have e2 : f_M_turnNow_L221 (n2 + 1) i' m v7 r = (if v7 = i' then f_M_turnNow_L221 n2 i' m (v7 + 1) r else if (0 : Int32) ≤ r.1 111 j then f_M_turnNow_L221 n2 i' m (v7 + 1) r else if c0.1 3 j ≤ 2 * (nI (was j) - nI N) then f_M_turnNow_L221 n2 i' m (v7 + 1) (zz_w (zz_w r 111 j m) 112 j i') else f_M_turnNow_L221 n2 i' m (v7 + 1) r) := by
      rw [f_M_turnNow_L221, if_neg (by rw [i_le, r1 79 (by decide) (by decide), rr2]; omega), if_pos z7, nz_eq hv, hco, Option.bind_some, r1 81 (by decide) (by decide), r81, r1 114 (by decide) (by decide), w1]
    obtain ⟨rn, g1, g2, g3⟩ : ∃ rn : zz_S, f_M_turnNow_L221 (n2 + 1) i' m v7 r = f_M_turnNow_L221 n2 i' m (v7 + 1) rn ∧ (∀ o, o ≠ 111 → o ≠ 112 → rn.1 o = r0.1 o) ∧ rn.2 = r0.2 := by
      rw [e2]
      by_cases a1 : v7 = i'
      · rw [if_pos a1]; exact ⟨r, rfl, r1, r2⟩
      · rw [if_neg a1]
        by_cases a2 : (0 : Int32) ≤ r.1 111 j
        · rw [if_pos a2]; exact ⟨r, rfl, r1, r2⟩
        · rw [if_neg a2]
          by_cases a3 : c0.1 3 j ≤ 2 * (nI (was j) - nI N)
          · rw [if_pos a3]; exact ⟨_, rfl, fun o a b => by rw [w_row, if_neg b, w_row, if_neg a, r1 o a b], r2⟩
          · rw [if_neg a3]; exact ⟨r, rfl, r1, r2⟩
    obtain ⟨cn, u1, u2, u3, u4, u5⟩ : ∃ cn : zz_S, f_Night_turnOver_L138 (n + 1) i' m (lN M) v7 c = f_Night_turnOver_L138 n i' m (lN M) (v7 + 1) cn ∧ (∀ o, o ≠ 25 → o ≠ 26 → o ≠ 34 → cn.1 o = c0.1 o) ∧ cn.2 = c0.2 ∧ (∀ k, cn.1 34 k = if k = j then nI N else c.1 34 k) ∧ ∀ k, k < S → (cn.1 25 k = -2 ∨ 0 ≤ (cn.1 25 k).toInt) ∧ (10 ≤ (c0.1 27 k).toInt → 0 ≤ (cn.1 25 k).toInt) := by
      rw [e1]
      have same : ∃ cn : zz_S, f_Night_turnOver_L138 n i' m (lN M) (v7 + 1) (zz_w c 34 j (nI N)) = f_Night_turnOver_L138 n i' m (lN M) (v7 + 1) cn ∧ (∀ o, o ≠ 25 → o ≠ 26 → o ≠ 34 → cn.1 o = c0.1 o) ∧ cn.2 = c0.2 ∧ (∀ k, cn.1 34 k = if k = j then nI N else c.1 34 k) ∧ ∀ k, k < S → (cn.1 25 k = -2 ∨ 0 ≤ (cn.1 25 k).toInt) ∧ (10 ≤ (c0.1 27 k).toInt → 0 ≤ (cn.1 25 k).toInt) :=
        ⟨_, rfl, fun o a b d => by rw [w_row, if_neg d, c1 o a b d], c2, fun k => by rw [w_get, if_pos rfl], fun k hk => by rw [w_row, if_neg (by decide)]; exact h2 k hk⟩
      by_cases a1 : v7 = i'
      · rw [if_pos a1]; exact same
      · rw [if_neg a1]
        by_cases a3 : 2 * (nI (was j) - nI N) < c0.1 3 j
        · rw [if_pos a3]; exact same
        · rw [if_neg a3]
          by_cases a2 : c.1 25 j = -2
          · have yw : f_Tally_wake v7 m i' (zz_w c 34 j (nI N)) = some (zz_w (zz_w (zz_w c 34 j (nI N)) 25 j m) 26 j i') := by
              unfold f_Tally_wake
              rw [if_pos z7, nz_eq hv, if_pos]
              rw [w_row, if_neg (by decide)]
              exact a2
            rw [yw, Option.bind_some]
            refine ⟨_, rfl, fun o a b d => by rw [w_row, if_neg b, w_row, if_neg a, w_row, if_neg d, c1 o a b d], c2, fun k => by rw [w_row, if_neg (by decide), w_row, if_neg (by decide), w_get, if_pos rfl], fun k hk => ?_⟩
            by_cases d : k = j
            · subst d
              simp [w_get]
              exact ⟨Or.inr hm, fun _ => hm⟩
            · have g := h2 k hk
              simp [w_get, d]
              exact g
          · have nw : f_Tally_wake v7 m i' (zz_w c 34 j (nI N)) = some (zz_w c 34 j (nI N)) := by
              unfold f_Tally_wake
              rw [if_pos z7, nz_eq hv, if_neg]
              rw [w_row, if_neg (by decide)]
              exact a2
            rw [nw, Option.bind_some]; exact same
    rw [u1, g1]
    refine ih (j + 1) n n2 (v7 + 1) cn rn (by omega) (by omega) (by omega) (by omega) u2 u3 g2 g3 (fun k hk => ?_) u5
    rw [u4 k]
    by_cases d : k = j
    · rw [if_pos d, d, if_pos (by omega), hN]
    · rw [if_neg d, h1 k hk]
      by_cases e : k < j
      · rw [if_pos e, if_pos (by omega)]
      · rw [if_neg e, if_neg (by omega)]
