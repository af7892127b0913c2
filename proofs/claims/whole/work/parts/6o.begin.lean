/-! the night begins: the class -/
def lfOK (c r : zz_S) (C : Nat) : Prop := r.1 84 = c.1 6 ∧ ∀ k, k < C → -40 ≤ (c.1 6 k).toInt ∧ (c.1 6 k).toInt ≤ 60
def plOK (c r : zz_S) (pl S W : Nat) : Prop := (pl = 2 ∨ pl = 54) ∧ ∀ i, i < S → r.1 80 i = c.1 pl i ∧ 0 ≤ (c.1 pl i).toInt ∧ (c.1 pl i).toInt + (c.1 3 i).toInt ≤ W
theorem cb1_loop {c0 r0 : zz_S} {S C W : Nat} (pl : Nat) (hs : nS c0 r0 S C W) (hl : lfOK c0 r0 C) :
    ∀ (q j n : Nat) (v2 : Int32) (c : zz_S), j + q = C → v2.toInt = j → q < n → (∀ o, o ≠ 36 → c.1 o = c0.1 o) → (∀ o, o ≠ 38 → c.2 o = c0.2 o) → (∀ k, k < j → c.1 36 k = c0.1 6 k ∧ c.2 38 k = lN (seg (sF W (c0.1 6 k).toInt) (sE W (c0.1 6 k).toInt (c0.1 7 k).toInt))) →
      ∃ c2 : zz_S, f_Lie_begin_L2 n pl v2 c = ((f_Lie_allCovers c2).bind fun q2 => f_Lie_begin_L48 zF pl q2 0 c2) ∧ (∀ o, o ≠ 36 → c2.1 o = c0.1 o) ∧ (∀ o, o ≠ 38 → c2.2 o = c0.2 o) ∧ ∀ k, k < C → c2.1 36 k = c0.1 6 k ∧ c2.2 38 k = lN (seg (sF W (c0.1 6 k).toInt) (sE W (c0.1 6 k).toInt (c0.1 7 k).toInt)) := by
  obtain ⟨⟨s1, s2, s3⟩, ⟨s4, s5⟩, ⟨s6, s7⟩, -, -, s8, s9⟩ := hs
  intro q
  induction q with
  | zero =>
    intro j n v2 c hj hv hn h1 h2 h3
    obtain ⟨n, rfl⟩ : ∃ x, n = x + 1 := ⟨n - 1, by omega⟩
    exact ⟨c, by rw [f_Lie_begin_L2, if_pos (by rw [i_le, h1 1 (by decide)]; omega)], h1, h2, fun k hk => h3 k (by omega)⟩
  | succ q ih =>
    intro j n v2 c hj hv hn h1 h2 h3
    obtain ⟨n, rfl⟩ : ∃ x, n = x + 1 := ⟨n - 1, by omega⟩
    have hv1 := i_inc (a := v2) (by omega)
    have z := i_in (i := v2) (n := 3) |>.mpr (by omega)
    have hb := hl.2 j (by omega)
    have w := s9 j (by omega)
    have hbits := bits_of (s := zz_w (zz_w c 36 j (c0.1 6 j)) 36 j (c0.1 6 j)) (W := W) (c0.1 6 j) (c0.1 7 j) (by rw [w_row, if_neg (by decide), w_row, if_neg (by decide), h1 1 (by decide)]; exact s1) s3 (by omega) (by omega) (by omega) (by omega)
    have e1 : f_Lie_moveCover v2 0 (zz_w c 36 j (c.1 6 j)) = some (zz_wl (zz_w (zz_w c 36 j (c0.1 6 j)) 36 j (c0.1 6 j)) 38 j (lN (seg (sF W (c0.1 6 j).toInt) (sE W (c0.1 6 j).toInt (c0.1 7 j).toInt)))) := by
      unfold f_Lie_moveCover
      rw [if_pos z, nz_eq hv, h1 6 (by decide)]
      have a1 : (zz_w c 36 j (c0.1 6 j)).1 36 j = c0.1 6 j := by simp [w_get]
      have a3 : (zz_w c 36 j (c0.1 6 j)).1 7 = c0.1 7 := by rw [w_row, if_neg (by decide), h1 7 (by decide)]
      have a2 : (zz_w (zz_w c 36 j (c0.1 6 j)) 36 j (c0.1 6 j)).1 36 j = c0.1 6 j := by simp [w_get]
      rw [a1, Int32.add_zero, a2, a3, hbits]
    rw [f_Lie_begin_L2, if_neg (by rw [i_le, h1 1 (by decide)]; omega), if_pos z, nz_eq hv, e1, Option.bind_some]
    refine ih (j + 1) n (v2 + 1) _ (by omega) (by omega) (by omega) (fun o ho => ?_) (fun o ho => ?_) (fun k hk => ?_)
    · show (zz_w (zz_w c 36 j (c0.1 6 j)) 36 j (c0.1 6 j)).1 o = c0.1 o
      rw [w_row, if_neg ho, w_row, if_neg ho, h1 o ho]
    · rw [zz_wl_ne _ _ _ _ ho]
      exact h2 o ho
    · have a1 : (zz_wl (zz_w (zz_w c 36 j (c0.1 6 j)) 36 j (c0.1 6 j)) 38 j (lN (seg (sF W (c0.1 6 j).toInt) (sE W (c0.1 6 j).toInt (c0.1 7 j).toInt)))).1 36 k = if k = j then c0.1 6 j else c.1 36 k := by
        show (zz_w (zz_w c 36 j (c0.1 6 j)) 36 j (c0.1 6 j)).1 36 k = _
        rw [w_get, if_pos rfl]
        by_cases e : k = j
        · rw [if_pos e, if_pos e]
        · rw [if_neg e, if_neg e, w_get, if_pos rfl, if_neg e]
      have a2 : (zz_wl (zz_w (zz_w c 36 j (c0.1 6 j)) 36 j (c0.1 6 j)) 38 j (lN (seg (sF W (c0.1 6 j).toInt) (sE W (c0.1 6 j).toInt (c0.1 7 j).toInt)))).2 38 k = if k = j then lN (seg (sF W (c0.1 6 j).toInt) (sE W (c0.1 6 j).toInt (c0.1 7 j).toInt)) else c.2 38 k := by
        rw [zz_wl_same]
        rfl
      rw [a1, a2]
      by_cases e : k = j
      · rw [if_pos e, if_pos e, e]; exact ⟨rfl, rfl⟩
      · rw [if_neg e, if_neg e]; exact h3 k (by omega)
theorem cb2_loop {c0 r0 : zz_S} {S C W M pl : Nat} (hs : nS c0 r0 S C W) (hpl : plOK c0 r0 pl S W) (hM : M < 2 ^ 60) (hMb : ∀ k, k < W → M.testBit k = cvr (c0.1 36) (c0.1 7) C k) :
    ∀ (q j n : Nat) (v4 : Int32) (c : zz_S), j + q = S → v4.toInt = j → q < n → (∀ o, o ≠ 33 → o ≠ 34 → c.1 o = c0.1 o) → (∀ o, o ≠ 37 → c.2 o = c0.2 o) → (∀ k, k < j → c.1 33 k = c0.1 pl k ∧ c.2 37 k = lN (seg (c0.1 pl k).toInt.toNat ((c0.1 pl k).toInt.toNat + (c0.1 3 k).toInt.toNat)) ∧ c.1 34 k = nI (cvN (c0.1 36) (c0.1 7) C (c0.1 pl k) (c0.1 3 k))) →
      ∃ c2 : zz_S, f_Lie_begin_L48 n pl (lN M) v4 c = (f_Lie_feelWarmth c2).bind (fun q4 => some q4) ∧ (∀ o, o ≠ 33 → o ≠ 34 → c2.1 o = c0.1 o) ∧ (∀ o, o ≠ 37 → c2.2 o = c0.2 o) ∧ ∀ k, k < S → c2.1 33 k = c0.1 pl k ∧ c2.2 37 k = lN (seg (c0.1 pl k).toInt.toNat ((c0.1 pl k).toInt.toNat + (c0.1 3 k).toInt.toNat)) ∧ c2.1 34 k = nI (cvN (c0.1 36) (c0.1 7) C (c0.1 pl k) (c0.1 3 k)) := by
  obtain ⟨⟨s1, s2, s3⟩, ⟨s4, s5⟩, ⟨s6, s7⟩, -, -, s8, s9⟩ := hs
  obtain ⟨hpl0, hpl1⟩ := hpl
  intro q
  induction q with
  | zero =>
    intro j n v4 c hj hv hn h1 h2 h3
    obtain ⟨n, rfl⟩ : ∃ x, n = x + 1 := ⟨n - 1, by omega⟩
    exact ⟨c, by rw [f_Lie_begin_L48, if_pos (by rw [i_le, h1 1 (by decide) (by decide)]; omega)], h1, h2, fun k hk => h3 k (by omega)⟩
  | succ q ih =>
    intro j n v4 c hj hv hn h1 h2 h3
    obtain ⟨n, rfl⟩ : ∃ x, n = x + 1 := ⟨n - 1, by omega⟩
    have hv1 := i_inc (a := v4) (by omega)
    have z := i_in (i := v4) (n := 6) |>.mpr (by omega)
    obtain ⟨-, p1, p2⟩ := hpl1 j (by omega)
    have b := s8 j (by omega)
    have epl : c.1 pl = c0.1 pl := h1 pl (by omega) (by omega)
    have hsub := i_sub (a := c0.1 1 0) (b := c0.1 3 j) (by omega) (by omega)
    generalize hP : c0.1 pl j = P at *
    have hheld : zz_max 0 (zz_min (c0.1 1 0 - c0.1 3 j) P) = P := i_lit (by rw [zmax_toInt, zmin_toInt, hsub, show (0 : Int32).toInt = 0 from rfl]; omega)
    have hbits := bits_of (s := zz_w (zz_w c 33 j P) 33 j P) (W := W) P (c0.1 3 j) (by rw [w_row, if_neg (by decide), w_row, if_neg (by decide), h1 1 (by decide) (by decide)]; exact s1) s3 (by omega) (by omega) (by omega) (by omega)
    have hseg : seg (sF W P.toInt) (sE W P.toInt (c0.1 3 j).toInt) = seg P.toInt.toNat (P.toInt.toNat + (c0.1 3 j).toInt.toNat) := by
      congr 1
      · unfold sF; omega
      · unfold sE; omega
    rw [hseg] at hbits
    have hcnt := count_of (W := W) (M := M) (lf := c0.1 36) (wd := c0.1 7) (C := C) (p := P.toInt.toNat) (b := (c0.1 3 j).toInt.toNat) (pp := P) (bb := c0.1 3 j) s3 (by omega) (by omega) (by omega) hM hMb
    have e1 : f_Lie_moveSleeper v4 0 (zz_w c 33 j (c.1 pl j)) = some (zz_wl (zz_w (zz_w c 33 j P) 33 j P) 37 j (lN (seg P.toInt.toNat (P.toInt.toNat + (c0.1 3 j).toInt.toNat)))) := by
      unfold f_Lie_moveSleeper f_Bed_heldWithin
      have a1 : (zz_w c 33 j P).1 33 j = P := by simp [w_get]
      have a2 : (zz_w c 33 j P).1 1 = c0.1 1 := by rw [w_row, if_neg (by decide), h1 1 (by decide) (by decide)]
      have a3 : (zz_w c 33 j P).1 3 = c0.1 3 := by rw [w_row, if_neg (by decide), h1 3 (by decide) (by decide)]
      have a4 : (zz_w (zz_w c 33 j P) 33 j P).1 33 j = P := by simp [w_get]
      rw [if_pos z, if_pos z, nz_eq hv, epl, hP, a1, a2, a3, Int32.add_zero, hheld, Option.bind_some, a4, hbits]
    have e2 : f_Lie_coverAnew v4 (lN M) (zz_wl (zz_w (zz_w c 33 j P) 33 j P) 37 j (lN (seg P.toInt.toNat (P.toInt.toNat + (c0.1 3 j).toInt.toNat)))) = some (c.1 34 j - nI (cvN (c0.1 36) (c0.1 7) C P (c0.1 3 j)), zz_w (zz_wl (zz_w (zz_w c 33 j P) 33 j P) 37 j (lN (seg P.toInt.toNat (P.toInt.toNat + (c0.1 3 j).toInt.toNat)))) 34 j (nI (cvN (c0.1 36) (c0.1 7) C P (c0.1 3 j)))) := by
      unfold f_Lie_coverAnew
      have a1 : (zz_wl (zz_w (zz_w c 33 j P) 33 j P) 37 j (lN (seg P.toInt.toNat (P.toInt.toNat + (c0.1 3 j).toInt.toNat)))).2 37 j = lN (seg P.toInt.toNat (P.toInt.toNat + (c0.1 3 j).toInt.toNat)) := by
        rw [zz_wl_same]; unfold vp_updL; rw [if_pos rfl]
      have a2 : (zz_wl (zz_w (zz_w c 33 j P) 33 j P) 37 j (lN (seg P.toInt.toNat (P.toInt.toNat + (c0.1 3 j).toInt.toNat)))).1 34 j = c.1 34 j := by
        show (zz_w (zz_w c 33 j P) 33 j P).1 34 j = _
        simp [w_get]
      rw [if_pos z, nz_eq hv, a1, hcnt, a2]
      have a3 : ∀ (s : zz_S) (v : Int32), (zz_w s 34 j v).1 34 j = v := fun s v => by simp [w_get]
      rw [a3]
    rw [f_Lie_begin_L48, if_neg (by rw [i_le, h1 1 (by decide) (by decide)]; omega), if_pos z, nz_eq hv, e1, Option.bind_some, e2, Option.bind_some]
    refine ih (j + 1) n (v4 + 1) _ (by omega) (by omega) (by omega) (fun o a d => ?_) (fun o ho => ?_) (fun k hk => ?_)
    · rw [w_row, if_neg d]
      show (zz_w (zz_w c 33 j P) 33 j P).1 o = c0.1 o
      rw [w_row, if_neg a, w_row, if_neg a, h1 o a d]
    · show (zz_wl (zz_w (zz_w c 33 j P) 33 j P) 37 j _).2 o = c0.2 o
      rw [zz_wl_ne _ _ _ _ ho]
      exact h2 o ho
    · generalize hX : lN (seg P.toInt.toNat (P.toInt.toNat + (c0.1 3 j).toInt.toNat)) = X
      have a1 : (zz_w (zz_wl (zz_w (zz_w c 33 j P) 33 j P) 37 j X) 34 j (nI (cvN (c0.1 36) (c0.1 7) C P (c0.1 3 j)))).1 33 k = if k = j then P else c.1 33 k := by
        rw [w_row, if_neg (by decide)]
        show (zz_w (zz_w c 33 j P) 33 j P).1 33 k = _
        rw [w_get, if_pos rfl]
        by_cases e : k = j
        · rw [if_pos e, if_pos e]
        · rw [if_neg e, if_neg e, w_get, if_pos rfl, if_neg e]
      have a2 : (zz_w (zz_wl (zz_w (zz_w c 33 j P) 33 j P) 37 j X) 34 j (nI (cvN (c0.1 36) (c0.1 7) C P (c0.1 3 j)))).2 37 k = if k = j then X else c.2 37 k := by
        show (zz_wl (zz_w (zz_w c 33 j P) 33 j P) 37 j X).2 37 k = _
        rw [zz_wl_same]
        rfl
      have a3 : (zz_w (zz_wl (zz_w (zz_w c 33 j P) 33 j P) 37 j X) 34 j (nI (cvN (c0.1 36) (c0.1 7) C P (c0.1 3 j)))).1 34 k = if k = j then nI (cvN (c0.1 36) (c0.1 7) C P (c0.1 3 j)) else c.1 34 k := by
        rw [w_get, if_pos rfl]
        by_cases e : k = j
        · rw [if_pos e, if_pos e]
        · rw [if_neg e, if_neg e]
          show (zz_w (zz_w c 33 j P) 33 j P).1 34 k = _
          simp [w_get]
      rw [a1, a2, a3]
      by_cases e : k = j
      · rw [if_pos e, if_pos e, if_pos e, e, hP, ← hX]
        exact ⟨rfl, rfl, rfl⟩
      · rw [if_neg e, if_neg e, if_neg e]
        exact h3 k (by omega)
