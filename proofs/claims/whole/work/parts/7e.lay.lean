/-! laid side by side, on both sides -/
def oD (S N : Nat) : Nat → Nat → Int32 → Int32
  | 0, _, v => v
  | q + 1, j, v => oD S N q (j + 1) (10 * v + nI (dg S N j) + 1)
theorem dig_loop {c : zz_S} {S N : Nat} {v1 : Int32} (hv1 : v1.toInt = S) (hS : S ≤ 6) (h53 : ∀ i, i < S → c.1 53 i = nI (dg S N i)) : ∀ (q j n : Nat) (v2 v3 : Int32), j + q = S → v3.toInt = j → q < n → f_B_orderAsDigits_L4 c n v1 v2 v3 = some (oD S N q j v2) := by
  intro q
  induction q with
  | zero =>
    intro j n v2 v3 hj hv hn
    obtain ⟨n, rfl⟩ : ∃ x, n = x + 1 := ⟨n - 1, by omega⟩
    rw [f_B_orderAsDigits_L4, if_pos (by rw [i_le]; omega), oD]
  | succ q ih =>
    intro j n v2 v3 hj hv hn
    obtain ⟨n, rfl⟩ : ∃ x, n = x + 1 := ⟨n - 1, by omega⟩
    have hi := i_inc (a := v3) (by omega)
    rw [f_B_orderAsDigits_L4, if_neg (by rw [i_le]; omega), if_pos (i_in.mpr (by omega)), nz_eq hv, h53 j (by omega), Int32.mul_comm v2 10, oD]
    exact ih (j + 1) n _ (v3 + 1) (by omega) (by omega) (by omega)
def laid (c r : zz_S) (W i : Nat) : Prop := r.1 80 i = c.1 54 i ∧ 0 ≤ (c.1 54 i).toInt ∧ (c.1 54 i).toInt + (c.1 3 i).toInt ≤ W
theorem lay_loop {c0 r0 : zz_S} {S C W N : Nat} (hs : nS c0 r0 S C W) (h53 : ∀ i, i < S → c0.1 53 i = nI (dg S N i)) (h116 : ∀ i, i < S → r0.1 116 i = nI (dg S N i)) (K : Int32 → Int32 → Int32 → Int32 → Int32 → zz_S → Option (Int32 × zz_S)) (v1 v2 v3 v4 v5 : Int32) :
    ∀ (q j n n2 : Nat) (v v8 v6 : Int32) (c r : zz_S), j + q = S → v8.toInt = j → q < n → q < n2 → 0 ≤ v.toInt → v.toInt ≤ 20 * j → (∀ o, o ≠ 54 → c.1 o = c0.1 o) → c.2 = c0.2 → (∀ o, o ≠ 80 → r.1 o = r0.1 o) → r.2 = r0.2 → (∀ i, S ≤ i → r.1 80 i = r0.1 80 i) → (∀ k, k < j → laid c r W (dg S N k)) →
      ∃ c2 r2, f_Bed_laySideBySide_L5 n v v8 c = some c2 ∧ (f_M_across_L109 K n2 v1 v2 v3 v4 v5 v6 v v8 r = (f_M_leastEasy r2).bind fun q12 => if v4 < q12.1 then K v1 v2 (oD S N q j v6) q12.1 (v5 + (1 : Int32)) q12.2 else K v1 v2 v3 v4 (v5 + (1 : Int32)) q12.2) ∧
        (∀ o, o ≠ 54 → c2.1 o = c0.1 o) ∧ c2.2 = c0.2 ∧ (∀ o, o ≠ 80 → r2.1 o = r0.1 o) ∧ r2.2 = r0.2 ∧ (∀ i, S ≤ i → r2.1 80 i = r0.1 80 i) ∧ ∀ k, k < S → laid c2 r2 W (dg S N k) := by
  have l0 : (0 : Int32).toInt = 0 := rfl
  obtain ⟨⟨s1, s2, s3⟩, ⟨s4, s5⟩, ⟨s6, s7⟩, ⟨rr1, rr2, r7⟩, ⟨r81, r82, r83, r85, r86, r87⟩, s8, s9⟩ := hs
  intro q
  induction q with
  | zero =>
    intro j n n2 v v8 v6 c r hj hv hn hn2 g0 g1 e1 e2 e3 e4 e5 e6
    obtain ⟨n, rfl⟩ : ∃ x, n = x + 1 := ⟨n - 1, by omega⟩
    obtain ⟨n2, rfl⟩ : ∃ x, n2 = x + 1 := ⟨n2 - 1, by omega⟩
    refine ⟨c, r, ?_, ?_, e1, e2, e3, e4, e5, fun k hk => e6 k (by omega)⟩
    · rw [f_Bed_laySideBySide_L5, if_pos (by rw [i_le, e1 1 (by decide)]; omega)]
    · rw [f_M_across_L109, if_pos (by rw [i_le, e3 79 (by decide), rr2]; omega), oD]
  | succ q ih =>
    intro j n n2 v v8 v6 c r hj hv hn hn2 g0 g1 e1 e2 e3 e4 e5 e6
    obtain ⟨n, rfl⟩ : ∃ x, n = x + 1 := ⟨n - 1, by omega⟩
    obtain ⟨n2, rfl⟩ : ∃ x, n2 = x + 1 := ⟨n2 - 1, by omega⟩
    have hi := i_inc (a := v8) (by omega)
    have z : zz_in v8 6 = true := i_in.mpr (by omega)
    have hlt := dg_lt (S := S) (N := N) (i := j) (by omega)
    generalize hd : dg S N j = d at hlt
    have kd := nI_int (n := d) (by omega)
    have zd : zz_in (nI d) 6 = true := i_in.mpr (by omega)
    have b := (s8 d hlt).1
    have hsub := i_sub (a := c0.1 1 0) (b := c0.1 3 d) (by omega) (by omega)
    have hadd := i_add (a := v) (b := c0.1 3 d) (by omega) (by omega)
    -- the place
    generalize hx : zz_max (0 : Int32) (zz_min (c0.1 1 0 - c0.1 3 d) v) = x
    have hxi : x.toInt = min ((W : Int) - (c0.1 3 d).toInt) v.toInt := by
      rw [← hx, zmax_toInt, zmin_toInt, l0]
      omega
    have step := ih (j + 1) n n2 (v + c0.1 3 d) (v8 + 1) (10 * v6 + nI d + 1) (zz_w c 54 d x) (zz_w r 80 d x) (by omega) (by omega) (by omega) (by omega) (by omega) (by omega) (fun o ho => by rw [w_row, if_neg ho]; exact e1 o ho) e2 (fun o ho => by rw [w_row, if_neg ho]; exact e3 o ho) e4 (fun i hi => by rw [w_get, if_pos rfl, if_neg (by omega)]; exact e5 i hi) (fun k hk => by
      unfold laid
      rw [w_row (o := 54) (a := 3), if_neg (by decide), w_get, w_get, if_pos rfl, if_pos rfl]
      by_cases q1 : dg S N k = d
      · rw [if_pos q1, if_pos q1, q1, e1 3 (by decide)]
        exact ⟨rfl, by omega, by omega⟩
      · rw [if_neg q1, if_neg q1]
        exact e6 k (by
          by_cases q2 : k = j
          · rw [q2] at q1; exact absurd hd q1
          · omega))
    obtain ⟨c2, r2, k1, k2, k3⟩ := step
    refine ⟨c2, r2, ?_, ?_, k3⟩
    · rw [f_Bed_laySideBySide_L5, if_neg (by rw [i_le, e1 1 (by decide)]; omega), if_pos z, nz_eq hv, e1 53 (by decide), h53 j (by omega), hd]
      unfold f_Bed_heldWithin
      rw [if_pos zd, Option.bind_some, if_pos zd, nz_eq kd, e1 1 (by decide), e1 3 (by decide), hx]
      exact k1
    · rw [f_M_across_L109, if_neg (by rw [i_le, e3 79 (by decide), rr2]; omega), if_pos z, nz_eq hv, e3 116 (by decide), h116 j (by omega), hd, if_pos zd, nz_eq kd, e3 79 (by decide), e3 81 (by decide), rr1, r81]
      have eo : oD S N (q + 1) j v6 = oD S N q (j + 1) (10 * v6 + nI d + 1) := by rw [oD, hd]
      rw [eo]
      by_cases c1 : c0.1 1 0 - c0.1 3 d ≤ v
      · have ex : x = c0.1 1 0 - c0.1 3 d := i_lit (by rw [i_le] at c1; omega)
        rw [if_pos c1]
        unfold f_M_across_J179
        rw [if_pos zd, if_pos zd, nz_eq kd, e3 81 (by decide), r81, ← ex]
        exact k2
      · have ex : x = v := i_lit (by rw [i_le] at c1; omega)
        rw [if_neg c1]
        unfold f_M_across_J179
        rw [if_pos zd, if_pos zd, nz_eq kd, e3 81 (by decide), r81]
        rw [ex] at k2
        exact k2
