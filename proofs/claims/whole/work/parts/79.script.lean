/-! the script -/
set_option maxHeartbeats 2000000 in
theorem law_step (hac : ∀ (a : Int32) (s : zz_S), iv s → ag iv (f_B_across a s) (f_M_across a)) {xn : Nat} {xs : Nat → Int32} {n : Nat} {v3 : Int32} {s : zz_S} (h : iv s) (hend : ¬ (Int32.ofNat xn) - 6 < v3) (z0 : zz_in v3 xn = true) (z1 : zz_in (v3 + 1) xn = true) (z2 : zz_in (v3 + 2) xn = true) (z3 : zz_in (v3 + 3) xn = true) (z4 : zz_in (v3 + 4) xn = true) (z5 : zz_in (v3 + 5) xn = true) :
    ∃ s2, iv s2 ∧ f_Law_law_L18 xn xs (n + 1) v3 s = f_Law_law_L18 xn xs n (v3 + 6) s2 := by
  rw [f_Law_law_L18, if_neg hend, if_pos z0]
  by_cases h0 : xs v3.toNatClampNeg &&& 63 = 0
  · rw [if_pos h0, if_pos z1]
    obtain ⟨q, s1, s2, e1, e2, e3⟩ := p_wide (xs (v3 + (1 : Int32)).toNatClampNeg) h
    refine ⟨s2, e3, ?_⟩
    rw [e1, Option.bind_some, e2, Option.bind_some]
    exact if_pos rfl
  rw [if_neg h0]
  by_cases h1 : xs v3.toNatClampNeg &&& 63 = 1
  · rw [if_pos h1, if_pos z1, if_pos z2]
    obtain ⟨q, s1, s2, e1, e2, e3⟩ := p_sleeper (xs (v3 + (1 : Int32)).toNatClampNeg) (xs (v3 + (2 : Int32)).toNatClampNeg) h
    refine ⟨s2, e3, ?_⟩
    rw [e1, Option.bind_some, e2, Option.bind_some]
    exact if_pos rfl
  rw [if_neg h1]
  by_cases h2 : xs v3.toNatClampNeg &&& 63 = 2
  · rw [if_pos h2, if_pos z1, if_pos z2, if_pos z3]
    obtain ⟨q, s1, s2, e1, e2, e3⟩ := p_cover (xs (v3 + (1 : Int32)).toNatClampNeg) (xs (v3 + (2 : Int32)).toNatClampNeg) (xs (v3 + (3 : Int32)).toNatClampNeg) h
    refine ⟨s2, e3, ?_⟩
    rw [e1, Option.bind_some, e2, Option.bind_some]
    exact if_pos rfl
  rw [if_neg h2]
  by_cases h3 : xs v3.toNatClampNeg &&& 63 = 3
  · rw [if_pos h3, if_pos z1, if_pos z2, if_pos z3]
    obtain ⟨q, s1, s2, e1, e2, e3⟩ := p_mend (xs (v3 + (1 : Int32)).toNatClampNeg) (xs (v3 + (2 : Int32)).toNatClampNeg) (xs (v3 + (3 : Int32)).toNatClampNeg) h
    refine ⟨s2, e3, ?_⟩
    rw [e1, Option.bind_some, e2, Option.bind_some]
    exact if_pos rfl
  rw [if_neg h3]
  by_cases h4 : xs v3.toNatClampNeg &&& 63 = 4
  · rw [if_pos h4, if_pos z1, if_pos z2]
    obtain ⟨q, e1, e2⟩ := p_of (xs (v3 + (1 : Int32)).toNatClampNeg) (xs (v3 + (2 : Int32)).toNatClampNeg) h
    refine ⟨s, h, ?_⟩
    rw [e1, Option.bind_some, e2, Option.bind_some]
    exact if_pos rfl
  rw [if_neg h4]
  by_cases h5 : xs v3.toNatClampNeg &&& 63 = 5
  · rw [if_pos h5, if_pos z1]
    obtain ⟨q, s1, s2, e1, e2, e3⟩ := p_feed (xs (v3 + (1 : Int32)).toNatClampNeg) h
    refine ⟨s2, e3, ?_⟩
    rw [e1, Option.bind_some, e2, Option.bind_some]
    exact if_pos rfl
  rw [if_neg h5]
  by_cases h6 : xs v3.toNatClampNeg &&& 63 = 6
  · rw [if_pos h6]
    obtain ⟨q, s1, s2, e1, e2, e3⟩ := p_law  h
    refine ⟨s2, e3, ?_⟩
    rw [e1, Option.bind_some, e2, Option.bind_some]
    exact if_pos rfl
  rw [if_neg h6]
  by_cases h7 : xs v3.toNatClampNeg &&& 63 = 7
  · rw [if_pos h7]
    obtain ⟨q, s1, s2, e1, e2, e3⟩ := p_room  h
    refine ⟨s2, e3, ?_⟩
    rw [e1, Option.bind_some, e2, Option.bind_some]
    exact if_pos rfl
  rw [if_neg h7]
  by_cases h8 : xs v3.toNatClampNeg &&& 63 = 8
  · rw [if_pos h8, if_pos z1]
    obtain ⟨q, s1, s2, e1, e2, e3⟩ := p_force (xs (v3 + (1 : Int32)).toNatClampNeg) h
    refine ⟨s2, e3, ?_⟩
    rw [e1, Option.bind_some, e2, Option.bind_some]
    exact if_pos rfl
  rw [if_neg h8]
  by_cases h9 : xs v3.toNatClampNeg &&& 63 = 9
  · rw [if_pos h9, if_pos z1, if_pos z2, if_pos z3]
    obtain ⟨q, s1, s2, e1, e2, e3⟩ := p_turn (xs (v3 + (1 : Int32)).toNatClampNeg) (xs (v3 + (2 : Int32)).toNatClampNeg) (xs (v3 + (3 : Int32)).toNatClampNeg) h
    refine ⟨s2, e3, ?_⟩
    rw [e1, Option.bind_some, e2, Option.bind_some]
    exact if_pos rfl
  rw [if_neg h9]
  by_cases h10 : xs v3.toNatClampNeg &&& 63 = 10
  · rw [if_pos h10, if_pos z1, if_pos z2, if_pos z3]
    obtain ⟨q, s1, s2, e1, e2, e3⟩ := p_tosses (xs (v3 + (1 : Int32)).toNatClampNeg) (xs (v3 + (2 : Int32)).toNatClampNeg) (xs (v3 + (3 : Int32)).toNatClampNeg) h
    refine ⟨s2, e3, ?_⟩
    rw [e1, Option.bind_some, e2, Option.bind_some]
    exact if_pos rfl
  rw [if_neg h10]
  by_cases h11 : xs v3.toNatClampNeg &&& 63 = 11
  · rw [if_pos h11]
    obtain ⟨q, s1, s2, e1, e2, e3⟩ := p_clear  h
    refine ⟨s2, e3, ?_⟩
    rw [e1, Option.bind_some, e2, Option.bind_some]
    exact if_pos rfl
  rw [if_neg h11]
  by_cases h12 : xs v3.toNatClampNeg &&& 63 = 12
  · rw [if_pos h12, if_pos z1, if_pos z2]
    obtain ⟨q, s1, s2, e1, e2, e3⟩ := p_lies (xs (v3 + (1 : Int32)).toNatClampNeg) (xs (v3 + (2 : Int32)).toNatClampNeg) h
    refine ⟨s2, e3, ?_⟩
    rw [e1, Option.bind_some, e2, Option.bind_some]
    exact if_pos rfl
  rw [if_neg h12]
  by_cases h13 : xs v3.toNatClampNeg &&& 63 = 13
  · rw [if_pos h13, if_pos z1, if_pos z2, if_pos z3]
    obtain ⟨q, s1, s2, e1, e2, e3⟩ := p_sleeps (xs (v3 + (1 : Int32)).toNatClampNeg) (xs (v3 + (2 : Int32)).toNatClampNeg) (xs (v3 + (3 : Int32)).toNatClampNeg) h
    refine ⟨s2, e3, ?_⟩
    rw [e1, Option.bind_some, e2, Option.bind_some]
    exact if_pos rfl
  rw [if_neg h13]
  by_cases h14 : xs v3.toNatClampNeg &&& 63 = 14
  · rw [if_pos h14, if_pos z1, if_pos z2]
    obtain ⟨q, s1, s2, e1, e2, e3⟩ := p_minutes (xs (v3 + (1 : Int32)).toNatClampNeg) (xs (v3 + (2 : Int32)).toNatClampNeg) h
    refine ⟨s2, e3, ?_⟩
    rw [e1, Option.bind_some, e2, Option.bind_some]
    exact if_pos rfl
  rw [if_neg h14]
  by_cases h15 : xs v3.toNatClampNeg &&& 63 = 15
  · rw [if_pos h15, if_pos z1, if_pos z2]
    obtain ⟨q, s1, s2, e1, e2, e3⟩ := p_wakes (xs (v3 + (1 : Int32)).toNatClampNeg) (xs (v3 + (2 : Int32)).toNatClampNeg) h
    refine ⟨s2, e3, ?_⟩
    rw [e1, Option.bind_some, e2, Option.bind_some]
    exact if_pos rfl
  rw [if_neg h15]
  by_cases h16 : xs v3.toNatClampNeg &&& 63 = 16
  · rw [if_pos h16, if_pos z1]
    obtain ⟨q, s1, s2, e1, e2, e3⟩ := p_took (xs (v3 + (1 : Int32)).toNatClampNeg) h
    refine ⟨s2, e3, ?_⟩
    rw [e1, Option.bind_some, e2, Option.bind_some]
    exact if_pos rfl
  rw [if_neg h16]
  by_cases h17 : xs v3.toNatClampNeg &&& 63 = 17
  · rw [if_pos h17, if_pos z1, if_pos z2]
    obtain ⟨q, s1, s2, e1, e2, e3⟩ := p_broad (xs (v3 + (1 : Int32)).toNatClampNeg) (xs (v3 + (2 : Int32)).toNatClampNeg) h
    refine ⟨s2, e3, ?_⟩
    rw [e1, Option.bind_some, e2, Option.bind_some]
    exact if_pos rfl
  rw [if_neg h17]
  by_cases h18 : xs v3.toNatClampNeg &&& 63 = 18
  · rw [if_pos h18, if_pos z1, if_pos z2]
    obtain ⟨q, s1, s2, e1, e2, e3⟩ := p_tucked (xs (v3 + (1 : Int32)).toNatClampNeg) (xs (v3 + (2 : Int32)).toNatClampNeg) h
    refine ⟨s2, e3, ?_⟩
    rw [e1, Option.bind_some, e2, Option.bind_some]
    exact if_pos rfl
  rw [if_neg h18]
  by_cases h19 : xs v3.toNatClampNeg &&& 63 = 19
  · rw [if_pos h19, if_pos z1]
    obtain ⟨q, s1, s2, e1, e2, e3⟩ := p_window (xs (v3 + (1 : Int32)).toNatClampNeg) h
    refine ⟨s2, e3, ?_⟩
    rw [e1, Option.bind_some, e2, Option.bind_some]
    exact if_pos rfl
  rw [if_neg h19]
  by_cases h20 : xs v3.toNatClampNeg &&& 63 = 20
  · rw [if_pos h20, if_pos z1]
    obtain ⟨q, s1, s2, e1, e2, e3⟩ := hac (xs (v3 + (1 : Int32)).toNatClampNeg) s h
    refine ⟨s2, e3, ?_⟩
    rw [e1, Option.bind_some, e2, Option.bind_some]
    exact if_pos rfl
  rw [if_neg h20]
  by_cases h21 : xs v3.toNatClampNeg &&& 63 = 21
  · rw [if_pos h21, if_pos z1, if_pos z2, if_pos z3, if_pos z4]
    obtain ⟨q, s1, s2, e1, e2, e3⟩ := p_drawn (xs (v3 + (1 : Int32)).toNatClampNeg) (xs (v3 + (2 : Int32)).toNatClampNeg) (xs (v3 + (3 : Int32)).toNatClampNeg) (xs (v3 + (4 : Int32)).toNatClampNeg) h
    refine ⟨s2, e3, ?_⟩
    rw [e1, Option.bind_some, e2, Option.bind_some]
    exact if_pos rfl
  rw [if_neg h21]
  by_cases h22 : xs v3.toNatClampNeg &&& 63 = 22
  · rw [if_pos h22, if_pos z1, if_pos z2, if_pos z3]
    obtain ⟨q, s1, s2, e1, e2, e3⟩ := p_morning (xs (v3 + (1 : Int32)).toNatClampNeg) (xs (v3 + (2 : Int32)).toNatClampNeg) (xs (v3 + (3 : Int32)).toNatClampNeg) h
    refine ⟨s2, e3, ?_⟩
    rw [e1, Option.bind_some, e2, Option.bind_some]
    exact if_pos rfl
  rw [if_neg h22]
  by_cases h23 : xs v3.toNatClampNeg &&& 63 = 23
  · rw [if_pos h23, if_pos z1]
    obtain ⟨q, s1, s2, e1, e2, e3⟩ := p_film (xs (v3 + (1 : Int32)).toNatClampNeg) h
    refine ⟨s2, e3, ?_⟩
    rw [e1, Option.bind_some, e2, Option.bind_some]
    exact if_pos rfl
  rw [if_neg h23]
  by_cases h24 : xs v3.toNatClampNeg &&& 63 = 24
  · rw [if_pos h24]
    obtain ⟨q, s1, s2, e1, e2, e3⟩ := p_undo  h
    refine ⟨s2, e3, ?_⟩
    rw [e1, Option.bind_some, e2, Option.bind_some]
    exact if_pos rfl
  rw [if_neg h24]
  by_cases h25 : xs v3.toNatClampNeg &&& 63 = 25
  · rw [if_pos h25]
    obtain ⟨q, s1, s2, e1, e2, e3⟩ := p_redo  h
    refine ⟨s2, e3, ?_⟩
    rw [e1, Option.bind_some, e2, Option.bind_some]
    exact if_pos rfl
  rw [if_neg h25]
  by_cases h26 : xs v3.toNatClampNeg &&& 63 = 26
  · rw [if_pos h26, if_pos z1]
    obtain ⟨q, s1, s2, e1, e2, e3⟩ := p_body (xs (v3 + (1 : Int32)).toNatClampNeg) h
    refine ⟨s2, e3, ?_⟩
    rw [e1, Option.bind_some, e2, Option.bind_some]
    exact if_pos rfl
  rw [if_neg h26]
  by_cases h27 : xs v3.toNatClampNeg &&& 63 = 27
  · rw [if_pos h27, if_pos z1, if_pos z2, if_pos z3]
    obtain ⟨q, s1, s2, e1, e2, e3⟩ := p_act (xs (v3 + (1 : Int32)).toNatClampNeg) (xs (v3 + (2 : Int32)).toNatClampNeg) (xs (v3 + (3 : Int32)).toNatClampNeg) h
    refine ⟨s2, e3, ?_⟩
    rw [e1, Option.bind_some, e2, Option.bind_some]
    exact if_pos rfl
  rw [if_neg h27]
  by_cases h28 : xs v3.toNatClampNeg &&& 63 = 28
  · rw [if_pos h28, if_pos z1]
    obtain ⟨q, e1, e2⟩ := p_trace (xs (v3 + (1 : Int32)).toNatClampNeg) h
    refine ⟨s, h, ?_⟩
    rw [e1, Option.bind_some, e2, Option.bind_some]
    exact if_pos rfl
  rw [if_neg h28]
  by_cases h29 : xs v3.toNatClampNeg &&& 63 = 29
  · rw [if_pos h29, if_pos z1, if_pos z2]
    obtain ⟨q, s1, s2, e1, e2, e3⟩ := p_keep (xs (v3 + (1 : Int32)).toNatClampNeg) (xs (v3 + (2 : Int32)).toNatClampNeg) h
    refine ⟨s2, e3, ?_⟩
    rw [e1, Option.bind_some, e2, Option.bind_some]
    exact if_pos rfl
  rw [if_neg h29]
  by_cases h30 : xs v3.toNatClampNeg &&& 63 = 30
  · rw [if_pos h30, if_pos z1, if_pos z2, if_pos z3]
    obtain ⟨q, s1, s2, e1, e2, e3⟩ := p_row (xs (v3 + (1 : Int32)).toNatClampNeg) (xs (v3 + (2 : Int32)).toNatClampNeg) (xs (v3 + (3 : Int32)).toNatClampNeg) h
    refine ⟨s2, e3, ?_⟩
    rw [e1, Option.bind_some, e2, Option.bind_some]
    exact if_pos rfl
  rw [if_neg h30]
  by_cases h31 : xs v3.toNatClampNeg &&& 63 = 31
  · rw [if_pos h31, if_pos z1, if_pos z2, if_pos z3, if_pos z4]
    obtain ⟨q, s1, s2, e1, e2, e3⟩ := p_put (xs (v3 + (1 : Int32)).toNatClampNeg) (xs (v3 + (2 : Int32)).toNatClampNeg) (((xs (v3 + (3 : Int32)).toNatClampNeg).toInt64 <<< ((32 : Int32).toInt64 &&& 63)) ||| ((xs (v3 + (4 : Int32)).toNatClampNeg).toInt64 &&& (4294967295 : Int64))) h
    refine ⟨s2, e3, ?_⟩
    rw [e1, Option.bind_some, e2, Option.bind_some]
    exact if_pos rfl
  rw [if_neg h31]
  by_cases h32 : xs v3.toNatClampNeg &&& 63 = 32
  · rw [if_pos h32, if_pos z1, if_pos z2]
    obtain ⟨q, e1, e2⟩ := p_element (xs (v3 + (1 : Int32)).toNatClampNeg) (xs (v3 + (2 : Int32)).toNatClampNeg) h
    refine ⟨s, h, ?_⟩
    rw [e1, Option.bind_some, e2, Option.bind_some]
    exact if_pos ((cmp_eq _ _).mpr rfl)
  rw [if_neg h32]
  by_cases h33 : xs v3.toNatClampNeg &&& 63 = 33
  · rw [if_pos h33, if_pos z1, if_pos z2, if_pos z3, if_pos z4, if_pos z5]
    obtain ⟨q, s1, s2, e1, e2, e3⟩ := p_shift (xs (v3 + (1 : Int32)).toNatClampNeg) (xs (v3 + (2 : Int32)).toNatClampNeg) (xs (v3 + (3 : Int32)).toNatClampNeg) (xs (v3 + (4 : Int32)).toNatClampNeg) (xs (v3 + (5 : Int32)).toNatClampNeg) h
    refine ⟨s2, e3, ?_⟩
    rw [e1, Option.bind_some, e2, Option.bind_some]
    exact if_pos rfl
  rw [if_neg h33]
  by_cases h34 : xs v3.toNatClampNeg &&& 63 = 34
  · rw [if_pos h34, if_pos z1, if_pos z2]
    obtain ⟨q, e1, e2⟩ := p_taken (xs (v3 + (1 : Int32)).toNatClampNeg) (xs (v3 + (2 : Int32)).toNatClampNeg) h
    refine ⟨s, h, ?_⟩
    rw [e1, Option.bind_some, e2, Option.bind_some]
    exact if_pos rfl
  rw [if_neg h34]
  by_cases h35 : xs v3.toNatClampNeg &&& 63 = 35
  · rw [if_pos h35, if_pos z1]
    exact ⟨s, h, if_pos (p_count _ h).symm⟩
  rw [if_neg h35]
  exact ⟨s, h, rfl⟩
theorem law_run (hac : ∀ (a : Int32) (s : zz_S), iv s → ag iv (f_B_across a s) (f_M_across a)) {L : Nat} {xs : Nat → Int32} (hL : L ≤ 384) : ∀ (q n : Nat) (v3 : Int32) (s : zz_S), iv s → 0 ≤ v3.toInt → (L : Int) - v3.toInt ≤ 6 * q → v3.toInt ≤ 390 → q < n → ∃ s2, f_Law_law_L18 L xs n v3 s = some (1, s2) := by
  have l6 : (6 : Int32).toInt = 6 := rfl
  have lL : (Int32.ofNat L).toInt = L := Int32.toInt_ofNat_of_lt (by omega)
  have hsub := i_sub (a := Int32.ofNat L) (b := 6) (by omega) (by omega)
  rw [lL, l6] at hsub
  intro q
  induction q with
  | zero =>
    intro n v3 s h h0 h1 h2 hn
    obtain ⟨n, rfl⟩ : ∃ x, n = x + 1 := ⟨n - 1, by omega⟩
    rw [f_Law_law_L18, if_pos (by rw [i_lt, hsub]; omega)]
    exact ⟨s, rfl⟩
  | succ q ih =>
    intro n v3 s h h0 h1 h2 hn
    obtain ⟨n, rfl⟩ : ∃ x, n = x + 1 := ⟨n - 1, by omega⟩
    by_cases e : Int32.ofNat L - 6 < v3
    · rw [f_Law_law_L18, if_pos e]
      exact ⟨s, rfl⟩
    · have e' := e
      rw [i_lt, hsub] at e'
      have ad : ∀ (k : Int32) (kk : Nat), k.toInt = kk → kk ≤ 6 → (v3 + k).toInt = v3.toInt + kk := fun k kk a b => by rw [i_add (by omega) (by omega), a]
      have a1 := ad 1 1 rfl (by decide)
      have a2 := ad 2 2 rfl (by decide)
      have a3 := ad 3 3 rfl (by decide)
      have a4 := ad 4 4 rfl (by decide)
      have a5 := ad 5 5 rfl (by decide)
      have a6 := ad 6 6 rfl (by decide)
      obtain ⟨s2, k1, k2⟩ := law_step hac (xs := xs) (n := n) h e (i_in.mpr (by omega)) (i_in.mpr (by omega)) (i_in.mpr (by omega)) (i_in.mpr (by omega)) (i_in.mpr (by omega)) (i_in.mpr (by omega))
      rw [k2]
      exact ih n (v3 + 6) s2 k1 (by omega) (by omega) (by omega) (by omega)
theorem pure_of (hac : ∀ (a : Int32) (s : zz_S), iv s → ag iv (f_B_across a s) (f_M_across a)) {L : Nat} {xs : Nat → Int32} (hL : L ≤ 384) (s : zz_S) : ∃ s2, f_Law_law_L18 L xs zF 0 (zg_142 s) = some (1, s2) :=
  law_run hac hL 64 zF 0 (zg_142 s) (iv_first s) (by decide) (by rw [show (0 : Int32).toInt = 0 from rfl]; omega) (by decide) (by unfold zF; omega)
