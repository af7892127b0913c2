/-! in thought: sums, least, bare -/
theorem bare_loop {c r : zz_S} {S C W B : Nat} (hs : nS c r S C W) (hD : nD c r S C W B) (hB : B ≤ 1000000000) : ∀ (q j n n2 : Nat) (v1 : Int32), j + q = S → v1.toInt = j → q < n → q < n2 → ∃ b : Bool, f_Lie_isNoneBare_L2 c n v1 = some (if b = true then 0 else 1) ∧ f_M_isSomeBare_L2 r n2 v1 = some (if b = true then 1 else 0) := by
  have hs' := hs
  obtain ⟨⟨s1, s2, s3⟩, ⟨s4, s5⟩, ⟨s6, s7⟩, ⟨rr1, rr2, r7⟩, ⟨r81, r82, r83, r85, r86, r87⟩, s8, s9⟩ := hs
  intro q
  induction q with
  | zero =>
    intro j n n2 v1 hj hv hn hn2
    obtain ⟨n, rfl⟩ : ∃ x, n = x + 1 := ⟨n - 1, by omega⟩
    obtain ⟨n2, rfl⟩ : ∃ x, n2 = x + 1 := ⟨n2 - 1, by omega⟩
    refine ⟨false, ?_, ?_⟩
    · rw [f_Lie_isNoneBare_L2, if_pos (by rw [i_le]; omega)]; rfl
    · rw [f_M_isSomeBare_L2, if_pos (by rw [i_le, rr2]; omega)]; rfl
  | succ q ih =>
    intro j n n2 v1 hj hv hn hn2
    obtain ⟨n, rfl⟩ : ∃ x, n = x + 1 := ⟨n - 1, by omega⟩
    obtain ⟨n2, rfl⟩ : ∃ x, n2 = x + 1 := ⟨n2 - 1, by omega⟩
    have hv1 := i_inc (a := v1) (by omega)
    have z : zz_in v1 6 = true := i_in.mpr (by omega)
    have hjS : j < S := by omega
    have hP := hD.1 j hjS
    have hco := co_ref (B := B) hs' (fun k hk => ⟨(hD.2.1 k hk).1, (hD.2.1 k hk).2.1⟩) hjS hv ⟨hP.1, hP.2.1⟩ hB
    rw [f_Lie_isNoneBare_L2, if_neg (by rw [i_le]; omega), f_M_isSomeBare_L2, if_neg (by rw [i_le, rr2]; omega), hco, Option.bind_some, if_pos z, nz_eq hv, r81, ← hD.2.2.1 j hjS]
    unfold f_Lie_isBare
    rw [if_pos z, nz_eq hv]
    by_cases e : c.1 3 j ≤ c.1 34 j
    · rw [if_pos e, if_pos e, Option.bind_some, if_pos rfl]
      exact ih (j + 1) n n2 (v1 + 1) (by omega) (by omega) (by omega) (by omega)
    · rw [if_neg e, if_neg e, Option.bind_some, if_neg one_ne]
      exact ⟨true, rfl, rfl⟩
theorem sum_loop {c r : zz_S} {S : Nat} (hS : (c.1 1 1).toInt = S) (hS6 : S ≤ 6) (hr2 : r.1 79 2 = c.1 1 1) (h : ∀ i, i < S → (r.1 107 i).toInt = (c.1 22 i).toInt ∧ 0 ≤ (c.1 22 i).toInt ∧ (c.1 22 i).toInt ≤ 480) : ∀ (q j n n2 : Nat) (v2 v3 : Int32), j + q = S → v3.toInt = j → q < n → q < n2 → 0 ≤ v2.toInt → v2.toInt ≤ 480 * j →
    ∃ e : Int32, f_Tally_easyOfAll_L4 c n (c.1 1 1) v2 v3 = some e ∧ f_M_easyOfAll_L11 n2 v2 v3 r = some (e, r) ∧ 0 ≤ e.toInt := by
  intro q
  induction q with
  | zero =>
    intro j n n2 v2 v3 hj hv hn hn2 h0 h1
    obtain ⟨n, rfl⟩ : ∃ x, n = x + 1 := ⟨n - 1, by omega⟩
    obtain ⟨n2, rfl⟩ : ∃ x, n2 = x + 1 := ⟨n2 - 1, by omega⟩
    refine ⟨v2, ?_, ?_, h0⟩
    · rw [f_Tally_easyOfAll_L4, if_pos (by rw [i_le]; omega)]
    · rw [f_M_easyOfAll_L11, if_pos (by rw [i_le, hr2]; omega)]
  | succ q ih =>
    intro j n n2 v2 v3 hj hv hn hn2 h0 h1
    obtain ⟨n, rfl⟩ : ∃ x, n = x + 1 := ⟨n - 1, by omega⟩
    obtain ⟨n2, rfl⟩ : ∃ x, n2 = x + 1 := ⟨n2 - 1, by omega⟩
    have hv1 := i_inc (a := v3) (by omega)
    have z : zz_in v3 6 = true := i_in.mpr (by omega)
    obtain ⟨e1, e2, e3⟩ := h j (by omega)
    have ha := i_add (a := v2) (b := c.1 22 j) (by omega) (by omega)
    rw [f_Tally_easyOfAll_L4, if_neg (by rw [i_le]; omega), if_pos z, nz_eq hv, f_M_easyOfAll_L11, if_neg (by rw [i_le, hr2]; omega), if_pos z, nz_eq hv, i_lit e1]
    exact ih (j + 1) n n2 _ (v3 + 1) (by omega) (by omega) (by omega) (by omega) (by omega) (by omega)
theorem least_loop {c r : zz_S} {S : Nat} (hS : (c.1 1 1).toInt = S) (hS6 : S ≤ 6) (hr2 : r.1 79 2 = c.1 1 1) (h : ∀ i, i < S → (r.1 107 i).toInt = (c.1 22 i).toInt ∧ 0 ≤ (c.1 22 i).toInt ∧ (c.1 22 i).toInt ≤ 480) : ∀ (q j n n2 : Nat) (v2 v3 : Int32), j + q = S → v3.toInt = j → q < n → q < n2 → 0 ≤ v2.toInt →
    ∃ e : Int32, f_Tally_leastEasy_L6 c n (c.1 1 1) v2 v3 = some e ∧ f_M_leastEasy_L16 n2 v2 v3 r = some (e, r) ∧ 0 ≤ e.toInt := by
  intro q
  induction q with
  | zero =>
    intro j n n2 v2 v3 hj hv hn hn2 h0
    obtain ⟨n, rfl⟩ : ∃ x, n = x + 1 := ⟨n - 1, by omega⟩
    obtain ⟨n2, rfl⟩ : ∃ x, n2 = x + 1 := ⟨n2 - 1, by omega⟩
    refine ⟨v2, ?_, ?_, h0⟩
    · rw [f_Tally_leastEasy_L6, if_pos (by rw [i_le]; omega)]
    · rw [f_M_leastEasy_L16, if_pos (by rw [i_le, hr2]; omega)]
  | succ q ih =>
    intro j n n2 v2 v3 hj hv hn hn2 h0
    obtain ⟨n, rfl⟩ : ∃ x, n = x + 1 := ⟨n - 1, by omega⟩
    obtain ⟨n2, rfl⟩ : ∃ x, n2 = x + 1 := ⟨n2 - 1, by omega⟩
    have hv1 := i_inc (a := v3) (by omega)
    have z : zz_in v3 6 = true := i_in.mpr (by omega)
    obtain ⟨e1, e2, e3⟩ := h j (by omega)
    rw [f_Tally_leastEasy_L6, if_neg (by rw [i_le]; omega), if_pos z, nz_eq hv, f_M_leastEasy_L16, if_neg (by rw [i_le, hr2]; omega), if_pos z, nz_eq hv, i_lit e1]
    unfold zz_min
    by_cases q1 : c.1 22 j < v2
    · rw [if_pos q1, if_neg (by rw [i_le]; rw [i_lt] at q1; omega)]
      exact ih (j + 1) n n2 _ (v3 + 1) (by omega) (by omega) (by omega) (by omega) e2
    · rw [if_neg q1, if_pos (by rw [i_le]; rw [i_lt] at q1; omega)]
      exact ih (j + 1) n n2 _ (v3 + 1) (by omega) (by omega) (by omega) (by omega) h0
theorem nM_easy {c r : zz_S} {S C W T : Nat} (h : nM c r S C W T 480) : ∀ i, i < S → (r.1 107 i).toInt = (c.1 22 i).toInt ∧ 0 ≤ (c.1 22 i).toInt ∧ (c.1 22 i).toInt ≤ 480 := fun i hi => by
  obtain ⟨h1, h2⟩ := h.2.2.2.2.2.2.1 i hi
  have h3 := (tRC.mp h1).1
  have h4 := (tOkC.mp h2).1
  exact ⟨h3, by omega, by omega⟩
theorem easy_all {c r : zz_S} {S C W T : Nat} (h : nM c r S C W T 480) : ∃ e : Int32, f_Tally_easyOfAll (c.1 1 1) c = some e ∧ f_M_easyOfAll_L11 zF 0 0 r = some (e, r) ∧ 0 ≤ e.toInt := by
  have hS6 := h.1.2.1.2
  exact sum_loop h.1.2.1.1 hS6 h.1.2.2.2.1.2.1 (nM_easy h) S 0 zF zF 0 0 (by omega) rfl (by unfold zF; omega) (by unfold zF; omega) (by decide) (by decide)
theorem least_all {c r : zz_S} {S C W T : Nat} (h : nM c r S C W T 480) (hS : 0 < S) : ∃ e : Int32, f_Tally_leastEasy (c.1 1 1) c = some e ∧ f_M_leastEasy_L16 zF (r.1 107 0) 1 r = some (e, r) ∧ 0 ≤ e.toInt := by
  have hS6 := h.1.2.1.2
  have he := nM_easy h
  obtain ⟨e1, e2, e3⟩ := he 0 hS
  obtain ⟨n, hn, hn3⟩ : ∃ n, zF = n + 1 ∧ 10 < n := ⟨99999, rfl, by decide⟩
  have hmin : zz_min 480 (c.1 22 0) = c.1 22 0 := i_lit (by rw [zmin_toInt, show (480 : Int32).toInt = 480 from rfl]; omega)
  have hk : (0 : Int32).toNatClampNeg = 0 := rfl
  obtain ⟨e, k1, k2, k3⟩ := least_loop h.1.2.1.1 hS6 h.1.2.2.2.1.2.1 he (S - 1) 1 n zF (c.1 22 0) (0 + 1) (by omega) (by decide) (by omega) (by unfold zF; omega) e2
  refine ⟨e, ?_, ?_, k3⟩
  · unfold f_Tally_leastEasy
    rw [hn, f_Tally_leastEasy_L6, if_neg (by rw [i_le, h.1.2.1.1, show (0 : Int32).toInt = 0 from rfl]; omega), if_pos (by decide), hk, hmin, k1]
  · rw [i_lit e1]
    exact k2
