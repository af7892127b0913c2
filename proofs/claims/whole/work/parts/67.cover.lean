/-! the night: how many cells are covered, by the reference -/
theorem co_in {r : zz_S} {C B : Nat} (K9 : Int32 → Int32 → Int32 → Option Int32) (hC : (r.1 79 7).toInt = C) (hC3 : C ≤ 3) (hB : B ≤ 1000000000) (hl : ∀ k, k < C → (-(B : Int) ≤ (r.1 104 k).toInt ∧ (r.1 104 k).toInt ≤ B) ∧ 0 ≤ (r.1 85 k).toInt ∧ (r.1 85 k).toInt ≤ 80) (v1 v2 v3 : Int32) :
    ∀ (m j n : Nat) (v4 v5 : Int32), j + m = C → v5.toInt = j → m < n → v4 = (if cvr (r.1 104) (r.1 85) j v3.toInt = true then 1 else 0) → f_M_coveredOf_L32 K9 r n v1 v2 v3 v4 v5 = K9 v1 (if cvr (r.1 104) (r.1 85) C v3.toInt = true then v2 + 1 else v2) (v3 + 1) := by
  intro m
  induction m with
  | zero =>
    intro j n v4 v5 hj hv hn h4
    obtain ⟨n, rfl⟩ : ∃ k, n = k + 1 := ⟨n - 1, by omega⟩
    have : j = C := by omega
    subst this
    rw [f_M_coveredOf_L32, if_pos (by rw [i_le]; omega), h4]
    by_cases q : cvr (r.1 104) (r.1 85) j v3.toInt = true
    · rw [if_pos q, if_pos q, if_neg (by decide)]
    · rw [if_neg q, if_neg q, if_pos rfl]
  | succ m ih =>
    intro j n v4 v5 hj hv hn h4
    obtain ⟨n, rfl⟩ : ∃ k, n = k + 1 := ⟨n - 1, by omega⟩
    have hv1 := i_inc (a := v5) (by omega)
    have hb := hl j (by omega)
    have ha := i_add (a := r.1 104 j) (b := r.1 85 j) (by omega) (by omega)
    rw [f_M_coveredOf_L32, if_neg (by rw [i_le]; omega), if_pos (i_in.mpr (by omega)), nz_eq hv]
    have step : cvr (r.1 104) (r.1 85) (j + 1) v3.toInt = (cvr (r.1 104) (r.1 85) j v3.toInt || decide ((r.1 104 j).toInt ≤ v3.toInt ∧ v3.toInt < (r.1 104 j).toInt + (r.1 85 j).toInt)) := rfl
    by_cases q1 : v3 < r.1 104 j
    · rw [if_pos q1]
      rw [i_lt] at q1
      refine ih (j + 1) n v4 (v5 + 1) (by omega) (by omega) (by omega) ?_
      rw [step, decide_eq_false (by omega), Bool.or_false]
      exact h4
    · rw [if_neg q1]
      rw [i_lt] at q1
      by_cases q2 : r.1 104 j + r.1 85 j ≤ v3
      · rw [if_pos q2]
        rw [i_le] at q2
        refine ih (j + 1) n v4 (v5 + 1) (by omega) (by omega) (by omega) ?_
        rw [step, decide_eq_false (by omega), Bool.or_false]
        exact h4
      · rw [if_neg q2]
        rw [i_le] at q2
        refine ih (j + 1) n 1 (v5 + 1) (by omega) (by omega) (by omega) ?_
        rw [step, decide_eq_true (by omega), Bool.or_true]
        rfl
theorem nI_inc {n : Nat} : nI n + 1 = nI (n + 1) := by
  show Int32.ofNat n + Int32.ofNat 1 = Int32.ofNat (n + 1)
  rw [Int32.ofNat_add]
theorem co_out {r : zz_S} {C B p b i : Nat} (i' : Int32) (hi' : i'.toInt = i) (hi6 : i < 6) (hC : (r.1 79 7).toInt = C) (hC3 : C ≤ 3) (hB : B ≤ 1000000000) (hl : ∀ k, k < C → (-(B : Int) ≤ (r.1 104 k).toInt ∧ (r.1 104 k).toInt ≤ B) ∧ 0 ≤ (r.1 85 k).toInt ∧ (r.1 85 k).toInt ≤ 80) (hp : (r.1 103 i).toInt = p) (hb : (r.1 81 i).toInt = b) (hpb : p + b ≤ 1000) :
    ∀ (m j n : Nat) (v2 v3 : Int32), j + m = b → v3.toInt = (p + j : Nat) → m < n → v2 = nI (ct (fun k => cvr (r.1 104) (r.1 85) C ((p : Int) + k)) j) → f_M_coveredOf_L9 r n i' v2 v3 = some (nI (ct (fun k => cvr (r.1 104) (r.1 85) C ((p : Int) + k)) b)) := by
  have ha := i_add (a := r.1 103 i) (b := r.1 81 i) (by omega) (by omega)
  intro m
  induction m with
  | zero =>
    intro j n v2 v3 hj hv hn h2
    obtain ⟨n, rfl⟩ : ∃ k, n = k + 1 := ⟨n - 1, by omega⟩
    have : j = b := by omega
    subst this
    rw [f_M_coveredOf_L9, if_pos (i_in.mpr (by omega)), nz_eq hi', if_pos (by rw [i_le]; omega), h2]
  | succ m ih =>
    intro j n v2 v3 hj hv hn h2
    obtain ⟨n, rfl⟩ : ∃ k, n = k + 1 := ⟨n - 1, by omega⟩
    have hv1 := i_inc (a := v3) (by omega)
    rw [f_M_coveredOf_L9, if_pos (i_in.mpr (by omega)), nz_eq hi', if_neg (by rw [i_le]; omega), co_in (f_M_coveredOf_L9 r n) hC hC3 hB hl i' v2 v3 C 0 zF 0 0 (by omega) rfl (by unfold zF; omega) rfl]
    refine ih (j + 1) n _ (v3 + 1) (by omega) (by omega) (by omega) ?_
    show _ = nI (ct (fun k => cvr (r.1 104) (r.1 85) C ((p : Int) + k)) j + (if cvr (r.1 104) (r.1 85) C ((p : Int) + j) = true then 1 else 0))
    rw [hv, show ((p + j : Nat) : Int) = (p : Int) + j by omega, h2]
    by_cases q : cvr (r.1 104) (r.1 85) C ((p : Int) + j) = true
    · rw [if_pos q, if_pos q, nI_inc]
    · rw [if_neg q, if_neg q]; rfl
theorem co_ref {c r : zz_S} {S C W B i : Nat} {i' : Int32} (hs : nS c r S C W) (hq : ∀ k, k < C → r.1 104 k = c.1 36 k ∧ -(B : Int) ≤ (c.1 36 k).toInt ∧ (c.1 36 k).toInt ≤ B) (hi : i < S) (hi' : i'.toInt = i) (hp : r.1 103 i = c.1 33 i ∧ 0 ≤ (c.1 33 i).toInt ∧ (c.1 33 i).toInt + (c.1 3 i).toInt ≤ W) (hB : B ≤ 1000000000) :
    f_M_coveredOf i' r = some (nI (cvN (c.1 36) (c.1 7) C (c.1 33 i) (c.1 3 i))) := by
  obtain ⟨⟨s1, s2, s3⟩, ⟨s4, s5⟩, ⟨s6, s7⟩, ⟨-, -, r7⟩, ⟨r81, -, -, r85, -, -⟩, s8, s9⟩ := hs
  obtain ⟨p0, p1, p2⟩ := hp
  have b := s8 i hi
  have h := co_out (r := r) (C := C) (B := B) (p := (c.1 33 i).toInt.toNat) (b := (c.1 3 i).toInt.toNat) (i := i) i' hi' (by omega) (by rw [r7]; exact s6) s7 hB (fun k hk => by
    have := hq k hk
    have w := s9 k hk
    rw [this.1, r85]
    omega) (by rw [p0]; omega) (by rw [r81]; omega) (by omega) (c.1 3 i).toInt.toNat 0 zF 0 (r.1 103 i) (by omega) (by rw [p0]; omega) (by unfold zF; omega) rfl
  unfold f_M_coveredOf
  rw [if_pos (i_in.mpr (by omega)), nz_eq hi', h]
  congr 2
  unfold cvN
  refine ct_same _ fun k _ => ?_
  rw [show (((c.1 33 i).toInt.toNat : Nat) : Int) = (c.1 33 i).toInt by omega]
  exact cvr_same _ fun k hk => ⟨(hq k hk).1, by rw [r85]⟩
/-- how many were covered, ahead of a turn -/
theorem was_loop {c r0 : zz_S} {S C W B : Nat} (hs : nS c r0 S C W) (hq : ∀ k, k < C → r0.1 104 k = c.1 36 k ∧ -(B : Int) ≤ (c.1 36 k).toInt ∧ (c.1 36 k).toInt ≤ B) (hp : ∀ i, i < S → r0.1 103 i = c.1 33 i ∧ 0 ≤ (c.1 33 i).toInt ∧ (c.1 33 i).toInt + (c.1 3 i).toInt ≤ W) (hB : B ≤ 1000000000) (v1 v2 v3 v4 v5 : Int32) :
    ∀ (m j n : Nat) (v6 : Int32) (r : zz_S), j + m = S → v6.toInt = j → m < n → (∀ i, i < j → r.1 114 i = nI (cvN (c.1 36) (c.1 7) C (c.1 33 i) (c.1 3 i))) → (∀ o, o ≠ 114 → r.1 o = r0.1 o) → r.2 = r0.2 →
      ∃ r2 : zz_S, f_M_turnNow_L41 n v1 v2 v3 v4 v5 v6 r = f_M_turnNow_L72 zF v1 v2 v3 v4 v5 0 r2 ∧ (∀ i, i < S → r2.1 114 i = nI (cvN (c.1 36) (c.1 7) C (c.1 33 i) (c.1 3 i))) ∧ (∀ o, o ≠ 114 → r2.1 o = r0.1 o) ∧ r2.2 = r0.2 := by
  have hs' := hs
  obtain ⟨⟨s1, s2, s3⟩, ⟨s4, s5⟩, ⟨s6, s7⟩, ⟨-, r2', r7⟩, ⟨r81, r82, r83, r85, r86, r87⟩, s8, s9⟩ := hs
  intro m
  induction m with
  | zero =>
    intro j n v6 r hj hv hn h1 h2 h3
    obtain ⟨n, rfl⟩ : ∃ k, n = k + 1 := ⟨n - 1, by omega⟩
    exact ⟨r, by rw [f_M_turnNow_L41, if_pos (by rw [i_le, h2 79 (by decide), r2']; omega)], fun i hi => h1 i (by omega), h2, h3⟩
  | succ m ih =>
    intro j n v6 r hj hv hn h1 h2 h3
    obtain ⟨n, rfl⟩ : ∃ k, n = k + 1 := ⟨n - 1, by omega⟩
    have hv1 := i_inc (a := v6) (by omega)
    have hsr : nS c r S C W := by
      refine ⟨⟨s1, s2, s3⟩, ⟨s4, s5⟩, ⟨s6, s7⟩, ?_, ?_, s8, s9⟩
      · rw [h2 79 (by decide)]; exact hs'.2.2.2.1
      · rw [h2 81 (by decide), h2 82 (by decide), h2 83 (by decide), h2 85 (by decide), h2 86 (by decide), h2 87 (by decide)]; exact hs'.2.2.2.2.1
    have e := co_ref hsr (fun k hk => by rw [h2 104 (by decide)]; exact hq k hk) (show j < S by omega) hv (by rw [h2 103 (by decide)]; exact hp j (by omega)) hB
    rw [f_M_turnNow_L41, if_neg (by rw [i_le, h2 79 (by decide), r2']; omega), e, Option.bind_some, if_pos (i_in.mpr (by omega)), nz_eq hv]
    refine ih (j + 1) n (v6 + 1) _ (by omega) (by omega) (by omega) (fun i hi => ?_) (fun o ho => by rw [w_row, if_neg ho, h2 o ho]) h3
    by_cases q : i = j
    · subst q; simp [w_get]
    · simp only [w_get, if_true, if_neg q]
      exact h1 i (by omega)
