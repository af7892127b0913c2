/-! mend, undo, redo -/
def chgP (d : Nat) (f g : Nat → Int32) (x : Int32) : Prop := if d < 40 then g d = x ∧ ∀ k, k < d → g k = f k else g 39 = x ∧ ∀ k, k < 39 → g k = f (k + 1)
theorem cp_get (s : zz_S) (o a k : Nat) : (zz_copyiS s o o 1 0 39).1 a k = if a = o then (if k < 39 then s.1 o (k + 1) else s.1 o k) else s.1 a k := by
  show (if a = o then va_cpy (s.1 o) (s.1 o) (1 : Int32).toNatClampNeg (0 : Int32).toNatClampNeg (39 : Int32).toNatClampNeg else s.1 a) k = _
  by_cases h : a = o
  · rw [if_pos h, if_pos h]
    show (if 0 ≤ k ∧ k < 0 + 39 then s.1 o (1 + (k - 0)) else s.1 o k) = _
    by_cases hk : k < 39
    · rw [if_pos (by omega), if_pos hk, show 1 + (k - 0) = k + 1 by omega]
    · rw [if_neg (by omega), if_neg hk]
  · rw [if_neg h, if_neg h]
theorem cp_lng (s : zz_S) (o : Nat) (a b c : Int32) : (zz_copyiS s o o a b c).2 = s.2 := rfl
theorem chg_B (n w wa v : Int32) {s : zz_S} (h0 : 0 ≤ (s.1 39 0).toInt) (h4 : (s.1 39 0).toInt ≤ 40) : ∃ q, f_Changes_add n w wa v s = some q ∧ (∀ o, o < 39 ∨ 43 < o → q.1 o = s.1 o) ∧ q.2 = s.2 ∧
    chgP (s.1 39 0).toInt.toNat (s.1 40) (q.1 40) n ∧ chgP (s.1 39 0).toInt.toNat (s.1 41) (q.1 41) w ∧ chgP (s.1 39 0).toInt.toNat (s.1 42) (q.1 42) wa ∧ chgP (s.1 39 0).toInt.toNat (s.1 43) (q.1 43) v ∧
    (q.1 39 0).toInt = (if (s.1 39 0).toInt < 40 then (s.1 39 0).toInt + 1 else 40) ∧ q.1 39 1 = q.1 39 0 := by
  have e4 : (40 : Int32).toInt = 40 := rfl
  unfold f_Changes_add
  simp only [i_lt, e4]
  by_cases h : (s.1 39 0).toInt < 40
  · rw [if_pos h]
    unfold f_Changes_add_J13
    rw [if_pos (i_in.mpr (by omega))]
    have hinc := i_inc (a := s.1 39 0) (by omega)
    have hlt : (s.1 39 0).toInt.toNat < 40 := by omega
    refine ⟨_, rfl, fun o ho => ?_, rfl, ?_, ?_, ?_, ?_, ?_, ?_⟩
    · have h1 : ¬ o = 39 := by omega
      have h2 : ¬ o = 40 := by omega
      have h3 : ¬ o = 41 := by omega
      have h4 : ¬ o = 42 := by omega
      have h5 : ¬ o = 43 := by omega
      simp [w_row, h1, h2, h3, h4, h5]
    all_goals first
      | (unfold chgP; rw [if_pos hlt]; simp [w_get]; intro k hk hk2; exfalso; have : k < (s.1 39 0).toInt.toNat := hk; rw [hk2] at this; exact Nat.lt_irrefl _ this)
      | (simp [w_get, hinc, h])
  · rw [if_neg h]
    have hd : (s.1 39 0).toInt.toNat = 40 := by omega
    unfold f_Changes_forgetOldest
    show ∃ q, f_Changes_add_J13 n w wa v _ = some q ∧ _
    unfold f_Changes_add_J13
    rw [if_pos (by simp [w_get]; decide)]
    refine ⟨_, rfl, fun o ho => ?_, rfl, ?_, ?_, ?_, ?_, ?_, ?_⟩
    · have h1 : ¬ o = 39 := by omega
      have h2 : ¬ o = 40 := by omega
      have h3 : ¬ o = 41 := by omega
      have h4 : ¬ o = 42 := by omega
      have h5 : ¬ o = 43 := by omega
      funext k
      simp [w_get, cp_get, h1, h2, h3, h4, h5]
    iterate 4
      · unfold chgP
        rw [hd, if_neg (by decide)]
        refine ⟨by simp [w_get], fun k hk => ?_⟩
        have hk2 : ¬ k = 39 := by omega
        simp [w_get, cp_get, hk, hk2]
    · rw [if_neg h]
      simp [w_get]
    · simp [w_get]
/-- the reference's changes moved down, the first k of them -/
def mvS (s : zz_S) (k : Nat) : zz_S := (fun o j => if o = 91 ∨ o = 92 ∨ o = 93 ∨ o = 94 then (if j + 1 < k then s.1 o (j + 1) else s.1 o j) else s.1 o j, s.2)
theorem mvS_step (s : zz_S) (k : Nat) (hk : 1 ≤ k) : zz_w (zz_w (zz_w (zz_w (mvS s k) 91 (k - 1) (s.1 91 k)) 92 (k - 1) (s.1 92 k)) 93 (k - 1) (s.1 93 k)) 94 (k - 1) (s.1 94 k) = mvS s (k + 1) := by
  unfold zz_w mvS
  congr 1
  funext o j
  have key : ∀ x : Nat, o = x → (x = 91 ∨ x = 92 ∨ x = 93 ∨ x = 94) → (if j = k - 1 then s.1 x k else (if j + 1 < k then s.1 x (j + 1) else s.1 x j)) = (if j + 1 < k + 1 then s.1 x (j + 1) else s.1 x j) := by
    intro x _ _
    by_cases h1 : j = k - 1
    · rw [if_pos h1, if_pos (by omega), show j + 1 = k by omega]
    · rw [if_neg h1]
      by_cases h2 : j + 1 < k
      · rw [if_pos h2, if_pos (by omega)]
      · rw [if_neg h2, if_neg (by omega)]
  by_cases h1 : o = 94
  · simpa [h1] using key 94 h1 (by simp)
  · by_cases h2 : o = 93
    · simpa [h2] using key 93 h2 (by simp)
    · by_cases h3 : o = 92
      · simpa [h3] using key 92 h3 (by simp)
      · by_cases h4 : o = 91
        · simpa [h4] using key 91 h4 (by simp)
        · simp [h1, h2, h3, h4]
theorem mv_loop (v1 v2 v3 v4 : Int32) (s : zz_S) : ∀ (m n k : Nat), k + m = 40 → 1 ≤ k → m < n → f_M_changes_L34 n v1 v2 v3 v4 (nI k) (mvS s k) = f_M_changes_J121 v1 v2 v3 v4 (zz_w (mvS s 40) 79 16 ((s.1 79 16) - 1)) := by
  intro m
  induction m with
  | zero =>
    intro n k hk h1 hn
    obtain ⟨n, rfl⟩ : ∃ n', n = n' + 1 := ⟨n - 1, by omega⟩
    have hk : k = 40 := by omega
    subst hk
    rw [f_M_changes_L34, if_pos (by decide)]
    rfl
  | succ m ih =>
    intro n k hk h1 hn
    obtain ⟨n, rfl⟩ : ∃ n', n = n' + 1 := ⟨n - 1, by omega⟩
    have hkI := nI_toInt (n := k) (by omega)
    have hk1 : (nI k - 1) = nI (k - 1) := by
      obtain ⟨j, rfl⟩ : ∃ j, k = j + 1 := ⟨k - 1, by omega⟩
      exact nI_pred j
    have hkI1 := nI_toInt (n := k - 1) (by omega)
    rw [f_M_changes_L34, if_neg (by rw [i_le, hkI, show (40 : Int32).toInt = 40 from rfl]; omega), if_pos (i_in.mpr (by rw [hkI]; omega)), hk1, if_pos (i_in.mpr (by rw [hkI1]; omega)), nI_clamp (by omega), nI_clamp (by omega)]
    have e : ∀ o, o = 91 ∨ o = 92 ∨ o = 93 ∨ o = 94 → (mvS s k).1 o k = s.1 o k := by
      intro o ho
      show (if o = 91 ∨ o = 92 ∨ o = 93 ∨ o = 94 then _ else _) = _
      rw [if_pos ho, if_neg (by omega)]
    rw [e 91 (by simp), e 92 (by simp), e 93 (by simp), e 94 (by simp), mvS_step s k h1, nI_1]
    exact ih n (k + 1) (by omega) (by omega) (by omega)
theorem chg_M (w a v : Int32) {s : zz_S} (mid nb : Nat) (hmid : (mid < 91 ∧ ¬ mid = 79) ∨ 94 < mid) (hval : f_M_valueAt w a s = some (s.1 mid a.toInt.toNat)) (hlay : ∀ s', f_M_lays w a v s' = some (zz_w s' mid a.toInt.toNat v)) (h0 : 0 ≤ (s.1 79 16).toInt) (h4 : (s.1 79 16).toInt ≤ 40) (hne : ¬ s.1 mid a.toInt.toNat = v) :
    ∃ q, f_M_changes w a v s = some (s.1 mid a.toInt.toNat, q) ∧ (∀ o, (o < 79 ∨ (79 < o ∧ o < 91) ∨ 94 < o) → o ≠ mid → q.1 o = s.1 o) ∧ q.2 = s.2 ∧ (∀ k, k ≠ 16 → k ≠ 17 → q.1 79 k = s.1 79 k) ∧ q.1 mid = upd (s.1 mid) a.toInt.toNat v ∧
    chgP (s.1 79 16).toInt.toNat (s.1 92) (q.1 92) a ∧ chgP (s.1 79 16).toInt.toNat (s.1 91) (q.1 91) w ∧ chgP (s.1 79 16).toInt.toNat (s.1 93) (q.1 93) (s.1 mid a.toInt.toNat) ∧ chgP (s.1 79 16).toInt.toNat (s.1 94) (q.1 94) v ∧
    (q.1 79 16).toInt = (if (s.1 79 16).toInt < 40 then (s.1 79 16).toInt + 1 else 40) ∧ (q.1 79 17).toInt = 0 := by
  have e4 : (40 : Int32).toInt = 40 := rfl
  have hm1 : ¬ mid = 91 := by omega
  have hm2 : ¬ mid = 92 := by omega
  have hm3 : ¬ mid = 93 := by omega
  have hm4 : ¬ mid = 94 := by omega
  have hm5 : ¬ mid = 79 := by omega
  unfold f_M_changes
  simp only [hval, Option.bind_some, if_neg hne]
  by_cases h : (s.1 79 16).toInt < 40
  · rw [if_neg (by rw [i_eq, e4]; omega)]
    unfold f_M_changes_J121
    rw [if_pos (by rw [i_in]; simp [w_get]; omega), hlay]
    have hinc := i_inc (a := s.1 79 16) (by omega)
    have hlt : (s.1 79 16).toInt.toNat < 40 := by omega
    refine ⟨_, rfl, fun o ho hom => ?_, rfl, fun k h1 h2 => ?_, ?_, ?_, ?_, ?_, ?_, ?_, ?_⟩
    · have h1 : ¬ o = 79 := by omega
      have h2 : ¬ o = 91 := by omega
      have h3 : ¬ o = 92 := by omega
      have h4 : ¬ o = 93 := by omega
      have h5 : ¬ o = 94 := by omega
      simp [w_row, h1, h2, h3, h4, h5, hom]
    · simp [w_get, h1, h2, Ne.symm hm5]
    · simp [w_row, hm1, hm2, hm3, hm4, hm5]
    all_goals first
      | (unfold chgP; rw [if_pos hlt]; simp [w_get, Ne.symm hm1, Ne.symm hm2, Ne.symm hm3, Ne.symm hm4]; intro k hk hk2; exfalso; have : k < (s.1 79 16).toInt.toNat := hk; rw [hk2] at this; exact Nat.lt_irrefl _ this)
      | (simp [w_get, hinc, h, Ne.symm hm5]; done)
  · rw [if_pos (by rw [i_eq, e4]; omega)]
    have hd : (s.1 79 16).toInt.toNat = 40 := by omega
    have e1 : zz_w s 79 17 0 = mvS (zz_w s 79 17 0) 1 := by
      unfold mvS
      simp
    rw [e1, show (1 : Int32) = nI 1 from rfl, mv_loop w a v _ _ 39 zF 1 (by omega) (by omega) (by decide)]
    unfold f_M_changes_J121
    have h16 : s.1 79 16 = 40 := i_lit (by omega)
    have e39 : (zz_w s 79 17 0).1 79 16 - 1 = 39 := by simp [w_get, h16]
    rw [e39]
    have hmv : ∀ o k, (mvS (zz_w s 79 17 0) 40).1 o k = if o = 91 ∨ o = 92 ∨ o = 93 ∨ o = 94 then (if k + 1 < 40 then s.1 o (k + 1) else s.1 o k) else (zz_w s 79 17 0).1 o k := by
      intro o k
      unfold mvS
      by_cases ho : o = 91 ∨ o = 92 ∨ o = 93 ∨ o = 94
      · have : ¬ o = 79 := by omega
        simp [ho, w_get, this]
      · simp [ho]
    rw [if_pos (by simp [w_get]; decide), hlay]
    refine ⟨_, rfl, fun o ho hom => ?_, rfl, fun k h1 h2 => ?_, ?_, ?_, ?_, ?_, ?_, ?_, ?_⟩
    · have h1 : ¬ o = 79 := by omega
      have h2 : ¬ o = 91 := by omega
      have h3 : ¬ o = 92 := by omega
      have h4 : ¬ o = 93 := by omega
      have h5 : ¬ o = 94 := by omega
      funext k
      simp [w_get, hmv, h1, h2, h3, h4, h5, hom]
    · simp [w_get, hmv, h1, h2, Ne.symm hm5]
    · funext k
      simp [w_get, hmv, upd, hm1, hm2, hm3, hm4, hm5]
    iterate 4
      · unfold chgP
        rw [hd, if_neg (by decide)]
        refine ⟨by simp [w_get, hmv, Ne.symm hm1, Ne.symm hm2, Ne.symm hm3, Ne.symm hm4], fun k hk => ?_⟩
        have hk2 : ¬ k = 39 := by omega
        have hk3 : k + 1 < 40 := by omega
        simp [w_get, hmv, hk, hk2, Ne.symm hm1, Ne.symm hm2, Ne.symm hm3, Ne.symm hm4]
        intro h9
        exact absurd h9 (by omega)
    · rw [if_neg h]
      simp [w_get, Ne.symm hm5]
    · simp [w_get, hmv, Ne.symm hm5]
