/-! to the next order: of row 53 alone -/
def r53 (S : Nat) (s t : zz_S) : Prop := ∀ i, i < S → s.1 53 i = t.1 53 i
def f53 (s s' : zz_S) : Prop := (∀ o, o ≠ 53 → s'.1 o = s.1 o) ∧ s'.2 = s.2
theorem f53_tr {s s' s'' : zz_S} (h : f53 s s') (k : f53 s' s'') : f53 s s'' := ⟨fun o ho => (k.1 o ho).trans (h.1 o ho), k.2.trans h.2⟩
theorem lm1 : (-1 : Int32).toInt = -1 := rfl
theorem sw_loc {S : Nat} {s t t' : zz_S} {a b : Int32} (h : r53 S s t) (ha : a.toInt < S) (hb : b.toInt < S) (e : f_B_swapInOrder a b t = some t') : ∃ s', f_B_swapInOrder a b s = some s' ∧ r53 S s' t' ∧ f53 s s' := by
  unfold f_B_swapInOrder at e ⊢
  by_cases z1 : zz_in a 6 = true
  · by_cases z2 : zz_in b 6 = true
    · rw [if_pos z1, if_pos z2] at e ⊢
      obtain rfl := Option.some.inj e
      have i1 := i_in.mp z1
      have i2 := i_in.mp z2
      have ka : a.toNatClampNeg < S := by rw [i_nat]; omega
      have kb : b.toNatClampNeg < S := by rw [i_nat]; omega
      refine ⟨_, rfl, fun i hi => ?_, fun o ho => ?_, rfl⟩
      · simp only [w_get, if_true]
        rw [h _ ka, h _ kb, h i hi]
      · rw [w_row, if_neg ho, w_row, if_neg ho]
    · rw [if_pos z1, if_neg z2] at e
      cases e
  · rw [if_neg z1] at e
    cases e
theorem l83_loc {S : Nat} : ∀ (n : Nat) (v4 v5 : Int32) (s t : zz_S) (b : Int32) (t' : zz_S), r53 S s t → v5.toInt < S → f_B_goToNextOrder_L83 n v4 v5 t = some (b, t') → ∃ s', f_B_goToNextOrder_L83 n v4 v5 s = some (b, s') ∧ r53 S s' t' ∧ f53 s s' := by
  intro n
  induction n with
  | zero => intro v4 v5 s t b t' h h5 e; cases e
  | succ n ih =>
    intro v4 v5 s t b t' h h5 e
    rw [f_B_goToNextOrder_L83] at e ⊢
    by_cases c : v5 ≤ v4
    · rw [if_pos c] at e ⊢
      obtain ⟨rfl, rfl⟩ := Prod.mk.inj (Option.some.inj e)
      exact ⟨s, rfl, h, fun _ _ => rfl, rfl⟩
    · rw [if_neg c] at e ⊢
      rw [i_le] at c
      have := i_lo v4
      have hd := i_add (a := v5) (b := -1) (by rw [lm1]; omega) (by rw [lm1]; have := i_hi v5; omega)
      rw [lm1] at hd
      cases e1 : f_B_swapInOrder v4 v5 t with
      | none => rw [e1] at e; cases e
      | some t1 =>
        rw [e1, Option.bind_some] at e
        obtain ⟨s1, g1, g2, g3⟩ := sw_loc h (by omega) h5 e1
        obtain ⟨s2, k1, k2, k3⟩ := ih _ _ s1 t1 b t' g2 (by omega) e
        rw [g1, Option.bind_some]
        exact ⟨s2, k1, k2, f53_tr g3 k3⟩
theorem j67_loc {S : Nat} {v1 v2 v3 b : Int32} {s t t' : zz_S} (h : r53 S s t) (h1 : v1.toInt = S) (h2 : v2.toInt < S) (h3 : v3.toInt < S) (e : f_B_goToNextOrder_J67 v1 v2 v3 t = some (b, t')) : ∃ s', f_B_goToNextOrder_J67 v1 v2 v3 s = some (b, s') ∧ r53 S s' t' ∧ f53 s s' := by
  unfold f_B_goToNextOrder_J67 at e ⊢
  have hd := i_dec (a := v1) (by omega)
  cases e1 : f_B_swapInOrder v2 v3 t with
  | none => rw [e1] at e; cases e
  | some t1 =>
    rw [e1, Option.bind_some] at e
    obtain ⟨s1, g1, g2, g3⟩ := sw_loc h h2 h3 e1
    obtain ⟨s2, k1, k2, k3⟩ := l83_loc _ _ _ s1 t1 b t' g2 (by omega) e
    rw [g1, Option.bind_some]
    exact ⟨s2, k1, k2, f53_tr g3 k3⟩
theorem l41_loc {S : Nat} {v1 v2 : Int32} (h1 : v1.toInt = S) (h2 : v2.toInt < S) : ∀ (n : Nat) (v3 : Int32) (s t : zz_S) (b : Int32) (t' : zz_S), r53 S s t → v3.toInt < S → f_B_goToNextOrder_L41 n v1 v2 v3 t = some (b, t') → ∃ s', f_B_goToNextOrder_L41 n v1 v2 v3 s = some (b, s') ∧ r53 S s' t' ∧ f53 s s' := by
  intro n
  induction n with
  | zero => intro v3 s t b t' h h3 e; cases e
  | succ n ih =>
    intro v3 s t b t' h h3 e
    rw [f_B_goToNextOrder_L41] at e ⊢
    by_cases c : v3 ≤ v2
    · rw [if_pos c] at e ⊢
      exact j67_loc h h1 h2 h3 e
    · rw [if_neg c] at e ⊢
      rw [i_le] at c
      have := i_lo v2
      have hd := i_add (a := v3) (b := -1) (by rw [lm1]; omega) (by rw [lm1]; have := i_hi v3; omega)
      rw [lm1] at hd
      by_cases z1 : zz_in v3 6 = true
      · by_cases z2 : zz_in v2 6 = true
        · rw [if_pos z1, if_pos z2] at e ⊢
          have i1 := i_in.mp z1
          have i2 := i_in.mp z2
          rw [h v2.toNatClampNeg (by rw [i_nat]; omega), h v3.toNatClampNeg (by rw [i_nat]; omega)]
          by_cases d : t.1 53 v2.toNatClampNeg ≤ t.1 53 v3.toNatClampNeg
          · rw [if_pos d] at e ⊢
            exact j67_loc h h1 h2 h3 e
          · rw [if_neg d] at e ⊢
            exact ih _ s t b t' h (by omega) e
        · rw [if_pos z1, if_neg z2] at e
          cases e
      · rw [if_neg z1] at e
        cases e
theorem j31_loc {S : Nat} {v1 v2 b : Int32} {s t t' : zz_S} (h : r53 S s t) (h1 : v1.toInt = S) (h2 : v2.toInt < S) (e : f_B_goToNextOrder_J31 v1 v2 t = some (b, t')) : ∃ s', f_B_goToNextOrder_J31 v1 v2 s = some (b, s') ∧ r53 S s' t' ∧ f53 s s' := by
  unfold f_B_goToNextOrder_J31 at e ⊢
  have hd := i_dec (a := v1) (by omega)
  by_cases c : 0 ≤ v2
  · rw [if_pos c] at e ⊢
    exact l41_loc h1 h2 _ _ s t b t' h (by omega) e
  · rw [if_neg c] at e ⊢
    obtain ⟨rfl, rfl⟩ := Prod.mk.inj (Option.some.inj e)
    exact ⟨s, rfl, h, fun _ _ => rfl, rfl⟩
theorem l4_loc {S : Nat} {v1 : Int32} (h1 : v1.toInt = S) : ∀ (n : Nat) (v2 : Int32) (s t : zz_S) (b : Int32) (t' : zz_S), r53 S s t → v2.toInt + 1 < S → f_B_goToNextOrder_L4 n v1 v2 t = some (b, t') → ∃ s', f_B_goToNextOrder_L4 n v1 v2 s = some (b, s') ∧ r53 S s' t' ∧ f53 s s' := by
  intro n
  induction n with
  | zero => intro v2 s t b t' h h2 e; cases e
  | succ n ih =>
    intro v2 s t b t' h h2 e
    rw [f_B_goToNextOrder_L4] at e ⊢
    by_cases c : v2 < 0
    · rw [if_pos c] at e ⊢
      exact j31_loc h h1 (by omega) e
    · rw [if_neg c] at e ⊢
      rw [i_lt, show (0 : Int32).toInt = 0 from rfl] at c
      have hd := i_add (a := v2) (b := -1) (by rw [lm1]; omega) (by rw [lm1]; have := i_hi v2; omega)
      rw [lm1] at hd
      by_cases z1 : zz_in v2 6 = true
      · by_cases z2 : zz_in (v2 + 1) 6 = true
        · rw [if_pos z1, if_pos z2] at e ⊢
          have i1 := i_in.mp z1
          have hi := i_inc (a := v2) (by omega)
          rw [h v2.toNatClampNeg (by rw [i_nat]; omega), h (v2 + 1).toNatClampNeg (by rw [i_nat, hi]; omega)]
          by_cases d : t.1 53 v2.toNatClampNeg ≤ t.1 53 (v2 + 1).toNatClampNeg
          · rw [if_pos d] at e ⊢
            exact j31_loc h h1 (by omega) e
          · rw [if_neg d] at e ⊢
            exact ih _ s t b t' h (by omega) e
        · rw [if_pos z1, if_neg z2] at e
          cases e
      · rw [if_neg z1] at e
        cases e
theorem go_loc {S : Nat} (hS : S ≤ 6) (hS0 : 0 < S) {s t t' : zz_S} {b : Int32} (h : r53 S s t) (e : f_B_goToNextOrder (nI S) t = some (b, t')) : ∃ s', f_B_goToNextOrder (nI S) s = some (b, s') ∧ r53 S s' t' ∧ f53 s s' := by
  unfold f_B_goToNextOrder at e ⊢
  have h1 := nI_int (n := S) (by omega)
  have l2 : (2 : Int32).toInt = 2 := rfl
  have hd := i_sub (a := nI S) (b := 2) (by rw [l2]; omega) (by rw [l2]; omega)
  rw [l2] at hd
  exact l4_loc h1 _ _ s t b t' h (by omega) e
theorem same_at {S N : Nat} {u : Nat → Int32} : ∀ m, same S N u m = true → ∀ i, i < m → u i = nI (dg S N i) := by
  intro m
  induction m with
  | zero => intro _ i hi; omega
  | succ m ih =>
    intro h i hi
    rw [same] at h
    by_cases c : u m = nI (dg S N m)
    · rw [decide_eq_true c, cond_true] at h
      by_cases q : i = m
      · rw [q]; exact c
      · exact ih h i (by omega)
    · rw [decide_eq_false c, cond_false] at h
      cases h
/-- the class goes to the next order -/
theorem nx_of {S N P : Nat} (hS : S ≤ 6) (hS0 : 0 < S) (e : nx S N = some P) {s : zz_S} (h : ∀ i, i < S → s.1 53 i = nI (dg S N i)) : ∃ b s', f_B_goToNextOrder (nI S) s = some (b, s') ∧ f53 s s' ∧ ((b = 1 ∧ P < S ^ S ∧ ∀ i, i < S → s'.1 53 i = nI (dg S P i)) ∨ (b = 0 ∧ P = S ^ S)) := by
  unfold nx at e
  cases e1 : f_B_goToNextOrder (nI S) (zrow S N) with
  | none => rw [e1] at e; cases e
  | some q =>
    obtain ⟨b, t⟩ := q
    rw [e1] at e
    obtain ⟨s', g1, g2, g3⟩ := go_loc hS hS0 (s := s) (t := zrow S N) (fun i hi => h i hi) e1
    refine ⟨b, s', g1, g3, ?_⟩
    simp only at e
    by_cases c : b = 0
    · rw [if_pos c] at e
      exact Or.inr ⟨c, (Option.some.inj e).symm⟩
    · rw [if_neg c] at e
      by_cases d : (decide (b = 1) && Nat.blt (nmb S (t.1 53) S) (S ^ S) && same S (nmb S (t.1 53) S) (t.1 53) S) = true
      · rw [d, cond_true] at e
        obtain rfl := Option.some.inj e
        rw [Bool.and_eq_true, Bool.and_eq_true, decide_eq_true_iff] at d
        obtain ⟨⟨d1, d2⟩, d3⟩ := d
        refine Or.inl ⟨d1, ?_, fun i hi => ?_⟩
        · exact Nat.le_of_ble_eq_true d2
        · rw [g2 i hi]; exact same_at S d3 i hi
      · rw [Bool.not_eq_true] at d
        rw [d, cond_false] at e
        cases e
theorem anyd_of {S N i : Nat} : ∀ m, anyd S N i m = true → ∃ k, k < m ∧ dg S N k = i := by
  intro m
  induction m with
  | zero => intro h; cases h
  | succ m ih =>
    intro h
    rw [anyd] at h
    cases c : Nat.beq (dg S N m) i with
    | true => exact ⟨m, by omega, Nat.eq_of_beq_eq_true c⟩
    | false =>
      rw [c, cond_false] at h
      obtain ⟨k, hk, e⟩ := ih h
      exact ⟨k, by omega, e⟩
theorem sur_of {S N : Nat} : ∀ m, sur S N m = true → ∀ i, i < m → ∃ k, k < S ∧ dg S N k = i := by
  intro m
  induction m with
  | zero => intro _ i hi; omega
  | succ m ih =>
    intro h i hi
    rw [sur] at h
    cases c : anyd S N m S with
    | true =>
      rw [c, cond_true] at h
      by_cases q : i = m
      · rw [q]; exact anyd_of S c
      · exact ih h i (by omega)
    | false => rw [c, cond_false] at h; cases h
theorem wlk_yes {S q N P k : Nat} {z : Nat × Nat} (hd : dsn S N S 0 = true) (h : wlk S (q + 1) N P k = some z) : N = P ∧ k < 720 ∧ (∀ i, i < S → ∃ j, j < S ∧ dg S N j = i) ∧ ∃ P', nx S N = some P' ∧ wlk S q (N + 1) P' (k + 1) = some z := by
  rw [wlk, hd, cond_true] at h
  cases c : (Nat.beq N P && Nat.blt k 720 && sur S N S) with
  | false => rw [c, cond_false] at h; cases h
  | true =>
    rw [c, cond_true] at h
    rw [Bool.and_eq_true, Bool.and_eq_true] at c
    obtain ⟨⟨c1, c2⟩, c3⟩ := c
    cases e : nx S N with
    | none => rw [e] at h; cases h
    | some P' =>
      rw [e] at h
      exact ⟨Nat.eq_of_beq_eq_true c1, Nat.le_of_ble_eq_true c2, sur_of S c3, P', rfl, h⟩
theorem wlk_no {S q N P k : Nat} (hd : dsn S N S 0 = false) : wlk S (q + 1) N P k = wlk S q (N + 1) P k := by
  rw [wlk, hd, cond_false]
theorem wlk_add {S : Nat} : ∀ (a b N P k : Nat) (z : Nat × Nat), wlk S a N P k = some z → wlk S (b + a) N P k = wlk S b (N + a) z.1 z.2 := by
  intro a
  induction a with
  | zero =>
    intro b N P k z h
    obtain rfl := Option.some.inj h
    rfl
  | succ a ih =>
    intro b N P k z h
    cases hd : dsn S N S 0 with
    | false =>
      rw [wlk_no hd] at h
      rw [show b + (a + 1) = (b + a) + 1 from rfl, wlk_no hd, ih b _ _ _ z h, show N + 1 + a = N + (a + 1) by omega]
    | true =>
      obtain ⟨h1, h2, h3, P', h4, h5⟩ := wlk_yes hd h
      rw [show b + (a + 1) = (b + a) + 1 from rfl, wlk, hd, cond_true]
      have c : (Nat.beq N P && Nat.blt k 720 && sur S N S) = true := by
        rw [wlk, hd, cond_true] at h
        cases c : (Nat.beq N P && Nat.blt k 720 && sur S N S) with
        | false => rw [c, cond_false] at h; cases h
        | true => rfl
      rw [c, cond_true, h4]
      simp only
      rw [ih b _ _ _ z h5, show N + 1 + a = N + (a + 1) by omega]
