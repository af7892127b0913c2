theorem bro_loop (a m : Int32) {s r0 : zz_S} {S C W T ka : Nat} (ha : a.toInt = ka) (hka : ka < C) (hm : 0 ≤ m.toInt ∧ m.toInt ≤ 479) (hb : nB s r0 S C W T) (hl : nL s r0 (s.1 0 12)) (hp : plOK s r0 2 S W) (hr : r0.1 79 38 = 0 ∧ r0.1 79 51 = -1 ∧ r0.1 79 36 = s.1 0 12) :
    ∀ (q n n2 : Nat) (v4 v5 : Int32) (c r : zz_S), v5.toInt + q = 81 → 5 ≤ v5.toInt → q < n → q < n2 → oX 7 85 ka s r0 c r → (v4 = -2 ∨ 0 ≤ v4.toInt) →
      ∃ v c2 r2, f_B_broad_L37 n a m (s.1 7 ka) v4 v5 c = some (v, c2) ∧ f_M_broad_L31 n2 a m (s.1 7 ka) v4 v5 r = some (v, r2) ∧ oF s r0 c2 r2 := by
  have l80 : (80 : Int32).toInt = 80 := rfl
  have l0 : (0 : Int32).toInt = 0 := rfl
  have hC3 := hb.1.2.2.1.2
  have hS6 := hb.1.2.1.2
  have z3 : zz_in a 3 = true := i_in.mpr (by omega)
  have k7 : r0.1 85 = s.1 7 := hb.1.2.2.2.2.1.2.2.2.1
  -- the end
  have fin : ∀ (v4 : Int32) (c r : zz_S), oX 7 85 ka s r0 c r → ∃ v c2 r2, f_B_broad_J90 a (s.1 7 ka) v4 c = some (v, c2) ∧ f_M_broad_J73 a (s.1 7 ka) v4 r = some (v, r2) ∧ oF s r0 c2 r2 := by
    intro v4 c r hX
    unfold f_B_broad_J90 f_M_broad_J73
    rw [if_pos z3, if_pos z3, nz_eq ha]
    have := oX_back (by decide) (by omega) hX
    rw [k7] at this
    exact ⟨_, _, _, rfl, rfl, this⟩
  intro q
  induction q with
  | zero =>
    intro n n2 v4 v5 c r hv h5 hn hn2 hX h4
    obtain ⟨n, rfl⟩ : ∃ x, n = x + 1 := ⟨n - 1, by omega⟩
    obtain ⟨n2, rfl⟩ : ∃ x, n2 = x + 1 := ⟨n2 - 1, by omega⟩
    have t : (80 : Int32) < v5 := by rw [i_lt, l80]; omega
    rw [f_B_broad_L37, if_pos t, f_M_broad_L31, if_pos t]
    exact fin v4 c r hX
  | succ q ih =>
    intro n n2 v4 v5 c r hv h5 hn hn2 hX h4
    obtain ⟨n, rfl⟩ : ∃ x, n = x + 1 := ⟨n - 1, by omega⟩
    obtain ⟨n2, rfl⟩ : ∃ x, n2 = x + 1 := ⟨n2 - 1, by omega⟩
    have t : ¬ (80 : Int32) < v5 := by rw [i_lt, l80]; omega
    have hv1 := i_inc (a := v5) (by omega)
    rw [f_B_broad_L37, if_neg t, f_M_broad_L31, if_neg t]
    rcases h4 with h4 | h4
    · have n0 : ¬ (0 : Int32) ≤ v4 := by rw [h4]; decide
      obtain ⟨c2, r2, k1, k2, k3, k4⟩ := thought (p := 7) (p' := 85) (k := ka) (v := v5) (Or.inl ⟨rfl, rfl⟩) hb hl hp hr hX ⟨fun _ => ⟨h5, by omega⟩, fun q => absurd q (by decide)⟩ (show m.toInt = (m.toInt.toNat : Nat) by omega) (by omega)
      obtain ⟨b, b1, b2⟩ := bare_loop k3.1 k3.2.2.2.2.1 (by omega) S 0 zF zF 0 (by omega) rfl (by unfold zF; omega) (by unfold zF; omega)
      have e1 : f_Lie_isNoneBare c2 = some (if b = true then 0 else 1) := b1
      have e2 : f_M_isSomeBare r2 = some (if b = true then 1 else 0) := b2
      rw [if_pos h4, if_pos z3, nz_eq ha, k1, Option.bind_some, e1, Option.bind_some, if_neg n0, if_pos z3, k2, Option.bind_some, e2, Option.bind_some]
      cases b with
      | true =>
        simp only [if_true]
        rw [if_neg one_ne]
        exact ih n n2 v4 (v5 + 1) c2 r2 (by omega) (by omega) (by omega) (by omega) k4 (Or.inl h4)
      | false =>
        simp only [Bool.false_eq_true, if_false, if_true]
        rw [if_neg one_ne]
        exact ih n n2 v5 (v5 + 1) c2 r2 (by omega) (by omega) (by omega) (by omega) k4 (Or.inr (by omega))
    · have n0 : (0 : Int32) ≤ v4 := by rw [i_le, l0]; exact h4
      have n1 : ¬ v4 = -2 := fun q => by rw [q] at h4; exact absurd h4 (by decide)
      rw [if_neg n1, if_pos n0]
      exact fin v4 c r hX
theorem p_broad (a m : Int32) {s : zz_S} (h : iv s) : ag iv (f_B_broad a m s) (f_M_broad a m) := by
  refine lock (s := s) fun r hr => ?_
  obtain ⟨S, C, W, T, hb, hS, hC, hp, hL, ⟨h38, h51, h36, h35⟩, ⟨i1, i2, i3⟩⟩ := iv_nB h hr
  have hCr : (r.1 79 7).toInt = C := by rw [hb.1.2.2.2.1.2.2]; exact hC
  unfold f_B_broad f_M_broad
  by_cases c1 : 0 ≤ a.toInt ∧ a.toInt < C
  · rw [if_neg (fun q => (has_c hC a).mp q c1), if_neg (fun q => (his_c hCr a).mp q c1)]
    by_cases c2 : 0 ≤ m.toInt ∧ m.toInt ≤ 479
    · rw [if_neg (fun q => (is_m m).1.mp q c2), if_neg (fun q => (is_m m).2.mp q c2)]
      have hC3 := hb.1.2.2.1.2
      have z : zz_in a 3 = true := i_in.mpr (by omega)
      have k7 : r.1 85 = s.1 7 := hb.1.2.2.2.2.1.2.2.2.1
      rw [if_pos z, if_pos z, show a.toNatClampNeg = a.toInt.toNat from rfl, k7]
      obtain ⟨v, x2, r2, k1, k2, k3⟩ := bro_loop a m (ka := a.toInt.toNat) (by omega) (by omega) c2 hb (hL _ i1 i2) hp ⟨h38, h51, h36⟩ 76 zF zF (-2) 5 s r (by decide) (by decide) (by unfold zF; omega) (by unfold zF; omega) (oX_of _ _ _ (by decide) (by omega) (oF_me s r)) (Or.inl rfl)
      obtain ⟨g1, g2, g3⟩ := oF_iv h hr k3
      exact ⟨v, x2, r2, k1, k2, g1, g2, g3⟩
    · rw [if_pos ((is_m m).1.mpr c2), if_pos ((is_m m).2.mpr c2)]
      exact same_of h hr _
  · rw [if_pos ((has_c hC a).mpr c1), if_pos ((his_c hCr a).mpr c1)]
    exact same_of h hr _
theorem tuc_loop (a w : Int32) {s r0 : zz_S} {S C W T ka : Nat} (ha : a.toInt = ka) (hka : ka < C) (hb : nB s r0 S C W T) (hl : nL s r0 (s.1 0 12)) (hp : plOK s r0 2 S W) (hr : r0.1 79 38 = 0 ∧ r0.1 79 51 = -1 ∧ r0.1 79 36 = s.1 0 12) :
    ∀ (q n n2 : Nat) (v4 v5 u4 u5 v6 : Int32) (c r : zz_S), v6.toInt + q = 10 → 0 ≤ v6.toInt → q < n → q < n2 → oX 9 87 ka s r0 c r → ((0 < q ∧ v5 = -1 ∧ u4 = -1) ∨ (v4 = u4 ∧ v5 = u5 ∧ 0 ≤ v4.toInt)) →
      ∃ v c2 r2, f_B_tucked_L41 n a w (s.1 9 ka) v4 v5 v6 c = some (v, c2) ∧ f_M_tucked_L35 n2 a w (s.1 9 ka) u4 u5 v6 r = some (v, r2) ∧ oF s r0 c2 r2 := by
  have l9 : (9 : Int32).toInt = 9 := rfl
  have l0 : (0 : Int32).toInt = 0 := rfl
  have hC3 := hb.1.2.2.1.2
  have z3 : zz_in a 3 = true := i_in.mpr (by omega)
  have k9 : r0.1 87 = s.1 9 := hb.1.2.2.2.2.1.2.2.2.2.2
  intro q
  induction q with
  | zero =>
    intro n n2 v4 v5 u4 u5 v6 c r hv h6 hn hn2 hX hst
    obtain ⟨n, rfl⟩ : ∃ x, n = x + 1 := ⟨n - 1, by omega⟩
    obtain ⟨n2, rfl⟩ : ∃ x, n2 = x + 1 := ⟨n2 - 1, by omega⟩
    have t : (9 : Int32) < v6 := by rw [i_lt, l9]; omega
    rcases hst with ⟨h, _⟩ | ⟨rfl, rfl, _⟩
    · omega
    · have := oX_back (by decide) (by omega) hX
      rw [k9] at this
      rw [f_B_tucked_L41, if_pos t, if_pos z3, f_M_tucked_L35, if_pos t, if_pos z3, nz_eq ha]
      by_cases e : w = 0
      · rw [if_pos e, if_pos e]; exact ⟨_, _, _, rfl, rfl, this⟩
      · rw [if_neg e, if_neg e]; exact ⟨_, _, _, rfl, rfl, this⟩
  | succ q ih =>
    intro n n2 v4 v5 u4 u5 v6 c r hv h6 hn hn2 hX hst
    obtain ⟨n, rfl⟩ : ∃ x, n = x + 1 := ⟨n - 1, by omega⟩
    obtain ⟨n2, rfl⟩ : ∃ x, n2 = x + 1 := ⟨n2 - 1, by omega⟩
    have t : ¬ (9 : Int32) < v6 := by rw [i_lt, l9]; omega
    have hv1 := i_inc (a := v6) (by omega)
    obtain ⟨c2, r2, k1, k2, k3, k4⟩ := thought (p := 9) (p' := 87) (k := ka) (v := v6) (last' := 479) (last := 479) (Or.inr ⟨rfl, rfl⟩) hb hl hp hr hX ⟨fun q => absurd q (by decide), fun _ => ⟨h6, by omega⟩⟩ rfl (by omega)
    obtain ⟨e, y1, y2, y3⟩ := easy_all k3
    have em : f_M_easyOfAll (zz_w r 87 ka v6) = some (e, r2) := by
      unfold f_M_easyOfAll
      rw [k2, Option.bind_some, y2]
    rw [f_B_tucked_L41, if_neg t, if_pos z3, nz_eq ha, k1, Option.bind_some, y1, Option.bind_some, f_M_tucked_L35, if_neg t, if_pos z3, nz_eq ha, em, Option.bind_some]
    simp only
    unfold f_M_tucked_J71
    rcases hst with ⟨-, h5, h4⟩ | ⟨rfl, rfl, h4⟩
    · have d1 : ¬ e ≤ v5 := by rw [h5, i_le, show (-1 : Int32).toInt = -1 from rfl]; omega
      have d2 : u4 < 0 := by rw [h4]; decide
      rw [if_neg d1, if_pos d2]
      exact ih n n2 v6 e v6 e (v6 + 1) c2 r2 (by omega) (by omega) (by omega) (by omega) k4 (Or.inr ⟨rfl, rfl, h6⟩)
    · have d2 : ¬ v4 < 0 := by rw [i_lt, l0]; omega
      rw [if_neg d2]
      by_cases d : e ≤ v5
      · rw [if_pos d, if_neg (by rw [i_lt]; rw [i_le] at d; omega)]
        exact ih n n2 v4 v5 v4 v5 (v6 + 1) c2 r2 (by omega) (by omega) (by omega) (by omega) k4 (Or.inr ⟨rfl, rfl, h4⟩)
      · rw [if_neg d, if_pos (by rw [i_lt]; rw [i_le] at d; omega)]
        exact ih n n2 v6 e v6 e (v6 + 1) c2 r2 (by omega) (by omega) (by omega) (by omega) k4 (Or.inr ⟨rfl, rfl, h6⟩)
theorem p_tucked (a w : Int32) {s : zz_S} (h : iv s) : ag iv (f_B_tucked a w s) (f_M_tucked a w) := by
  have l0 : (0 : Int32).toInt = 0 := rfl
  have l1 : (1 : Int32).toInt = 1 := rfl
  refine lock (s := s) fun r hr => ?_
  obtain ⟨S, C, W, T, hb, hS, hC, hp, hL, ⟨h38, h51, h36, h35⟩, ⟨i1, i2, i3⟩⟩ := iv_nB h hr
  have hCr : (r.1 79 7).toInt = C := by rw [hb.1.2.2.2.1.2.2]; exact hC
  unfold f_B_tucked f_M_tucked
  by_cases c1 : 0 ≤ a.toInt ∧ a.toInt < C
  · rw [if_neg (fun q => (has_c hC a).mp q c1), if_neg (fun q => (his_c hCr a).mp q c1)]
    by_cases c2 : 0 ≤ w.toInt ∧ w.toInt ≤ 1
    · have n3 : ¬ f_M_in w 0 1 = 0 := fun q => (in_of (n := 1) rfl).mp q c2
      have hC3 := hb.1.2.2.1.2
      have z : zz_in a 3 = true := i_in.mpr (by omega)
      have k9 : r.1 87 = s.1 9 := hb.1.2.2.2.2.1.2.2.2.2.2
      rw [if_neg (by rw [i_lt, l0]; omega), if_pos (by rw [i_le, l1]; omega), if_neg n3, if_pos z, if_pos z, show a.toNatClampNeg = a.toInt.toNat from rfl, k9]
      obtain ⟨v, x2, r2, k1, k2, k3⟩ := tuc_loop a w (ka := a.toInt.toNat) (by omega) (by omega) hb (hL _ i1 i2) hp ⟨h38, h51, h36⟩ 10 zF zF 0 (-1) (-1) 0 0 s r (by decide) (by decide) (by unfold zF; omega) (by unfold zF; omega) (oX_of _ _ _ (by decide) (by omega) (oF_me s r)) (Or.inl ⟨by decide, rfl, rfl⟩)
      obtain ⟨g1, g2, g3⟩ := oF_iv h hr k3
      exact ⟨v, x2, r2, k1, k2, g1, g2, g3⟩
    · have n3 : f_M_in w 0 1 = 0 := (in_of (n := 1) rfl).mpr c2
      rw [if_pos n3]
      by_cases n1 : w < 0
      · rw [if_pos n1]; exact same_of h hr _
      · rw [if_neg n1, if_neg (by rw [i_le, l1]; rw [i_lt, l0] at n1; omega)]; exact same_of h hr _
  · rw [if_pos ((has_c hC a).mpr c1), if_pos ((his_c hCr a).mpr c1)]
    exact same_of h hr _
