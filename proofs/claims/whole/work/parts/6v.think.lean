theorem mor_loop (a told w : Int32) {s r0 : zz_S} {S C W T ka : Nat} (ha : a.toInt = ka) (hka : ka < C) (hto : -99 ≤ told.toInt ∧ told.toInt ≤ 99) (hb : nB s r0 S C W T) (hl : nL s r0 (s.1 0 12)) (hp : plOK s r0 2 S W) (hr : r0.1 79 38 = 0 ∧ r0.1 79 51 = -1 ∧ r0.1 79 36 = s.1 0 12) :
    ∀ (q j n n2 : Nat) (v4 v5 u4 u5 v6 : Int32) (c r : zz_S), j + q = S → v6.toInt = j → q < n → q < n2 → (∀ x : Int32, x = -1 → oF s r0 c (zz_w r 79 51 x)) → ((j = 0 ∧ 0 < q ∧ u4 = -1) ∨ (0 < j ∧ v4 = u4 ∧ v5 = u5 ∧ 0 ≤ v4.toInt)) →
      ∃ v c2 r2, f_B_morning_L56 n a told w v4 v5 v6 c = some (v, c2) ∧ f_M_morning_L49 n2 a told w u4 u5 v6 r = some (v, r2) ∧ oF s r0 c2 r2 := by
  have l0 : (0 : Int32).toInt = 0 := rfl
  have hS := hb.1.2.1.1
  have hS6 := hb.1.2.1.2
  have hC3 := hb.1.2.2.1.2
  intro q
  induction q with
  | zero =>
    intro j n n2 v4 v5 u4 u5 v6 c r hj hv hn hn2 hF hst
    obtain ⟨n, rfl⟩ : ∃ x, n = x + 1 := ⟨n - 1, by omega⟩
    obtain ⟨n2, rfl⟩ : ∃ x, n2 = x + 1 := ⟨n2 - 1, by omega⟩
    have hF0 := hF (-1) rfl
    have t1 : c.1 1 1 ≤ v6 := by rw [i_le, (oF_0 hF0).2]; omega
    have t2 : r.1 79 2 ≤ v6 := by
      have := hF0.2.2.1 2 (by decide)
      rw [w79, if_neg (by decide)] at this
      rw [this, hb.1.2.2.2.1.2.1, i_le]; omega
    rcases hst with ⟨_, h, _⟩ | ⟨_, rfl, rfl, _⟩
    · omega
    · rw [f_B_morning_L56, if_pos t1, f_M_morning_L49, if_pos t2]
      by_cases e : w = 0
      · rw [if_pos e, if_pos e]; exact ⟨_, _, _, rfl, rfl, hF (-1) rfl⟩
      · rw [if_neg e, if_neg e]; exact ⟨_, _, _, rfl, rfl, hF (-1) rfl⟩
  | succ q ih =>
    intro j n n2 v4 v5 u4 u5 v6 c r hj hv hn hn2 hF hst
    obtain ⟨n, rfl⟩ : ∃ x, n = x + 1 := ⟨n - 1, by omega⟩
    obtain ⟨n2, rfl⟩ : ∃ x, n2 = x + 1 := ⟨n2 - 1, by omega⟩
    have hv1 := i_inc (a := v6) (by omega)
    have hF0 := hF (-1) rfl
    have t1 : ¬ c.1 1 1 ≤ v6 := by rw [i_le, (oF_0 hF0).2]; omega
    have t2 : ¬ r.1 79 2 ≤ v6 := by
      have := hF0.2.2.1 2 (by decide)
      rw [w79, if_neg (by decide)] at this
      rw [this, hb.1.2.2.2.1.2.1, i_le]; omega
    have hb1 := nB_ref (k := 51) v6 (oF_nB hF0 hb) (Or.inr (Or.inl rfl))
    have hl1 := nL_ref (k := 51) v6 (oF_nL hF0 hl)
    have hp1 := pl_ref (k := 51) v6 (oF_pl hF0 hp)
    rw [zz_ww] at hb1 hl1 hp1
    obtain ⟨z0, z1⟩ := oF_0 hF0
    have k38 : (zz_w r 79 51 v6).1 79 38 = 0 := by
      have := hF0.2.2.1 38 (by decide)
      rw [w79, if_neg (by decide)] at this ⊢
      rw [this]; exact hr.1
    have k36 : (zz_w r 79 51 v6).1 79 36 = c.1 0 12 := by
      have := hF0.2.2.1 36 (by decide)
      rw [w79, if_neg (by decide)] at this ⊢
      rw [this, z0]; exact hr.2.2
    obtain ⟨c1, e1, ⟨e2, e3⟩, e4⟩ := night_of (l := c.1 0 12) (v := 0) (o := v6) hb1 (by rw [z0]; exact hl1) hp1 k36 ⟨k38, by decide, by decide⟩ ⟨by rw [w79, if_pos rfl], by omega, by omega⟩ (show (479 : Int32).toInt = (479 : Nat) from rfl) (by omega)
    obtain ⟨c2, r2, m1, m2, m3, m4⟩ := e4 (zz_w c1 20 14 v6) (fun a ha => by rw [w_row, if_neg ha]) (fun k _ h1 => by rw [w_get, if_pos rfl, if_neg h1]) (by rw [w_get, if_pos rfl, if_neg (by decide)]; exact e2) (by rw [w_get, if_pos rfl, if_pos rfl]) rfl
    have hF2 : ∀ x : Int32, x = -1 → oF s r0 c2 (zz_w r2 79 51 x) := fun x hx => by
      refine oF_tr hF0 ?_
      rw [← zz_ww r 79 51 (-1) v6] at m4
      exact oF_ref m4 (by decide) (by omega) x (by rw [w79, if_pos rfl, hx])
    obtain ⟨y1, ⟨y2, y2'⟩, -⟩ := m3.2.2.2.2.1.2.1 ka hka
    have z3 : zz_in a 3 = true := i_in.mpr (by omega)
    have s1 := i_sub (a := c2.1 36 ka) (b := told) (by omega) (by omega)
    obtain ⟨s2, s3⟩ := abs_of (c2.1 36 ka - told) (by omega)
    rw [f_B_morning_L56, if_neg t1, e1, Option.bind_some, m1, Option.bind_some, if_pos z3, nz_eq ha, s2, f_M_morning_L49, if_neg t2, m2, Option.bind_some, if_pos z3, nz_eq ha, y1]
    generalize f_M_sizeOf (c2.1 36 ka - told) = off at *
    unfold f_M_morning_J99 f_B_morning_J136
    rcases hst with ⟨hj0, -, h4⟩ | ⟨hj0, rfl, rfl, h4⟩
    · have d1 : v6 = 0 := i_lit (b := 0) (by rw [hv, hj0]; rfl)
      have d2 : u4 < 0 := by rw [h4]; decide
      rw [if_pos d1, if_pos d2]
      exact ih (j + 1) n n2 v6 off v6 off (v6 + 1) c2 r2 (by omega) (by omega) (by omega) (by omega) hF2 (Or.inr ⟨by omega, rfl, rfl, by omega⟩)
    · have d2 : ¬ v4 < 0 := by rw [i_lt, l0]; omega
      have d0 : ¬ v6 = 0 := fun e => by rw [e, l0] at hv; omega
      rw [if_neg d0, if_neg d2]
      by_cases d : v5 ≤ off
      · rw [if_pos d, if_neg (by rw [i_lt]; rw [i_le] at d; omega)]
        exact ih (j + 1) n n2 v4 v5 v4 v5 (v6 + 1) c2 r2 (by omega) (by omega) (by omega) (by omega) hF2 (Or.inr ⟨by omega, rfl, rfl, h4⟩)
      · rw [if_neg d, if_pos (by rw [i_lt]; rw [i_le] at d; omega)]
        exact ih (j + 1) n n2 v6 off v6 off (v6 + 1) c2 r2 (by omega) (by omega) (by omega) (by omega) hF2 (Or.inr ⟨by omega, rfl, rfl, by omega⟩)
theorem p_morning (a told w : Int32) {s : zz_S} (h : iv s) : ag iv (f_B_morning a told w s) (f_M_morning a told w) := by
  have l0 : (0 : Int32).toInt = 0 := rfl
  have l1 : (1 : Int32).toInt = 1 := rfl
  have l99 : (99 : Int32).toInt = 99 := rfl
  have lm99 : (-99 : Int32).toInt = -99 := rfl
  refine lock (s := s) fun r hr => ?_
  obtain ⟨S, C, W, T, hb, hS, hC, hp, hL, ⟨h38, h51, h36, h35⟩, ⟨i1, i2, i3⟩⟩ := iv_nB h hr
  have hCr : (r.1 79 7).toInt = C := by rw [hb.1.2.2.2.1.2.2]; exact hC
  have hSr : r.1 79 2 = s.1 1 1 := hb.1.2.2.2.1.2.1
  unfold f_B_morning f_M_morning
  by_cases c1 : 0 ≤ a.toInt ∧ a.toInt < C
  · rw [if_neg (fun q => (has_c hC a).mp q c1), if_neg (fun q => (his_c hCr a).mp q c1)]
    by_cases c2 : -99 ≤ told.toInt ∧ told.toInt ≤ 99
    · have n1 : ¬ f_M_in told (-99) 99 = 0 := fun q => (M_in0 _ _ _).mp q (by rw [l99, lm99]; exact c2)
      rw [if_neg (by rw [i_lt, lm99]; omega), if_neg (by rw [i_lt, l99]; omega), if_neg n1]
      by_cases c3 : 0 ≤ w.toInt ∧ w.toInt ≤ 1
      · have n3 : ¬ f_M_in w 0 1 = 0 := fun q => (in_of (n := 1) rfl).mp q c3
        rw [if_neg (by rw [i_lt, l0]; omega), if_pos (by rw [i_le, l1]; omega), if_neg n3, hSr]
        by_cases z : s.1 1 1 = 0
        · rw [if_pos z, if_pos z]; exact same_of h hr _
        · rw [if_neg z, if_neg z]
          have hS0 : 0 < S := by
            rcases Nat.eq_zero_or_pos S with q | q
            · exact absurd (i_lit (b := 0) (by rw [hS, q]; rfl)) z
            · exact q
          have hS6 := hb.1.2.1.2
          obtain ⟨v, x2, r2, k1, k2, k3⟩ := mor_loop a told w (ka := a.toInt.toNat) (by omega) (by omega) c2 hb (hL _ i1 i2) hp ⟨h38, h51, h36⟩ S 0 zF zF 0 0 (-1) 0 0 s r (by omega) rfl (by unfold zF; omega) (by unfold zF; omega) (fun x hx => by
            rw [zz_wid (x := x) (by rw [hx, h51])]
            exact oF_me s r) (Or.inl ⟨rfl, hS0, rfl⟩)
          obtain ⟨g1, g2, g3⟩ := oF_iv h hr k3
          exact ⟨v, x2, r2, k1, k2, g1, g2, g3⟩
      · have n3 : f_M_in w 0 1 = 0 := (in_of (n := 1) rfl).mpr c3
        rw [if_pos n3]
        by_cases n1 : w < 0
        · rw [if_pos n1]; exact same_of h hr _
        · rw [if_neg n1, if_neg (by rw [i_le, l1]; rw [i_lt, l0] at n1; omega)]; exact same_of h hr _
    · have n1 : f_M_in told (-99) 99 = 0 := (M_in0 _ _ _).mpr (by rw [l99, lm99]; exact c2)
      rw [if_pos n1]
      by_cases n2 : told < -99
      · rw [if_pos n2]; exact same_of h hr _
      · rw [if_neg n2, if_pos (by rw [i_lt, l99]; rw [i_lt, lm99] at n2; omega)]; exact same_of h hr _
  · rw [if_pos ((has_c hC a).mpr c1), if_pos ((his_c hCr a).mpr c1)]
    exact same_of h hr _
