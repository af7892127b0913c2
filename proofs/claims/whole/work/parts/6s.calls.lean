theorem in_of {a : Int32} {n : Nat} {k : Int32} (hk : k.toInt = n) : f_M_in a 0 k = 0 ↔ ¬ (0 ≤ a.toInt ∧ a.toInt ≤ n) := by
  rw [M_in0, hk, show (0 : Int32).toInt = 0 from rfl]
/-- nothing is done on either side -/
theorem same_of {s r : zz_S} (h : iv s) (hr : mix s r = s) (v : Int32) : ∃ w c2 r2, some (v, s) = some (w, c2) ∧ some (v, r) = some (w, r2) ∧ iv (mix c2 r2) ∧ rf s c2 ∧ cl r r2 := ⟨v, s, r, rfl, rfl, by rw [hr]; exact h, rf_me s, cl_me r⟩
theorem p_minutes (a w : Int32) {s : zz_S} (h : iv s) : ag iv (f_B_minutes a w s) (f_M_minutes a w) := by
  have l0 : (0 : Int32).toInt = 0 := rfl
  have l2 : (2 : Int32).toInt = 2 := rfl
  refine lock (s := s) fun r hr => ?_
  obtain ⟨S, C, W, T, hb, hS, hC, hp, hL, ⟨h38, h51, h36, h35⟩, ⟨i1, i2, i3⟩⟩ := iv_nB h hr
  have hSr : (r.1 79 2).toInt = S := by rw [hb.1.2.2.2.1.2.1]; exact hS
  unfold f_B_minutes f_M_minutes
  by_cases c1 : 0 ≤ a.toInt ∧ a.toInt < S
  · rw [if_neg (fun q => (has_s hS a).mp q c1), if_neg (fun q => (his_s hSr a).mp q c1)]
    by_cases c2 : 0 ≤ w.toInt ∧ w.toInt ≤ 2
    · have n1 : ¬ w < 0 := by rw [i_lt, l0]; omega
      have n2 : w ≤ 2 := by rw [i_le, l2]; omega
      have n3 : ¬ f_M_in w 0 2 = 0 := fun q => (in_of (n := 2) rfl).mp q c2
      rw [if_neg n1, if_pos n2, if_neg n3]
      obtain ⟨x2, r2, k1, k2, k3, k4⟩ := playTo_of (last := 479) hb (hL _ i1 i2) hp ⟨h38, h51, h36⟩ (show (479 : Int32).toInt = (479 : Nat) from rfl) (by omega)
      obtain ⟨g1, g2, g3⟩ := oF_iv h hr k4
      have hS6 := hb.1.2.1.2
      have z : zz_in a 6 = true := i_in.mpr (by omega)
      obtain ⟨y1, y2, y3, -⟩ := tRC.mp (k3.2.2.2.2.2.2.1 a.toInt.toNat (by omega)).1
      rw [k1, k2, Option.bind_some, Option.bind_some, if_pos z, if_pos z, if_pos z, if_pos z, if_pos z, if_pos z, show a.toNatClampNeg = a.toInt.toNat from rfl, i_lit y1, i_lit y2, i_lit y3]
      by_cases e0 : w = 0
      · rw [if_pos e0, if_pos e0]; exact ⟨_, x2, r2, rfl, rfl, g1, g2, g3⟩
      · rw [if_neg e0, if_neg e0]
        by_cases e1 : w = 1
        · rw [if_pos e1, if_pos e1]; exact ⟨_, x2, r2, rfl, rfl, g1, g2, g3⟩
        · rw [if_neg e1, if_neg e1]; exact ⟨_, x2, r2, rfl, rfl, g1, g2, g3⟩
    · have n3 : f_M_in w 0 2 = 0 := (in_of (n := 2) rfl).mpr c2
      rw [if_pos n3]
      by_cases n1 : w < 0
      · rw [if_pos n1]; exact same_of h hr _
      · rw [if_neg n1, if_neg (by rw [i_le, l2]; rw [i_lt, l0] at n1; omega)]; exact same_of h hr _
  · rw [if_pos ((has_s hS a).mpr c1), if_pos ((his_s hSr a).mpr c1)]
    exact same_of h hr _
theorem p_wakes (a w : Int32) {s : zz_S} (h : iv s) : ag iv (f_B_wakes a w s) (f_M_wakes a w) := by
  have l0 : (0 : Int32).toInt = 0 := rfl
  have l1 : (1 : Int32).toInt = 1 := rfl
  refine lock (s := s) fun r hr => ?_
  obtain ⟨S, C, W, T, hb, hS, hC, hp, hL, ⟨h38, h51, h36, h35⟩, ⟨i1, i2, i3⟩⟩ := iv_nB h hr
  have hSr : (r.1 79 2).toInt = S := by rw [hb.1.2.2.2.1.2.1]; exact hS
  unfold f_B_wakes f_M_wakes
  by_cases c1 : 0 ≤ a.toInt ∧ a.toInt < S
  · rw [if_neg (fun q => (has_s hS a).mp q c1), if_neg (fun q => (his_s hSr a).mp q c1)]
    by_cases c2 : 0 ≤ w.toInt ∧ w.toInt ≤ 1
    · have n1 : ¬ w < 0 := by rw [i_lt, l0]; omega
      have n2 : w ≤ 1 := by rw [i_le, l1]; omega
      have n3 : ¬ f_M_in w 0 1 = 0 := fun q => (in_of (n := 1) rfl).mp q c2
      rw [if_neg n1, if_pos n2, if_neg n3]
      obtain ⟨x2, r2, k1, k2, k3, k4⟩ := playTo_of (last := 479) hb (hL _ i1 i2) hp ⟨h38, h51, h36⟩ (show (479 : Int32).toInt = (479 : Nat) from rfl) (by omega)
      obtain ⟨g1, g2, g3⟩ := oF_iv h hr k4
      have hS6 := hb.1.2.1.2
      have z : zz_in a 6 = true := i_in.mpr (by omega)
      obtain ⟨-, -, -, -, y1, y2⟩ := tRC.mp (k3.2.2.2.2.2.2.1 a.toInt.toNat (by omega)).1
      rw [k1, k2, Option.bind_some, Option.bind_some, if_pos z, if_pos z, if_pos z, if_pos z, show a.toNatClampNeg = a.toInt.toNat from rfl, i_lit y1, i_lit y2]
      by_cases e0 : w = 0
      · rw [if_pos e0, if_pos e0]; exact ⟨_, x2, r2, rfl, rfl, g1, g2, g3⟩
      · rw [if_neg e0, if_neg e0]; exact ⟨_, x2, r2, rfl, rfl, g1, g2, g3⟩
    · have n3 : f_M_in w 0 1 = 0 := (in_of (n := 1) rfl).mpr c2
      rw [if_pos n3]
      by_cases n1 : w < 0
      · rw [if_pos n1]; exact same_of h hr _
      · rw [if_neg n1, if_neg (by rw [i_le, l1]; rw [i_lt, l0] at n1; omega)]; exact same_of h hr _
  · rw [if_pos ((has_s hS a).mpr c1), if_pos ((his_s hSr a).mpr c1)]
    exact same_of h hr _
theorem i_div10 {a : Int32} (h : 0 ≤ a.toInt) : (a / 10).toInt = a.toInt / 10 := by
  rw [Int32.toInt_div_of_ne_right _ _ (by decide), Int.tdiv_eq_ediv_of_nonneg h]
  rfl
theorem i_mod10 {a : Int32} (h : 0 ≤ a.toInt) : (a % 10).toInt = a.toInt % 10 := by
  rw [Int32.toInt_mod, Int.tmod_eq_emod_of_nonneg h]
  rfl
theorem p_took (a : Int32) {s : zz_S} (h : iv s) : ag iv (f_B_took a s) (f_M_took a) := by
  have l0 : (0 : Int32).toInt = 0 := rfl
  have l3 : (3 : Int32).toInt = 3 := rfl
  refine lock (s := s) fun r hr => ?_
  obtain ⟨S, C, W, T, hb, hS, hC, hp, hL, ⟨h38, h51, h36, h35⟩, ⟨i1, i2, i3⟩⟩ := iv_nB h hr
  have hSr : (r.1 79 2).toInt = S := by rw [hb.1.2.2.2.1.2.1]; exact hS
  have hCr : (r.1 79 7).toInt = C := by rw [hb.1.2.2.2.1.2.2]; exact hC
  unfold f_B_took f_M_took
  by_cases c0 : a < 0
  · rw [if_pos c0, if_pos c0]; exact same_of h hr _
  · rw [if_neg c0, if_neg c0]
    rw [i_lt, l0] at c0
    have d1 := i_div10 (a := a) (by omega)
    have d2 := i_mod10 (a := a) (by omega)
    by_cases c1 : 0 ≤ (a / 10).toInt ∧ (a / 10).toInt < S
    · rw [if_neg (fun q => (has_s hS _).mp q c1), if_neg (fun q => (his_s hSr _).mp q c1)]
      by_cases c2 : 0 ≤ (a % 10).toInt ∧ (a % 10).toInt < C
      · rw [if_neg (fun q => (has_c hC _).mp q c2), if_neg (fun q => (his_c hCr _).mp q c2)]
        obtain ⟨x2, r2, k1, k2, k3, k4⟩ := playTo_of (last := 479) hb (hL _ i1 i2) hp ⟨h38, h51, h36⟩ (show (479 : Int32).toInt = (479 : Nat) from rfl) (by omega)
        obtain ⟨g1, g2, g3⟩ := oF_iv h hr k4
        have hS6 := hb.1.2.1.2
        have hC3 := hb.1.2.2.1.2
        have m1 := i_mul (a := a / 10) (b := 3) (by rw [l3]; omega) (by rw [l3]; omega)
        rw [l3] at m1
        have m2 := i_add (a := a / 10 * 3) (b := a % 10) (by omega) (by omega)
        have hx : (a / 10 * 3 + a % 10).toInt = (((a / 10 * 3 + a % 10).toInt.toNat : Nat) : Int) := by omega
        have z : zz_in (a / 10 * 3 + a % 10) 18 = true := i_in.mpr (by omega)
        rw [k1, k2, Option.bind_some, Option.bind_some, Int32.mul_comm 3, if_pos z, if_pos z, nz_eq hx, k3.2.2.2.2.1.2.2.2.2.1 _ (by omega)]
        exact ⟨_, x2, r2, rfl, rfl, g1, g2, g3⟩
      · rw [if_pos ((has_c hC _).mpr c2), if_pos ((his_c hCr _).mpr c2)]
        exact same_of h hr _
    · rw [if_pos ((has_s hS _).mpr c1), if_pos ((his_s hSr _).mpr c1)]
      exact same_of h hr _
theorem p_sleeps (a m w : Int32) {s : zz_S} (h : iv s) : ag iv (f_B_sleeps a m w s) (f_M_sleeps a m w) := by
  have l0 : (0 : Int32).toInt = 0 := rfl
  have l3 : (3 : Int32).toInt = 3 := rfl
  have l5 : (5 : Int32).toInt = 5 := rfl
  refine lock (s := s) fun r hr => ?_
  obtain ⟨S, C, W, T, hb, hS, hC, hp, hL, ⟨h38, h51, h36, h35⟩, ⟨i1, i2, i3⟩⟩ := iv_nB h hr
  have hSr : (r.1 79 2).toInt = S := by rw [hb.1.2.2.2.1.2.1]; exact hS
  unfold f_B_sleeps f_M_sleeps
  by_cases c1 : 0 ≤ a.toInt ∧ a.toInt < S
  · rw [if_neg (fun q => (has_s hS a).mp q c1), if_neg (fun q => (his_s hSr a).mp q c1)]
    by_cases cm : 0 ≤ m.toInt ∧ m.toInt ≤ 479
    · rw [if_neg (fun q => (is_m m).1.mp q cm), if_neg (fun q => (is_m m).2.mp q cm)]
      by_cases c2 : 0 ≤ w.toInt ∧ w.toInt ≤ 3
      · have n1 : ¬ w < 0 := by rw [i_lt, l0]; omega
        have n2 : w ≤ 3 := by rw [i_le, l3]; omega
        have n3 : ¬ f_M_in w 0 3 = 0 := fun q => (in_of (n := 3) rfl).mp q c2
        rw [if_neg n1, if_pos n2, if_neg n3]
        have hmm : m.toInt = (m.toInt.toNat : Nat) := by omega
        obtain ⟨x2, r2, k1, k2, k3, k4⟩ := playTo_of (last := m.toInt.toNat) hb (hL _ i1 i2) hp ⟨h38, h51, h36⟩ hmm (by omega)
        have hS6 := hb.1.2.1.2
        have z : zz_in a 6 = true := i_in.mpr (by omega)
        have ha : a.toInt = (a.toInt.toNat : Nat) := by omega
        have hi : a.toInt.toNat < S := by omega
        obtain ⟨m1, m2, m3, m4, m5, m6, m7, m8⟩ := k3
        obtain ⟨dg, r3, d1, d2, ⟨d3, d3'⟩, d4, d5⟩ := dg_of m3 hmm (by omega)
        have hk : kF r2 r3 := ⟨fun o a b _ => d4 o a b, d5⟩
        have hP := kF_nP hk (m5.1 _ hi)
        have hQ := fun k hk' => kF_nQ hk (m5.2.1 k hk')
        have hv := m3.2.2
        obtain ⟨x, y1, y2⟩ := wr_of (dg := dg) (by omega) (kF_nS hk m1) hi ha hP hQ (by omega)
        have hF : oF s r x2 r3 := oF_tr k4 ⟨⟨fun _ _ _ _ _ _ => rfl, fun _ _ _ => rfl⟩, fun o h1 h2 => d4 o (by omega) (by omega), fun k _ => by rw [d4 79 (by decide) (by decide)], d5⟩
        obtain ⟨g1, g2, g3⟩ := oF_iv h hr hF
        have bw := wOwn_bd m1 hi
        have bs := m1.2.2.2.2.2.1 _ hi
        -- WARM by the class
        have w1 := i_add (a := x2.1 16 m.toInt.toNat) (b := x2.1 20 13) (by omega) (by omega)
        have w2 := i_add (a := x2.1 16 m.toInt.toNat + x2.1 20 13) (b := x2.1 35 a.toInt.toNat) (by have := m6 _ hi; omega) (by have := m6 _ hi; omega)
        have hwx : x2.1 16 m.toInt.toNat + x2.1 20 13 + x2.1 35 a.toInt.toNat = x := i_lit (by rw [w2, w1, m6 _ hi, y1, d2])
        have ew : f_Night_warmOf a m x2 = some x := by
          unfold f_Night_warmOf
          rw [if_pos (i_in.mpr (by omega)), if_pos z, nz_eq hmm, nz_eq ha, hwx]
        rw [k1, k2, Option.bind_some, Option.bind_some, ew, Option.bind_some, d1, Option.bind_some]
        simp only
        rw [y2, Option.bind_some, if_pos z, if_pos z, if_pos z, if_pos z, nz_eq ha]
        by_cases e0 : w = 0
        · rw [if_pos e0, if_pos e0, hP.1]
          exact ⟨_, x2, r3, rfl, rfl, g1, g2, g3⟩
        · rw [if_neg e0, if_neg e0]
          by_cases e1 : w = 1
          · rw [if_pos e1, if_pos e1, co_ref (B := 60 + 1200 * (m.toInt.toNat + 1)) (kF_nS hk m1) (fun k hk' => ⟨(hQ k hk').1, (hQ k hk').2.1⟩) hi ha ⟨hP.1, hP.2.1⟩ (by omega), m5.2.2.1 _ hi]
            exact ⟨_, x2, r3, rfl, rfl, g1, g2, g3⟩
          · rw [if_neg e1, if_neg e1]
            by_cases e2 : w = 2
            · rw [if_pos e2, if_pos e2]
              exact ⟨_, x2, r3, rfl, rfl, g1, g2, g3⟩
            · rw [if_neg e2, if_neg e2]
              have e82 : r3.1 82 a.toInt.toNat = x2.1 4 a.toInt.toNat := by rw [d4 82 (by decide) (by decide), m1.2.2.2.2.1.2.1]
              have s1 := i_sub (a := x2.1 4 a.toInt.toNat) (b := 5) (by rw [l5]; omega) (by rw [l5]; omega)
              have s2 := i_add (a := x2.1 4 a.toInt.toNat) (b := 5) (by rw [l5]; omega) (by rw [l5]; omega)
              rw [l5] at s1 s2
              have s3 := i_sub (a := x) (b := x2.1 4 a.toInt.toNat) (by omega) (by omega)
              have s4 := (abs_of (x - x2.1 4 a.toInt.toNat) (by omega)).2
              rw [e82]
              unfold f_Bed_isEasy
              rw [if_pos z, nz_eq ha]
              by_cases q1 : x < x2.1 4 a.toInt.toNat - 5
              · rw [if_pos q1, Option.bind_some, if_pos rfl]
                rw [i_lt] at q1
                rw [if_pos (by rw [i_lt, l5]; omega)]
                exact ⟨_, x2, r3, rfl, rfl, g1, g2, g3⟩
              · rw [if_neg q1]
                rw [i_lt] at q1
                by_cases q2 : x2.1 4 a.toInt.toNat + 5 < x
                · rw [if_pos q2, Option.bind_some, if_pos rfl]
                  rw [i_lt] at q2
                  rw [if_pos (by rw [i_lt, l5]; omega)]
                  exact ⟨_, x2, r3, rfl, rfl, g1, g2, g3⟩
                · rw [if_neg q2, Option.bind_some, if_neg one_ne]
                  rw [i_lt] at q2
                  rw [if_neg (by rw [i_lt, l5]; omega)]
                  exact ⟨_, x2, r3, rfl, rfl, g1, g2, g3⟩
      · have n3 : f_M_in w 0 3 = 0 := (in_of (n := 3) rfl).mpr c2
        rw [if_pos n3]
        by_cases n1 : w < 0
        · rw [if_pos n1]; exact same_of h hr _
        · rw [if_neg n1, if_neg (by rw [i_le, l3]; rw [i_lt, l0] at n1; omega)]; exact same_of h hr _
    · rw [if_pos ((is_m m).1.mpr cm), if_pos ((is_m m).2.mpr cm)]
      exact same_of h hr _
  · rw [if_pos ((has_s hS a).mpr c1), if_pos ((his_s hSr a).mpr c1)]
    exact same_of h hr _
