theorem i_div1000 {a : Int32} (h : 0 ≤ a.toInt) : (a / 1000).toInt = a.toInt / 1000 := by
  rw [Int32.toInt_div_of_ne_right _ _ (by decide), Int.tdiv_eq_ediv_of_nonneg h]
  rfl
theorem i_mod1000 {a : Int32} (h : 0 ≤ a.toInt) : (a % 1000).toInt = a.toInt % 1000 := by
  rw [Int32.toInt_mod, Int.tmod_eq_emod_of_nonneg h]
  rfl
/-- a night by drawn turns -/
theorem drawn_night {c r : zz_S} {S C W T : Nat} {l d h : Int32} (hb : nB c r S C W T) (hl : nL c r l) (hp : plOK c r 2 S W) (h36 : r.1 79 36 = l) (hv : r.1 79 38 = 0) (ho : r.1 79 51 = -1) (hd : r.1 79 54 = d) (hh : 0 ≤ h.toInt) :
    ∃ c1 c2 r2, f_Night_begin l 2 c = some c1 ∧ f_Night_play 479 (f_Night_drawTurns d h c1) = some c2 ∧ f_M_drawnNight h r = some r2 ∧ nM c2 r2 S C W T 480 ∧ oF c r c2 r2 ∧ c2.1 20 15 = r2.1 79 54 := by
  obtain ⟨b1, b2, ⟨b3, b4, b5, b6⟩, b7⟩ := hb
  obtain ⟨c1, r1, e1, e2, e3, e4, e5, ⟨f10, f11, f12, f13, f14, f16, f15⟩, ⟨g1, g2⟩, g3, g4⟩ := begin_of l b1 b2 hp
  have hD1 : f_Night_drawTurns d h c1 = zz_w (zz_w c1 20 15 d) 20 16 h := rfl
  have h1 : ∀ a, a ≠ 20 → (zz_w (zz_w c1 20 15 d) 20 16 h).1 a = c1.1 a := fun a ha => by rw [w_row, if_neg ha, w_row, if_neg ha]
  have h2 : ∀ k, k ≠ 15 → k ≠ 16 → (zz_w (zz_w c1 20 15 d) 20 16 h).1 20 k = c1.1 20 k := fun k k1 k2 => by rw [w_get, if_pos rfl, if_neg k2, w_get, if_pos rfl, if_neg k1]
  have h15 : (zz_w (zz_w c1 20 15 d) 20 16 h).1 20 15 = d := by rw [w_get, if_pos rfl, if_neg (by decide), w_get, if_pos rfl, if_pos rfl]
  have h16 : (zz_w (zz_w c1 20 15 d) 20 16 h).1 20 16 = h := by rw [w_get, if_pos rfl, if_pos rfl]
  have h5 : (zz_w (zz_w c1 20 15 d) 20 16 h).2 = c1.2 := rfl
  generalize zz_w (zz_w c1 20 15 d) 20 16 h = c1' at *
  have r79 : r1.1 79 = r.1 79 := g3 79 (by omega) (by omega)
  have C1 : ∀ a, a < 20 ∨ 38 < a → c1'.1 a = c.1 a := fun a ha => (h1 a (by omega)).trans (g1 a ha)
  have R1 : ∀ a, a < 101 → r1.1 a = r.1 a := fun a ha => g3 a (by omega) (by omega)
  have hM : nM c1' r1 S C W T 0 := by
    refine ⟨nS_fr b1 (fun a _ _ => C1 a (by omega)) (fun k _ => by rw [r79]) (fun a _ _ => R1 a (by omega)), ?_, ?_, ?_, nD_fr e3 (fun a ha => h1 a (by omega)) h5 (fun _ _ => rfl), fun i hi => ?_, fun i hi => ?_, ?_⟩
    · obtain ⟨⟨l1, l2⟩, l3⟩ := hl
      unfold nW
      rw [h2 10 (by decide) (by decide), f10, r79, R1 96 (by decide), R1 97 (by decide), R1 98 (by decide), R1 99 (by decide), R1 100 (by decide)]
      refine ⟨h36, ⟨l1, l2⟩, fun h0 => ?_⟩
      rw [C1 (55 + 3 * l.toInt.toNat) (by omega), C1 (56 + 3 * l.toInt.toNat) (by omega)]
      exact l3 h0
    · unfold nR
      rw [C1 16 (by omega), C1 17 (by omega), C1 18 (by omega), h2 13 (by decide) (by decide), f13, r79, R1 96 (by decide), R1 97 (by decide), R1 98 (by decide), R1 99 (by decide), R1 100 (by decide)]
      exact ⟨b7, hv, by decide, by decide⟩
    · unfold nT
      rw [C1 10 (by omega), C1 11 (by omega), C1 12 (by omega), C1 13 (by omega), C1 14 (by omega), h2 14 (by decide) (by decide), f14, r79, R1 88 (by decide), R1 89 (by decide), R1 90 (by decide)]
      exact ⟨b3, b4, b5, b6, ho, by decide, by decide⟩
    · rw [h1 35 (by decide), e4 i hi]
      exact (wOwn_same fun a ha => h1 a (by omega)).symm
    · have : tC c1' i = tC c1 i := by
        unfold tC
        rw [h1 22 (by decide), h1 23 (by decide), h1 24 (by decide), h1 25 (by decide), h1 26 (by decide), h1 27 (by decide)]
      rw [this]
      exact e5 i hi
    · rw [h2 11 (by decide) (by decide), f11]; rfl
  obtain ⟨c2, r2, k1, k2, k3, k4, k5⟩ := play_drawn (h := h) hh 480 0 zF zF 0 0 c1' r1 (by omega) (by omega) hM h16 (by rw [h15, r79, hd]) rfl (by decide) (by decide) (by unfold zF; omega) (by unfold zF; omega)
  refine ⟨c1, c2, r2, e1, ?_, ?_, k4, ?_, k5⟩
  · rw [hD1]; exact k1
  · unfold f_M_drawnNight
    rw [e2, Option.bind_some, k2]
  · obtain ⟨⟨n1, n1', n2⟩, n3, n3', n4⟩ := k3
    exact ⟨⟨fun a ha h6 h7 h8 h9 => (n1 a ha h6 h7 h8 h9).trans (C1 a (by omega)), fun a h6 h7 => (n2 a h6 h7).trans (by rw [h5]; exact g2 a h6 h7)⟩, fun a h6 h7 => (n3 a h6 h7).trans (g3 a (by omega) (by omega)), fun k hk => (n3' k hk).trans (by rw [r79]), n4.trans g4⟩
theorem dw_loop {s r0 : zz_S} {S C W T ka : Nat} {a2 a3 a4 : Int32} (h0 : 0 ≤ a2.toInt) (hn1 : 1 ≤ a2.toInt / 1000) (ha : a3.toInt = ka) (hk : (a4 = 0 ∧ ka < S) ∨ (¬ a4 = 0 ∧ ka < C)) (hb : nB s r0 S C W T) (hl : nL s r0 (s.1 0 12)) (hp : plOK s r0 2 S W) (hr : r0.1 79 38 = 0 ∧ r0.1 79 51 = -1 ∧ r0.1 79 36 = s.1 0 12) :
    ∀ (q n n2 : Nat) (sum seed step : Int32) (c r : zz_S), step.toInt + q = a2.toInt / 1000 → 0 ≤ step.toInt → q < n → q < n2 → oF s r0 c r → r.1 79 54 = seed →
      ∃ v c2 r2, f_B_drawn_L95 n a3 a4 (a2 / 1000) (a2 % 1000) sum seed step c = some (v, c2) ∧ f_M_drawn_L76 n2 a2 a3 a4 sum step r = some (v, r2) ∧ oF s r0 c2 r2 := by
  have l0 : (0 : Int32).toInt = 0 := rfl
  have hd := i_div1000 h0
  have hm := i_mod1000 h0
  have nz : ¬ a2 / 1000 = 0 := fun q => by rw [q, l0] at hd; omega
  have hS6 := hb.1.2.1.2
  have hC3 := hb.1.2.2.1.2
  intro q
  induction q with
  | zero =>
    intro n n2 sum seed step c r hq hs hn hn2 hF hsd
    obtain ⟨n, rfl⟩ : ∃ x, n = x + 1 := ⟨n - 1, by omega⟩
    obtain ⟨n2, rfl⟩ : ∃ x, n2 = x + 1 := ⟨n2 - 1, by omega⟩
    have t : a2 / 1000 ≤ step := by rw [i_le, hd]; omega
    rw [f_B_drawn_L95, if_pos t, if_neg nz, f_M_drawn_L76, if_pos t, if_neg nz]
    exact ⟨_, c, r, rfl, rfl, hF⟩
  | succ q ih =>
    intro n n2 sum seed step c r hq hs hn hn2 hF hsd
    obtain ⟨n, rfl⟩ : ∃ x, n = x + 1 := ⟨n - 1, by omega⟩
    obtain ⟨n2, rfl⟩ : ∃ x, n2 = x + 1 := ⟨n2 - 1, by omega⟩
    have t : ¬ a2 / 1000 ≤ step := by rw [i_le, hd]; omega
    have ub := i_hi a2
    have hst := i_inc (a := step) (by omega)
    have e0 : c.1 0 12 = s.1 0 12 := by rw [hF.1.1 0 (by omega) (by decide) (by decide) (by decide) (by decide)]
    obtain ⟨c1, c2, r2, k1, k2, k3, k4, k5, k6⟩ := drawn_night (l := s.1 0 12) (d := seed) (h := a2 % 1000) (oF_nB hF hb) (oF_nL hF hl) (oF_pl hF hp) (by rw [hF.2.2.1 36 (by decide)]; exact hr.2.2) (by rw [hF.2.2.1 38 (by decide)]; exact hr.1) (by rw [hF.2.2.1 51 (by decide)]; exact hr.2.1) hsd (by rw [hm]; omega)
    have hF2 := oF_tr hF k5
    rw [f_B_drawn_L95, if_neg t, e0, k1, Option.bind_some, k2, Option.bind_some, f_M_drawn_L76, if_neg t, k3, Option.bind_some]
    rcases hk with ⟨z, hk⟩ | ⟨z, hk⟩
    · have z6 : zz_in a3 6 = true := i_in.mpr (by omega)
      obtain ⟨y1, -⟩ := tRC.mp (k4.2.2.2.2.2.2.1 ka hk).1
      rw [if_pos z, if_pos z6, if_pos z, if_pos z6, nz_eq ha, i_lit y1]
      exact ih n n2 _ _ (step + 1) c2 r2 (by omega) (by omega) (by omega) (by omega) hF2 k6.symm
    · have z3 : zz_in a3 3 = true := i_in.mpr (by omega)
      have e := (k4.2.2.2.2.1.2.1 ka hk).1
      rw [if_neg z, if_pos z3, if_neg z, if_pos z3, nz_eq ha, e]
      exact ih n n2 _ _ (step + 1) c2 r2 (by omega) (by omega) (by omega) (by omega) hF2 k6.symm
theorem p_drawn (a1 a2 a3 a4 : Int32) {s : zz_S} (h : iv s) : ag iv (f_B_drawn a1 a2 a3 a4 s) (f_M_drawn a1 a2 a3 a4) := by
  have l0 : (0 : Int32).toInt = 0 := rfl
  have l1 : (1 : Int32).toInt = 1 := rfl
  have l20 : (20 : Int32).toInt = 20 := rfl
  refine lock (s := s) fun r hr => ?_
  obtain ⟨S, C, W, T, hb, hS, hC, hp, hL, ⟨h38, h51, h36, h35⟩, ⟨i1, i2, i3⟩⟩ := iv_nB h hr
  have hSr : (r.1 79 2).toInt = S := by rw [hb.1.2.2.2.1.2.1]; exact hS
  have hCr : (r.1 79 7).toInt = C := by rw [hb.1.2.2.2.1.2.2]; exact hC
  have hS6 := hb.1.2.1.2
  have hC3 := hb.1.2.2.1.2
  unfold f_B_drawn f_M_drawn
  by_cases c0 : a2 < 0
  · rw [if_pos c0, if_pos c0]; exact same_of h hr _
  · rw [if_neg c0, if_neg c0]
    rw [i_lt, l0] at c0
    have hd := i_div1000 (a := a2) (by omega)
    by_cases c1 : 1 ≤ a2.toInt / 1000 ∧ a2.toInt / 1000 ≤ 20
    · have m1 : ¬ f_M_in (a2 / 1000) 1 20 = 0 := fun q => (M_in0 _ _ _).mp q (by rw [hd, l1, l20]; exact c1)
      rw [if_neg m1, if_neg (by rw [i_lt, hd, l1]; omega), if_neg (by rw [i_lt, hd, l20]; omega)]
      by_cases c2 : (100 : Int32) < a2 % 1000
      · rw [if_pos c2, if_pos c2]; exact same_of h hr _
      · rw [if_neg c2, if_neg c2]
        have main : ∀ ka : Nat, a3.toInt = ka → ((a4 = 0 ∧ ka < S) ∨ (¬ a4 = 0 ∧ ka < C)) → ∃ v c2 r2, f_B_drawn_L95 zF a3 a4 (a2 / 1000) (a2 % 1000) 0 a1 0 s = some (v, c2) ∧ f_M_drawn_J65 a1 a2 a3 a4 r = some (v, r2) ∧ iv (mix c2 r2) ∧ rf s c2 ∧ cl r r2 := by
          intro ka ha hk
          have hF0 : oF s r s (zz_w r 79 54 a1) := ⟨⟨fun _ _ _ _ _ _ => rfl, fun _ _ _ => rfl⟩, fun o ho _ => by rw [w_row, if_neg ho], fun k hk => by rw [w_get, if_pos rfl, if_neg hk], rfl⟩
          obtain ⟨v, c2, r2, k1, k2, k3⟩ := dw_loop (a2 := a2) (by omega) c1.1 ha hk hb (hL _ i1 i2) hp ⟨h38, h51, h36⟩ (a2.toInt / 1000).toNat zF zF 0 a1 0 s (zz_w r 79 54 a1) (by rw [l0]; omega) (by decide) (by unfold zF; omega) (by unfold zF; omega) hF0 (by rw [w_get, if_pos rfl, if_pos rfl])
          obtain ⟨g1, g2, g3⟩ := oF_iv h hr k3
          exact ⟨v, c2, r2, k1, k2, g1, g2, g3⟩
        by_cases c3 : 0 ≤ a4.toInt ∧ a4.toInt ≤ 1
        · have n3 : ¬ f_M_in a4 0 1 = 0 := fun q => (in_of (n := 1) rfl).mp q c3
          rw [if_neg n3, if_neg (by rw [i_lt, l0]; omega), if_pos (by rw [i_le, l1]; omega)]
          by_cases z : a4 = 0
          · rw [if_pos z, if_pos z]
            unfold f_B_drawn_J76
            by_cases c4 : 0 ≤ a3.toInt ∧ a3.toInt < S
            · rw [if_neg (fun q => (has_s hS a3).mp q c4), if_neg (fun q => (his_s hSr a3).mp q c4)]
              exact main a3.toInt.toNat (by omega) (Or.inl ⟨z, by omega⟩)
            · rw [if_pos ((has_s hS a3).mpr c4), if_pos ((his_s hSr a3).mpr c4)]
              exact same_of h hr _
          · rw [if_neg z, if_neg z]
            unfold f_B_drawn_J76
            by_cases c4 : 0 ≤ a3.toInt ∧ a3.toInt < C
            · rw [if_neg (fun q => (has_c hC a3).mp q c4), if_neg (fun q => (his_c hCr a3).mp q c4)]
              exact main a3.toInt.toNat (by omega) (Or.inr ⟨z, by omega⟩)
            · rw [if_pos ((has_c hC a3).mpr c4), if_pos ((his_c hCr a3).mpr c4)]
              exact same_of h hr _
        · have n3 : f_M_in a4 0 1 = 0 := (in_of (n := 1) rfl).mpr c3
          rw [if_pos n3]
          by_cases n : a4 < 0
          · rw [if_pos n]; exact same_of h hr _
          · rw [if_neg n]
            rw [i_lt, l0] at n
            rw [if_neg (by rw [i_le, l1]; omega)]
            exact same_of h hr _
    · have m1 : f_M_in (a2 / 1000) 1 20 = 0 := (M_in0 _ _ _).mpr (by rw [hd, l1, l20]; exact c1)
      rw [if_pos m1]
      by_cases n : a2 / 1000 < 1
      · rw [if_pos n]; exact same_of h hr _
      · rw [if_neg n]
        rw [i_lt, hd, l1] at n
        rw [if_pos (by rw [i_lt, hd, l20]; omega)]
        exact same_of h hr _
