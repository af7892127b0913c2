/-- the film held against one law -/
theorem film_one {c r : zz_S} {S C W T pb base : Nat} {l v1 : Int32} (hb : nB c r S C W T) (hl : nL c r l) (hp : plOK c r 2 S W) (h36 : r.1 79 36 = l) (hv : r.1 79 38 = 0) (ho : r.1 79 51 = -1) (hC : 0 < C) (hpb : pb + 1 ≠ 37 ∧ pb + 1 ≠ 38) (hv1 : (60 * v1).toInt = base) (hbase : base ≤ 300) (hsh : ∀ k, k < 9 → c.2 (pb + 1) k = r.2 121 (base + k)) :
    ∃ v c2 r2, f_B_isFilmOf l pb c = some (v, c2) ∧ f_M_isAsFilm v1 r = some (v, r2) ∧ oF c r c2 r2 := by
  obtain ⟨b1, b2, ⟨b3, b4, b5, b6⟩, b7⟩ := hb
  obtain ⟨c1, r1, e1, e2, e3, e4, e5, ⟨f10, f11, f12, f13, f14, f16, f15⟩, ⟨g1, g2⟩, g3, g4⟩ := begin_of l b1 b2 hp
  have r79 : r1.1 79 = r.1 79 := g3 79 (by omega) (by omega)
  have C1 : ∀ a, a < 20 ∨ 38 < a → c1.1 a = c.1 a := fun a ha => g1 a ha
  have R1 : ∀ a, a < 101 → r1.1 a = r.1 a := fun a ha => g3 a (by omega) (by omega)
  have hM : eM c1 r1 S C W T 0 := by
    refine ⟨nS_fr b1 (fun a _ _ => C1 a (by omega)) (fun k _ => by rw [r79]) (fun a _ _ => R1 a (by omega)), ?_, ?_, ?_, ⟨e3.1, e3.2.1, e3.2.2.1, e3.2.2.2.1, e3.2.2.2.2.1, fun k hk => (e3.2.2.2.2.2 k hk).2.2⟩, e4, fun i hi => (e5 i hi).2, ?_⟩
    · obtain ⟨⟨l1, l2⟩, l3⟩ := hl
      unfold nW
      rw [f10, r79, R1 96 (by decide), R1 97 (by decide), R1 98 (by decide), R1 99 (by decide), R1 100 (by decide)]
      refine ⟨h36, ⟨l1, l2⟩, fun h0 => ?_⟩
      rw [C1 (55 + 3 * l.toInt.toNat) (by omega), C1 (56 + 3 * l.toInt.toNat) (by omega)]
      exact l3 h0
    · unfold nR
      rw [C1 16 (by omega), C1 17 (by omega), C1 18 (by omega), f13, r79, R1 96 (by decide), R1 97 (by decide), R1 98 (by decide), R1 99 (by decide), R1 100 (by decide)]
      exact ⟨b7, hv, by decide, by decide⟩
    · unfold nT
      rw [C1 10 (by omega), C1 11 (by omega), C1 12 (by omega), C1 13 (by omega), C1 14 (by omega), f14, r79, R1 88 (by decide), R1 89 (by decide), R1 90 (by decide)]
      exact ⟨b3, b4, b5, b6, ho, by decide, by decide⟩
    · rw [f11]; rfl
  have hX : nX c1 T 0 := ⟨0, by rw [f12]; rfl, Nat.zero_le _, fun a h => by omega, fun a _ ha => (tm_bd hM.2.2.2.1 ha).1⟩
  obtain ⟨v, c2, r2, k1, k2, k3⟩ := film_loop (pb := pb) (v1 := v1) hC hpb hv1 hbase 9 0 0 zF zF 0 0 c1 r1 (by omega) rfl (Or.inl ⟨rfl, rfl⟩) rfl (by unfold zF; omega) (by unfold zF; omega) hM hX (by rw [f16]; decide) (fun k hk => by
    rw [g2 (pb + 1) hpb.1 hpb.2, g4]
    exact hsh k hk)
  refine ⟨v, c2, r2, ?_, ?_, ?_⟩
  · unfold f_B_isFilmOf
    rw [e1, Option.bind_some, k1]
  · unfold f_M_isAsFilm
    rw [e2, Option.bind_some, k2]
  · obtain ⟨⟨n1, n1', n2⟩, n3, n3', n4⟩ := k3
    exact ⟨⟨fun a ha h6 h7 h8 h9 => (n1 a ha h6 h7 h8 h9).trans (C1 a (by omega)), fun a h6 h7 => (n2 a h6 h7).trans (g2 a h6 h7)⟩, fun a h6 h7 => (n3 a h6 h7).trans (g3 a (by omega) (by omega)), fun k hk => (n3' k hk).trans (by rw [r79]), n4.trans g4⟩
theorem films_loop {s r0 : zz_S} {S C W T L pb base : Nat} {v1 : Int32} (hb : nB s r0 S C W T) (hL : ∀ l : Int32, -1 ≤ l.toInt → l.toInt < (s.1 0 11).toInt → nL s r0 l) (hp : plOK s r0 2 S W) (h38 : r0.1 79 38 = 0) (h51 : r0.1 79 51 = -1) (h35 : r0.1 79 35 = s.1 0 11) (hla : (s.1 0 11).toInt = L) (hL4 : L ≤ 4) (hC : 0 < C) (hpb : pb + 1 ≠ 37 ∧ pb + 1 ≠ 38) (hv1 : (60 * v1).toInt = base) (hbase : base ≤ 300) (hsh : ∀ k, k < 9 → s.2 (pb + 1) k = r0.2 121 (base + k)) :
    ∀ (q n n2 : Nat) (mask law : Int32) (c r : zz_S), law.toInt + q = L → -1 ≤ law.toInt → q < n → q < n2 → oF s r0 c (zz_w r 79 36 (r0.1 79 36)) →
      ∃ v c2 r2, f_B_film_L67 n pb mask law c = some (v, c2) ∧ f_M_film_L70 n2 v1 (r0.1 79 36) mask law r = some (v, r2) ∧ oF s r0 c2 r2 := by
  intro q
  induction q with
  | zero =>
    intro n n2 mask law c r hq h0 hn hn2 hF
    obtain ⟨n, rfl⟩ : ∃ x, n = x + 1 := ⟨n - 1, by omega⟩
    obtain ⟨n2, rfl⟩ : ∃ x, n2 = x + 1 := ⟨n2 - 1, by omega⟩
    have e11 : c.1 0 11 = s.1 0 11 := by rw [(oF_0 hF).1]
    have e35 : r.1 79 35 = s.1 0 11 := by
      have := hF.2.2.1 35 (by decide)
      rw [w79, if_neg (by decide)] at this
      rw [this, h35]
    have t : s.1 0 11 ≤ law := by rw [i_le]; omega
    rw [f_B_film_L67, e11, if_pos t, f_M_film_L70, e35, if_pos t]
    exact ⟨_, _, _, rfl, rfl, hF⟩
  | succ q ih =>
    intro n n2 mask law c r hq h0 hn hn2 hF
    obtain ⟨n, rfl⟩ : ∃ x, n = x + 1 := ⟨n - 1, by omega⟩
    obtain ⟨n2, rfl⟩ : ∃ x, n2 = x + 1 := ⟨n2 - 1, by omega⟩
    have e11 : c.1 0 11 = s.1 0 11 := by rw [(oF_0 hF).1]
    have h79 : ∀ k, k ≠ 54 → k ≠ 36 → r.1 79 k = r0.1 79 k := fun k a b => by
      have := hF.2.2.1 k a
      rw [w79, if_neg b] at this
      exact this
    have e35 : r.1 79 35 = s.1 0 11 := by rw [h79 35 (by decide) (by decide), h35]
    have t : ¬ s.1 0 11 ≤ law := by rw [i_le]; omega
    have hl1 := i_inc (a := law) (by omega)
    have ww : zz_w (zz_w r 79 36 (r0.1 79 36)) 79 36 law = zz_w r 79 36 law := zz_ww r 79 36 _ law
    have kB := nB_ref (k := 36) law (oF_nB hF hb) (by omega)
    have kL := nL_ref (k := 36) law (oF_nL hF (hL law h0 (by omega)))
    have kP := pl_ref (k := 36) law (oF_pl hF hp)
    rw [ww] at kB kL kP
    obtain ⟨v, c2, r2, k1, k2, k3⟩ := film_one (pb := pb) (v1 := v1) kB kL kP (by rw [w79, if_pos rfl]) (by rw [w79, if_neg (by decide), h79 38 (by decide) (by decide), h38]) (by rw [w79, if_neg (by decide), h79 51 (by decide) (by decide), h51]) hC hpb hv1 hbase (fun k hk => by
      rw [hF.1.2 (pb + 1) hpb.1 hpb.2]
      have : (zz_w r 79 36 law).2 = r0.2 := hF.2.2.2
      rw [this]
      exact hsh k hk)
    rw [← ww] at k3
    have hF2 := oF_tr hF (oF_ref k3 (by decide) (fun x hx => by omega) (r0.1 79 36) (by rw [w79, if_pos rfl]))
    rw [f_B_film_L67, e11, if_neg t, k1, Option.bind_some, f_M_film_L70, e35, if_neg t, k2, Option.bind_some]
    simp only
    by_cases z : v = 0
    · rw [if_pos z, if_pos z]
      exact ih n n2 _ (law + 1) c2 r2 (by omega) (by omega) (by omega) (by omega) hF2
    · rw [if_neg z, if_neg z]
      exact ih n n2 _ (law + 1) c2 r2 (by omega) (by omega) (by omega) (by omega) hF2
theorem p_film (a : Int32) {s : zz_S} (h : iv s) : ag iv (f_B_film a s) (f_M_film a) := by
  have l0 : (0 : Int32).toInt = 0 := rfl
  have l60 : (60 : Int32).toInt = 60 := rfl
  have n10 : ¬ (1 : Int32) = 0 := by decide
  obtain ⟨l1, l2⟩ := l_shelf a
  refine lock (s := s) fun r hr => ?_
  obtain ⟨S, C, W, T, hb, hS, hC, hp, hL, ⟨h38, h51, h36, h35⟩, ⟨i1, i2, i3⟩⟩ := iv_nB h hr
  have hro : ∀ o, ¬ o < 79 → r.1 o = s.1 o := fun o ho => by
    have := congrArg (fun x : zz_S => x.1 o) hr
    rw [← this]
    exact (mixr ho).symm
  have hro2 : r.2 121 = s.2 121 := by
    have := congrArg (fun x : zz_S => x.2 121) hr
    rw [← this]
    show r.2 121 = (if 121 < 79 then s.2 121 else r.2 121)
    rw [if_neg (by decide)]
  unfold f_B_film f_M_film
  by_cases h1 : 0 ≤ a.toInt ∧ a.toInt < 6
  · have z1 : zz_in a 6 = true := i_in.mpr (by omega)
    rw [if_neg (fun q => l1.mp q h1), if_neg (fun q => l2.mp q h1), if_pos z1, if_pos z1, zr52 h1.1 h1.2, show a.toNatClampNeg = a.toInt.toNat from rfl, hro 119 (by decide), hro 120 (by decide)]
    have hs := (shl_at s).mp h.2.2.2.2.2.1 a.toInt.toNat (by omega)
    generalize hi : a.toInt.toNat = i at *
    have hi6 : i < 6 := by omega
    rcases sh_kind hs with ⟨c1, c2⟩ | ⟨c1, c2, c3, c4, c5⟩ | ⟨c1, c2, c3, c4, c5, c6, c7, c8, c9⟩
    · rw [c1, if_neg n10, if_pos c2]; exact same_of h hr _
    · have n3 : ¬ s.1 119 i = -3 := fun q => by rw [q] at c5; exact absurd c5 (by decide)
      rw [c1, if_pos rfl, c3 1, if_pos rfl, if_neg c4, if_neg n3]; exact same_of h hr _
    · rw [c1, if_pos rfl, c3 1, if_neg c4, c7]
      by_cases t : s.1 (67 + 2 * i) 2 = 1
      · have n3 : s.1 119 i = -3 := i_lit (by rw [c6, t]; rfl)
        rw [if_pos t, if_neg n10, if_pos n3]
        by_cases n9 : (9 : Int32) ≤ s.1 (67 + 2 * i) 3
        · rw [if_pos n9, if_pos n9, show r.1 79 7 = s.1 1 2 from hb.1.2.2.2.1.2.2]
          by_cases z : s.1 1 2 = 0
          · rw [if_pos z, if_pos z]; exact same_of h hr _
          · rw [if_neg z, if_neg z]
            have hC0 : 0 < C := by
              rcases Nat.eq_zero_or_pos C with q | q
              · exact absurd (i_lit (b := 0) (by rw [hC, q]; rfl)) z
              · exact q
            have hmul := i_mul (a := 60) (b := a) (by rw [l60]; omega) (by rw [l60]; omega)
            rw [l60] at hmul
            obtain ⟨v, x2, r2, k1, k2, k3⟩ := films_loop (L := (s.1 0 11).toInt.toNat) (pb := 67 + 2 * i) (base := 60 * i) (v1 := a) hb hL hp h38 h51 h35 (by omega) (by omega) hC0 (by omega) (by omega) (by omega) (fun k hk => by
              rw [hro2, show 67 + 2 * i + 1 = 68 + 2 * i by omega]
              exact (hs.1 k (by omega)).symm) ((s.1 0 11).toInt.toNat + 1) zF zF 0 (-1) s r (by rw [show (-1 : Int32).toInt = -1 from rfl]; omega) (by decide) (by unfold zF; omega) (by unfold zF; omega) (by rw [zz_wid rfl]; exact oF_me s r)
            obtain ⟨g1, g2, g3⟩ := oF_iv h hr k3
            exact ⟨v, x2, r2, k1, k2, g1, g2, g3⟩
        · rw [if_neg n9, if_neg n9]; exact same_of h hr _
      · have n3 : ¬ s.1 119 i = -3 := fun q => t (i_lit (by
          rw [q, show (-3 : Int32).toInt = -3 from rfl] at c6
          rw [show (1 : Int32).toInt = 1 from rfl]
          omega))
        rw [if_neg t, if_pos rfl, if_neg n3]; exact same_of h hr _
  · rw [if_pos (l1.mpr h1), if_pos (l2.mpr h1)]
    exact same_of h hr _
