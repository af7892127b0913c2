theorem m1_neg : (-1 : Int32) < 0 := by decide
/-! law -/
def lwc (s : zz_S) (i : Nat) : Prop := lawOK (s.1 (55 + 3 * i) 0) (s.1 (56 + 3 * i)) (s.1 96) (s.1 97) (s.1 98) (s.1 99) (s.1 100) i
def rmc (s : zz_S) : Prop := roomOK (s.1 16) (s.1 17) (s.1 18) (s.1 79 37) (s.1 96) (s.1 97) (s.1 98) (s.1 99) (s.1 100)
theorem law_at (s : zz_S) : iv_law s ↔ (s.1 79 35 = s.1 0 11 ∧ s.1 79 36 = s.1 0 12) ∧ (0 ≤ (s.1 0 11).toInt ∧ (s.1 0 11).toInt ≤ 4 ∧ -1 ≤ (s.1 0 12).toInt ∧ (s.1 0 12).toInt < (s.1 0 11).toInt) ∧ (∀ i : Nat, i < 4 → (i : Int) < (s.1 0 11).toInt → lwc s i) ∧ rmc s := by
  constructor
  · rintro ⟨h1, h2, k0, k1, k2, k3, h3⟩
    refine ⟨h1, h2, fun i hi => ?_, h3⟩
    match i, hi with
    | 0, _ => exact k0
    | 1, _ => exact k1
    | 2, _ => exact k2
    | 3, _ => exact k3
  · rintro ⟨h1, h2, h, h3⟩
    exact ⟨h1, h2, h 0 (by decide), h 1 (by decide), h 2 (by decide), h 3 (by decide), h3⟩
/-- the texts of the reference are the same at a place -/
def tSame (s s2 : zz_S) (p : Nat) : Prop := ∀ L, refOK (s.1 96) (s.1 97) (s.1 98) (s.1 99) (s.1 100) p L → refOK (s2.1 96) (s2.1 97) (s2.1 98) (s2.1 99) (s2.1 100) p L
theorem lwc_same {s s2 : zz_S} {i : Nat} (h : lwc s i) (ht : tSame s s2 i) (h1 : s2.1 (55 + 3 * i) = s.1 (55 + 3 * i)) (h2 : s2.1 (56 + 3 * i) = s.1 (56 + 3 * i)) : lwc s2 i := by
  obtain ⟨L, k1, k2⟩ := h
  unfold lwc
  rw [h1, h2]
  exact ⟨L, ht L k1, k2⟩
theorem rmc_same {s s2 : zz_S} (h : rmc s) (ht : tSame s s2 4) (h1 : s2.1 16 = s.1 16) (h2 : s2.1 17 = s.1 17) (h3 : s2.1 18 = s.1 18) (h4 : s2.1 79 37 = s.1 79 37) : rmc s2 := by
  obtain ⟨k1, k2, k3⟩ := h
  unfold rmc
  rw [h1, h2, h3, h4]
  refine ⟨k1, k2, ?_⟩
  rcases k3 with k3 | ⟨k3, L, k4, k5⟩
  · exact Or.inl k3
  · exact Or.inr ⟨k3, L, ht L k4, k5⟩
theorem tape_off {s s2 : zz_S} (hc : ∀ o, 0 < o → o < 79 → ¬ (15 ≤ o ∧ o ≤ 18) → ¬ (44 ≤ o ∧ o ≤ 47) → ¬ (55 ≤ o ∧ o ≤ 66) → s2.1 o = s.1 o) (hr : ∀ o, 79 < o → ¬ (96 ≤ o ∧ o ≤ 102) → s2.1 o = s.1 o) (h2 : s2.2 = s.2) (h79 : ∀ k, k < 23 ∨ 27 < k → k ≠ 35 → k ≠ 37 → s2.1 79 k = s.1 79 k) (e1 : s2.1 44 0 = 0) (e2 : s2.1 79 23 = 0) (h : iv s) (hl : iv_law s2) : iv s2 := by
  obtain ⟨hb, htu, hc', hta, hbo, hsh, hla, hre⟩ := h
  have f := fun o h1 h2 h3 h4 h5 => hc o h1 h2 h3 h4 h5
  have g := fun o h1 h2 => hr o h1 h2
  refine ⟨?_, ?_, ?_, ⟨?_, ⟨?_, ?_⟩, ?_⟩, ?_, ?_, hl, ?_⟩
  · unfold iv_bed at hb ⊢
    rw [h79 1 (by omega) (by decide) (by decide), h79 2 (by omega) (by decide) (by decide), h79 7 (by omega) (by decide) (by decide), f 1 (by omega) (by omega) (by omega) (by omega) (by omega), f 2 (by omega) (by omega) (by omega) (by omega) (by omega), f 3 (by omega) (by omega) (by omega) (by omega) (by omega), f 4 (by omega) (by omega) (by omega) (by omega) (by omega), f 5 (by omega) (by omega) (by omega) (by omega) (by omega), f 6 (by omega) (by omega) (by omega) (by omega) (by omega), f 7 (by omega) (by omega) (by omega) (by omega) (by omega), f 8 (by omega) (by omega) (by omega) (by omega) (by omega), f 9 (by omega) (by omega) (by omega) (by omega) (by omega), g 80 (by omega) (by omega), g 81 (by omega) (by omega), g 82 (by omega) (by omega), g 83 (by omega) (by omega), g 84 (by omega) (by omega), g 85 (by omega) (by omega), g 86 (by omega) (by omega), g 87 (by omega) (by omega)]
    exact hb
  · unfold iv_turn at htu ⊢
    rw [h79 12 (by omega) (by decide) (by decide), f 10 (by omega) (by omega) (by omega) (by omega) (by omega), f 11 (by omega) (by omega) (by omega) (by omega) (by omega), f 12 (by omega) (by omega) (by omega) (by omega) (by omega), f 13 (by omega) (by omega) (by omega) (by omega) (by omega), f 14 (by omega) (by omega) (by omega) (by omega) (by omega), g 88 (by omega) (by omega), g 89 (by omega) (by omega), g 90 (by omega) (by omega)]
    exact htu
  · unfold iv_chg at hc' ⊢
    rw [h79 16 (by omega) (by decide) (by decide), h79 17 (by omega) (by decide) (by decide), f 1 (by omega) (by omega) (by omega) (by omega) (by omega), f 39 (by omega) (by omega) (by omega) (by omega) (by omega), f 40 (by omega) (by omega) (by omega) (by omega) (by omega), f 41 (by omega) (by omega) (by omega) (by omega) (by omega), f 42 (by omega) (by omega) (by omega) (by omega) (by omega), f 43 (by omega) (by omega) (by omega) (by omega) (by omega), g 91 (by omega) (by omega), g 92 (by omega) (by omega), g 93 (by omega) (by omega), g 94 (by omega) (by omega)]
    exact hc'
  · rw [e1, e2]
  · rw [e1]; decide
  · rw [e1]; decide
  · intro k hk
    rw [e1, show (0 : Int32).toInt = 0 from rfl] at hk
    omega
  · unfold iv_body at hbo ⊢
    rw [h79 55 (by omega) (by decide) (by decide), h79 57 (by omega) (by decide) (by decide), f 49 (by omega) (by omega) (by omega) (by omega) (by omega), f 50 (by omega) (by omega) (by omega) (by omega) (by omega), f 51 (by omega) (by omega) (by omega) (by omega) (by omega), g 117 (by omega) (by omega), g 118 (by omega) (by omega)]
    exact hbo
  · unfold iv_shl at hsh ⊢
    rw [h2, f 49 (by omega) (by omega) (by omega) (by omega) (by omega), f 67 (by omega) (by omega) (by omega) (by omega) (by omega), f 69 (by omega) (by omega) (by omega) (by omega) (by omega), f 71 (by omega) (by omega) (by omega) (by omega) (by omega), f 73 (by omega) (by omega) (by omega) (by omega) (by omega), f 75 (by omega) (by omega) (by omega) (by omega) (by omega), f 77 (by omega) (by omega) (by omega) (by omega) (by omega), g 119 (by omega) (by omega), g 120 (by omega) (by omega)]
    exact hsh
  · unfold iv_rest at hre ⊢
    rw [h79 51 (by omega) (by decide) (by decide), h79 38 (by omega) (by decide) (by decide)]
    exact hre
theorem pT_iv {s r : zz_S} (h : iv_tape s) (hr : mix s r = s) : ∃ N, pT s r N := by
  obtain ⟨t1, ⟨t2, t3⟩, t4⟩ := h
  have q79 : r.1 79 = s.1 79 := by rw [← hr]; rfl
  have q95 : r.1 95 = s.1 95 := by rw [← hr]; rfl
  refine ⟨(s.1 44 0).toInt.toNat, by omega, by omega, by rw [q79, t1]; omega, fun k hk => ?_⟩
  rw [q95]
  exact t4 k (by omega)
theorem lF_tSame {c r c2 r2 : zz_S} (h : lF c r c2 r2) {p : Nat} (hp : p < 5) : tSame r r2 p := by
  obtain ⟨-, h4, h5, h6, h7, h8, h9⟩ := h
  exact fun L hL => refOK_same hL (fun k _ _ => h7 k (by omega)) (h8 p (by omega)) (fun k _ _ => h9 k (by omega))
theorem zr19 {a : Int32} {n : Nat} (h : a.toInt = n) (hn : n < 4) : zr_19 a = 55 + 3 * n := by
  unfold zr_19
  rw [nz_eq h]
  match n, hn with
  | 0, _ => rfl
  | 1, _ => rfl
  | 2, _ => rfl
  | 3, _ => rfl
theorem mixc {c r : zz_S} {o : Nat} (h : o < 79) : (mix c r).1 o = c.1 o := by
  show (if o < 79 then c.1 o else r.1 o) = c.1 o
  rw [if_pos h]
theorem mixr {c r : zz_S} {o : Nat} (h : ¬ o < 79) : (mix c r).1 o = r.1 o := by
  show (if o < 79 then c.1 o else r.1 o) = r.1 o
  rw [if_neg h]
theorem mix2 {s c r : zz_S} (h1 : c.2 = s.2) (h2 : ∀ o, ¬ o < 79 → r.2 o = s.2 o) : (mix c r).2 = s.2 := by
  refine funext fun o => ?_
  show (if o < 79 then c.2 o else r.2 o) = s.2 o
  by_cases q : o < 79
  · rw [if_pos q, h1]
  · rw [if_neg q, h2 o q]
/-- a fault: the tape alone is another -/
theorem tape_bad {s r c2 r2 : zz_S} (h : iv s) (hr : mix s r = s) (hF : lF s r c2 r2) : iv (mix (zz_w c2 44 0 0) (zz_w r2 79 23 0)) ∧ rf s (zz_w c2 44 0 0) ∧ cl r (zz_w r2 79 23 0) := by
  have hF' := hF
  obtain ⟨⟨f1, f2, f3⟩, f4, f5, f6, f7, f8, f9⟩ := hF
  have hro : ∀ o, ¬ o < 79 → r.1 o = s.1 o := fun o ho => by
    have := congrArg (fun x : zz_S => x.1 o) hr
    rw [← this]
    exact (mixr ho).symm
  have hro2 : ∀ o, ¬ o < 79 → r.2 o = s.2 o := fun o ho => by
    have := congrArg (fun x : zz_S => x.2 o) hr
    rw [← this]
    show r.2 o = (if o < 79 then s.2 o else r.2 o)
    rw [if_neg ho]
  have tS : ∀ p, p < 5 → tSame s (mix (zz_w c2 44 0 0) (zz_w r2 79 23 0)) p := fun p hp L hL => by
    rw [mixr (by decide), mixr (by decide), mixr (by decide), mixr (by decide), mixr (by decide)]
    rw [← hro 96 (by decide), ← hro 97 (by decide), ← hro 98 (by decide), ← hro 99 (by decide), ← hro 100 (by decide)] at hL
    have := lF_tSame hF' hp L hL
    simp only [w_row, show ((96 : Nat) = 79) = False by decide, show ((97 : Nat) = 79) = False by decide, show ((98 : Nat) = 79) = False by decide, show ((99 : Nat) = 79) = False by decide, show ((100 : Nat) = 79) = False by decide, if_false]
    exact this
  have C : ∀ o, o < 79 → o ≠ 44 → o ≠ 45 → o ≠ 46 → (mix (zz_w c2 44 0 0) (zz_w r2 79 23 0)).1 o = s.1 o := fun o h1 h2 h3 h4 => by
    rw [mixc h1, w_row, if_neg h2, f1 o h2 h3 h4]
  have K : ∀ k, k < 23 ∨ 27 < k → (mix (zz_w c2 44 0 0) (zz_w r2 79 23 0)).1 79 k = s.1 79 k := fun k hk => by
    have n : ¬ k = 23 := by omega
    rw [mixr (by decide), w_get, if_pos rfl, if_neg n, f6 k (by omega), hro 79 (by decide)]
  refine ⟨tape_off (s := s) (fun o h1 h2 h3 h4 h5 => C o h2 (by omega) (by omega) (by omega)) (fun o h1 h2 => ?_) (mix2 f2 fun o ho => ?_) (fun k h1 h2 h3 => K k h1) ?_ ?_ h ?_, fun o ho => ⟨?_, ?_⟩, fun o ho => ⟨?_, ?_⟩⟩
  · rw [mixr (by omega), w_row, if_neg (by omega), f4 o (by omega) (by omega) (by omega) (by omega) (by omega) (by omega), hro o (by omega)]
  · show r2.2 o = s.2 o
    rw [f5, hro2 o ho]
  · rw [mixc (by decide)]; simp [w_get]
  · rw [mixr (by decide)]; simp [w_get]
  · have hla := (law_at s).mp h.2.2.2.2.2.2.1
    obtain ⟨⟨a1, a2⟩, a3, a4, a5⟩ := hla
    refine (law_at _).mpr ⟨⟨?_, ?_⟩, ?_, fun i hi hi2 => ?_, ?_⟩
    · rw [K 35 (by omega), C 0 (by decide) (by decide) (by decide) (by decide)]; exact a1
    · rw [K 36 (by omega), C 0 (by decide) (by decide) (by decide) (by decide)]; exact a2
    · rw [C 0 (by decide) (by decide) (by decide) (by decide)]; exact a3
    · rw [C 0 (by decide) (by decide) (by decide) (by decide)] at hi2
      exact lwc_same (a4 i hi hi2) (tS i (by omega)) (C _ (by omega) (by omega) (by omega) (by omega)) (C _ (by omega) (by omega) (by omega) (by omega))
    · exact rmc_same a5 (tS 4 (by decide)) (C 16 (by decide) (by decide) (by decide) (by decide)) (C 17 (by decide) (by decide) (by decide) (by decide)) (C 18 (by decide) (by decide) (by decide) (by decide)) (K 37 (by omega))
  · rw [w_row, if_neg (by omega), f1 o (by omega) (by omega) (by omega)]
  · show c2.2 o = s.2 o
    rw [f2]
  · rw [w_row, if_neg (by omega), f4 o (by omega) (by omega) (by omega) (by omega) (by omega) (by omega)]
  · show r2.2 o = r.2 o
    rw [f5]
theorem p_law {s : zz_S} (h : iv s) : ag iv (f_B_law s) f_M_law := by
  have l4 : (4 : Int32).toInt = 4 := rfl
  obtain ⟨⟨a1, a2⟩, ⟨a3, a3', a3'', a3'''⟩, a4, a5⟩ := (law_at s).mp h.2.2.2.2.2.2.1
  refine lock (s := s) fun r hr => ?_
  have hro : ∀ o, ¬ o < 79 → r.1 o = s.1 o := fun o ho => by
    have := congrArg (fun x : zz_S => x.1 o) hr
    rw [← this]
    exact (mixr ho).symm
  have hro2 : ∀ o, ¬ o < 79 → r.2 o = s.2 o := fun o ho => by
    have := congrArg (fun x : zz_S => x.2 o) hr
    rw [← this]
    show r.2 o = (if o < 79 then s.2 o else r.2 o)
    rw [if_neg ho]
  have r35 : r.1 79 35 = s.1 0 11 := by rw [hro 79 (by decide)]; exact a1
  unfold f_B_law f_M_law
  by_cases q4 : s.1 0 11 = 4
  · rw [if_neg (by rw [q4]; decide), if_pos (by rw [r35, q4])]
    exact ⟨-3, s, r, rfl, rfl, by rw [hr]; exact h, rf_me s, cl_me r⟩
  · have q4' : ¬ (s.1 0 11).toInt = 4 := fun q => q4 (i_lit q)
    have r4 : ¬ r.1 79 35 = 4 := by rw [r35]; exact q4
    rw [if_pos (by rw [i_lt, l4]; omega), if_neg r4, r35]
    obtain ⟨N, hT⟩ := pT_iv h.2.2.2.1 hr
    obtain ⟨c2, r2, x, g1, g2, g3⟩ := rt_all (s.1 0 11) hT
    have g2' := g2
    obtain ⟨⟨f1, f2, f3⟩, f4, f5, f6, f7, f8, f9⟩ := g2
    rw [g1, Option.bind_some]
    rcases g3 with ⟨rfl, at2, sz2, ld2, L2, k1, k2, k3, k4, k5⟩ | ⟨k1, k2⟩
    · obtain ⟨n, hn⟩ : ∃ n : Nat, (s.1 0 11).toInt = n := ⟨(s.1 0 11).toInt.toNat, by omega⟩
      have hn4 : n < 4 := by omega
      have hpn : (s.1 0 11).toInt.toNat = n := by omega
      obtain ⟨r3, m1, m2, m3, m4, ⟨m5, m6⟩, m7⟩ := cp_all (s.1 0 11) (by omega) (by omega) k1 k3 k4
      rw [hpn] at m2 m7
      have e011 : (zz_w c2 44 0 0).1 0 11 = s.1 0 11 := by
        rw [w_row, if_neg (by decide), f1 0 (by decide) (by decide) (by decide)]
      have e35 : r3.1 79 35 = s.1 0 11 := by rw [m6 35 (by decide), f6 35 (by omega), r35]
      rw [if_pos m1_neg, e011, if_pos (i_in.mpr (by omega)), zr19 hn hn4, k5, m1, Option.bind_some, if_pos m1_neg]
      unfold f_Text_become
      rw [Option.bind_some]
      -- the class's state behind it
      have hsz := k1.1.2.2.2.2.1
      generalize hc4 : zz_w c2 44 0 0 = c4 at *
      have c4o : ∀ o, o ≠ 44 → c4.1 o = c2.1 o := fun o ho => by rw [← hc4, w_row, if_neg ho]
      have c4s : c4.2 = c2.2 := by rw [← hc4]; rfl
      generalize hc5 : zz_w (zz_copyiS c4 46 (55 + 3 * n + 1) (0 : Int32) (0 : Int32) (121 : Int32)) (55 + 3 * n) 0 ((zz_copyiS c4 46 (55 + 3 * n + 1) (0 : Int32) (0 : Int32) (121 : Int32)).1 45 0) = c5
      have c5o : ∀ o, o ≠ 55 + 3 * n → o ≠ 56 + 3 * n → c5.1 o = c4.1 o := fun o h1 h2 => by
        rw [← hc5, w_row, if_neg h1]
        show (if o = 55 + 3 * n + 1 then _ else c4.1 o) = c4.1 o
        rw [if_neg (by omega)]
      have c5s : c5.2 = c4.2 := by rw [← hc5]; rfl
      have c5z : c5.1 (55 + 3 * n) 0 = c4.1 45 0 := by
        rw [← hc5, w_get, if_pos rfl, if_pos rfl]
        show (if 45 = 55 + 3 * n + 1 then _ else c4.1 45) 0 = c4.1 45 0
        rw [if_neg (by omega)]
      have c5c : ∀ k, k < 121 → c5.1 (56 + 3 * n) k = c4.1 46 k := fun k hk => by
        rw [← hc5, w_row, if_neg (by omega)]
        show (if 56 + 3 * n = 55 + 3 * n + 1 then va_cpy (c4.1 46) (c4.1 (55 + 3 * n + 1)) (0 : Int32).toNatClampNeg (0 : Int32).toNatClampNeg (121 : Int32).toNatClampNeg else c4.1 (56 + 3 * n)) k = c4.1 46 k
        rw [if_pos (by omega)]
        unfold va_cpy
        rw [show (0 : Int32).toNatClampNeg = 0 from rfl, show (121 : Int32).toNatClampNeg = 121 from rfl, if_pos (by omega)]
        rw [show 0 + (k - 0) = k by omega]
      have c5n : c5.1 0 11 = s.1 0 11 := by rw [c5o 0 (by omega) (by omega), e011]
      have r3n : r3.1 79 35 = s.1 0 11 := e35
      rw [c5n, r3n]
      have hinc := i_inc (a := s.1 0 11) (by omega)
      refine ⟨_, _, _, rfl, rfl, ?_, fun o ho => ⟨?_, ?_⟩, fun o ho => ⟨?_, ?_⟩⟩
      · have C : ∀ o, 0 < o → o < 79 → ¬ (44 ≤ o ∧ o ≤ 46) → o ≠ 55 + 3 * n → o ≠ 56 + 3 * n → (mix (zz_w c5 0 11 (s.1 0 11 + 1)) (zz_w r3 79 35 (s.1 0 11 + 1))).1 o = s.1 o := fun o h1 h2 h3 h4 h5 => by
          rw [mixc h2, w_row, if_neg (by omega), c5o o h4 h5, c4o o (by omega), f1 o (by omega) (by omega) (by omega)]
        have K : ∀ k, k < 23 ∨ 27 < k → k ≠ 35 → (mix (zz_w c5 0 11 (s.1 0 11 + 1)) (zz_w r3 79 35 (s.1 0 11 + 1))).1 79 k = s.1 79 k := fun k hk h5 => by
          rw [mixr (by decide), w_get, if_pos rfl, if_neg h5, m6 k (by omega), f6 k (by omega), hro 79 (by decide)]
        have R : ∀ o, 79 < o → (mix (zz_w c5 0 11 (s.1 0 11 + 1)) (zz_w r3 79 35 (s.1 0 11 + 1))).1 o = r3.1 o := fun o ho => by
          rw [mixr (by omega), w_row, if_neg (by omega)]
        refine tape_off (s := s) (fun o h1 h2 h3 h4 h5 => C o h1 h2 (by omega) (by omega) (by omega)) (fun o h1 h2 => ?_) (mix2 ?_ fun o ho => ?_) (fun k h1 h2 h3 => K k h1 h2) ?_ ?_ h ?_
        · rw [R o h1, m3 o (by omega) (by omega) (by omega) (by omega) (by omega) (by omega), f4 o (by omega) (by omega) (by omega) (by omega) (by omega) (by omega), hro o (by omega)]
        · show c5.2 = s.2
          rw [c5s, c4s, f2]
        · show r3.2 o = s.2 o
          rw [m4, f5, hro2 o ho]
        · rw [mixc (by decide), w_row, if_neg (by decide), c5o 44 (by omega) (by omega), ← hc4]
          simp [w_get]
        · rw [mixr (by decide), w_get, if_pos rfl, if_neg (by decide)]
          exact m5
        · have m011 : (mix (zz_w c5 0 11 (s.1 0 11 + 1)) (zz_w r3 79 35 (s.1 0 11 + 1))).1 0 11 = s.1 0 11 + 1 := by rw [mixc (by decide), w_get, if_pos rfl, if_pos rfl]
          have m012 : (mix (zz_w c5 0 11 (s.1 0 11 + 1)) (zz_w r3 79 35 (s.1 0 11 + 1))).1 0 12 = s.1 0 12 := by
            rw [mixc (by decide), w_get, if_pos rfl, if_neg (by decide), c5o 0 (by omega) (by omega), c4o 0 (by decide), f1 0 (by decide) (by decide) (by decide)]
          have tS : ∀ p, p < 5 → p ≠ n → tSame s (mix (zz_w c5 0 11 (s.1 0 11 + 1)) (zz_w r3 79 35 (s.1 0 11 + 1))) p := fun p hp hpn L hL => by
            rw [← hro 96 (by decide), ← hro 97 (by decide), ← hro 98 (by decide), ← hro 99 (by decide), ← hro 100 (by decide)] at hL
            rw [R 96 (by decide), R 97 (by decide), R 98 (by decide), R 99 (by decide), R 100 (by decide)]
            exact m7 p L hp hpn (lF_tSame g2' hp L hL)
          refine (law_at _).mpr ⟨⟨?_, ?_⟩, ?_, fun i hi hi2 => ?_, ?_⟩
          · rw [m011, mixr (by decide), w_get, if_pos rfl, if_pos rfl]
          · rw [m012, K 36 (by omega) (by decide)]; exact a2
          · rw [m011, m012, hinc]; omega
          · rw [m011, hinc] at hi2
            by_cases c : i = n
            · subst c
              unfold lwc
              rw [R 96 (by decide), R 97 (by decide), R 98 (by decide), R 99 (by decide), R 100 (by decide), mixc (by omega), mixc (by omega), w_row, if_neg (by omega), w_row, if_neg (by omega), c5z]
              have hz : c4.1 45 0 = c2.1 45 0 := by rw [c4o 45 (by decide)]
              refine ⟨L2, m2, by rw [hz]; omega, by rw [hz]; omega, ?_⟩
              rw [hz, hsz, Int.toNat_natCast]
              exact (clx_same L2 0 sz2 k1.2.2.2.2.1 fun k hk => by rw [c5c k (by omega), c4o 46 (by decide)]).2
            · exact lwc_same (a4 i hi (by omega)) (tS i (by omega) c) (C _ (by omega) (by omega) (by omega) (by omega) (by omega)) (C _ (by omega) (by omega) (by omega) (by omega) (by omega))
          · exact rmc_same a5 (tS 4 (by decide) (by omega)) (C 16 (by decide) (by decide) (by decide) (by omega) (by omega)) (C 17 (by decide) (by decide) (by decide) (by omega) (by omega)) (C 18 (by decide) (by decide) (by decide) (by omega) (by omega)) (K 37 (by omega) (by decide))
      · rw [w_row, if_neg (by omega), c5o o (by omega) (by omega), c4o o (by omega), f1 o (by omega) (by omega) (by omega)]
      · show c5.2 o = s.2 o
        rw [c5s, c4s, f2]
      · rw [w_row, if_neg (by omega), m3 o (by omega) (by omega) (by omega) (by omega) (by omega) (by omega), f4 o (by omega) (by omega) (by omega) (by omega) (by omega) (by omega)]
      · show r3.2 o = r.2 o
        rw [m4, f5]
    · have hx : ¬ x < 0 := by rw [i_lt, show (0 : Int32).toInt = 0 from rfl]; omega
      obtain ⟨j1, j2, j3⟩ := tape_bad h hr g2'
      rw [if_neg hx, k2, Option.bind_some, if_neg hx]
      exact ⟨_, _, _, rfl, rfl, j1, j2, j3⟩
