/-- what stands between nights, on both sides -/
def nB (c r : zz_S) (S C W T : Nat) : Prop := nS c r S C W ∧ lfOK c r C ∧ ((r.1 79 12 = c.1 10 0 ∧ r.1 88 = c.1 11 ∧ r.1 89 = c.1 12 ∧ r.1 90 = c.1 13) ∧ ((c.1 10 0).toInt = T ∧ T ≤ 60) ∧ (∀ k, k < T → tOK (c.1 11 k) (c.1 12 k) (c.1 13 k)) ∧ byM (c.1 11) (c.1 14) T) ∧
  roomOK (c.1 16) (c.1 17) (c.1 18) (r.1 79 37) (r.1 96) (r.1 97) (r.1 98) (r.1 99) (r.1 100)
def nL (c r : zz_S) (l : Int32) : Prop := (-1 ≤ l.toInt ∧ l.toInt < 4) ∧ (0 ≤ l.toInt → lawOK (c.1 (55 + 3 * l.toInt.toNat) 0) (c.1 (56 + 3 * l.toInt.toNat)) (r.1 96) (r.1 97) (r.1 98) (r.1 99) (r.1 100) l.toInt.toNat)
def oF (c r c2 r2 : zz_S) : Prop := ((∀ o, (o < 20 ∨ 38 < o) → o ≠ 57 → o ≠ 60 → o ≠ 63 → o ≠ 66 → c2.1 o = c.1 o) ∧ ∀ o, o ≠ 37 → o ≠ 38 → c2.2 o = c.2 o) ∧
  (∀ o, o ≠ 79 → ¬ (101 ≤ o ∧ o ≤ 114) → r2.1 o = r.1 o) ∧ (∀ k, k ≠ 54 → r2.1 79 k = r.1 79 k) ∧ r2.2 = r.2
theorem oF_me (c r : zz_S) : oF c r c r := ⟨⟨fun _ _ _ _ _ _ => rfl, fun _ _ _ => rfl⟩, fun _ _ _ => rfl, fun _ _ => rfl, rfl⟩
theorem oF_tr {c r c2 r2 c3 r3 : zz_S} (h : oF c r c2 r2) (k : oF c2 r2 c3 r3) : oF c r c3 r3 := by
  obtain ⟨⟨h1, h2⟩, h3, h3', h4⟩ := h
  obtain ⟨⟨k1, k2⟩, k3, k3', k4⟩ := k
  exact ⟨⟨fun o a b d e f => (k1 o a b d e f).trans (h1 o a b d e f), fun o a b => (k2 o a b).trans (h2 o a b)⟩, fun o a b => (k3 o a b).trans (h3 o a b), fun k a => (k3' k a).trans (h3' k a), k4.trans h4⟩
theorem oF_nB {c r c2 r2 : zz_S} {S C W T : Nat} (h : oF c r c2 r2) (hb : nB c r S C W T) : nB c2 r2 S C W T := by
  obtain ⟨⟨h1, h2⟩, h3, h3', h4⟩ := h
  obtain ⟨b1, b2, b3, b4⟩ := hb
  refine ⟨nS_fr b1 (fun o a b => h1 o (by omega) (by omega) (by omega) (by omega) (by omega)) (fun k _ => h3' k (by omega)) (fun o a b => h3 o (by omega) (by omega)), ?_, ?_, ?_⟩
  · unfold lfOK at b2 ⊢
    rw [h1 6 (by omega) (by omega) (by omega) (by omega) (by omega), h3 84 (by omega) (by omega)]
    exact b2
  · rw [h1 10 (by omega) (by decide) (by decide) (by decide) (by decide), h1 11 (by omega) (by decide) (by decide) (by decide) (by decide), h1 12 (by omega) (by decide) (by decide) (by decide) (by decide), h1 13 (by omega) (by decide) (by decide) (by decide) (by decide), h1 14 (by omega) (by decide) (by decide) (by decide) (by decide), h3' 12 (by decide), h3 88 (by decide) (by decide), h3 89 (by decide) (by decide), h3 90 (by decide) (by decide)]
    exact b3
  · rw [h1 16 (by omega) (by decide) (by decide) (by decide) (by decide), h1 17 (by omega) (by decide) (by decide) (by decide) (by decide), h1 18 (by omega) (by decide) (by decide) (by decide) (by decide), h3' 37 (by decide), h3 96 (by decide) (by decide), h3 97 (by decide) (by decide), h3 98 (by decide) (by decide), h3 99 (by decide) (by decide), h3 100 (by decide) (by decide)]
    exact b4
theorem oF_nL {c r c2 r2 : zz_S} {l : Int32} (h : oF c r c2 r2) (hl : nL c r l) : nL c2 r2 l := by
  obtain ⟨⟨h1, h2⟩, h3, h3', h4⟩ := h
  obtain ⟨⟨l1, l2⟩, l3⟩ := hl
  refine ⟨⟨l1, l2⟩, fun h0 => ?_⟩
  rw [h1 (55 + 3 * l.toInt.toNat) (by omega) (by omega) (by omega) (by omega) (by omega), h1 (56 + 3 * l.toInt.toNat) (by omega) (by omega) (by omega) (by omega) (by omega), h3 96 (by decide) (by decide), h3 97 (by decide) (by decide), h3 98 (by decide) (by decide), h3 99 (by decide) (by decide), h3 100 (by decide) (by decide)]
  exact l3 h0
theorem oF_pl {c r c2 r2 : zz_S} {pl S W : Nat} (h : oF c r c2 r2) (hp : plOK c r pl S W) : plOK c2 r2 pl S W := by
  obtain ⟨⟨h1, h2⟩, h3, h3', h4⟩ := h
  obtain ⟨p0, p1⟩ := hp
  refine ⟨p0, fun i hi => ?_⟩
  rw [h1 pl (by omega) (by omega) (by omega) (by omega) (by omega), h1 3 (by omega) (by omega) (by omega) (by omega) (by omega), h3 80 (by omega) (by omega)]
  exact p1 i hi
/-- a night by told turns, to a minute -/
theorem night_of {c r : zz_S} {S C W T pl last : Nat} {l v o last' : Int32} (hb : nB c r S C W T) (hl : nL c r l) (hp : plOK c r pl S W) (h36 : r.1 79 36 = l) (hv : r.1 79 38 = v ∧ -9 ≤ v.toInt ∧ v.toInt ≤ 9) (ho : r.1 79 51 = o ∧ -1 ≤ o.toInt ∧ o.toInt ≤ 5) (hla : last'.toInt = last) (hla2 : last ≤ 479) :
    ∃ c1, f_Night_begin l pl c = some c1 ∧ (c1.1 20 13 = 0 ∧ c1.1 20 14 = -1) ∧ ∀ c1' : zz_S, (∀ a, a ≠ 20 → c1'.1 a = c1.1 a) → (∀ k, k ≠ 13 → k ≠ 14 → c1'.1 20 k = c1.1 20 k) → c1'.1 20 13 = v → c1'.1 20 14 = o → c1'.2 = c1.2 →
      ∃ c2 r2, f_Night_play last' c1' = some c2 ∧ f_M_night last' r = some r2 ∧ nM c2 r2 S C W T (last + 1) ∧ oF c r c2 r2 := by
  obtain ⟨b1, b2, ⟨b3, b4, b5, b6⟩, b7⟩ := hb
  obtain ⟨c1, r1, e1, e2, e3, e4, e5, ⟨f10, f11, f12, f13, f14, f16, f15⟩, ⟨g1, g2⟩, g3, g4⟩ := begin_of l b1 b2 hp
  refine ⟨c1, e1, ⟨f13, f14⟩, fun c1' h1 h2 h3 h4 h5 => ?_⟩
  have r79 : r1.1 79 = r.1 79 := g3 79 (by omega) (by omega)
  have C1 : ∀ a, a < 20 ∨ 38 < a → c1'.1 a = c.1 a := fun a ha => (h1 a (by omega)).trans (g1 a ha)
  have R1 : ∀ a, a < 101 → r1.1 a = r.1 a := fun a ha => g3 a (by omega) (by omega)
  have hM : nM c1' r1 S C W T 0 := by
    refine ⟨nS_fr b1 (fun a _ _ => C1 a (by omega)) (fun k _ => by rw [r79]) (fun a _ _ => R1 a (by omega)), ?_, ?_, ?_, nD_fr e3 (fun a ha => h1 a (by omega)) h5 (fun _ _ => rfl), fun i hi => ?_, fun i hi => ?_, ?_⟩
    · obtain ⟨⟨l1, l2⟩, l3⟩ := hl
      unfold nW
      rw [h2 10 (by decide) (by decide), f10, r79, R1 96 (by decide), R1 97 (by decide), R1 98 (by decide), R1 99 (by decide), R1 100 (by decide)]
      refine ⟨h36, ⟨l1, l2⟩, fun h0 => ?_⟩
      rw [C1 (55 + 3 * l.toInt.toNat) (by omega), C1 (56 + 3 * l.toInt.toNat) (by omega)]
      exact l3 h0
    · unfold nR
      rw [C1 16 (by omega), C1 17 (by omega), C1 18 (by omega), h3, r79, R1 96 (by decide), R1 97 (by decide), R1 98 (by decide), R1 99 (by decide), R1 100 (by decide)]
      exact ⟨b7, hv⟩
    · unfold nT
      rw [C1 10 (by omega), C1 11 (by omega), C1 12 (by omega), C1 13 (by omega), C1 14 (by omega), h4, r79, R1 88 (by decide), R1 89 (by decide), R1 90 (by decide)]
      exact ⟨b3, b4, b5, b6, ho⟩
    · rw [h1 35 (by decide), e4 i hi]
      exact (wOwn_same fun a ha => h1 a (by omega)).symm
    · have : tC c1' i = tC c1 i := by
        unfold tC
        rw [h1 22 (by decide), h1 23 (by decide), h1 24 (by decide), h1 25 (by decide), h1 26 (by decide), h1 27 (by decide)]
      rw [this]
      exact e5 i hi
    · rw [h2 11 (by decide) (by decide), f11]; rfl
  have hX : nX c1' T 0 := ⟨0, by rw [h2 12 (by decide) (by decide), f12]; rfl, Nat.zero_le _, fun a h => by omega, fun a _ ha => (tm_bd hM.2.2.2.1 ha).1⟩
  obtain ⟨c2, r2, k1, k2, k3, k4, k5⟩ := play_told hla hla2 480 0 zF zF 0 0 c1' r1 (by omega) (by omega) hM hX (by rw [h2 16 (by decide) (by decide), f16]; decide) rfl (by decide) (by decide) (by unfold zF; omega) (by unfold zF; omega)
  refine ⟨c2, r2, k1, ?_, k4, ?_⟩
  · unfold f_M_night
    rw [e2, Option.bind_some, k2]
  · obtain ⟨⟨n1, n1', n2⟩, n3, n3', n4⟩ := k3
    exact ⟨⟨fun a ha h6 h7 h8 h9 => (n1 a ha h6 h7 h8 h9).trans (C1 a (by omega)), fun a h6 h7 => (n2 a h6 h7).trans (by rw [h5]; exact g2 a h6 h7)⟩, fun a h6 h7 => (n3 a h6 h7).trans (g3 a (by omega) (by omega)), fun k hk => (n3' k hk).trans (by rw [r79]), n4.trans g4⟩
/-! between calls -/
theorem iv_nB {s r : zz_S} (h : iv s) (hr : mix s r = s) : ∃ S C W T : Nat, nB s r S C W T ∧ (s.1 1 1).toInt = S ∧ (s.1 1 2).toInt = C ∧ plOK s r 2 S W ∧ (∀ l : Int32, -1 ≤ l.toInt → l.toInt < (s.1 0 11).toInt → nL s r l) ∧ (r.1 79 38 = 0 ∧ r.1 79 51 = -1 ∧ r.1 79 36 = s.1 0 12 ∧ r.1 79 35 = s.1 0 11) ∧ (-1 ≤ (s.1 0 12).toInt ∧ (s.1 0 12).toInt < (s.1 0 11).toInt ∧ (s.1 0 11).toInt ≤ 4) := by
  have hro : ∀ o, ¬ o < 79 → r.1 o = s.1 o := fun o ho => by
    have := congrArg (fun x : zz_S => x.1 o) hr
    rw [← this]
    exact (mixr ho).symm
  obtain ⟨⟨⟨q1, q2, q3⟩, ⟨q4, q5, q6, q7⟩, ⟨q8, q9, q10, q11⟩, ⟨w1, w2, w3, w4, w5, w6⟩, sl, cv⟩, ⟨t1, ⟨t2, t3, t4⟩, ⟨t5, t6⟩, t7, t8⟩, -, -, -, -, hla, hre⟩ := h
  obtain ⟨⟨a1, a2⟩, ⟨a3, a3', a3'', a3'''⟩, a4, a5⟩ := (law_at s).mp hla
  have e79 : r.1 79 = s.1 79 := hro 79 (by decide)
  refine ⟨(s.1 1 1).toInt.toNat, (s.1 1 2).toInt.toNat, (s.1 1 0).toInt.toNat, (s.1 10 0).toInt.toNat, ⟨⟨⟨by omega, by omega, by omega⟩, ⟨by omega, by omega⟩, ⟨by omega, by omega⟩, ?_, ?_, fun i hi => ?_, fun k hk => ?_⟩, ⟨?_, fun k hk => ?_⟩, ⟨?_, ⟨by omega, by omega⟩, fun k hk => t7 k (by omega), t8⟩, ?_⟩, by omega, by omega, ⟨Or.inl rfl, fun i hi => ?_⟩, fun l h1 h2 => ⟨⟨h1, by omega⟩, fun h0 => ?_⟩, ⟨?_, ?_, ?_, ?_⟩, a3'', a3''', a3'⟩
  · rw [e79]; exact ⟨q1, q2, q3⟩
  · rw [hro 81 (by decide), hro 82 (by decide), hro 83 (by decide), hro 85 (by decide), hro 86 (by decide), hro 87 (by decide)]
    exact ⟨q5, q6, q7, q9, q10, q11⟩
  · obtain ⟨x1, x2, x3, x4, x5, x6, x7, x8⟩ := sl i (by omega)
    exact ⟨⟨x2, x3⟩, ⟨x5, x6⟩, x7, x8⟩
  · obtain ⟨x1, x2, x3, x4, x5, x6, x7, x8⟩ := cv k (by omega)
    exact ⟨⟨x3, x4⟩, ⟨x5, x6⟩, x7, x8⟩
  · rw [hro 84 (by decide)]; exact q8
  · obtain ⟨x1, x2, x3, x4, x5, x6, x7, x8⟩ := cv k (by omega)
    exact ⟨x1, x2⟩
  · rw [e79, hro 88 (by decide), hro 89 (by decide), hro 90 (by decide)]
    exact ⟨t1, t2, t3, t4⟩
  · rw [e79, hro 96 (by decide), hro 97 (by decide), hro 98 (by decide), hro 99 (by decide), hro 100 (by decide)]
    exact a5
  · obtain ⟨x1, x2, x3, x4, x5, x6, x7, x8⟩ := sl i (by omega)
    rw [hro 80 (by decide), q4]
    exact ⟨rfl, x1, by omega⟩
  · rw [hro 96 (by decide), hro 97 (by decide), hro 98 (by decide), hro 99 (by decide), hro 100 (by decide)]
    exact a4 l.toInt.toNat (by omega) (by omega)
  · rw [e79]; exact i_lit (b := 0) hre.2
  · rw [e79]; exact i_lit (b := -1) hre.1
  · rw [e79]; exact a2
  · rw [e79]; exact a1
theorem oF_iv {s r c2 r2 : zz_S} (h : iv s) (hr : mix s r = s) (hF : oF s r c2 r2) : iv (mix c2 r2) ∧ rf s c2 ∧ cl r r2 := by
  obtain ⟨⟨h1, h2⟩, h3, h3', h4⟩ := hF
  have hro : ∀ o, ¬ o < 79 → r.1 o = s.1 o := fun o ho => by
    have := congrArg (fun x : zz_S => x.1 o) hr
    rw [← this]
    exact (mixr ho).symm
  have hro2 : ∀ o, ¬ o < 79 → r.2 o = s.2 o := fun o ho => by
    have := congrArg (fun x : zz_S => x.2 o) hr
    rw [← this]
    show r.2 o = (if o < 79 then s.2 o else r.2 o)
    rw [if_neg ho]
  have f : ∀ o, (o < 20 ∨ (38 < o ∧ o < 79)) → o ≠ 57 → o ≠ 60 → o ≠ 63 → o ≠ 66 → (mix c2 r2).1 o = s.1 o := fun o a b d e x => by
    rw [mixc (by omega)]
    exact h1 o (by omega) b d e x
  have g : ∀ o, 79 < o → ¬ (101 ≤ o ∧ o ≤ 114) → (mix c2 r2).1 o = s.1 o := fun o a b => by
    rw [mixr (by omega), h3 o (by omega) b, hro o (by omega)]
  have h79 : ∀ k, k ≠ 54 → (mix c2 r2).1 79 k = s.1 79 k := fun k hk => by
    rw [mixr (by decide), h3' k hk, hro 79 (by decide)]
  have j : ∀ o, o ≠ 37 → o ≠ 38 → (mix c2 r2).2 o = s.2 o := fun o a b => by
    show (if o < 79 then c2.2 o else r2.2 o) = s.2 o
    by_cases q : o < 79
    · rw [if_pos q, h2 o a b]
    · rw [if_neg q, h4, hro2 o q]
  obtain ⟨hb, htu, hc', hta, hbo, hsh, hla, hre⟩ := h
  refine ⟨⟨?_, ?_, ?_, ?_, ?_, ?_, ?_, ?_⟩, fun o ho => ⟨h1 o (by omega) (by omega) (by omega) (by omega) (by omega), h2 o (by omega) (by omega)⟩, fun o ho => ⟨h3 o (by omega) (by omega), by rw [h4]⟩⟩
  · unfold iv_bed at hb ⊢
    rw [h79 1 (by decide), h79 2 (by decide), h79 7 (by decide), f 1 (by omega) (by decide) (by decide) (by decide) (by decide), f 2 (by omega) (by decide) (by decide) (by decide) (by decide), f 3 (by omega) (by decide) (by decide) (by decide) (by decide), f 4 (by omega) (by decide) (by decide) (by decide) (by decide), f 5 (by omega) (by decide) (by decide) (by decide) (by decide), f 6 (by omega) (by decide) (by decide) (by decide) (by decide), f 7 (by omega) (by decide) (by decide) (by decide) (by decide), f 8 (by omega) (by decide) (by decide) (by decide) (by decide), f 9 (by omega) (by decide) (by decide) (by decide) (by decide), g 80 (by omega) (by omega), g 81 (by omega) (by omega), g 82 (by omega) (by omega), g 83 (by omega) (by omega), g 84 (by omega) (by omega), g 85 (by omega) (by omega), g 86 (by omega) (by omega), g 87 (by omega) (by omega)]
    exact hb
  · unfold iv_turn at htu ⊢
    rw [h79 12 (by decide), f 10 (by omega) (by decide) (by decide) (by decide) (by decide), f 11 (by omega) (by decide) (by decide) (by decide) (by decide), f 12 (by omega) (by decide) (by decide) (by decide) (by decide), f 13 (by omega) (by decide) (by decide) (by decide) (by decide), f 14 (by omega) (by decide) (by decide) (by decide) (by decide), g 88 (by omega) (by omega), g 89 (by omega) (by omega), g 90 (by omega) (by omega)]
    exact htu
  · unfold iv_chg at hc' ⊢
    rw [h79 16 (by decide), h79 17 (by decide), f 1 (by omega) (by decide) (by decide) (by decide) (by decide), f 39 (by omega) (by decide) (by decide) (by decide) (by decide), f 40 (by omega) (by decide) (by decide) (by decide) (by decide), f 41 (by omega) (by decide) (by decide) (by decide) (by decide), f 42 (by omega) (by decide) (by decide) (by decide) (by decide), f 43 (by omega) (by decide) (by decide) (by decide) (by decide), g 91 (by omega) (by omega), g 92 (by omega) (by omega), g 93 (by omega) (by omega), g 94 (by omega) (by omega)]
    exact hc'
  · unfold iv_tape at hta ⊢
    rw [h79 23 (by decide), f 44 (by omega) (by decide) (by decide) (by decide) (by decide), f 48 (by omega) (by decide) (by decide) (by decide) (by decide), g 95 (by omega) (by omega)]
    exact hta
  · unfold iv_body at hbo ⊢
    rw [h79 55 (by decide), h79 57 (by decide), f 49 (by omega) (by decide) (by decide) (by decide) (by decide), f 50 (by omega) (by decide) (by decide) (by decide) (by decide), f 51 (by omega) (by decide) (by decide) (by decide) (by decide), g 117 (by omega) (by omega), g 118 (by omega) (by omega)]
    exact hbo
  · unfold iv_shl at hsh ⊢
    rw [f 49 (by omega) (by decide) (by decide) (by decide) (by decide), f 67 (by omega) (by decide) (by decide) (by decide) (by decide), f 69 (by omega) (by decide) (by decide) (by decide) (by decide), f 71 (by omega) (by decide) (by decide) (by decide) (by decide), f 73 (by omega) (by decide) (by decide) (by decide) (by decide), f 75 (by omega) (by decide) (by decide) (by decide) (by decide), f 77 (by omega) (by decide) (by decide) (by decide) (by decide), g 119 (by omega) (by omega), g 120 (by omega) (by omega), j 68 (by decide) (by decide), j 70 (by decide) (by decide), j 72 (by decide) (by decide), j 74 (by decide) (by decide), j 76 (by decide) (by decide), j 78 (by decide) (by decide), j 121 (by decide) (by decide)]
    exact hsh
  · unfold iv_law at hla ⊢
    rw [h79 35 (by decide), h79 36 (by decide), h79 37 (by decide), f 0 (by omega) (by decide) (by decide) (by decide) (by decide), f 16 (by omega) (by decide) (by decide) (by decide) (by decide), f 17 (by omega) (by decide) (by decide) (by decide) (by decide), f 18 (by omega) (by decide) (by decide) (by decide) (by decide), f 55 (by omega) (by decide) (by decide) (by decide) (by decide), f 56 (by omega) (by decide) (by decide) (by decide) (by decide), f 58 (by omega) (by decide) (by decide) (by decide) (by decide), f 59 (by omega) (by decide) (by decide) (by decide) (by decide), f 61 (by omega) (by decide) (by decide) (by decide) (by decide), f 62 (by omega) (by decide) (by decide) (by decide) (by decide), f 64 (by omega) (by decide) (by decide) (by decide) (by decide), f 65 (by omega) (by decide) (by decide) (by decide) (by decide), g 96 (by omega) (by omega), g 97 (by omega) (by omega), g 98 (by omega) (by omega), g 99 (by omega) (by omega), g 100 (by omega) (by omega)]
    exact hla
  · unfold iv_rest at hre ⊢
    rw [h79 51 (by decide), h79 38 (by decide)]
    exact hre
