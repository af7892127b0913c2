theorem tm_mono {c r : zz_S} {T a b : Nat} (hT : nT c r T) (hab : a ≤ b) (hb : b < T) : tm c a ≤ tm c b := by
  by_cases e : a = b
  · rw [e]; exact Int.le_refl _
  · have := tk_lex hT (show a < b by omega) hb
    omega
theorem tRC {r c : zz_S} {i : Nat} : tR r i = tC c i ↔ (r.1 107 i).toInt = (c.1 22 i).toInt ∧ (r.1 108 i).toInt = (c.1 23 i).toInt ∧ (r.1 109 i).toInt = (c.1 24 i).toInt ∧ (r.1 110 i).toInt = (c.1 27 i).toInt ∧ (r.1 111 i).toInt = (c.1 25 i).toInt ∧ (r.1 112 i).toInt = (c.1 26 i).toInt := by
  unfold tR tC
  simp only [Prod.mk.injEq]
theorem tOkC {M : Int} {c : zz_S} {i : Nat} : tOk M (tC c i) ↔ (0 ≤ (c.1 22 i).toInt ∧ (c.1 22 i).toInt ≤ M) ∧ (0 ≤ (c.1 23 i).toInt ∧ (c.1 23 i).toInt ≤ M) ∧ (0 ≤ (c.1 24 i).toInt ∧ (c.1 24 i).toInt ≤ M) ∧ (0 ≤ (c.1 27 i).toInt ∧ (c.1 27 i).toInt ≤ M) ∧ ((c.1 25 i).toInt = -2 ∨ 0 ≤ (c.1 25 i).toInt) ∧ (10 ≤ (c.1 27 i).toInt → 0 ≤ (c.1 25 i).toInt) := by
  unfold tOk tC
  exact Iff.rfl
theorem ct_after {c r c1 r1 : zz_S} {i : Nat} {M : Int} (h : tR r i = tC c i ∧ tOk M (tC c i)) (y : r1.1 111 i = c1.1 25 i ∧ r1.1 112 i = c1.1 26 i ∧ (c1.1 25 i = -2 ∨ 0 ≤ (c1.1 25 i).toInt) ∧ (10 ≤ (c1.1 27 i).toInt → 0 ≤ (c1.1 25 i).toInt)) (hc : ∀ o, o = 22 ∨ o = 23 ∨ o = 24 ∨ o = 27 → c1.1 o = c.1 o) (hr : ∀ o, 107 ≤ o → o ≤ 110 → r1.1 o = r.1 o) : tR r1 i = tC c1 i ∧ tOk M (tC c1 i) := by
  obtain ⟨h1, h2⟩ := h
  obtain ⟨q1, q2, q3, q4, -, -⟩ := tRC.mp h1
  obtain ⟨u1, u2, u3, u4, -, -⟩ := tOkC.mp h2
  obtain ⟨y1, y2, y3, y4⟩ := y
  have e2 : (-2 : Int32).toInt = -2 := by decide
  refine ⟨tRC.mpr ?_, tOkC.mpr ?_⟩
  · rw [hr 107 (by omega) (by omega), hr 108 (by omega) (by omega), hr 109 (by omega) (by omega), hr 110 (by omega) (by omega), hc 22 (by omega), hc 23 (by omega), hc 24 (by omega), hc 27 (by omega), y1, y2]
    exact ⟨q1, q2, q3, q4, rfl, rfl⟩
  · rw [hc 22 (by omega), hc 23 (by omega), hc 24 (by omega), hc 27 (by omega)]
    rw [hc 27 (by omega)] at y4
    refine ⟨u1, u2, u3, u4, ?_, y4⟩
    rcases y3 with y3 | y3
    · exact Or.inl (by rw [y3]; exact e2)
    · exact Or.inr y3
/-- told turns: the night to a minute -/
theorem play_told {S C W T last : Nat} {last' : Int32} (hl : last'.toInt = last) (hl2 : last ≤ 479) :
    ∀ (q m n n2 : Nat) (m' step' : Int32) (c r : zz_S), last + 1 - m ≤ q → m ≤ last + 1 → nM c r S C W T m → nX c T m → (c.1 20 16).toInt < 0 → m'.toInt = m → 0 ≤ step'.toInt → step'.toInt ≤ m → last + 1 - m < n → last + 1 - m < n2 →
      ∃ c2 r2 : zz_S, f_Night_play_L2 n last' step' c = some c2 ∧ f_M_night_L6 n2 last' m' r = some r2 ∧ nF c r c2 r2 ∧ nM c2 r2 S C W T (last + 1) ∧ nX c2 T (last + 1) := by
  have l480 : (480 : Int32).toInt = 480 := rfl
  have l0 : (0 : Int32).toInt = 0 := rfl
  intro q
  induction q with
  | zero =>
    intro m n n2 m' step' c r h1 h2 hM hX hO hm hs0 hs1 hn hn2
    obtain ⟨n, rfl⟩ : ∃ x, n = x + 1 := ⟨n - 1, by omega⟩
    obtain ⟨n2, rfl⟩ : ∃ x, n2 = x + 1 := ⟨n2 - 1, by omega⟩
    have e : m = last + 1 := by omega
    subst e
    refine ⟨c, r, ?_, ?_, nF_me c r, hM, hX⟩
    · rw [f_Night_play_L2]
      by_cases a : (480 : Int32) ≤ step'
      · rw [if_pos a]
      · rw [if_neg a, if_pos (by rw [i_lt, hM.2.2.2.2.2.2.2]; omega)]
    · rw [f_M_night_L6, if_pos (by rw [i_lt]; omega)]
  | succ q ih =>
    intro m n n2 m' step' c r h1 h2 hM hX hO hm hs0 hs1 hn hn2
    by_cases hend : m = last + 1
    · obtain ⟨n, rfl⟩ : ∃ x, n = x + 1 := ⟨n - 1, by omega⟩
      obtain ⟨n2, rfl⟩ : ∃ x, n2 = x + 1 := ⟨n2 - 1, by omega⟩
      subst hend
      refine ⟨c, r, ?_, ?_, nF_me c r, hM, hX⟩
      · rw [f_Night_play_L2]
        by_cases a : (480 : Int32) ≤ step'
        · rw [if_pos a]
        · rw [if_neg a, if_pos (by rw [i_lt, hM.2.2.2.2.2.2.2]; omega)]
      · rw [f_M_night_L6, if_pos (by rw [i_lt]; omega)]
    · obtain ⟨n, rfl⟩ : ∃ x, n = x + 1 := ⟨n - 1, by omega⟩
      obtain ⟨hs, hw, hR, hT, hD, hown, hct, hnext⟩ := hM
      have hml : m ≤ last := by omega
      have em : c.1 20 11 = m' := i_lit (by omega)
      -- the turns of the minute
      obtain ⟨c1, r1, g1, g2, g3, g4, g5, p, p1, p2, p3, p4⟩ := told_of hm hs hw hT hD (by omega) hown hX
      have hs1' := mF_nS g3 hs
      have hR1 := mF_nR g3 hR
      have hT1 := mF_nT g3 hT
      have hw1 := mF_nW g3 hw
      have hT60 := hT1.2.1.2
      have hT10 := hT1.2.1.1
      have c1o : ∀ o, (o < 20 ∨ (21 ≤ o ∧ o ≤ 24) ∨ o = 27) → c1.1 o = c.1 o := fun o ho => g3.1.1 o (by omega) (by omega) (by omega) (by omega) (by omega) (by omega) (by omega) (by omega) (by omega) (by omega) (by omega) (by omega) (by omega) (by omega) (by omega)
      have c120 : ∀ k, k ≠ 12 → k ≠ 15 → c1.1 20 k = c.1 20 k := g3.1.2.1
      have hct1 : ∀ i, i < S → tR r1 i = tC c1 i ∧ tOk m (tC c1 i) := fun i hi => ct_after (hct i hi) (g4.2.2.2.2.2 i hi) (fun o ho => c1o o (by omega)) (fun o a b => g3.2.1 o (by omega) (by omega) (by omega))
      have hroom := (hR1.1.1 m (by omega)).2.1
      -- the next minute with turns
      obtain ⟨t0, ht0, ht1, ht2⟩ : ∃ t0 : Int32, f_Night_minuteOfTurns m' c1 = some t0 ∧ ((m : Int) + 1 ≤ t0.toInt ∧ t0.toInt ≤ 480) ∧ ∀ a, p ≤ a → a < T → t0.toInt ≤ tm c1 a := by
        unfold f_Night_minuteOfTurns
        rw [if_pos (by rw [i_lt, c120 16 (by decide) (by decide), l0]; exact hO)]
        by_cases e : c1.1 10 0 ≤ c1.1 20 12
        · rw [if_pos e]
          rw [i_le] at e
          exact ⟨480, rfl, ⟨by rw [l480]; omega, by decide⟩, fun a h1 h2 => by omega⟩
        · rw [if_neg e]
          rw [i_le] at e
          have hp : p < T := by omega
          have h1 := tk_lt hT1 hp
          rw [if_pos (i_in.mpr (by omega)), nz_eq p1, if_pos (i_in.mpr (by omega)), nz_eq h1.2]
          have hb := tm_bd hT1 hp
          have h3 := p4 p (Nat.le_refl _) hp
          refine ⟨_, rfl, ?_, fun a h1 h2 => tm_mono hT1 h1 h2⟩
          have : (c1.1 11 (tk c1 p)).toInt = tm c1 p := rfl
          omega
      have hla := i_inc (a := last') (by omega)
      have hmin := zmin_toInt (last' + 1) (zz_min (c1.1 17 m) t0)
      have hmin2 := zmin_toInt (c1.1 17 m) t0
      generalize htt : zz_min (last' + 1) (zz_min (c1.1 17 m) t0) = tt at *
      obtain ⟨nn, hnn⟩ : ∃ nn : Nat, tt.toInt = (m + nn : Nat) := ⟨(tt.toInt - m).toNat, by omega⟩
      have hnn1 : 1 ≤ nn := by omega
      have hnl : m + nn ≤ last + 1 := by omega
      obtain ⟨f, rfl⟩ : ∃ f, n2 = (f + (nn - 1)) + 1 := ⟨n2 - 1 - (nn - 1), by omega⟩
      -- quiet minutes
      have HG : ∀ (f k : Nat) (k' : Int32) (r' : zz_S), k'.toInt = k → m < k → k < m + nn → kF r1 r' → f_M_night_L6 (f + 1) last' k' r' = (f_M_countNow k' r').bind fun r => f_M_night_L6 f last' (k' + 1) r := by
        intro f k k' r' b1 b2 b3 b4
        have hmi : f_M_minute k' r' = some r' := by
          unfold f_M_minute
          refine mi_loop (c := c1) b1 (by rw [b4.1 79 (by decide) (by decide) (by omega)]; exact hT1.1.1) (by rw [b4.1 88 (by decide) (by decide) (by omega)]; exact hT1.1.2.1) hT10 hT60 (fun i hi hik => ?_) T 0 zF 0 (by omega) rfl (by unfold zF; omega)
          obtain ⟨a, a1, a2⟩ := hT1.2.2.2.1.2.1 i hi
          have hta : tk c1 a = i := by unfold tk; omega
          have hma : tm c1 a = k := by unfold tm; rw [hta]; exact hik
          by_cases ap : a < p
          · have := p3 a ap a1; omega
          · have := ht2 a (by omega) a1; omega
        rw [f_M_night_L6, if_neg (by rw [i_lt]; omega), hmi, Option.bind_some]
      obtain ⟨c2, k2, r2, s1, s2, s3, ⟨s4, s5, s6, s7⟩, s8, s9, s10⟩ := seg_of (f_Night_play_L2 n) last' step' (fun f k r => f_M_night_L6 f last' k r) f hm hs1' hR1 g4 (by omega) g5 hct1 hnn hnn1 (by omega) (by omega) HG
      have hF12 : nF c1 r1 c2 r2 := ⟨⟨fun o a _ _ _ _ => s4 o (by omega) (by omega), fun k a _ _ => s5 k a, fun _ _ _ => by rw [s7]⟩, fun o a b => s8.1 o (by omega) (by omega) (by omega), fun k _ => by rw [s8.1 79 (by decide) (by decide) (by omega)], s8.2⟩
      have hF : nF c r c2 r2 := nF_tr (nF_of g3) hF12
      have hst := i_inc (a := step') (by omega)
      have e1 : f_Night_play_L2 (n + 1) last' step' c = f_Night_play_L2 n last' (step' + 1) c2 := by
        rw [f_Night_play_L2, if_neg (by rw [i_le, l480]; omega), if_neg (by rw [i_lt, hnext]; omega), if_neg (by rw [i_le, l0]; omega), em, g1, Option.bind_some]
        unfold f_Night_play_J49
        rw [if_pos (i_in.mpr (by omega)), nz_eq hm, ht0, Option.bind_some, htt, s1]
      have e2 : f_M_night_L6 ((f + (nn - 1)) + 1) last' m' r = f_M_night_L6 f last' k2 r2 := by
        rw [f_M_night_L6, if_neg (by rw [i_lt]; omega), g2, Option.bind_some]
        exact s2
      rw [e1, e2]
      have htm2 : tm c2 = tm c1 := nF_tm hF12
      obtain ⟨c3, r3, j1, j2, j3, j4, j5⟩ := ih (m + nn) n f k2 (step' + 1) c2 r2 (by omega) hnl ⟨nF_nS hF12 hs1', nF_nW hF12 hw1, nF_nR hF12 hR1, nF_nT hF12 hT1, nD_mono s10 (by omega), fun i hi => by
        rw [s4 35 (by omega) (by decide), g5 i hi]
        exact (wOwn_same fun o ho => s4 o (by omega) (by omega)).symm, s9, by rw [s6]; exact hnn⟩ ⟨p, by rw [s5 12 (by decide)]; exact p1, p2, fun a h1 h2 => by rw [htm2]; have := p3 a h1 h2; omega, fun a h1 h2 => by rw [htm2]; have := ht2 a h1 h2; omega⟩ (by rw [s5 16 (by decide), c120 16 (by decide) (by decide)]; exact hO) s3 (by omega) (by omega) (by clear hmin hmin2; omega) (by clear hmin hmin2; omega)
      exact ⟨c3, r3, j1, j2, nF_tr hF j3, j4, j5⟩
