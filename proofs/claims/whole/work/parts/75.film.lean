/-- the class alone, from one minute to the next one that is other -/
theorem seg_ofE {c r : zz_S} {S C W B m nn : Nat} {m' t' : Int32} (K2 : Int32 → Int32 → zz_S → Option zz_S) (v1 v2 : Int32) (hm : m'.toInt = m) (hs : nS c r S C W) (hR : nR c r) (hD : nE c r S C W B) (hown : ∀ i, i < S → (c.1 35 i).toInt = wOwn c C i) (hct : ∀ i, i < S → tOk m (tC c i)) (ht' : t'.toInt = (m + nn : Nat)) (hnn : 1 ≤ nn) (hnn2 : m + nn ≤ 480) (hsame : (m + nn : Nat) ≤ (c.1 17 m).toInt) :
    ∃ c2 : zz_S, f_Night_play_L79 K2 zF v1 v2 m' 0 (zz_w c 20 11 t') = K2 v1 (v2 + 1) c2 ∧
      ((∀ o, o < 22 ∨ 27 < o → o ≠ 20 → c2.1 o = c.1 o) ∧ (∀ k, k ≠ 11 → c2.1 20 k = c.1 20 k) ∧ c2.1 20 11 = t' ∧ c2.2 = c.2) ∧ (∀ i, i < S → tOk (m + nn : Nat) (tC c2 i)) ∧ nE c2 r S C W B := by
  have hP := hD.1
  have hQ := hD.2.1
  have hcv := hD.2.2.1
  -- the class
  have w20 : ∀ o, o ≠ 20 → (zz_w c 20 11 t').1 o = c.1 o := fun o ho => by rw [w_row, if_neg ho]
  have w20k : ∀ k, k ≠ 11 → (zz_w c 20 11 t').1 20 k = c.1 20 k := fun k hk => by rw [w_get, if_pos rfl, if_neg hk]
  have w11 : (zz_w c 20 11 t').1 20 11 = t' := by rw [w_get, if_pos rfl, if_pos rfl]
  have eup : ∀ (n : Int) (i : Nat) (t), up1 (zz_w c 20 11 t') C m m'.toInt n i t = up1 c C m m'.toInt n i t := fun n i t => by
    unfold up1 cvI
    rw [w20 16 (by decide), w20k 13 (by decide), w20 4 (by decide), w20 36 (by decide), w20 7 (by decide), w20 33 (by decide), w20 3 (by decide), wOwn_same (c := c) (c2 := zz_w c 20 11 t') fun o ho => w20 o (by omega)]
  have etC : ∀ i, tC (zz_w c 20 11 t') i = tC c i := fun i => by
    unfold tC
    rw [w20 22 (by decide), w20 23 (by decide), w20 24 (by decide), w20 27 (by decide), w20 25 (by decide), w20 26 (by decide)]
  obtain ⟨c2, g1, g2, g3, g4⟩ := sg_loop (c0 := zz_w c 20 11 t') (r0 := r) (C := C) (mm := m) (m' := m') (nn := nn) K2 v1 v2 (nS_fr hs (fun o _ _ => w20 o (by omega)) (fun _ _ => rfl) (fun _ _ _ => rfl)) (by
    unfold nR at hR ⊢
    rw [w20 16 (by decide), w20 17 (by decide), w20 18 (by decide), w20k 13 (by decide)]
    exact hR) hm (by omega) (by rw [w11]; exact ht') hnn2 (fun i hi => by rw [w20 35 (by decide), hown i hi]; exact (wOwn_same fun o ho => w20 o (by omega)).symm) (fun i hi => by rw [w20 34 (by decide), hcv i hi]; unfold cvI; rw [w20 36 (by decide), w20 7 (by decide), w20 33 (by decide), w20 3 (by decide)]) (fun i hi => by rw [etC]; exact hct i hi) S 0 zF 0 (zz_w c 20 11 t') (by omega) rfl (by have := hs.2.1.2; unfold zF; omega) (fun _ _ => rfl) rfl (fun i hi => by omega) (fun _ _ => rfl)
  have hcount : ∀ i, i < S → tOk (m + nn : Nat) (tC c2 i) := fun i hi => by
    have e : tC c2 i = up1 c C m m'.toInt nn i (tC c i) := by rw [g4 i hi, eup, etC]
    rw [e]
    have := tOk_up (ezB ((c.1 16 m).toInt + (c.1 20 13).toInt + wOwn c C i) (c.1 4 i).toInt) (coB ((c.1 16 m).toInt + (c.1 20 13).toInt + wOwn c C i) (c.1 4 i).toInt) (baB (cvI c C i) (c.1 3 i).toInt) (n := nn) (hct i hi) (show 0 ≤ m'.toInt by omega) (by omega)
    rw [show ((m : Int) + (nn : Int)) = ((m + nn : Nat) : Int) by omega] at this
    exact this
  have C2 : ∀ o, o < 22 ∨ 27 < o → o ≠ 20 → c2.1 o = c.1 o := fun o h1 h2 => (g2 o h1).trans (w20 o h2)
  refine ⟨c2, g1, ⟨C2, fun k hk => by rw [g2 20 (by omega)]; exact w20k k hk, by rw [g2 20 (by omega)]; exact w11, g3⟩, hcount, ?_⟩
  refine ⟨fun i hi => ?_, fun k hk => ?_, fun i hi => ?_, fun i hi => ?_, fun k hk => ?_, fun i hi => ?_⟩
  · have := hP i hi
    unfold nP at this ⊢
    rw [C2 33 (by omega) (by decide), C2 3 (by omega) (by decide), g3]
    exact this
  · have := hQ k hk
    unfold nQ at this ⊢
    rw [C2 36 (by omega) (by decide), C2 7 (by omega) (by decide), g3]
    exact this
  · rw [C2 34 (by omega) (by decide), C2 36 (by omega) (by decide), C2 7 (by omega) (by decide), C2 33 (by omega) (by decide), C2 3 (by omega) (by decide)]
    exact hcv i hi
  · rw [C2 29 (by omega) (by decide)]
    exact hD.2.2.2.1 i hi
  · rw [C2 28 (by omega) (by decide)]
    exact hD.2.2.2.2.1 k hk
  · obtain ⟨-, -, -, -, u5, u6⟩ := tOkC.mp (hcount i hi)
    refine ⟨?_, u6⟩
    rcases u5 with u5 | u5
    · exact Or.inl (i_lit (b := -2) u5)
    · exact Or.inr u5
theorem tOkE {c c1 : zz_S} {i : Nat} {M : Int} (h : tOk M (tC c i)) (y : (c1.1 25 i = -2 ∨ 0 ≤ (c1.1 25 i).toInt) ∧ (10 ≤ (c1.1 27 i).toInt → 0 ≤ (c1.1 25 i).toInt)) (hc : ∀ o, o = 22 ∨ o = 23 ∨ o = 24 ∨ o = 27 → c1.1 o = c.1 o) : tOk M (tC c1 i) := by
  obtain ⟨u1, u2, u3, u4, -, -⟩ := tOkC.mp h
  obtain ⟨y3, y4⟩ := y
  have e2 : (-2 : Int32).toInt = -2 := by decide
  refine tOkC.mpr ?_
  rw [hc 22 (by omega), hc 23 (by omega), hc 24 (by omega), hc 27 (by omega)]
  rw [hc 27 (by omega)] at y4
  refine ⟨u1, u2, u3, u4, ?_, y4⟩
  rcases y3 with y3 | y3
  · exact Or.inl (by rw [y3]; exact e2)
  · exact Or.inr y3
/-- the night of a film as a minute begins -/
def eM (c r : zz_S) (S C W T m : Nat) : Prop := nS c r S C W ∧ nW c r ∧ nR c r ∧ nT c r T ∧ nE c r S C W (60 + 1200 * m) ∧ (∀ i, i < S → (c.1 35 i).toInt = wOwn c C i) ∧ (∀ i, i < S → tOk m (tC c i)) ∧ (c.1 20 11).toInt = m
theorem still {r : zz_S} (H : Nat → Int32 → zz_S → Option (Int32 × zz_S)) : ∀ (q f k : Nat) (k' : Int32), k'.toInt = k → k + q ≤ 480 → (∀ (f j : Nat) (j' : Int32), j'.toInt = j → k ≤ j → j < k + q → H (f + 1) j' r = H f (j' + 1) r) → ∃ k2 : Int32, H (f + q) k' r = H f k2 r ∧ k2.toInt = (k + q : Nat) := by
  intro q
  induction q with
  | zero => exact fun f k k' hk _ _ => ⟨k', rfl, hk⟩
  | succ q ih =>
    intro f k k' hk hb h
    have h1 := i_inc (a := k') (by omega)
    obtain ⟨k2, e1, e2⟩ := ih f (k + 1) (k' + 1) (by omega) (by omega) (fun f j j' a b d => h f j j' a (by omega) (by omega))
    refine ⟨k2, ?_, by omega⟩
    rw [show f + (q + 1) = (f + q) + 1 from rfl, h (f + q) k k' hk (Nat.le_refl _) (by omega), e1]
/-- told turns, the reference not counting: from a minute to another -/
theorem play_film {S C W T last : Nat} {last' : Int32} (hl : last'.toInt = last) (hl2 : last ≤ 479) (H : Nat → Int32 → zz_S → Option (Int32 × zz_S)) (m0 : Nat) (hH : ∀ (f k : Nat) (k' : Int32) (r : zz_S), k'.toInt = k → m0 ≤ k → k ≤ last → H (f + 1) k' r = (f_M_minute k' r).bind fun q => H f (k' + 1) q) :
    ∀ (q m n n2 : Nat) (m' step' : Int32) (c r : zz_S), last + 1 - m ≤ q → m0 ≤ m → m ≤ last + 1 → eM c r S C W T m → nX c T m → (c.1 20 16).toInt < 0 → m'.toInt = m → 0 ≤ step'.toInt → step'.toInt ≤ m → last + 1 - m < n → last + 1 - m < n2 →
      ∃ c2 r2 : zz_S, ∃ (k2 : Int32) (f : Nat), f_Night_play_L2 n last' step' c = some c2 ∧ H n2 m' r = H f k2 r2 ∧ k2.toInt = (last + 1 : Nat) ∧ n2 + m = f + (last + 1) ∧ nF c r c2 r2 ∧ eM c2 r2 S C W T (last + 1) ∧ nX c2 T (last + 1) := by
  have l480 : (480 : Int32).toInt = 480 := rfl
  have l0 : (0 : Int32).toInt = 0 := rfl
  intro q
  induction q with
  | zero =>
    intro m n n2 m' step' c r h1 hm0 h2 hM hX hO hm hs0 hs1 hn hn2
    obtain ⟨n, rfl⟩ : ∃ x, n = x + 1 := ⟨n - 1, by omega⟩
    have e : m = last + 1 := by omega
    subst e
    refine ⟨c, r, m', n2, ?_, rfl, hm, rfl, nF_me c r, hM, hX⟩
    rw [f_Night_play_L2]
    by_cases a : (480 : Int32) ≤ step'
    · rw [if_pos a]
    · rw [if_neg a, if_pos (by rw [i_lt, hM.2.2.2.2.2.2.2]; omega)]
  | succ q ih =>
    intro m n n2 m' step' c r h1 hm0 h2 hM hX hO hm hs0 hs1 hn hn2
    by_cases hend : m = last + 1
    · obtain ⟨n, rfl⟩ : ∃ x, n = x + 1 := ⟨n - 1, by omega⟩
      subst hend
      refine ⟨c, r, m', n2, ?_, rfl, hm, rfl, nF_me c r, hM, hX⟩
      rw [f_Night_play_L2]
      by_cases a : (480 : Int32) ≤ step'
      · rw [if_pos a]
      · rw [if_neg a, if_pos (by rw [i_lt, hM.2.2.2.2.2.2.2]; omega)]
    · obtain ⟨n, rfl⟩ : ∃ x, n = x + 1 := ⟨n - 1, by omega⟩
      obtain ⟨hs, hw, hR, hT, hD, hown, hct, hnext⟩ := hM
      have hml : m ≤ last := by omega
      have em : c.1 20 11 = m' := i_lit (by omega)
      -- the turns of the minute
      obtain ⟨c1, r1, g1, g2, g3, g4, g5, p, p1, p2, p3, p4⟩ := told_ofE hm hs hw hT hD (by omega) hown hX
      have hs1' := mF_nS g3 hs
      have hR1 := mF_nR g3 hR
      have hT1 := mF_nT g3 hT
      have hw1 := mF_nW g3 hw
      have hT60 := hT1.2.1.2
      have hT10 := hT1.2.1.1
      have c1o : ∀ o, (o < 20 ∨ (21 ≤ o ∧ o ≤ 24) ∨ o = 27) → c1.1 o = c.1 o := fun o ho => g3.1.1 o (by omega) (by omega) (by omega) (by omega) (by omega) (by omega) (by omega) (by omega) (by omega) (by omega) (by omega) (by omega) (by omega) (by omega) (by omega)
      have c120 : ∀ k, k ≠ 12 → k ≠ 15 → c1.1 20 k = c.1 20 k := g3.1.2.1
      have hct1 : ∀ i, i < S → tOk m (tC c1 i) := fun i hi => tOkE (hct i hi) (g4.2.2.2.2.2 i hi) (fun o ho => c1o o (by omega))
      have hroom := (hR1.1.1 m (by omega)).2.1
      -- the next minute with turns
      obtain ⟨t0, ht0, ht1, ht2⟩ : ∃ t0 : Int32, f_Night_minuteOfTurns m' c1 = some t0 ∧ ((m : Int) + 1 ≤ t0.toInt ∧ t0.toInt ≤ 480) ∧ ∀ a, p ≤ a → a < T → t0.toInt ≤ tm c1 a := by
        unfold f_Night_minuteOfTurns
        rw [if_pos (by rw [i_lt, c120 16 (by decide) (by decide), l0]; exact hO)]
        by_cases e : c1.1 10 0 ≤ c1.1 20 12
        · rw [if_pos e]
          rw [i_le] at e
          exact ⟨480, rfl, ⟨by rw [l480]; omega, by decide⟩, fun a h1 h2 => by omega⟩
        · rw [if_neg e]
          rw [i_le] at e
          have hp : p < T := by omega
          have h1 := tk_lt hT1 hp
          rw [if_pos (i_in.mpr (by omega)), nz_eq p1, if_pos (i_in.mpr (by omega)), nz_eq h1.2]
          have hb := tm_bd hT1 hp
          have h3 := p4 p (Nat.le_refl _) hp
          refine ⟨_, rfl, ?_, fun a h1 h2 => tm_mono hT1 h1 h2⟩
          have : (c1.1 11 (tk c1 p)).toInt = tm c1 p := rfl
          omega
      have hla := i_inc (a := last') (by omega)
      have hmin := zmin_toInt (last' + 1) (zz_min (c1.1 17 m) t0)
      have hmin2 := zmin_toInt (c1.1 17 m) t0
      generalize htt : zz_min (last' + 1) (zz_min (c1.1 17 m) t0) = tt at *
      obtain ⟨nn, hnn⟩ : ∃ nn : Nat, tt.toInt = (m + nn : Nat) := ⟨(tt.toInt - m).toNat, by omega⟩
      have hnn1 : 1 ≤ nn := by omega
      have hnl : m + nn ≤ last + 1 := by omega
      obtain ⟨f, rfl⟩ : ∃ f, n2 = (f + (nn - 1)) + 1 := ⟨n2 - 1 - (nn - 1), by omega⟩
      -- quiet minutes
      have HG : ∀ (f k : Nat) (k' : Int32), k'.toInt = k → m + 1 ≤ k → k < m + 1 + (nn - 1) → H (f + 1) k' r1 = H f (k' + 1) r1 := by
        intro f k k' b1 b2 b3
        have hmi : f_M_minute k' r1 = some r1 := by
          unfold f_M_minute
          refine mi_loop (c := c1) b1 hT1.1.1 hT1.1.2.1 hT10 hT60 (fun i hi hik => ?_) T 0 zF 0 (by omega) rfl (by unfold zF; omega)
          obtain ⟨a, a1, a2⟩ := hT1.2.2.2.1.2.1 i hi
          have hta : tk c1 a = i := by unfold tk; omega
          have hma : tm c1 a = k := by unfold tm; rw [hta]; exact hik
          by_cases ap : a < p
          · have := p3 a ap a1; omega
          · have := ht2 a (by omega) a1; omega
        rw [hH f k k' r1 b1 (by omega) (by omega), hmi, Option.bind_some]
      obtain ⟨c2, s1, ⟨s4, s5, s6, s7⟩, s9, s10⟩ := seg_ofE (f_Night_play_L2 n) last' step' hm hs1' hR1 g4 g5 hct1 hnn hnn1 (by omega) (by omega)
      have hm1 := i_inc (a := m') (by omega)
      obtain ⟨k2, s2, s3⟩ := still H (nn - 1) f (m + 1) (m' + 1) (by omega) (by omega) HG
      have hF12 : nF c1 r1 c2 r1 := ⟨⟨fun o a _ _ _ _ => s4 o (by omega) (by omega), fun k a _ _ => s5 k a, fun _ _ _ => by rw [s7]⟩, fun _ _ _ => rfl, fun _ _ => rfl, rfl⟩
      have hF : nF c r c2 r1 := nF_tr (nF_of g3) hF12
      have hst := i_inc (a := step') (by omega)
      have e1 : f_Night_play_L2 (n + 1) last' step' c = f_Night_play_L2 n last' (step' + 1) c2 := by
        rw [f_Night_play_L2, if_neg (by rw [i_le, l480]; omega), if_neg (by rw [i_lt, hnext]; omega), if_neg (by rw [i_le, l0]; omega), em, g1, Option.bind_some]
        unfold f_Night_play_J49
        rw [if_pos (i_in.mpr (by omega)), nz_eq hm, ht0, Option.bind_some, htt, s1]
      have e2 : H ((f + (nn - 1)) + 1) m' r = H f k2 r1 := by
        rw [hH (f + (nn - 1)) m m' r hm hm0 hml, g2, Option.bind_some]
        exact s2
      rw [e1, e2]
      have htm2 : tm c2 = tm c1 := nF_tm hF12
      obtain ⟨c3, r3, k3, f3, j1, j2, j3, j4, j5, j6, j7⟩ := ih (m + nn) n f k2 (step' + 1) c2 r1 (by omega) (by omega) hnl ⟨nF_nS hF12 hs1', nF_nW hF12 hw1, nF_nR hF12 hR1, nF_nT hF12 hT1, nE_mono s10 (by omega), fun i hi => by
        rw [s4 35 (by omega) (by decide), g5 i hi]
        exact (wOwn_same fun o ho => s4 o (by omega) (by omega)).symm, s9, by rw [s6]; exact hnn⟩ ⟨p, by rw [s5 12 (by decide)]; exact p1, p2, fun a h1 h2 => by rw [htm2]; have := p3 a h1 h2; omega, fun a h1 h2 => by rw [htm2]; have := ht2 a h1 h2; omega⟩ (by rw [s5 16 (by decide), c120 16 (by decide) (by decide)]; exact hO) (by omega) (by omega) (by omega) (by clear hmin hmin2; omega) (by clear hmin hmin2; omega)
      exact ⟨c3, r3, k3, f3, j1, j2, j3, by omega, nF_tr hF j5, j6, j7⟩
