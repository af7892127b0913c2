/-- drawn turns: the whole night -/
theorem play_drawn {S C W T : Nat} {h : Int32} (hh0 : 0 ≤ h.toInt) :
    ∀ (q m n n2 : Nat) (m' step' : Int32) (c r : zz_S), 480 - m ≤ q → m ≤ 480 → nM c r S C W T m → c.1 20 16 = h → c.1 20 15 = r.1 79 54 → m'.toInt = m → 0 ≤ step'.toInt → step'.toInt ≤ m → 480 - m < n → 480 - m < n2 →
      ∃ c2 r2 : zz_S, f_Night_play_L2 n 479 step' c = some c2 ∧ f_M_drawnNight_L6 n2 h m' r = some r2 ∧ nF c r c2 r2 ∧ nM c2 r2 S C W T 480 ∧ c2.1 20 15 = r2.1 79 54 := by
  have l480 : (480 : Int32).toInt = 480 := rfl
  have l479 : (479 : Int32).toInt = 479 := rfl
  have l0 : (0 : Int32).toInt = 0 := rfl
  have l10 : (10 : Int32).toInt = 10 := rfl
  have done : ∀ (m n n2 : Nat) (m' step' : Int32) (c r : zz_S), m = 480 → nM c r S C W T m → c.1 20 15 = r.1 79 54 → m'.toInt = m → 480 - m < n → 480 - m < n2 → ∃ c2 r2 : zz_S, f_Night_play_L2 n 479 step' c = some c2 ∧ f_M_drawnNight_L6 n2 h m' r = some r2 ∧ nF c r c2 r2 ∧ nM c2 r2 S C W T 480 ∧ c2.1 20 15 = r2.1 79 54 := by
    intro m n n2 m' step' c r hm hM hdi hm' hn hn2
    obtain ⟨n, rfl⟩ : ∃ x, n = x + 1 := ⟨n - 1, by omega⟩
    obtain ⟨n2, rfl⟩ : ∃ x, n2 = x + 1 := ⟨n2 - 1, by omega⟩
    subst hm
    refine ⟨c, r, ?_, ?_, nF_me c r, hM, hdi⟩
    · rw [f_Night_play_L2]
      by_cases a : (480 : Int32) ≤ step'
      · rw [if_pos a]
      · rw [if_neg a, if_pos (by rw [i_lt, hM.2.2.2.2.2.2.2, l479]; omega)]
    · rw [f_M_drawnNight_L6, if_pos (by rw [i_le, l480]; omega)]
  intro q
  induction q with
  | zero =>
    intro m n n2 m' step' c r h1 h2 hM hO hdi hm hs0 hs1 hn hn2
    exact done m n n2 m' step' c r (by omega) hM hdi hm hn hn2
  | succ q ih =>
    intro m n n2 m' step' c r h1 h2 hM hO hdi hm hs0 hs1 hn hn2
    by_cases hend : m = 480
    · exact done m n n2 m' step' c r hend hM hdi hm hn hn2
    · obtain ⟨n, rfl⟩ : ∃ x, n = x + 1 := ⟨n - 1, by omega⟩
      obtain ⟨n2, rfl⟩ : ∃ x, n2 = x + 1 := ⟨n2 - 1, by omega⟩
      obtain ⟨hs, hw, hR, hT, hD, hown, hct, hnext⟩ := hM
      have em : c.1 20 11 = m' := i_lit (by omega)
      have hmod := i_mod10 (a := m') (by omega)
      -- the turns of the minute, if it has some
      obtain ⟨c1, r1, g1, g2, g3, g4, g5, g6⟩ : ∃ c1 r1 : zz_S, (∀ K : zz_S → Option zz_S, (if m' % 10 = 0 then (f_Night_doDrawn m' c).bind K else K c) = K c1) ∧ (if m' % 10 = 0 then f_M_drawnNight_L22 (f_M_drawnNight_L6 n2) zF h m' 0 r else f_M_drawnNight_J73 (f_M_drawnNight_L6 n2) h m' r) = f_M_drawnNight_J73 (f_M_drawnNight_L6 n2) h m' r1 ∧ mF c r c1 r1 ∧ nD c1 r1 S C W (60 + 1200 * m + 1200) ∧ (∀ i, i < S → (c1.1 35 i).toInt = wOwn c1 C i) ∧ c1.1 20 15 = r1.1 79 54 := by
        by_cases z : m' % 10 = 0
        · obtain ⟨c1, r1, e1, e2, e3, e4, e5, e6⟩ := drawn_of (m' := m') (h := h) (by omega) (f_M_drawnNight_L6 n2) hs hw hD (by omega) hO hdi
          exact ⟨c1, r1, fun K => by rw [if_pos z, e1, Option.bind_some], by rw [if_pos z, e2], e3, e4, e5, e6⟩
        · exact ⟨c, r, fun K => by rw [if_neg z], by rw [if_neg z], mF_me c r, nD_mono hD (by omega), hown, hdi⟩
      have hs1' := mF_nS g3 hs
      have hR1 := mF_nR g3 hR
      have hT1 := mF_nT g3 hT
      have hw1 := mF_nW g3 hw
      have c1o : ∀ o, (o < 20 ∨ (21 ≤ o ∧ o ≤ 24) ∨ o = 27) → c1.1 o = c.1 o := fun o ho => g3.1.1 o (by omega) (by omega) (by omega) (by omega) (by omega) (by omega) (by omega) (by omega) (by omega) (by omega) (by omega) (by omega) (by omega) (by omega) (by omega)
      have c120 : ∀ k, k ≠ 12 → k ≠ 15 → c1.1 20 k = c.1 20 k := g3.1.2.1
      have hct1 : ∀ i, i < S → tR r1 i = tC c1 i ∧ tOk m (tC c1 i) := fun i hi => ct_after (hct i hi) (g4.2.2.2.2.2 i hi) (fun o ho => c1o o (by omega)) (fun o a b => g3.2.1 o (by omega) (by omega) (by omega))
      have hroom := (hR1.1.1 m (by omega)).2.1
      -- the next minute with turns
      have hsub := i_sub (a := m') (b := m' % 10) (by omega) (by omega)
      have hadd := i_add (a := m' - m' % 10) (b := 10) (by rw [l10]; omega) (by rw [l10]; omega)
      rw [l10] at hadd
      obtain ⟨t0, ht0, ht1⟩ : ∃ t0 : Int32, f_Night_minuteOfTurns m' c1 = some t0 ∧ t0.toInt = (m : Int) - m % 10 + 10 := by
        unfold f_Night_minuteOfTurns
        rw [if_neg (by rw [i_lt, c120 16 (by decide) (by decide), hO, l0]; omega)]
        exact ⟨_, rfl, by omega⟩
      have hla := i_inc (a := (479 : Int32)) (by omega)
      have hmin := zmin_toInt ((479 : Int32) + 1) (zz_min (c1.1 17 m) t0)
      have hmin2 := zmin_toInt (c1.1 17 m) t0
      generalize htt : zz_min ((479 : Int32) + 1) (zz_min (c1.1 17 m) t0) = tt at *
      obtain ⟨nn, hnn⟩ : ∃ nn : Nat, tt.toInt = (m + nn : Nat) := ⟨(tt.toInt - m).toNat, by omega⟩
      have hnn1 : 1 ≤ nn := by omega
      have hnl : m + nn ≤ 480 := by omega
      have hnt : ((m + nn : Nat) : Int) ≤ (m : Int) - m % 10 + 10 := by omega
      obtain ⟨f, rfl⟩ : ∃ f, n2 = f + (nn - 1) := ⟨n2 - (nn - 1), by omega⟩
      -- quiet minutes
      have HG : ∀ (f k : Nat) (k' : Int32) (r' : zz_S), k'.toInt = k → m < k → k < m + nn → kF r1 r' → f_M_drawnNight_L6 (f + 1) h k' r' = (f_M_countNow k' r').bind fun r => f_M_drawnNight_L6 f h (k' + 1) r := by
        intro f k k' r' b1 b2 b3 b4
        have hmk := i_mod10 (a := k') (by omega)
        rw [f_M_drawnNight_L6, if_neg (by rw [i_le, l480]; omega), if_neg (by
          intro q
          rw [q, l0] at hmk
          clear hmin hmin2 hadd hsub hla hmod ht1 hroom
          omega)]
        rfl
      obtain ⟨c2, k2, r2, s1, s2, s3, ⟨s4, s5, s6, s7⟩, s8, s9, s10⟩ := seg_of (f_Night_play_L2 n) 479 step' (fun f k r => f_M_drawnNight_L6 f h k r) f hm hs1' hR1 g4 (by omega) g5 hct1 hnn hnn1 (by omega) (by omega) HG
      have hF12 : nF c1 r1 c2 r2 := ⟨⟨fun o a _ _ _ _ => s4 o (by omega) (by omega), fun k a _ _ => s5 k a, fun _ _ _ => by rw [s7]⟩, fun o a b => s8.1 o (by omega) (by omega) (by omega), fun k _ => by rw [s8.1 79 (by decide) (by decide) (by omega)], s8.2⟩
      have hF : nF c r c2 r2 := nF_tr (nF_of g3) hF12
      have hst := i_inc (a := step') (by omega)
      have e1 : f_Night_play_L2 (n + 1) 479 step' c = f_Night_play_L2 n 479 (step' + 1) c2 := by
        rw [f_Night_play_L2, if_neg (by rw [i_le, l480]; omega), if_neg (by rw [i_lt, hnext, l479]; omega), if_pos (by rw [i_le, hO, l0]; omega), em]
        refine (g1 (fun q => f_Night_play_J49 (f_Night_play_L2 n) 479 step' m' q)).trans ?_
        show f_Night_play_J49 (f_Night_play_L2 n) 479 step' m' c1 = _
        unfold f_Night_play_J49
        rw [if_pos (i_in.mpr (by omega)), nz_eq hm, ht0, Option.bind_some, htt, s1]
      have e2 : f_M_drawnNight_L6 ((f + (nn - 1)) + 1) h m' r = f_M_drawnNight_L6 f h k2 r2 := by
        rw [f_M_drawnNight_L6, if_neg (by rw [i_le, l480]; omega), g2]
        exact s2
      rw [e1, e2]
      obtain ⟨c3, r3, j1, j2, j3, j4, j5⟩ := ih (m + nn) n f k2 (step' + 1) c2 r2 (by omega) hnl ⟨nF_nS hF12 hs1', nF_nW hF12 hw1, nF_nR hF12 hR1, nF_nT hF12 hT1, nD_mono s10 (by omega), fun i hi => by
        rw [s4 35 (by omega) (by decide), g5 i hi]
        exact (wOwn_same fun o ho => s4 o (by omega) (by omega)).symm, s9, by rw [s6]; exact hnn⟩ (by rw [s5 16 (by decide), c120 16 (by decide) (by decide)]; exact hO) (by rw [s5 15 (by decide), s8.1 79 (by decide) (by decide) (by omega)]; exact g6) s3 (by omega) (by omega) (by clear hmin hmin2; omega) (by clear hmin hmin2; omega)
      exact ⟨c3, r3, j1, j2, nF_tr hF j3, j4, j5⟩
