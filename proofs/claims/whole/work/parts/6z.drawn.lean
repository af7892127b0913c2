theorem roll_both (k : Int32) (hk : ¬ k = 0) {c r : zz_S} (h : c.1 20 15 = r.1 79 54) : ∃ v d : Int32, f_Night_roll c = some (v, zz_w c 20 15 d) ∧ f_M_draw k r = some (v % k, zz_w r 79 54 d) ∧ (k = 21 → 0 ≤ (v % k).toInt ∧ (v % k).toInt < 21) := by
  refine ⟨_, _, roll_c c, ?_, fun q => ?_⟩
  · rw [roll_r k hk r, h]
  · rw [q]; exact rol21 _
theorem dr_loop {S C W : Nat} {m' h : Int32} (hm : 0 ≤ m'.toInt) (K6 : Int32 → Int32 → zz_S → Option zz_S) :
    ∀ (q j n n2 : Nat) (v2 : Int32) (c r : zz_S) (B : Nat), j + q = S → v2.toInt = j → q < n → q < n2 → B + 20 * q ≤ 900000000 → nS c r S C W → nW c r → nD c r S C W B → c.1 20 16 = h → c.1 20 15 = r.1 79 54 →
      ∃ c2 r2 : zz_S, f_Night_doDrawn_L2 n m' v2 c = (f_Lie_feelWarmth c2).bind (fun q2 => some q2) ∧ f_M_drawnNight_L22 K6 n2 h m' v2 r = f_M_drawnNight_J73 K6 h m' r2 ∧ mF c r c2 r2 ∧ nD c2 r2 S C W (B + 20 * q) ∧ c2.1 20 15 = r2.1 79 54 := by
  have l10 : (10 : Int32).toInt = 10 := rfl
  intro q
  induction q with
  | zero =>
    intro j n n2 v2 c r B hj hv hn hn2 hB hs hw hD hh hdi
    obtain ⟨n, rfl⟩ : ∃ x, n = x + 1 := ⟨n - 1, by omega⟩
    obtain ⟨n2, rfl⟩ : ∃ x, n2 = x + 1 := ⟨n2 - 1, by omega⟩
    refine ⟨c, r, ?_, ?_, mF_me c r, hD, hdi⟩
    · rw [f_Night_doDrawn_L2, if_pos (by rw [i_le, hs.2.1.1]; omega)]
    · rw [f_M_drawnNight_L22, if_pos (by rw [i_le, hs.2.2.2.1.2.1, hs.2.1.1]; omega)]
  | succ q ih =>
    intro j n n2 v2 c r B hj hv hn hn2 hB hs hw hD hh hdi
    obtain ⟨n, rfl⟩ : ∃ x, n = x + 1 := ⟨n - 1, by omega⟩
    obtain ⟨n2, rfl⟩ : ∃ x, n2 = x + 1 := ⟨n2 - 1, by omega⟩
    have hv1 := i_inc (a := v2) (by have := hs.2.1.2; omega)
    have dD : ∀ (c r : zz_S) (B : Nat) (d e : Int32), nD c r S C W B → nD (zz_w c 20 15 d) (zz_w r 79 54 e) S C W B := fun c r B d e h => nD_fr h (fun o ho => by rw [w_row, if_neg (by omega)]) rfl (fun o ho => by rw [w_row, if_neg (by omega)])
    obtain ⟨y1, d1, u1, u2, -⟩ := roll_both 100 (by decide) hdi
    have a1 : (zz_w c 20 15 d1).1 20 16 = h := by rw [w_get, if_pos rfl, if_neg (by decide)]; exact hh
    have a2 : (zz_w c 20 15 d1).1 20 15 = d1 := by rw [w_get, if_pos rfl, if_pos rfl]
    have a3 : (zz_w r 79 54 d1).1 79 54 = d1 := by rw [w_get, if_pos rfl, if_pos rfl]
    have hF1 := mF_dice c r d1 d1
    have t1 : ¬ c.1 1 1 ≤ v2 := by rw [i_le, hs.2.1.1]; omega
    have t2 : ¬ r.1 79 2 ≤ v2 := by rw [i_le, hs.2.2.2.1.2.1, hs.2.1.1]; omega
    rw [f_Night_doDrawn_L2, if_neg t1, u1, Option.bind_some, f_M_drawnNight_L22, if_neg t2, u2, Option.bind_some]
    simp only
    rw [a1]
    generalize y1 % 100 = x1 at *
    by_cases d : h ≤ x1
    · rw [if_pos d, if_neg (by rw [i_lt]; rw [i_le] at d; omega)]
      obtain ⟨c2, r2, g1, g2, g3, g4, g5⟩ := ih (j + 1) n n2 (v2 + 1) _ _ B (by omega) (by omega) (by omega) (by omega) (by omega) (mF_nS hF1 hs) (mF_nW hF1 hw) (dD c r B _ _ hD) a1 (by rw [a2, a3])
      exact ⟨c2, r2, g1, g2, mF_tr hF1 g3, nD_mono g4 (by omega), g5⟩
    · obtain ⟨y2, d2, w1, w2, w3⟩ := roll_both 21 (by decide) (show (zz_w c 20 15 d1).1 20 15 = (zz_w r 79 54 d1).1 79 54 by rw [a2, a3])
      rw [if_neg d, if_pos (by rw [i_lt]; rw [i_le] at d; omega), w1, Option.bind_some, w2, Option.bind_some, zz_ww, zz_ww]
      simp only
      have hF2 := mF_dice c r d2 d2
      have b1 : (zz_w c 20 15 d2).1 20 16 = h := by rw [w_get, if_pos rfl, if_neg (by decide)]; exact hh
      have b2 : (zz_w c 20 15 d2).1 20 15 = d2 := by rw [w_get, if_pos rfl, if_pos rfl]
      have b3 : (zz_w r 79 54 d2).1 79 54 = d2 := by rw [w_get, if_pos rfl, if_pos rfl]
      have hbd := w3 rfl
      generalize y2 % 21 = x2 at *
      have hsub := i_sub (a := x2) (b := 10) (by rw [l10]; omega) (by rw [l10]; omega)
      rw [l10] at hsub
      generalize x2 - 10 = cells at *
      by_cases z : cells = 0
      · rw [if_pos z, if_pos z]
        obtain ⟨c2, r2, g1, g2, g3, g4, g5⟩ := ih (j + 1) n n2 (v2 + 1) _ _ B (by omega) (by omega) (by omega) (by omega) (by omega) (mF_nS hF2 hs) (mF_nW hF2 hw) (dD c r B _ _ hD) b1 (by rw [b2, b3])
        exact ⟨c2, r2, g1, g2, mF_tr hF2 g3, nD_mono g4 (by omega), g5⟩
      · rw [if_neg z, if_neg z]
        obtain ⟨c1, r1, e1, e2, e3, e4⟩ := turn_of (i := j) (i' := v2) (cells := cells) (m := m') (mF_nS hF2 hs) (mF_nW hF2 hw) (dD c r B _ _ hD) (by omega) hv ⟨by omega, by omega⟩ (fun q => z (i_lit (b := 0) q)) hm (by omega)
        have hF3 := mF_of e4
        have e20 : c1.1 20 = (zz_w c 20 15 d2).1 20 := e4.1.1 20 (by decide) (by decide) (by decide) (by decide) (by decide) (by decide) (by decide) (by decide) (by decide) (by decide) (by decide) (by decide) (by decide)
        have e79 : r1.1 79 = (zz_w r 79 54 d2).1 79 := e4.2.1 79 (by omega) (by omega)
        obtain ⟨c2, r2, g1, g2, g3, g4, g5⟩ := ih (j + 1) n n2 (v2 + 1) c1 r1 (B + 20) (by omega) (by omega) (by omega) (by omega) (by omega) (mF_nS hF3 (mF_nS hF2 hs)) (mF_nW hF3 (mF_nW hF2 hw)) e3 (by rw [e20]; exact b1) (by rw [e20, e79, b2, b3])
        rw [e1, Option.bind_some, e2, Option.bind_some]
        exact ⟨c2, r2, g1, g2, mF_tr hF2 (mF_tr hF3 g3), nD_mono g4 (by omega), g5⟩
theorem drawn_of {c r : zz_S} {S C W B : Nat} {m' h : Int32} (hm : 0 ≤ m'.toInt) (K6 : Int32 → Int32 → zz_S → Option zz_S) (hs : nS c r S C W) (hw : nW c r) (hD : nD c r S C W B) (hB : B ≤ 800000000) (hh : c.1 20 16 = h) (hdi : c.1 20 15 = r.1 79 54) :
    ∃ c2 r2, f_Night_doDrawn m' c = some c2 ∧ f_M_drawnNight_L22 K6 zF h m' 0 r = f_M_drawnNight_J73 K6 h m' r2 ∧ mF c r c2 r2 ∧ nD c2 r2 S C W (B + 1200) ∧ (∀ i, i < S → (c2.1 35 i).toInt = wOwn c2 C i) ∧ c2.1 20 15 = r2.1 79 54 := by
  have hS6 := hs.2.1.2
  obtain ⟨c1, r1, g1, g2, g3, g4, g5⟩ := dr_loop (m' := m') (h := h) hm K6 S 0 zF zF 0 c r B (by omega) rfl (by unfold zF; omega) (by unfold zF; omega) (by omega) hs hw hD hh hdi
  obtain ⟨c3, k1, k2, k3, k4⟩ := fw_of (mF_nS g3 hs) g4.1 g4.2.1 (by omega)
  have hF : mF c1 r1 c3 r1 := ⟨⟨fun o _ _ _ _ _ _ _ _ _ h _ _ _ _ _ => k2 o h, fun k _ _ => by rw [k2 20 (by decide)], fun o _ _ => by rw [k3]⟩, fun _ _ _ _ => rfl, fun _ _ => rfl, rfl⟩
  refine ⟨c3, r1, ?_, g2, mF_tr g3 hF, nD_mono (nD_fr g4 (fun o ho => k2 o (by omega)) k3 (fun _ _ => rfl)) (by omega), fun i hi => ?_, by rw [k2 20 (by decide)]; exact g5⟩
  · unfold f_Night_doDrawn
    rw [g1, k1]
    rfl
  · rw [k4 i hi]
    exact (wOwn_same fun o ho => k2 o (by omega)).symm
