/-- the reference puts the places back -/
theorem back_loop (w best most : Int32) {s r0 : zz_S} {S : Nat} (hS6 : S ≤ 6) (hSr : (r0.1 79 2).toInt = S) :
    ∀ (q j n : Nat) (v5 : Int32) (r : zz_S), j + q = S → v5.toInt = j → q < n → aF s r0 s r → (∀ i, i < S → r.1 115 i = r0.1 80 i) → (∀ i, S ≤ i → r.1 80 i = r0.1 80 i) → (∀ i, i < j → r.1 80 i = r0.1 80 i) →
      ∃ r2, f_M_across_L230 n w best most v5 r = some (if w = 0 then best else most, r2) ∧ aF s r0 s r2 ∧ r2.1 80 = r0.1 80 := by
  intro q
  induction q with
  | zero =>
    intro j n v5 r hj hv hn hF h115 hhi hlo
    obtain ⟨n, rfl⟩ : ∃ x, n = x + 1 := ⟨n - 1, by omega⟩
    refine ⟨r, ?_, hF, funext fun i => ?_⟩
    · rw [f_M_across_L230, if_pos (by rw [i_le, hF.2.2.1 2 (by decide)]; omega)]
      by_cases e : w = 0
      · rw [if_pos e, if_pos e]
      · rw [if_neg e, if_neg e]
    · by_cases c : S ≤ i
      · exact hhi i c
      · exact hlo i (by omega)
  | succ q ih =>
    intro j n v5 r hj hv hn hF h115 hhi hlo
    obtain ⟨n, rfl⟩ : ∃ x, n = x + 1 := ⟨n - 1, by omega⟩
    have hi := i_inc (a := v5) (by omega)
    rw [f_M_across_L230, if_neg (by rw [i_le, hF.2.2.1 2 (by decide)]; omega), if_pos (i_in.mpr (by omega)), nz_eq hv, h115 j (by omega)]
    refine ih (j + 1) n (v5 + 1) _ (by omega) (by omega) (by omega) (aF_tr hF (aF_wr (fun _ _ _ => rfl) rfl (fun o a _ _ => by rw [w_row, if_neg a]) rfl)) (fun i h => ?_) (fun i h => ?_) (fun i h => ?_)
    · rw [w_row, if_neg (by decide)]; exact h115 i h
    · rw [w_get, if_pos rfl, if_neg (by omega)]; exact hhi i h
    · rw [w_get, if_pos rfl]
      by_cases c : i = j
      · rw [if_pos c, c]
      · rw [if_neg c]; exact hlo i (by omega)
theorem pow_le (S : Nat) (h : S ≤ 6) : S ^ S ≤ 46656 := by
  have hc : S = 0 ∨ S = 1 ∨ S = 2 ∨ S = 3 ∨ S = 4 ∨ S = 5 ∨ S = 6 := by omega
  rcases hc with rfl | rfl | rfl | rfl | rfl | rfl | rfl <;> decide
theorem acr_loop (w : Int32) {s r0 : zz_S} {S C W T kf Z : Nat} (hZ : Z = S ^ S) (hZ2 : Z ≤ 46656) (hb : nB s r0 S C W T) (hl : nL s r0 (s.1 0 12)) (hr : r0.1 79 38 = 0 ∧ r0.1 79 51 = -1 ∧ r0.1 79 36 = s.1 0 12) (hS0 : 0 < S) {all : Int32} (hall : all.toInt = Z) :
    ∀ (q N P k n n2 : Nat) (best most more v6 v5 : Int32) (c r : zz_S), N + q = Z → v5.toInt = N → v6.toInt = k → k ≤ 720 → 721 < n + k → q < n2 → wlk S q N P k = some (Z, kf) → aF s r0 c r → (∀ i, i < S → r.1 115 i = r0.1 80 i) → (∀ i, S ≤ i → r.1 80 i = r0.1 80 i) →
      ((more = 1 ∧ P < Z ∧ ∀ i, i < S → c.1 53 i = nI (dg S P i)) ∨ (more = 0 ∧ P = Z)) →
      ∃ v c2 r2, f_B_across_L57 n w (nI S) best most more v6 c = some (v, c2) ∧ f_M_across_L82 n2 w all best most v5 r = some (v, r2) ∧ aF s r0 c2 r2 ∧ r2.1 80 = r0.1 80 := by
  have l0 : (0 : Int32).toInt = 0 := rfl
  have l720 : (720 : Int32).toInt = 720 := rfl
  have hS6 := hb.1.2.1.2
  have hSr : (r0.1 79 2).toInt = S := by rw [hb.1.2.2.2.1.2.1]; exact hb.1.2.1.1
  intro q
  induction q with
  | zero =>
    intro N P k n n2 best most more v6 v5 c r hN h5 h6 hk hn hn2 hw hF h115 hhi hst
    obtain ⟨n, rfl⟩ : ∃ x, n = x + 1 := ⟨n - 1, by omega⟩
    obtain ⟨n2, rfl⟩ : ∃ x, n2 = x + 1 := ⟨n2 - 1, by omega⟩
    have hP : P = Z := (Prod.mk.inj (Option.some.inj hw)).1
    have hmore : more = 0 := by
      rcases hst with ⟨_, h, _⟩ | ⟨h, _⟩
      · omega
      · exact h
    have hFs : aF s r0 s r := ⟨⟨fun _ _ _ _ _ _ _ _ => rfl, fun _ _ _ => rfl⟩, hF.2⟩
    obtain ⟨r2, k1, k2, k3⟩ := back_loop w best most hS6 hSr S 0 zF 0 r (by omega) rfl (by unfold zF; omega) hFs h115 hhi (fun i h => by omega)
    refine ⟨if w = 0 then best else most, c, r2, ?_, ?_, ⟨hF.1, k2.2⟩, k3⟩
    · have e : f_B_across_J153 w best most c = some (if w = 0 then best else most, c) := by
        unfold f_B_across_J153
        by_cases e : w = 0
        · rw [if_pos e, if_pos e]
        · rw [if_neg e, if_neg e]
      rw [f_B_across_L57, hmore, if_pos rfl, e]
      by_cases e2 : (720 : Int32) ≤ v6
      · rw [if_pos e2]
      · rw [if_neg e2]
    · rw [f_M_across_L82, if_pos (by rw [i_le]; omega)]
      exact k1
  | succ q ih =>
    intro N P k n n2 best most more v6 v5 c r hN h5 h6 hk hn hn2 hw hF h115 hhi hst
    obtain ⟨n2, rfl⟩ : ∃ x, n2 = x + 1 := ⟨n2 - 1, by omega⟩
    have hi5 := i_inc (a := v5) (by omega)
    obtain ⟨r1, o1, o2, o3, o4⟩ := ord_of (r := r) v5 h5 hS0 hS6 (by rw [hF.2.2.1 2 (by decide)]; exact hSr)
    have hF1 : aF s r0 c r1 := aF_tr hF (aF_wr (fun _ _ _ => rfl) rfl (fun o _ _ a => o2 o a) o3)
    have h115' : ∀ i, i < S → r1.1 115 i = r0.1 80 i := fun i h => by rw [o2 115 (by decide)]; exact h115 i h
    have hhi' : ∀ i, S ≤ i → r1.1 80 i = r0.1 80 i := fun i h => by rw [o2 80 (by decide)]; exact hhi i h
    rw [f_M_across_L82, if_neg (by rw [i_le]; omega), o1, Option.bind_some]
    cases hd : dsn S N S 0 with
    | false =>
      rw [wlk_no hd] at hw
      simp only [Bool.false_eq_true, if_false, if_true]
      exact ih (N + 1) P k n n2 best most more v6 (v5 + 1) c r1 (by omega) (by omega) h6 hk hn (by omega) hw hF1 h115' hhi' hst
    | true =>
      obtain ⟨hNP, hk7, hsur, P', hnx, hw'⟩ := wlk_yes hd hw
      rw [← hNP] at hst
      obtain ⟨hmore, hP, h53⟩ : more = 1 ∧ N < Z ∧ ∀ i, i < S → c.1 53 i = nI (dg S N i) := by
        rcases hst with h | ⟨_, h⟩
        · exact h
        · omega
      obtain ⟨n, rfl⟩ : ∃ x, n = x + 1 := ⟨n - 1, by omega⟩
      simp only [if_true]
      rw [if_neg one_ne]
      have h116 := o4 hd
      have hb1 := aF_nB hF1 hb
      -- laid
      obtain ⟨c3, r3, y1, y2, y3, y4, y5, y6, y7, y8⟩ := lay_loop hb1.1 h53 h116 (f_M_across_L82 n2) w all best most v5 S 0 zF zF 0 0 0 c r1 (by omega) rfl (by unfold zF; omega) (by unfold zF; omega) (by decide) (by decide) (fun _ _ => rfl) rfl (fun _ _ => rfl) rfl (fun _ _ => rfl) (fun k hk => by omega)
      have hF3 : aF s r0 c3 r3 := aF_tr hF1 (aF_wr (fun o _ a => y3 o a) y4 (fun o a _ _ => y5 o a) y6)
      have hb3 := aF_nB hF3 hb
      have hl3 := aF_nL hF3 hl
      obtain ⟨z0, z1⟩ := aF_0 hF3
      have hp3 : plOK c3 r3 54 S W := ⟨Or.inr rfl, fun i hi => by
        obtain ⟨j, hj, rfl⟩ := hsur i hi
        exact y8 j hj⟩
      have k38 : r3.1 79 38 = 0 := by rw [hF3.2.2.1 38 (by decide)]; exact hr.1
      have k51 : r3.1 79 51 = -1 := by rw [hF3.2.2.1 51 (by decide)]; exact hr.2.1
      have k36 : r3.1 79 36 = c3.1 0 12 := by rw [hF3.2.2.1 36 (by decide), z0]; exact hr.2.2
      obtain ⟨c4, e1, ⟨e2, e3⟩, e4⟩ := night_of (l := c3.1 0 12) (v := 0) (o := -1) hb3 (by rw [z0]; exact hl3) hp3 k36 ⟨k38, by decide, by decide⟩ ⟨k51, by decide, by decide⟩ (show (479 : Int32).toInt = (479 : Nat) from rfl) (by omega)
      obtain ⟨c5, r5, m1, m2, m3, m4⟩ := e4 c4 (fun _ _ => rfl) (fun _ _ _ => rfl) e2 e3 rfl
      obtain ⟨e, x1, x2, x3⟩ := least_all m3 hS0
      have hF5 : aF s r0 c5 r5 := aF_tr hF3 (aF_of m4)
      have c11 : c5.1 1 1 = nI S := by
        rw [(aF_0 hF5).2]
        exact i_lit (by rw [hb.1.2.1.1, nI_int (by omega)])
      rw [c11] at x1
      have em : f_M_leastEasy r3 = some (e, r5) := by
        unfold f_M_leastEasy
        rw [m2, Option.bind_some, x2]
      have h53' : ∀ i, i < S → c5.1 53 i = nI (dg S N i) := fun i hi => by
        rw [m4.1.1 53 (by omega) (by decide) (by decide) (by decide) (by decide), y3 53 (by decide)]
        exact h53 i hi
      have ed : f_B_orderAsDigits (nI S) c5 = some (oD S N S 0 0) := dig_loop (nI_int (by omega)) hS6 h53' S 0 zF 0 0 (by omega) rfl (by unfold zF; omega)
      obtain ⟨b, c6, g1, g2, g3⟩ := nx_of hS6 hS0 hnx h53'
      rw [← hZ] at g3
      have hi6 := i_inc (a := v6) (by omega)
      have hF6 : aF s r0 c6 r5 := aF_tr hF5 (aF_wr (fun o a _ => g2.1 o a) g2.2 (fun _ _ _ _ => rfl) rfl)
      have h115'' : ∀ i, i < S → r5.1 115 i = r0.1 80 i := fun i h => by rw [m4.2.1 115 (by decide) (by omega), y5 115 (by decide)]; exact h115' i h
      have hhi'' : ∀ i, S ≤ i → r5.1 80 i = r0.1 80 i := fun i h => by rw [m4.2.1 80 (by decide) (by omega), y7 i h]; exact hhi' i h
      have n720 : ¬ (720 : Int32) ≤ v6 := by rw [i_le, l720]; omega
      have y1' : f_Bed_laySideBySide c = some c3 := y1
      rw [y2, em, Option.bind_some, f_B_across_L57, if_neg n720, hmore, if_neg one_ne, y1', Option.bind_some, e1, Option.bind_some, m1, Option.bind_some, x1, Option.bind_some]
      simp only
      unfold f_B_across_J140
      by_cases d : e ≤ most
      · rw [if_pos d, if_neg (by rw [i_lt]; rw [i_le] at d; omega), g1, Option.bind_some]
        exact ih (N + 1) P' (k + 1) n n2 best most b (v6 + 1) (v5 + 1) c6 r5 (by omega) (by omega) (by omega) (by omega) (by omega) (by omega) hw' hF6 h115'' hhi'' g3
      · rw [if_neg d, if_pos (by rw [i_lt]; rw [i_le] at d; omega), ed, Option.bind_some, g1, Option.bind_some]
        exact ih (N + 1) P' (k + 1) n n2 (oD S N S 0 0) e b (v6 + 1) (v5 + 1) c6 r5 (by omega) (by omega) (by omega) (by omega) (by omega) (by omega) hw' hF6 h115'' hhi'' g3
