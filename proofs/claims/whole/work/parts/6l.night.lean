/-- from one minute to the next one that is other -/
theorem seg_of {c r : zz_S} {S C W B m nn : Nat} {m' t' : Int32} (K2 : Int32 → Int32 → zz_S → Option zz_S) (v1 v2 : Int32) (G : Nat → Int32 → zz_S → Option zz_S) (f : Nat) (hm : m'.toInt = m) (hs : nS c r S C W) (hR : nR c r) (hD : nD c r S C W B) (hB : B ≤ 1000000000) (hown : ∀ i, i < S → (c.1 35 i).toInt = wOwn c C i) (hct : ∀ i, i < S → tR r i = tC c i ∧ tOk m (tC c i)) (ht' : t'.toInt = (m + nn : Nat)) (hnn : 1 ≤ nn) (hnn2 : m + nn ≤ 480) (hsame : (m + nn : Nat) ≤ (c.1 17 m).toInt)
    (HG : ∀ (f k : Nat) (k' : Int32) (r' : zz_S), k'.toInt = k → m < k → k < m + nn → kF r r' → G (f + 1) k' r' = (f_M_countNow k' r').bind fun r => G f (k' + 1) r) :
    ∃ (c2 : zz_S) (k2 : Int32) (r2 : zz_S), f_Night_play_L79 K2 zF v1 v2 m' 0 (zz_w c 20 11 t') = K2 v1 (v2 + 1) c2 ∧ ((f_M_countNow m' r).bind fun r => G (f + (nn - 1)) (m' + 1) r) = G f k2 r2 ∧ k2.toInt = (m + nn : Nat) ∧
      ((∀ o, o < 22 ∨ 27 < o → o ≠ 20 → c2.1 o = c.1 o) ∧ (∀ k, k ≠ 11 → c2.1 20 k = c.1 20 k) ∧ c2.1 20 11 = t' ∧ c2.2 = c.2) ∧ kF r r2 ∧ (∀ i, i < S → tR r2 i = tC c2 i ∧ tOk (m + nn : Nat) (tC c2 i)) ∧ nD c2 r2 S C W B := by
  have hP := hD.1
  have hQ := hD.2.1
  have hcv := hD.2.2.1
  have hdeg : ∀ k, m ≤ k → k ≤ m + nn - 1 → c.1 16 k = c.1 16 m := fun k h1 h2 => (hR.1.1 m (by omega)).2.2 k h1 (by omega)
  -- the class
  have w20 : ∀ o, o ≠ 20 → (zz_w c 20 11 t').1 o = c.1 o := fun o ho => by rw [w_row, if_neg ho]
  have w20k : ∀ k, k ≠ 11 → (zz_w c 20 11 t').1 20 k = c.1 20 k := fun k hk => by rw [w_get, if_pos rfl, if_neg hk]
  have w11 : (zz_w c 20 11 t').1 20 11 = t' := by rw [w_get, if_pos rfl, if_pos rfl]
  have eup : ∀ (n : Int) (i : Nat) (t), up1 (zz_w c 20 11 t') C m m'.toInt n i t = up1 c C m m'.toInt n i t := fun n i t => by
    unfold up1 cvI
    rw [w20 16 (by decide), w20k 13 (by decide), w20 4 (by decide), w20 36 (by decide), w20 7 (by decide), w20 33 (by decide), w20 3 (by decide), wOwn_same (c := c) (c2 := zz_w c 20 11 t') fun o ho => w20 o (by omega)]
  have etC : ∀ i, tC (zz_w c 20 11 t') i = tC c i := fun i => by
    unfold tC
    rw [w20 22 (by decide), w20 23 (by decide), w20 24 (by decide), w20 27 (by decide), w20 25 (by decide), w20 26 (by decide)]
  obtain ⟨c2, g1, g2, g3, g4⟩ := sg_loop (c0 := zz_w c 20 11 t') (r0 := r) (C := C) (mm := m) (m' := m') (nn := nn) K2 v1 v2 (nS_fr hs (fun o _ _ => w20 o (by omega)) (fun _ _ => rfl) (fun _ _ _ => rfl)) (by
    unfold nR at hR ⊢
    rw [w20 16 (by decide), w20 17 (by decide), w20 18 (by decide), w20k 13 (by decide)]
    exact hR) hm (by omega) (by rw [w11]; exact ht') hnn2 (fun i hi => by rw [w20 35 (by decide), hown i hi]; exact (wOwn_same fun o ho => w20 o (by omega)).symm) (fun i hi => by rw [w20 34 (by decide), hcv i hi]; unfold cvI; rw [w20 36 (by decide), w20 7 (by decide), w20 33 (by decide), w20 3 (by decide)]) (fun i hi => by rw [etC]; exact (hct i hi).2) S 0 zF 0 (zz_w c 20 11 t') (by omega) rfl (by have := hs.2.1.2; unfold zF; omega) (fun _ _ => rfl) rfl (fun i hi => by omega) (fun _ _ => rfl)
  -- the reference
  obtain ⟨r1, k1, k2, k3⟩ := cn_of (mm := m) hs hR hP hQ hB hm (by omega) (fun i hi => by
    rw [(hct i hi).1]
    obtain ⟨u1, u2, u3, u4, u5, u6⟩ := (hct i hi).2
    exact ⟨by omega, by omega, by omega, by omega, u5, u6⟩)
  obtain ⟨kk, r2, n1, n2, n3, n4⟩ := quiet G (m + nn - 1) hm hs hR hP hQ hB (fun i hi => by rw [(hct i hi).1]; exact (hct i hi).2) (by omega) hdeg (fun f k k' r' h1 h2 h3 h4 => HG f k k' r' h1 h2 (by omega) h4) (nn - 1) 1 f (m' + 1) r1 (Nat.le_refl _) (by omega) (by rw [i_inc (by omega)]; omega) k2 k3
  rw [show 1 + (nn - 1) = nn by omega] at n4
  have hcount : ∀ i, i < S → tR r2 i = tC c2 i ∧ tOk (m + nn : Nat) (tC c2 i) := fun i hi => by
    have e : tC c2 i = up1 c C m m'.toInt nn i (tC c i) := by rw [g4 i hi, eup, etC]
    refine ⟨by rw [n4 i hi, (hct i hi).1, e], ?_⟩
    rw [e]
    have := tOk_up (ezB ((c.1 16 m).toInt + (c.1 20 13).toInt + wOwn c C i) (c.1 4 i).toInt) (coB ((c.1 16 m).toInt + (c.1 20 13).toInt + wOwn c C i) (c.1 4 i).toInt) (baB (cvI c C i) (c.1 3 i).toInt) (n := nn) (hct i hi).2 (show 0 ≤ m'.toInt by omega) (by omega)
    rw [show ((m : Int) + (nn : Int)) = ((m + nn : Nat) : Int) by omega] at this
    exact this
  have C2 : ∀ o, o < 22 ∨ 27 < o → o ≠ 20 → c2.1 o = c.1 o := fun o h1 h2 => (g2 o h1).trans (w20 o h2)
  refine ⟨c2, kk, r2, g1, ?_, by rw [n2]; omega, ⟨C2, fun k hk => by rw [g2 20 (by omega)]; exact w20k k hk, by rw [g2 20 (by omega)]; exact w11, g3⟩, n3, hcount, ?_⟩
  · rw [k1, Option.bind_some, n1]
  · refine ⟨fun i hi => ?_, fun k hk => ?_, fun i hi => ?_, fun i hi => ?_, fun k hk => ?_, fun i hi => ?_⟩
    · have := hP i hi
      unfold nP at this ⊢
      rw [C2 33 (by omega) (by decide), C2 3 (by omega) (by decide), n3.1 103 (by decide) (by decide) (by omega), g3]
      exact this
    · have := hQ k hk
      unfold nQ at this ⊢
      rw [C2 36 (by omega) (by decide), C2 7 (by omega) (by decide), n3.1 104 (by decide) (by decide) (by omega), g3]
      exact this
    · rw [C2 34 (by omega) (by decide), C2 36 (by omega) (by decide), C2 7 (by omega) (by decide), C2 33 (by omega) (by decide), C2 3 (by omega) (by decide)]
      exact hcv i hi
    · rw [C2 29 (by omega) (by decide), n3.1 105 (by decide) (by decide) (by omega)]
      exact hD.2.2.2.1 i hi
    · rw [C2 28 (by omega) (by decide), n3.1 113 (by decide) (by decide) (by omega)]
      exact hD.2.2.2.2.1 k hk
    · obtain ⟨e1, e2⟩ := hcount i hi
      obtain ⟨u1, u2, u3, u4, u5, u6⟩ := e2
      unfold tR tC at e1
      obtain ⟨x1, x2, x3, x4, x5, x6⟩ := Prod.mk.inj e1 |>.imp id fun h => Prod.mk.inj h |>.imp id fun h => Prod.mk.inj h |>.imp id fun h => Prod.mk.inj h |>.imp id fun h => Prod.mk.inj h
      refine ⟨i_lit x5, i_lit x6, ?_, u6⟩
      rcases u5 with u5 | u5
      · exact Or.inl (i_lit (b := -2) u5)
      · exact Or.inr u5
/-- no turn of a minute: the reference leaves all -/
theorem mi_loop {c r : zz_S} {T k : Nat} {k' : Int32} (hk : k'.toInt = k) (h12 : r.1 79 12 = c.1 10 0) (h88 : r.1 88 = c.1 11) (hT : (c.1 10 0).toInt = T) (hT60 : T ≤ 60) (hno : ∀ i, i < T → ¬ (c.1 11 i).toInt = k) :
    ∀ (q j n : Nat) (v2 : Int32), j + q = T → v2.toInt = j → q < n → f_M_minute_L2 n k' v2 r = some r := by
  intro q
  induction q with
  | zero =>
    intro j n v2 hj hv hn
    obtain ⟨n, rfl⟩ : ∃ x, n = x + 1 := ⟨n - 1, by omega⟩
    rw [f_M_minute_L2, if_pos (by rw [i_le, h12]; omega)]
  | succ q ih =>
    intro j n v2 hj hv hn
    obtain ⟨n, rfl⟩ : ∃ x, n = x + 1 := ⟨n - 1, by omega⟩
    have hv1 := i_inc (a := v2) (by omega)
    have hn2 : ¬ r.1 88 j = k' := fun q => hno j (by omega) (by rw [← h88, q, hk])
    rw [f_M_minute_L2, if_neg (by rw [i_le, h12]; omega), if_pos (i_in.mpr (by omega)), nz_eq hv, if_neg hn2]
    exact ih (j + 1) n (v2 + 1) (by omega) (by omega) (by omega)
