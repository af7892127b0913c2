/-- what counting leaves as it was -/
def kF (r r2 : zz_S) : Prop := (∀ o, o ≠ 101 → o ≠ 102 → ¬ (107 ≤ o ∧ o ≤ 112) → r2.1 o = r.1 o) ∧ r2.2 = r.2
theorem kF_tr {a b c : zz_S} (h : kF a b) (k : kF b c) : kF a c := ⟨fun o h1 h2 h3 => (k.1 o h1 h2 h3).trans (h.1 o h1 h2 h3), k.2.trans h.2⟩
theorem kF_me (r : zz_S) : kF r r := ⟨fun _ _ _ _ => rfl, rfl⟩
theorem kF_nS {c r r2 : zz_S} {S C W : Nat} (h : kF r r2) (hs : nS c r S C W) : nS c r2 S C W :=
  nS_fr hs (fun _ _ _ => rfl) (fun k _ => by rw [h.1 79 (by omega) (by omega) (by omega)]) (fun o a b => h.1 o (by omega) (by omega) (by omega))
theorem kF_nR {c r r2 : zz_S} (h : kF r r2) (hR : nR c r) : nR c r2 := by
  unfold nR at hR ⊢
  rw [h.1 79 (by omega) (by omega) (by omega), h.1 96 (by omega) (by omega) (by omega), h.1 97 (by omega) (by omega) (by omega), h.1 98 (by omega) (by omega) (by omega), h.1 99 (by omega) (by omega) (by omega), h.1 100 (by omega) (by omega) (by omega)]
  exact hR
theorem kF_nP {c r r2 : zz_S} {W i : Nat} (h : kF r r2) (hp : nP c r W i) : nP c r2 W i := by
  unfold nP at hp ⊢
  rw [h.1 103 (by omega) (by omega) (by omega)]
  exact hp
theorem kF_nQ {c r r2 : zz_S} {W B k : Nat} (h : kF r r2) (hq : nQ c r W B k) : nQ c r2 W B k := by
  unfold nQ at hq ⊢
  rw [h.1 104 (by omega) (by omega) (by omega)]
  exact hq
def cvI (c : zz_S) (C i : Nat) : Nat := cvN (c.1 36) (c.1 7) C (c.1 33 i) (c.1 3 i)
theorem cvI_le {c r : zz_S} {S C W i : Nat} (hs : nS c r S C W) (hi : i < S) : cvI c C i ≤ 20 := by
  have h1 := ct_le (fun j => cvr (c.1 36) (c.1 7) C ((c.1 33 i).toInt + j)) (c.1 3 i).toInt.toNat
  have h2 := (hs.2.2.2.2.2.1 i hi).1
  unfold cvI cvN
  omega
/-- one minute's count of one -/
def up1 (c : zz_S) (C mm : Nat) (m n : Int) (i : Nat) (t : Int × Int × Int × Int × Int × Int) : Int × Int × Int × Int × Int × Int :=
  cUp (ezB ((c.1 16 mm).toInt + (c.1 20 13).toInt + wOwn c C i) (c.1 4 i).toInt) (coB ((c.1 16 mm).toInt + (c.1 20 13).toInt + wOwn c C i) (c.1 4 i).toInt) (baB (cvI c C i) (c.1 3 i).toInt) m n t
theorem cn_loop {c r0 : zz_S} {S C W B mm : Nat} {m' dg : Int32} (hs : nS c r0 S C W) (hp : ∀ i, i < S → nP c r0 W i) (hq : ∀ k, k < C → nQ c r0 W B k) (hB : B ≤ 1000000000) (hm : m'.toInt = mm) (hm2 : mm ≤ 479) (hdg : dg.toInt = (c.1 16 mm).toInt + (c.1 20 13).toInt) (hdg2 : -100 ≤ dg.toInt ∧ dg.toInt ≤ 100) (ht : ∀ i, i < S → tOk 479 (tR r0 i)) :
    ∀ (q j n : Nat) (v3 : Int32) (r : zz_S), j + q = S → v3.toInt = j → q < n → (∀ o, o < 107 ∨ 112 < o → r.1 o = r0.1 o) → r.2 = r0.2 → (∀ i, i < j → tR r i = up1 c C mm m'.toInt 1 i (tR r0 i)) → (∀ i, j ≤ i → tR r i = tR r0 i) →
      ∃ r2 : zz_S, f_M_countNow_L8 n m' dg v3 r = some r2 ∧ (∀ o, o < 107 ∨ 112 < o → r2.1 o = r0.1 o) ∧ r2.2 = r0.2 ∧ ∀ i, i < S → tR r2 i = up1 c C mm m'.toInt 1 i (tR r0 i) := by
  have hs' := hs
  obtain ⟨⟨s1, s2, s3⟩, ⟨s4, s5⟩, ⟨s6, s7⟩, ⟨rr1, rr2, r7⟩, ⟨r81, r82, r83, r85, r86, r87⟩, s8, s9⟩ := hs
  intro q
  induction q with
  | zero =>
    intro j n v3 r hj hv hn h1 h2 h3 h4
    obtain ⟨n, rfl⟩ : ∃ k, n = k + 1 := ⟨n - 1, by omega⟩
    exact ⟨r, by rw [f_M_countNow_L8, if_pos (by rw [i_le, h1 79 (by omega), rr2]; omega)], h1, h2, fun i hi => h3 i (by omega)⟩
  | succ q ih =>
    intro j n v3 r hj hv hn h1 h2 h3 h4
    obtain ⟨n, rfl⟩ : ∃ k, n = k + 1 := ⟨n - 1, by omega⟩
    have hv1 := i_inc (a := v3) (by omega)
    have hjS : j < S := by omega
    have b := s8 j hjS
    have bw := wOwn_bd hs' hjS
    have z3 : zz_in v3 6 = true := i_in.mpr (by omega)
    have Hs : ∀ r' : zz_S, (∀ o, o < 107 ∨ 112 < o → r'.1 o = r0.1 o) → nS c r' S C W := fun r' h => nS_fr hs' (fun _ _ _ => rfl) (fun k _ => by rw [h 79 (by omega)]) (fun o a b => h o (by omega))
    have Hp : ∀ r' : zz_S, (∀ o, o < 107 ∨ 112 < o → r'.1 o = r0.1 o) → nP c r' W j := fun r' h => by
      have := hp j hjS
      unfold nP at this ⊢
      rw [h 103 (by omega)]
      exact this
    have Hq : ∀ r' : zz_S, (∀ o, o < 107 ∨ 112 < o → r'.1 o = r0.1 o) → ∀ k, k < C → nQ c r' W B k := fun r' h k hk => by
      have := hq k hk
      unfold nQ at this ⊢
      rw [h 104 (by omega)]
      exact this
    obtain ⟨x, x1, x2⟩ := wr_of (dg := dg) (by omega) (Hs r h1) hjS hv (Hp r h1) (Hq r h1) hB
    obtain ⟨r2, g1, g2, g3⟩ := rin_of (r := r) (cov := cvI c C j) (m := m') (dg := dg) (br := c.1 3 j) (x := x) (want := c.1 4 j) (f_M_countNow_L8 n) hv (by omega) (cvI_le hs' hjS) (fun r' hr' => by
      have hr0 : ∀ o, o < 107 ∨ 112 < o → r'.1 o = r0.1 o := fun o ho => (hr' o ho).trans (h1 o ho)
      have hQ := Hq r' hr0
      have hP := Hp r' hr0
      exact co_ref (B := B) (Hs r' hr0) (fun k hk => ⟨(hQ k hk).1, (hQ k hk).2.1⟩) hjS hv ⟨hP.1, hP.2.1⟩ hB) (by rw [h1 81 (by omega), r81]) (by rw [h1 82 (by omega), r82]) b.2.1 (by omega) (by rw [h4 j (Nat.le_refl _)]; exact ht j hjS) (by omega)
    rw [f_M_countNow_L8, if_neg (by rw [i_le, h1 79 (by omega), rr2]; omega), x2, Option.bind_some, if_pos z3, nz_eq hv]
    have e82 : r.1 82 j = c.1 4 j := by rw [h1 82 (by omega), r82]
    rw [e82, g1]
    refine ih (j + 1) n (v3 + 1) r2 (by omega) (by omega) (by omega) (fun o ho => (g2.1 o ho).trans (h1 o ho)) (g2.2.2.trans h2) (fun i hi => ?_) (fun i hi => ?_)
    · by_cases e : i = j
      · subst e
        rw [g3, h4 i (Nat.le_refl _)]
        unfold up1
        rw [x1, hdg]
      · rw [← h3 i (by omega)]
        unfold tR
        rw [g2.2.1 107 i e, g2.2.1 108 i e, g2.2.1 109 i e, g2.2.1 110 i e, g2.2.1 111 i e, g2.2.1 112 i e]
    · rw [← h4 i (by omega)]
      have e : i ≠ j := by omega
      unfold tR
      rw [g2.2.1 107 i e, g2.2.1 108 i e, g2.2.1 109 i e, g2.2.1 110 i e, g2.2.1 111 i e, g2.2.1 112 i e]
theorem cn_of {c r : zz_S} {S C W B mm : Nat} {m' : Int32} (hs : nS c r S C W) (hR : nR c r) (hp : ∀ i, i < S → nP c r W i) (hq : ∀ k, k < C → nQ c r W B k) (hB : B ≤ 1000000000) (hm : m'.toInt = mm) (hm2 : mm ≤ 479) (ht : ∀ i, i < S → tOk 479 (tR r i)) :
    ∃ r2, f_M_countNow m' r = some r2 ∧ kF r r2 ∧ ∀ i, i < S → tR r2 i = up1 c C mm m'.toInt 1 i (tR r i) := by
  obtain ⟨dg, r1, g1, g2, g3, g4, g5⟩ := dg_of hR hm hm2
  have hk : kF r r1 := ⟨fun o a b _ => g4 o a b, g5⟩
  have eT : ∀ i, tR r1 i = tR r i := fun i => by
    unfold tR
    rw [g4 107 (by decide) (by decide), g4 108 (by decide) (by decide), g4 109 (by decide) (by decide), g4 110 (by decide) (by decide), g4 111 (by decide) (by decide), g4 112 (by decide) (by decide)]
  obtain ⟨r2, k1, k2, k3, k4⟩ := cn_loop (kF_nS hk hs) (fun i hi => kF_nP hk (hp i hi)) (fun k hk' => kF_nQ hk (hq k hk')) hB hm hm2 g2 (by have := hR.2.2; omega) (fun i hi => by rw [eT]; exact ht i hi) S 0 zF 0 r1 (by omega) rfl (by have := hs.2.1.2; unfold zF; omega) (fun _ _ => rfl) rfl (fun i hi => by omega) (fun _ _ => rfl)
  refine ⟨r2, ?_, kF_tr hk ⟨fun o _ _ h => k2 o (by omega), k3⟩, fun i hi => by rw [k4 i hi, eT]⟩
  unfold f_M_countNow
  rw [g1, Option.bind_some, k1]
/-- many minutes alike, by the class -/
theorem sg_loop {c0 r0 : zz_S} {S C W mm : Nat} {m' : Int32} {nn : Nat} (K2 : Int32 → Int32 → zz_S → Option zz_S) (v1 v2 : Int32) (hs : nS c0 r0 S C W) (hR : nR c0 r0) (hm : m'.toInt = mm) (hm2 : mm ≤ 479) (hnx : (c0.1 20 11).toInt = (mm + nn : Nat)) (hnn : mm + nn ≤ 480) (hown : ∀ i, i < S → (c0.1 35 i).toInt = wOwn c0 C i) (hcv : ∀ i, i < S → c0.1 34 i = nI (cvI c0 C i)) (ht : ∀ i, i < S → tOk mm (tC c0 i)) :
    ∀ (q j n : Nat) (v4 : Int32) (c : zz_S), j + q = S → v4.toInt = j → q < n → (∀ o, o < 22 ∨ 27 < o → c.1 o = c0.1 o) → c.2 = c0.2 → (∀ i, i < j → tC c i = up1 c0 C mm m'.toInt nn i (tC c0 i)) → (∀ i, j ≤ i → tC c i = tC c0 i) →
      ∃ c2 : zz_S, f_Night_play_L79 K2 n v1 v2 m' v4 c = K2 v1 (v2 + 1) c2 ∧ (∀ o, o < 22 ∨ 27 < o → c2.1 o = c0.1 o) ∧ c2.2 = c0.2 ∧ ∀ i, i < S → tC c2 i = up1 c0 C mm m'.toInt nn i (tC c0 i) := by
  have hs' := hs
  obtain ⟨⟨s1, s2, s3⟩, ⟨s4, s5⟩, ⟨s6, s7⟩, -, -, s8, s9⟩ := hs
  intro q
  induction q with
  | zero =>
    intro j n v4 c hj hv hn h1 h2 h3 h4
    obtain ⟨n, rfl⟩ : ∃ k, n = k + 1 := ⟨n - 1, by omega⟩
    exact ⟨c, by rw [f_Night_play_L79, if_pos (by rw [i_le, h1 1 (by omega)]; omega)], h1, h2, fun i hi => h3 i (by omega)⟩
  | succ q ih =>
    intro j n v4 c hj hv hn h1 h2 h3 h4
    obtain ⟨n, rfl⟩ : ∃ k, n = k + 1 := ⟨n - 1, by omega⟩
    have hv1 := i_inc (a := v4) (by omega)
    have hjS : j < S := by omega
    have b := s8 j hjS
    have bw := wOwn_bd hs' hjS
    have hd := (hR.1.1 mm (by omega)).1
    have hsub := i_sub (a := c0.1 20 11) (b := m') (by omega) (by omega)
    have hmany : (c0.1 20 11 - m').toInt = nn := by omega
    have htj := ht j hjS
    have e4 := h4 j (Nat.le_refl _)
    have htj' := htj
    obtain ⟨t1, t2, t3, t4, t5, t6⟩ := htj'
    rw [← e4] at t1 t3
    simp only [tC] at t1 t3
    obtain ⟨c2, g1, g2, g3⟩ := cin_of (c := c) (i := j) (mm := mm) (i' := v4) (m := m') (n := c0.1 20 11 - m') hv (by omega) (by
      rw [e4]
      obtain ⟨u1, u2, u3, u4, u5, u6⟩ := htj
      exact ⟨by omega, by omega, by omega, by omega, u5, u6⟩) (by omega) hm hm2 (by omega) (by rw [h1 16 (by omega)]; omega) (by rw [h1 20 (by omega)]; exact hR.2.2) (by rw [h1 35 (by omega), hown j hjS]; omega) (by rw [h1 4 (by omega)]; exact b.2.1)
    rw [h1 16 (by omega), h1 20 (by omega), h1 35 (by omega), h1 4 (by omega), h1 34 (by omega), h1 3 (by omega), hown j hjS, hcv j hjS, nI_int (by have := cvI_le hs' hjS; omega), hmany, e4] at g2
    rw [f_Night_play_L79, if_neg (by rw [i_le, h1 1 (by omega)]; omega), h1 20 (by omega), g1, Option.bind_some]
    refine ih (j + 1) n (v4 + 1) c2 (by omega) (by omega) (by omega) (fun o ho => (g3.1 o ho).trans (h1 o ho)) (g3.2.2.trans h2) (fun i hi => ?_) (fun i hi => ?_)
    · by_cases e : i = j
      · subst e
        exact g2
      · rw [← h3 i (by omega)]
        unfold tC
        rw [g3.2.1 22 i e, g3.2.1 23 i e, g3.2.1 24 i e, g3.2.1 27 i e, g3.2.1 25 i e, g3.2.1 26 i e]
    · rw [← h4 i (by omega)]
      have e : i ≠ j := by omega
      unfold tC
      rw [g3.2.1 22 i e, g3.2.1 23 i e, g3.2.1 24 i e, g3.2.1 27 i e, g3.2.1 25 i e, g3.2.1 26 i e]
