theorem f_get (s : zz_S) (o n : Nat) (v : Int32) (a j : Nat) : (zz_fillI s o n v).1 a j = if a = o then (if j < n then v else s.1 a j) else s.1 a j := rfl
theorem f_row (s : zz_S) (o n : Nat) (v : Int32) {a : Nat} (h : a ≠ o) : (zz_fillI s o n v).1 a = s.1 a := funext fun j => by rw [f_get, if_neg h]
theorem begin_of {c r : zz_S} {S C W pl : Nat} (law : Int32) (hs : nS c r S C W) (hl : lfOK c r C) (hpl : plOK c r pl S W) :
    ∃ c1 r1, f_Night_begin law pl c = some c1 ∧ f_M_begin r = some r1 ∧ nD c1 r1 S C W 60 ∧ (∀ i, i < S → (c1.1 35 i).toInt = wOwn c1 C i) ∧ (∀ i, i < S → tR r1 i = tC c1 i ∧ tOk 0 (tC c1 i)) ∧
      (c1.1 20 10 = law ∧ c1.1 20 11 = 0 ∧ c1.1 20 12 = 0 ∧ c1.1 20 13 = 0 ∧ c1.1 20 14 = -1 ∧ c1.1 20 16 = -1 ∧ c1.1 20 15 = c.1 20 15) ∧
      ((∀ o, o < 20 ∨ 38 < o → c1.1 o = c.1 o) ∧ ∀ o, o ≠ 37 → o ≠ 38 → c1.2 o = c.2 o) ∧ (∀ o, ¬ (103 ≤ o ∧ o ≤ 105) → ¬ (107 ≤ o ∧ o ≤ 113) → r1.1 o = r.1 o) ∧ r1.2 = r.2 := by
  obtain ⟨r1, b1, b2, b3, b4, b5, b6⟩ := rb_of r
  have hs0 := hs
  obtain ⟨⟨s1, s2, s3⟩, ⟨s4, s5⟩, ⟨s6, s7⟩, ⟨rr1, rr2, r7⟩, -, s8, s9⟩ := hs
  -- the covers
  obtain ⟨ca, a1, a2, a3, a4⟩ := cb1_loop pl hs0 hl C 0 zF 0 c (by omega) rfl (by unfold zF; omega) (fun _ _ => rfl) (fun _ _ => rfl) (fun k hk => by omega)
  obtain ⟨M, m1, m2, m3⟩ := covers_of (c := ca) (W := W) (C := C) s3 (by rw [a2 1 (by decide)]; exact s6) s7 (fun k hk => by
    have := s9 k hk
    rw [a2 7 (by decide)]
    omega) (fun k hk => by rw [(a4 k hk).2, (a4 k hk).1, a2 7 (by decide)])
  have hsa : nS ca r S C W := nS_fr hs0 (fun o _ _ => a2 o (by omega)) (fun _ _ => rfl) (fun _ _ _ => rfl)
  have hpla : plOK ca r pl S W := by
    obtain ⟨p0, p1⟩ := hpl
    refine ⟨p0, fun i hi => ?_⟩
    rw [a2 pl (by omega), a2 3 (by decide)]
    exact p1 i hi
  -- the sleepers
  obtain ⟨cb, d1, d2, d3, d4⟩ := cb2_loop hsa hpla m2 m3 S 0 zF 0 ca (by omega) rfl (by unfold zF; omega) (fun _ _ _ => rfl) (fun _ _ => rfl) (fun k hk => by omega)
  have hP : ∀ i, i < S → nP cb r1 W i := fun i hi => by
    obtain ⟨e1, e2, e3⟩ := d4 i hi
    obtain ⟨p1, p2, p3⟩ := hpla.2 i hi
    unfold nP
    rw [e1, e2, (b4 i (by omega)).1, d2 3 (by decide) (by decide)]
    exact ⟨p1, ⟨p2, p3⟩, rfl⟩
  have hQ : ∀ k, k < C → nQ cb r1 W 60 k := fun k hk => by
    obtain ⟨e1, e2⟩ := a4 k hk
    have := hl.2 k hk
    unfold nQ
    rw [d2 36 (by decide) (by decide), d2 7 (by decide) (by decide), d3 38 (by decide), e1, e2, a2 7 (by decide), b5 k (by omega), hl.1]
    exact ⟨rfl, ⟨by omega, by omega⟩, rfl⟩
  have hsb : nS cb r1 S C W := nS_fr hsa (fun o _ _ => d2 o (by omega) (by omega)) (fun k _ => by rw [b2 79 (by omega) (by omega)]) (fun o _ _ => b2 o (by omega) (by omega))
  obtain ⟨cc, f1, f2, f3, f4⟩ := fw_of hsb hP hQ (by omega)
  have e1 : f_Lie_begin pl c = some cc := by
    unfold f_Lie_begin
    rw [a1, m1, Option.bind_some, d1, f1]
    rfl
  have ccb : ∀ o, o < 33 ∨ 38 < o → cc.1 o = c.1 o := fun o ho => by rw [f2 o (by omega), d2 o (by omega) (by omega), a2 o (by omega)]
  unfold f_Night_begin
  rw [e1, Option.bind_some]
  generalize hcd : zz_w (zz_w (zz_w (zz_w (zz_w (zz_w (f_Tally_begin (zz_fillI (zz_fillI cc 28 18 (0 : Int32)) 29 6 (0 : Int32))) 20 10 law) 20 11 (0 : Int32)) 20 12 (0 : Int32)) 20 13 (0 : Int32)) 20 14 (-1 : Int32)) 20 16 (-1 : Int32) = cd
  have D1 : ∀ o, o ≠ 20 → ¬ (22 ≤ o ∧ o ≤ 29) → cd.1 o = cc.1 o := fun o h1 h2 => by
    rw [← hcd]
    unfold f_Tally_begin
    rw [w_row, if_neg h1, w_row, if_neg h1, w_row, if_neg h1, w_row, if_neg h1, w_row, if_neg h1, w_row, if_neg h1, f_row _ _ _ _ (by omega), f_row _ _ _ _ (by omega), f_row _ _ _ _ (by omega), f_row _ _ _ _ (by omega), f_row _ _ _ _ (by omega), f_row _ _ _ _ (by omega), f_row _ _ _ _ (by omega), f_row _ _ _ _ (by omega)]
  have D2 : cd.2 = cc.2 := by rw [← hcd]; rfl
  have D3 : ∀ o k, (22 ≤ o ∧ o ≤ 29) → k < 6 → cd.1 o k = if o = 25 ∨ o = 26 then -2 else 0 := fun o k h1 h2 => by
    rw [← hcd]
    unfold f_Tally_begin
    have cs : o = 22 ∨ o = 23 ∨ o = 24 ∨ o = 25 ∨ o = 26 ∨ o = 27 ∨ o = 28 ∨ o = 29 := by omega
    have h18 : k < 18 := by omega
    rcases cs with q | q | q | q | q | q | q | q <;> subst q <;> simp [w_get, f_get, h2, h18]
  have D28 : ∀ k, k < 18 → cd.1 28 k = 0 := fun k h1 => by
    rw [← hcd]
    unfold f_Tally_begin
    simp [w_get, f_get, h1]
  have D20 : cd.1 20 10 = law ∧ cd.1 20 11 = 0 ∧ cd.1 20 12 = 0 ∧ cd.1 20 13 = 0 ∧ cd.1 20 14 = -1 ∧ cd.1 20 16 = -1 ∧ cd.1 20 15 = cc.1 20 15 := by
    rw [← hcd]
    unfold f_Tally_begin
    simp [w_get, f_get]
  refine ⟨cd, r1, rfl, b1, ⟨fun i hi => ?_, fun k hk => ?_, fun i hi => ?_, fun i hi => ?_, fun k hk => ?_, fun i hi => ?_⟩, fun i hi => ?_, fun i hi => ?_, ?_, ⟨fun o ho => ?_, fun o h1 h2 => ?_⟩, b2, b3⟩
  · have := hP i hi
    unfold nP at this ⊢
    rw [D1 33 (by decide) (by omega), D1 3 (by decide) (by omega), D2, f2 33 (by decide), f2 3 (by decide), f3]
    exact this
  · have := hQ k hk
    unfold nQ at this ⊢
    rw [D1 36 (by decide) (by omega), D1 7 (by decide) (by omega), D2, f2 36 (by decide), f2 7 (by decide), f3]
    exact this
  · rw [D1 34 (by decide) (by omega), D1 36 (by decide) (by omega), D1 7 (by decide) (by omega), D1 33 (by decide) (by omega), D1 3 (by decide) (by omega), f2 34 (by decide), f2 36 (by decide), f2 7 (by decide), f2 33 (by decide), f2 3 (by decide), (d4 i hi).2.2, (d4 i hi).1, d2 36 (by decide) (by decide), d2 7 (by decide) (by decide), d2 3 (by decide) (by decide)]
  · rw [(b4 i (by omega)).2.1, D3 29 i (by omega) (by omega), if_neg (by omega)]
    exact ⟨rfl, by decide, by decide⟩
  · rw [b6 k hk, D28 k hk]
  · rw [D3 25 i (by omega) (by omega), D3 26 i (by omega) (by omega), D3 27 i (by omega) (by omega), if_pos (by omega), if_pos (by omega), if_neg (by omega)]
    obtain ⟨-, -, -, -, -, -, x1, x2⟩ := b4 i (by omega)
    exact ⟨x1, x2, Or.inl rfl, fun h => absurd h (by decide)⟩
  · rw [D1 35 (by decide) (by omega), f4 i hi]
    exact (wOwn_same fun o ho => by rw [D1 o (by omega) (by omega), f2 o (by omega)]).symm
  · obtain ⟨-, -, x1, x2, x3, x4, x5, x6⟩ := b4 i (by omega)
    refine ⟨tRC.mpr ?_, tOkC.mpr ?_⟩
    · rw [D3 22 i (by omega) (by omega), D3 23 i (by omega) (by omega), D3 24 i (by omega) (by omega), D3 25 i (by omega) (by omega), D3 26 i (by omega) (by omega), D3 27 i (by omega) (by omega), x1, x2, x3, x4, x5, x6]
      decide
    · rw [D3 22 i (by omega) (by omega), D3 23 i (by omega) (by omega), D3 24 i (by omega) (by omega), D3 25 i (by omega) (by omega), D3 27 i (by omega) (by omega)]
      decide
  · obtain ⟨e1, e2, e3, e4, e5, e6, e7⟩ := D20
    exact ⟨e1, e2, e3, e4, e5, e6, by rw [e7, ccb 20 (by omega)]⟩
  · rw [D1 o (by omega) (by omega), ccb o (by omega)]
  · rw [D2, f3, d3 o h1, a3 o h2]
