/-- a cover's width (7, 85) or tuck (9, 87) may be another -/
def oX (p p' k : Nat) (c r c2 r2 : zz_S) : Prop := ((∀ o, (o < 20 ∨ 38 < o) → o ≠ 57 → o ≠ 60 → o ≠ 63 → o ≠ 66 → o ≠ p → c2.1 o = c.1 o) ∧ (∀ j, j ≠ k → c2.1 p j = c.1 p j) ∧ ∀ o, o ≠ 37 → o ≠ 38 → c2.2 o = c.2 o) ∧
  (∀ o, o ≠ 79 → ¬ (101 ≤ o ∧ o ≤ 114) → o ≠ p' → r2.1 o = r.1 o) ∧ (∀ j, j ≠ k → r2.1 p' j = r.1 p' j) ∧ (∀ k, k ≠ 54 → r2.1 79 k = r.1 79 k) ∧ r2.2 = r.2
theorem oX_of {c r c2 r2 : zz_S} (p p' k : Nat) (hp : p < 20) (hp' : p' ≠ 79 ∧ ¬ (101 ≤ p' ∧ p' ≤ 114)) (h : oF c r c2 r2) : oX p p' k c r c2 r2 := by
  obtain ⟨⟨h1, h2⟩, h3, h3', h4⟩ := h
  exact ⟨⟨fun o a b d e f _ => h1 o a b d e f, fun j _ => by rw [h1 p (by omega) (by omega) (by omega) (by omega) (by omega)], h2⟩, fun o a b _ => h3 o a b, fun j _ => by rw [h3 p' hp'.1 hp'.2], h3', h4⟩
theorem oX_w {p p' k : Nat} {c r c2 r2 : zz_S} (v : Int32) (hp : p < 20) (hp' : p' ≠ 79 ∧ ¬ (101 ≤ p' ∧ p' ≤ 114)) (h : oX p p' k c r c2 r2) : oX p p' k c r (zz_w c2 p k v) (zz_w r2 p' k v) := by
  obtain ⟨⟨h1, h1', h2⟩, h3, h3', h5, h4⟩ := h
  exact ⟨⟨fun o a b d e f g => by rw [w_row, if_neg g]; exact h1 o a b d e f g, fun j hj => by rw [w_get, if_pos rfl, if_neg hj]; exact h1' j hj, h2⟩, fun o a b d => by rw [w_row, if_neg d]; exact h3 o a b d, fun j hj => by rw [w_get, if_pos rfl, if_neg hj]; exact h3' j hj, fun x hx => by rw [w_row, if_neg (fun q => hp'.1 q.symm)]; exact h5 x hx, h4⟩
theorem oX_tr {p p' k : Nat} {c r c2 r2 c3 r3 : zz_S} (hp : p < 20) (hp' : p' ≠ 79 ∧ ¬ (101 ≤ p' ∧ p' ≤ 114)) (h : oX p p' k c r c2 r2) (g : oF c2 r2 c3 r3) : oX p p' k c r c3 r3 := by
  obtain ⟨⟨h1, h1', h2⟩, h3, h3', h5, h4⟩ := h
  obtain ⟨⟨g1, g2⟩, g3, g3', g4⟩ := g
  exact ⟨⟨fun o a b d e f x => (g1 o a b d e f).trans (h1 o a b d e f x), fun j hj => by rw [g1 p (by omega) (by omega) (by omega) (by omega) (by omega)]; exact h1' j hj, fun o a b => (g2 o a b).trans (h2 o a b)⟩, fun o a b d => (g3 o a b).trans (h3 o a b d), fun j hj => by rw [g3 p' hp'.1 hp'.2]; exact h3' j hj, fun x hx => (g3' x hx).trans (h5 x hx), g4.trans h4⟩
/-- set back: all is as it was -/
theorem oX_back {p p' k : Nat} {c r c2 r2 : zz_S} (hp : p < 20) (hp' : p' ≠ 79 ∧ ¬ (101 ≤ p' ∧ p' ≤ 114)) (h : oX p p' k c r c2 r2) : oF c r (zz_w c2 p k (c.1 p k)) (zz_w r2 p' k (r.1 p' k)) := by
  obtain ⟨⟨h1, h1', h2⟩, h3, h3', h5, h4⟩ := h
  refine ⟨⟨fun o a b d e f => ?_, h2⟩, fun o a b => ?_, fun x hx => by rw [w_row, if_neg (fun q => hp'.1 q.symm)]; exact h5 x hx, h4⟩
  · by_cases g : o = p
    · subst g
      refine funext fun j => ?_
      rw [w_get, if_pos rfl]
      by_cases q : j = k
      · rw [if_pos q, q]
      · rw [if_neg q]; exact h1' j q
    · rw [w_row, if_neg g]; exact h1 o a b d e f g
  · by_cases g : o = p'
    · subst g
      refine funext fun j => ?_
      rw [w_get, if_pos rfl]
      by_cases q : j = k
      · rw [if_pos q, q]
      · rw [if_neg q]; exact h3' j q
    · rw [w_row, if_neg g]; exact h3 o a b g
theorem oX_nB {p p' k : Nat} {c r c2 r2 : zz_S} {S C W T : Nat} (hpp : (p = 7 ∧ p' = 85) ∨ (p = 9 ∧ p' = 87)) (h : oX p p' k c r c2 r2) (hb : nB c r S C W T) (heq : r2.1 p' k = c2.1 p k) (hbd : (p = 7 → 5 ≤ (c2.1 7 k).toInt ∧ (c2.1 7 k).toInt ≤ 80) ∧ (p = 9 → 0 ≤ (c2.1 9 k).toInt ∧ (c2.1 9 k).toInt ≤ 9)) : nB c2 r2 S C W T := by
  obtain ⟨⟨h1, h1', h2⟩, h3, h3', h5, h4⟩ := h
  obtain ⟨⟨⟨s1, s2⟩, ⟨s3, s4⟩, ⟨s5, s6⟩, ⟨q1, q2, q3⟩, ⟨q4, q5, q6, q7, q8, q9⟩, s8, s9⟩, b2, b3, b4⟩ := hb
  have C1 : ∀ o, o < 20 → o ≠ p → c2.1 o = c.1 o := fun o a b => h1 o (by omega) (by omega) (by omega) (by omega) (by omega) b
  have R1 : ∀ o, o < 101 → o ≠ 79 → o ≠ p' → r2.1 o = r.1 o := fun o a b d => h3 o b (by omega) d
  have e7 : r2.1 85 = c2.1 7 := by
    rcases hpp with ⟨rfl, rfl⟩ | ⟨rfl, rfl⟩
    · refine funext fun j => ?_
      by_cases q : j = k
      · rw [q]; exact heq
      · rw [h3' j q, h1' j q, q7]
    · rw [R1 85 (by decide) (by decide) (by decide), C1 7 (by decide) (by decide), q7]
  have e9 : r2.1 87 = c2.1 9 := by
    rcases hpp with ⟨rfl, rfl⟩ | ⟨rfl, rfl⟩
    · rw [R1 87 (by decide) (by decide) (by decide), C1 9 (by decide) (by decide), q9]
    · refine funext fun j => ?_
      by_cases q : j = k
      · rw [q]; exact heq
      · rw [h3' j q, h1' j q, q9]
  refine ⟨⟨?_, ?_, ?_, ?_, ?_, fun i hi => ?_, fun j hj => ?_⟩, ?_, ?_, ?_⟩
  · rw [C1 1 (by decide) (by omega)]; exact ⟨s1, s2⟩
  · rw [C1 1 (by decide) (by omega)]; exact ⟨s3, s4⟩
  · rw [C1 1 (by decide) (by omega)]; exact ⟨s5, s6⟩
  · rw [C1 1 (by decide) (by omega), h5 1 (by decide), h5 2 (by decide), h5 7 (by decide)]; exact ⟨q1, q2, q3⟩
  · rw [e7, e9, R1 81 (by decide) (by decide) (by omega), R1 82 (by decide) (by decide) (by omega), R1 83 (by decide) (by decide) (by omega), R1 86 (by decide) (by decide) (by omega), C1 3 (by decide) (by omega), C1 4 (by decide) (by omega), C1 5 (by decide) (by omega), C1 8 (by decide) (by omega)]
    exact ⟨q4, q5, q6, rfl, q8, rfl⟩
  · rw [C1 3 (by decide) (by omega), C1 4 (by decide) (by omega), C1 5 (by decide) (by omega)]
    exact s8 i hi
  · obtain ⟨x1, x2, x3⟩ := s9 j hj
    rw [C1 8 (by decide) (by omega)]
    rcases hpp with ⟨rfl, rfl⟩ | ⟨rfl, rfl⟩
    · rw [C1 9 (by decide) (by decide)]
      by_cases q : j = k
      · rw [q]; rw [q] at x2 x3; exact ⟨hbd.1 rfl, x2, x3⟩
      · rw [h1' j q]; exact ⟨x1, x2, x3⟩
    · rw [C1 7 (by decide) (by decide)]
      by_cases q : j = k
      · rw [q]; rw [q] at x1 x2; exact ⟨x1, x2, hbd.2 rfl⟩
      · rw [h1' j q]; exact ⟨x1, x2, x3⟩
  · unfold lfOK at b2 ⊢
    rw [C1 6 (by decide) (by omega), R1 84 (by decide) (by decide) (by omega)]
    exact b2
  · rw [C1 10 (by decide) (by omega), C1 11 (by decide) (by omega), C1 12 (by decide) (by omega), C1 13 (by decide) (by omega), C1 14 (by decide) (by omega), h5 12 (by decide), R1 88 (by decide) (by decide) (by omega), R1 89 (by decide) (by decide) (by omega), R1 90 (by decide) (by decide) (by omega)]
    exact b3
  · rw [C1 16 (by decide) (by omega), C1 17 (by decide) (by omega), C1 18 (by decide) (by omega), h5 37 (by decide), R1 96 (by decide) (by decide) (by omega), R1 97 (by decide) (by decide) (by omega), R1 98 (by decide) (by decide) (by omega), R1 99 (by decide) (by decide) (by omega), R1 100 (by decide) (by decide) (by omega)]
    exact b4
theorem oX_nL {p p' k : Nat} {c r c2 r2 : zz_S} {l : Int32} (hpp : (p = 7 ∧ p' = 85) ∨ (p = 9 ∧ p' = 87)) (h : oX p p' k c r c2 r2) (hl : nL c r l) : nL c2 r2 l := by
  obtain ⟨⟨h1, h1', h2⟩, h3, h3', h5, h4⟩ := h
  obtain ⟨⟨l1, l2⟩, l3⟩ := hl
  refine ⟨⟨l1, l2⟩, fun h0 => ?_⟩
  rw [h1 (55 + 3 * l.toInt.toNat) (by omega) (by omega) (by omega) (by omega) (by omega) (by omega), h1 (56 + 3 * l.toInt.toNat) (by omega) (by omega) (by omega) (by omega) (by omega) (by omega), h3 96 (by decide) (by decide) (by omega), h3 97 (by decide) (by decide) (by omega), h3 98 (by decide) (by decide) (by omega), h3 99 (by decide) (by decide) (by omega), h3 100 (by decide) (by decide) (by omega)]
  exact l3 h0
theorem oX_pl {p p' k : Nat} {c r c2 r2 : zz_S} {S W : Nat} (hpp : (p = 7 ∧ p' = 85) ∨ (p = 9 ∧ p' = 87)) (h : oX p p' k c r c2 r2) (hpl : plOK c r 2 S W) : plOK c2 r2 2 S W := by
  obtain ⟨⟨h1, h1', h2⟩, h3, h3', h5, h4⟩ := h
  obtain ⟨p0, p1⟩ := hpl
  refine ⟨p0, fun i hi => ?_⟩
  rw [h1 2 (by omega) (by omega) (by omega) (by omega) (by omega) (by omega), h1 3 (by omega) (by omega) (by omega) (by omega) (by omega) (by omega), h3 80 (by omega) (by omega) (by omega)]
  exact p1 i hi
/-- a night in thought with another width or tuck -/
theorem thought {p p' k : Nat} {s r0 c r : zz_S} {S C W T last : Nat} {v last' : Int32} (hpp : (p = 7 ∧ p' = 85) ∨ (p = 9 ∧ p' = 87)) (hb : nB s r0 S C W T) (hl : nL s r0 (s.1 0 12)) (hpl : plOK s r0 2 S W) (hr : r0.1 79 38 = 0 ∧ r0.1 79 51 = -1 ∧ r0.1 79 36 = s.1 0 12) (hX : oX p p' k s r0 c r) (hv : (p = 7 → 5 ≤ v.toInt ∧ v.toInt ≤ 80) ∧ (p = 9 → 0 ≤ v.toInt ∧ v.toInt ≤ 9)) (hla : last'.toInt = last) (hla2 : last ≤ 479) :
    ∃ c2 r2, f_B_playTo last' (zz_w c p k v) = some c2 ∧ f_M_night last' (zz_w r p' k v) = some r2 ∧ nM c2 r2 S C W T (last + 1) ∧ oX p p' k s r0 c2 r2 := by
  have hp : p < 20 := by omega
  have hp' : p' ≠ 79 ∧ ¬ (101 ≤ p' ∧ p' ≤ 114) := by omega
  have hX1 := oX_w v hp hp' hX
  have ec : (zz_w c p k v).1 p k = v := by rw [w_get, if_pos rfl, if_pos rfl]
  have er : (zz_w r p' k v).1 p' k = v := by rw [w_get, if_pos rfl, if_pos rfl]
  have hb1 := oX_nB hpp hX1 hb (by rw [ec, er]) ⟨fun q => by subst q; rw [ec]; exact hv.1 rfl, fun q => by subst q; rw [ec]; exact hv.2 rfl⟩
  have z0 : (zz_w c p k v).1 0 = s.1 0 := hX1.1.1 0 (by omega) (by decide) (by decide) (by decide) (by decide) (by omega)
  obtain ⟨c2, r2, k1, k2, k3, k4⟩ := playTo_of hb1 (by rw [z0]; exact oX_nL hpp hX1 hl) (oX_pl hpp hX1 hpl) ⟨by rw [hX1.2.2.2.1 38 (by decide)]; exact hr.1, by rw [hX1.2.2.2.1 51 (by decide)]; exact hr.2.1, by rw [hX1.2.2.2.1 36 (by decide), z0]; exact hr.2.2⟩ hla hla2
  exact ⟨c2, r2, k1, k2, k3, oX_tr hp hp' hX1 k4⟩
