/-! across: what may be another in between -/
def aF (c r c2 r2 : zz_S) : Prop := ((∀ o, (o < 20 ∨ 38 < o) → o ≠ 57 → o ≠ 60 → o ≠ 63 → o ≠ 66 → o ≠ 53 → o ≠ 54 → c2.1 o = c.1 o) ∧ ∀ o, o ≠ 37 → o ≠ 38 → c2.2 o = c.2 o) ∧
  (∀ o, o ≠ 79 → o ≠ 80 → ¬ (101 ≤ o ∧ o ≤ 116) → r2.1 o = r.1 o) ∧ (∀ k, k ≠ 54 → r2.1 79 k = r.1 79 k) ∧ r2.2 = r.2
theorem aF_of {c r c2 r2 : zz_S} (h : oF c r c2 r2) : aF c r c2 r2 := by
  obtain ⟨⟨h1, h2⟩, h3, h3', h4⟩ := h
  exact ⟨⟨fun o a b d e f _ _ => h1 o a b d e f, h2⟩, fun o a _ b => h3 o a (by omega), h3', h4⟩
theorem aF_tr {c r c2 r2 c3 r3 : zz_S} (h : aF c r c2 r2) (k : aF c2 r2 c3 r3) : aF c r c3 r3 := by
  obtain ⟨⟨h1, h2⟩, h3, h3', h4⟩ := h
  obtain ⟨⟨k1, k2⟩, k3, k3', k4⟩ := k
  exact ⟨⟨fun o a b d e f g i => (k1 o a b d e f g i).trans (h1 o a b d e f g i), fun o a b => (k2 o a b).trans (h2 o a b)⟩, fun o a b d => (k3 o a b d).trans (h3 o a b d), fun k a => (k3' k a).trans (h3' k a), k4.trans h4⟩
/-- the class writes rows 53, 54, the reference 80, 115, 116 -/
theorem aF_wr {c r c2 r2 : zz_S} (h1 : ∀ o, o ≠ 53 → o ≠ 54 → c2.1 o = c.1 o) (h2 : c2.2 = c.2) (h3 : ∀ o, o ≠ 80 → o ≠ 115 → o ≠ 116 → r2.1 o = r.1 o) (h4 : r2.2 = r.2) : aF c r c2 r2 :=
  ⟨⟨fun o _ _ _ _ _ a b => h1 o a b, fun o _ _ => by rw [h2]⟩, fun o _ a b => h3 o a (by omega) (by omega), fun k _ => by rw [h3 79 (by decide) (by decide) (by decide)], h4⟩
theorem aF_nB {c r c2 r2 : zz_S} {S C W T : Nat} (h : aF c r c2 r2) (hb : nB c r S C W T) : nB c2 r2 S C W T := by
  obtain ⟨⟨h1, h2⟩, h3, h3', h4⟩ := h
  obtain ⟨b1, b2, b3, b4⟩ := hb
  have f : ∀ o, o < 20 → c2.1 o = c.1 o := fun o ho => h1 o (by omega) (by omega) (by omega) (by omega) (by omega) (by omega) (by omega)
  have g : ∀ o, 80 < o → o < 101 → r2.1 o = r.1 o := fun o a b => h3 o (by omega) (by omega) (by omega)
  refine ⟨nS_fr b1 (fun o a b => f o (by omega)) (fun k _ => h3' k (by omega)) (fun o a b => g o (by omega) (by omega)), ?_, ?_, ?_⟩
  · unfold lfOK at b2 ⊢
    rw [f 6 (by decide), g 84 (by decide) (by decide)]
    exact b2
  · rw [f 10 (by decide), f 11 (by decide), f 12 (by decide), f 13 (by decide), f 14 (by decide), h3' 12 (by decide), g 88 (by decide) (by decide), g 89 (by decide) (by decide), g 90 (by decide) (by decide)]
    exact b3
  · rw [f 16 (by decide), f 17 (by decide), f 18 (by decide), h3' 37 (by decide), g 96 (by decide) (by decide), g 97 (by decide) (by decide), g 98 (by decide) (by decide), g 99 (by decide) (by decide), g 100 (by decide) (by decide)]
    exact b4
theorem aF_nL {c r c2 r2 : zz_S} {l : Int32} (h : aF c r c2 r2) (hl : nL c r l) : nL c2 r2 l := by
  obtain ⟨⟨h1, h2⟩, h3, h3', h4⟩ := h
  obtain ⟨⟨l1, l2⟩, l3⟩ := hl
  have g : ∀ o, 80 < o → o < 101 → r2.1 o = r.1 o := fun o a b => h3 o (by omega) (by omega) (by omega)
  refine ⟨⟨l1, l2⟩, fun h0 => ?_⟩
  rw [h1 (55 + 3 * l.toInt.toNat) (by omega) (by omega) (by omega) (by omega) (by omega) (by omega) (by omega), h1 (56 + 3 * l.toInt.toNat) (by omega) (by omega) (by omega) (by omega) (by omega) (by omega) (by omega), g 96 (by decide) (by decide), g 97 (by decide) (by decide), g 98 (by decide) (by decide), g 99 (by decide) (by decide), g 100 (by decide) (by decide)]
  exact l3 h0
theorem aF_0 {c r c2 r2 : zz_S} (h : aF c r c2 r2) : c2.1 0 = c.1 0 ∧ c2.1 1 = c.1 1 := ⟨h.1.1 0 (by omega) (by decide) (by decide) (by decide) (by decide) (by decide) (by decide), h.1.1 1 (by omega) (by decide) (by decide) (by decide) (by decide) (by decide) (by decide)⟩
theorem aF_iv {s r c2 r2 : zz_S} (h : iv s) (hr : mix s r = s) (hF : aF s r c2 r2) (h80 : r2.1 80 = r.1 80) : iv (mix c2 r2) ∧ rf s c2 ∧ cl r r2 := by
  obtain ⟨⟨h1, h2⟩, h3, h3', h4⟩ := hF
  have hF' : oF s r (fun o => if o = 53 ∨ o = 54 then s.1 o else c2.1 o, c2.2) (fun o => if o = 115 ∨ o = 116 then r.1 o else r2.1 o, r2.2) := by
    refine ⟨⟨fun o a b d e f => ?_, h2⟩, fun o a b => ?_, fun k hk => ?_, h4⟩
    · show (if o = 53 ∨ o = 54 then s.1 o else c2.1 o) = s.1 o
      by_cases q : o = 53 ∨ o = 54
      · rw [if_pos q]
      · rw [if_neg q]; exact h1 o a b d e f (by omega) (by omega)
    · show (if o = 115 ∨ o = 116 then r.1 o else r2.1 o) = r.1 o
      by_cases q : o = 115 ∨ o = 116
      · rw [if_pos q]
      · rw [if_neg q]
        by_cases q2 : o = 80
        · rw [q2]; exact h80
        · exact h3 o a q2 (by omega)
    · show (if (79 : Nat) = 115 ∨ (79 : Nat) = 116 then r.1 79 else r2.1 79) k = r.1 79 k
      rw [if_neg (by decide)]
      exact h3' k hk
  obtain ⟨k1, k2, k3⟩ := oF_iv h hr hF'
  refine ⟨?_, fun o ho => ⟨h1 o (by omega) (by omega) (by omega) (by omega) (by omega) (by omega) (by omega), h2 o (by omega) (by omega)⟩, fun o ho => ⟨?_, by rw [h4]⟩⟩
  · generalize hd : mix (fun o => if o = 53 ∨ o = 54 then s.1 o else c2.1 o, c2.2) (fun o => if o = 115 ∨ o = 116 then r.1 o else r2.1 o, r2.2) = d at k1
    have e1 : ∀ o, o ≠ 53 → o ≠ 54 → o ≠ 115 → o ≠ 116 → d.1 o = (mix c2 r2).1 o := fun o a b e f => by
      rw [← hd]
      show (if o < 79 then (if o = 53 ∨ o = 54 then s.1 o else c2.1 o) else (if o = 115 ∨ o = 116 then r.1 o else r2.1 o)) = (if o < 79 then c2.1 o else r2.1 o)
      have q1 : ¬ (o = 53 ∨ o = 54) := by omega
      have q2 : ¬ (o = 115 ∨ o = 116) := by omega
      rw [if_neg q1, if_neg q2]
    have e2 : d.2 = (mix c2 r2).2 := by rw [← hd]; rfl
    obtain ⟨hb, htu, hc', hta, hbo, hsh, hla, hre⟩ := k1
    refine ⟨?_, ?_, ?_, ?_, ?_, ?_, ?_, ?_⟩
    · unfold iv_bed at hb ⊢
      rw [e1 79 (by decide) (by decide) (by decide) (by decide), e1 1 (by decide) (by decide) (by decide) (by decide), e1 2 (by decide) (by decide) (by decide) (by decide), e1 3 (by decide) (by decide) (by decide) (by decide), e1 4 (by decide) (by decide) (by decide) (by decide), e1 5 (by decide) (by decide) (by decide) (by decide), e1 6 (by decide) (by decide) (by decide) (by decide), e1 7 (by decide) (by decide) (by decide) (by decide), e1 8 (by decide) (by decide) (by decide) (by decide), e1 9 (by decide) (by decide) (by decide) (by decide), e1 80 (by decide) (by decide) (by decide) (by decide), e1 81 (by decide) (by decide) (by decide) (by decide), e1 82 (by decide) (by decide) (by decide) (by decide), e1 83 (by decide) (by decide) (by decide) (by decide), e1 84 (by decide) (by decide) (by decide) (by decide), e1 85 (by decide) (by decide) (by decide) (by decide), e1 86 (by decide) (by decide) (by decide) (by decide), e1 87 (by decide) (by decide) (by decide) (by decide)] at hb
      exact hb
    · unfold iv_turn at htu ⊢
      rw [e1 79 (by decide) (by decide) (by decide) (by decide), e1 10 (by decide) (by decide) (by decide) (by decide), e1 11 (by decide) (by decide) (by decide) (by decide), e1 12 (by decide) (by decide) (by decide) (by decide), e1 13 (by decide) (by decide) (by decide) (by decide), e1 14 (by decide) (by decide) (by decide) (by decide), e1 88 (by decide) (by decide) (by decide) (by decide), e1 89 (by decide) (by decide) (by decide) (by decide), e1 90 (by decide) (by decide) (by decide) (by decide)] at htu
      exact htu
    · unfold iv_chg at hc' ⊢
      rw [e1 79 (by decide) (by decide) (by decide) (by decide), e1 1 (by decide) (by decide) (by decide) (by decide), e1 39 (by decide) (by decide) (by decide) (by decide), e1 40 (by decide) (by decide) (by decide) (by decide), e1 41 (by decide) (by decide) (by decide) (by decide), e1 42 (by decide) (by decide) (by decide) (by decide), e1 43 (by decide) (by decide) (by decide) (by decide), e1 91 (by decide) (by decide) (by decide) (by decide), e1 92 (by decide) (by decide) (by decide) (by decide), e1 93 (by decide) (by decide) (by decide) (by decide), e1 94 (by decide) (by decide) (by decide) (by decide)] at hc'
      exact hc'
    · unfold iv_tape at hta ⊢
      rw [e1 79 (by decide) (by decide) (by decide) (by decide), e1 44 (by decide) (by decide) (by decide) (by decide), e1 48 (by decide) (by decide) (by decide) (by decide), e1 95 (by decide) (by decide) (by decide) (by decide)] at hta
      exact hta
    · unfold iv_body at hbo ⊢
      rw [e1 79 (by decide) (by decide) (by decide) (by decide), e1 49 (by decide) (by decide) (by decide) (by decide), e1 50 (by decide) (by decide) (by decide) (by decide), e1 51 (by decide) (by decide) (by decide) (by decide), e1 117 (by decide) (by decide) (by decide) (by decide), e1 118 (by decide) (by decide) (by decide) (by decide)] at hbo
      exact hbo
    · unfold iv_shl at hsh ⊢
      rw [e2, e1 49 (by decide) (by decide) (by decide) (by decide), e1 67 (by decide) (by decide) (by decide) (by decide), e1 69 (by decide) (by decide) (by decide) (by decide), e1 71 (by decide) (by decide) (by decide) (by decide), e1 73 (by decide) (by decide) (by decide) (by decide), e1 75 (by decide) (by decide) (by decide) (by decide), e1 77 (by decide) (by decide) (by decide) (by decide), e1 119 (by decide) (by decide) (by decide) (by decide), e1 120 (by decide) (by decide) (by decide) (by decide)] at hsh
      exact hsh
    · unfold iv_law at hla ⊢
      rw [e1 79 (by decide) (by decide) (by decide) (by decide), e1 0 (by decide) (by decide) (by decide) (by decide), e1 16 (by decide) (by decide) (by decide) (by decide), e1 17 (by decide) (by decide) (by decide) (by decide), e1 18 (by decide) (by decide) (by decide) (by decide), e1 55 (by decide) (by decide) (by decide) (by decide), e1 56 (by decide) (by decide) (by decide) (by decide), e1 58 (by decide) (by decide) (by decide) (by decide), e1 59 (by decide) (by decide) (by decide) (by decide), e1 61 (by decide) (by decide) (by decide) (by decide), e1 62 (by decide) (by decide) (by decide) (by decide), e1 64 (by decide) (by decide) (by decide) (by decide), e1 65 (by decide) (by decide) (by decide) (by decide), e1 96 (by decide) (by decide) (by decide) (by decide), e1 97 (by decide) (by decide) (by decide) (by decide), e1 98 (by decide) (by decide) (by decide) (by decide), e1 99 (by decide) (by decide) (by decide) (by decide), e1 100 (by decide) (by decide) (by decide) (by decide)] at hla
      exact hla
    · unfold iv_rest at hre ⊢
      rw [e1 79 (by decide) (by decide) (by decide) (by decide)] at hre
      exact hre
  · by_cases q : o = 80
    · rw [q]; exact h80
    · exact h3 o (by omega) q (by omega)
