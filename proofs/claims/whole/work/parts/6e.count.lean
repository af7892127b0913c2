def ezB (w want : Int) : Bool := decide (want - 5 ≤ w ∧ w ≤ want + 5)
def coB (w want : Int) : Bool := decide (w < want - 15)
def baB (cov br : Int) : Bool := decide (cov < br)
theorem cUp_e (co ba : Bool) (m n e k b row at_ by_ : Int) : cUp true co ba m n (e, k, b, row, at_, by_) = cUp false co ba m n (e + n, k, b, row, at_, by_) := by
  unfold cUp
  simp only [Bool.false_eq_true, if_false, if_true, Int.add_zero]
theorem cUp_b (ez co : Bool) (m n e k b row at_ by_ : Int) : cUp ez co true m n (e, k, b, row, at_, by_) = cUp ez co false m n (e, k, b + n, row, at_, by_) := by
  unfold cUp
  simp only [Bool.false_eq_true, if_false, if_true, Int.add_zero]
/-- the counts of one alone are others -/
def cF (i : Nat) (c c2 : zz_S) : Prop := (∀ o, o < 22 ∨ 27 < o → c2.1 o = c.1 o) ∧ (∀ o k, k ≠ i → c2.1 o k = c.1 o k) ∧ c2.2 = c.2
theorem cF_tr {i : Nat} {c c2 c3 : zz_S} (h : cF i c c2) (k : cF i c2 c3) : cF i c c3 := ⟨fun o a => (k.1 o a).trans (h.1 o a), fun o j a => (k.2.1 o j a).trans (h.2.1 o j a), k.2.2.trans h.2.2⟩
theorem cF_me (i : Nat) (c : zz_S) : cF i c c := ⟨fun _ _ => rfl, fun _ _ _ => rfl, rfl⟩
theorem cF_w (i o : Nat) (ho : 22 ≤ o ∧ o ≤ 27) (v : Int32) (c : zz_S) : cF i c (zz_w c o i v) := ⟨fun a ha => by rw [w_row, if_neg (by omega)], fun a k hk => by
  rw [w_get]
  by_cases q : a = o
  · rw [if_pos q, if_neg hk]
  · rw [if_neg q], rfl⟩
theorem cin_J58 {c : zz_S} {i : Nat} {i' m n w : Int32} (hi' : i'.toInt = i) (hi : i < 6) (ht : tOk 480 (tC c i)) (hm : 0 ≤ m.toInt ∧ m.toInt ≤ 479) (hn : 0 ≤ n.toInt ∧ n.toInt ≤ 480) (hw : -2000 ≤ w.toInt ∧ w.toInt ≤ 2000) (hwa : 0 ≤ (c.1 4 i).toInt ∧ (c.1 4 i).toInt ≤ 99) :
    ∃ c2, f_Night_countIn_J58 i' m n w c = some c2 ∧ tC c2 i = cUp false (coB w.toInt (c.1 4 i).toInt) false m.toInt n.toInt (tC c i) ∧ cF i c c2 := by
  have z1 : zz_in i' 6 = true := i_in.mpr (by omega)
  have ki := nz_eq hi'
  have l15 : (15 : Int32).toInt = 15 := rfl
  have l10 : (10 : Int32).toInt = 10 := rfl
  obtain ⟨t1, t2, t3, t4, t5, t6⟩ := ht
  simp only [tC] at t1 t2 t3 t4 t5 t6
  have a1 := i_sub (a := c.1 4 i) (b := 15) (by rw [l15]; omega) (by rw [l15]; omega)
  rw [l15] at a1
  unfold f_Night_countIn_J58 f_Bed_isCold f_Tally_addCold
  rw [if_pos z1, ki]
  by_cases q : c.1 4 i - 15 ≤ w
  · have hco : coB w.toInt (c.1 4 i).toInt = false := by
      unfold coB
      rw [i_le] at q
      exact decide_eq_false (by omega)
    rw [if_pos q, Option.bind_some, if_pos rfl, if_pos z1, Option.bind_some, hco]
    refine ⟨_, rfl, ?_, cF_w i 27 (by omega) 0 c⟩
    simp [tC, cUp, w_get]
  · have hco : coB w.toInt (c.1 4 i).toInt = true := by
      unfold coB
      rw [i_le] at q
      exact decide_eq_true (by omega)
    have a2 := i_add (a := c.1 27 i) (b := n) (by omega) (by omega)
    have a3 := i_add (a := c.1 23 i) (b := n) (by omega) (by omega)
    rw [if_neg q, Option.bind_some, if_neg (by decide), if_pos z1, hco]
    by_cases q2 : c.1 27 i + n < 10
    · rw [if_pos q2]
      rw [i_lt, l10] at q2
      unfold f_Tally_addCold_J56
      rw [if_pos z1, ki, Option.bind_some]
      refine ⟨_, rfl, ?_, cF_tr (cF_w i 23 (by omega) _ c) (cF_w i 27 (by omega) _ _)⟩
      have nw : ¬ (10 ≤ (c.1 27 i).toInt + n.toInt ∧ (c.1 25 i).toInt = -2) := by omega
      simp only [tC, cUp, w_get]
      simp [a2, a3, nw]
    · rw [if_neg q2]
      rw [i_lt, l10] at q2
      unfold f_Tally_wake f_Tally_addCold_J56
      rw [if_pos z1, ki]
      have e25 : (zz_w c 23 i (c.1 23 i + n)).1 25 i = c.1 25 i := by simp [w_get]
      rw [e25]
      by_cases q3 : c.1 25 i = -2
      · have hat : (c.1 25 i).toInt = -2 := by rw [q3]; rfl
        have r9 : (c.1 27 i).toInt ≤ 9 := by omega
        have b1 := i_add (a := m) (b := 10) (by rw [l10]; omega) (by rw [l10]; omega)
        rw [l10] at b1
        have b2 := i_dec (a := m + 10) (by omega)
        have b3 := i_sub (a := m + 10 - 1) (b := c.1 27 i) (by omega) (by omega)
        rw [if_pos q3, Option.bind_some, if_pos z1, Option.bind_some]
        refine ⟨_, rfl, ?_, cF_tr (cF_tr (cF_tr (cF_w i 23 (by omega) _ c) (cF_w i 25 (by omega) _ _)) (cF_w i 26 (by omega) _ _)) (cF_w i 27 (by omega) _ _)⟩
        have nw : (10 ≤ (c.1 27 i).toInt + n.toInt ∧ (c.1 25 i).toInt = -2) := ⟨by omega, hat⟩
        simp only [tC, cUp, w_get]
        simp [a2, a3, nw, b3, b2, b1]
        omega
      · have hat : ¬ (c.1 25 i).toInt = -2 := fun q => q3 (i_lit (b := -2) q)
        rw [if_neg q3, Option.bind_some, if_pos z1, Option.bind_some]
        refine ⟨_, rfl, ?_, cF_tr (cF_w i 23 (by omega) _ c) (cF_w i 27 (by omega) _ _)⟩
        simp only [tC, cUp, w_get]
        simp [a2, a3, hat]
theorem cin_J34 {c : zz_S} {i : Nat} {i' m n w : Int32} (hi' : i'.toInt = i) (hi : i < 6) (ht : tOk 480 (tC c i)) (hb : (c.1 24 i).toInt + n.toInt ≤ 480) (hm : 0 ≤ m.toInt ∧ m.toInt ≤ 479) (hn : 0 ≤ n.toInt ∧ n.toInt ≤ 480) (hw : -2000 ≤ w.toInt ∧ w.toInt ≤ 2000) (hwa : 0 ≤ (c.1 4 i).toInt ∧ (c.1 4 i).toInt ≤ 99) :
    ∃ c2, f_Night_countIn_J34 i' m n w c = some c2 ∧ tC c2 i = cUp false (coB w.toInt (c.1 4 i).toInt) (baB (c.1 34 i).toInt (c.1 3 i).toInt) m.toInt n.toInt (tC c i) ∧ cF i c c2 := by
  have z1 : zz_in i' 6 = true := i_in.mpr (by omega)
  have ki := nz_eq hi'
  have ht' := ht
  obtain ⟨t1, t2, t3, t4, t5, t6⟩ := ht
  simp only [tC] at t1 t2 t3 t4 t5 t6
  unfold f_Night_countIn_J34 f_Lie_isBare
  rw [if_pos z1, ki]
  by_cases q : c.1 3 i ≤ c.1 34 i
  · have hba : baB (c.1 34 i).toInt (c.1 3 i).toInt = false := by
      unfold baB
      rw [i_le] at q
      exact decide_eq_false (by omega)
    rw [if_pos q, Option.bind_some, if_pos rfl, hba]
    exact cin_J58 hi' hi ht' hm hn hw hwa
  · have hba : baB (c.1 34 i).toInt (c.1 3 i).toInt = true := by
      unfold baB
      rw [i_le] at q
      exact decide_eq_true (by omega)
    have a3 := i_add (a := c.1 24 i) (b := n) (by omega) (by omega)
    have e : tC (zz_w c 24 i (c.1 24 i + n)) i = ((c.1 22 i).toInt, (c.1 23 i).toInt, (c.1 24 i).toInt + n.toInt, (c.1 27 i).toInt, (c.1 25 i).toInt, (c.1 26 i).toInt) := by
      simp [tC, w_get, a3]
    have e4 : (zz_w c 24 i (c.1 24 i + n)).1 4 = c.1 4 := by rw [w_row, if_neg (by decide)]
    rw [if_neg q, Option.bind_some, if_neg (by decide), if_pos z1, hba]
    obtain ⟨c2, g1, g2, g3⟩ := cin_J58 (c := zz_w c 24 i (c.1 24 i + n)) (w := w) (m := m) (n := n) hi' hi (by rw [e]; exact ⟨t1, t2, ⟨by simp only; omega, by simp only; omega⟩, t4, t5, t6⟩) hm hn hw (by rw [e4]; exact hwa)
    rw [e, e4] at g2
    refine ⟨c2, g1, ?_, cF_tr (cF_w i 24 (by omega) _ c) g3⟩
    rw [g2]
    exact (cUp_b _ _ _ _ _ _ _ _ _ _).symm
theorem cin_of {c : zz_S} {i mm : Nat} {i' m n : Int32} (hi' : i'.toInt = i) (hi : i < 6) (ht : tOk 480 (tC c i)) (hb : (c.1 24 i).toInt + n.toInt ≤ 480 ∧ (c.1 22 i).toInt + n.toInt ≤ 480) (hmm : m.toInt = mm) (hm : mm ≤ 479) (hn : 0 ≤ n.toInt ∧ n.toInt ≤ 480) (hd : -60 ≤ (c.1 16 mm).toInt ∧ (c.1 16 mm).toInt ≤ 60) (hv : -9 ≤ (c.1 20 13).toInt ∧ (c.1 20 13).toInt ≤ 9) (ho : 0 ≤ (c.1 35 i).toInt ∧ (c.1 35 i).toInt ≤ 249) (hwa : 0 ≤ (c.1 4 i).toInt ∧ (c.1 4 i).toInt ≤ 99) :
    ∃ c2, f_Night_countIn i' m n c = some c2 ∧ tC c2 i = cUp (ezB ((c.1 16 mm).toInt + (c.1 20 13).toInt + (c.1 35 i).toInt) (c.1 4 i).toInt) (coB ((c.1 16 mm).toInt + (c.1 20 13).toInt + (c.1 35 i).toInt) (c.1 4 i).toInt) (baB (c.1 34 i).toInt (c.1 3 i).toInt) m.toInt n.toInt (tC c i) ∧ cF i c c2 := by
  have z1 : zz_in i' 6 = true := i_in.mpr (by omega)
  have ki := nz_eq hi'
  have l5 : (5 : Int32).toInt = 5 := rfl
  have ht' := ht
  obtain ⟨t1, t2, t3, t4, t5, t6⟩ := ht
  simp only [tC] at t1 t2 t3 t4 t5 t6
  have w1 := i_add (a := c.1 16 mm) (b := c.1 20 13) (by omega) (by omega)
  have w2 := i_add (a := c.1 16 mm + c.1 20 13) (b := c.1 35 i) (by omega) (by omega)
  have hw : (c.1 16 mm + c.1 20 13 + c.1 35 i).toInt = (c.1 16 mm).toInt + (c.1 20 13).toInt + (c.1 35 i).toInt := by omega
  unfold f_Night_countIn f_Night_warmOf f_Bed_isEasy
  rw [if_pos (i_in.mpr (by omega)), if_pos z1, ki, nz_eq hmm, Option.bind_some, if_pos z1, ← hw]
  generalize c.1 16 mm + c.1 20 13 + c.1 35 i = w at *
  have s1 := i_sub (a := c.1 4 i) (b := 5) (by rw [l5]; omega) (by rw [l5]; omega)
  have s2 := i_add (a := c.1 4 i) (b := 5) (by rw [l5]; omega) (by rw [l5]; omega)
  rw [l5] at s1 s2
  have no : ¬ ((c.1 4 i).toInt - 5 ≤ w.toInt ∧ w.toInt ≤ (c.1 4 i).toInt + 5) → ∃ c2, f_Night_countIn_J34 i' m n w c = some c2 ∧ tC c2 i = cUp (ezB w.toInt (c.1 4 i).toInt) (coB w.toInt (c.1 4 i).toInt) (baB (c.1 34 i).toInt (c.1 3 i).toInt) m.toInt n.toInt (tC c i) ∧ cF i c c2 := by
    intro q
    have : ezB w.toInt (c.1 4 i).toInt = false := decide_eq_false q
    rw [this]
    exact cin_J34 hi' hi ht' hb.1 (by omega) hn (by omega) hwa
  by_cases q1 : w < c.1 4 i - 5
  · rw [if_pos q1, Option.bind_some, if_pos rfl]
    rw [i_lt] at q1
    exact no (by omega)
  · rw [if_neg q1]
    rw [i_lt] at q1
    by_cases q2 : c.1 4 i + 5 < w
    · rw [if_pos q2, Option.bind_some, if_pos rfl]
      rw [i_lt] at q2
      exact no (by omega)
    · rw [if_neg q2, Option.bind_some, if_neg (by decide), if_pos z1]
      rw [i_lt] at q2
      have hez : ezB w.toInt (c.1 4 i).toInt = true := decide_eq_true (by omega)
      have a3 := i_add (a := c.1 22 i) (b := n) (by omega) (by omega)
      have e : tC (zz_w c 22 i (c.1 22 i + n)) i = ((c.1 22 i).toInt + n.toInt, (c.1 23 i).toInt, (c.1 24 i).toInt, (c.1 27 i).toInt, (c.1 25 i).toInt, (c.1 26 i).toInt) := by
        simp [tC, w_get, a3]
      have e4 : ∀ o, o ≠ 22 → (zz_w c 22 i (c.1 22 i + n)).1 o = c.1 o := fun o h => by rw [w_row, if_neg h]
      obtain ⟨c2, g1, g2, g3⟩ := cin_J34 (c := zz_w c 22 i (c.1 22 i + n)) (w := w) (m := m) (n := n) hi' hi (by rw [e]; exact ⟨⟨by simp only; omega, by simp only; omega⟩, t2, t3, t4, t5, t6⟩) (by rw [e4 24 (by decide)]; exact hb.1) (by omega) hn (by omega) (by rw [e4 4 (by decide)]; exact hwa)
      rw [e, e4 4 (by decide), e4 34 (by decide), e4 3 (by decide)] at g2
      refine ⟨c2, g1, ?_, cF_tr (cF_w i 22 (by omega) _ c) g3⟩
      rw [g2, hez]
      exact (cUp_e _ _ _ _ _ _ _ _ _ _).symm
