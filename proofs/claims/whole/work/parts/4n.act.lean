/-! acts of bodies: one run begins, on both sides -/
def acR (c r : zz_S) (n : Int) : Prop := (c.1 49 1 = r.1 79 57 ∧ c.1 51 = r.1 118 ∧ c.1 50 = r.1 117) ∧ 0 ≤ (c.1 49 1).toInt ∧ (c.1 49 1).toInt ≤ n
def acF (c r c2 r2 : zz_S) : Prop := (∀ o, o ≠ 49 → o ≠ 51 → c2.1 o = c.1 o) ∧ c2.2 = c.2 ∧ c2.1 49 0 = c.1 49 0 ∧ (∀ o, o ≠ 79 → o ≠ 118 → r2.1 o = r.1 o) ∧ r2.2 = r.2 ∧ ∀ k, k ≠ 57 → r2.1 79 k = r.1 79 k
theorem acF_me (c r : zz_S) : acF c r c r := ⟨fun _ _ _ => rfl, rfl, rfl, fun _ _ _ => rfl, rfl, fun _ _ => rfl⟩
theorem acF_tr {c r c2 r2 c3 r3 : zz_S} (h : acF c r c2 r2) (k : acF c2 r2 c3 r3) : acF c r c3 r3 := by
  obtain ⟨h1, h2, h3, h4, h5, h6⟩ := h
  obtain ⟨k1, k2, k3, k4, k5, k6⟩ := k
  exact ⟨fun o a b => (k1 o a b).trans (h1 o a b), k2.trans h2, k3.trans h3, fun o a b => (k4 o a b).trans (h4 o a b), k5.trans h5, fun o a => (k6 o a).trans (h6 o a)⟩
theorem ac_step (t : Int32) {c r : zz_S} {n : Int} (h : acR c r n) (hn : n < 1000) : ∃ c2 r2, f_Bodies_begins t c = some c2 ∧ f_M_ran t r = some r2 ∧ acR c2 r2 (n + 1) ∧ acF c r c2 r2 := by
  obtain ⟨⟨h1, h2, h3⟩, h4, h5⟩ := h
  have l24 : (24 : Int32).toInt = 24 := rfl
  have hinc := i_inc (a := c.1 49 1) (by omega)
  unfold f_Bodies_begins f_M_ran f_Bodies_begins_J19 f_M_ran_J19
  rw [← h1]
  by_cases q : 24 ≤ (c.1 49 1).toInt
  · have t1 : (24 : Int32) ≤ c.1 49 1 := by rw [i_le, l24]; exact q
    rw [if_pos t1, if_pos t1]
    refine ⟨_, _, rfl, rfl, ⟨⟨?_, ?_, ?_⟩, ?_, ?_⟩, fun o a b => ?_, rfl, ?_, fun o a b => ?_, rfl, fun k a => ?_⟩
    · simp [w_get]
    · simp [w_row, h2]
    · simp [w_row, h3]
    · simp [w_get, hinc]; omega
    · simp [w_get, hinc]; omega
    · simp [w_row, a]
    · simp [w_get]
    · simp [w_row, a]
    · simp [w_get, a]
  · have t1 : ¬ (24 : Int32) ≤ c.1 49 1 := by rw [i_le, l24]; exact q
    have z : zz_in (c.1 49 1) 24 = true := i_in.mpr (by omega)
    rw [if_neg t1, if_pos z, if_neg t1, if_pos z]
    refine ⟨_, _, rfl, rfl, ⟨⟨?_, ?_, ?_⟩, ?_, ?_⟩, fun o a b => ?_, rfl, ?_, fun o a b => ?_, rfl, fun k a => ?_⟩
    · simp [w_get, h1]
    · simp [w_row, h2]
    · simp [w_row, h3]
    · simp [w_get, hinc]; omega
    · simp [w_get, hinc]; omega
    · simp [w_row, a, b]
    · simp [w_get]
    · simp [w_row, a, b]
    · simp [w_get, a]
