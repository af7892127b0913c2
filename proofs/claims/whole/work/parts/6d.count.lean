/-! the night: minutes are counted -/
def tC (c : zz_S) (i : Nat) : Int × Int × Int × Int × Int × Int := ((c.1 22 i).toInt, (c.1 23 i).toInt, (c.1 24 i).toInt, (c.1 27 i).toInt, (c.1 25 i).toInt, (c.1 26 i).toInt)
def tR (r : zz_S) (i : Nat) : Int × Int × Int × Int × Int × Int := ((r.1 107 i).toInt, (r.1 108 i).toInt, (r.1 109 i).toInt, (r.1 110 i).toInt, (r.1 111 i).toInt, (r.1 112 i).toInt)
def tOk (M : Int) (t : Int × Int × Int × Int × Int × Int) : Prop := (0 ≤ t.1 ∧ t.1 ≤ M) ∧ (0 ≤ t.2.1 ∧ t.2.1 ≤ M) ∧ (0 ≤ t.2.2.1 ∧ t.2.2.1 ≤ M) ∧ (0 ≤ t.2.2.2.1 ∧ t.2.2.2.1 ≤ M) ∧ (t.2.2.2.2.1 = -2 ∨ 0 ≤ t.2.2.2.2.1) ∧ (10 ≤ t.2.2.2.1 → 0 ≤ t.2.2.2.2.1)
/-- so many minutes alike, from one on -/
def cUp (ez co ba : Bool) (m n : Int) (t : Int × Int × Int × Int × Int × Int) : Int × Int × Int × Int × Int × Int :=
  (t.1 + (if ez = true then n else 0), t.2.1 + (if co = true then n else 0), t.2.2.1 + (if ba = true then n else 0), (if co = true then t.2.2.2.1 + n else 0),
   (if co = true ∧ 10 ≤ t.2.2.2.1 + n ∧ t.2.2.2.2.1 = -2 then m + 9 - t.2.2.2.1 else t.2.2.2.2.1), (if co = true ∧ 10 ≤ t.2.2.2.1 + n ∧ t.2.2.2.2.1 = -2 then -1 else t.2.2.2.2.2))
theorem tOk_up {M m n : Int} {t : Int × Int × Int × Int × Int × Int} (ez co ba : Bool) (h : tOk M t) (hm : 0 ≤ m) (hn : 0 ≤ n) : tOk (M + n) (cUp ez co ba m n t) := by
  obtain ⟨h1, h2, h3, h4, h5, h6⟩ := h
  have e1 : 0 ≤ (if ez = true then n else 0) ∧ (if ez = true then n else 0) ≤ n := by split <;> omega
  have e2 : 0 ≤ (if co = true then n else 0) ∧ (if co = true then n else 0) ≤ n := by split <;> omega
  have e3 : 0 ≤ (if ba = true then n else 0) ∧ (if ba = true then n else 0) ≤ n := by split <;> omega
  refine ⟨?_, ?_, ?_, ?_, ?_, ?_⟩
  · show 0 ≤ t.1 + _ ∧ t.1 + _ ≤ M + n
    omega
  · show 0 ≤ t.2.1 + _ ∧ t.2.1 + _ ≤ M + n
    omega
  · show 0 ≤ t.2.2.1 + _ ∧ t.2.2.1 + _ ≤ M + n
    omega
  · show 0 ≤ (if co = true then t.2.2.2.1 + n else 0) ∧ (if co = true then t.2.2.2.1 + n else 0) ≤ M + n
    split <;> omega
  · show (if co = true ∧ 10 ≤ t.2.2.2.1 + n ∧ t.2.2.2.2.1 = -2 then m + 9 - t.2.2.2.1 else t.2.2.2.2.1) = -2 ∨ 0 ≤ (if co = true ∧ 10 ≤ t.2.2.2.1 + n ∧ t.2.2.2.2.1 = -2 then m + 9 - t.2.2.2.1 else t.2.2.2.2.1)
    by_cases q : co = true ∧ 10 ≤ t.2.2.2.1 + n ∧ t.2.2.2.2.1 = -2
    · rw [if_pos q]
      have : t.2.2.2.1 ≤ 9 := by
        by_cases w : 10 ≤ t.2.2.2.1
        · have := h6 w; omega
        · omega
      omega
    · rw [if_neg q]; exact h5
  · show 10 ≤ (if co = true then t.2.2.2.1 + n else 0) → 0 ≤ (if co = true ∧ 10 ≤ t.2.2.2.1 + n ∧ t.2.2.2.2.1 = -2 then m + 9 - t.2.2.2.1 else t.2.2.2.2.1)
    intro w
    by_cases c : co = true
    · rw [if_pos c] at w
      by_cases q : t.2.2.2.2.1 = -2
      · rw [if_pos ⟨c, w, q⟩]
        have : t.2.2.2.1 ≤ 9 := by
          by_cases w : 10 ≤ t.2.2.2.1
          · have := h6 w; omega
          · omega
        omega
      · rw [if_neg (fun x => q x.2.2)]
        omega
    · rw [if_neg c] at w
      omega
/-- one minute more -/
theorem cUp_step {M m n : Int} {t : Int × Int × Int × Int × Int × Int} (ez co ba : Bool) (h : tOk M t) (hm : 0 ≤ m) (hn : 0 ≤ n) : cUp ez co ba (m + n) 1 (cUp ez co ba m n t) = cUp ez co ba m (n + 1) t := by
  obtain ⟨e, k, b, row, at_, by_⟩ := t
  obtain ⟨h1, h2, h3, h4, h5, h6⟩ := h
  simp only at h1 h2 h3 h4 h5 h6
  have p1 : e + (if ez = true then n else 0) + (if ez = true then 1 else 0) = e + (if ez = true then n + 1 else 0) := by cases ez <;> simp; omega
  have p2 : k + (if co = true then n else 0) + (if co = true then 1 else 0) = k + (if co = true then n + 1 else 0) := by cases co <;> simp; omega
  have p3 : b + (if ba = true then n else 0) + (if ba = true then 1 else 0) = b + (if ba = true then n + 1 else 0) := by cases ba <;> simp; omega
  unfold cUp
  simp only [p1, p2, p3]
  cases co with
  | false => simp
  | true =>
    simp only [true_and, if_true]
    by_cases q : 10 ≤ row + n ∧ at_ = -2
    · have r9 : row ≤ 9 := by
        by_cases w : 10 ≤ row
        · have := h6 w; omega
        · omega
      have c1 : ¬ (10 ≤ row + n + 1 ∧ m + 9 - row = -2) := by omega
      have c2 : 10 ≤ row + (n + 1) ∧ at_ = -2 := by omega
      rw [if_pos q, if_pos q, if_neg c1, if_neg c1, if_pos c2, if_pos c2, show row + n + 1 = row + (n + 1) by omega]
    · rw [if_neg q, if_neg q]
      by_cases c : 10 ≤ row + n + 1 ∧ at_ = -2
      · have c2 : 10 ≤ row + (n + 1) ∧ at_ = -2 := by omega
        rw [if_pos c, if_pos c, if_pos c2, if_pos c2, show row + n + 1 = row + (n + 1) by omega, show m + n + 9 - (row + n) = m + 9 - row by omega]
      · have c2 : ¬ (10 ≤ row + (n + 1) ∧ at_ = -2) := by omega
        rw [if_neg c, if_neg c, if_neg c2, if_neg c2, show row + n + 1 = row + (n + 1) by omega]
