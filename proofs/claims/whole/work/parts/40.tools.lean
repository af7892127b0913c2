/-! THE PURE PART: ints -/
theorem bm32 {x : Int} (h1 : -2147483648 ≤ x) (h2 : x ≤ 2147483647) : x.bmod (2 ^ 32) = x := Int.bmod_eq_of_le (by omega) (by omega)
theorem i_add {a b : Int32} (h1 : -2147483648 ≤ a.toInt + b.toInt) (h2 : a.toInt + b.toInt ≤ 2147483647) : (a + b).toInt = a.toInt + b.toInt := by rw [Int32.toInt_add, bm32 h1 h2]
theorem i_sub {a b : Int32} (h1 : -2147483648 ≤ a.toInt - b.toInt) (h2 : a.toInt - b.toInt ≤ 2147483647) : (a - b).toInt = a.toInt - b.toInt := by rw [Int32.toInt_sub, bm32 h1 h2]
theorem i_mul {a b : Int32} (h1 : -2147483648 ≤ a.toInt * b.toInt) (h2 : a.toInt * b.toInt ≤ 2147483647) : (a * b).toInt = a.toInt * b.toInt := by rw [Int32.toInt_mul, bm32 h1 h2]
theorem i_neg {a : Int32} (h1 : -2147483647 ≤ a.toInt) : (-a).toInt = -a.toInt := by
  have h2 := a.toInt_lt
  rw [Int32.toInt_neg, bm32 (by omega) (by omega)]
theorem i_lt {a b : Int32} : a < b ↔ a.toInt < b.toInt := Int32.lt_iff_toInt_lt
theorem i_le {a b : Int32} : a ≤ b ↔ a.toInt ≤ b.toInt := Int32.le_iff_toInt_le
theorem i_eq {a b : Int32} : a = b ↔ a.toInt = b.toInt := Int32.toInt_inj.symm
theorem i_nat (a : Int32) : a.toNatClampNeg = a.toInt.toNat := rfl
theorem i_in {i : Int32} {n : Nat} : zz_in i n = true ↔ (0 ≤ i.toInt ∧ i.toInt < n) := by
  unfold zz_in
  rw [decide_eq_true_iff, i_lt, i_nat]
  have : (0 : Int32).toInt = 0 := rfl
  rw [this]
  omega
theorem i_lo (a : Int32) : -2147483648 ≤ a.toInt := a.le_toInt
theorem i_hi (a : Int32) : a.toInt ≤ 2147483647 := by have := a.toInt_lt; omega
theorem M_in (a b c : Int32) : f_M_in a b c = if b.toInt ≤ a.toInt ∧ a.toInt ≤ c.toInt then 1 else 0 := by
  unfold f_M_in
  simp only [i_lt]
  by_cases h1 : a.toInt < b.toInt
  · rw [if_pos h1, if_neg (by omega)]
  · rw [if_neg h1]
    by_cases h2 : c.toInt < a.toInt
    · rw [if_pos h2, if_neg (by omega)]
    · rw [if_neg h2, if_pos (by omega)]
theorem M_in0 (a b c : Int32) : f_M_in a b c = 0 ↔ ¬ (b.toInt ≤ a.toInt ∧ a.toInt ≤ c.toInt) := by
  rw [M_in]
  by_cases h : b.toInt ≤ a.toInt ∧ a.toInt ≤ c.toInt
  · rw [if_pos h]; simp [h]
  · rw [if_neg h]; simp [h]
/-! both answer alike, one behind the other, and what holds then -/
def ag (I : zz_S → Prop) (x : Option (Int32 × zz_S)) (g : zz_S → Option (Int32 × zz_S)) : Prop := ∃ (r : Int32) (s1 s2 : zz_S), x = some (r, s1) ∧ g s1 = some (r, s2) ∧ I s2
theorem ag_of {I : zz_S → Prop} {x : Option (Int32 × zz_S)} {g : zz_S → Option (Int32 × zz_S)} {r : Int32} {s1 : zz_S} (hx : x = some (r, s1)) (h : ∃ s2, g s1 = some (r, s2) ∧ I s2) : ag I x g := by
  obtain ⟨s2, h1, h2⟩ := h
  exact ⟨r, s1, s2, hx, h1, h2⟩
theorem sp {a b : Int32} {S : zz_S} (h : a = b) : some (a, S) = some (b, S) := by rw [h]
theorem w_get (s : zz_S) (o k : Nat) (v : Int32) (a j : Nat) : (zz_w s o k v).1 a j = if a = o then (if j = k then v else s.1 a j) else s.1 a j := rfl
theorem w_lng (s : zz_S) (o k : Nat) (v : Int32) : (zz_w s o k v).2 = s.2 := rfl
theorem w_row (s : zz_S) (o k : Nat) (v : Int32) (a : Nat) : (zz_w s o k v).1 a = if a = o then upd (s.1 o) k v else s.1 a := by
  by_cases h : a = o
  · subst h; rw [if_pos rfl]; exact zz_w_same s a k v
  · rw [if_neg h]; exact zz_w_ne s o k v h
theorem upd_at (f : Nat → Int32) (k : Nat) (v : Int32) (j : Nat) : upd f k v j = if j = k then v else f j := rfl
theorem i_div100 {a : Int32} (h : 0 ≤ a.toInt) : (a / 100).toInt = a.toInt / 100 := by
  rw [Int32.toInt_div_of_ne_right _ _ (by decide), Int.tdiv_eq_ediv_of_nonneg h]
  rfl
theorem i_mod100 {a : Int32} (h : 0 ≤ a.toInt) : (a % 100).toInt = a.toInt % 100 := by
  rw [Int32.toInt_mod, Int.tmod_eq_emod_of_nonneg h]
  rfl
theorem i_inc {a : Int32} (h : a.toInt ≤ 2147483646) : (a + 1).toInt = a.toInt + 1 := by
  have h1 := i_lo a
  rw [i_add (by rw [show (1 : Int32).toInt = 1 from rfl]; omega) (by rw [show (1 : Int32).toInt = 1 from rfl]; omega)]
  rfl
theorem i_dec {a : Int32} (h : -2147483647 ≤ a.toInt) : (a - 1).toInt = a.toInt - 1 := by
  have h1 := i_hi a
  rw [i_sub (by rw [show (1 : Int32).toInt = 1 from rfl]; omega) (by rw [show (1 : Int32).toInt = 1 from rfl]; omega)]
  rfl
theorem i_incdec (a : Int32) : a + 1 - 1 = a := by
  rw [Int32.sub_eq_add_neg, Int32.add_assoc, Int32.add_right_neg, Int32.add_zero]
