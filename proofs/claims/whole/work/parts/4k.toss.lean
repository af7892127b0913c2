/-! longs -/
theorem bm64 {x : Int} (h1 : -9223372036854775808 ≤ x) (h2 : x ≤ 9223372036854775807) : x.bmod (2 ^ 64) = x := Int.bmod_eq_of_le (by omega) (by omega)
theorem j_add {a b : Int64} (h1 : -9223372036854775808 ≤ a.toInt + b.toInt) (h2 : a.toInt + b.toInt ≤ 9223372036854775807) : (a + b).toInt = a.toInt + b.toInt := by rw [Int64.toInt_add, bm64 h1 h2]
theorem j_of (a : Int32) : a.toInt64.toInt = a.toInt := Int32.toInt_toInt64 a
theorem j_to {x : Int64} (h1 : -2147483648 ≤ x.toInt) (h2 : x.toInt ≤ 2147483647) : x.toInt32.toInt = x.toInt := by rw [Int64.toInt_toInt32, bm32 h1 h2]
theorem j_lt {a b : Int64} : a < b ↔ a.toInt < b.toInt := Int64.lt_iff_toInt_lt
theorem j_le {a b : Int64} : a ≤ b ↔ a.toInt ≤ b.toInt := Int64.le_iff_toInt_le
theorem cmp_neg (x y : Int64) : lg_cmp x y < 0 ↔ x.toInt < y.toInt := by
  unfold lg_cmp
  by_cases h : y < x
  · rw [if_pos h]
    rw [j_lt] at h
    exact iff_of_false (by decide) (by omega)
  · rw [if_neg h]
    rw [j_lt] at h
    by_cases e : x = y
    · rw [if_pos e, e]
      exact iff_of_false (by decide) (by omega)
    · rw [if_neg e]
      have : ¬ x.toInt = y.toInt := fun q => e (Int64.toInt_inj.mp q)
      exact iff_of_true (by decide) (by omega)
theorem cmp_pos (x y : Int64) : 0 ≤ lg_cmp x y ↔ y.toInt ≤ x.toInt := by
  have := cmp_neg x y
  rw [i_lt, show (0 : Int32).toInt = 0 from rfl] at this
  rw [i_le, show (0 : Int32).toInt = 0 from rfl]
  omega
