/-! drawn turns -/
theorem roll_bd (x : Int32) : 0 ≤ ((x.toUInt32 >>> ((8 : Int32).toUInt32 &&& Int32.toUInt32 31)).toInt32).toInt := by
  have h8 : ((8 : Int32).toUInt32 &&& Int32.toUInt32 31).toNat % 32 = 8 := by decide
  have h1 : (x.toUInt32 >>> ((8 : Int32).toUInt32 &&& Int32.toUInt32 31)).toNat = x.toUInt32.toNat / 2 ^ 8 := by
    rw [UInt32.toNat_shiftRight, h8, Nat.shiftRight_eq_div_pow]
  have h2 : x.toUInt32.toNat < 2 ^ 32 := x.toUInt32.toNat_lt
  generalize x.toUInt32 >>> ((8 : Int32).toUInt32 &&& Int32.toUInt32 31) = y at *
  have h3 : y.toInt32.toInt = (y.toNat : Int).bmod (2 ^ 32) := BitVec.toInt_eq_toNat_bmod y.toBitVec
  rw [h3, bm32 (by omega) (by omega)]
  omega
theorem mod_bd {x k : Int32} (n : Int) (hk : k.toInt = n) (hn : 0 < n) (hx : 0 ≤ x.toInt) : 0 ≤ (x % k).toInt ∧ (x % k).toInt < n := by
  rw [Int32.toInt_mod, hk, Int.tmod_eq_emod_of_nonneg hx]
  exact ⟨Int.emod_nonneg _ (by omega), Int.emod_lt_of_pos _ hn⟩
def nxt (d : Int32) : Int32 := d * 1103515245 + 12345
def rol (d : Int32) : Int32 := ((nxt d).toUInt32 >>> ((8 : Int32).toUInt32 &&& Int32.toUInt32 31)).toInt32
theorem roll_c (c : zz_S) : f_Night_roll c = some (rol (c.1 20 15), zz_w c 20 15 (nxt (c.1 20 15))) := by
  unfold f_Night_roll
  rfl
theorem roll_r (k : Int32) (hk : ¬ k = 0) (r : zz_S) : f_M_draw k r = some (rol (r.1 79 54) % k, zz_w r 79 54 (nxt (r.1 79 54))) := by
  unfold f_M_draw
  rw [if_neg hk]
  rfl
theorem rol21 (d : Int32) : 0 ≤ (rol d % 21).toInt ∧ (rol d % 21).toInt < 21 := mod_bd 21 rfl (by decide) (roll_bd _)
/-- the dice alone go on -/
theorem mF_dice (c r : zz_S) (d e : Int32) : mF c r (zz_w c 20 15 d) (zz_w r 79 54 e) :=
  ⟨⟨fun o h _ _ _ _ _ _ _ _ _ _ _ _ _ _ => by rw [w_row, if_neg h], fun k _ h => by rw [w_get, if_pos rfl, if_neg h], fun _ _ _ => rfl⟩, fun o h _ _ => by rw [w_row, if_neg h], fun k h => by rw [w_get, if_pos rfl, if_neg h], rfl⟩
