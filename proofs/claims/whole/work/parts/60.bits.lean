/-! bits: the count of a long, a byte at a time (the first rows: lN, from the kit's starting texts) -/
theorem wb_tb (n : Nat) : (lN n).toBitVec = BitVec.ofNat 64 n := rfl
theorem wb_inj {a b : Int64} (h : a.toBitVec = b.toBitVec) : a = b := Int64.toBitVec_inj.mp h
theorem wb_tn {n : Nat} (h : n < 2 ^ 64) : (lN n).toBitVec.toNat = n := by rw [wb_tb, BitVec.toNat_ofNat, Nat.mod_eq_of_lt h]
theorem wb_of (x : Int64) : ∃ n, n < 2 ^ 64 ∧ x = lN n := ⟨x.toBitVec.toNat, x.toBitVec.isLt, wb_inj (by rw [wb_tb]; simp)⟩
theorem wb_c : ∀ k, k < 64 → ((nI k).toInt64 &&& 63) = lN k := by decide +kernel
theorem wb_cu : ∀ k, k < 64 → ((nI k).toInt64.toUInt64 &&& Int64.toUInt64 63) = UInt64.ofNat k := by decide +kernel
theorem wb_sm : ∀ k, k < 64 → (BitVec.ofNat 64 k).smod 64 = BitVec.ofNat 64 k := by decide +kernel
theorem wb_pw {a b : Nat} (h : a ≤ b) : 2 ^ b = 2 ^ a * 2 ^ (b - a) := by rw [← Nat.pow_add]; congr 1; omega
theorem wb_lt2 {a b : Nat} (h : a < b) : 2 ^ a < 2 ^ b := Nat.pow_lt_pow_right (by decide) h
theorem wb_shr {n k : Nat} (hn : n < 2 ^ 64) (hk : k < 64) : ((lN n).toUInt64 >>> ((nI k).toInt64.toUInt64 &&& Int64.toUInt64 63)).toInt64 = lN (n / 2 ^ k) := by
  rw [wb_cu k hk]
  apply wb_inj
  apply BitVec.eq_of_toNat_eq
  show ((lN n).toUInt64 >>> UInt64.ofNat k).toNat = (BitVec.ofNat 64 _).toNat
  have h1 : (UInt64.ofNat k).toNat = k := by
    show (BitVec.ofNat 64 k).toNat = k
    rw [BitVec.toNat_ofNat, Nat.mod_eq_of_lt (by omega)]
  have h2 : (lN n).toUInt64.toNat = n := wb_tn hn
  rw [UInt64.toNat_shiftRight, h1, h2, Nat.mod_eq_of_lt hk, Nat.shiftRight_eq_div_pow, BitVec.toNat_ofNat, Nat.mod_eq_of_lt (Nat.lt_of_le_of_lt (Nat.div_le_self _ _) hn)]
theorem wb_shl (n : Nat) {k : Nat} (hk : k < 64) : lN n <<< ((nI k).toInt64 &&& 63) = lN (n * 2 ^ k) := by
  rw [wb_c k hk]
  apply wb_inj
  rw [Int64.toBitVec_shiftLeft, wb_tb, wb_tb, wb_tb, wb_sm k hk]
  apply BitVec.eq_of_toNat_eq
  rw [BitVec.shiftLeft_eq', BitVec.toNat_shiftLeft, BitVec.toNat_ofNat, BitVec.toNat_ofNat, BitVec.toNat_ofNat, Nat.mod_eq_of_lt (show k < 2 ^ 64 by omega), Nat.shiftLeft_eq, Nat.mul_mod, Nat.mod_mod, ← Nat.mul_mod]
theorem wb_and {a b : Nat} (ha : a < 2 ^ 64) (hb : b < 2 ^ 64) : lN a &&& lN b = lN (a &&& b) := by
  apply wb_inj
  rw [Int64.toBitVec_and, wb_tb, wb_tb, wb_tb]
  apply BitVec.eq_of_toNat_eq
  rw [BitVec.toNat_and, BitVec.toNat_ofNat, BitVec.toNat_ofNat, BitVec.toNat_ofNat, Nat.mod_eq_of_lt ha, Nat.mod_eq_of_lt hb, Nat.mod_eq_of_lt (Nat.and_lt_two_pow _ hb)]
theorem wb_or {a b : Nat} (ha : a < 2 ^ 64) (hb : b < 2 ^ 64) : lN a ||| lN b = lN (a ||| b) := by
  apply wb_inj
  rw [Int64.toBitVec_or, wb_tb, wb_tb, wb_tb]
  apply BitVec.eq_of_toNat_eq
  rw [BitVec.toNat_or, BitVec.toNat_ofNat, BitVec.toNat_ofNat, BitVec.toNat_ofNat, Nat.mod_eq_of_lt ha, Nat.mod_eq_of_lt hb, Nat.mod_eq_of_lt (Nat.or_lt_two_pow ha hb)]
theorem wb_mask {n k : Nat} (hn : n < 2 ^ 64) (hk : k < 64) : lN n &&& lN (2 ^ k - 1) = lN (n % 2 ^ k) := by
  rw [wb_and hn (by have := wb_lt2 hk; omega), Nat.and_two_pow_sub_one_eq_mod]
theorem nx_and (a b : Nat) : nI a &&& nI b = nI (a &&& b) := by
  apply Int32.toBitVec_inj.1
  show BitVec.ofNat 32 a &&& BitVec.ofNat 32 b = BitVec.ofNat 32 (a &&& b)
  apply BitVec.eq_of_getLsbD_eq
  intro i hi
  simp [hi]
theorem wb_add (a b : Nat) : lN a + lN b = lN (a + b) := by
  apply wb_inj
  rw [Int64.toBitVec_add, wb_tb, wb_tb, wb_tb]
  apply BitVec.eq_of_toNat_eq
  rw [BitVec.toNat_add, BitVec.toNat_ofNat, BitVec.toNat_ofNat, BitVec.toNat_ofNat, ← Nat.add_mod]
theorem wb_sub {a b : Nat} (h : b ≤ a) : lN a - lN b = lN (a - b) := by
  have e : lN a = lN (a - b) + lN b := by rw [wb_add]; congr 1; omega
  rw [e, Int64.add_sub_cancel]
theorem wb_to32 (n : Nat) : (lN n).toInt32 = nI n := by
  exact Int64.toInt32_ofNat'
/-- a number of bytes, its lowest first -/
def num : List Nat → Nat
  | [] => 0
  | b :: l => b + 256 * num l
def bmk (m : Nat) : Nat → Nat
  | 0 => 0
  | k + 1 => m + 256 * bmk m k
theorem and_byte (b y m M : Nat) (hb : b < 256) (hm : m < 256) : (b + 256 * y) &&& (m + 256 * M) = (b &&& m) + 256 * (y &&& M) := by
  have h1 : ((b + 256 * y) &&& (m + 256 * M)) / 2 ^ 8 = (b + 256 * y) / 2 ^ 8 &&& (m + 256 * M) / 2 ^ 8 := Nat.and_div_two_pow
  have h2 : ((b + 256 * y) &&& (m + 256 * M)) % 2 ^ 8 = ((b + 256 * y) % 2 ^ 8) &&& ((m + 256 * M) % 2 ^ 8) := Nat.and_mod_two_pow
  have e1 : (b + 256 * y) / 2 ^ 8 = y := by omega
  have e2 : (m + 256 * M) / 2 ^ 8 = M := by omega
  have e3 : (b + 256 * y) % 2 ^ 8 = b := by omega
  have e4 : (m + 256 * M) % 2 ^ 8 = m := by omega
  rw [e1, e2] at h1
  rw [e3, e4] at h2
  generalize (b + 256 * y) &&& (m + 256 * M) = x at *
  omega
def fa (b : Nat) : Nat := b - (b / 2 &&& 85)
def fb (b : Nat) : Nat := (b &&& 51) + (b / 4 &&& 51)
def fc (b : Nat) : Nat := (b + b / 16) &&& 15
theorem f1_chk : ∀ c : Fin 128, ∀ e : Fin 2, (c.val + 128 * e.val) &&& 85 = c.val &&& 85 := by decide +kernel
theorem f2_chk : ∀ c : Fin 64, ∀ e : Fin 4, (c.val + 64 * e.val) &&& 51 = c.val &&& 51 := by decide +kernel
theorem f3_chk : ∀ c : Fin 80, ∀ e : Fin 5, (c.val + 16 * e.val) &&& 15 = c.val &&& 15 := by decide +kernel
theorem num_a : ∀ l : List Nat, (∀ b ∈ l, b < 256) → (num l / 2 &&& bmk 85 l.length) ≤ num l ∧ num l - (num l / 2 &&& bmk 85 l.length) = num (l.map fa)
  | [], _ => ⟨Nat.le_refl _, rfl⟩
  | b :: l, h => by
    have hb := h b List.mem_cons_self
    obtain ⟨i1, i2⟩ := num_a l fun b h2 => h b (List.mem_cons_of_mem _ h2)
    have e1 : num (b :: l) / 2 = (b / 2 + 128 * (num l % 2)) + 256 * (num l / 2) := by
      show (b + 256 * num l) / 2 = _
      omega
    have e2 : (b / 2 + 128 * (num l % 2)) &&& 85 = b / 2 &&& 85 := f1_chk ⟨b / 2, by omega⟩ ⟨num l % 2, by omega⟩
    have e3 : b / 2 &&& 85 ≤ b / 2 := Nat.and_le_left
    have e4 : num (b :: l) / 2 &&& bmk 85 (b :: l).length = (b / 2 &&& 85) + 256 * (num l / 2 &&& bmk 85 l.length) := by
      rw [e1]
      show _ &&& (85 + 256 * bmk 85 l.length) = _
      rw [and_byte _ _ _ _ (by omega) (by omega), e2]
    rw [e4]
    show _ ≤ b + 256 * num l ∧ b + 256 * num l - _ = fa b + 256 * num (l.map fa)
    rw [← i2]
    unfold fa
    omega
theorem num_b : ∀ l : List Nat, (∀ b ∈ l, b < 256) → (num l &&& bmk 51 l.length) + (num l / 4 &&& bmk 51 l.length) = num (l.map fb)
  | [], _ => rfl
  | b :: l, h => by
    have hb := h b List.mem_cons_self
    have i2 := num_b l fun b h2 => h b (List.mem_cons_of_mem _ h2)
    have e1 : num (b :: l) / 4 = (b / 4 + 64 * (num l % 4)) + 256 * (num l / 4) := by
      show (b + 256 * num l) / 4 = _
      omega
    have e2 : (b / 4 + 64 * (num l % 4)) &&& 51 = b / 4 &&& 51 := f2_chk ⟨b / 4, by omega⟩ ⟨num l % 4, by omega⟩
    have e4 : num (b :: l) / 4 &&& bmk 51 (b :: l).length = (b / 4 &&& 51) + 256 * (num l / 4 &&& bmk 51 l.length) := by
      rw [e1]
      show _ &&& (51 + 256 * bmk 51 l.length) = _
      rw [and_byte _ _ _ _ (by omega) (by omega), e2]
    have e5 : num (b :: l) &&& bmk 51 (b :: l).length = (b &&& 51) + 256 * (num l &&& bmk 51 l.length) := and_byte _ _ _ _ hb (by omega)
    rw [e4, e5]
    show _ = fb b + 256 * num (l.map fb)
    rw [← i2]
    unfold fb
    omega
theorem num_c : ∀ l : List Nat, (∀ b ∈ l, b ≤ 68 ∧ b % 16 ≤ 4) → num l % 16 ≤ 4 ∧ (num l + num l / 16) &&& bmk 15 l.length = num (l.map fc)
  | [], _ => ⟨by decide, rfl⟩
  | b :: l, h => by
    obtain ⟨hb, hb2⟩ := h b List.mem_cons_self
    obtain ⟨i1, i2⟩ := num_c l fun b h2 => h b (List.mem_cons_of_mem _ h2)
    have e0 : num (b :: l) = b + 256 * num l := rfl
    have e1 : num (b :: l) + num (b :: l) / 16 = (b + b / 16 + 16 * (num l % 16)) + 256 * (num l + num l / 16) := by rw [e0]; omega
    have e2 : (b + b / 16 + 16 * (num l % 16)) &&& 15 = (b + b / 16) &&& 15 := f3_chk ⟨b + b / 16, by omega⟩ ⟨num l % 16, by omega⟩
    refine ⟨by rw [e0]; omega, ?_⟩
    rw [e1]
    show _ &&& (15 + 256 * bmk 15 l.length) = fc b + 256 * num (l.map fc)
    rw [and_byte _ _ _ _ (by omega) (by omega), e2, i2]
    rfl
theorem fab_chk : ∀ b : Fin 256, fa b.val < 256 ∧ fb (fa b.val) ≤ 68 ∧ fb (fa b.val) % 16 ≤ 4 ∧ fc (fb (fa b.val)) ≤ 8 := by decide +kernel
/-- how many of the first places have it -/
def ct (p : Nat → Bool) : Nat → Nat
  | 0 => 0
  | n + 1 => ct p n + (if p n then 1 else 0)
theorem ct_add (p : Nat → Bool) (m : Nat) : ∀ n, ct p (m + n) = ct p m + ct (fun k => p (m + k)) n
  | 0 => rfl
  | n + 1 => by
    show ct p (m + n) + (if p (m + n) then 1 else 0) = ct p m + (ct (fun k => p (m + k)) n + (if p (m + n) then 1 else 0))
    rw [ct_add p m n, Nat.add_assoc]
theorem ct_same {p q : Nat → Bool} : ∀ n, (∀ k, k < n → p k = q k) → ct p n = ct q n
  | 0, _ => rfl
  | n + 1, h => by
    show ct p n + _ = ct q n + _
    rw [ct_same n fun k hk => h k (by omega), h n (by omega)]
theorem p8_chk : ∀ b : Fin 256, fc (fb (fa b.val)) = ct b.val.testBit 8 := by decide +kernel
def nsum : List Nat → Nat
  | [] => 0
  | b :: l => b + nsum l
theorem ct_num : ∀ l : List Nat, (∀ b ∈ l, b < 256) → ct (num l).testBit (8 * l.length) = nsum (l.map fun b => fc (fb (fa b)))
  | [], _ => rfl
  | b :: l, h => by
    have hb := h b List.mem_cons_self
    have ih := ct_num l fun b h2 => h b (List.mem_cons_of_mem _ h2)
    have e0 : num (b :: l) = 2 ^ 8 * num l + b := by show b + 256 * num l = _; omega
    have e1 : 8 * (b :: l).length = 8 + 8 * l.length := by show 8 * (l.length + 1) = _; omega
    rw [e0, e1, ct_add]
    show _ = fc (fb (fa b)) + nsum (l.map fun b => fc (fb (fa b)))
    have hb8 : b < 2 ^ 8 := hb
    rw [← ih, p8_chk ⟨b, hb⟩]
    congr 1
    · exact ct_same 8 fun k hk => by rw [Nat.testBit_two_pow_mul_add _ hb8, if_pos hk]
    · exact ct_same _ fun k hk => by rw [Nat.testBit_two_pow_mul_add _ hb8, if_neg (by omega), Nat.add_sub_cancel_left]
def bys : Nat → Nat → List Nat
  | 0, _ => []
  | k + 1, n => n % 256 :: bys k (n / 256)
theorem bys_len : ∀ k n, (bys k n).length = k
  | 0, _ => rfl
  | k + 1, n => by show (bys k (n / 256)).length + 1 = k + 1; rw [bys_len]
theorem bys_lt : ∀ k n, ∀ b ∈ bys k n, b < 256
  | 0, _, b, h => by cases h
  | k + 1, n, b, h => by
    rcases List.mem_cons.mp h with h | h
    · rw [h]; omega
    · exact bys_lt k _ b h
theorem bys_num : ∀ k n, n < 256 ^ k → num (bys k n) = n
  | 0, n, h => by
    have : n < 1 := h
    show 0 = n
    omega
  | k + 1, n, h => by
    show n % 256 + 256 * num (bys k (n / 256)) = n
    rw [Nat.pow_succ] at h
    rw [bys_num k _ (by omega)]
    omega
