/-! cells of the bed as bits -/
def seg (f e : Nat) : Nat := (2 ^ (e - f) - 1) * 2 ^ f
theorem seg_bit (f e k : Nat) : (seg f e).testBit k = decide (f ≤ k ∧ k < e) := by
  unfold seg
  rw [Nat.testBit_mul_two_pow, Nat.testBit_two_pow_sub_one]
  by_cases h : f ≤ k
  · rw [decide_eq_true h, Bool.true_and]
    by_cases h2 : k < e
    · rw [decide_eq_true (by omega), decide_eq_true ⟨h, h2⟩]
    · rw [decide_eq_false (by omega), decide_eq_false (fun q => h2 q.2)]
  · rw [decide_eq_false h, Bool.false_and, decide_eq_false (fun q => h q.1)]
theorem seg_lt {f e : Nat} (h : f ≤ e) (he : e ≤ 60) : seg f e < 2 ^ 60 := by
  refine Nat.lt_of_lt_of_le ?_ (Nat.pow_le_pow_right (by decide) he)
  unfold seg
  have h1 : 2 ^ e = 2 ^ (e - f) * 2 ^ f := by rw [← Nat.pow_add]; congr 1; omega
  rw [h1]
  have h2 : 0 < 2 ^ f := Nat.two_pow_pos _
  have h3 : 0 < 2 ^ (e - f) := Nat.two_pow_pos _
  exact Nat.mul_lt_mul_of_pos_right (by omega) h2
/-- a cover's cells, cut by the bed -/
def sF (W a : Int) : Nat := (max 0 (min W a)).toNat
def sE (W a b : Int) : Nat := (max (max 0 (min W a)) (min W (a + b))).toNat
theorem nIof {x : Int32} {n : Nat} (h : x.toInt = n) : x = nI n := (ofNat_of h).symm
theorem bits_of {s : zz_S} {W : Nat} (a b : Int32) (hW : (s.1 1 0).toInt = W) (hW2 : W ≤ 60) (h1 : -1000000000 ≤ a.toInt) (h2 : a.toInt ≤ 1000000000) (h3 : 0 ≤ b.toInt) (h4 : b.toInt ≤ 1000) :
    f_Bed_bitsOf a b s = lN (seg (sF W a.toInt) (sE W a.toInt b.toInt)) := by
  have hab := i_add (a := a) (b := b) (by omega) (by omega)
  have hF : (zz_max 0 (zz_min (s.1 1 0) a)).toInt = (sF W a.toInt : Nat) := by
    rw [zmax_toInt, zmin_toInt, hW, show (0 : Int32).toInt = 0 from rfl]
    unfold sF
    omega
  have hE : (zz_max (zz_max 0 (zz_min (s.1 1 0) a)) (zz_min (s.1 1 0) (a + b))).toInt = (sE W a.toInt b.toInt : Nat) := by
    rw [zmax_toInt, zmax_toInt, zmin_toInt, zmin_toInt, hW, hab, show (0 : Int32).toInt = 0 from rfl]
    unfold sE
    omega
  have hFE : sF W a.toInt ≤ sE W a.toInt b.toInt := by unfold sF sE; omega
  have hE60 : sE W a.toInt b.toInt ≤ 60 := by unfold sE; omega
  unfold f_Bed_bitsOf
  generalize zz_max (zz_max 0 (zz_min (s.1 1 0) a)) (zz_min (s.1 1 0) (a + b)) = y at *
  generalize zz_max 0 (zz_min (s.1 1 0) a) = x at *
  have hD : (y - x).toInt = (sE W a.toInt b.toInt - sF W a.toInt : Nat) := by
    rw [i_sub (by omega) (by omega), hE, hF]
    omega
  rw [nIof hD, nIof hF, show (1 : Int64) = lN 1 from rfl, wb_shl _ (by omega), wb_sub (by have := Nat.two_pow_pos (sE W a.toInt b.toInt - sF W a.toInt); omega), wb_shl _ (by omega), Nat.one_mul]
  rfl
/-- how many cells two lie over together -/
def ovl (p b l w : Int) : Int := max 0 (min (p + b) (l + w) - max p l)
theorem ct_seg (f e : Nat) : ∀ n, ct (fun k => decide (f ≤ k ∧ k < e)) n = min n e - min n f
  | 0 => by show 0 = _; omega
  | n + 1 => by
    show ct (fun k => decide (f ≤ k ∧ k < e)) n + (if decide (f ≤ n ∧ n < e) = true then 1 else 0) = _
    rw [ct_seg f e n]
    by_cases h : f ≤ n ∧ n < e
    · rw [decide_eq_true h, if_pos rfl]; omega
    · rw [decide_eq_false h, if_neg (by decide)]; omega
theorem under_of {W : Nat} {p b : Nat} {l w : Int} (hW : W ≤ 60) (hp : p + b ≤ W) (hw : 0 ≤ w) :
    f_Long_bitCount (lN (seg p (p + b)) &&& lN (seg (sF W l) (sE W l w))) = nI (ovl p b l w).toNat := by
  have hFE : sF W l ≤ sE W l w := by unfold sF sE; omega
  have hE60 : sE W l w ≤ 60 := by unfold sE; omega
  have s1 := seg_lt (show p ≤ p + b by omega) (by omega)
  have s2 := seg_lt hFE hE60
  rw [wb_and (by omega) (by omega), bc_spec (Nat.and_lt_two_pow _ (by omega))]
  congr 1
  have e : ct (seg p (p + b) &&& seg (sF W l) (sE W l w)).testBit 64 = ct (fun k => decide (max p (sF W l) ≤ k ∧ k < min (p + b) (sE W l w))) 64 := ct_same 64 fun k _ => by
    rw [Nat.testBit_and, seg_bit, seg_bit]
    rw [← Bool.decide_and]
    exact decide_eq_decide.mpr (by omega)
  rw [e, ct_seg]
  unfold ovl sF sE at *
  omega
/-- covers over a cell -/
def cvr (lf wd : Nat → Int32) : Nat → Int → Bool
  | 0, _ => false
  | n + 1, x => cvr lf wd n x || decide ((lf n).toInt ≤ x ∧ x < (lf n).toInt + (wd n).toInt)
def cvN (lf wd : Nat → Int32) (C : Nat) (p b : Int32) : Nat := ct (fun k => cvr lf wd C (p.toInt + k)) b.toInt.toNat
theorem cvr_same {lf wd lf2 wd2 : Nat → Int32} : ∀ {C : Nat} (x : Int), (∀ k, k < C → lf2 k = lf k ∧ wd2 k = wd k) → cvr lf2 wd2 C x = cvr lf wd C x
  | 0, _, _ => rfl
  | C + 1, x, h => by
    unfold cvr
    rw [cvr_same x fun k hk => h k (by omega), (h C (by omega)).1, (h C (by omega)).2]
theorem cvN_same {lf wd lf2 wd2 : Nat → Int32} {C : Nat} (p b : Int32) (h : ∀ k, k < C → lf2 k = lf k ∧ wd2 k = wd k) : cvN lf2 wd2 C p b = cvN lf wd C p b := by
  unfold cvN
  exact ct_same _ fun k _ => cvr_same _ h
theorem ct_le (p : Nat → Bool) : ∀ n, ct p n ≤ n
  | 0 => Nat.le_refl _
  | n + 1 => by
    have := ct_le p n
    show ct p n + (if p n then 1 else 0) ≤ n + 1
    split <;> omega
/-- all covers' bits -/
theorem ac_loop {c : zz_S} {W C : Nat} (hW : W ≤ 60) (hC : (c.1 1 2).toInt = C) (hC3 : C ≤ 3) (hw : ∀ k, k < C → 0 ≤ (c.1 7 k).toInt) (hb : ∀ k, k < C → c.2 38 k = lN (seg (sF W (c.1 36 k).toInt) (sE W (c.1 36 k).toInt (c.1 7 k).toInt))) :
    ∀ (m j n : Nat) (v3 : Int32) (M : Nat), j + m = C → v3.toInt = j → m < n → M < 2 ^ 60 → (∀ k, k < W → M.testBit k = cvr (c.1 36) (c.1 7) j k) → ∃ M2, f_Lie_allCovers_L4 c n (lN M) v3 = some (lN M2) ∧ M2 < 2 ^ 60 ∧ ∀ k, k < W → M2.testBit k = cvr (c.1 36) (c.1 7) C k := by
  intro m
  induction m with
  | zero =>
    intro j n v3 M hj hv hn hM hc
    obtain ⟨n, rfl⟩ : ∃ k, n = k + 1 := ⟨n - 1, by omega⟩
    have : j = C := by omega
    subst this
    exact ⟨M, by rw [f_Lie_allCovers_L4, if_pos (by rw [i_le]; omega)], hM, hc⟩
  | succ m ih =>
    intro j n v3 M hj hv hn hM hc
    obtain ⟨n, rfl⟩ : ∃ k, n = k + 1 := ⟨n - 1, by omega⟩
    have hv1 := i_inc (a := v3) (by omega)
    have hFE : sF W (c.1 36 j).toInt ≤ sE W (c.1 36 j).toInt (c.1 7 j).toInt := by unfold sF sE; omega
    have hE60 : sE W (c.1 36 j).toInt (c.1 7 j).toInt ≤ 60 := by unfold sE; omega
    have s2 := seg_lt hFE hE60
    have hwj := hw j (by omega)
    rw [f_Lie_allCovers_L4, if_neg (by rw [i_le]; omega), if_pos (i_in.mpr (by omega)), nz_eq hv, hb j (by omega), wb_or (by omega) (by omega)]
    refine ih (j + 1) n (v3 + 1) _ (by omega) (by omega) (by omega) (Nat.or_lt_two_pow hM s2) fun k hk => ?_
    rw [Nat.testBit_or, hc k hk, seg_bit]
    show _ = (cvr (c.1 36) (c.1 7) j k || decide ((c.1 36 j).toInt ≤ k ∧ (k : Int) < (c.1 36 j).toInt + (c.1 7 j).toInt))
    congr 1
    refine decide_eq_decide.mpr ?_
    unfold sF sE
    omega
theorem covers_of {c : zz_S} {W C : Nat} (hW : W ≤ 60) (hC : (c.1 1 2).toInt = C) (hC3 : C ≤ 3) (hw : ∀ k, k < C → 0 ≤ (c.1 7 k).toInt) (hb : ∀ k, k < C → c.2 38 k = lN (seg (sF W (c.1 36 k).toInt) (sE W (c.1 36 k).toInt (c.1 7 k).toInt))) :
    ∃ M, f_Lie_allCovers c = some (lN M) ∧ M < 2 ^ 60 ∧ ∀ k, k < W → M.testBit k = cvr (c.1 36) (c.1 7) C k :=
  ac_loop hW hC hC3 hw hb C 0 zF 0 0 (by omega) rfl (by unfold zF; omega) (by decide) fun k _ => by rw [Nat.zero_testBit]; rfl
/-- how many of a sleeper's cells are covered -/
theorem count_of {W M p b : Nat} {lf wd : Nat → Int32} {C : Nat} {pp bb : Int32} (hW : W ≤ 60) (hp : pp.toInt = p) (hb : bb.toInt = b) (hpb : p + b ≤ W) (hM : M < 2 ^ 60) (h : ∀ k, k < W → M.testBit k = cvr lf wd C k) :
    f_Long_bitCount (lN (seg p (p + b)) &&& lN M) = nI (cvN lf wd C pp bb) := by
  have s1 := seg_lt (show p ≤ p + b by omega) (by omega)
  rw [wb_and (by omega) (by omega), bc_spec (Nat.and_lt_two_pow _ (by omega))]
  congr 1
  unfold cvN
  rw [hp, hb, Int.toNat_natCast]
  obtain ⟨r, hr⟩ : ∃ r, 64 = p + (b + r) := ⟨64 - p - b, by omega⟩
  have zero : ∀ (q : Nat → Bool) n, (∀ k, k < n → q k = false) → ct q n = 0 := by
    intro q n
    induction n with
    | zero => intro _; rfl
    | succ n ih =>
      intro hq
      show ct q n + (if q n then 1 else 0) = 0
      rw [ih fun k hk => hq k (by omega), hq n (by omega)]
      rfl
  rw [hr, ct_add, ct_add, zero _ p fun k hk => ?_, zero _ r fun k hk => ?_, Nat.zero_add, Nat.add_zero]
  · refine ct_same b fun k hk => ?_
    rw [Nat.testBit_and, seg_bit, decide_eq_true (by omega), Bool.true_and, h (p + k) (by omega)]
    congr 1
  · rw [Nat.testBit_and, seg_bit, decide_eq_false (by omega), Bool.false_and]
  · rw [Nat.testBit_and, seg_bit, decide_eq_false (by omega), Bool.false_and]
