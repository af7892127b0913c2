/-! the night: what stays, on both sides -/
def nS (c r : zz_S) (S C W : Nat) : Prop :=
  ((c.1 1 0).toInt = W ∧ 20 ≤ W ∧ W ≤ 60) ∧ ((c.1 1 1).toInt = S ∧ S ≤ 6) ∧ ((c.1 1 2).toInt = C ∧ C ≤ 3) ∧ (r.1 79 1 = c.1 1 0 ∧ r.1 79 2 = c.1 1 1 ∧ r.1 79 7 = c.1 1 2) ∧
  (r.1 81 = c.1 3 ∧ r.1 82 = c.1 4 ∧ r.1 83 = c.1 5 ∧ r.1 85 = c.1 7 ∧ r.1 86 = c.1 8 ∧ r.1 87 = c.1 9) ∧
  (∀ i, i < S → (4 ≤ (c.1 3 i).toInt ∧ (c.1 3 i).toInt ≤ 20) ∧ (0 ≤ (c.1 4 i).toInt ∧ (c.1 4 i).toInt ≤ 99) ∧ 0 ≤ (c.1 5 i).toInt ∧ (c.1 5 i).toInt ≤ 99) ∧
  ∀ k, k < C → (5 ≤ (c.1 7 k).toInt ∧ (c.1 7 k).toInt ≤ 80) ∧ (0 ≤ (c.1 8 k).toInt ∧ (c.1 8 k).toInt ≤ 50) ∧ 0 ≤ (c.1 9 k).toInt ∧ (c.1 9 k).toInt ≤ 9
def nW (c r : zz_S) : Prop := r.1 79 36 = c.1 20 10 ∧ (-1 ≤ (c.1 20 10).toInt ∧ (c.1 20 10).toInt < 4) ∧ (0 ≤ (c.1 20 10).toInt → lawOK (c.1 (55 + 3 * (c.1 20 10).toInt.toNat) 0) (c.1 (56 + 3 * (c.1 20 10).toInt.toNat)) (r.1 96) (r.1 97) (r.1 98) (r.1 99) (r.1 100) (c.1 20 10).toInt.toNat)
/-- where one lies, where a cover lies -/
def nP (c r : zz_S) (W i : Nat) : Prop := r.1 103 i = c.1 33 i ∧ (0 ≤ (c.1 33 i).toInt ∧ (c.1 33 i).toInt + (c.1 3 i).toInt ≤ W) ∧ c.2 37 i = lN (seg (c.1 33 i).toInt.toNat ((c.1 33 i).toInt.toNat + (c.1 3 i).toInt.toNat))
def nQ (c r : zz_S) (W B k : Nat) : Prop := r.1 104 k = c.1 36 k ∧ (-(B : Int) ≤ (c.1 36 k).toInt ∧ (c.1 36 k).toInt ≤ B) ∧ c.2 38 k = lN (seg (sF W (c.1 36 k).toInt) (sE W (c.1 36 k).toInt (c.1 7 k).toInt))
theorem un_class {c r : zz_S} {S C W B i k : Nat} {i' k' : Int32} (hs : nS c r S C W) (hi : i < S) (hk : k < C) (hi' : i'.toInt = i) (hk' : k'.toInt = k) (hp : nP c r W i) (hq : nQ c r W B k) (hB : B ≤ 1000000000) :
    f_Lie_underOf i' k' c = some (nI (ovl (c.1 33 i).toInt (c.1 3 i).toInt (c.1 36 k).toInt (c.1 7 k).toInt).toNat) := by
  obtain ⟨⟨s1, s2, s3⟩, ⟨s4, s5⟩, ⟨s6, s7⟩, -, -, s8, s9⟩ := hs
  obtain ⟨-, ⟨p1, p2⟩, p3⟩ := hp
  obtain ⟨-, -, q3⟩ := hq
  have b := s8 i hi
  have w := s9 k hk
  unfold f_Lie_underOf
  rw [if_pos (i_in.mpr (by omega)), if_pos (i_in.mpr (by omega)), nz_eq hi', nz_eq hk', p3, q3, under_of (W := W) (by omega) (by omega) (by omega)]
  congr 3
  rw [show (((c.1 33 i).toInt.toNat : Nat) : Int) = (c.1 33 i).toInt by omega, show (((c.1 3 i).toInt.toNat : Nat) : Int) = (c.1 3 i).toInt by omega]
theorem un_ref {c r : zz_S} {S C W B i k : Nat} {i' k' : Int32} (hs : nS c r S C W) (hi : i < S) (hk : k < C) (hi' : i'.toInt = i) (hk' : k'.toInt = k) (hp : nP c r W i) (hq : nQ c r W B k) (hB : B ≤ 1000000000) :
    f_M_under i' k' r = some (nI (ovl (c.1 33 i).toInt (c.1 3 i).toInt (c.1 36 k).toInt (c.1 7 k).toInt).toNat) := by
  obtain ⟨⟨s1, s2, s3⟩, ⟨s4, s5⟩, ⟨s6, s7⟩, -, ⟨r81, -, -, r85, -, -⟩, s8, s9⟩ := hs
  obtain ⟨p0, ⟨p1, p2⟩, -⟩ := hp
  obtain ⟨q0, ⟨q1, q2⟩, -⟩ := hq
  have b := s8 i hi
  have w := s9 k hk
  have z1 : zz_in i' 6 = true := i_in.mpr (by omega)
  have z2 : zz_in k' 3 = true := i_in.mpr (by omega)
  have a1 := i_add (a := c.1 33 i) (b := c.1 3 i) (by omega) (by omega)
  have a2 := i_add (a := c.1 36 k) (b := c.1 7 k) (by omega) (by omega)
  have go : ∀ f : Int32, f.toInt = max (c.1 33 i).toInt (c.1 36 k).toInt → f_M_under_J30 i' k' f r = some (nI (ovl (c.1 33 i).toInt (c.1 3 i).toInt (c.1 36 k).toInt (c.1 7 k).toInt).toNat) := by
    intro f hf
    have fin : ∀ t : Int32, t.toInt = min ((c.1 33 i).toInt + (c.1 3 i).toInt) ((c.1 36 k).toInt + (c.1 7 k).toInt) → f_M_under_J89 f t r = some (nI (ovl (c.1 33 i).toInt (c.1 3 i).toInt (c.1 36 k).toInt (c.1 7 k).toInt).toNat) := by
      intro t ht
      unfold f_M_under_J89 ovl
      by_cases h : t ≤ f
      · rw [if_pos h]
        rw [i_le] at h
        rw [show (max 0 (min ((c.1 33 i).toInt + (c.1 3 i).toInt) ((c.1 36 k).toInt + (c.1 7 k).toInt) - max (c.1 33 i).toInt (c.1 36 k).toInt)).toNat = 0 by omega]
        rfl
      · rw [if_neg h]
        rw [i_le] at h
        congr 1
        refine nIof ?_
        rw [i_sub (by omega) (by omega)]
        omega
    unfold f_M_under_J30
    rw [if_pos z1, if_pos z2, nz_eq hi', nz_eq hk', p0, q0, r81, r85]
    by_cases h : c.1 36 k + c.1 7 k ≤ c.1 33 i + c.1 3 i
    · rw [if_pos h]
      rw [i_le] at h
      exact fin _ (by omega)
    · rw [if_neg h]
      rw [i_le] at h
      exact fin _ (by omega)
  unfold f_M_under
  rw [if_pos z1, if_pos z2, nz_eq hi', nz_eq hk', p0, q0]
  by_cases h : c.1 33 i ≤ c.1 36 k
  · rw [if_pos h]
    rw [i_le] at h
    exact go _ (by omega)
  · rw [if_neg h]
    rw [i_le] at h
    exact go _ (by omega)
/-- what a pull leaves as it was -/
def pull_c (c c2 : zz_S) : Prop := (∀ o, o ≠ 31 → o ≠ 57 → o ≠ 60 → o ≠ 63 → o ≠ 66 → c2.1 o = c.1 o) ∧ c2.2 = c.2
def pull_r (r r2 : zz_S) : Prop := (∀ o, o ≠ 101 → o ≠ 102 → r2.1 o = r.1 o) ∧ r2.2 = r.2
theorem tdiv_le {a b : Int} (ha : 0 ≤ a) (hb : 0 < b) : a.tdiv b = a / b := Int.tdiv_eq_ediv_of_nonneg ha
theorem abs_of (x : Int32) (h : -1000000 ≤ x.toInt) : zz_abs x = f_M_sizeOf x ∧ (f_M_sizeOf x).toInt = (x.toInt.natAbs : Nat) := by
  unfold zz_abs f_M_sizeOf
  by_cases c : (0 : Int32) ≤ x
  · rw [if_pos c, if_pos c]
    rw [i_le, show (0 : Int32).toInt = 0 from rfl] at c
    exact ⟨rfl, by omega⟩
  · rw [if_neg c, if_neg c, Int32.zero_sub]
    rw [i_le, show (0 : Int32).toInt = 0 from rfl] at c
    exact ⟨rfl, by rw [i_neg (by omega)]; omega⟩
