/-! the calls of a night -/
/-- the night as it is told, to a minute -/
theorem playTo_of {s r : zz_S} {S C W T last : Nat} {last' : Int32} (hb : nB s r S C W T) (hl : nL s r (s.1 0 12)) (hp : plOK s r 2 S W) (hr : r.1 79 38 = 0 ∧ r.1 79 51 = -1 ∧ r.1 79 36 = s.1 0 12) (hla : last'.toInt = last) (hla2 : last ≤ 479) :
    ∃ c2 r2, f_B_playTo last' s = some c2 ∧ f_M_night last' r = some r2 ∧ nM c2 r2 S C W T (last + 1) ∧ oF s r c2 r2 := by
  obtain ⟨c1, e1, ⟨e2, e3⟩, e4⟩ := night_of (v := 0) (o := -1) hb hl hp hr.2.2 ⟨hr.1, by decide, by decide⟩ ⟨hr.2.1, by decide, by decide⟩ hla hla2
  obtain ⟨c2, r2, k1, k2, k3, k4⟩ := e4 c1 (fun _ _ => rfl) (fun _ _ _ => rfl) e2 e3 rfl
  refine ⟨c2, r2, ?_, k2, k3, k4⟩
  unfold f_B_playTo
  rw [e1, Option.bind_some, k1]
  rfl
theorem has_c {s : zz_S} {C : Nat} (h : (s.1 1 2).toInt = C) (a : Int32) : f_Bed_hasCover a s = 0 ↔ ¬ (0 ≤ a.toInt ∧ a.toInt < C) := by
  unfold f_Bed_hasCover
  by_cases q : a < 0
  · rw [if_pos q]; rw [i_lt, show (0 : Int32).toInt = 0 from rfl] at q; simp; omega
  · rw [if_neg q]
    rw [i_lt, show (0 : Int32).toInt = 0 from rfl] at q
    by_cases q2 : s.1 1 2 ≤ a
    · rw [if_pos q2]; rw [i_le] at q2; simp; omega
    · rw [if_neg q2]; rw [i_le] at q2; simp; omega
theorem has_s {s : zz_S} {S : Nat} (h : (s.1 1 1).toInt = S) (a : Int32) : f_Bed_hasSleeper a s = 0 ↔ ¬ (0 ≤ a.toInt ∧ a.toInt < S) := by
  unfold f_Bed_hasSleeper
  by_cases q : a < 0
  · rw [if_pos q]; rw [i_lt, show (0 : Int32).toInt = 0 from rfl] at q; simp; omega
  · rw [if_neg q]
    rw [i_lt, show (0 : Int32).toInt = 0 from rfl] at q
    by_cases q2 : s.1 1 1 ≤ a
    · rw [if_pos q2]; rw [i_le] at q2; simp; omega
    · rw [if_neg q2]; rw [i_le] at q2; simp; omega
theorem his_c {r : zz_S} {C : Nat} (h : (r.1 79 7).toInt = C) (a : Int32) : f_M_isCover a r = 0 ↔ ¬ (0 ≤ a.toInt ∧ a.toInt < C) := by
  unfold f_M_isCover
  rw [M_in0, i_dec (by omega), h, show (0 : Int32).toInt = 0 from rfl]
  omega
theorem his_s {r : zz_S} {S : Nat} (h : (r.1 79 2).toInt = S) (a : Int32) : f_M_isSleeper a r = 0 ↔ ¬ (0 ≤ a.toInt ∧ a.toInt < S) := by
  unfold f_M_isSleeper
  rw [M_in0, i_dec (by omega), h, show (0 : Int32).toInt = 0 from rfl]
  omega
theorem is_m (a : Int32) : (f_B_isMinute a = 0 ↔ ¬ (0 ≤ a.toInt ∧ a.toInt ≤ 479)) ∧ (f_M_isMinute a = 0 ↔ ¬ (0 ≤ a.toInt ∧ a.toInt ≤ 479)) := by
  have l0 : (0 : Int32).toInt = 0 := rfl
  have l479 : (479 : Int32).toInt = 479 := rfl
  constructor
  · unfold f_B_isMinute
    by_cases q : a < 0
    · rw [if_pos q]; rw [i_lt, l0] at q; simp; omega
    · rw [if_neg q]
      rw [i_lt, l0] at q
      by_cases q2 : (479 : Int32) < a
      · rw [if_pos q2]; rw [i_lt, l479] at q2; simp; omega
      · rw [if_neg q2]; rw [i_lt, l479] at q2; simp; omega
  · unfold f_M_isMinute
    rw [M_in0, l0, l479]
theorem p_lies (a m : Int32) {s : zz_S} (h : iv s) : ag iv (f_B_lies a m s) (f_M_lies a m) := by
  refine lock (s := s) fun r hr => ?_
  obtain ⟨S, C, W, T, hb, hS, hC, hp, hL, ⟨h38, h51, h36, h35⟩, ⟨i1, i2, i3⟩⟩ := iv_nB h hr
  have hCr : (r.1 79 7).toInt = C := by rw [hb.1.2.2.2.1.2.2]; exact hC
  unfold f_B_lies f_M_lies
  by_cases c1 : 0 ≤ a.toInt ∧ a.toInt < C
  · rw [if_neg (fun q => (has_c hC a).mp q c1), if_neg (fun q => (his_c hCr a).mp q c1)]
    by_cases c2 : 0 ≤ m.toInt ∧ m.toInt ≤ 479
    · rw [if_neg (fun q => (is_m m).1.mp q c2), if_neg (fun q => (is_m m).2.mp q c2)]
      obtain ⟨x2, r2, k1, k2, k3, k4⟩ := playTo_of (last := m.toInt.toNat) hb (hL _ i1 i2) hp ⟨h38, h51, h36⟩ (show m.toInt = (m.toInt.toNat : Nat) by omega) (by omega)
      obtain ⟨g1, g2, g3⟩ := oF_iv h hr k4
      have hC3 := hb.1.2.2.1.2
      have z : zz_in a 3 = true := i_in.mpr (by omega)
      have e := (k3.2.2.2.2.1.2.1 a.toInt.toNat (by omega)).1
      rw [k1, k2, Option.bind_some, Option.bind_some, if_pos z, if_pos z]
      exact ⟨_, x2, r2, rfl, by rw [show a.toNatClampNeg = a.toInt.toNat from rfl, e], g1, g2, g3⟩
    · rw [if_pos ((is_m m).1.mpr c2), if_pos ((is_m m).2.mpr c2)]
      exact ⟨_, s, r, rfl, rfl, by rw [hr]; exact h, rf_me s, cl_me r⟩
  · rw [if_pos ((has_c hC a).mpr c1), if_pos ((his_c hCr a).mpr c1)]
    exact ⟨_, s, r, rfl, rfl, by rw [hr]; exact h, rf_me s, cl_me r⟩
