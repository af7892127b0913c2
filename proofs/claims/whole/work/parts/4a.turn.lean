/-! the turns: one put in among the others -/
theorem byM_ins {mi mi2 o o2 : Nat → Int32} {n p : Nat} (m : Int32) (h : byM mi o n) (hp : p ≤ n) (hm : ∀ k, k < n → mi2 k = mi k) (hmn : mi2 n = m) (l : ∀ k, k < p → o2 k = o k) (e : (o2 p).toInt = n) (g : ∀ k, p ≤ k → k < n → o2 (k + 1) = o k) (hle : ∀ k, k + 1 = p → (mi (o k).toInt.toNat).toInt ≤ m.toInt) (hgt : ∀ k, p ≤ k → k < n → m.toInt < (mi (o k).toInt.toNat).toInt) : byM mi2 o2 (n + 1) := by
  obtain ⟨h1, h2, h3⟩ := h
  have cls : ∀ k, k < n + 1 → (k < p ∧ o2 k = o k) ∨ (k = p ∧ (o2 k).toInt = n) ∨ ∃ j, k = j + 1 ∧ p ≤ j ∧ j < n ∧ o2 k = o j := by
    intro k hk
    by_cases c1 : k < p
    · exact Or.inl ⟨c1, l k c1⟩
    · by_cases c2 : k = p
      · exact Or.inr (Or.inl ⟨c2, by rw [c2]; exact e⟩)
      · obtain ⟨j, rfl⟩ : ∃ j, k = j + 1 := ⟨k - 1, by omega⟩
        exact Or.inr (Or.inr ⟨j, rfl, by omega, by omega, g j (by omega) (by omega)⟩)
  have old : ∀ k, k < n → (mi2 (o k).toInt.toNat) = mi (o k).toInt.toNat := fun k hk => hm _ (by have := h1 k hk; omega)
  refine ⟨fun k hk => ?_, fun j hj => ?_, fun a b hab hb => ?_⟩
  · rcases cls k hk with ⟨c, q⟩ | ⟨c, q⟩ | ⟨j, -, -, c, q⟩
    · rw [q]; have := h1 k (by omega); omega
    · omega
    · rw [q]; have := h1 j c; omega
  · by_cases c : j = n
    · exact ⟨p, by omega, by rw [e, c]⟩
    · obtain ⟨k, k1, k2⟩ := h2 j (by omega)
      by_cases c1 : k < p
      · exact ⟨k, by omega, by rw [l k c1]; exact k2⟩
      · exact ⟨k + 1, by omega, by rw [g k (by omega) k1]; exact k2⟩
  · have new : ∀ k, (o2 k).toInt = n → mi2 (o2 k).toInt.toNat = m := fun k q => by rw [q]; exact hmn
    rcases cls a (by omega) with ⟨c, q⟩ | ⟨c, q⟩ | ⟨j, c0, c1, c, q⟩
    · rcases cls b hb with ⟨d, r⟩ | ⟨d, r⟩ | ⟨i, d0, d1, d, r⟩
      · rw [q, r, old a (by omega), old b (by omega)]
        exact h3 a b hab (by omega)
      · rw [new b r, q, old a (by omega)]
        have t := hle (p - 1) (by omega)
        have u := h1 a (by omega)
        by_cases w : a = p - 1
        · rw [← w] at t; omega
        · have v := h3 a (p - 1) (by omega) (by omega); omega
      · rw [q, r, old a (by omega), old i d]
        exact h3 a i (by omega) d
    · rcases cls b hb with ⟨d, r⟩ | ⟨d, r⟩ | ⟨i, d0, d1, d, r⟩
      · omega
      · omega
      · rw [new a q, r, old i d]
        exact Or.inl (hgt i d1 d)
    · rcases cls b hb with ⟨d, r⟩ | ⟨d, r⟩ | ⟨i, d0, d1, d, r⟩
      · omega
      · omega
      · rw [q, r, old j c, old i d]
        exact h3 j i (by omega) d
theorem ins_loop (m : Int32) (o : Nat → Int32) (n : Nat) (hn : n < 60) (ho : ∀ k, k < n → 0 ≤ (o k).toInt ∧ (o k).toInt < n) : ∀ (p fuel : Nat) (s : zz_S) (v4 : Int32), p ≤ n → p < fuel → v4.toInt = p → (s.1 10 0).toInt = n → (∀ k, k < p → s.1 14 k = o k) → (∀ k, p ≤ k → k < n → s.1 14 (k + 1) = o k) → (∀ k, p ≤ k → k < n → m.toInt < (s.1 11 (o k).toInt.toNat).toInt) →
    ∃ (s2 : zz_S) (p2 : Nat), f_Turns_add_L36 fuel m v4 s = some (s.1 10 0, s2) ∧ (∀ c, c ≠ 10 → c ≠ 14 → s2.1 c = s.1 c) ∧ s2.2 = s.2 ∧ s2.1 10 0 = s.1 10 0 + 1 ∧ p2 ≤ n ∧ (∀ k, k < p2 → s2.1 14 k = o k) ∧ s2.1 14 p2 = s.1 10 0 ∧ (∀ k, p2 ≤ k → k < n → s2.1 14 (k + 1) = o k) ∧ (∀ k, k + 1 = p2 → (s.1 11 (o k).toInt.toNat).toInt ≤ m.toInt) ∧ (∀ k, p2 ≤ k → k < n → m.toInt < (s.1 11 (o k).toInt.toNat).toInt) := by
  have stop : ∀ (p : Nat) (s : zz_S) (v4 : Int32), p ≤ n → v4.toInt = p → (s.1 10 0).toInt = n → (∀ k, k < p → s.1 14 k = o k) → (∀ k, p ≤ k → k < n → s.1 14 (k + 1) = o k) → ∃ (s2 : zz_S), f_Turns_add_J81 v4 s = some (s.1 10 0, s2) ∧ (∀ c, c ≠ 10 → c ≠ 14 → s2.1 c = s.1 c) ∧ s2.2 = s.2 ∧ s2.1 10 0 = s.1 10 0 + 1 ∧ (∀ k, k < p → s2.1 14 k = o k) ∧ s2.1 14 p = s.1 10 0 ∧ (∀ k, p ≤ k → k < n → s2.1 14 (k + 1) = o k) := by
    intro p s v4 hp hv hs h1 h2
    have hk : v4.toNatClampNeg = p := by show v4.toInt.toNat = p; omega
    unfold f_Turns_add_J81
    rw [if_pos (i_in.mpr (by omega)), i_incdec, hk]
    refine ⟨_, rfl, fun c c1 c2 => by simp [w_row, c1, c2], rfl, by simp [w_get], fun k hk => ?_, by simp [w_get], fun k k1 k2 => ?_⟩
    · have a1 : ¬ k = p := by omega
      simp [w_get, a1, h1 k hk]
    · have a1 : ¬ k + 1 = p := by omega
      simp [w_get, a1, h2 k k1 k2]
  intro p
  induction p with
  | zero =>
    intro fuel s v4 hp hf hv hs h1 h2 h3
    obtain ⟨f, rfl⟩ : ∃ f, fuel = f + 1 := ⟨fuel - 1, by omega⟩
    obtain ⟨s2, g1, g2, g3, g4, g5, g6, g7⟩ := stop 0 s v4 hp hv hs h1 h2
    refine ⟨s2, 0, ?_, g2, g3, g4, by omega, g5, g6, g7, fun k hk => by omega, h3⟩
    unfold f_Turns_add_L36
    rw [if_pos (by rw [i_le]; show v4.toInt ≤ 0; omega)]
    exact g1
  | succ p ih =>
    intro fuel s v4 hp hf hv hs h1 h2 h3
    obtain ⟨f, rfl⟩ : ∃ f, fuel = f + 1 := ⟨fuel - 1, by omega⟩
    have hd := i_dec (a := v4) (by omega)
    have hk : (v4 - 1).toNatClampNeg = p := by show (v4 - 1).toInt.toNat = p; omega
    have ho2 := ho p (by omega)
    have hkk : (o p).toNatClampNeg = (o p).toInt.toNat := rfl
    unfold f_Turns_add_L36
    rw [if_neg (by rw [i_le]; show ¬ v4.toInt ≤ 0; omega), if_pos (i_in.mpr (by omega)), hk, h1 p (by omega), if_pos (i_in.mpr (by omega)), hkk]
    by_cases c : (s.1 11 (o p).toInt.toNat).toInt ≤ m.toInt
    · rw [if_pos (by rw [i_le]; exact c)]
      obtain ⟨s2, g1, g2, g3, g4, g5, g6, g7⟩ := stop (p + 1) s v4 hp hv hs h1 h2
      refine ⟨s2, p + 1, g1, g2, g3, g4, hp, g5, g6, g7, fun k hk => ?_, h3⟩
      have : k = p := by omega
      rw [this]
      exact c
    · rw [if_neg (by rw [i_le]; exact c), if_pos (i_in.mpr (by omega))]
      have hv4 : v4.toNatClampNeg = p + 1 := by show v4.toInt.toNat = p + 1; omega
      have hstep : (v4 + -1).toInt = p := by
        rw [i_add (by rw [show (-1 : Int32).toInt = -1 from rfl]; omega) (by rw [show (-1 : Int32).toInt = -1 from rfl]; omega), show (-1 : Int32).toInt = -1 from rfl]
        omega
      rw [hv4]
      clear hd hk hkk
      generalize hw : v4 + -1 = w at hstep ⊢
      have e10 : (zz_w s 14 (p + 1) (o p)).1 10 0 = s.1 10 0 := by simp [w_get]
      have e11 : (zz_w s 14 (p + 1) (o p)).1 11 = s.1 11 := by simp [w_row]
      obtain ⟨s2, p2, g1, g2, g3, g4, g5, g6, g7, g8, g9, g10⟩ := ih f (zz_w s 14 (p + 1) (o p)) w (by omega) (by omega) hstep (by rw [e10]; exact hs) (fun k hk => by
        have a1 : ¬ k = p + 1 := by omega
        simp [w_get, a1, h1 k (by omega)]) (fun k k1 k2 => by
        by_cases a1 : k = p
        · simp [w_get, a1]
        · simp [w_get, a1, h2 k (by omega) k2]) (fun k k1 k2 => by
        rw [e11]
        by_cases a1 : k = p
        · rw [a1]
          exact Int.not_le.mp c
        · exact h3 k (by omega) k2)
      rw [e10] at g1 g4 g7
      rw [e11] at g9 g10
      exact ⟨s2, p2, g1, fun c c1 c2 => by rw [g2 c c1 c2]; simp [w_row, c2], g3, g4, g5, g6, g7, g8, g9, g10⟩
