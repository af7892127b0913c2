/-! two states as one: the class's cells of one, the reference's of the other; a step of each at a time -/
def mix (c r : zz_S) : zz_S := (fun o => if o < 79 then c.1 o else r.1 o, fun o => if o < 79 then c.2 o else r.2 o)
def cl (s t : zz_S) : Prop := ∀ o, o < 79 → t.1 o = s.1 o ∧ t.2 o = s.2 o
def rf (s t : zz_S) : Prop := ∀ o, 79 ≤ o → t.1 o = s.1 o ∧ t.2 o = s.2 o
theorem mix_rf {s t : zz_S} (h : rf s t) : mix s t = s := by
  refine Prod.ext (funext fun o => ?_) (funext fun o => ?_)
  · show (if o < 79 then s.1 o else t.1 o) = s.1 o
    by_cases c : o < 79
    · rw [if_pos c]
    · rw [if_neg c, (h o (by omega)).1]
  · show (if o < 79 then s.2 o else t.2 o) = s.2 o
    by_cases c : o < 79
    · rw [if_pos c]
    · rw [if_neg c, (h o (by omega)).2]
theorem mix_cl {s t : zz_S} (h : cl s t) : mix s t = t := by
  refine Prod.ext (funext fun o => ?_) (funext fun o => ?_)
  · show (if o < 79 then s.1 o else t.1 o) = t.1 o
    by_cases c : o < 79
    · rw [if_pos c, (h o c).1]
    · rw [if_neg c]
  · show (if o < 79 then s.2 o else t.2 o) = t.2 o
    by_cases c : o < 79
    · rw [if_pos c, (h o c).2]
    · rw [if_neg c]
theorem mix_me (s : zz_S) : mix s s = s := mix_rf fun _ _ => ⟨rfl, rfl⟩
theorem rf_me (s : zz_S) : rf s s := fun _ _ => ⟨rfl, rfl⟩
theorem cl_me (s : zz_S) : cl s s := fun _ _ => ⟨rfl, rfl⟩
theorem rf_tr {s t u : zz_S} (h : rf s t) (k : rf t u) : rf s u := fun o ho => ⟨(k o ho).1.trans (h o ho).1, (k o ho).2.trans (h o ho).2⟩
theorem cl_tr {s t u : zz_S} (h : cl s t) (k : cl t u) : cl s u := fun o ho => ⟨(k o ho).1.trans (h o ho).1, (k o ho).2.trans (h o ho).2⟩
theorem lock {P : zz_S → Prop} {s : zz_S} {f : Option (Int32 × zz_S)} {g : zz_S → Option (Int32 × zz_S)} (h : ∀ r, mix s r = s → ∃ v c2 r2, f = some (v, c2) ∧ g r = some (v, r2) ∧ P (mix c2 r2) ∧ rf s c2 ∧ cl r r2) : ag P f g := by
  obtain ⟨v, c2, r2, h1, -, -, h2, -⟩ := h s (mix_me s)
  obtain ⟨v', c2', r2', k1, k2, k3, k4, k5⟩ := h c2 (mix_rf h2)
  rw [h1] at k1
  obtain ⟨rfl, rfl⟩ := Prod.mk.inj (Option.some.inj k1)
  rw [mix_cl k5] at k3
  exact ⟨v, c2, r2', h1, k2, k3⟩
theorem turn_add {c r : zz_S} (h : iv_turn (mix c r)) (hn : (c.1 10 0).toInt < 60) {a b d : Int32} (hok : tOK a b d) : ∃ c2 r2, f_Turns_add a b d c = some (c.1 10 0, c2) ∧ f_M_addTurn a b d r = some (c.1 10 0, r2) ∧ iv_turn (mix c2 r2) ∧ (∀ o, o < 10 ∨ 14 < o → c2.1 o = c.1 o) ∧ c2.2 = c.2 ∧ (∀ o, o < 79 ∨ (79 < o ∧ o < 88) ∨ 90 < o → r2.1 o = r.1 o) ∧ (∀ k, k ≠ 12 → r2.1 79 k = r.1 79 k) ∧ r2.2 = r.2 ∧ c2.1 10 0 = c.1 10 0 + 1 := by
  obtain ⟨t1, ⟨t2, t3, t4⟩, ⟨t5, t6⟩, t7, t8⟩ := h
  have t1 : r.1 79 12 = c.1 10 0 := t1
  have t2 : r.1 88 = c.1 11 := t2
  have t3 : r.1 89 = c.1 12 := t3
  have t4 : r.1 90 = c.1 13 := t4
  have t5 : 0 ≤ (c.1 10 0).toInt := t5
  have t7 : ∀ k : Nat, (k : Int) < (c.1 10 0).toInt → tOK (c.1 11 k) (c.1 12 k) (c.1 13 k) := t7
  have t8 : byM (c.1 11) (c.1 14) (c.1 10 0).toInt.toNat := t8
  have hinc := i_inc (a := c.1 10 0) (by omega)
  have hk : (c.1 10 0).toNatClampNeg = (c.1 10 0).toInt.toNat := rfl
  generalize hN : (c.1 10 0).toInt.toNat = n at hk t8
  have hNi : (c.1 10 0).toInt = n := by omega
  have z : zz_in (c.1 10 0) 60 = true := i_in.mpr (by omega)
  obtain ⟨s2, p2, g1, g2, g3, g4, g5, g6, g7, g8, g9, g10⟩ := ins_loop a (c.1 14) n (by omega) t8.1 n zF (zz_w (zz_w (zz_w c 11 n a) 12 n b) 13 n d) (c.1 10 0) (Nat.le_refl n) (by unfold zF; omega) hNi hNi (fun k hk => rfl) (fun k h1 h2 => by omega) (fun k h1 h2 => by omega)
  have e11 : s2.1 11 = upd (c.1 11) n a := by rw [g2 11 (by decide) (by decide)]; simp [w_row]
  have e12 : s2.1 12 = upd (c.1 12) n b := by rw [g2 12 (by decide) (by decide)]; simp [w_row]
  have e13 : s2.1 13 = upd (c.1 13) n d := by rw [g2 13 (by decide) (by decide)]; simp [w_row]
  have e10 : s2.1 10 0 = c.1 10 0 + 1 := g4
  have f11 : ∀ k, k < n → (zz_w (zz_w (zz_w c 11 n a) 12 n b) 13 n d).1 11 ((c.1 14 k).toInt.toNat) = c.1 11 ((c.1 14 k).toInt.toNat) := fun k hk => by
    have := t8.1 k hk
    have a1 : ¬ (c.1 14 k).toInt.toNat = n := by omega
    simp only [w_get, show ((11 : Nat) = 13) = False by decide, show ((11 : Nat) = 12) = False by decide, if_false, if_true, a1]
  have hb : byM (s2.1 11) (s2.1 14) (n + 1) := by
    refine byM_ins a t8 g5 (fun k hk => ?_) ?_ g6 (by rw [g7]; exact hNi) g8 (fun k hk => ?_) (fun k h1 h2 => ?_)
    · rw [e11, upd_at, if_neg (by omega)]
    · rw [e11, upd_at, if_pos rfl]
    · rw [← f11 k (by omega)]
      exact g9 k hk
    · rw [← f11 k (by omega)]
      exact g10 k h1 h2
  refine ⟨s2, zz_w (zz_w (zz_w (zz_w r 88 n a) 89 n b) 90 n d) 79 12 (c.1 10 0 + 1), ?_, ?_, ?_, ?_, g3, ?_, ?_, rfl, e10⟩
  · unfold f_Turns_add
    rw [if_pos z, hk]
    exact g1
  · unfold f_M_addTurn
    rw [t1, if_pos z, hk, i_incdec]
  · refine ⟨?_, ⟨?_, ?_, ?_⟩, ⟨?_, ?_⟩, fun k hk => ?_, ?_⟩
    · show (zz_w (zz_w (zz_w (zz_w r 88 n a) 89 n b) 90 n d) 79 12 (c.1 10 0 + 1)).1 79 12 = s2.1 10 0
      rw [e10]
      simp [w_get]
    · show (zz_w (zz_w (zz_w (zz_w r 88 n a) 89 n b) 90 n d) 79 12 (c.1 10 0 + 1)).1 88 = s2.1 11
      rw [e11]
      simp [w_row, t2]
    · show (zz_w (zz_w (zz_w (zz_w r 88 n a) 89 n b) 90 n d) 79 12 (c.1 10 0 + 1)).1 89 = s2.1 12
      rw [e12]
      simp [w_row, t3]
    · show (zz_w (zz_w (zz_w (zz_w r 88 n a) 89 n b) 90 n d) 79 12 (c.1 10 0 + 1)).1 90 = s2.1 13
      rw [e13]
      simp [w_row, t4]
    · show 0 ≤ (s2.1 10 0).toInt
      rw [e10, hinc]
      omega
    · show (s2.1 10 0).toInt ≤ 60
      rw [e10, hinc]
      omega
    · have hk : (k : Int) < (s2.1 10 0).toInt := hk
      show tOK (s2.1 11 k) (s2.1 12 k) (s2.1 13 k)
      rw [e10, hinc] at hk
      rw [e11, e12, e13]
      simp only [upd_at]
      by_cases c1 : k = n
      · simp only [if_pos c1]
        exact hok
      · simp only [if_neg c1]
        exact t7 k (by omega)
    · show byM (s2.1 11) (s2.1 14) (s2.1 10 0).toInt.toNat
      rw [e10, hinc, hNi]
      exact hb
  · intro o ho
    rw [g2 o (by omega) (by omega)]
    have a1 : ¬ o = 11 := by omega
    have a2 : ¬ o = 12 := by omega
    have a3 : ¬ o = 13 := by omega
    simp [w_row, a1, a2, a3]
  · intro o ho
    have a1 : ¬ o = 79 := by omega
    have a2 : ¬ o = 88 := by omega
    have a3 : ¬ o = 89 := by omega
    have a4 : ¬ o = 90 := by omega
    simp [w_row, a1, a2, a3, a4]
  · intro k hk
    simp [w_get, hk]
