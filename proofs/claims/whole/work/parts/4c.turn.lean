theorem turn_off {s s2 : zz_S} (hf : ∀ o, o < 10 ∨ (14 < o ∧ o < 79) ∨ (79 < o ∧ o < 88) ∨ 90 < o → s2.1 o = s.1 o) (h2 : s2.2 = s.2) (h79 : ∀ k, k ≠ 12 → s2.1 79 k = s.1 79 k) (h : iv s) (ht : iv_turn s2) : iv s2 := by
  obtain ⟨hb, -, hc, hta, hbo, hsh, hla, hre⟩ := h
  have f := fun o h => hf o h
  refine ⟨?_, ht, ?_, ?_, ?_, ?_, ?_, ?_⟩
  · unfold iv_bed at hb ⊢
    rw [h79 1 (by decide), h79 2 (by decide), h79 7 (by decide), f 1 (by omega), f 2 (by omega), f 3 (by omega), f 4 (by omega), f 5 (by omega), f 6 (by omega), f 7 (by omega), f 8 (by omega), f 9 (by omega), f 80 (by omega), f 81 (by omega), f 82 (by omega), f 83 (by omega), f 84 (by omega), f 85 (by omega), f 86 (by omega), f 87 (by omega)]
    exact hb
  · unfold iv_chg at hc ⊢
    rw [h79 16 (by decide), h79 17 (by decide), f 1 (by omega), f 39 (by omega), f 40 (by omega), f 41 (by omega), f 42 (by omega), f 43 (by omega), f 91 (by omega), f 92 (by omega), f 93 (by omega), f 94 (by omega)]
    exact hc
  · unfold iv_tape at hta ⊢
    rw [h79 23 (by decide), f 44 (by omega), f 48 (by omega), f 95 (by omega)]
    exact hta
  · unfold iv_body at hbo ⊢
    rw [h79 55 (by decide), h79 57 (by decide), f 49 (by omega), f 50 (by omega), f 51 (by omega), f 117 (by omega), f 118 (by omega)]
    exact hbo
  · unfold iv_shl at hsh ⊢
    rw [h2, f 49 (by omega), f 67 (by omega), f 69 (by omega), f 71 (by omega), f 73 (by omega), f 75 (by omega), f 77 (by omega), f 119 (by omega), f 120 (by omega)]
    exact hsh
  · unfold iv_law at hla ⊢
    rw [h79 35 (by decide), h79 36 (by decide), h79 37 (by decide), f 0 (by omega), f 16 (by omega), f 17 (by omega), f 18 (by omega), f 55 (by omega), f 56 (by omega), f 58 (by omega), f 59 (by omega), f 61 (by omega), f 62 (by omega), f 64 (by omega), f 65 (by omega), f 96 (by omega), f 97 (by omega), f 98 (by omega), f 99 (by omega), f 100 (by omega)]
    exact hla
  · unfold iv_rest at hre ⊢
    rw [h79 51 (by decide), h79 38 (by decide)]
    exact hre
theorem may_turn (a b d : Int32) : (f_Turns_mayBe a b d = 0 ↔ ¬ tOK a b d) ∧ (f_M_isTurn a b d = 0 ↔ ¬ tOK a b d) := by
  have l0 : (0 : Int32).toInt = 0 := rfl
  have l5 : (5 : Int32).toInt = 5 := rfl
  have l6 : (6 : Int32).toInt = 6 := rfl
  have l20 : (20 : Int32).toInt = 20 := rfl
  have m20 : (-20 : Int32).toInt = -20 := rfl
  have l479 : (479 : Int32).toInt = 479 := rfl
  have l480 : (480 : Int32).toInt = 480 := rfl
  have n10 : ¬ (1 : Int32) = 0 := by decide
  constructor
  · unfold f_Turns_mayBe f_B_isMinute tOK
    simp only [i_lt, i_le, i_eq (a := d), l0, l6, l20, m20, l479, l480]
    repeat' split
    all_goals (try simp only [n10, false_iff, true_iff, not_true_eq_false])
    all_goals (try omega)
    all_goals contradiction
  · unfold f_M_isTurn f_M_isMinute tOK
    simp only [M_in0, i_eq (a := d), l0, l5, l20, m20, l479, l480]
    repeat' split
    all_goals (try simp only [n10, false_iff, true_iff, not_true_eq_false])
    all_goals (try omega)
    all_goals contradiction
theorem p_turn (a b d : Int32) {s : zz_S} (h : iv s) : ag iv (f_B_turn a b d s) (f_M_turn a b d) := by
  have ht := h.2.1
  obtain ⟨m1, m2⟩ := may_turn a b d
  unfold f_B_turn
  by_cases hok : tOK a b d
  · rw [if_neg (fun q => m1.mp q hok)]
    have l60 : (60 : Int32).toInt = 60 := rfl
    by_cases hn : s.1 10 0 < 60
    · rw [if_pos hn]
      rw [i_lt, l60] at hn
      refine lock (s := s) (fun r hr => ?_)
      rw [← hr] at ht
      obtain ⟨c2, r2, g1, g2, g3, g4, g5, g6, g7, g8, g9⟩ := turn_add ht hn hok
      have n12 : ¬ r.1 79 12 = 60 := fun q => by
        have : r.1 79 12 = s.1 10 0 := ht.1
        rw [i_eq, this, l60] at q
        omega
      refine ⟨s.1 10 0, c2, r2, by rw [g1]; rfl, ?_, ?_, fun o ho => ⟨g4 o (by omega), by rw [g5]⟩, fun o ho => ⟨g6 o (by omega), by rw [g8]⟩⟩
      · unfold f_M_turn
        rw [if_neg (fun q => m2.mp q hok), if_neg n12, g2]
        rfl
      · refine turn_off (s := mix s r) (fun o ho => ?_) ?_ (fun k hk => g7 k hk) (by rw [hr]; exact h) g3
        · show (if o < 79 then c2.1 o else r2.1 o) = (if o < 79 then s.1 o else r.1 o)
          by_cases c : o < 79
          · rw [if_pos c, if_pos c, g4 o (by omega)]
          · rw [if_neg c, if_neg c, g6 o (by omega)]
        · refine funext fun o => ?_
          show (if o < 79 then c2.2 o else r2.2 o) = (if o < 79 then s.2 o else r.2 o)
          rw [g5, g8]
    · rw [if_neg hn]
      obtain ⟨t1, -, ⟨-, t6⟩, -⟩ := ht
      refine ⟨_, s, s, rfl, ?_, h⟩
      unfold f_M_turn
      rw [if_neg (fun q => m2.mp q hok), if_pos]
      rw [t1, i_eq, l60]
      rw [i_lt, l60] at hn
      omega
  · rw [if_pos (m1.mpr hok)]
    exact ⟨_, s, s, rfl, by unfold f_M_turn; rw [if_pos (m2.mpr hok)], h⟩
