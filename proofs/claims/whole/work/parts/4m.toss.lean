theorem p_tosses (a b cnt : Int32) {s : zz_S} (h : iv s) : ag iv (f_B_tosses a b cnt s) (f_M_tosses a b cnt) := by
  obtain ⟨l1, l2⟩ := l_shelf a
  have l0 : (0 : Int32).toInt = 0 := rfl
  have l1' : (1 : Int32).toInt = 1 := rfl
  have l20 : (20 : Int32).toInt = 20 := rfl
  have m1 : (-1 : Int32).toInt = -1 := rfl
  have m3 : (-3 : Int32).toInt = -3 := rfl
  have n10 : ¬ (1 : Int32) = 0 := by decide
  unfold f_B_tosses
  by_cases ha : 0 ≤ a.toInt ∧ a.toInt < 6
  · rw [if_neg (fun q => l1.mp q ha)]
    have r1 : ¬ f_M_isShelf a = 0 := fun q => l2.mp q ha
    by_cases hc : 1 ≤ cnt.toInt ∧ cnt.toInt ≤ 20
    · have r2 : ¬ f_M_in cnt 1 20 = 0 := by rw [M_in0, l1', l20]; omega
      have z : zz_in a 6 = true := i_in.mpr (by omega)
      have hk : a.toNatClampNeg = a.toInt.toNat := rfl
      have sh := (shl_at s).mp h.2.2.2.2.2.1 a.toInt.toNat (by omega)
      rw [if_neg (by rw [i_lt, l1']; omega), if_pos (by rw [i_le, l20]; omega), if_pos z, zr52 ha.1 ha.2]
      generalize hi : a.toInt.toNat = i at *
      rcases sh_kind sh with ⟨c1, c2⟩ | ⟨c1, c2, c3, c4, c5⟩ | ⟨c1, c2, c3, c4, c5, c6, c7, c8, c9⟩
      · exact ⟨0, s, s, by rw [c1, if_neg n10], by unfold f_M_tosses f_M_tosses_J43; rw [if_neg r1, if_neg r2, if_pos z, hk, if_pos c2, if_pos z, if_pos c2], h⟩
      · have n3 : ¬ s.1 119 i = -3 := fun q => by rw [q, m3] at c5; omega
        exact ⟨-12, s, s, by rw [c1, if_pos rfl, c3, if_pos rfl], by unfold f_M_tosses; rw [if_neg r1, if_neg r2, if_pos z, hk, if_neg c4, if_neg n3], h⟩
      · rw [c1, if_pos rfl, c3]
        by_cases e : s.1 (67 + 2 * i) 2 = 1
        · have e3 : s.1 119 i = -3 := i_lit (by rw [c6, e]; rfl)
          rw [if_pos e, if_neg n10]
          by_cases hb : 0 ≤ b.toInt
          · rw [if_pos (by rw [i_le, l0]; exact hb)]
            refine lock (s := s) (fun r hr => ?_)
            have q119 : r.1 119 = s.1 119 := congrFun (congrArg Prod.fst hr) 119
            have q120 : r.1 120 = s.1 120 := congrFun (congrArg Prod.fst hr) 120
            have q121 : r.2 121 = s.2 121 := congrFun (congrArg Prod.snd hr) 121
            obtain ⟨v, c2', r2', g1, g2, g3, g4, g5, g6, g7, g8⟩ := toss_loop a b cnt i (by omega) (by omega) hb hc.2 20 zF zF s r b 0 (by unfold zF; omega) (by unfold zF; omega) (by rw [l0]; omega) (by rw [l0]; omega) (by rw [l0]; omega) (by rw [l0]; omega) (by rw [q120]; exact c7) c8 c9 (fun x hx => by rw [q121]; exact sh.1 x hx) (by rw [hr]; exact h.2.1)
            refine ⟨v, c2', r2', ?_, ?_, ?_, fun o ho => ⟨g4 o (by omega), by rw [g5]⟩, fun o ho => ⟨g6 o (by omega), by rw [g8]⟩⟩
            · unfold f_B_tossedFrom
              rw [g1]
              rfl
            · unfold f_M_tosses f_M_tosses_J43
              rw [if_neg r1, if_neg r2, if_pos z, hk, q119, if_neg c4, if_pos e3, if_pos z, if_neg c4]
              exact g2
            · refine turn_off (s := mix s r) (fun o ho => ?_) ?_ (fun k hk => g7 k hk) (by rw [hr]; exact h) g3
              · show (if o < 79 then c2'.1 o else r2'.1 o) = (if o < 79 then s.1 o else r.1 o)
                by_cases c : o < 79
                · rw [if_pos c, if_pos c, g4 o (by omega)]
                · rw [if_neg c, if_neg c, g6 o (by omega)]
              · refine funext fun o => ?_
                show (if o < 79 then c2'.2 o else r2'.2 o) = (if o < 79 then s.2 o else r.2 o)
                rw [g5, g8]
          · rw [if_neg (by rw [i_le, l0]; exact hb)]
            refine ⟨0, s, s, rfl, ?_, h⟩
            have hX : (b.toInt64 + ((3 : Int32) * 0).toInt64).toInt = b.toInt := by
              have h1 := i_lo b
              have h3 : ((3 : Int32) * 0).toInt64.toInt = 0 := rfl
              rw [j_add (by rw [j_of, h3]; omega) (by rw [j_of, h3]; omega), j_of, h3]
              omega
            unfold f_M_tosses f_M_tosses_J43
            rw [if_neg r1, if_neg r2, if_pos z, hk, if_neg c4, if_pos e3, if_pos z, if_neg c4, show zF = 99999 + 1 from rfl, f_M_tosses_L58]
            rw [if_neg (by rw [i_le, l0]; omega), if_pos (by rw [cmp_neg, hX]; show b.toInt < 0; omega)]
        · have n3 : ¬ s.1 119 i = -3 := fun q => e (i_lit (by rw [q, m3] at c6; rw [l1']; omega))
          rw [if_neg e, if_pos rfl]
          exact ⟨-12, s, s, rfl, by unfold f_M_tosses; rw [if_neg r1, if_neg r2, if_pos z, hk, if_neg c4, if_neg n3], h⟩
    · have r2 : f_M_in cnt 1 20 = 0 := by rw [M_in0, l1', l20]; omega
      refine ⟨-1, s, s, ?_, by unfold f_M_tosses; rw [if_neg r1, if_pos r2], h⟩
      by_cases c1 : cnt.toInt < 1
      · rw [if_pos (by rw [i_lt, l1']; exact c1)]
      · rw [if_neg (by rw [i_lt, l1']; exact c1), if_neg (by rw [i_le, l20]; omega)]
  · rw [if_pos (l1.mpr ha)]
    exact ⟨-1, s, s, rfl, by unfold f_M_tosses; rw [if_pos (l2.mpr ha)], h⟩
