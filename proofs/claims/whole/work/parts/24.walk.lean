theorem d_B_clear_0 : decode prog_1_method_16_code 0 = .ok (.aload_n 0, 1) := by decide +kernel
theorem d_B_clear_1 : decode prog_1_method_16_code 1 = .ok (.getfield 19, 3) := by decide +kernel
theorem d_B_clear_4 : decode prog_1_method_16_code 4 = .ok (.getfield 165, 3) := by decide +kernel
theorem d_B_clear_7 : decode prog_1_method_16_code 7 = .ok (.istore_n 1, 1) := by decide +kernel
theorem d_B_clear_8 : decode prog_1_method_16_code 8 = .ok (.aload_n 0, 1) := by decide +kernel
theorem d_B_clear_9 : decode prog_1_method_16_code 9 = .ok (.getfield 19, 3) := by decide +kernel
theorem d_B_clear_12 : decode prog_1_method_16_code 12 = .ok (.iconst 0, 1) := by decide +kernel
theorem d_B_clear_13 : decode prog_1_method_16_code 13 = .ok (.putfield 165, 3) := by decide +kernel
theorem d_B_clear_16 : decode prog_1_method_16_code 16 = .ok (.iload_n 1, 1) := by decide +kernel
theorem d_B_clear_17 : decode prog_1_method_16_code 17 = .ok (.ireturn, 1) := by decide +kernel
set_option maxHeartbeats 4000000 in
set_option maxRecDepth 100000 in
theorem zf_B_clear {G : zz_G} {l : Launch} {Z : zz_Z} {q : Int32 × zz_S} {s : zz_S} (C : zz_Cx G l "OneBlanket" "clear" prog_1_method_16_code 2 (some .int) 2 (some (.int q.1), zsh, q.2) Z) (h : f_B_clear s = some q) : Z 0 [some (.ref 0), none] [] zsh s := by
  unfold f_B_clear at h
  refine zz_aload_n (i := 0) (pc := 0) C rfl rfl d_B_clear_0 ?_
  refine zz_getR (pc := 1) C zl_11_19 zsh_0 rfl d_B_clear_1 ?_
  refine zz_getI (pc := 4) C zl_11_165 zsh_10 rfl d_B_clear_4 ?_
  refine zz_istore_n (i := 1) (lo' := [some (.ref 0), some (.int (s.1 10 0))]) (pc := 7) C rfl (Nat.le_of_ble_eq_true rfl) rfl rfl d_B_clear_7 ?_
  refine zz_aload_n (i := 0) (pc := 8) C rfl rfl d_B_clear_8 ?_
  refine zz_getR (pc := 9) C zl_11_19 zsh_0 rfl d_B_clear_9 ?_
  refine zz_iconst (pc := 12) C zki_0 d_B_clear_12 ?_
  refine zz_putI' (pc := 13) C zl_11_165 zpf_10_0 zsh_10 rfl d_B_clear_13 ?_
  refine zz_iload_n (i := 1) (pc := 16) C rfl rfl d_B_clear_16 ?_
  replace h := Option.some.inj h
  subst h
  exact zz_ret (pc := 17) C (v := some (.int (s.1 10 0))) d_B_clear_17 (Or.inl ⟨_, _, rfl, rfl, rfl, rfl⟩) rfl
theorem zm_B_clear {G : zz_G} {l : Launch} {s : zz_S} {q : Int32 × zz_S} (h : f_B_clear s = some q) : zz_M G l 2 y_B_clear prog_1_method_16_code 2 (some .int) [.ref 0] zsh s (some (.int q.1), zsh, q.2) :=
  zz_M.intro (by decide) (Nat.le_of_ble_eq_true rfl) (Nat.le_refl _) (Nat.le_refl _) (fun Z C => zf_B_clear C h)
theorem d_B_count_0 : decode prog_1_method_47_code 0 = .ok (.iload_n 1, 1) := by decide +kernel
theorem d_B_count_1 : decode prog_1_method_47_code 1 = .ok (.tableswitch (108) (0) (7) #[47, 55, 63, 71, 76, 84, 92, 100], 47) := by decide +kernel
theorem d_B_count_48 : decode prog_1_method_47_code 48 = .ok (.aload_n 0, 1) := by decide +kernel
theorem d_B_count_49 : decode prog_1_method_47_code 49 = .ok (.getfield 12, 3) := by decide +kernel
theorem d_B_count_52 : decode prog_1_method_47_code 52 = .ok (.getfield 85, 3) := by decide +kernel
theorem d_B_count_55 : decode prog_1_method_47_code 55 = .ok (.ireturn, 1) := by decide +kernel
theorem d_B_count_56 : decode prog_1_method_47_code 56 = .ok (.aload_n 0, 1) := by decide +kernel
theorem d_B_count_57 : decode prog_1_method_47_code 57 = .ok (.getfield 12, 3) := by decide +kernel
theorem d_B_count_60 : decode prog_1_method_47_code 60 = .ok (.getfield 95, 3) := by decide +kernel
theorem d_B_count_63 : decode prog_1_method_47_code 63 = .ok (.ireturn, 1) := by decide +kernel
theorem d_B_count_64 : decode prog_1_method_47_code 64 = .ok (.aload_n 0, 1) := by decide +kernel
theorem d_B_count_65 : decode prog_1_method_47_code 65 = .ok (.getfield 19, 3) := by decide +kernel
theorem d_B_count_68 : decode prog_1_method_47_code 68 = .ok (.getfield 165, 3) := by decide +kernel
theorem d_B_count_71 : decode prog_1_method_47_code 71 = .ok (.ireturn, 1) := by decide +kernel
theorem d_B_count_72 : decode prog_1_method_47_code 72 = .ok (.aload_n 0, 1) := by decide +kernel
theorem d_B_count_73 : decode prog_1_method_47_code 73 = .ok (.getfield 143, 3) := by decide +kernel
theorem d_B_count_76 : decode prog_1_method_47_code 76 = .ok (.ireturn, 1) := by decide +kernel
theorem d_B_count_77 : decode prog_1_method_47_code 77 = .ok (.aload_n 0, 1) := by decide +kernel
theorem d_B_count_78 : decode prog_1_method_47_code 78 = .ok (.getfield 55, 3) := by decide +kernel
theorem d_B_count_81 : decode prog_1_method_47_code 81 = .ok (.getfield 137, 3) := by decide +kernel
theorem d_B_count_84 : decode prog_1_method_47_code 84 = .ok (.ireturn, 1) := by decide +kernel
theorem d_B_count_85 : decode prog_1_method_47_code 85 = .ok (.aload_n 0, 1) := by decide +kernel
theorem d_B_count_86 : decode prog_1_method_47_code 86 = .ok (.getfield 48, 3) := by decide +kernel
theorem d_B_count_89 : decode prog_1_method_47_code 89 = .ok (.getfield 305, 3) := by decide +kernel
theorem d_B_count_92 : decode prog_1_method_47_code 92 = .ok (.ireturn, 1) := by decide +kernel
theorem d_B_count_93 : decode prog_1_method_47_code 93 = .ok (.aload_n 0, 1) := by decide +kernel
theorem d_B_count_94 : decode prog_1_method_47_code 94 = .ok (.getfield 62, 3) := by decide +kernel
theorem d_B_count_97 : decode prog_1_method_47_code 97 = .ok (.getfield 321, 3) := by decide +kernel
theorem d_B_count_100 : decode prog_1_method_47_code 100 = .ok (.ireturn, 1) := by decide +kernel
theorem d_B_count_101 : decode prog_1_method_47_code 101 = .ok (.aload_n 0, 1) := by decide +kernel
theorem d_B_count_102 : decode prog_1_method_47_code 102 = .ok (.getfield 62, 3) := by decide +kernel
theorem d_B_count_105 : decode prog_1_method_47_code 105 = .ok (.getfield 327, 3) := by decide +kernel
theorem d_B_count_108 : decode prog_1_method_47_code 108 = .ok (.ireturn, 1) := by decide +kernel
theorem d_B_count_109 : decode prog_1_method_47_code 109 = .ok (.iconst (-1), 1) := by decide +kernel
theorem d_B_count_110 : decode prog_1_method_47_code 110 = .ok (.ireturn, 1) := by decide +kernel
set_option maxHeartbeats 4000000 in
set_option maxRecDepth 100000 in
theorem zf_B_count {G : zz_G} {l : Launch} {Z : zz_Z} {q : Int32} {s : zz_S} (C : zz_Cx G l "OneBlanket" "count" prog_1_method_47_code 2 (some .int) 2 (some (.int q), zsh, s) Z) (a1 : Int32) (h : f_B_count a1 s = q) : Z 0 [some (.ref 0), some (.int a1)] [] zsh s := by
  unfold f_B_count at h
  refine zz_iload_n (i := 1) (pc := 0) C rfl rfl d_B_count_0 ?_
  by_cases hc1 : a1 = (0 : Int32)
  · rw [if_pos hc1] at h
    refine zz_tableIn (tgt := 48) (off := 47) (pc := 1) C (by rw [hc1]; decide) (by rw [hc1]; decide) (by rw [hc1]; decide) (by decide) d_B_count_1 ?_
    refine zz_aload_n (i := 0) (pc := 48) C rfl rfl d_B_count_48 ?_
    refine zz_getR (pc := 49) C zl_11_12 zsh_0 rfl d_B_count_49 ?_
    refine zz_getI (pc := 52) C zl_11_85 zsh_1 rfl d_B_count_52 ?_
    subst h
    exact zz_ret (pc := 55) C (v := some (.int (s.1 1 1))) d_B_count_55 (Or.inl ⟨_, _, rfl, rfl, rfl, rfl⟩) rfl
  · rw [if_neg hc1] at h
    by_cases hc2 : a1 = (1 : Int32)
    · rw [if_pos hc2] at h
      refine zz_tableIn (tgt := 56) (off := 55) (pc := 1) C (by rw [hc2]; decide) (by rw [hc2]; decide) (by rw [hc2]; decide) (by decide) d_B_count_1 ?_
      refine zz_aload_n (i := 0) (pc := 56) C rfl rfl d_B_count_56 ?_
      refine zz_getR (pc := 57) C zl_11_12 zsh_0 rfl d_B_count_57 ?_
      refine zz_getI (pc := 60) C zl_11_95 zsh_1 rfl d_B_count_60 ?_
      subst h
      exact zz_ret (pc := 63) C (v := some (.int (s.1 1 2))) d_B_count_63 (Or.inl ⟨_, _, rfl, rfl, rfl, rfl⟩) rfl
    · rw [if_neg hc2] at h
      by_cases hc3 : a1 = (2 : Int32)
      · rw [if_pos hc3] at h
        refine zz_tableIn (tgt := 64) (off := 63) (pc := 1) C (by rw [hc3]; decide) (by rw [hc3]; decide) (by rw [hc3]; decide) (by decide) d_B_count_1 ?_
        refine zz_aload_n (i := 0) (pc := 64) C rfl rfl d_B_count_64 ?_
        refine zz_getR (pc := 65) C zl_11_19 zsh_0 rfl d_B_count_65 ?_
        refine zz_getI (pc := 68) C zl_11_165 zsh_10 rfl d_B_count_68 ?_
        subst h
        exact zz_ret (pc := 71) C (v := some (.int (s.1 10 0))) d_B_count_71 (Or.inl ⟨_, _, rfl, rfl, rfl, rfl⟩) rfl
      · rw [if_neg hc3] at h
        by_cases hc4 : a1 = (3 : Int32)
        · rw [if_pos hc4] at h
          refine zz_tableIn (tgt := 72) (off := 71) (pc := 1) C (by rw [hc4]; decide) (by rw [hc4]; decide) (by rw [hc4]; decide) (by decide) d_B_count_1 ?_
          refine zz_aload_n (i := 0) (pc := 72) C rfl rfl d_B_count_72 ?_
          refine zz_getI (pc := 73) C zl_11_143 zsh_0 rfl d_B_count_73 ?_
          subst h
          exact zz_ret (pc := 76) C (v := some (.int (s.1 0 11))) d_B_count_76 (Or.inl ⟨_, _, rfl, rfl, rfl, rfl⟩) rfl
        · rw [if_neg hc4] at h
          by_cases hc5 : a1 = (4 : Int32)
          · rw [if_pos hc5] at h
            refine zz_tableIn (tgt := 77) (off := 76) (pc := 1) C (by rw [hc5]; decide) (by rw [hc5]; decide) (by rw [hc5]; decide) (by decide) d_B_count_1 ?_
            refine zz_aload_n (i := 0) (pc := 77) C rfl rfl d_B_count_77 ?_
            refine zz_getR (pc := 78) C zl_11_55 zsh_0 rfl d_B_count_78 ?_
            refine zz_getI (pc := 81) C zl_11_137 zsh_44 rfl d_B_count_81 ?_
            subst h
            exact zz_ret (pc := 84) C (v := some (.int (s.1 44 0))) d_B_count_84 (Or.inl ⟨_, _, rfl, rfl, rfl, rfl⟩) rfl
          · rw [if_neg hc5] at h
            by_cases hc6 : a1 = (5 : Int32)
            · rw [if_pos hc6] at h
              refine zz_tableIn (tgt := 85) (off := 84) (pc := 1) C (by rw [hc6]; decide) (by rw [hc6]; decide) (by rw [hc6]; decide) (by decide) d_B_count_1 ?_
              refine zz_aload_n (i := 0) (pc := 85) C rfl rfl d_B_count_85 ?_
              refine zz_getR (pc := 86) C zl_11_48 zsh_0 rfl d_B_count_86 ?_
              refine zz_getI (pc := 89) C zl_11_305 zsh_39 rfl d_B_count_89 ?_
              subst h
              exact zz_ret (pc := 92) C (v := some (.int (s.1 39 0))) d_B_count_92 (Or.inl ⟨_, _, rfl, rfl, rfl, rfl⟩) rfl
            · rw [if_neg hc6] at h
              by_cases hc7 : a1 = (6 : Int32)
              · rw [if_pos hc7] at h
                refine zz_tableIn (tgt := 93) (off := 92) (pc := 1) C (by rw [hc7]; decide) (by rw [hc7]; decide) (by rw [hc7]; decide) (by decide) d_B_count_1 ?_
                refine zz_aload_n (i := 0) (pc := 93) C rfl rfl d_B_count_93 ?_
                refine zz_getR (pc := 94) C zl_11_62 zsh_0 rfl d_B_count_94 ?_
                refine zz_getI (pc := 97) C zl_11_321 zsh_49 rfl d_B_count_97 ?_
                subst h
                exact zz_ret (pc := 100) C (v := some (.int (s.1 49 0))) d_B_count_100 (Or.inl ⟨_, _, rfl, rfl, rfl, rfl⟩) rfl
              · rw [if_neg hc7] at h
                by_cases hc8 : a1 = (7 : Int32)
                · rw [if_pos hc8] at h
                  refine zz_tableIn (tgt := 101) (off := 100) (pc := 1) C (by rw [hc8]; decide) (by rw [hc8]; decide) (by rw [hc8]; decide) (by decide) d_B_count_1 ?_
                  refine zz_aload_n (i := 0) (pc := 101) C rfl rfl d_B_count_101 ?_
                  refine zz_getR (pc := 102) C zl_11_62 zsh_0 rfl d_B_count_102 ?_
                  refine zz_getI (pc := 105) C zl_11_327 zsh_49 rfl d_B_count_105 ?_
                  subst h
                  exact zz_ret (pc := 108) C (v := some (.int (s.1 49 1))) d_B_count_108 (Or.inl ⟨_, _, rfl, rfl, rfl, rfl⟩) rfl
                · rw [if_neg hc8] at h
                  have hc1i : a1.toInt ≠ 0 := fun e => hc1 (Int32.toInt_inj.mp e)
                  have hc2i : a1.toInt ≠ 1 := fun e => hc2 (Int32.toInt_inj.mp e)
                  have hc3i : a1.toInt ≠ 2 := fun e => hc3 (Int32.toInt_inj.mp e)
                  have hc4i : a1.toInt ≠ 3 := fun e => hc4 (Int32.toInt_inj.mp e)
                  have hc5i : a1.toInt ≠ 4 := fun e => hc5 (Int32.toInt_inj.mp e)
                  have hc6i : a1.toInt ≠ 5 := fun e => hc6 (Int32.toInt_inj.mp e)
                  have hc7i : a1.toInt ≠ 6 := fun e => hc7 (Int32.toInt_inj.mp e)
                  have hc8i : a1.toInt ≠ 7 := fun e => hc8 (Int32.toInt_inj.mp e)
                  refine zz_tableOut (tgt := 109) (pc := 1) C (by omega) (by decide) d_B_count_1 ?_
                  refine zz_iconst (pc := 109) C zki_m1 d_B_count_109 ?_
                  subst h
                  exact zz_ret (pc := 110) C (v := some (.int (-1 : Int32))) d_B_count_110 (Or.inl ⟨_, _, rfl, rfl, rfl, rfl⟩) rfl
theorem zm_B_count {G : zz_G} {l : Launch} {s : zz_S} {q : Int32} {a1 : Int32} (h : f_B_count a1 s = q) : zz_M G l 2 y_B_count prog_1_method_47_code 2 (some .int) [.ref 0, .int a1] zsh s (some (.int q), zsh, s) :=
  zz_M.intro (by decide) (Nat.le_of_ble_eq_true rfl) (Nat.le_refl _) (Nat.le_refl _) (fun Z C => zf_B_count C a1 h)
theorem d_B_cover_0 : decode prog_1_method_4_code 0 = .ok (.iload_n 1, 1) := by decide +kernel
theorem d_B_cover_1 : decode prog_1_method_4_code 1 = .ok (.bipush (-40), 2) := by decide +kernel
theorem d_B_cover_3 : decode prog_1_method_4_code 3 = .ok (.if_icmp .lt (23), 3) := by decide +kernel
theorem d_B_cover_6 : decode prog_1_method_4_code 6 = .ok (.iload_n 1, 1) := by decide +kernel
theorem d_B_cover_7 : decode prog_1_method_4_code 7 = .ok (.bipush (60), 2) := by decide +kernel
theorem d_B_cover_9 : decode prog_1_method_4_code 9 = .ok (.if_icmp .gt (17), 3) := by decide +kernel
theorem d_B_cover_12 : decode prog_1_method_4_code 12 = .ok (.iload_n 2, 1) := by decide +kernel
theorem d_B_cover_13 : decode prog_1_method_4_code 13 = .ok (.ifCond .lt (13), 3) := by decide +kernel
theorem d_B_cover_16 : decode prog_1_method_4_code 16 = .ok (.iload_n 3, 1) := by decide +kernel
theorem d_B_cover_17 : decode prog_1_method_4_code 17 = .ok (.ifCond .lt (9), 3) := by decide +kernel
theorem d_B_cover_20 : decode prog_1_method_4_code 20 = .ok (.iload_n 3, 1) := by decide +kernel
theorem d_B_cover_21 : decode prog_1_method_4_code 21 = .ok (.bipush (9), 2) := by decide +kernel
theorem d_B_cover_23 : decode prog_1_method_4_code 23 = .ok (.if_icmp .le (5), 3) := by decide +kernel
theorem d_B_cover_26 : decode prog_1_method_4_code 26 = .ok (.iconst (-1), 1) := by decide +kernel
theorem d_B_cover_27 : decode prog_1_method_4_code 27 = .ok (.ireturn, 1) := by decide +kernel
theorem d_B_cover_28 : decode prog_1_method_4_code 28 = .ok (.iload_n 2, 1) := by decide +kernel
theorem d_B_cover_29 : decode prog_1_method_4_code 29 = .ok (.bipush (100), 2) := by decide +kernel
theorem d_B_cover_31 : decode prog_1_method_4_code 31 = .ok (.idiv, 1) := by decide +kernel
theorem d_B_cover_32 : decode prog_1_method_4_code 32 = .ok (.istore 4, 2) := by decide +kernel
theorem d_B_cover_34 : decode prog_1_method_4_code 34 = .ok (.iload_n 2, 1) := by decide +kernel
theorem d_B_cover_35 : decode prog_1_method_4_code 35 = .ok (.bipush (100), 2) := by decide +kernel
theorem d_B_cover_37 : decode prog_1_method_4_code 37 = .ok (.irem, 1) := by decide +kernel
theorem d_B_cover_38 : decode prog_1_method_4_code 38 = .ok (.istore 5, 2) := by decide +kernel
theorem d_B_cover_40 : decode prog_1_method_4_code 40 = .ok (.iload 4, 2) := by decide +kernel
theorem d_B_cover_42 : decode prog_1_method_4_code 42 = .ok (.iconst 5, 1) := by decide +kernel
theorem d_B_cover_43 : decode prog_1_method_4_code 43 = .ok (.if_icmp .lt (17), 3) := by decide +kernel
theorem d_B_cover_46 : decode prog_1_method_4_code 46 = .ok (.iload 4, 2) := by decide +kernel
theorem d_B_cover_48 : decode prog_1_method_4_code 48 = .ok (.bipush (80), 2) := by decide +kernel
theorem d_B_cover_50 : decode prog_1_method_4_code 50 = .ok (.if_icmp .gt (10), 3) := by decide +kernel
theorem d_B_cover_53 : decode prog_1_method_4_code 53 = .ok (.iload 5, 2) := by decide +kernel
theorem d_B_cover_55 : decode prog_1_method_4_code 55 = .ok (.bipush (50), 2) := by decide +kernel
theorem d_B_cover_57 : decode prog_1_method_4_code 57 = .ok (.if_icmp .le (5), 3) := by decide +kernel
theorem d_B_cover_60 : decode prog_1_method_4_code 60 = .ok (.iconst (-1), 1) := by decide +kernel
theorem d_B_cover_61 : decode prog_1_method_4_code 61 = .ok (.ireturn, 1) := by decide +kernel
theorem d_B_cover_62 : decode prog_1_method_4_code 62 = .ok (.aload_n 0, 1) := by decide +kernel
theorem d_B_cover_63 : decode prog_1_method_4_code 63 = .ok (.getfield 12, 3) := by decide +kernel
theorem d_B_cover_66 : decode prog_1_method_4_code 66 = .ok (.getfield 95, 3) := by decide +kernel
theorem d_B_cover_69 : decode prog_1_method_4_code 69 = .ok (.iconst 3, 1) := by decide +kernel
theorem d_B_cover_70 : decode prog_1_method_4_code 70 = .ok (.if_icmp .lt (6), 3) := by decide +kernel
theorem d_B_cover_73 : decode prog_1_method_4_code 73 = .ok (.bipush (-3), 2) := by decide +kernel
theorem d_B_cover_75 : decode prog_1_method_4_code 75 = .ok (.ireturn, 1) := by decide +kernel
theorem d_B_cover_76 : decode prog_1_method_4_code 76 = .ok (.aload_n 0, 1) := by decide +kernel
theorem d_B_cover_77 : decode prog_1_method_4_code 77 = .ok (.getfield 12, 3) := by decide +kernel
theorem d_B_cover_80 : decode prog_1_method_4_code 80 = .ok (.iload_n 1, 1) := by decide +kernel
theorem d_B_cover_81 : decode prog_1_method_4_code 81 = .ok (.iload 4, 2) := by decide +kernel
theorem d_B_cover_83 : decode prog_1_method_4_code 83 = .ok (.iload 5, 2) := by decide +kernel
theorem d_B_cover_85 : decode prog_1_method_4_code 85 = .ok (.iload_n 3, 1) := by decide +kernel
theorem d_B_cover_86 : decode prog_1_method_4_code 86 = .ok (.invokevirtual 98, 3) := by decide +kernel
theorem d_B_cover_89 : decode prog_1_method_4_code 89 = .ok (.ireturn, 1) := by decide +kernel
set_option maxHeartbeats 4000000 in
set_option maxRecDepth 100000 in
theorem zf_B_cover {G : zz_G} {l : Launch} {Z : zz_Z} {q : Int32 × zz_S} {s : zz_S} (C : zz_Cx G l "OneBlanket" "cover" prog_1_method_4_code 6 (some .int) 3 (some (.int q.1), zsh, q.2) Z) (a1 : Int32) (a2 : Int32) (a3 : Int32) (h : f_B_cover a1 a2 a3 s = some q) : Z 0 [some (.ref 0), some (.int a1), some (.int a2), some (.int a3), none, none] [] zsh s := by
  unfold f_B_cover at h
  refine zz_iload_n (i := 1) (pc := 0) C rfl rfl d_B_cover_0 ?_
  refine zz_bipush (pc := 1) C zkb_m40 d_B_cover_1 ?_
  refine zz_icmp_lt (tgt := 26) (pc := 3) C (by decide) d_B_cover_3 (fun hc1 => ?_) (fun hc1 => ?_)
  · rw [if_pos hc1] at h
    refine zz_iconst (pc := 26) C zki_m1 d_B_cover_26 ?_
    replace h := Option.some.inj h
    subst h
    exact zz_ret (pc := 27) C (v := some (.int (-1 : Int32))) d_B_cover_27 (Or.inl ⟨_, _, rfl, rfl, rfl, rfl⟩) rfl
  · rw [if_neg hc1] at h
    refine zz_iload_n (i := 1) (pc := 6) C rfl rfl d_B_cover_6 ?_
    refine zz_bipush (pc := 7) C zkb_60 d_B_cover_7 ?_
    refine zz_icmp_gt (tgt := 26) (pc := 9) C (by decide) d_B_cover_9 (fun hc2 => ?_) (fun hc2 => ?_)
    · rw [if_pos hc2] at h
      refine zz_iconst (pc := 26) C zki_m1 d_B_cover_26 ?_
      replace h := Option.some.inj h
      subst h
      exact zz_ret (pc := 27) C (v := some (.int (-1 : Int32))) d_B_cover_27 (Or.inl ⟨_, _, rfl, rfl, rfl, rfl⟩) rfl
    · rw [if_neg hc2] at h
      refine zz_iload_n (i := 2) (pc := 12) C rfl rfl d_B_cover_12 ?_
      refine zz_if_lt (tgt := 26) (pc := 13) C (by decide) d_B_cover_13 (fun hc3 => ?_) (fun hc3 => ?_)
      · rw [if_pos hc3] at h
        refine zz_iconst (pc := 26) C zki_m1 d_B_cover_26 ?_
        replace h := Option.some.inj h
        subst h
        exact zz_ret (pc := 27) C (v := some (.int (-1 : Int32))) d_B_cover_27 (Or.inl ⟨_, _, rfl, rfl, rfl, rfl⟩) rfl
      · rw [if_neg hc3] at h
        refine zz_iload_n (i := 3) (pc := 16) C rfl rfl d_B_cover_16 ?_
        refine zz_if_lt (tgt := 26) (pc := 17) C (by decide) d_B_cover_17 (fun hc4 => ?_) (fun hc4 => ?_)
        · rw [if_pos hc4] at h
          refine zz_iconst (pc := 26) C zki_m1 d_B_cover_26 ?_
          replace h := Option.some.inj h
          subst h
          exact zz_ret (pc := 27) C (v := some (.int (-1 : Int32))) d_B_cover_27 (Or.inl ⟨_, _, rfl, rfl, rfl, rfl⟩) rfl
        · rw [if_neg hc4] at h
          refine zz_iload_n (i := 3) (pc := 20) C rfl rfl d_B_cover_20 ?_
          refine zz_bipush (pc := 21) C zkb_9 d_B_cover_21 ?_
          refine zz_icmp_le (tgt := 28) (pc := 23) C (by decide) d_B_cover_23 (fun hc5 => ?_) (fun hc5 => ?_)
          · rw [if_pos hc5] at h
            refine zz_iload_n (i := 2) (pc := 28) C rfl rfl d_B_cover_28 ?_
            refine zz_bipush (pc := 29) C zkb_100 d_B_cover_29 ?_
            refine zz_idiv (pc := 31) C (by decide) d_B_cover_31 ?_
            refine zz_istore (i := 4) (lo' := [some (.ref 0), some (.int a1), some (.int a2), some (.int a3), some (.int (a2 / (100 : Int32))), none]) (pc := 32) C (Nat.le_of_ble_eq_true rfl) rfl rfl d_B_cover_32 ?_
            refine zz_iload_n (i := 2) (pc := 34) C rfl rfl d_B_cover_34 ?_
            refine zz_bipush (pc := 35) C zkb_100 d_B_cover_35 ?_
            refine zz_irem (pc := 37) C (by decide) d_B_cover_37 ?_
            refine zz_istore (i := 5) (lo' := [some (.ref 0), some (.int a1), some (.int a2), some (.int a3), some (.int (a2 / (100 : Int32))), some (.int (a2 % (100 : Int32)))]) (pc := 38) C (Nat.le_of_ble_eq_true rfl) rfl rfl d_B_cover_38 ?_
            refine zz_iload (i := 4) (pc := 40) C rfl d_B_cover_40 ?_
            refine zz_iconst (pc := 42) C zki_5 d_B_cover_42 ?_
            refine zz_icmp_lt (tgt := 60) (pc := 43) C (by decide) d_B_cover_43 (fun hc6 => ?_) (fun hc6 => ?_)
            · rw [if_pos hc6] at h
              refine zz_iconst (pc := 60) C zki_m1 d_B_cover_60 ?_
              replace h := Option.some.inj h
              subst h
              exact zz_ret (pc := 61) C (v := some (.int (-1 : Int32))) d_B_cover_61 (Or.inl ⟨_, _, rfl, rfl, rfl, rfl⟩) rfl
            · rw [if_neg hc6] at h
              refine zz_iload (i := 4) (pc := 46) C rfl d_B_cover_46 ?_
              refine zz_bipush (pc := 48) C zkb_80 d_B_cover_48 ?_
              refine zz_icmp_gt (tgt := 60) (pc := 50) C (by decide) d_B_cover_50 (fun hc7 => ?_) (fun hc7 => ?_)
              · rw [if_pos hc7] at h
                refine zz_iconst (pc := 60) C zki_m1 d_B_cover_60 ?_
                replace h := Option.some.inj h
                subst h
                exact zz_ret (pc := 61) C (v := some (.int (-1 : Int32))) d_B_cover_61 (Or.inl ⟨_, _, rfl, rfl, rfl, rfl⟩) rfl
              · rw [if_neg hc7] at h
                refine zz_iload (i := 5) (pc := 53) C rfl d_B_cover_53 ?_
                refine zz_bipush (pc := 55) C zkb_50 d_B_cover_55 ?_
                refine zz_icmp_le (tgt := 62) (pc := 57) C (by decide) d_B_cover_57 (fun hc8 => ?_) (fun hc8 => ?_)
                · rw [if_pos hc8] at h
                  refine zz_aload_n (i := 0) (pc := 62) C rfl rfl d_B_cover_62 ?_
                  refine zz_getR (pc := 63) C zl_11_12 zsh_0 rfl d_B_cover_63 ?_
                  refine zz_getI (pc := 66) C zl_11_95 zsh_1 rfl d_B_cover_66 ?_
                  refine zz_iconst (pc := 69) C zki_3 d_B_cover_69 ?_
                  refine zz_icmp_lt (tgt := 76) (pc := 70) C (by decide) d_B_cover_70 (fun hc9 => ?_) (fun hc9 => ?_)
                  · rw [if_pos hc9] at h
                    refine zz_aload_n (i := 0) (pc := 76) C rfl rfl d_B_cover_76 ?_
                    refine zz_getR (pc := 77) C zl_11_12 zsh_0 rfl d_B_cover_77 ?_
                    refine zz_iload_n (i := 1) (pc := 80) C rfl rfl d_B_cover_80 ?_
                    refine zz_iload (i := 4) (pc := 81) C rfl d_B_cover_81 ?_
                    refine zz_iload (i := 5) (pc := 83) C rfl d_B_cover_83 ?_
                    refine zz_iload_n (i := 3) (pc := 85) C rfl rfl d_B_cover_85 ?_
                    obtain ⟨q10, hq10, h⟩ := zz_bdE h
                    refine zz_cVi (as := [.int a1, .int (a2 / (100 : Int32)), .int (a2 % (100 : Int32)), .int a3]) (st := []) (pc := 86) C (zm_Bed_addCover hq10) zcv_Bed_addCover zsh_1 zl_11_98 (by omega) (Nat.le_of_ble_eq_true rfl) d_B_cover_86 rfl rfl ?_
                    replace h := Option.some.inj h
                    subst h
                    exact zz_ret (pc := 89) C (v := some (.int q10.1)) d_B_cover_89 (Or.inl ⟨_, _, rfl, rfl, rfl, rfl⟩) rfl
                  · rw [if_neg hc9] at h
                    refine zz_bipush (pc := 73) C zkb_m3 d_B_cover_73 ?_
                    replace h := Option.some.inj h
                    subst h
                    exact zz_ret (pc := 75) C (v := some (.int (-3 : Int32))) d_B_cover_75 (Or.inl ⟨_, _, rfl, rfl, rfl, rfl⟩) rfl
                · rw [if_neg hc8] at h
                  refine zz_iconst (pc := 60) C zki_m1 d_B_cover_60 ?_
                  replace h := Option.some.inj h
                  subst h
                  exact zz_ret (pc := 61) C (v := some (.int (-1 : Int32))) d_B_cover_61 (Or.inl ⟨_, _, rfl, rfl, rfl, rfl⟩) rfl
          · rw [if_neg hc5] at h
            refine zz_iconst (pc := 26) C zki_m1 d_B_cover_26 ?_
            replace h := Option.some.inj h
            subst h
            exact zz_ret (pc := 27) C (v := some (.int (-1 : Int32))) d_B_cover_27 (Or.inl ⟨_, _, rfl, rfl, rfl, rfl⟩) rfl
theorem zm_B_cover {G : zz_G} {l : Launch} {s : zz_S} {q : Int32 × zz_S} {a1 : Int32} {a2 : Int32} {a3 : Int32} (h : f_B_cover a1 a2 a3 s = some q) : zz_M G l 3 y_B_cover prog_1_method_4_code 6 (some .int) [.ref 0, .int a1, .int a2, .int a3] zsh s (some (.int q.1), zsh, q.2) :=
  zz_M.intro (by decide) (Nat.le_of_ble_eq_true rfl) (Nat.le_refl _) (Nat.le_refl _) (fun Z C => zf_B_cover C a1 a2 a3 h)
theorem d_B_drawn_0 : decode prog_1_method_31_code 0 = .ok (.iload_n 2, 1) := by decide +kernel
theorem d_B_drawn_1 : decode prog_1_method_31_code 1 = .ok (.sipush (1000), 3) := by decide +kernel
theorem d_B_drawn_4 : decode prog_1_method_31_code 4 = .ok (.idiv, 1) := by decide +kernel
theorem d_B_drawn_5 : decode prog_1_method_31_code 5 = .ok (.istore 5, 2) := by decide +kernel
theorem d_B_drawn_7 : decode prog_1_method_31_code 7 = .ok (.iload_n 2, 1) := by decide +kernel
theorem d_B_drawn_8 : decode prog_1_method_31_code 8 = .ok (.sipush (1000), 3) := by decide +kernel
theorem d_B_drawn_11 : decode prog_1_method_31_code 11 = .ok (.irem, 1) := by decide +kernel
theorem d_B_drawn_12 : decode prog_1_method_31_code 12 = .ok (.istore 6, 2) := by decide +kernel
theorem d_B_drawn_14 : decode prog_1_method_31_code 14 = .ok (.iload_n 2, 1) := by decide +kernel
theorem d_B_drawn_15 : decode prog_1_method_31_code 15 = .ok (.ifCond .lt (34), 3) := by decide +kernel
theorem d_B_drawn_18 : decode prog_1_method_31_code 18 = .ok (.iload 5, 2) := by decide +kernel
theorem d_B_drawn_20 : decode prog_1_method_31_code 20 = .ok (.iconst 1, 1) := by decide +kernel
theorem d_B_drawn_21 : decode prog_1_method_31_code 21 = .ok (.if_icmp .lt (28), 3) := by decide +kernel
theorem d_B_drawn_24 : decode prog_1_method_31_code 24 = .ok (.iload 5, 2) := by decide +kernel
theorem d_B_drawn_26 : decode prog_1_method_31_code 26 = .ok (.bipush (20), 2) := by decide +kernel
theorem d_B_drawn_28 : decode prog_1_method_31_code 28 = .ok (.if_icmp .gt (21), 3) := by decide +kernel
theorem d_B_drawn_31 : decode prog_1_method_31_code 31 = .ok (.iload 6, 2) := by decide +kernel
theorem d_B_drawn_33 : decode prog_1_method_31_code 33 = .ok (.bipush (100), 2) := by decide +kernel
theorem d_B_drawn_35 : decode prog_1_method_31_code 35 = .ok (.if_icmp .gt (14), 3) := by decide +kernel
theorem d_B_drawn_38 : decode prog_1_method_31_code 38 = .ok (.iload 4, 2) := by decide +kernel
theorem d_B_drawn_40 : decode prog_1_method_31_code 40 = .ok (.ifCond .lt (9), 3) := by decide +kernel
theorem d_B_drawn_43 : decode prog_1_method_31_code 43 = .ok (.iload 4, 2) := by decide +kernel
theorem d_B_drawn_45 : decode prog_1_method_31_code 45 = .ok (.iconst 1, 1) := by decide +kernel
theorem d_B_drawn_46 : decode prog_1_method_31_code 46 = .ok (.if_icmp .le (6), 3) := by decide +kernel
theorem d_B_drawn_49 : decode prog_1_method_31_code 49 = .ok (.ldc 127, 2) := by decide +kernel
theorem d_B_drawn_51 : decode prog_1_method_31_code 51 = .ok (.ireturn, 1) := by decide +kernel
theorem d_B_drawn_52 : decode prog_1_method_31_code 52 = .ok (.iload 4, 2) := by decide +kernel
theorem d_B_drawn_54 : decode prog_1_method_31_code 54 = .ok (.ifCond .ne (14), 3) := by decide +kernel
theorem d_B_drawn_57 : decode prog_1_method_31_code 57 = .ok (.aload_n 0, 1) := by decide +kernel
theorem d_B_drawn_58 : decode prog_1_method_31_code 58 = .ok (.getfield 12, 3) := by decide +kernel
theorem d_B_drawn_61 : decode prog_1_method_31_code 61 = .ok (.iload_n 3, 1) := by decide +kernel
theorem d_B_drawn_62 : decode prog_1_method_31_code 62 = .ok (.invokevirtual 101, 3) := by decide +kernel
theorem d_B_drawn_65 : decode prog_1_method_31_code 65 = .ok (.goto (11), 3) := by decide +kernel
theorem d_B_drawn_68 : decode prog_1_method_31_code 68 = .ok (.aload_n 0, 1) := by decide +kernel
theorem d_B_drawn_69 : decode prog_1_method_31_code 69 = .ok (.getfield 12, 3) := by decide +kernel
theorem d_B_drawn_72 : decode prog_1_method_31_code 72 = .ok (.iload_n 3, 1) := by decide +kernel
theorem d_B_drawn_73 : decode prog_1_method_31_code 73 = .ok (.invokevirtual 105, 3) := by decide +kernel
theorem d_B_drawn_76 : decode prog_1_method_31_code 76 = .ok (.istore 7, 2) := by decide +kernel
theorem d_B_drawn_78 : decode prog_1_method_31_code 78 = .ok (.iload 7, 2) := by decide +kernel
theorem d_B_drawn_80 : decode prog_1_method_31_code 80 = .ok (.ifCond .ne (6), 3) := by decide +kernel
theorem d_B_drawn_83 : decode prog_1_method_31_code 83 = .ok (.ldc 127, 2) := by decide +kernel
theorem d_B_drawn_85 : decode prog_1_method_31_code 85 = .ok (.ireturn, 1) := by decide +kernel
theorem d_B_drawn_86 : decode prog_1_method_31_code 86 = .ok (.iconst 0, 1) := by decide +kernel
theorem d_B_drawn_87 : decode prog_1_method_31_code 87 = .ok (.istore 8, 2) := by decide +kernel
theorem d_B_drawn_89 : decode prog_1_method_31_code 89 = .ok (.iload_n 1, 1) := by decide +kernel
theorem d_B_drawn_90 : decode prog_1_method_31_code 90 = .ok (.istore 9, 2) := by decide +kernel
theorem d_B_drawn_92 : decode prog_1_method_31_code 92 = .ok (.iconst 0, 1) := by decide +kernel
theorem d_B_drawn_93 : decode prog_1_method_31_code 93 = .ok (.istore 10, 2) := by decide +kernel
theorem d_B_drawn_95 : decode prog_1_method_31_code 95 = .ok (.iload 10, 2) := by decide +kernel
theorem d_B_drawn_97 : decode prog_1_method_31_code 97 = .ok (.iload 5, 2) := by decide +kernel
theorem d_B_drawn_99 : decode prog_1_method_31_code 99 = .ok (.if_icmp .ge (94), 3) := by decide +kernel
theorem d_B_drawn_102 : decode prog_1_method_31_code 102 = .ok (.aload_n 0, 1) := by decide +kernel
theorem d_B_drawn_103 : decode prog_1_method_31_code 103 = .ok (.getfield 41, 3) := by decide +kernel
theorem d_B_drawn_106 : decode prog_1_method_31_code 106 = .ok (.aload_n 0, 1) := by decide +kernel
theorem d_B_drawn_107 : decode prog_1_method_31_code 107 = .ok (.getfield 79, 3) := by decide +kernel
theorem d_B_drawn_110 : decode prog_1_method_31_code 110 = .ok (.aload_n 0, 1) := by decide +kernel
theorem d_B_drawn_111 : decode prog_1_method_31_code 111 = .ok (.getfield 12, 3) := by decide +kernel
theorem d_B_drawn_114 : decode prog_1_method_31_code 114 = .ok (.getfield 244, 3) := by decide +kernel
theorem d_B_drawn_117 : decode prog_1_method_31_code 117 = .ok (.invokevirtual 245, 3) := by decide +kernel
theorem d_B_drawn_120 : decode prog_1_method_31_code 120 = .ok (.aload_n 0, 1) := by decide +kernel
theorem d_B_drawn_121 : decode prog_1_method_31_code 121 = .ok (.getfield 41, 3) := by decide +kernel
theorem d_B_drawn_124 : decode prog_1_method_31_code 124 = .ok (.iload 9, 2) := by decide +kernel
theorem d_B_drawn_126 : decode prog_1_method_31_code 126 = .ok (.iload 6, 2) := by decide +kernel
theorem d_B_drawn_128 : decode prog_1_method_31_code 128 = .ok (.invokevirtual 284, 3) := by decide +kernel
theorem d_B_drawn_131 : decode prog_1_method_31_code 131 = .ok (.aload_n 0, 1) := by decide +kernel
theorem d_B_drawn_132 : decode prog_1_method_31_code 132 = .ok (.getfield 41, 3) := by decide +kernel
theorem d_B_drawn_135 : decode prog_1_method_31_code 135 = .ok (.sipush (479), 3) := by decide +kernel
theorem d_B_drawn_138 : decode prog_1_method_31_code 138 = .ok (.invokevirtual 249, 3) := by decide +kernel
theorem d_B_drawn_141 : decode prog_1_method_31_code 141 = .ok (.aload_n 0, 1) := by decide +kernel
theorem d_B_drawn_142 : decode prog_1_method_31_code 142 = .ok (.getfield 41, 3) := by decide +kernel
theorem d_B_drawn_145 : decode prog_1_method_31_code 145 = .ok (.getfield 287, 3) := by decide +kernel
theorem d_B_drawn_148 : decode prog_1_method_31_code 148 = .ok (.istore 9, 2) := by decide +kernel
theorem d_B_drawn_150 : decode prog_1_method_31_code 150 = .ok (.iload 8, 2) := by decide +kernel
theorem d_B_drawn_152 : decode prog_1_method_31_code 152 = .ok (.iload 4, 2) := by decide +kernel
theorem d_B_drawn_154 : decode prog_1_method_31_code 154 = .ok (.ifCond .ne (18), 3) := by decide +kernel
theorem d_B_drawn_157 : decode prog_1_method_31_code 157 = .ok (.aload_n 0, 1) := by decide +kernel
theorem d_B_drawn_158 : decode prog_1_method_31_code 158 = .ok (.getfield 41, 3) := by decide +kernel
theorem d_B_drawn_161 : decode prog_1_method_31_code 161 = .ok (.getfield 220, 3) := by decide +kernel
theorem d_B_drawn_164 : decode prog_1_method_31_code 164 = .ok (.getfield 224, 3) := by decide +kernel
theorem d_B_drawn_167 : decode prog_1_method_31_code 167 = .ok (.iload_n 3, 1) := by decide +kernel
theorem d_B_drawn_168 : decode prog_1_method_31_code 168 = .ok (.iaload, 1) := by decide +kernel
theorem d_B_drawn_169 : decode prog_1_method_31_code 169 = .ok (.goto (15), 3) := by decide +kernel
theorem d_B_drawn_172 : decode prog_1_method_31_code 172 = .ok (.aload_n 0, 1) := by decide +kernel
theorem d_B_drawn_173 : decode prog_1_method_31_code 173 = .ok (.getfield 41, 3) := by decide +kernel
theorem d_B_drawn_176 : decode prog_1_method_31_code 176 = .ok (.getfield 198, 3) := by decide +kernel
theorem d_B_drawn_179 : decode prog_1_method_31_code 179 = .ok (.getfield 202, 3) := by decide +kernel
theorem d_B_drawn_182 : decode prog_1_method_31_code 182 = .ok (.iload_n 3, 1) := by decide +kernel
theorem d_B_drawn_183 : decode prog_1_method_31_code 183 = .ok (.iaload, 1) := by decide +kernel
theorem d_B_drawn_184 : decode prog_1_method_31_code 184 = .ok (.iadd, 1) := by decide +kernel
theorem d_B_drawn_185 : decode prog_1_method_31_code 185 = .ok (.istore 8, 2) := by decide +kernel
theorem d_B_drawn_187 : decode prog_1_method_31_code 187 = .ok (.iinc 10 (1), 3) := by decide +kernel
theorem d_B_drawn_190 : decode prog_1_method_31_code 190 = .ok (.goto (-95), 3) := by decide +kernel
theorem d_B_drawn_193 : decode prog_1_method_31_code 193 = .ok (.iload 8, 2) := by decide +kernel
theorem d_B_drawn_195 : decode prog_1_method_31_code 195 = .ok (.iload 5, 2) := by decide +kernel
theorem d_B_drawn_197 : decode prog_1_method_31_code 197 = .ok (.idiv, 1) := by decide +kernel
theorem d_B_drawn_198 : decode prog_1_method_31_code 198 = .ok (.ireturn, 1) := by decide +kernel
set_option maxHeartbeats 4000000 in
set_option maxRecDepth 100000 in
theorem zf_B_drawn_J184 {G : zz_G} {l : Launch} {Z : zz_Z} {q : Int32 × zz_S} {s : zz_S} (C : zz_Cx G l "OneBlanket" "drawn" prog_1_method_31_code 11 (some .int) 8 (some (.int q.1), zsh, q.2) Z) (K95 : Int32 → Int32 → Int32 → Int32 → Int32 → Int32 → Int32 → zz_S → Option (Int32 × zz_S)) (hK95 : ∀ (v3 : Int32) (v4 : Int32) (v5 : Int32) (v6 : Int32) (v8 : Int32) (v9 : Int32) (v10 : Int32) (s : zz_S), K95 v3 v4 v5 v6 v8 v9 v10 s = some q → Z 95 [some (.ref 0), none, none, some (.int v3), some (.int v4), some (.int v5), some (.int v6), none, some (.int v8), some (.int v9), some (.int v10)] [] zsh s) (v3 : Int32) (v4 : Int32) (v5 : Int32) (v6 : Int32) (v9 : Int32) (v10 : Int32) (t0 : Int32) (t1 : Int32) (h : f_B_drawn_J184 K95 v3 v4 v5 v6 v9 v10 t0 t1 s = some q) : Z 184 [some (.ref 0), none, none, some (.int v3), some (.int v4), some (.int v5), some (.int v6), none, none, some (.int v9), some (.int v10)] [.int t1, .int t0] zsh s := by
  unfold f_B_drawn_J184 at h
  refine zz_iadd (pc := 184) C d_B_drawn_184 ?_
  refine zz_istore (i := 8) (lo' := [some (.ref 0), none, none, some (.int v3), some (.int v4), some (.int v5), some (.int v6), none, some (.int (t0 + t1)), some (.int v9), some (.int v10)]) (pc := 185) C (Nat.le_of_ble_eq_true rfl) rfl rfl d_B_drawn_185 ?_
  refine zz_iinc (lo' := [some (.ref 0), none, none, some (.int v3), some (.int v4), some (.int v5), some (.int v6), none, some (.int (t0 + t1)), some (.int v9), some (.int (v10 + (1 : Int32)))]) (pc := 187) C rfl (zz_inc zki_1) rfl rfl d_B_drawn_187 ?_
  refine zz_goto (tgt := 95) (pc := 190) C (by decide) d_B_drawn_190 ?_
  exact hK95 v3 v4 v5 v6 (t0 + t1) v9 (v10 + (1 : Int32)) s h
set_option maxHeartbeats 4000000 in
set_option maxRecDepth 100000 in
theorem zf_B_drawn_L95 {G : zz_G} {l : Launch} {Z : zz_Z} {q : Int32 × zz_S} (C : zz_Cx G l "OneBlanket" "drawn" prog_1_method_31_code 11 (some .int) 8 (some (.int q.1), zsh, q.2) Z) : ∀ (n : Nat) (v3 : Int32) (v4 : Int32) (v5 : Int32) (v6 : Int32) (v8 : Int32) (v9 : Int32) (v10 : Int32) (s : zz_S), f_B_drawn_L95 n v3 v4 v5 v6 v8 v9 v10 s = some q → Z 95 [some (.ref 0), none, none, some (.int v3), some (.int v4), some (.int v5), some (.int v6), none, some (.int v8), some (.int v9), some (.int v10)] [] zsh s := by
  intro n
  induction n with
  | zero => intro v3 v4 v5 v6 v8 v9 v10 s h; rw [f_B_drawn_L95] at h; cases h
  | succ n ih =>
  intro v3 v4 v5 v6 v8 v9 v10 s h
  rw [f_B_drawn_L95] at h
  refine zz_iload (i := 10) (pc := 95) C rfl d_B_drawn_95 ?_
  refine zz_iload (i := 5) (pc := 97) C rfl d_B_drawn_97 ?_
  refine zz_icmp_ge (tgt := 193) (pc := 99) C (by decide) d_B_drawn_99 (fun hc9 => ?_) (fun hc9 => ?_)
  · rw [if_pos hc9] at h
    refine zz_iload (i := 8) (pc := 193) C rfl d_B_drawn_193 ?_
    refine zz_iload (i := 5) (pc := 195) C rfl d_B_drawn_195 ?_
    obtain ⟨hy10, h⟩ := zz_ckN h
    refine zz_idiv (pc := 197) C hy10 d_B_drawn_197 ?_
    replace h := Option.some.inj h
    subst h
    exact zz_ret (pc := 198) C (v := some (.int (v8 / v5))) d_B_drawn_198 (Or.inl ⟨_, _, rfl, rfl, rfl, rfl⟩) rfl
  · rw [if_neg hc9] at h
    refine zz_aload_n (i := 0) (pc := 102) C rfl rfl d_B_drawn_102 ?_
    refine zz_getR (pc := 103) C zl_11_41 zsh_0 rfl d_B_drawn_103 ?_
    refine zz_aload_n (i := 0) (pc := 106) C rfl rfl d_B_drawn_106 ?_
    refine zz_getI (pc := 107) C zl_11_79 zsh_0 rfl d_B_drawn_107 ?_
    refine zz_aload_n (i := 0) (pc := 110) C rfl rfl d_B_drawn_110 ?_
    refine zz_getR (pc := 111) C zl_11_12 zsh_0 rfl d_B_drawn_111 ?_
    refine zz_getR (pc := 114) C zl_11_244 zsh_1 rfl d_B_drawn_114 ?_
    obtain ⟨q11, hq11, h⟩ := zz_bdE h
    refine zz_cVv (as := [.int (s.1 0 12), .ref 2]) (st := []) (pc := 117) C (zm_Night_begin (by decide) hq11) zcv_Night_begin zsh_20 zl_11_245 (by omega) (Nat.le_of_ble_eq_true rfl) d_B_drawn_117 rfl rfl ?_
    refine zz_aload_n (i := 0) (pc := 120) C rfl rfl d_B_drawn_120 ?_
    refine zz_getR (pc := 121) C zl_11_41 zsh_0 rfl d_B_drawn_121 ?_
    refine zz_iload (i := 9) (pc := 124) C rfl d_B_drawn_124 ?_
    refine zz_iload (i := 6) (pc := 126) C rfl d_B_drawn_126 ?_
    refine zz_cVv (as := [.int v9, .int v6]) (st := []) (pc := 128) C (zm_Night_drawTurns rfl) zcv_Night_drawTurns zsh_20 zl_11_284 (by omega) (Nat.le_of_ble_eq_true rfl) d_B_drawn_128 rfl rfl ?_
    refine zz_aload_n (i := 0) (pc := 131) C rfl rfl d_B_drawn_131 ?_
    refine zz_getR (pc := 132) C zl_11_41 zsh_0 rfl d_B_drawn_132 ?_
    refine zz_sipush (pc := 135) C zks_479 d_B_drawn_135 ?_
    obtain ⟨q12, hq12, h⟩ := zz_bdE h
    refine zz_cVv (as := [.int (479 : Int32)]) (st := []) (pc := 138) C (zm_Night_play hq12) zcv_Night_play zsh_20 zl_11_249 (by omega) (Nat.le_of_ble_eq_true rfl) d_B_drawn_138 rfl rfl ?_
    refine zz_aload_n (i := 0) (pc := 141) C rfl rfl d_B_drawn_141 ?_
    refine zz_getR (pc := 142) C zl_11_41 zsh_0 rfl d_B_drawn_142 ?_
    refine zz_getI (pc := 145) C zl_11_287 zsh_20 rfl d_B_drawn_145 ?_
    refine zz_istore (i := 9) (lo' := [some (.ref 0), none, none, some (.int v3), some (.int v4), some (.int v5), some (.int v6), none, some (.int v8), some (.int (q12.1 20 15)), some (.int v10)]) (pc := 148) C (Nat.le_of_ble_eq_true rfl) rfl rfl d_B_drawn_148 ?_
    refine zz_iload (i := 8) (pc := 150) C rfl d_B_drawn_150 ?_
    refine zz_iload (i := 4) (pc := 152) C rfl d_B_drawn_152 ?_
    refine zz_if_ne (tgt := 172) (pc := 154) C (by decide) d_B_drawn_154 (fun hc13 => ?_) (fun hc13 => ?_)
    · rw [if_neg hc13] at h
      refine zz_aload_n (i := 0) (pc := 172) C rfl rfl d_B_drawn_172 ?_
      refine zz_getR (pc := 173) C zl_11_41 zsh_0 rfl d_B_drawn_173 ?_
      refine zz_getR (pc := 176) C zl_11_198 zsh_20 rfl d_B_drawn_176 ?_
      refine zz_getR (pc := 179) C zl_11_202 zsh_32 rfl d_B_drawn_179 ?_
      refine zz_iload_n (i := 3) (pc := 182) C rfl rfl d_B_drawn_182 ?_
      obtain ⟨hi14, h⟩ := zz_ckE h
      refine zz_iald (pc := 183) C rfl zsh_36 hi14 d_B_drawn_183 ?_
      refine zz_fg C [true, false, false, true, true, true, true, false, false, true, true] rfl rfl ?_
      exact zf_B_drawn_J184 C (f_B_drawn_L95 n) ih v3 v4 v5 v6 (q12.1 20 15) v10 v8 (q12.1 36 (v3.toNatClampNeg)) h
    · rw [if_pos hc13] at h
      refine zz_aload_n (i := 0) (pc := 157) C rfl rfl d_B_drawn_157 ?_
      refine zz_getR (pc := 158) C zl_11_41 zsh_0 rfl d_B_drawn_158 ?_
      refine zz_getR (pc := 161) C zl_11_220 zsh_20 rfl d_B_drawn_161 ?_
      refine zz_getR (pc := 164) C zl_11_224 zsh_21 rfl d_B_drawn_164 ?_
      refine zz_iload_n (i := 3) (pc := 167) C rfl rfl d_B_drawn_167 ?_
      obtain ⟨hi15, h⟩ := zz_ckE h
      refine zz_iald (pc := 168) C rfl zsh_22 hi15 d_B_drawn_168 ?_
      refine zz_goto (tgt := 184) (pc := 169) C (by decide) d_B_drawn_169 ?_
      refine zz_fg C [true, false, false, true, true, true, true, false, false, true, true] rfl rfl ?_
      exact zf_B_drawn_J184 C (f_B_drawn_L95 n) ih v3 v4 v5 v6 (q12.1 20 15) v10 v8 (q12.1 22 (v3.toNatClampNeg)) h
set_option maxHeartbeats 4000000 in
set_option maxRecDepth 100000 in
theorem zf_B_drawn_J76 {G : zz_G} {l : Launch} {Z : zz_Z} {q : Int32 × zz_S} {s : zz_S} (C : zz_Cx G l "OneBlanket" "drawn" prog_1_method_31_code 11 (some .int) 8 (some (.int q.1), zsh, q.2) Z) (v1 : Int32) (v3 : Int32) (v4 : Int32) (v5 : Int32) (v6 : Int32) (t0 : Int32) (h : f_B_drawn_J76 v1 v3 v4 v5 v6 t0 s = some q) : Z 76 [some (.ref 0), some (.int v1), none, some (.int v3), some (.int v4), some (.int v5), some (.int v6), none, none, none, none] [.int t0] zsh s := by
  unfold f_B_drawn_J76 at h
  refine zz_istore (i := 7) (lo' := [some (.ref 0), some (.int v1), none, some (.int v3), some (.int v4), some (.int v5), some (.int v6), some (.int t0), none, none, none]) (pc := 76) C (Nat.le_of_ble_eq_true rfl) rfl rfl d_B_drawn_76 ?_
  refine zz_iload (i := 7) (pc := 78) C rfl d_B_drawn_78 ?_
  refine zz_if_ne (tgt := 86) (pc := 80) C (by decide) d_B_drawn_80 (fun hc8 => ?_) (fun hc8 => ?_)
  · rw [if_neg hc8] at h
    refine zz_iconst (pc := 86) C zki_0 d_B_drawn_86 ?_
    refine zz_istore (i := 8) (lo' := [some (.ref 0), some (.int v1), none, some (.int v3), some (.int v4), some (.int v5), some (.int v6), some (.int t0), some (.int (0 : Int32)), none, none]) (pc := 87) C (Nat.le_of_ble_eq_true rfl) rfl rfl d_B_drawn_87 ?_
    refine zz_iload_n (i := 1) (pc := 89) C rfl rfl d_B_drawn_89 ?_
    refine zz_istore (i := 9) (lo' := [some (.ref 0), some (.int v1), none, some (.int v3), some (.int v4), some (.int v5), some (.int v6), some (.int t0), some (.int (0 : Int32)), some (.int v1), none]) (pc := 90) C (Nat.le_of_ble_eq_true rfl) rfl rfl d_B_drawn_90 ?_
    refine zz_iconst (pc := 92) C zki_0 d_B_drawn_92 ?_
    refine zz_istore (i := 10) (lo' := [some (.ref 0), some (.int v1), none, some (.int v3), some (.int v4), some (.int v5), some (.int v6), some (.int t0), some (.int (0 : Int32)), some (.int v1), some (.int (0 : Int32))]) (pc := 93) C (Nat.le_of_ble_eq_true rfl) rfl rfl d_B_drawn_93 ?_
    refine zz_fg C [true, false, false, true, true, true, true, false, true, true, true] rfl rfl ?_
    exact zf_B_drawn_L95 C zF v3 v4 v5 v6 (0 : Int32) v1 (0 : Int32) s h
  · rw [if_pos hc8] at h
    refine zz_ldc (pc := 83) C zl_11_127 d_B_drawn_83 ?_
    replace h := Option.some.inj h
    subst h
    exact zz_ret (pc := 85) C (v := some (.int (-2000000000 : Int32))) d_B_drawn_85 (Or.inl ⟨_, _, rfl, rfl, rfl, rfl⟩) rfl
set_option maxHeartbeats 4000000 in
set_option maxRecDepth 100000 in
theorem zf_B_drawn {G : zz_G} {l : Launch} {Z : zz_Z} {q : Int32 × zz_S} {s : zz_S} (C : zz_Cx G l "OneBlanket" "drawn" prog_1_method_31_code 11 (some .int) 8 (some (.int q.1), zsh, q.2) Z) (a1 : Int32) (a2 : Int32) (a3 : Int32) (a4 : Int32) (h : f_B_drawn a1 a2 a3 a4 s = some q) : Z 0 [some (.ref 0), some (.int a1), some (.int a2), some (.int a3), some (.int a4), none, none, none, none, none, none] [] zsh s := by
  unfold f_B_drawn at h
  refine zz_iload_n (i := 2) (pc := 0) C rfl rfl d_B_drawn_0 ?_
  refine zz_sipush (pc := 1) C zks_1000 d_B_drawn_1 ?_
  refine zz_idiv (pc := 4) C (by decide) d_B_drawn_4 ?_
  refine zz_istore (i := 5) (lo' := [some (.ref 0), some (.int a1), some (.int a2), some (.int a3), some (.int a4), some (.int (a2 / (1000 : Int32))), none, none, none, none, none]) (pc := 5) C (Nat.le_of_ble_eq_true rfl) rfl rfl d_B_drawn_5 ?_
  refine zz_iload_n (i := 2) (pc := 7) C rfl rfl d_B_drawn_7 ?_
  refine zz_sipush (pc := 8) C zks_1000 d_B_drawn_8 ?_
  refine zz_irem (pc := 11) C (by decide) d_B_drawn_11 ?_
  refine zz_istore (i := 6) (lo' := [some (.ref 0), some (.int a1), some (.int a2), some (.int a3), some (.int a4), some (.int (a2 / (1000 : Int32))), some (.int (a2 % (1000 : Int32))), none, none, none, none]) (pc := 12) C (Nat.le_of_ble_eq_true rfl) rfl rfl d_B_drawn_12 ?_
  refine zz_iload_n (i := 2) (pc := 14) C rfl rfl d_B_drawn_14 ?_
  refine zz_if_lt (tgt := 49) (pc := 15) C (by decide) d_B_drawn_15 (fun hc1 => ?_) (fun hc1 => ?_)
  · rw [if_pos hc1] at h
    refine zz_ldc (pc := 49) C zl_11_127 d_B_drawn_49 ?_
    replace h := Option.some.inj h
    subst h
    exact zz_ret (pc := 51) C (v := some (.int (-2000000000 : Int32))) d_B_drawn_51 (Or.inl ⟨_, _, rfl, rfl, rfl, rfl⟩) rfl
  · rw [if_neg hc1] at h
    refine zz_iload (i := 5) (pc := 18) C rfl d_B_drawn_18 ?_
    refine zz_iconst (pc := 20) C zki_1 d_B_drawn_20 ?_
    refine zz_icmp_lt (tgt := 49) (pc := 21) C (by decide) d_B_drawn_21 (fun hc2 => ?_) (fun hc2 => ?_)
    · rw [if_pos hc2] at h
      refine zz_ldc (pc := 49) C zl_11_127 d_B_drawn_49 ?_
      replace h := Option.some.inj h
      subst h
      exact zz_ret (pc := 51) C (v := some (.int (-2000000000 : Int32))) d_B_drawn_51 (Or.inl ⟨_, _, rfl, rfl, rfl, rfl⟩) rfl
    · rw [if_neg hc2] at h
      refine zz_iload (i := 5) (pc := 24) C rfl d_B_drawn_24 ?_
      refine zz_bipush (pc := 26) C zkb_20 d_B_drawn_26 ?_
      refine zz_icmp_gt (tgt := 49) (pc := 28) C (by decide) d_B_drawn_28 (fun hc3 => ?_) (fun hc3 => ?_)
      · rw [if_pos hc3] at h
        refine zz_ldc (pc := 49) C zl_11_127 d_B_drawn_49 ?_
        replace h := Option.some.inj h
        subst h
        exact zz_ret (pc := 51) C (v := some (.int (-2000000000 : Int32))) d_B_drawn_51 (Or.inl ⟨_, _, rfl, rfl, rfl, rfl⟩) rfl
      · rw [if_neg hc3] at h
        refine zz_iload (i := 6) (pc := 31) C rfl d_B_drawn_31 ?_
        refine zz_bipush (pc := 33) C zkb_100 d_B_drawn_33 ?_
        refine zz_icmp_gt (tgt := 49) (pc := 35) C (by decide) d_B_drawn_35 (fun hc4 => ?_) (fun hc4 => ?_)
        · rw [if_pos hc4] at h
          refine zz_ldc (pc := 49) C zl_11_127 d_B_drawn_49 ?_
          replace h := Option.some.inj h
          subst h
          exact zz_ret (pc := 51) C (v := some (.int (-2000000000 : Int32))) d_B_drawn_51 (Or.inl ⟨_, _, rfl, rfl, rfl, rfl⟩) rfl
        · rw [if_neg hc4] at h
          refine zz_iload (i := 4) (pc := 38) C rfl d_B_drawn_38 ?_
          refine zz_if_lt (tgt := 49) (pc := 40) C (by decide) d_B_drawn_40 (fun hc5 => ?_) (fun hc5 => ?_)
          · rw [if_pos hc5] at h
            refine zz_ldc (pc := 49) C zl_11_127 d_B_drawn_49 ?_
            replace h := Option.some.inj h
            subst h
            exact zz_ret (pc := 51) C (v := some (.int (-2000000000 : Int32))) d_B_drawn_51 (Or.inl ⟨_, _, rfl, rfl, rfl, rfl⟩) rfl
          · rw [if_neg hc5] at h
            refine zz_iload (i := 4) (pc := 43) C rfl d_B_drawn_43 ?_
            refine zz_iconst (pc := 45) C zki_1 d_B_drawn_45 ?_
            refine zz_icmp_le (tgt := 52) (pc := 46) C (by decide) d_B_drawn_46 (fun hc6 => ?_) (fun hc6 => ?_)
            · rw [if_pos hc6] at h
              refine zz_iload (i := 4) (pc := 52) C rfl d_B_drawn_52 ?_
              refine zz_if_ne (tgt := 68) (pc := 54) C (by decide) d_B_drawn_54 (fun hc7 => ?_) (fun hc7 => ?_)
              · rw [if_neg hc7] at h
                refine zz_aload_n (i := 0) (pc := 68) C rfl rfl d_B_drawn_68 ?_
                refine zz_getR (pc := 69) C zl_11_12 zsh_0 rfl d_B_drawn_69 ?_
                refine zz_iload_n (i := 3) (pc := 72) C rfl rfl d_B_drawn_72 ?_
                refine zz_cVi (as := [.int a3]) (st := []) (pc := 73) C (zm_Bed_hasCover rfl) zcv_Bed_hasCover zsh_1 zl_11_105 (by omega) (Nat.le_of_ble_eq_true rfl) d_B_drawn_73 rfl rfl ?_
                refine zz_fg C [true, true, false, true, true, true, true, false, false, false, false] rfl rfl ?_
                exact zf_B_drawn_J76 C a1 a3 a4 (a2 / (1000 : Int32)) (a2 % (1000 : Int32)) (f_Bed_hasCover a3 s) h
              · rw [if_pos hc7] at h
                refine zz_aload_n (i := 0) (pc := 57) C rfl rfl d_B_drawn_57 ?_
                refine zz_getR (pc := 58) C zl_11_12 zsh_0 rfl d_B_drawn_58 ?_
                refine zz_iload_n (i := 3) (pc := 61) C rfl rfl d_B_drawn_61 ?_
                refine zz_cVi (as := [.int a3]) (st := []) (pc := 62) C (zm_Bed_hasSleeper rfl) zcv_Bed_hasSleeper zsh_1 zl_11_101 (by omega) (Nat.le_of_ble_eq_true rfl) d_B_drawn_62 rfl rfl ?_
                refine zz_goto (tgt := 76) (pc := 65) C (by decide) d_B_drawn_65 ?_
                refine zz_fg C [true, true, false, true, true, true, true, false, false, false, false] rfl rfl ?_
                exact zf_B_drawn_J76 C a1 a3 a4 (a2 / (1000 : Int32)) (a2 % (1000 : Int32)) (f_Bed_hasSleeper a3 s) h
            · rw [if_neg hc6] at h
              refine zz_ldc (pc := 49) C zl_11_127 d_B_drawn_49 ?_
              replace h := Option.some.inj h
              subst h
              exact zz_ret (pc := 51) C (v := some (.int (-2000000000 : Int32))) d_B_drawn_51 (Or.inl ⟨_, _, rfl, rfl, rfl, rfl⟩) rfl
theorem zm_B_drawn {G : zz_G} {l : Launch} {s : zz_S} {q : Int32 × zz_S} {a1 : Int32} {a2 : Int32} {a3 : Int32} {a4 : Int32} (h : f_B_drawn a1 a2 a3 a4 s = some q) : zz_M G l 8 y_B_drawn prog_1_method_31_code 11 (some .int) [.ref 0, .int a1, .int a2, .int a3, .int a4] zsh s (some (.int q.1), zsh, q.2) :=
  zz_M.intro (by decide) (Nat.le_of_ble_eq_true rfl) (Nat.le_refl _) (Nat.le_refl _) (fun Z C => zf_B_drawn C a1 a2 a3 a4 h)
theorem d_B_hasShelf_0 : decode prog_1_method_48_code 0 = .ok (.iload_n 0, 1) := by decide +kernel
theorem d_B_hasShelf_1 : decode prog_1_method_48_code 1 = .ok (.ifCond .lt (13), 3) := by decide +kernel
theorem d_B_hasShelf_4 : decode prog_1_method_48_code 4 = .ok (.iload_n 0, 1) := by decide +kernel
theorem d_B_hasShelf_5 : decode prog_1_method_48_code 5 = .ok (.bipush (6), 2) := by decide +kernel
theorem d_B_hasShelf_7 : decode prog_1_method_48_code 7 = .ok (.if_icmp .ge (7), 3) := by decide +kernel
theorem d_B_hasShelf_10 : decode prog_1_method_48_code 10 = .ok (.iconst 1, 1) := by decide +kernel
theorem d_B_hasShelf_11 : decode prog_1_method_48_code 11 = .ok (.goto (4), 3) := by decide +kernel
theorem d_B_hasShelf_14 : decode prog_1_method_48_code 14 = .ok (.iconst 0, 1) := by decide +kernel
theorem d_B_hasShelf_15 : decode prog_1_method_48_code 15 = .ok (.ireturn, 1) := by decide +kernel
set_option maxHeartbeats 4000000 in
set_option maxRecDepth 100000 in
theorem zf_B_hasShelf {G : zz_G} {l : Launch} {Z : zz_Z} {sh : List zz_Sh} {q : Int32} {s : zz_S} (C : zz_Cx G l "OneBlanket" "hasShelf" prog_1_method_48_code 1 (some .boolean) 2 (some (.int q), sh, s) Z) (a0 : Int32) (h : f_B_hasShelf a0 = q) : Z 0 [some (.int a0)] [] sh s := by
  unfold f_B_hasShelf at h
  refine zz_iload_n (i := 0) (pc := 0) C rfl rfl d_B_hasShelf_0 ?_
  refine zz_if_lt (tgt := 14) (pc := 1) C (by decide) d_B_hasShelf_1 (fun hc1 => ?_) (fun hc1 => ?_)
  · rw [if_pos hc1] at h
    refine zz_iconst (pc := 14) C zki_0 d_B_hasShelf_14 ?_
    subst h
    exact zz_ret (pc := 15) C (v := some (.int (0 : Int32))) d_B_hasShelf_15 (Or.inl ⟨_, _, rfl, rfl, rfl, (by decide)⟩) rfl
  · rw [if_neg hc1] at h
    refine zz_iload_n (i := 0) (pc := 4) C rfl rfl d_B_hasShelf_4 ?_
    refine zz_bipush (pc := 5) C zkb_6 d_B_hasShelf_5 ?_
    refine zz_icmp_ge (tgt := 14) (pc := 7) C (by decide) d_B_hasShelf_7 (fun hc2 => ?_) (fun hc2 => ?_)
    · rw [if_pos hc2] at h
      refine zz_iconst (pc := 14) C zki_0 d_B_hasShelf_14 ?_
      subst h
      exact zz_ret (pc := 15) C (v := some (.int (0 : Int32))) d_B_hasShelf_15 (Or.inl ⟨_, _, rfl, rfl, rfl, (by decide)⟩) rfl
    · rw [if_neg hc2] at h
      refine zz_iconst (pc := 10) C zki_1 d_B_hasShelf_10 ?_
      refine zz_goto (tgt := 15) (pc := 11) C (by decide) d_B_hasShelf_11 ?_
      subst h
      exact zz_ret (pc := 15) C (v := some (.int (1 : Int32))) d_B_hasShelf_15 (Or.inl ⟨_, _, rfl, rfl, rfl, (by decide)⟩) rfl
theorem zm_B_hasShelf {G : zz_G} {l : Launch} {sh : List zz_Sh} {s : zz_S} {q : Int32} {a0 : Int32} (h : f_B_hasShelf a0 = q) : zz_M G l 2 y_B_hasShelf prog_1_method_48_code 1 (some .boolean) [.int a0] sh s (some (.int q), sh, s) :=
  zz_M.intro (by decide) (Nat.le_of_ble_eq_true rfl) (Nat.le_refl _) (Nat.le_refl _) (fun Z C => zf_B_hasShelf C a0 h)
theorem d_B_refusalOfPlace_0 : decode prog_1_method_44_code 0 = .ok (.iload_n 1, 1) := by decide +kernel
theorem d_B_refusalOfPlace_1 : decode prog_1_method_44_code 1 = .ok (.invokestatic 171, 3) := by decide +kernel
theorem d_B_refusalOfPlace_4 : decode prog_1_method_44_code 4 = .ok (.ifCond .ne (5), 3) := by decide +kernel
theorem d_B_refusalOfPlace_7 : decode prog_1_method_44_code 7 = .ok (.iconst (-1), 1) := by decide +kernel
theorem d_B_refusalOfPlace_8 : decode prog_1_method_44_code 8 = .ok (.ireturn, 1) := by decide +kernel
theorem d_B_refusalOfPlace_9 : decode prog_1_method_44_code 9 = .ok (.aload_n 0, 1) := by decide +kernel
theorem d_B_refusalOfPlace_10 : decode prog_1_method_44_code 10 = .ok (.getfield 68, 3) := by decide +kernel
theorem d_B_refusalOfPlace_13 : decode prog_1_method_44_code 13 = .ok (.iload_n 1, 1) := by decide +kernel
theorem d_B_refusalOfPlace_14 : decode prog_1_method_44_code 14 = .ok (.aaload, 1) := by decide +kernel
theorem d_B_refusalOfPlace_15 : decode prog_1_method_44_code 15 = .ok (.astore_n 3, 1) := by decide +kernel
theorem d_B_refusalOfPlace_16 : decode prog_1_method_44_code 16 = .ok (.aload_n 3, 1) := by decide +kernel
theorem d_B_refusalOfPlace_17 : decode prog_1_method_44_code 17 = .ok (.invokevirtual 174, 3) := by decide +kernel
theorem d_B_refusalOfPlace_20 : decode prog_1_method_44_code 20 = .ok (.ifCond .eq (6), 3) := by decide +kernel
theorem d_B_refusalOfPlace_23 : decode prog_1_method_44_code 23 = .ok (.bipush (-11), 2) := by decide +kernel
theorem d_B_refusalOfPlace_25 : decode prog_1_method_44_code 25 = .ok (.ireturn, 1) := by decide +kernel
theorem d_B_refusalOfPlace_26 : decode prog_1_method_44_code 26 = .ok (.aload_n 3, 1) := by decide +kernel
theorem d_B_refusalOfPlace_27 : decode prog_1_method_44_code 27 = .ok (.invokevirtual 353, 3) := by decide +kernel
theorem d_B_refusalOfPlace_30 : decode prog_1_method_44_code 30 = .ok (.ifCond .ne (6), 3) := by decide +kernel
theorem d_B_refusalOfPlace_33 : decode prog_1_method_44_code 33 = .ok (.bipush (-12), 2) := by decide +kernel
theorem d_B_refusalOfPlace_35 : decode prog_1_method_44_code 35 = .ok (.ireturn, 1) := by decide +kernel
theorem d_B_refusalOfPlace_36 : decode prog_1_method_44_code 36 = .ok (.iload_n 2, 1) := by decide +kernel
theorem d_B_refusalOfPlace_37 : decode prog_1_method_44_code 37 = .ok (.ifCond .lt (11), 3) := by decide +kernel
theorem d_B_refusalOfPlace_40 : decode prog_1_method_44_code 40 = .ok (.iload_n 2, 1) := by decide +kernel
theorem d_B_refusalOfPlace_41 : decode prog_1_method_44_code 41 = .ok (.aload_n 3, 1) := by decide +kernel
theorem d_B_refusalOfPlace_42 : decode prog_1_method_44_code 42 = .ok (.getfield 185, 3) := by decide +kernel
theorem d_B_refusalOfPlace_45 : decode prog_1_method_44_code 45 = .ok (.if_icmp .lt (8), 3) := by decide +kernel
theorem d_B_refusalOfPlace_48 : decode prog_1_method_44_code 48 = .ok (.bipush (-13), 2) := by decide +kernel
theorem d_B_refusalOfPlace_50 : decode prog_1_method_44_code 50 = .ok (.goto (4), 3) := by decide +kernel
theorem d_B_refusalOfPlace_53 : decode prog_1_method_44_code 53 = .ok (.iconst 0, 1) := by decide +kernel
theorem d_B_refusalOfPlace_54 : decode prog_1_method_44_code 54 = .ok (.ireturn, 1) := by decide +kernel
set_option maxHeartbeats 4000000 in
set_option maxRecDepth 100000 in
theorem zf_B_refusalOfPlace_J48 {G : zz_G} {l : Launch} {Z : zz_Z} {q : Int32} {s : zz_S} (C : zz_Cx G l "OneBlanket" "refusalOfPlace" prog_1_method_44_code 4 (some .int) 3 (some (.int q), zsh, s) Z) (h : f_B_refusalOfPlace_J48 s = some q) : Z 48 [none, none, none, none] [] zsh s := by
  unfold f_B_refusalOfPlace_J48 at h
  refine zz_bipush (pc := 48) C zkb_m13 d_B_refusalOfPlace_48 ?_
  refine zz_goto (tgt := 54) (pc := 50) C (by decide) d_B_refusalOfPlace_50 ?_
  replace h := Option.some.inj h
  subst h
  exact zz_ret (pc := 54) C (v := some (.int (-13 : Int32))) d_B_refusalOfPlace_54 (Or.inl ⟨_, _, rfl, rfl, rfl, rfl⟩) rfl
set_option maxHeartbeats 4000000 in
set_option maxRecDepth 100000 in
theorem zf_B_refusalOfPlace {G : zz_G} {l : Launch} {Z : zz_Z} {q : Int32} {s : zz_S} (C : zz_Cx G l "OneBlanket" "refusalOfPlace" prog_1_method_44_code 4 (some .int) 3 (some (.int q), zsh, s) Z) (a1 : Int32) (a2 : Int32) (h : f_B_refusalOfPlace a1 a2 s = some q) : Z 0 [some (.ref 0), some (.int a1), some (.int a2), none] [] zsh s := by
  unfold f_B_refusalOfPlace at h
  refine zz_iload_n (i := 1) (pc := 0) C rfl rfl d_B_refusalOfPlace_0 ?_
  refine zz_cSi (as := [.int a1]) (st := []) (pc := 1) C (zm_B_hasShelf rfl) zcs_B_hasShelf zl_11_171 (by omega) (Nat.le_of_ble_eq_true rfl) d_B_refusalOfPlace_1 rfl rfl ?_
  refine zz_if_ne (tgt := 9) (pc := 4) C (by decide) d_B_refusalOfPlace_4 (fun hc1 => ?_) (fun hc1 => ?_)
  · rw [if_neg hc1] at h
    refine zz_aload_n (i := 0) (pc := 9) C rfl rfl d_B_refusalOfPlace_9 ?_
    refine zz_getR (pc := 10) C zl_11_68 zsh_0 rfl d_B_refusalOfPlace_10 ?_
    refine zz_iload_n (i := 1) (pc := 13) C rfl rfl d_B_refusalOfPlace_13 ?_
    obtain ⟨hi2, h⟩ := zz_ckE h
    refine zz_aald (pc := 14) C rfl zsh_52 (Cn := "OneBlanket$Shelf") ⟨by decide, by decide, rfl⟩ zra_52 hi2 d_B_refusalOfPlace_14 ?_
    refine zz_astore_n (i := 3) (lo' := [some (.ref 0), some (.int a1), some (.int a2), some (.ref (zr_52 a1))]) (pc := 15) C rfl (Nat.le_of_ble_eq_true rfl) rfl rfl d_B_refusalOfPlace_15 ?_
    refine zz_aload_n (i := 3) (pc := 16) C rfl rfl d_B_refusalOfPlace_16 ?_
    refine zz_cVi (as := []) (st := []) (pc := 17) C (zm_Shelf_isEmpty (zrm_52 hi2) rfl) zcv_Shelf_isEmpty (zS7_sh (zrm_52 hi2)) zl_11_174 (by omega) (Nat.le_of_ble_eq_true rfl) d_B_refusalOfPlace_17 rfl rfl ?_
    refine zz_if_eq (tgt := 26) (pc := 20) C (by decide) d_B_refusalOfPlace_20 (fun hc3 => ?_) (fun hc3 => ?_)
    · rw [if_pos hc3] at h
      refine zz_aload_n (i := 3) (pc := 26) C rfl rfl d_B_refusalOfPlace_26 ?_
      refine zz_cVi (as := []) (st := []) (pc := 27) C (zm_Shelf_isRow (zrm_52 hi2) rfl) zcv_Shelf_isRow (zS7_sh (zrm_52 hi2)) zl_11_353 (by omega) (Nat.le_of_ble_eq_true rfl) d_B_refusalOfPlace_27 rfl rfl ?_
      refine zz_if_ne (tgt := 36) (pc := 30) C (by decide) d_B_refusalOfPlace_30 (fun hc4 => ?_) (fun hc4 => ?_)
      · rw [if_neg hc4] at h
        refine zz_iload_n (i := 2) (pc := 36) C rfl rfl d_B_refusalOfPlace_36 ?_
        refine zz_if_lt (tgt := 48) (pc := 37) C (by decide) d_B_refusalOfPlace_37 (fun hc5 => ?_) (fun hc5 => ?_)
        · rw [if_pos hc5] at h
          refine zz_fg C [false, false, false, false] rfl rfl ?_
          exact zf_B_refusalOfPlace_J48 C h
        · rw [if_neg hc5] at h
          refine zz_iload_n (i := 2) (pc := 40) C rfl rfl d_B_refusalOfPlace_40 ?_
          refine zz_aload_n (i := 3) (pc := 41) C rfl rfl d_B_refusalOfPlace_41 ?_
          refine zz_getI (pc := 42) C zl_11_185 (zS7_sh (zrm_52 hi2)) rfl d_B_refusalOfPlace_42 ?_
          refine zz_icmp_lt (tgt := 53) (pc := 45) C (by decide) d_B_refusalOfPlace_45 (fun hc6 => ?_) (fun hc6 => ?_)
          · rw [if_pos hc6] at h
            refine zz_iconst (pc := 53) C zki_0 d_B_refusalOfPlace_53 ?_
            replace h := Option.some.inj h
            subst h
            exact zz_ret (pc := 54) C (v := some (.int (0 : Int32))) d_B_refusalOfPlace_54 (Or.inl ⟨_, _, rfl, rfl, rfl, rfl⟩) rfl
          · rw [if_neg hc6] at h
            refine zz_fg C [false, false, false, false] rfl rfl ?_
            exact zf_B_refusalOfPlace_J48 C h
      · rw [if_pos hc4] at h
        refine zz_bipush (pc := 33) C zkb_m12 d_B_refusalOfPlace_33 ?_
        replace h := Option.some.inj h
        subst h
        exact zz_ret (pc := 35) C (v := some (.int (-12 : Int32))) d_B_refusalOfPlace_35 (Or.inl ⟨_, _, rfl, rfl, rfl, rfl⟩) rfl
    · rw [if_neg hc3] at h
      refine zz_bipush (pc := 23) C zkb_m11 d_B_refusalOfPlace_23 ?_
      replace h := Option.some.inj h
      subst h
      exact zz_ret (pc := 25) C (v := some (.int (-11 : Int32))) d_B_refusalOfPlace_25 (Or.inl ⟨_, _, rfl, rfl, rfl, rfl⟩) rfl
  · rw [if_pos hc1] at h
    refine zz_iconst (pc := 7) C zki_m1 d_B_refusalOfPlace_7 ?_
    replace h := Option.some.inj h
    subst h
    exact zz_ret (pc := 8) C (v := some (.int (-1 : Int32))) d_B_refusalOfPlace_8 (Or.inl ⟨_, _, rfl, rfl, rfl, rfl⟩) rfl
theorem zm_B_refusalOfPlace {G : zz_G} {l : Launch} {s : zz_S} {q : Int32} {a1 : Int32} {a2 : Int32} (h : f_B_refusalOfPlace a1 a2 s = some q) : zz_M G l 3 y_B_refusalOfPlace prog_1_method_44_code 4 (some .int) [.ref 0, .int a1, .int a2] zsh s (some (.int q), zsh, s) :=
  zz_M.intro (by decide) (Nat.le_of_ble_eq_true rfl) (Nat.le_refl _) (Nat.le_refl _) (fun Z C => zf_B_refusalOfPlace C a1 a2 h)
theorem d_B_element_0 : decode prog_1_method_43_code 0 = .ok (.aload_n 0, 1) := by decide +kernel
theorem d_B_element_1 : decode prog_1_method_43_code 1 = .ok (.iload_n 1, 1) := by decide +kernel
theorem d_B_element_2 : decode prog_1_method_43_code 2 = .ok (.iload_n 2, 1) := by decide +kernel
theorem d_B_element_3 : decode prog_1_method_43_code 3 = .ok (.invokevirtual 342, 3) := by decide +kernel
theorem d_B_element_6 : decode prog_1_method_43_code 6 = .ok (.ifCond .eq (7), 3) := by decide +kernel
theorem d_B_element_9 : decode prog_1_method_43_code 9 = .ok (.ldc2_w 351, 3) := by decide +kernel
theorem d_B_element_12 : decode prog_1_method_43_code 12 = .ok (.lreturn, 1) := by decide +kernel
theorem d_B_element_13 : decode prog_1_method_43_code 13 = .ok (.aload_n 0, 1) := by decide +kernel
theorem d_B_element_14 : decode prog_1_method_43_code 14 = .ok (.getfield 68, 3) := by decide +kernel
theorem d_B_element_17 : decode prog_1_method_43_code 17 = .ok (.iload_n 1, 1) := by decide +kernel
theorem d_B_element_18 : decode prog_1_method_43_code 18 = .ok (.aaload, 1) := by decide +kernel
theorem d_B_element_19 : decode prog_1_method_43_code 19 = .ok (.getfield 188, 3) := by decide +kernel
theorem d_B_element_22 : decode prog_1_method_43_code 22 = .ok (.iload_n 2, 1) := by decide +kernel
theorem d_B_element_23 : decode prog_1_method_43_code 23 = .ok (.laload, 1) := by decide +kernel
theorem d_B_element_24 : decode prog_1_method_43_code 24 = .ok (.lreturn, 1) := by decide +kernel
set_option maxHeartbeats 4000000 in
set_option maxRecDepth 100000 in
theorem zf_B_element {G : zz_G} {l : Launch} {Z : zz_Z} {q : Int64} {s : zz_S} (C : zz_Cx G l "OneBlanket" "element" prog_1_method_43_code 3 (some .long) 4 (some (.long q), zsh, s) Z) (a1 : Int32) (a2 : Int32) (h : f_B_element a1 a2 s = some q) : Z 0 [some (.ref 0), some (.int a1), some (.int a2)] [] zsh s := by
  unfold f_B_element at h
  refine zz_aload_n (i := 0) (pc := 0) C rfl rfl d_B_element_0 ?_
  refine zz_iload_n (i := 1) (pc := 1) C rfl rfl d_B_element_1 ?_
  refine zz_iload_n (i := 2) (pc := 2) C rfl rfl d_B_element_2 ?_
  obtain ⟨q1, hq1, h⟩ := zz_bdE h
  refine zz_cVi (as := [.int a1, .int a2]) (st := []) (pc := 3) C (zm_B_refusalOfPlace hq1) zcv_B_refusalOfPlace zsh_0 zl_11_342 (by omega) (Nat.le_of_ble_eq_true rfl) d_B_element_3 rfl rfl ?_
  refine zz_if_eq (tgt := 13) (pc := 6) C (by decide) d_B_element_6 (fun hc2 => ?_) (fun hc2 => ?_)
  · rw [if_pos hc2] at h
    refine zz_aload_n (i := 0) (pc := 13) C rfl rfl d_B_element_13 ?_
    refine zz_getR (pc := 14) C zl_11_68 zsh_0 rfl d_B_element_14 ?_
    refine zz_iload_n (i := 1) (pc := 17) C rfl rfl d_B_element_17 ?_
    obtain ⟨hi3, h⟩ := zz_ckE h
    refine zz_aald (pc := 18) C rfl zsh_52 (Cn := "OneBlanket$Shelf") ⟨by decide, by decide, rfl⟩ zra_52 hi3 d_B_element_18 ?_
    refine zz_getR (pc := 19) C zl_11_188 (zS7_sh (zrm_52 hi3)) rfl d_B_element_19 ?_
    refine zz_iload_n (i := 2) (pc := 22) C rfl rfl d_B_element_22 ?_
    obtain ⟨hi4, h⟩ := zz_ckE h
    refine zz_lald (pc := 23) C rfl (zS8_sh (zder_S7_1 (zrm_52 hi3))) hi4 d_B_element_23 ?_
    replace h := Option.some.inj h
    subst h
    exact zz_ret (pc := 24) C (v := some (.long (s.2 ((zr_52 a1) + 1) (a2.toNatClampNeg)))) d_B_element_24 (Or.inr (Or.inl ⟨_, rfl, rfl, rfl⟩)) rfl
  · rw [if_neg hc2] at h
    refine zz_ldc2 (pc := 9) C zl_11_351 d_B_element_9 ?_
    replace h := Option.some.inj h
    subst h
    exact zz_ret (pc := 12) C (v := some (.long (-9223372036854775808 : Int64))) d_B_element_12 (Or.inr (Or.inl ⟨_, rfl, rfl, rfl⟩)) rfl
theorem zm_B_element {G : zz_G} {l : Launch} {s : zz_S} {q : Int64} {a1 : Int32} {a2 : Int32} (h : f_B_element a1 a2 s = some q) : zz_M G l 4 y_B_element prog_1_method_43_code 3 (some .long) [.ref 0, .int a1, .int a2] zsh s (some (.long q), zsh, s) :=
  zz_M.intro (by decide) (Nat.le_of_ble_eq_true rfl) (Nat.le_refl _) (Nat.le_refl _) (fun Z C => zf_B_element C a1 a2 h)
theorem d_B_feed_0 : decode prog_1_method_9_code 0 = .ok (.iload_n 1, 1) := by decide +kernel
theorem d_B_feed_1 : decode prog_1_method_9_code 1 = .ok (.ifCond .lt (10), 3) := by decide +kernel
theorem d_B_feed_4 : decode prog_1_method_9_code 4 = .ok (.iload_n 1, 1) := by decide +kernel
theorem d_B_feed_5 : decode prog_1_method_9_code 5 = .ok (.sipush (255), 3) := by decide +kernel
theorem d_B_feed_8 : decode prog_1_method_9_code 8 = .ok (.if_icmp .le (5), 3) := by decide +kernel
theorem d_B_feed_11 : decode prog_1_method_9_code 11 = .ok (.iconst (-1), 1) := by decide +kernel
theorem d_B_feed_12 : decode prog_1_method_9_code 12 = .ok (.ireturn, 1) := by decide +kernel
theorem d_B_feed_13 : decode prog_1_method_9_code 13 = .ok (.aload_n 0, 1) := by decide +kernel
theorem d_B_feed_14 : decode prog_1_method_9_code 14 = .ok (.getfield 55, 3) := by decide +kernel
theorem d_B_feed_17 : decode prog_1_method_9_code 17 = .ok (.getfield 137, 3) := by decide +kernel
theorem d_B_feed_20 : decode prog_1_method_9_code 20 = .ok (.bipush (120), 2) := by decide +kernel
theorem d_B_feed_22 : decode prog_1_method_9_code 22 = .ok (.if_icmp .lt (6), 3) := by decide +kernel
theorem d_B_feed_25 : decode prog_1_method_9_code 25 = .ok (.bipush (-3), 2) := by decide +kernel
theorem d_B_feed_27 : decode prog_1_method_9_code 27 = .ok (.ireturn, 1) := by decide +kernel
theorem d_B_feed_28 : decode prog_1_method_9_code 28 = .ok (.aload_n 0, 1) := by decide +kernel
theorem d_B_feed_29 : decode prog_1_method_9_code 29 = .ok (.getfield 55, 3) := by decide +kernel
theorem d_B_feed_32 : decode prog_1_method_9_code 32 = .ok (.iload_n 1, 1) := by decide +kernel
theorem d_B_feed_33 : decode prog_1_method_9_code 33 = .ok (.invokevirtual 140, 3) := by decide +kernel
theorem d_B_feed_36 : decode prog_1_method_9_code 36 = .ok (.aload_n 0, 1) := by decide +kernel
theorem d_B_feed_37 : decode prog_1_method_9_code 37 = .ok (.getfield 55, 3) := by decide +kernel
theorem d_B_feed_40 : decode prog_1_method_9_code 40 = .ok (.getfield 137, 3) := by decide +kernel
theorem d_B_feed_43 : decode prog_1_method_9_code 43 = .ok (.ireturn, 1) := by decide +kernel
set_option maxHeartbeats 4000000 in
set_option maxRecDepth 100000 in
theorem zf_B_feed {G : zz_G} {l : Launch} {Z : zz_Z} {q : Int32 × zz_S} {s : zz_S} (C : zz_Cx G l "OneBlanket" "feed" prog_1_method_9_code 2 (some .int) 3 (some (.int q.1), zsh, q.2) Z) (a1 : Int32) (h : f_B_feed a1 s = some q) : Z 0 [some (.ref 0), some (.int a1)] [] zsh s := by
  unfold f_B_feed at h
  refine zz_iload_n (i := 1) (pc := 0) C rfl rfl d_B_feed_0 ?_
  refine zz_if_lt (tgt := 11) (pc := 1) C (by decide) d_B_feed_1 (fun hc1 => ?_) (fun hc1 => ?_)
  · rw [if_pos hc1] at h
    refine zz_iconst (pc := 11) C zki_m1 d_B_feed_11 ?_
    replace h := Option.some.inj h
    subst h
    exact zz_ret (pc := 12) C (v := some (.int (-1 : Int32))) d_B_feed_12 (Or.inl ⟨_, _, rfl, rfl, rfl, rfl⟩) rfl
  · rw [if_neg hc1] at h
    refine zz_iload_n (i := 1) (pc := 4) C rfl rfl d_B_feed_4 ?_
    refine zz_sipush (pc := 5) C zks_255 d_B_feed_5 ?_
    refine zz_icmp_le (tgt := 13) (pc := 8) C (by decide) d_B_feed_8 (fun hc2 => ?_) (fun hc2 => ?_)
    · rw [if_pos hc2] at h
      refine zz_aload_n (i := 0) (pc := 13) C rfl rfl d_B_feed_13 ?_
      refine zz_getR (pc := 14) C zl_11_55 zsh_0 rfl d_B_feed_14 ?_
      refine zz_getI (pc := 17) C zl_11_137 zsh_44 rfl d_B_feed_17 ?_
      refine zz_bipush (pc := 20) C zkb_120 d_B_feed_20 ?_
      refine zz_icmp_lt (tgt := 28) (pc := 22) C (by decide) d_B_feed_22 (fun hc3 => ?_) (fun hc3 => ?_)
      · rw [if_pos hc3] at h
        refine zz_aload_n (i := 0) (pc := 28) C rfl rfl d_B_feed_28 ?_
        refine zz_getR (pc := 29) C zl_11_55 zsh_0 rfl d_B_feed_29 ?_
        refine zz_iload_n (i := 1) (pc := 32) C rfl rfl d_B_feed_32 ?_
        obtain ⟨q4, hq4, h⟩ := zz_bdE h
        refine zz_cVv (as := [.int a1]) (st := []) (pc := 33) C (zm_Tape_add hq4) zcv_Tape_add zsh_44 zl_11_140 (by omega) (Nat.le_of_ble_eq_true rfl) d_B_feed_33 rfl rfl ?_
        refine zz_aload_n (i := 0) (pc := 36) C rfl rfl d_B_feed_36 ?_
        refine zz_getR (pc := 37) C zl_11_55 zsh_0 rfl d_B_feed_37 ?_
        refine zz_getI (pc := 40) C zl_11_137 zsh_44 rfl d_B_feed_40 ?_
        replace h := Option.some.inj h
        subst h
        exact zz_ret (pc := 43) C (v := some (.int (q4.1 44 0))) d_B_feed_43 (Or.inl ⟨_, _, rfl, rfl, rfl, rfl⟩) rfl
      · rw [if_neg hc3] at h
        refine zz_bipush (pc := 25) C zkb_m3 d_B_feed_25 ?_
        replace h := Option.some.inj h
        subst h
        exact zz_ret (pc := 27) C (v := some (.int (-3 : Int32))) d_B_feed_27 (Or.inl ⟨_, _, rfl, rfl, rfl, rfl⟩) rfl
    · rw [if_neg hc2] at h
      refine zz_iconst (pc := 11) C zki_m1 d_B_feed_11 ?_
      replace h := Option.some.inj h
      subst h
      exact zz_ret (pc := 12) C (v := some (.int (-1 : Int32))) d_B_feed_12 (Or.inl ⟨_, _, rfl, rfl, rfl, rfl⟩) rfl
theorem zm_B_feed {G : zz_G} {l : Launch} {s : zz_S} {q : Int32 × zz_S} {a1 : Int32} (h : f_B_feed a1 s = some q) : zz_M G l 3 y_B_feed prog_1_method_9_code 2 (some .int) [.ref 0, .int a1] zsh s (some (.int q.1), zsh, q.2) :=
  zz_M.intro (by decide) (Nat.le_of_ble_eq_true rfl) (Nat.le_refl _) (Nat.le_refl _) (fun Z C => zf_B_feed C a1 h)
theorem d_B_isFilmOf_0 : decode prog_1_method_34_code 0 = .ok (.aload_n 0, 1) := by decide +kernel
theorem d_B_isFilmOf_1 : decode prog_1_method_34_code 1 = .ok (.getfield 41, 3) := by decide +kernel
theorem d_B_isFilmOf_4 : decode prog_1_method_34_code 4 = .ok (.iload_n 1, 1) := by decide +kernel
theorem d_B_isFilmOf_5 : decode prog_1_method_34_code 5 = .ok (.aload_n 0, 1) := by decide +kernel
theorem d_B_isFilmOf_6 : decode prog_1_method_34_code 6 = .ok (.getfield 12, 3) := by decide +kernel
theorem d_B_isFilmOf_9 : decode prog_1_method_34_code 9 = .ok (.getfield 244, 3) := by decide +kernel
theorem d_B_isFilmOf_12 : decode prog_1_method_34_code 12 = .ok (.invokevirtual 245, 3) := by decide +kernel
theorem d_B_isFilmOf_15 : decode prog_1_method_34_code 15 = .ok (.iconst 0, 1) := by decide +kernel
theorem d_B_isFilmOf_16 : decode prog_1_method_34_code 16 = .ok (.istore_n 3, 1) := by decide +kernel
theorem d_B_isFilmOf_17 : decode prog_1_method_34_code 17 = .ok (.iload_n 3, 1) := by decide +kernel
theorem d_B_isFilmOf_18 : decode prog_1_method_34_code 18 = .ok (.bipush (9), 2) := by decide +kernel
theorem d_B_isFilmOf_20 : decode prog_1_method_34_code 20 = .ok (.if_icmp .ge (51), 3) := by decide +kernel
theorem d_B_isFilmOf_23 : decode prog_1_method_34_code 23 = .ok (.aload_n 0, 1) := by decide +kernel
theorem d_B_isFilmOf_24 : decode prog_1_method_34_code 24 = .ok (.getfield 41, 3) := by decide +kernel
theorem d_B_isFilmOf_27 : decode prog_1_method_34_code 27 = .ok (.bipush (60), 2) := by decide +kernel
theorem d_B_isFilmOf_29 : decode prog_1_method_34_code 29 = .ok (.iload_n 3, 1) := by decide +kernel
theorem d_B_isFilmOf_30 : decode prog_1_method_34_code 30 = .ok (.imul, 1) := by decide +kernel
theorem d_B_isFilmOf_31 : decode prog_1_method_34_code 31 = .ok (.sipush (479), 3) := by decide +kernel
theorem d_B_isFilmOf_34 : decode prog_1_method_34_code 34 = .ok (.invokestatic 302, 3) := by decide +kernel
theorem d_B_isFilmOf_37 : decode prog_1_method_34_code 37 = .ok (.invokevirtual 249, 3) := by decide +kernel
theorem d_B_isFilmOf_40 : decode prog_1_method_34_code 40 = .ok (.aload_n 0, 1) := by decide +kernel
theorem d_B_isFilmOf_41 : decode prog_1_method_34_code 41 = .ok (.getfield 41, 3) := by decide +kernel
theorem d_B_isFilmOf_44 : decode prog_1_method_34_code 44 = .ok (.getfield 198, 3) := by decide +kernel
theorem d_B_isFilmOf_47 : decode prog_1_method_34_code 47 = .ok (.getfield 202, 3) := by decide +kernel
theorem d_B_isFilmOf_50 : decode prog_1_method_34_code 50 = .ok (.iconst 0, 1) := by decide +kernel
theorem d_B_isFilmOf_51 : decode prog_1_method_34_code 51 = .ok (.iaload, 1) := by decide +kernel
theorem d_B_isFilmOf_52 : decode prog_1_method_34_code 52 = .ok (.i2l, 1) := by decide +kernel
theorem d_B_isFilmOf_53 : decode prog_1_method_34_code 53 = .ok (.aload_n 2, 1) := by decide +kernel
theorem d_B_isFilmOf_54 : decode prog_1_method_34_code 54 = .ok (.getfield 188, 3) := by decide +kernel
theorem d_B_isFilmOf_57 : decode prog_1_method_34_code 57 = .ok (.iload_n 3, 1) := by decide +kernel
theorem d_B_isFilmOf_58 : decode prog_1_method_34_code 58 = .ok (.laload, 1) := by decide +kernel
theorem d_B_isFilmOf_59 : decode prog_1_method_34_code 59 = .ok (.lcmp, 1) := by decide +kernel
theorem d_B_isFilmOf_60 : decode prog_1_method_34_code 60 = .ok (.ifCond .eq (5), 3) := by decide +kernel
theorem d_B_isFilmOf_63 : decode prog_1_method_34_code 63 = .ok (.iconst 0, 1) := by decide +kernel
theorem d_B_isFilmOf_64 : decode prog_1_method_34_code 64 = .ok (.ireturn, 1) := by decide +kernel
theorem d_B_isFilmOf_65 : decode prog_1_method_34_code 65 = .ok (.iinc 3 (1), 3) := by decide +kernel
theorem d_B_isFilmOf_68 : decode prog_1_method_34_code 68 = .ok (.goto (-51), 3) := by decide +kernel
theorem d_B_isFilmOf_71 : decode prog_1_method_34_code 71 = .ok (.iconst 1, 1) := by decide +kernel
theorem d_B_isFilmOf_72 : decode prog_1_method_34_code 72 = .ok (.ireturn, 1) := by decide +kernel
set_option maxHeartbeats 4000000 in
set_option maxRecDepth 100000 in
theorem zf_B_isFilmOf_L17 {G : zz_G} {l : Launch} {Z : zz_Z} {q : Int32 × zz_S} (C : zz_Cx G l "OneBlanket" "isFilmOf" prog_1_method_34_code 4 (some .boolean) 8 (some (.int q.1), zsh, q.2) Z) : ∀ (n : Nat) (v2 : Nat) (v3 : Int32) (s : zz_S) (hv2 : v2 ∈ zS7), f_B_isFilmOf_L17 n v2 v3 s = some q → Z 17 [some (.ref 0), none, some (.ref v2), some (.int v3)] [] zsh s := by
  intro n
  induction n with
  | zero => intro v2 v3 s hv2 h; rw [f_B_isFilmOf_L17] at h; cases h
  | succ n ih =>
  intro v2 v3 s hv2 h
  rw [f_B_isFilmOf_L17] at h
  refine zz_iload_n (i := 3) (pc := 17) C rfl rfl d_B_isFilmOf_17 ?_
  refine zz_bipush (pc := 18) C zkb_9 d_B_isFilmOf_18 ?_
  refine zz_icmp_ge (tgt := 71) (pc := 20) C (by decide) d_B_isFilmOf_20 (fun hc2 => ?_) (fun hc2 => ?_)
  · rw [if_pos hc2] at h
    refine zz_iconst (pc := 71) C zki_1 d_B_isFilmOf_71 ?_
    replace h := Option.some.inj h
    subst h
    exact zz_ret (pc := 72) C (v := some (.int (1 : Int32))) d_B_isFilmOf_72 (Or.inl ⟨_, _, rfl, rfl, rfl, (by decide)⟩) rfl
  · rw [if_neg hc2] at h
    refine zz_aload_n (i := 0) (pc := 23) C rfl rfl d_B_isFilmOf_23 ?_
    refine zz_getR (pc := 24) C zl_11_41 zsh_0 rfl d_B_isFilmOf_24 ?_
    refine zz_bipush (pc := 27) C zkb_60 d_B_isFilmOf_27 ?_
    refine zz_iload_n (i := 3) (pc := 29) C rfl rfl d_B_isFilmOf_29 ?_
    refine zz_imul (pc := 30) C d_B_isFilmOf_30 ?_
    refine zz_sipush (pc := 31) C zks_479 d_B_isFilmOf_31 ?_
    refine zz_mmin (st := [.ref 20]) (pc := 34) C zl_11_302 (by omega) (Nat.le_of_ble_eq_true rfl) d_B_isFilmOf_34 rfl ?_
    obtain ⟨q3, hq3, h⟩ := zz_bdE h
    refine zz_cVv (as := [.int (zz_min ((60 : Int32) * v3) (479 : Int32))]) (st := []) (pc := 37) C (zm_Night_play hq3) zcv_Night_play zsh_20 zl_11_249 (by omega) (Nat.le_of_ble_eq_true rfl) d_B_isFilmOf_37 rfl rfl ?_
    refine zz_aload_n (i := 0) (pc := 40) C rfl rfl d_B_isFilmOf_40 ?_
    refine zz_getR (pc := 41) C zl_11_41 zsh_0 rfl d_B_isFilmOf_41 ?_
    refine zz_getR (pc := 44) C zl_11_198 zsh_20 rfl d_B_isFilmOf_44 ?_
    refine zz_getR (pc := 47) C zl_11_202 zsh_32 rfl d_B_isFilmOf_47 ?_
    refine zz_iconst (pc := 50) C zki_0 d_B_isFilmOf_50 ?_
    refine zz_iald (pc := 51) C zkx_0 zsh_36 (by decide) d_B_isFilmOf_51 ?_
    refine zz_i2l (pc := 52) C d_B_isFilmOf_52 ?_
    refine zz_aload_n (i := 2) (pc := 53) C rfl rfl d_B_isFilmOf_53 ?_
    refine zz_getR (pc := 54) C zl_11_188 (zS7_sh hv2) rfl d_B_isFilmOf_54 ?_
    refine zz_iload_n (i := 3) (pc := 57) C rfl rfl d_B_isFilmOf_57 ?_
    obtain ⟨hi4, h⟩ := zz_ckE h
    refine zz_lald (pc := 58) C rfl (zS8_sh (zder_S7_1 hv2)) hi4 d_B_isFilmOf_58 ?_
    refine zz_lcmp (pc := 59) C d_B_isFilmOf_59 ?_
    refine zz_if_eq (tgt := 65) (pc := 60) C (by decide) d_B_isFilmOf_60 (fun hc5 => ?_) (fun hc5 => ?_)
    · rw [if_pos hc5] at h
      refine zz_iinc (lo' := [some (.ref 0), none, some (.ref v2), some (.int (v3 + (1 : Int32)))]) (pc := 65) C rfl (zz_inc zki_1) rfl rfl d_B_isFilmOf_65 ?_
      refine zz_goto (tgt := 17) (pc := 68) C (by decide) d_B_isFilmOf_68 ?_
      exact ih v2 (v3 + (1 : Int32)) q3 hv2 h
    · rw [if_neg hc5] at h
      refine zz_iconst (pc := 63) C zki_0 d_B_isFilmOf_63 ?_
      replace h := Option.some.inj h
      subst h
      exact zz_ret (pc := 64) C (v := some (.int (0 : Int32))) d_B_isFilmOf_64 (Or.inl ⟨_, _, rfl, rfl, rfl, (by decide)⟩) rfl
set_option maxHeartbeats 4000000 in
set_option maxRecDepth 100000 in
theorem zf_B_isFilmOf {G : zz_G} {l : Launch} {Z : zz_Z} {q : Int32 × zz_S} {s : zz_S} (C : zz_Cx G l "OneBlanket" "isFilmOf" prog_1_method_34_code 4 (some .boolean) 8 (some (.int q.1), zsh, q.2) Z) (a1 : Int32) (a2 : Nat) (ha2 : a2 ∈ zS7) (h : f_B_isFilmOf a1 a2 s = some q) : Z 0 [some (.ref 0), some (.int a1), some (.ref a2), none] [] zsh s := by
  unfold f_B_isFilmOf at h
  refine zz_aload_n (i := 0) (pc := 0) C rfl rfl d_B_isFilmOf_0 ?_
  refine zz_getR (pc := 1) C zl_11_41 zsh_0 rfl d_B_isFilmOf_1 ?_
  refine zz_iload_n (i := 1) (pc := 4) C rfl rfl d_B_isFilmOf_4 ?_
  refine zz_aload_n (i := 0) (pc := 5) C rfl rfl d_B_isFilmOf_5 ?_
  refine zz_getR (pc := 6) C zl_11_12 zsh_0 rfl d_B_isFilmOf_6 ?_
  refine zz_getR (pc := 9) C zl_11_244 zsh_1 rfl d_B_isFilmOf_9 ?_
  obtain ⟨q1, hq1, h⟩ := zz_bdE h
  refine zz_cVv (as := [.int a1, .ref 2]) (st := []) (pc := 12) C (zm_Night_begin (by decide) hq1) zcv_Night_begin zsh_20 zl_11_245 (by omega) (Nat.le_of_ble_eq_true rfl) d_B_isFilmOf_12 rfl rfl ?_
  refine zz_iconst (pc := 15) C zki_0 d_B_isFilmOf_15 ?_
  refine zz_istore_n (i := 3) (lo' := [some (.ref 0), some (.int a1), some (.ref a2), some (.int (0 : Int32))]) (pc := 16) C rfl (Nat.le_of_ble_eq_true rfl) rfl rfl d_B_isFilmOf_16 ?_
  refine zz_fg C [true, false, true, true] rfl rfl ?_
  exact zf_B_isFilmOf_L17 C zF a2 (0 : Int32) q1 ha2 h
theorem zm_B_isFilmOf {G : zz_G} {l : Launch} {s : zz_S} {q : Int32 × zz_S} {a1 : Int32} {a2 : Nat} (ha2 : a2 ∈ zS7) (h : f_B_isFilmOf a1 a2 s = some q) : zz_M G l 8 y_B_isFilmOf prog_1_method_34_code 4 (some .boolean) [.ref 0, .int a1, .ref a2] zsh s (some (.int q.1), zsh, q.2) :=
  zz_M.intro (by decide) (Nat.le_of_ble_eq_true rfl) (Nat.le_refl _) (Nat.le_refl _) (fun Z C => zf_B_isFilmOf C a1 a2 ha2 h)
theorem d_B_film_0 : decode prog_1_method_33_code 0 = .ok (.iload_n 1, 1) := by decide +kernel
theorem d_B_film_1 : decode prog_1_method_33_code 1 = .ok (.invokestatic 171, 3) := by decide +kernel
theorem d_B_film_4 : decode prog_1_method_33_code 4 = .ok (.ifCond .ne (5), 3) := by decide +kernel
theorem d_B_film_7 : decode prog_1_method_33_code 7 = .ok (.iconst (-1), 1) := by decide +kernel
theorem d_B_film_8 : decode prog_1_method_33_code 8 = .ok (.ireturn, 1) := by decide +kernel
theorem d_B_film_9 : decode prog_1_method_33_code 9 = .ok (.aload_n 0, 1) := by decide +kernel
theorem d_B_film_10 : decode prog_1_method_33_code 10 = .ok (.getfield 68, 3) := by decide +kernel
theorem d_B_film_13 : decode prog_1_method_33_code 13 = .ok (.iload_n 1, 1) := by decide +kernel
theorem d_B_film_14 : decode prog_1_method_33_code 14 = .ok (.aaload, 1) := by decide +kernel
theorem d_B_film_15 : decode prog_1_method_33_code 15 = .ok (.astore_n 2, 1) := by decide +kernel
theorem d_B_film_16 : decode prog_1_method_33_code 16 = .ok (.aload_n 2, 1) := by decide +kernel
theorem d_B_film_17 : decode prog_1_method_33_code 17 = .ok (.invokevirtual 174, 3) := by decide +kernel
theorem d_B_film_20 : decode prog_1_method_33_code 20 = .ok (.ifCond .eq (6), 3) := by decide +kernel
theorem d_B_film_23 : decode prog_1_method_33_code 23 = .ok (.bipush (-11), 2) := by decide +kernel
theorem d_B_film_25 : decode prog_1_method_33_code 25 = .ok (.ireturn, 1) := by decide +kernel
theorem d_B_film_26 : decode prog_1_method_33_code 26 = .ok (.aload_n 2, 1) := by decide +kernel
theorem d_B_film_27 : decode prog_1_method_33_code 27 = .ok (.iconst 1, 1) := by decide +kernel
theorem d_B_film_28 : decode prog_1_method_33_code 28 = .ok (.invokevirtual 178, 3) := by decide +kernel
theorem d_B_film_31 : decode prog_1_method_33_code 31 = .ok (.ifCond .ne (6), 3) := by decide +kernel
theorem d_B_film_34 : decode prog_1_method_33_code 34 = .ok (.bipush (-12), 2) := by decide +kernel
theorem d_B_film_36 : decode prog_1_method_33_code 36 = .ok (.ireturn, 1) := by decide +kernel
theorem d_B_film_37 : decode prog_1_method_33_code 37 = .ok (.aload_n 2, 1) := by decide +kernel
theorem d_B_film_38 : decode prog_1_method_33_code 38 = .ok (.getfield 185, 3) := by decide +kernel
theorem d_B_film_41 : decode prog_1_method_33_code 41 = .ok (.bipush (9), 2) := by decide +kernel
theorem d_B_film_43 : decode prog_1_method_33_code 43 = .ok (.if_icmp .ge (6), 3) := by decide +kernel
theorem d_B_film_46 : decode prog_1_method_33_code 46 = .ok (.bipush (-13), 2) := by decide +kernel
theorem d_B_film_48 : decode prog_1_method_33_code 48 = .ok (.ireturn, 1) := by decide +kernel
theorem d_B_film_49 : decode prog_1_method_33_code 49 = .ok (.aload_n 0, 1) := by decide +kernel
theorem d_B_film_50 : decode prog_1_method_33_code 50 = .ok (.getfield 12, 3) := by decide +kernel
theorem d_B_film_53 : decode prog_1_method_33_code 53 = .ok (.getfield 95, 3) := by decide +kernel
theorem d_B_film_56 : decode prog_1_method_33_code 56 = .ok (.ifCond .ne (6), 3) := by decide +kernel
theorem d_B_film_59 : decode prog_1_method_33_code 59 = .ok (.bipush (-5), 2) := by decide +kernel
theorem d_B_film_61 : decode prog_1_method_33_code 61 = .ok (.ireturn, 1) := by decide +kernel
theorem d_B_film_62 : decode prog_1_method_33_code 62 = .ok (.iconst 0, 1) := by decide +kernel
theorem d_B_film_63 : decode prog_1_method_33_code 63 = .ok (.istore_n 3, 1) := by decide +kernel
theorem d_B_film_64 : decode prog_1_method_33_code 64 = .ok (.iconst (-1), 1) := by decide +kernel
theorem d_B_film_65 : decode prog_1_method_33_code 65 = .ok (.istore 4, 2) := by decide +kernel
theorem d_B_film_67 : decode prog_1_method_33_code 67 = .ok (.iload 4, 2) := by decide +kernel
theorem d_B_film_69 : decode prog_1_method_33_code 69 = .ok (.aload_n 0, 1) := by decide +kernel
theorem d_B_film_70 : decode prog_1_method_33_code 70 = .ok (.getfield 143, 3) := by decide +kernel
theorem d_B_film_73 : decode prog_1_method_33_code 73 = .ok (.if_icmp .ge (28), 3) := by decide +kernel
theorem d_B_film_76 : decode prog_1_method_33_code 76 = .ok (.aload_n 0, 1) := by decide +kernel
theorem d_B_film_77 : decode prog_1_method_33_code 77 = .ok (.iload 4, 2) := by decide +kernel
theorem d_B_film_79 : decode prog_1_method_33_code 79 = .ok (.aload_n 2, 1) := by decide +kernel
theorem d_B_film_80 : decode prog_1_method_33_code 80 = .ok (.invokevirtual 298, 3) := by decide +kernel
theorem d_B_film_83 : decode prog_1_method_33_code 83 = .ok (.ifCond .eq (12), 3) := by decide +kernel
theorem d_B_film_86 : decode prog_1_method_33_code 86 = .ok (.iload_n 3, 1) := by decide +kernel
theorem d_B_film_87 : decode prog_1_method_33_code 87 = .ok (.iconst 1, 1) := by decide +kernel
theorem d_B_film_88 : decode prog_1_method_33_code 88 = .ok (.iload 4, 2) := by decide +kernel
theorem d_B_film_90 : decode prog_1_method_33_code 90 = .ok (.iconst 1, 1) := by decide +kernel
theorem d_B_film_91 : decode prog_1_method_33_code 91 = .ok (.iadd, 1) := by decide +kernel
theorem d_B_film_92 : decode prog_1_method_33_code 92 = .ok (.ishl, 1) := by decide +kernel
theorem d_B_film_93 : decode prog_1_method_33_code 93 = .ok (.ior, 1) := by decide +kernel
theorem d_B_film_94 : decode prog_1_method_33_code 94 = .ok (.istore_n 3, 1) := by decide +kernel
theorem d_B_film_95 : decode prog_1_method_33_code 95 = .ok (.iinc 4 (1), 3) := by decide +kernel
theorem d_B_film_98 : decode prog_1_method_33_code 98 = .ok (.goto (-31), 3) := by decide +kernel
theorem d_B_film_101 : decode prog_1_method_33_code 101 = .ok (.iload_n 3, 1) := by decide +kernel
theorem d_B_film_102 : decode prog_1_method_33_code 102 = .ok (.ireturn, 1) := by decide +kernel
set_option maxHeartbeats 4000000 in
set_option maxRecDepth 100000 in
theorem zf_B_film_L67 {G : zz_G} {l : Launch} {Z : zz_Z} {q : Int32 × zz_S} (C : zz_Cx G l "OneBlanket" "film" prog_1_method_33_code 5 (some .int) 9 (some (.int q.1), zsh, q.2) Z) : ∀ (n : Nat) (v2 : Nat) (v3 : Int32) (v4 : Int32) (s : zz_S) (hv2 : v2 ∈ zS7), f_B_film_L67 n v2 v3 v4 s = some q → Z 67 [some (.ref 0), none, some (.ref v2), some (.int v3), some (.int v4)] [] zsh s := by
  intro n
  induction n with
  | zero => intro v2 v3 v4 s hv2 h; rw [f_B_film_L67] at h; cases h
  | succ n ih =>
  intro v2 v3 v4 s hv2 h
  rw [f_B_film_L67] at h
  refine zz_iload (i := 4) (pc := 67) C rfl d_B_film_67 ?_
  refine zz_aload_n (i := 0) (pc := 69) C rfl rfl d_B_film_69 ?_
  refine zz_getI (pc := 70) C zl_11_143 zsh_0 rfl d_B_film_70 ?_
  refine zz_icmp_ge (tgt := 101) (pc := 73) C (by decide) d_B_film_73 (fun hc7 => ?_) (fun hc7 => ?_)
  · rw [if_pos hc7] at h
    refine zz_iload_n (i := 3) (pc := 101) C rfl rfl d_B_film_101 ?_
    replace h := Option.some.inj h
    subst h
    exact zz_ret (pc := 102) C (v := some (.int v3)) d_B_film_102 (Or.inl ⟨_, _, rfl, rfl, rfl, rfl⟩) rfl
  · rw [if_neg hc7] at h
    refine zz_aload_n (i := 0) (pc := 76) C rfl rfl d_B_film_76 ?_
    refine zz_iload (i := 4) (pc := 77) C rfl d_B_film_77 ?_
    refine zz_aload_n (i := 2) (pc := 79) C rfl rfl d_B_film_79 ?_
    obtain ⟨q8, hq8, h⟩ := zz_bdE h
    refine zz_cVi (as := [.int v4, .ref v2]) (st := []) (pc := 80) C (zm_B_isFilmOf hv2 hq8) zcv_B_isFilmOf zsh_0 zl_11_298 (by omega) (Nat.le_of_ble_eq_true rfl) d_B_film_80 rfl rfl ?_
    refine zz_if_eq (tgt := 95) (pc := 83) C (by decide) d_B_film_83 (fun hc9 => ?_) (fun hc9 => ?_)
    · rw [if_pos hc9] at h
      refine zz_iinc (lo' := [some (.ref 0), none, some (.ref v2), some (.int v3), some (.int (v4 + (1 : Int32)))]) (pc := 95) C rfl (zz_inc zki_1) rfl rfl d_B_film_95 ?_
      refine zz_goto (tgt := 67) (pc := 98) C (by decide) d_B_film_98 ?_
      exact ih v2 v3 (v4 + (1 : Int32)) q8.2 hv2 h
    · rw [if_neg hc9] at h
      refine zz_iload_n (i := 3) (pc := 86) C rfl rfl d_B_film_86 ?_
      refine zz_iconst (pc := 87) C zki_1 d_B_film_87 ?_
      refine zz_iload (i := 4) (pc := 88) C rfl d_B_film_88 ?_
      refine zz_iconst (pc := 90) C zki_1 d_B_film_90 ?_
      refine zz_iadd (pc := 91) C d_B_film_91 ?_
      refine zz_ishl (pc := 92) C d_B_film_92 ?_
      refine zz_ior (pc := 93) C d_B_film_93 ?_
      refine zz_istore_n (i := 3) (lo' := [some (.ref 0), none, some (.ref v2), some (.int (v3 ||| ((1 : Int32) <<< ((v4 + (1 : Int32)) &&& 31)))), some (.int v4)]) (pc := 94) C rfl (Nat.le_of_ble_eq_true rfl) rfl rfl d_B_film_94 ?_
      refine zz_iinc (lo' := [some (.ref 0), none, some (.ref v2), some (.int (v3 ||| ((1 : Int32) <<< ((v4 + (1 : Int32)) &&& 31)))), some (.int (v4 + (1 : Int32)))]) (pc := 95) C rfl (zz_inc zki_1) rfl rfl d_B_film_95 ?_
      refine zz_goto (tgt := 67) (pc := 98) C (by decide) d_B_film_98 ?_
      exact ih v2 (v3 ||| ((1 : Int32) <<< ((v4 + (1 : Int32)) &&& 31))) (v4 + (1 : Int32)) q8.2 hv2 h
set_option maxHeartbeats 4000000 in
set_option maxRecDepth 100000 in
theorem zf_B_film {G : zz_G} {l : Launch} {Z : zz_Z} {q : Int32 × zz_S} {s : zz_S} (C : zz_Cx G l "OneBlanket" "film" prog_1_method_33_code 5 (some .int) 9 (some (.int q.1), zsh, q.2) Z) (a1 : Int32) (h : f_B_film a1 s = some q) : Z 0 [some (.ref 0), some (.int a1), none, none, none] [] zsh s := by
  unfold f_B_film at h
  refine zz_iload_n (i := 1) (pc := 0) C rfl rfl d_B_film_0 ?_
  refine zz_cSi (as := [.int a1]) (st := []) (pc := 1) C (zm_B_hasShelf rfl) zcs_B_hasShelf zl_11_171 (by omega) (Nat.le_of_ble_eq_true rfl) d_B_film_1 rfl rfl ?_
  refine zz_if_ne (tgt := 9) (pc := 4) C (by decide) d_B_film_4 (fun hc1 => ?_) (fun hc1 => ?_)
  · rw [if_neg hc1] at h
    refine zz_aload_n (i := 0) (pc := 9) C rfl rfl d_B_film_9 ?_
    refine zz_getR (pc := 10) C zl_11_68 zsh_0 rfl d_B_film_10 ?_
    refine zz_iload_n (i := 1) (pc := 13) C rfl rfl d_B_film_13 ?_
    obtain ⟨hi2, h⟩ := zz_ckE h
    refine zz_aald (pc := 14) C rfl zsh_52 (Cn := "OneBlanket$Shelf") ⟨by decide, by decide, rfl⟩ zra_52 hi2 d_B_film_14 ?_
    refine zz_astore_n (i := 2) (lo' := [some (.ref 0), some (.int a1), some (.ref (zr_52 a1)), none, none]) (pc := 15) C rfl (Nat.le_of_ble_eq_true rfl) rfl rfl d_B_film_15 ?_
    refine zz_aload_n (i := 2) (pc := 16) C rfl rfl d_B_film_16 ?_
    refine zz_cVi (as := []) (st := []) (pc := 17) C (zm_Shelf_isEmpty (zrm_52 hi2) rfl) zcv_Shelf_isEmpty (zS7_sh (zrm_52 hi2)) zl_11_174 (by omega) (Nat.le_of_ble_eq_true rfl) d_B_film_17 rfl rfl ?_
    refine zz_if_eq (tgt := 26) (pc := 20) C (by decide) d_B_film_20 (fun hc3 => ?_) (fun hc3 => ?_)
    · rw [if_pos hc3] at h
      refine zz_aload_n (i := 2) (pc := 26) C rfl rfl d_B_film_26 ?_
      refine zz_iconst (pc := 27) C zki_1 d_B_film_27 ?_
      refine zz_cVi (as := [.int (1 : Int32)]) (st := []) (pc := 28) C (zm_Shelf_isRowOf (zrm_52 hi2) rfl) zcv_Shelf_isRowOf (zS7_sh (zrm_52 hi2)) zl_11_178 (by omega) (Nat.le_of_ble_eq_true rfl) d_B_film_28 rfl rfl ?_
      refine zz_if_ne (tgt := 37) (pc := 31) C (by decide) d_B_film_31 (fun hc4 => ?_) (fun hc4 => ?_)
      · rw [if_neg hc4] at h
        refine zz_aload_n (i := 2) (pc := 37) C rfl rfl d_B_film_37 ?_
        refine zz_getI (pc := 38) C zl_11_185 (zS7_sh (zrm_52 hi2)) rfl d_B_film_38 ?_
        refine zz_bipush (pc := 41) C zkb_9 d_B_film_41 ?_
        refine zz_icmp_ge (tgt := 49) (pc := 43) C (by decide) d_B_film_43 (fun hc5 => ?_) (fun hc5 => ?_)
        · rw [if_pos hc5] at h
          refine zz_aload_n (i := 0) (pc := 49) C rfl rfl d_B_film_49 ?_
          refine zz_getR (pc := 50) C zl_11_12 zsh_0 rfl d_B_film_50 ?_
          refine zz_getI (pc := 53) C zl_11_95 zsh_1 rfl d_B_film_53 ?_
          refine zz_if_ne (tgt := 62) (pc := 56) C (by decide) d_B_film_56 (fun hc6 => ?_) (fun hc6 => ?_)
          · rw [if_neg hc6] at h
            refine zz_iconst (pc := 62) C zki_0 d_B_film_62 ?_
            refine zz_istore_n (i := 3) (lo' := [some (.ref 0), some (.int a1), some (.ref (zr_52 a1)), some (.int (0 : Int32)), none]) (pc := 63) C rfl (Nat.le_of_ble_eq_true rfl) rfl rfl d_B_film_63 ?_
            refine zz_iconst (pc := 64) C zki_m1 d_B_film_64 ?_
            refine zz_istore (i := 4) (lo' := [some (.ref 0), some (.int a1), some (.ref (zr_52 a1)), some (.int (0 : Int32)), some (.int (-1 : Int32))]) (pc := 65) C (Nat.le_of_ble_eq_true rfl) rfl rfl d_B_film_65 ?_
            refine zz_fg C [true, false, true, true, true] rfl rfl ?_
            exact zf_B_film_L67 C zF (zr_52 a1) (0 : Int32) (-1 : Int32) s (zrm_52 hi2) h
          · rw [if_pos hc6] at h
            refine zz_bipush (pc := 59) C zkb_m5 d_B_film_59 ?_
            replace h := Option.some.inj h
            subst h
            exact zz_ret (pc := 61) C (v := some (.int (-5 : Int32))) d_B_film_61 (Or.inl ⟨_, _, rfl, rfl, rfl, rfl⟩) rfl
        · rw [if_neg hc5] at h
          refine zz_bipush (pc := 46) C zkb_m13 d_B_film_46 ?_
          replace h := Option.some.inj h
          subst h
          exact zz_ret (pc := 48) C (v := some (.int (-13 : Int32))) d_B_film_48 (Or.inl ⟨_, _, rfl, rfl, rfl, rfl⟩) rfl
      · rw [if_pos hc4] at h
        refine zz_bipush (pc := 34) C zkb_m12 d_B_film_34 ?_
        replace h := Option.some.inj h
        subst h
        exact zz_ret (pc := 36) C (v := some (.int (-12 : Int32))) d_B_film_36 (Or.inl ⟨_, _, rfl, rfl, rfl, rfl⟩) rfl
    · rw [if_neg hc3] at h
      refine zz_bipush (pc := 23) C zkb_m11 d_B_film_23 ?_
      replace h := Option.some.inj h
      subst h
      exact zz_ret (pc := 25) C (v := some (.int (-11 : Int32))) d_B_film_25 (Or.inl ⟨_, _, rfl, rfl, rfl, rfl⟩) rfl
  · rw [if_pos hc1] at h
    refine zz_iconst (pc := 7) C zki_m1 d_B_film_7 ?_
    replace h := Option.some.inj h
    subst h
    exact zz_ret (pc := 8) C (v := some (.int (-1 : Int32))) d_B_film_8 (Or.inl ⟨_, _, rfl, rfl, rfl, rfl⟩) rfl
theorem zm_B_film {G : zz_G} {l : Launch} {s : zz_S} {q : Int32 × zz_S} {a1 : Int32} (h : f_B_film a1 s = some q) : zz_M G l 9 y_B_film prog_1_method_33_code 5 (some .int) [.ref 0, .int a1] zsh s (some (.int q.1), zsh, q.2) :=
  zz_M.intro (by decide) (Nat.le_of_ble_eq_true rfl) (Nat.le_refl _) (Nat.le_refl _) (fun Z C => zf_B_film C a1 h)
theorem d_B_force_0 : decode prog_1_method_12_code 0 = .ok (.iload_n 1, 1) := by decide +kernel
theorem d_B_force_1 : decode prog_1_method_12_code 1 = .ok (.iconst (-1), 1) := by decide +kernel
theorem d_B_force_2 : decode prog_1_method_12_code 2 = .ok (.if_icmp .lt (11), 3) := by decide +kernel
theorem d_B_force_5 : decode prog_1_method_12_code 5 = .ok (.iload_n 1, 1) := by decide +kernel
theorem d_B_force_6 : decode prog_1_method_12_code 6 = .ok (.aload_n 0, 1) := by decide +kernel
theorem d_B_force_7 : decode prog_1_method_12_code 7 = .ok (.getfield 143, 3) := by decide +kernel
theorem d_B_force_10 : decode prog_1_method_12_code 10 = .ok (.if_icmp .lt (6), 3) := by decide +kernel
theorem d_B_force_13 : decode prog_1_method_12_code 13 = .ok (.ldc 127, 2) := by decide +kernel
theorem d_B_force_15 : decode prog_1_method_12_code 15 = .ok (.ireturn, 1) := by decide +kernel
theorem d_B_force_16 : decode prog_1_method_12_code 16 = .ok (.aload_n 0, 1) := by decide +kernel
theorem d_B_force_17 : decode prog_1_method_12_code 17 = .ok (.getfield 79, 3) := by decide +kernel
theorem d_B_force_20 : decode prog_1_method_12_code 20 = .ok (.istore_n 2, 1) := by decide +kernel
theorem d_B_force_21 : decode prog_1_method_12_code 21 = .ok (.aload_n 0, 1) := by decide +kernel
theorem d_B_force_22 : decode prog_1_method_12_code 22 = .ok (.iload_n 1, 1) := by decide +kernel
theorem d_B_force_23 : decode prog_1_method_12_code 23 = .ok (.putfield 79, 3) := by decide +kernel
theorem d_B_force_26 : decode prog_1_method_12_code 26 = .ok (.iload_n 2, 1) := by decide +kernel
theorem d_B_force_27 : decode prog_1_method_12_code 27 = .ok (.ireturn, 1) := by decide +kernel
set_option maxHeartbeats 4000000 in
set_option maxRecDepth 100000 in
theorem zf_B_force {G : zz_G} {l : Launch} {Z : zz_Z} {q : Int32 × zz_S} {s : zz_S} (C : zz_Cx G l "OneBlanket" "force" prog_1_method_12_code 3 (some .int) 2 (some (.int q.1), zsh, q.2) Z) (a1 : Int32) (h : f_B_force a1 s = some q) : Z 0 [some (.ref 0), some (.int a1), none] [] zsh s := by
  unfold f_B_force at h
  refine zz_iload_n (i := 1) (pc := 0) C rfl rfl d_B_force_0 ?_
  refine zz_iconst (pc := 1) C zki_m1 d_B_force_1 ?_
  refine zz_icmp_lt (tgt := 13) (pc := 2) C (by decide) d_B_force_2 (fun hc1 => ?_) (fun hc1 => ?_)
  · rw [if_pos hc1] at h
    refine zz_ldc (pc := 13) C zl_11_127 d_B_force_13 ?_
    replace h := Option.some.inj h
    subst h
    exact zz_ret (pc := 15) C (v := some (.int (-2000000000 : Int32))) d_B_force_15 (Or.inl ⟨_, _, rfl, rfl, rfl, rfl⟩) rfl
  · rw [if_neg hc1] at h
    refine zz_iload_n (i := 1) (pc := 5) C rfl rfl d_B_force_5 ?_
    refine zz_aload_n (i := 0) (pc := 6) C rfl rfl d_B_force_6 ?_
    refine zz_getI (pc := 7) C zl_11_143 zsh_0 rfl d_B_force_7 ?_
    refine zz_icmp_lt (tgt := 16) (pc := 10) C (by decide) d_B_force_10 (fun hc2 => ?_) (fun hc2 => ?_)
    · rw [if_pos hc2] at h
      refine zz_aload_n (i := 0) (pc := 16) C rfl rfl d_B_force_16 ?_
      refine zz_getI (pc := 17) C zl_11_79 zsh_0 rfl d_B_force_17 ?_
      refine zz_istore_n (i := 2) (lo' := [some (.ref 0), some (.int a1), some (.int (s.1 0 12))]) (pc := 20) C rfl (Nat.le_of_ble_eq_true rfl) rfl rfl d_B_force_20 ?_
      refine zz_aload_n (i := 0) (pc := 21) C rfl rfl d_B_force_21 ?_
      refine zz_iload_n (i := 1) (pc := 22) C rfl rfl d_B_force_22 ?_
      refine zz_putI' (pc := 23) C zl_11_79 zpf_11_12 zsh_0 rfl d_B_force_23 ?_
      refine zz_iload_n (i := 2) (pc := 26) C rfl rfl d_B_force_26 ?_
      replace h := Option.some.inj h
      subst h
      exact zz_ret (pc := 27) C (v := some (.int (s.1 0 12))) d_B_force_27 (Or.inl ⟨_, _, rfl, rfl, rfl, rfl⟩) rfl
    · rw [if_neg hc2] at h
      refine zz_ldc (pc := 13) C zl_11_127 d_B_force_13 ?_
      replace h := Option.some.inj h
      subst h
      exact zz_ret (pc := 15) C (v := some (.int (-2000000000 : Int32))) d_B_force_15 (Or.inl ⟨_, _, rfl, rfl, rfl, rfl⟩) rfl
theorem zm_B_force {G : zz_G} {l : Launch} {s : zz_S} {q : Int32 × zz_S} {a1 : Int32} (h : f_B_force a1 s = some q) : zz_M G l 2 y_B_force prog_1_method_12_code 3 (some .int) [.ref 0, .int a1] zsh s (some (.int q.1), zsh, q.2) :=
  zz_M.intro (by decide) (Nat.le_of_ble_eq_true rfl) (Nat.le_refl _) (Nat.le_refl _) (fun Z C => zf_B_force C a1 h)
theorem d_B_keep_0 : decode prog_1_method_40_code 0 = .ok (.iload_n 1, 1) := by decide +kernel
theorem d_B_keep_1 : decode prog_1_method_40_code 1 = .ok (.invokestatic 171, 3) := by decide +kernel
theorem d_B_keep_4 : decode prog_1_method_40_code 4 = .ok (.ifCond .eq (19), 3) := by decide +kernel
theorem d_B_keep_7 : decode prog_1_method_40_code 7 = .ok (.iload_n 2, 1) := by decide +kernel
theorem d_B_keep_8 : decode prog_1_method_40_code 8 = .ok (.iconst (-1), 1) := by decide +kernel
theorem d_B_keep_9 : decode prog_1_method_40_code 9 = .ok (.if_icmp .lt (14), 3) := by decide +kernel
theorem d_B_keep_12 : decode prog_1_method_40_code 12 = .ok (.iload_n 2, 1) := by decide +kernel
theorem d_B_keep_13 : decode prog_1_method_40_code 13 = .ok (.aload_n 0, 1) := by decide +kernel
theorem d_B_keep_14 : decode prog_1_method_40_code 14 = .ok (.getfield 62, 3) := by decide +kernel
theorem d_B_keep_17 : decode prog_1_method_40_code 17 = .ok (.getfield 321, 3) := by decide +kernel
theorem d_B_keep_20 : decode prog_1_method_40_code 20 = .ok (.if_icmp .lt (5), 3) := by decide +kernel
theorem d_B_keep_23 : decode prog_1_method_40_code 23 = .ok (.iconst (-1), 1) := by decide +kernel
theorem d_B_keep_24 : decode prog_1_method_40_code 24 = .ok (.ireturn, 1) := by decide +kernel
theorem d_B_keep_25 : decode prog_1_method_40_code 25 = .ok (.iload_n 2, 1) := by decide +kernel
theorem d_B_keep_26 : decode prog_1_method_40_code 26 = .ok (.iconst (-1), 1) := by decide +kernel
theorem d_B_keep_27 : decode prog_1_method_40_code 27 = .ok (.if_icmp .ne (15), 3) := by decide +kernel
theorem d_B_keep_30 : decode prog_1_method_40_code 30 = .ok (.aload_n 0, 1) := by decide +kernel
theorem d_B_keep_31 : decode prog_1_method_40_code 31 = .ok (.getfield 68, 3) := by decide +kernel
theorem d_B_keep_34 : decode prog_1_method_40_code 34 = .ok (.iload_n 1, 1) := by decide +kernel
theorem d_B_keep_35 : decode prog_1_method_40_code 35 = .ok (.aaload, 1) := by decide +kernel
theorem d_B_keep_36 : decode prog_1_method_40_code 36 = .ok (.invokevirtual 333, 3) := by decide +kernel
theorem d_B_keep_39 : decode prog_1_method_40_code 39 = .ok (.goto (13), 3) := by decide +kernel
theorem d_B_keep_42 : decode prog_1_method_40_code 42 = .ok (.aload_n 0, 1) := by decide +kernel
theorem d_B_keep_43 : decode prog_1_method_40_code 43 = .ok (.getfield 68, 3) := by decide +kernel
theorem d_B_keep_46 : decode prog_1_method_40_code 46 = .ok (.iload_n 1, 1) := by decide +kernel
theorem d_B_keep_47 : decode prog_1_method_40_code 47 = .ok (.aaload, 1) := by decide +kernel
theorem d_B_keep_48 : decode prog_1_method_40_code 48 = .ok (.iload_n 2, 1) := by decide +kernel
theorem d_B_keep_49 : decode prog_1_method_40_code 49 = .ok (.invokevirtual 336, 3) := by decide +kernel
theorem d_B_keep_52 : decode prog_1_method_40_code 52 = .ok (.iconst 1, 1) := by decide +kernel
theorem d_B_keep_53 : decode prog_1_method_40_code 53 = .ok (.ireturn, 1) := by decide +kernel
set_option maxHeartbeats 4000000 in
set_option maxRecDepth 100000 in
theorem zf_B_keep {G : zz_G} {l : Launch} {Z : zz_Z} {q : Int32 × zz_S} {s : zz_S} (C : zz_Cx G l "OneBlanket" "keep" prog_1_method_40_code 3 (some .int) 3 (some (.int q.1), zsh, q.2) Z) (a1 : Int32) (a2 : Int32) (h : f_B_keep a1 a2 s = some q) : Z 0 [some (.ref 0), some (.int a1), some (.int a2)] [] zsh s := by
  unfold f_B_keep at h
  refine zz_iload_n (i := 1) (pc := 0) C rfl rfl d_B_keep_0 ?_
  refine zz_cSi (as := [.int a1]) (st := []) (pc := 1) C (zm_B_hasShelf rfl) zcs_B_hasShelf zl_11_171 (by omega) (Nat.le_of_ble_eq_true rfl) d_B_keep_1 rfl rfl ?_
  refine zz_if_eq (tgt := 23) (pc := 4) C (by decide) d_B_keep_4 (fun hc1 => ?_) (fun hc1 => ?_)
  · rw [if_pos hc1] at h
    refine zz_iconst (pc := 23) C zki_m1 d_B_keep_23 ?_
    replace h := Option.some.inj h
    subst h
    exact zz_ret (pc := 24) C (v := some (.int (-1 : Int32))) d_B_keep_24 (Or.inl ⟨_, _, rfl, rfl, rfl, rfl⟩) rfl
  · rw [if_neg hc1] at h
    refine zz_iload_n (i := 2) (pc := 7) C rfl rfl d_B_keep_7 ?_
    refine zz_iconst (pc := 8) C zki_m1 d_B_keep_8 ?_
    refine zz_icmp_lt (tgt := 23) (pc := 9) C (by decide) d_B_keep_9 (fun hc2 => ?_) (fun hc2 => ?_)
    · rw [if_pos hc2] at h
      refine zz_iconst (pc := 23) C zki_m1 d_B_keep_23 ?_
      replace h := Option.some.inj h
      subst h
      exact zz_ret (pc := 24) C (v := some (.int (-1 : Int32))) d_B_keep_24 (Or.inl ⟨_, _, rfl, rfl, rfl, rfl⟩) rfl
    · rw [if_neg hc2] at h
      refine zz_iload_n (i := 2) (pc := 12) C rfl rfl d_B_keep_12 ?_
      refine zz_aload_n (i := 0) (pc := 13) C rfl rfl d_B_keep_13 ?_
      refine zz_getR (pc := 14) C zl_11_62 zsh_0 rfl d_B_keep_14 ?_
      refine zz_getI (pc := 17) C zl_11_321 zsh_49 rfl d_B_keep_17 ?_
      refine zz_icmp_lt (tgt := 25) (pc := 20) C (by decide) d_B_keep_20 (fun hc3 => ?_) (fun hc3 => ?_)
      · rw [if_pos hc3] at h
        refine zz_iload_n (i := 2) (pc := 25) C rfl rfl d_B_keep_25 ?_
        refine zz_iconst (pc := 26) C zki_m1 d_B_keep_26 ?_
        refine zz_icmp_ne (tgt := 42) (pc := 27) C (by decide) d_B_keep_27 (fun hc4 => ?_) (fun hc4 => ?_)
        · rw [if_neg hc4] at h
          refine zz_aload_n (i := 0) (pc := 42) C rfl rfl d_B_keep_42 ?_
          refine zz_getR (pc := 43) C zl_11_68 zsh_0 rfl d_B_keep_43 ?_
          refine zz_iload_n (i := 1) (pc := 46) C rfl rfl d_B_keep_46 ?_
          obtain ⟨hi5, h⟩ := zz_ckE h
          refine zz_aald (pc := 47) C rfl zsh_52 (Cn := "OneBlanket$Shelf") ⟨by decide, by decide, rfl⟩ zra_52 hi5 d_B_keep_47 ?_
          refine zz_iload_n (i := 2) (pc := 48) C rfl rfl d_B_keep_48 ?_
          refine zz_cVv (as := [.int a2]) (st := []) (pc := 49) C (zm_Shelf_holdBody (zrm_52 hi5) rfl) zcv_Shelf_holdBody (zS7_sh (zrm_52 hi5)) zl_11_336 (by omega) (Nat.le_of_ble_eq_true rfl) d_B_keep_49 rfl rfl ?_
          refine zz_iconst (pc := 52) C zki_1 d_B_keep_52 ?_
          replace h := Option.some.inj h
          subst h
          exact zz_ret (pc := 53) C (v := some (.int (1 : Int32))) d_B_keep_53 (Or.inl ⟨_, _, rfl, rfl, rfl, rfl⟩) rfl
        · rw [if_pos hc4] at h
          refine zz_aload_n (i := 0) (pc := 30) C rfl rfl d_B_keep_30 ?_
          refine zz_getR (pc := 31) C zl_11_68 zsh_0 rfl d_B_keep_31 ?_
          refine zz_iload_n (i := 1) (pc := 34) C rfl rfl d_B_keep_34 ?_
          obtain ⟨hi6, h⟩ := zz_ckE h
          refine zz_aald (pc := 35) C rfl zsh_52 (Cn := "OneBlanket$Shelf") ⟨by decide, by decide, rfl⟩ zra_52 hi6 d_B_keep_35 ?_
          refine zz_cVv (as := []) (st := []) (pc := 36) C (zm_Shelf_holdNothing (zrm_52 hi6) rfl) zcv_Shelf_holdNothing (zS7_sh (zrm_52 hi6)) zl_11_333 (by omega) (Nat.le_of_ble_eq_true rfl) d_B_keep_36 rfl rfl ?_
          refine zz_goto (tgt := 52) (pc := 39) C (by decide) d_B_keep_39 ?_
          refine zz_iconst (pc := 52) C zki_1 d_B_keep_52 ?_
          replace h := Option.some.inj h
          subst h
          exact zz_ret (pc := 53) C (v := some (.int (1 : Int32))) d_B_keep_53 (Or.inl ⟨_, _, rfl, rfl, rfl, rfl⟩) rfl
      · rw [if_neg hc3] at h
        refine zz_iconst (pc := 23) C zki_m1 d_B_keep_23 ?_
        replace h := Option.some.inj h
        subst h
        exact zz_ret (pc := 24) C (v := some (.int (-1 : Int32))) d_B_keep_24 (Or.inl ⟨_, _, rfl, rfl, rfl, rfl⟩) rfl
theorem zm_B_keep {G : zz_G} {l : Launch} {s : zz_S} {q : Int32 × zz_S} {a1 : Int32} {a2 : Int32} (h : f_B_keep a1 a2 s = some q) : zz_M G l 3 y_B_keep prog_1_method_40_code 3 (some .int) [.ref 0, .int a1, .int a2] zsh s (some (.int q.1), zsh, q.2) :=
  zz_M.intro (by decide) (Nat.le_of_ble_eq_true rfl) (Nat.le_refl _) (Nat.le_refl _) (fun Z C => zf_B_keep C a1 a2 h)
theorem d_B_law_0 : decode prog_1_method_10_code 0 = .ok (.aload_n 0, 1) := by decide +kernel
theorem d_B_law_1 : decode prog_1_method_10_code 1 = .ok (.getfield 143, 3) := by decide +kernel
theorem d_B_law_4 : decode prog_1_method_10_code 4 = .ok (.iconst 4, 1) := by decide +kernel
theorem d_B_law_5 : decode prog_1_method_10_code 5 = .ok (.if_icmp .lt (6), 3) := by decide +kernel
theorem d_B_law_8 : decode prog_1_method_10_code 8 = .ok (.bipush (-3), 2) := by decide +kernel
theorem d_B_law_10 : decode prog_1_method_10_code 10 = .ok (.ireturn, 1) := by decide +kernel
theorem d_B_law_11 : decode prog_1_method_10_code 11 = .ok (.aload_n 0, 1) := by decide +kernel
theorem d_B_law_12 : decode prog_1_method_10_code 12 = .ok (.getfield 55, 3) := by decide +kernel
theorem d_B_law_15 : decode prog_1_method_10_code 15 = .ok (.invokevirtual 146, 3) := by decide +kernel
theorem d_B_law_18 : decode prog_1_method_10_code 18 = .ok (.istore_n 1, 1) := by decide +kernel
theorem d_B_law_19 : decode prog_1_method_10_code 19 = .ok (.iload_n 1, 1) := by decide +kernel
theorem d_B_law_20 : decode prog_1_method_10_code 20 = .ok (.ifCond .lt (8), 3) := by decide +kernel
theorem d_B_law_23 : decode prog_1_method_10_code 23 = .ok (.bipush (-100), 2) := by decide +kernel
theorem d_B_law_25 : decode prog_1_method_10_code 25 = .ok (.iload_n 1, 1) := by decide +kernel
theorem d_B_law_26 : decode prog_1_method_10_code 26 = .ok (.isub, 1) := by decide +kernel
theorem d_B_law_27 : decode prog_1_method_10_code 27 = .ok (.ireturn, 1) := by decide +kernel
theorem d_B_law_28 : decode prog_1_method_10_code 28 = .ok (.aload_n 0, 1) := by decide +kernel
theorem d_B_law_29 : decode prog_1_method_10_code 29 = .ok (.getfield 32, 3) := by decide +kernel
theorem d_B_law_32 : decode prog_1_method_10_code 32 = .ok (.aload_n 0, 1) := by decide +kernel
theorem d_B_law_33 : decode prog_1_method_10_code 33 = .ok (.getfield 143, 3) := by decide +kernel
theorem d_B_law_36 : decode prog_1_method_10_code 36 = .ok (.aaload, 1) := by decide +kernel
theorem d_B_law_37 : decode prog_1_method_10_code 37 = .ok (.aload_n 0, 1) := by decide +kernel
theorem d_B_law_38 : decode prog_1_method_10_code 38 = .ok (.getfield 55, 3) := by decide +kernel
theorem d_B_law_41 : decode prog_1_method_10_code 41 = .ok (.getfield 150, 3) := by decide +kernel
theorem d_B_law_44 : decode prog_1_method_10_code 44 = .ok (.invokevirtual 154, 3) := by decide +kernel
theorem d_B_law_47 : decode prog_1_method_10_code 47 = .ok (.aload_n 0, 1) := by decide +kernel
theorem d_B_law_48 : decode prog_1_method_10_code 48 = .ok (.dup, 1) := by decide +kernel
theorem d_B_law_49 : decode prog_1_method_10_code 49 = .ok (.getfield 143, 3) := by decide +kernel
theorem d_B_law_52 : decode prog_1_method_10_code 52 = .ok (.iconst 1, 1) := by decide +kernel
theorem d_B_law_53 : decode prog_1_method_10_code 53 = .ok (.iadd, 1) := by decide +kernel
theorem d_B_law_54 : decode prog_1_method_10_code 54 = .ok (.putfield 143, 3) := by decide +kernel
theorem d_B_law_57 : decode prog_1_method_10_code 57 = .ok (.aload_n 0, 1) := by decide +kernel
theorem d_B_law_58 : decode prog_1_method_10_code 58 = .ok (.getfield 143, 3) := by decide +kernel
theorem d_B_law_61 : decode prog_1_method_10_code 61 = .ok (.iconst 1, 1) := by decide +kernel
theorem d_B_law_62 : decode prog_1_method_10_code 62 = .ok (.isub, 1) := by decide +kernel
theorem d_B_law_63 : decode prog_1_method_10_code 63 = .ok (.ireturn, 1) := by decide +kernel
set_option maxHeartbeats 4000000 in
set_option maxRecDepth 100000 in
theorem zf_B_law {G : zz_G} {l : Launch} {Z : zz_Z} (hex : G.2.2.2.2 = false) {q : Int32 × zz_S} {s : zz_S} (C : zz_Cx G l "OneBlanket" "law" prog_1_method_10_code 2 (some .int) 210 (some (.int q.1), zsh, q.2) Z) (h : f_B_law s = some q) : Z 0 [some (.ref 0), none] [] zsh s := by
  unfold f_B_law at h
  refine zz_aload_n (i := 0) (pc := 0) C rfl rfl d_B_law_0 ?_
  refine zz_getI (pc := 1) C zl_11_143 zsh_0 rfl d_B_law_1 ?_
  refine zz_iconst (pc := 4) C zki_4 d_B_law_4 ?_
  refine zz_icmp_lt (tgt := 11) (pc := 5) C (by decide) d_B_law_5 (fun hc1 => ?_) (fun hc1 => ?_)
  · rw [if_pos hc1] at h
    refine zz_aload_n (i := 0) (pc := 11) C rfl rfl d_B_law_11 ?_
    refine zz_getR (pc := 12) C zl_11_55 zsh_0 rfl d_B_law_12 ?_
    obtain ⟨q2, hq2, h⟩ := zz_bdE h
    refine zz_cVi (as := []) (st := []) (pc := 15) C (zm_Tape_readAll hq2) zcv_Tape_readAll zsh_44 zl_11_146 (by omega) (Nat.le_of_ble_eq_true rfl) d_B_law_15 rfl rfl ?_
    refine zz_istore_n (i := 1) (lo' := [some (.ref 0), some (.int q2.1)]) (pc := 18) C rfl (Nat.le_of_ble_eq_true rfl) rfl rfl d_B_law_18 ?_
    refine zz_iload_n (i := 1) (pc := 19) C rfl rfl d_B_law_19 ?_
    refine zz_if_lt (tgt := 28) (pc := 20) C (by decide) d_B_law_20 (fun hc3 => ?_) (fun hc3 => ?_)
    · rw [if_pos hc3] at h
      refine zz_aload_n (i := 0) (pc := 28) C rfl rfl d_B_law_28 ?_
      refine zz_getR (pc := 29) C zl_11_32 zsh_0 rfl d_B_law_29 ?_
      refine zz_aload_n (i := 0) (pc := 32) C rfl rfl d_B_law_32 ?_
      refine zz_getI (pc := 33) C zl_11_143 zsh_0 rfl d_B_law_33 ?_
      obtain ⟨hi4, h⟩ := zz_ckE h
      refine zz_aald (pc := 36) C rfl zsh_19 (Cn := "OneBlanket$Text") ⟨by decide, by decide, rfl⟩ zra_19 hi4 d_B_law_36 ?_
      refine zz_aload_n (i := 0) (pc := 37) C rfl rfl d_B_law_37 ?_
      refine zz_getR (pc := 38) C zl_11_55 zsh_0 rfl d_B_law_38 ?_
      refine zz_getR (pc := 41) C zl_11_150 zsh_44 rfl d_B_law_41 ?_
      obtain ⟨q5, hq5, h⟩ := zz_bdE h
      refine zz_cVv (as := [.ref 45]) (st := []) (pc := 44) C (zm_Text_become hex (zrm_19 hi4) hq5) zcv_Text_become (zS6_sh (zrm_19 hi4)) zl_11_154 (by omega) (Nat.le_of_ble_eq_true rfl) d_B_law_44 rfl rfl ?_
      refine zz_aload_n (i := 0) (pc := 47) C rfl rfl d_B_law_47 ?_
      refine zz_dup (pc := 48) C rfl d_B_law_48 ?_
      refine zz_getI (pc := 49) C zl_11_143 zsh_0 rfl d_B_law_49 ?_
      refine zz_iconst (pc := 52) C zki_1 d_B_law_52 ?_
      refine zz_iadd (pc := 53) C d_B_law_53 ?_
      refine zz_putI' (pc := 54) C zl_11_143 zpf_11_11 zsh_0 rfl d_B_law_54 ?_
      refine zz_aload_n (i := 0) (pc := 57) C rfl rfl d_B_law_57 ?_
      refine zz_getIv (v := ((q5.1 0 11) + (1 : Int32))) (pc := 58) C zl_11_143 zsh_0 rfl rfl d_B_law_58 ?_
      refine zz_iconst (pc := 61) C zki_1 d_B_law_61 ?_
      refine zz_isub (pc := 62) C d_B_law_62 ?_
      replace h := Option.some.inj h
      subst h
      exact zz_ret (pc := 63) C (v := some (.int (((q5.1 0 11) + (1 : Int32)) - (1 : Int32)))) d_B_law_63 (Or.inl ⟨_, _, rfl, rfl, rfl, rfl⟩) rfl
    · rw [if_neg hc3] at h
      refine zz_bipush (pc := 23) C zkb_m100 d_B_law_23 ?_
      refine zz_iload_n (i := 1) (pc := 25) C rfl rfl d_B_law_25 ?_
      refine zz_isub (pc := 26) C d_B_law_26 ?_
      replace h := Option.some.inj h
      subst h
      exact zz_ret (pc := 27) C (v := some (.int ((-100 : Int32) - q2.1))) d_B_law_27 (Or.inl ⟨_, _, rfl, rfl, rfl, rfl⟩) rfl
  · rw [if_neg hc1] at h
    refine zz_bipush (pc := 8) C zkb_m3 d_B_law_8 ?_
    replace h := Option.some.inj h
    subst h
    exact zz_ret (pc := 10) C (v := some (.int (-3 : Int32))) d_B_law_10 (Or.inl ⟨_, _, rfl, rfl, rfl, rfl⟩) rfl
theorem zm_B_law {G : zz_G} {l : Launch} {s : zz_S} {q : Int32 × zz_S} (hex : G.2.2.2.2 = false) (h : f_B_law s = some q) : zz_M G l 210 y_B_law prog_1_method_10_code 2 (some .int) [.ref 0] zsh s (some (.int q.1), zsh, q.2) :=
  zz_M.intro (by decide) (Nat.le_of_ble_eq_true rfl) (Nat.le_refl _) (Nat.le_refl _) (fun Z C => zf_B_law hex C h)
theorem d_B_leastOf_0 : decode prog_1_method_6_code 0 = .ok (.iload_n 0, 1) := by decide +kernel
theorem d_B_leastOf_1 : decode prog_1_method_6_code 1 = .ok (.iconst 2, 1) := by decide +kernel
theorem d_B_leastOf_2 : decode prog_1_method_6_code 2 = .ok (.if_icmp .ne (7), 3) := by decide +kernel
theorem d_B_leastOf_5 : decode prog_1_method_6_code 5 = .ok (.iconst 5, 1) := by decide +kernel
theorem d_B_leastOf_6 : decode prog_1_method_6_code 6 = .ok (.goto (4), 3) := by decide +kernel
theorem d_B_leastOf_9 : decode prog_1_method_6_code 9 = .ok (.iconst 0, 1) := by decide +kernel
theorem d_B_leastOf_10 : decode prog_1_method_6_code 10 = .ok (.ireturn, 1) := by decide +kernel
set_option maxHeartbeats 4000000 in
set_option maxRecDepth 100000 in
theorem zf_B_leastOf {G : zz_G} {l : Launch} {Z : zz_Z} {sh : List zz_Sh} {q : Int32} {s : zz_S} (C : zz_Cx G l "OneBlanket" "leastOf" prog_1_method_6_code 1 (some .int) 2 (some (.int q), sh, s) Z) (a0 : Int32) (h : f_B_leastOf a0 = q) : Z 0 [some (.int a0)] [] sh s := by
  unfold f_B_leastOf at h
  refine zz_iload_n (i := 0) (pc := 0) C rfl rfl d_B_leastOf_0 ?_
  refine zz_iconst (pc := 1) C zki_2 d_B_leastOf_1 ?_
  refine zz_icmp_ne (tgt := 9) (pc := 2) C (by decide) d_B_leastOf_2 (fun hc1 => ?_) (fun hc1 => ?_)
  · rw [if_neg hc1] at h
    refine zz_iconst (pc := 9) C zki_0 d_B_leastOf_9 ?_
    subst h
    exact zz_ret (pc := 10) C (v := some (.int (0 : Int32))) d_B_leastOf_10 (Or.inl ⟨_, _, rfl, rfl, rfl, rfl⟩) rfl
  · rw [if_pos hc1] at h
    refine zz_iconst (pc := 5) C zki_5 d_B_leastOf_5 ?_
    refine zz_goto (tgt := 10) (pc := 6) C (by decide) d_B_leastOf_6 ?_
    subst h
    exact zz_ret (pc := 10) C (v := some (.int (5 : Int32))) d_B_leastOf_10 (Or.inl ⟨_, _, rfl, rfl, rfl, rfl⟩) rfl
theorem zm_B_leastOf {G : zz_G} {l : Launch} {sh : List zz_Sh} {s : zz_S} {q : Int32} {a0 : Int32} (h : f_B_leastOf a0 = q) : zz_M G l 2 y_B_leastOf prog_1_method_6_code 1 (some .int) [.int a0] sh s (some (.int q), sh, s) :=
  zz_M.intro (by decide) (Nat.le_of_ble_eq_true rfl) (Nat.le_refl _) (Nat.le_refl _) (fun Z C => zf_B_leastOf C a0 h)
theorem d_B_lies_0 : decode prog_1_method_17_code 0 = .ok (.aload_n 0, 1) := by decide +kernel
theorem d_B_lies_1 : decode prog_1_method_17_code 1 = .ok (.getfield 12, 3) := by decide +kernel
theorem d_B_lies_4 : decode prog_1_method_17_code 4 = .ok (.iload_n 1, 1) := by decide +kernel
theorem d_B_lies_5 : decode prog_1_method_17_code 5 = .ok (.invokevirtual 105, 3) := by decide +kernel
theorem d_B_lies_8 : decode prog_1_method_17_code 8 = .ok (.ifCond .eq (10), 3) := by decide +kernel
theorem d_B_lies_11 : decode prog_1_method_17_code 11 = .ok (.iload_n 2, 1) := by decide +kernel
theorem d_B_lies_12 : decode prog_1_method_17_code 12 = .ok (.invokestatic 192, 3) := by decide +kernel
theorem d_B_lies_15 : decode prog_1_method_17_code 15 = .ok (.ifCond .ne (6), 3) := by decide +kernel
theorem d_B_lies_18 : decode prog_1_method_17_code 18 = .ok (.ldc 127, 2) := by decide +kernel
theorem d_B_lies_20 : decode prog_1_method_17_code 20 = .ok (.ireturn, 1) := by decide +kernel
theorem d_B_lies_21 : decode prog_1_method_17_code 21 = .ok (.aload_n 0, 1) := by decide +kernel
theorem d_B_lies_22 : decode prog_1_method_17_code 22 = .ok (.iload_n 2, 1) := by decide +kernel
theorem d_B_lies_23 : decode prog_1_method_17_code 23 = .ok (.invokevirtual 195, 3) := by decide +kernel
theorem d_B_lies_26 : decode prog_1_method_17_code 26 = .ok (.aload_n 0, 1) := by decide +kernel
theorem d_B_lies_27 : decode prog_1_method_17_code 27 = .ok (.getfield 41, 3) := by decide +kernel
theorem d_B_lies_30 : decode prog_1_method_17_code 30 = .ok (.getfield 198, 3) := by decide +kernel
theorem d_B_lies_33 : decode prog_1_method_17_code 33 = .ok (.getfield 202, 3) := by decide +kernel
theorem d_B_lies_36 : decode prog_1_method_17_code 36 = .ok (.iload_n 1, 1) := by decide +kernel
theorem d_B_lies_37 : decode prog_1_method_17_code 37 = .ok (.iaload, 1) := by decide +kernel
theorem d_B_lies_38 : decode prog_1_method_17_code 38 = .ok (.ireturn, 1) := by decide +kernel
set_option maxHeartbeats 4000000 in
set_option maxRecDepth 100000 in
theorem zf_B_lies {G : zz_G} {l : Launch} {Z : zz_Z} {q : Int32 × zz_S} {s : zz_S} (C : zz_Cx G l "OneBlanket" "lies" prog_1_method_17_code 3 (some .int) 9 (some (.int q.1), zsh, q.2) Z) (a1 : Int32) (a2 : Int32) (h : f_B_lies a1 a2 s = some q) : Z 0 [some (.ref 0), some (.int a1), some (.int a2)] [] zsh s := by
  unfold f_B_lies at h
  refine zz_aload_n (i := 0) (pc := 0) C rfl rfl d_B_lies_0 ?_
  refine zz_getR (pc := 1) C zl_11_12 zsh_0 rfl d_B_lies_1 ?_
  refine zz_iload_n (i := 1) (pc := 4) C rfl rfl d_B_lies_4 ?_
  refine zz_cVi (as := [.int a1]) (st := []) (pc := 5) C (zm_Bed_hasCover rfl) zcv_Bed_hasCover zsh_1 zl_11_105 (by omega) (Nat.le_of_ble_eq_true rfl) d_B_lies_5 rfl rfl ?_
  refine zz_if_eq (tgt := 18) (pc := 8) C (by decide) d_B_lies_8 (fun hc1 => ?_) (fun hc1 => ?_)
  · rw [if_pos hc1] at h
    refine zz_ldc (pc := 18) C zl_11_127 d_B_lies_18 ?_
    replace h := Option.some.inj h
    subst h
    exact zz_ret (pc := 20) C (v := some (.int (-2000000000 : Int32))) d_B_lies_20 (Or.inl ⟨_, _, rfl, rfl, rfl, rfl⟩) rfl
  · rw [if_neg hc1] at h
    refine zz_iload_n (i := 2) (pc := 11) C rfl rfl d_B_lies_11 ?_
    refine zz_cSi (as := [.int a2]) (st := []) (pc := 12) C (zm_B_isMinute rfl) zcs_B_isMinute zl_11_192 (by omega) (Nat.le_of_ble_eq_true rfl) d_B_lies_12 rfl rfl ?_
    refine zz_if_ne (tgt := 21) (pc := 15) C (by decide) d_B_lies_15 (fun hc2 => ?_) (fun hc2 => ?_)
    · rw [if_neg hc2] at h
      refine zz_aload_n (i := 0) (pc := 21) C rfl rfl d_B_lies_21 ?_
      refine zz_iload_n (i := 2) (pc := 22) C rfl rfl d_B_lies_22 ?_
      obtain ⟨q3, hq3, h⟩ := zz_bdE h
      refine zz_cVv (as := [.int a2]) (st := []) (pc := 23) C (zm_B_playTo hq3) zcv_B_playTo zsh_0 zl_11_195 (by omega) (Nat.le_of_ble_eq_true rfl) d_B_lies_23 rfl rfl ?_
      refine zz_aload_n (i := 0) (pc := 26) C rfl rfl d_B_lies_26 ?_
      refine zz_getR (pc := 27) C zl_11_41 zsh_0 rfl d_B_lies_27 ?_
      refine zz_getR (pc := 30) C zl_11_198 zsh_20 rfl d_B_lies_30 ?_
      refine zz_getR (pc := 33) C zl_11_202 zsh_32 rfl d_B_lies_33 ?_
      refine zz_iload_n (i := 1) (pc := 36) C rfl rfl d_B_lies_36 ?_
      obtain ⟨hi4, h⟩ := zz_ckE h
      refine zz_iald (pc := 37) C rfl zsh_36 hi4 d_B_lies_37 ?_
      replace h := Option.some.inj h
      subst h
      exact zz_ret (pc := 38) C (v := some (.int (q3.1 36 (a1.toNatClampNeg)))) d_B_lies_38 (Or.inl ⟨_, _, rfl, rfl, rfl, rfl⟩) rfl
    · rw [if_pos hc2] at h
      refine zz_ldc (pc := 18) C zl_11_127 d_B_lies_18 ?_
      replace h := Option.some.inj h
      subst h
      exact zz_ret (pc := 20) C (v := some (.int (-2000000000 : Int32))) d_B_lies_20 (Or.inl ⟨_, _, rfl, rfl, rfl, rfl⟩) rfl
theorem zm_B_lies {G : zz_G} {l : Launch} {s : zz_S} {q : Int32 × zz_S} {a1 : Int32} {a2 : Int32} (h : f_B_lies a1 a2 s = some q) : zz_M G l 9 y_B_lies prog_1_method_17_code 3 (some .int) [.ref 0, .int a1, .int a2] zsh s (some (.int q.1), zsh, q.2) :=
  zz_M.intro (by decide) (Nat.le_of_ble_eq_true rfl) (Nat.le_refl _) (Nat.le_refl _) (fun Z C => zf_B_lies C a1 a2 h)
theorem d_B_mostOf_0 : decode prog_1_method_7_code 0 = .ok (.iload_n 0, 1) := by decide +kernel
theorem d_B_mostOf_1 : decode prog_1_method_7_code 1 = .ok (.iconst 3, 1) := by decide +kernel
theorem d_B_mostOf_2 : decode prog_1_method_7_code 2 = .ok (.if_icmp .ne (8), 3) := by decide +kernel
theorem d_B_mostOf_5 : decode prog_1_method_7_code 5 = .ok (.bipush (9), 2) := by decide +kernel
theorem d_B_mostOf_7 : decode prog_1_method_7_code 7 = .ok (.goto (15), 3) := by decide +kernel
theorem d_B_mostOf_10 : decode prog_1_method_7_code 10 = .ok (.iload_n 0, 1) := by decide +kernel
theorem d_B_mostOf_11 : decode prog_1_method_7_code 11 = .ok (.iconst 2, 1) := by decide +kernel
theorem d_B_mostOf_12 : decode prog_1_method_7_code 12 = .ok (.if_icmp .ne (8), 3) := by decide +kernel
theorem d_B_mostOf_15 : decode prog_1_method_7_code 15 = .ok (.bipush (80), 2) := by decide +kernel
theorem d_B_mostOf_17 : decode prog_1_method_7_code 17 = .ok (.goto (5), 3) := by decide +kernel
theorem d_B_mostOf_20 : decode prog_1_method_7_code 20 = .ok (.bipush (99), 2) := by decide +kernel
theorem d_B_mostOf_22 : decode prog_1_method_7_code 22 = .ok (.ireturn, 1) := by decide +kernel
set_option maxHeartbeats 4000000 in
set_option maxRecDepth 100000 in
theorem zf_B_mostOf {G : zz_G} {l : Launch} {Z : zz_Z} {sh : List zz_Sh} {q : Int32} {s : zz_S} (C : zz_Cx G l "OneBlanket" "mostOf" prog_1_method_7_code 1 (some .int) 2 (some (.int q), sh, s) Z) (a0 : Int32) (h : f_B_mostOf a0 = q) : Z 0 [some (.int a0)] [] sh s := by
  unfold f_B_mostOf at h
  refine zz_iload_n (i := 0) (pc := 0) C rfl rfl d_B_mostOf_0 ?_
  refine zz_iconst (pc := 1) C zki_3 d_B_mostOf_1 ?_
  refine zz_icmp_ne (tgt := 10) (pc := 2) C (by decide) d_B_mostOf_2 (fun hc1 => ?_) (fun hc1 => ?_)
  · rw [if_neg hc1] at h
    refine zz_iload_n (i := 0) (pc := 10) C rfl rfl d_B_mostOf_10 ?_
    refine zz_iconst (pc := 11) C zki_2 d_B_mostOf_11 ?_
    refine zz_icmp_ne (tgt := 20) (pc := 12) C (by decide) d_B_mostOf_12 (fun hc2 => ?_) (fun hc2 => ?_)
    · rw [if_neg hc2] at h
      refine zz_bipush (pc := 20) C zkb_99 d_B_mostOf_20 ?_
      subst h
      exact zz_ret (pc := 22) C (v := some (.int (99 : Int32))) d_B_mostOf_22 (Or.inl ⟨_, _, rfl, rfl, rfl, rfl⟩) rfl
    · rw [if_pos hc2] at h
      refine zz_bipush (pc := 15) C zkb_80 d_B_mostOf_15 ?_
      refine zz_goto (tgt := 22) (pc := 17) C (by decide) d_B_mostOf_17 ?_
      subst h
      exact zz_ret (pc := 22) C (v := some (.int (80 : Int32))) d_B_mostOf_22 (Or.inl ⟨_, _, rfl, rfl, rfl, rfl⟩) rfl
  · rw [if_pos hc1] at h
    refine zz_bipush (pc := 5) C zkb_9 d_B_mostOf_5 ?_
    refine zz_goto (tgt := 22) (pc := 7) C (by decide) d_B_mostOf_7 ?_
    subst h
    exact zz_ret (pc := 22) C (v := some (.int (9 : Int32))) d_B_mostOf_22 (Or.inl ⟨_, _, rfl, rfl, rfl, rfl⟩) rfl
theorem zm_B_mostOf {G : zz_G} {l : Launch} {sh : List zz_Sh} {s : zz_S} {q : Int32} {a0 : Int32} (h : f_B_mostOf a0 = q) : zz_M G l 2 y_B_mostOf prog_1_method_7_code 1 (some .int) [.int a0] sh s (some (.int q), sh, s) :=
  zz_M.intro (by decide) (Nat.le_of_ble_eq_true rfl) (Nat.le_refl _) (Nat.le_refl _) (fun Z C => zf_B_mostOf C a0 h)
theorem d_B_mend_0 : decode prog_1_method_5_code 0 = .ok (.iload_n 2, 1) := by decide +kernel
theorem d_B_mend_1 : decode prog_1_method_5_code 1 = .ok (.ifCond .lt (8), 3) := by decide +kernel
theorem d_B_mend_4 : decode prog_1_method_5_code 4 = .ok (.iload_n 2, 1) := by decide +kernel
theorem d_B_mend_5 : decode prog_1_method_5_code 5 = .ok (.iconst 3, 1) := by decide +kernel
theorem d_B_mend_6 : decode prog_1_method_5_code 6 = .ok (.if_icmp .le (5), 3) := by decide +kernel
theorem d_B_mend_9 : decode prog_1_method_5_code 9 = .ok (.iconst (-1), 1) := by decide +kernel
theorem d_B_mend_10 : decode prog_1_method_5_code 10 = .ok (.ireturn, 1) := by decide +kernel
theorem d_B_mend_11 : decode prog_1_method_5_code 11 = .ok (.iload_n 2, 1) := by decide +kernel
theorem d_B_mend_12 : decode prog_1_method_5_code 12 = .ok (.iconst 2, 1) := by decide +kernel
theorem d_B_mend_13 : decode prog_1_method_5_code 13 = .ok (.if_icmp .ge (14), 3) := by decide +kernel
theorem d_B_mend_16 : decode prog_1_method_5_code 16 = .ok (.aload_n 0, 1) := by decide +kernel
theorem d_B_mend_17 : decode prog_1_method_5_code 17 = .ok (.getfield 12, 3) := by decide +kernel
theorem d_B_mend_20 : decode prog_1_method_5_code 20 = .ok (.iload_n 1, 1) := by decide +kernel
theorem d_B_mend_21 : decode prog_1_method_5_code 21 = .ok (.invokevirtual 101, 3) := by decide +kernel
theorem d_B_mend_24 : decode prog_1_method_5_code 24 = .ok (.goto (11), 3) := by decide +kernel
theorem d_B_mend_27 : decode prog_1_method_5_code 27 = .ok (.aload_n 0, 1) := by decide +kernel
theorem d_B_mend_28 : decode prog_1_method_5_code 28 = .ok (.getfield 12, 3) := by decide +kernel
theorem d_B_mend_31 : decode prog_1_method_5_code 31 = .ok (.iload_n 1, 1) := by decide +kernel
theorem d_B_mend_32 : decode prog_1_method_5_code 32 = .ok (.invokevirtual 105, 3) := by decide +kernel
theorem d_B_mend_35 : decode prog_1_method_5_code 35 = .ok (.istore 4, 2) := by decide +kernel
theorem d_B_mend_37 : decode prog_1_method_5_code 37 = .ok (.iload 4, 2) := by decide +kernel
theorem d_B_mend_39 : decode prog_1_method_5_code 39 = .ok (.ifCond .eq (19), 3) := by decide +kernel
theorem d_B_mend_42 : decode prog_1_method_5_code 42 = .ok (.iload_n 3, 1) := by decide +kernel
theorem d_B_mend_43 : decode prog_1_method_5_code 43 = .ok (.iload_n 2, 1) := by decide +kernel
theorem d_B_mend_44 : decode prog_1_method_5_code 44 = .ok (.invokestatic 108, 3) := by decide +kernel
theorem d_B_mend_47 : decode prog_1_method_5_code 47 = .ok (.if_icmp .lt (11), 3) := by decide +kernel
theorem d_B_mend_50 : decode prog_1_method_5_code 50 = .ok (.iload_n 3, 1) := by decide +kernel
theorem d_B_mend_51 : decode prog_1_method_5_code 51 = .ok (.iload_n 2, 1) := by decide +kernel
theorem d_B_mend_52 : decode prog_1_method_5_code 52 = .ok (.invokestatic 112, 3) := by decide +kernel
theorem d_B_mend_55 : decode prog_1_method_5_code 55 = .ok (.if_icmp .le (5), 3) := by decide +kernel
theorem d_B_mend_58 : decode prog_1_method_5_code 58 = .ok (.iconst (-1), 1) := by decide +kernel
theorem d_B_mend_59 : decode prog_1_method_5_code 59 = .ok (.ireturn, 1) := by decide +kernel
theorem d_B_mend_60 : decode prog_1_method_5_code 60 = .ok (.aload_n 0, 1) := by decide +kernel
theorem d_B_mend_61 : decode prog_1_method_5_code 61 = .ok (.getfield 12, 3) := by decide +kernel
theorem d_B_mend_64 : decode prog_1_method_5_code 64 = .ok (.iload_n 2, 1) := by decide +kernel
theorem d_B_mend_65 : decode prog_1_method_5_code 65 = .ok (.invokevirtual 115, 3) := by decide +kernel
theorem d_B_mend_68 : decode prog_1_method_5_code 68 = .ok (.astore 5, 2) := by decide +kernel
theorem d_B_mend_70 : decode prog_1_method_5_code 70 = .ok (.aload 5, 2) := by decide +kernel
theorem d_B_mend_72 : decode prog_1_method_5_code 72 = .ok (.iload_n 1, 1) := by decide +kernel
theorem d_B_mend_73 : decode prog_1_method_5_code 73 = .ok (.iaload, 1) := by decide +kernel
theorem d_B_mend_74 : decode prog_1_method_5_code 74 = .ok (.istore 6, 2) := by decide +kernel
theorem d_B_mend_76 : decode prog_1_method_5_code 76 = .ok (.iload_n 3, 1) := by decide +kernel
theorem d_B_mend_77 : decode prog_1_method_5_code 77 = .ok (.iload 6, 2) := by decide +kernel
theorem d_B_mend_79 : decode prog_1_method_5_code 79 = .ok (.if_icmp .eq (20), 3) := by decide +kernel
theorem d_B_mend_82 : decode prog_1_method_5_code 82 = .ok (.aload 5, 2) := by decide +kernel
theorem d_B_mend_84 : decode prog_1_method_5_code 84 = .ok (.iload_n 1, 1) := by decide +kernel
theorem d_B_mend_85 : decode prog_1_method_5_code 85 = .ok (.iload_n 3, 1) := by decide +kernel
theorem d_B_mend_86 : decode prog_1_method_5_code 86 = .ok (.iastore, 1) := by decide +kernel
theorem d_B_mend_87 : decode prog_1_method_5_code 87 = .ok (.aload_n 0, 1) := by decide +kernel
theorem d_B_mend_88 : decode prog_1_method_5_code 88 = .ok (.getfield 48, 3) := by decide +kernel
theorem d_B_mend_91 : decode prog_1_method_5_code 91 = .ok (.iload_n 1, 1) := by decide +kernel
theorem d_B_mend_92 : decode prog_1_method_5_code 92 = .ok (.iload_n 2, 1) := by decide +kernel
theorem d_B_mend_93 : decode prog_1_method_5_code 93 = .ok (.iload 6, 2) := by decide +kernel
theorem d_B_mend_95 : decode prog_1_method_5_code 95 = .ok (.iload_n 3, 1) := by decide +kernel
theorem d_B_mend_96 : decode prog_1_method_5_code 96 = .ok (.invokevirtual 119, 3) := by decide +kernel
theorem d_B_mend_99 : decode prog_1_method_5_code 99 = .ok (.iload 6, 2) := by decide +kernel
theorem d_B_mend_101 : decode prog_1_method_5_code 101 = .ok (.ireturn, 1) := by decide +kernel
set_option maxHeartbeats 4000000 in
set_option maxRecDepth 100000 in
theorem zf_B_mend_J35 {G : zz_G} {l : Launch} {Z : zz_Z} (hex : G.2.2.2.2 = false) {q : Int32 × zz_S} {s : zz_S} (C : zz_Cx G l "OneBlanket" "mend" prog_1_method_5_code 7 (some .int) 5 (some (.int q.1), zsh, q.2) Z) (v1 : Int32) (v2 : Int32) (v3 : Int32) (t0 : Int32) (h : f_B_mend_J35 v1 v2 v3 t0 s = some q) : Z 35 [some (.ref 0), some (.int v1), some (.int v2), some (.int v3), none, none, none] [.int t0] zsh s := by
  unfold f_B_mend_J35 at h
  refine zz_istore (i := 4) (lo' := [some (.ref 0), some (.int v1), some (.int v2), some (.int v3), some (.int t0), none, none]) (pc := 35) C (Nat.le_of_ble_eq_true rfl) rfl rfl d_B_mend_35 ?_
  refine zz_iload (i := 4) (pc := 37) C rfl d_B_mend_37 ?_
  refine zz_if_eq (tgt := 58) (pc := 39) C (by decide) d_B_mend_39 (fun hc4 => ?_) (fun hc4 => ?_)
  · rw [if_pos hc4] at h
    refine zz_iconst (pc := 58) C zki_m1 d_B_mend_58 ?_
    replace h := Option.some.inj h
    subst h
    exact zz_ret (pc := 59) C (v := some (.int (-1 : Int32))) d_B_mend_59 (Or.inl ⟨_, _, rfl, rfl, rfl, rfl⟩) rfl
  · rw [if_neg hc4] at h
    refine zz_iload_n (i := 3) (pc := 42) C rfl rfl d_B_mend_42 ?_
    refine zz_iload_n (i := 2) (pc := 43) C rfl rfl d_B_mend_43 ?_
    refine zz_cSi (as := [.int v2]) (st := [.int v3]) (pc := 44) C (zm_B_leastOf rfl) zcs_B_leastOf zl_11_108 (by omega) (Nat.le_of_ble_eq_true rfl) d_B_mend_44 rfl rfl ?_
    refine zz_icmp_lt (tgt := 58) (pc := 47) C (by decide) d_B_mend_47 (fun hc5 => ?_) (fun hc5 => ?_)
    · rw [if_pos hc5] at h
      refine zz_iconst (pc := 58) C zki_m1 d_B_mend_58 ?_
      replace h := Option.some.inj h
      subst h
      exact zz_ret (pc := 59) C (v := some (.int (-1 : Int32))) d_B_mend_59 (Or.inl ⟨_, _, rfl, rfl, rfl, rfl⟩) rfl
    · rw [if_neg hc5] at h
      refine zz_iload_n (i := 3) (pc := 50) C rfl rfl d_B_mend_50 ?_
      refine zz_iload_n (i := 2) (pc := 51) C rfl rfl d_B_mend_51 ?_
      refine zz_cSi (as := [.int v2]) (st := [.int v3]) (pc := 52) C (zm_B_mostOf rfl) zcs_B_mostOf zl_11_112 (by omega) (Nat.le_of_ble_eq_true rfl) d_B_mend_52 rfl rfl ?_
      refine zz_icmp_le (tgt := 60) (pc := 55) C (by decide) d_B_mend_55 (fun hc6 => ?_) (fun hc6 => ?_)
      · rw [if_pos hc6] at h
        refine zz_aload_n (i := 0) (pc := 60) C rfl rfl d_B_mend_60 ?_
        refine zz_getR (pc := 61) C zl_11_12 zsh_0 rfl d_B_mend_61 ?_
        refine zz_iload_n (i := 2) (pc := 64) C rfl rfl d_B_mend_64 ?_
        refine zz_cVr (as := [.int v2]) (st := []) (pc := 65) C (zm_Bed_mendable rfl) zcv_Bed_mendable zsh_1 zl_11_115 (by omega) (Nat.le_of_ble_eq_true rfl) d_B_mend_65 rfl rfl ?_
        refine zz_astore (i := 5) (lo' := [some (.ref 0), some (.int v1), some (.int v2), some (.int v3), some (.int t0), some (.ref (f_Bed_mendable v2)), none]) (pc := 68) C (Nat.le_of_ble_eq_true rfl) rfl rfl d_B_mend_68 ?_
        refine zz_aload (i := 5) (pc := 70) C rfl d_B_mend_70 ?_
        refine zz_iload_n (i := 1) (pc := 72) C rfl rfl d_B_mend_72 ?_
        obtain ⟨hi7, h⟩ := zz_ckE h
        refine zz_iald (pc := 73) C rfl (zS0_sh (zmem_Bed_mendable v2)) hi7 d_B_mend_73 ?_
        refine zz_istore (i := 6) (lo' := [some (.ref 0), some (.int v1), some (.int v2), some (.int v3), some (.int t0), some (.ref (f_Bed_mendable v2)), some (.int (s.1 (f_Bed_mendable v2) (v1.toNatClampNeg)))]) (pc := 74) C (Nat.le_of_ble_eq_true rfl) rfl rfl d_B_mend_74 ?_
        refine zz_iload_n (i := 3) (pc := 76) C rfl rfl d_B_mend_76 ?_
        refine zz_iload (i := 6) (pc := 77) C rfl d_B_mend_77 ?_
        refine zz_icmp_eq (tgt := 99) (pc := 79) C (by decide) d_B_mend_79 (fun hc8 => ?_) (fun hc8 => ?_)
        · rw [if_pos hc8] at h
          refine zz_iload (i := 6) (pc := 99) C rfl d_B_mend_99 ?_
          replace h := Option.some.inj h
          subst h
          exact zz_ret (pc := 101) C (v := some (.int (s.1 (f_Bed_mendable v2) (v1.toNatClampNeg)))) d_B_mend_101 (Or.inl ⟨_, _, rfl, rfl, rfl, rfl⟩) rfl
        · rw [if_neg hc8] at h
          refine zz_aload (i := 5) (pc := 82) C rfl d_B_mend_82 ?_
          refine zz_iload_n (i := 1) (pc := 84) C rfl rfl d_B_mend_84 ?_
          refine zz_iload_n (i := 3) (pc := 85) C rfl rfl d_B_mend_85 ?_
          refine zz_iast (pc := 86) C rfl (zS0_sh (zmem_Bed_mendable v2)) hi7 d_B_mend_86 ?_
          refine zz_aload_n (i := 0) (pc := 87) C rfl rfl d_B_mend_87 ?_
          refine zz_getR (pc := 88) C zl_11_48 zsh_0 rfl d_B_mend_88 ?_
          refine zz_iload_n (i := 1) (pc := 91) C rfl rfl d_B_mend_91 ?_
          refine zz_iload_n (i := 2) (pc := 92) C rfl rfl d_B_mend_92 ?_
          refine zz_iload (i := 6) (pc := 93) C rfl d_B_mend_93 ?_
          refine zz_iload_n (i := 3) (pc := 95) C rfl rfl d_B_mend_95 ?_
          obtain ⟨q9, hq9, h⟩ := zz_bdE h
          refine zz_cVv (as := [.int v1, .int v2, .int (s.1 (f_Bed_mendable v2) (v1.toNatClampNeg)), .int v3]) (st := []) (pc := 96) C (zm_Changes_add hex hq9) zcv_Changes_add zsh_39 zl_11_119 (by omega) (Nat.le_of_ble_eq_true rfl) d_B_mend_96 rfl rfl ?_
          refine zz_iload (i := 6) (pc := 99) C rfl d_B_mend_99 ?_
          replace h := Option.some.inj h
          subst h
          exact zz_ret (pc := 101) C (v := some (.int (s.1 (f_Bed_mendable v2) (v1.toNatClampNeg)))) d_B_mend_101 (Or.inl ⟨_, _, rfl, rfl, rfl, rfl⟩) rfl
      · rw [if_neg hc6] at h
        refine zz_iconst (pc := 58) C zki_m1 d_B_mend_58 ?_
        replace h := Option.some.inj h
        subst h
        exact zz_ret (pc := 59) C (v := some (.int (-1 : Int32))) d_B_mend_59 (Or.inl ⟨_, _, rfl, rfl, rfl, rfl⟩) rfl
set_option maxHeartbeats 4000000 in
set_option maxRecDepth 100000 in
theorem zf_B_mend {G : zz_G} {l : Launch} {Z : zz_Z} (hex : G.2.2.2.2 = false) {q : Int32 × zz_S} {s : zz_S} (C : zz_Cx G l "OneBlanket" "mend" prog_1_method_5_code 7 (some .int) 5 (some (.int q.1), zsh, q.2) Z) (a1 : Int32) (a2 : Int32) (a3 : Int32) (h : f_B_mend a1 a2 a3 s = some q) : Z 0 [some (.ref 0), some (.int a1), some (.int a2), some (.int a3), none, none, none] [] zsh s := by
  unfold f_B_mend at h
  refine zz_iload_n (i := 2) (pc := 0) C rfl rfl d_B_mend_0 ?_
  refine zz_if_lt (tgt := 9) (pc := 1) C (by decide) d_B_mend_1 (fun hc1 => ?_) (fun hc1 => ?_)
  · rw [if_pos hc1] at h
    refine zz_iconst (pc := 9) C zki_m1 d_B_mend_9 ?_
    replace h := Option.some.inj h
    subst h
    exact zz_ret (pc := 10) C (v := some (.int (-1 : Int32))) d_B_mend_10 (Or.inl ⟨_, _, rfl, rfl, rfl, rfl⟩) rfl
  · rw [if_neg hc1] at h
    refine zz_iload_n (i := 2) (pc := 4) C rfl rfl d_B_mend_4 ?_
    refine zz_iconst (pc := 5) C zki_3 d_B_mend_5 ?_
    refine zz_icmp_le (tgt := 11) (pc := 6) C (by decide) d_B_mend_6 (fun hc2 => ?_) (fun hc2 => ?_)
    · rw [if_pos hc2] at h
      refine zz_iload_n (i := 2) (pc := 11) C rfl rfl d_B_mend_11 ?_
      refine zz_iconst (pc := 12) C zki_2 d_B_mend_12 ?_
      refine zz_icmp_ge (tgt := 27) (pc := 13) C (by decide) d_B_mend_13 (fun hc3 => ?_) (fun hc3 => ?_)
      · rw [if_pos hc3] at h
        refine zz_aload_n (i := 0) (pc := 27) C rfl rfl d_B_mend_27 ?_
        refine zz_getR (pc := 28) C zl_11_12 zsh_0 rfl d_B_mend_28 ?_
        refine zz_iload_n (i := 1) (pc := 31) C rfl rfl d_B_mend_31 ?_
        refine zz_cVi (as := [.int a1]) (st := []) (pc := 32) C (zm_Bed_hasCover rfl) zcv_Bed_hasCover zsh_1 zl_11_105 (by omega) (Nat.le_of_ble_eq_true rfl) d_B_mend_32 rfl rfl ?_
        exact zf_B_mend_J35 hex C a1 a2 a3 (f_Bed_hasCover a1 s) h
      · rw [if_neg hc3] at h
        refine zz_aload_n (i := 0) (pc := 16) C rfl rfl d_B_mend_16 ?_
        refine zz_getR (pc := 17) C zl_11_12 zsh_0 rfl d_B_mend_17 ?_
        refine zz_iload_n (i := 1) (pc := 20) C rfl rfl d_B_mend_20 ?_
        refine zz_cVi (as := [.int a1]) (st := []) (pc := 21) C (zm_Bed_hasSleeper rfl) zcv_Bed_hasSleeper zsh_1 zl_11_101 (by omega) (Nat.le_of_ble_eq_true rfl) d_B_mend_21 rfl rfl ?_
        refine zz_goto (tgt := 35) (pc := 24) C (by decide) d_B_mend_24 ?_
        exact zf_B_mend_J35 hex C a1 a2 a3 (f_Bed_hasSleeper a1 s) h
    · rw [if_neg hc2] at h
      refine zz_iconst (pc := 9) C zki_m1 d_B_mend_9 ?_
      replace h := Option.some.inj h
      subst h
      exact zz_ret (pc := 10) C (v := some (.int (-1 : Int32))) d_B_mend_10 (Or.inl ⟨_, _, rfl, rfl, rfl, rfl⟩) rfl
theorem zm_B_mend {G : zz_G} {l : Launch} {s : zz_S} {q : Int32 × zz_S} {a1 : Int32} {a2 : Int32} {a3 : Int32} (hex : G.2.2.2.2 = false) (h : f_B_mend a1 a2 a3 s = some q) : zz_M G l 5 y_B_mend prog_1_method_5_code 7 (some .int) [.ref 0, .int a1, .int a2, .int a3] zsh s (some (.int q.1), zsh, q.2) :=
  zz_M.intro (by decide) (Nat.le_of_ble_eq_true rfl) (Nat.le_refl _) (Nat.le_refl _) (fun Z C => zf_B_mend hex C a1 a2 a3 h)
theorem d_B_minutes_0 : decode prog_1_method_19_code 0 = .ok (.aload_n 0, 1) := by decide +kernel
theorem d_B_minutes_1 : decode prog_1_method_19_code 1 = .ok (.getfield 12, 3) := by decide +kernel
theorem d_B_minutes_4 : decode prog_1_method_19_code 4 = .ok (.iload_n 1, 1) := by decide +kernel
theorem d_B_minutes_5 : decode prog_1_method_19_code 5 = .ok (.invokevirtual 101, 3) := by decide +kernel
theorem d_B_minutes_8 : decode prog_1_method_19_code 8 = .ok (.ifCond .eq (12), 3) := by decide +kernel
theorem d_B_minutes_11 : decode prog_1_method_19_code 11 = .ok (.iload_n 2, 1) := by decide +kernel
theorem d_B_minutes_12 : decode prog_1_method_19_code 12 = .ok (.ifCond .lt (8), 3) := by decide +kernel
theorem d_B_minutes_15 : decode prog_1_method_19_code 15 = .ok (.iload_n 2, 1) := by decide +kernel
theorem d_B_minutes_16 : decode prog_1_method_19_code 16 = .ok (.iconst 2, 1) := by decide +kernel
theorem d_B_minutes_17 : decode prog_1_method_19_code 17 = .ok (.if_icmp .le (5), 3) := by decide +kernel
theorem d_B_minutes_20 : decode prog_1_method_19_code 20 = .ok (.iconst (-1), 1) := by decide +kernel
theorem d_B_minutes_21 : decode prog_1_method_19_code 21 = .ok (.ireturn, 1) := by decide +kernel
theorem d_B_minutes_22 : decode prog_1_method_19_code 22 = .ok (.aload_n 0, 1) := by decide +kernel
theorem d_B_minutes_23 : decode prog_1_method_19_code 23 = .ok (.sipush (479), 3) := by decide +kernel
theorem d_B_minutes_26 : decode prog_1_method_19_code 26 = .ok (.invokevirtual 195, 3) := by decide +kernel
theorem d_B_minutes_29 : decode prog_1_method_19_code 29 = .ok (.iload_n 2, 1) := by decide +kernel
theorem d_B_minutes_30 : decode prog_1_method_19_code 30 = .ok (.lookupswitch (52) #[(0, 26), (1, 39)], 26) := by decide +kernel
theorem d_B_minutes_56 : decode prog_1_method_19_code 56 = .ok (.aload_n 0, 1) := by decide +kernel
theorem d_B_minutes_57 : decode prog_1_method_19_code 57 = .ok (.getfield 41, 3) := by decide +kernel
theorem d_B_minutes_60 : decode prog_1_method_19_code 60 = .ok (.getfield 220, 3) := by decide +kernel
theorem d_B_minutes_63 : decode prog_1_method_19_code 63 = .ok (.getfield 224, 3) := by decide +kernel
theorem d_B_minutes_66 : decode prog_1_method_19_code 66 = .ok (.iload_n 1, 1) := by decide +kernel
theorem d_B_minutes_67 : decode prog_1_method_19_code 67 = .ok (.iaload, 1) := by decide +kernel
theorem d_B_minutes_68 : decode prog_1_method_19_code 68 = .ok (.ireturn, 1) := by decide +kernel
theorem d_B_minutes_69 : decode prog_1_method_19_code 69 = .ok (.aload_n 0, 1) := by decide +kernel
theorem d_B_minutes_70 : decode prog_1_method_19_code 70 = .ok (.getfield 41, 3) := by decide +kernel
theorem d_B_minutes_73 : decode prog_1_method_19_code 73 = .ok (.getfield 220, 3) := by decide +kernel
theorem d_B_minutes_76 : decode prog_1_method_19_code 76 = .ok (.getfield 229, 3) := by decide +kernel
theorem d_B_minutes_79 : decode prog_1_method_19_code 79 = .ok (.iload_n 1, 1) := by decide +kernel
theorem d_B_minutes_80 : decode prog_1_method_19_code 80 = .ok (.iaload, 1) := by decide +kernel
theorem d_B_minutes_81 : decode prog_1_method_19_code 81 = .ok (.ireturn, 1) := by decide +kernel
theorem d_B_minutes_82 : decode prog_1_method_19_code 82 = .ok (.aload_n 0, 1) := by decide +kernel
theorem d_B_minutes_83 : decode prog_1_method_19_code 83 = .ok (.getfield 41, 3) := by decide +kernel
theorem d_B_minutes_86 : decode prog_1_method_19_code 86 = .ok (.getfield 220, 3) := by decide +kernel
theorem d_B_minutes_89 : decode prog_1_method_19_code 89 = .ok (.getfield 232, 3) := by decide +kernel
theorem d_B_minutes_92 : decode prog_1_method_19_code 92 = .ok (.iload_n 1, 1) := by decide +kernel
theorem d_B_minutes_93 : decode prog_1_method_19_code 93 = .ok (.iaload, 1) := by decide +kernel
theorem d_B_minutes_94 : decode prog_1_method_19_code 94 = .ok (.ireturn, 1) := by decide +kernel
set_option maxHeartbeats 4000000 in
set_option maxRecDepth 100000 in
theorem zf_B_minutes {G : zz_G} {l : Launch} {Z : zz_Z} {q : Int32 × zz_S} {s : zz_S} (C : zz_Cx G l "OneBlanket" "minutes" prog_1_method_19_code 3 (some .int) 9 (some (.int q.1), zsh, q.2) Z) (a1 : Int32) (a2 : Int32) (h : f_B_minutes a1 a2 s = some q) : Z 0 [some (.ref 0), some (.int a1), some (.int a2)] [] zsh s := by
  unfold f_B_minutes at h
  refine zz_aload_n (i := 0) (pc := 0) C rfl rfl d_B_minutes_0 ?_
  refine zz_getR (pc := 1) C zl_11_12 zsh_0 rfl d_B_minutes_1 ?_
  refine zz_iload_n (i := 1) (pc := 4) C rfl rfl d_B_minutes_4 ?_
  refine zz_cVi (as := [.int a1]) (st := []) (pc := 5) C (zm_Bed_hasSleeper rfl) zcv_Bed_hasSleeper zsh_1 zl_11_101 (by omega) (Nat.le_of_ble_eq_true rfl) d_B_minutes_5 rfl rfl ?_
  refine zz_if_eq (tgt := 20) (pc := 8) C (by decide) d_B_minutes_8 (fun hc1 => ?_) (fun hc1 => ?_)
  · rw [if_pos hc1] at h
    refine zz_iconst (pc := 20) C zki_m1 d_B_minutes_20 ?_
    replace h := Option.some.inj h
    subst h
    exact zz_ret (pc := 21) C (v := some (.int (-1 : Int32))) d_B_minutes_21 (Or.inl ⟨_, _, rfl, rfl, rfl, rfl⟩) rfl
  · rw [if_neg hc1] at h
    refine zz_iload_n (i := 2) (pc := 11) C rfl rfl d_B_minutes_11 ?_
    refine zz_if_lt (tgt := 20) (pc := 12) C (by decide) d_B_minutes_12 (fun hc2 => ?_) (fun hc2 => ?_)
    · rw [if_pos hc2] at h
      refine zz_iconst (pc := 20) C zki_m1 d_B_minutes_20 ?_
      replace h := Option.some.inj h
      subst h
      exact zz_ret (pc := 21) C (v := some (.int (-1 : Int32))) d_B_minutes_21 (Or.inl ⟨_, _, rfl, rfl, rfl, rfl⟩) rfl
    · rw [if_neg hc2] at h
      refine zz_iload_n (i := 2) (pc := 15) C rfl rfl d_B_minutes_15 ?_
      refine zz_iconst (pc := 16) C zki_2 d_B_minutes_16 ?_
      refine zz_icmp_le (tgt := 22) (pc := 17) C (by decide) d_B_minutes_17 (fun hc3 => ?_) (fun hc3 => ?_)
      · rw [if_pos hc3] at h
        refine zz_aload_n (i := 0) (pc := 22) C rfl rfl d_B_minutes_22 ?_
        refine zz_sipush (pc := 23) C zks_479 d_B_minutes_23 ?_
        obtain ⟨q4, hq4, h⟩ := zz_bdE h
        refine zz_cVv (as := [.int (479 : Int32)]) (st := []) (pc := 26) C (zm_B_playTo hq4) zcv_B_playTo zsh_0 zl_11_195 (by omega) (Nat.le_of_ble_eq_true rfl) d_B_minutes_26 rfl rfl ?_
        refine zz_iload_n (i := 2) (pc := 29) C rfl rfl d_B_minutes_29 ?_
        by_cases hc5 : a2 = (0 : Int32)
        · rw [if_pos hc5] at h
          refine zz_lookup (tgt := 56) (off := 26) (pc := 30) C (by decide) (by rw [hc5]; decide) (by decide) d_B_minutes_30 ?_
          refine zz_aload_n (i := 0) (pc := 56) C rfl rfl d_B_minutes_56 ?_
          refine zz_getR (pc := 57) C zl_11_41 zsh_0 rfl d_B_minutes_57 ?_
          refine zz_getR (pc := 60) C zl_11_220 zsh_20 rfl d_B_minutes_60 ?_
          refine zz_getR (pc := 63) C zl_11_224 zsh_21 rfl d_B_minutes_63 ?_
          refine zz_iload_n (i := 1) (pc := 66) C rfl rfl d_B_minutes_66 ?_
          obtain ⟨hi6, h⟩ := zz_ckE h
          refine zz_iald (pc := 67) C rfl zsh_22 hi6 d_B_minutes_67 ?_
          replace h := Option.some.inj h
          subst h
          exact zz_ret (pc := 68) C (v := some (.int (q4.1 22 (a1.toNatClampNeg)))) d_B_minutes_68 (Or.inl ⟨_, _, rfl, rfl, rfl, rfl⟩) rfl
        · rw [if_neg hc5] at h
          by_cases hc7 : a2 = (1 : Int32)
          · rw [if_pos hc7] at h
            refine zz_lookup (tgt := 69) (off := 39) (pc := 30) C (by decide) (by rw [hc7]; decide) (by decide) d_B_minutes_30 ?_
            refine zz_aload_n (i := 0) (pc := 69) C rfl rfl d_B_minutes_69 ?_
            refine zz_getR (pc := 70) C zl_11_41 zsh_0 rfl d_B_minutes_70 ?_
            refine zz_getR (pc := 73) C zl_11_220 zsh_20 rfl d_B_minutes_73 ?_
            refine zz_getR (pc := 76) C zl_11_229 zsh_21 rfl d_B_minutes_76 ?_
            refine zz_iload_n (i := 1) (pc := 79) C rfl rfl d_B_minutes_79 ?_
            obtain ⟨hi8, h⟩ := zz_ckE h
            refine zz_iald (pc := 80) C rfl zsh_23 hi8 d_B_minutes_80 ?_
            replace h := Option.some.inj h
            subst h
            exact zz_ret (pc := 81) C (v := some (.int (q4.1 23 (a1.toNatClampNeg)))) d_B_minutes_81 (Or.inl ⟨_, _, rfl, rfl, rfl, rfl⟩) rfl
          · rw [if_neg hc7] at h
            have hc5i : a2.toInt ≠ 0 := fun e => hc5 (Int32.toInt_inj.mp e)
            have hc7i : a2.toInt ≠ 1 := fun e => hc7 (Int32.toInt_inj.mp e)
            refine zz_lookup (tgt := 82) (off := 52) (pc := 30) C (by decide) (zlk_B_minutes_30 hc5i hc7i) (by decide) d_B_minutes_30 ?_
            refine zz_aload_n (i := 0) (pc := 82) C rfl rfl d_B_minutes_82 ?_
            refine zz_getR (pc := 83) C zl_11_41 zsh_0 rfl d_B_minutes_83 ?_
            refine zz_getR (pc := 86) C zl_11_220 zsh_20 rfl d_B_minutes_86 ?_
            refine zz_getR (pc := 89) C zl_11_232 zsh_21 rfl d_B_minutes_89 ?_
            refine zz_iload_n (i := 1) (pc := 92) C rfl rfl d_B_minutes_92 ?_
            obtain ⟨hi9, h⟩ := zz_ckE h
            refine zz_iald (pc := 93) C rfl zsh_24 hi9 d_B_minutes_93 ?_
            replace h := Option.some.inj h
            subst h
            exact zz_ret (pc := 94) C (v := some (.int (q4.1 24 (a1.toNatClampNeg)))) d_B_minutes_94 (Or.inl ⟨_, _, rfl, rfl, rfl, rfl⟩) rfl
      · rw [if_neg hc3] at h
        refine zz_iconst (pc := 20) C zki_m1 d_B_minutes_20 ?_
        replace h := Option.some.inj h
        subst h
        exact zz_ret (pc := 21) C (v := some (.int (-1 : Int32))) d_B_minutes_21 (Or.inl ⟨_, _, rfl, rfl, rfl, rfl⟩) rfl
theorem zm_B_minutes {G : zz_G} {l : Launch} {s : zz_S} {q : Int32 × zz_S} {a1 : Int32} {a2 : Int32} (h : f_B_minutes a1 a2 s = some q) : zz_M G l 9 y_B_minutes prog_1_method_19_code 3 (some .int) [.ref 0, .int a1, .int a2] zsh s (some (.int q.1), zsh, q.2) :=
  zz_M.intro (by decide) (Nat.le_of_ble_eq_true rfl) (Nat.le_refl _) (Nat.le_refl _) (fun Z C => zf_B_minutes C a1 a2 h)
theorem d_B_morning_0 : decode prog_1_method_32_code 0 = .ok (.aload_n 0, 1) := by decide +kernel
theorem d_B_morning_1 : decode prog_1_method_32_code 1 = .ok (.getfield 12, 3) := by decide +kernel
theorem d_B_morning_4 : decode prog_1_method_32_code 4 = .ok (.iload_n 1, 1) := by decide +kernel
theorem d_B_morning_5 : decode prog_1_method_32_code 5 = .ok (.invokevirtual 105, 3) := by decide +kernel
theorem d_B_morning_8 : decode prog_1_method_32_code 8 = .ok (.ifCond .eq (24), 3) := by decide +kernel
theorem d_B_morning_11 : decode prog_1_method_32_code 11 = .ok (.iload_n 2, 1) := by decide +kernel
theorem d_B_morning_12 : decode prog_1_method_32_code 12 = .ok (.bipush (-99), 2) := by decide +kernel
theorem d_B_morning_14 : decode prog_1_method_32_code 14 = .ok (.if_icmp .lt (18), 3) := by decide +kernel
theorem d_B_morning_17 : decode prog_1_method_32_code 17 = .ok (.iload_n 2, 1) := by decide +kernel
theorem d_B_morning_18 : decode prog_1_method_32_code 18 = .ok (.bipush (99), 2) := by decide +kernel
theorem d_B_morning_20 : decode prog_1_method_32_code 20 = .ok (.if_icmp .gt (12), 3) := by decide +kernel
theorem d_B_morning_23 : decode prog_1_method_32_code 23 = .ok (.iload_n 3, 1) := by decide +kernel
theorem d_B_morning_24 : decode prog_1_method_32_code 24 = .ok (.ifCond .lt (8), 3) := by decide +kernel
theorem d_B_morning_27 : decode prog_1_method_32_code 27 = .ok (.iload_n 3, 1) := by decide +kernel
theorem d_B_morning_28 : decode prog_1_method_32_code 28 = .ok (.iconst 1, 1) := by decide +kernel
theorem d_B_morning_29 : decode prog_1_method_32_code 29 = .ok (.if_icmp .le (5), 3) := by decide +kernel
theorem d_B_morning_32 : decode prog_1_method_32_code 32 = .ok (.iconst (-1), 1) := by decide +kernel
theorem d_B_morning_33 : decode prog_1_method_32_code 33 = .ok (.ireturn, 1) := by decide +kernel
theorem d_B_morning_34 : decode prog_1_method_32_code 34 = .ok (.aload_n 0, 1) := by decide +kernel
theorem d_B_morning_35 : decode prog_1_method_32_code 35 = .ok (.getfield 12, 3) := by decide +kernel
theorem d_B_morning_38 : decode prog_1_method_32_code 38 = .ok (.getfield 85, 3) := by decide +kernel
theorem d_B_morning_41 : decode prog_1_method_32_code 41 = .ok (.ifCond .ne (6), 3) := by decide +kernel
theorem d_B_morning_44 : decode prog_1_method_32_code 44 = .ok (.bipush (-5), 2) := by decide +kernel
theorem d_B_morning_46 : decode prog_1_method_32_code 46 = .ok (.ireturn, 1) := by decide +kernel
theorem d_B_morning_47 : decode prog_1_method_32_code 47 = .ok (.iconst 0, 1) := by decide +kernel
theorem d_B_morning_48 : decode prog_1_method_32_code 48 = .ok (.istore 4, 2) := by decide +kernel
theorem d_B_morning_50 : decode prog_1_method_32_code 50 = .ok (.iconst 0, 1) := by decide +kernel
theorem d_B_morning_51 : decode prog_1_method_32_code 51 = .ok (.istore 5, 2) := by decide +kernel
theorem d_B_morning_53 : decode prog_1_method_32_code 53 = .ok (.iconst 0, 1) := by decide +kernel
theorem d_B_morning_54 : decode prog_1_method_32_code 54 = .ok (.istore 6, 2) := by decide +kernel
theorem d_B_morning_56 : decode prog_1_method_32_code 56 = .ok (.iload 6, 2) := by decide +kernel
theorem d_B_morning_58 : decode prog_1_method_32_code 58 = .ok (.aload_n 0, 1) := by decide +kernel
theorem d_B_morning_59 : decode prog_1_method_32_code 59 = .ok (.getfield 12, 3) := by decide +kernel
theorem d_B_morning_62 : decode prog_1_method_32_code 62 = .ok (.getfield 85, 3) := by decide +kernel
theorem d_B_morning_65 : decode prog_1_method_32_code 65 = .ok (.if_icmp .ge (85), 3) := by decide +kernel
theorem d_B_morning_68 : decode prog_1_method_32_code 68 = .ok (.aload_n 0, 1) := by decide +kernel
theorem d_B_morning_69 : decode prog_1_method_32_code 69 = .ok (.getfield 41, 3) := by decide +kernel
theorem d_B_morning_72 : decode prog_1_method_32_code 72 = .ok (.aload_n 0, 1) := by decide +kernel
theorem d_B_morning_73 : decode prog_1_method_32_code 73 = .ok (.getfield 79, 3) := by decide +kernel
theorem d_B_morning_76 : decode prog_1_method_32_code 76 = .ok (.aload_n 0, 1) := by decide +kernel
theorem d_B_morning_77 : decode prog_1_method_32_code 77 = .ok (.getfield 12, 3) := by decide +kernel
theorem d_B_morning_80 : decode prog_1_method_32_code 80 = .ok (.getfield 244, 3) := by decide +kernel
theorem d_B_morning_83 : decode prog_1_method_32_code 83 = .ok (.invokevirtual 245, 3) := by decide +kernel
theorem d_B_morning_86 : decode prog_1_method_32_code 86 = .ok (.aload_n 0, 1) := by decide +kernel
theorem d_B_morning_87 : decode prog_1_method_32_code 87 = .ok (.getfield 41, 3) := by decide +kernel
theorem d_B_morning_90 : decode prog_1_method_32_code 90 = .ok (.iload 6, 2) := by decide +kernel
theorem d_B_morning_92 : decode prog_1_method_32_code 92 = .ok (.putfield 290, 3) := by decide +kernel
theorem d_B_morning_95 : decode prog_1_method_32_code 95 = .ok (.aload_n 0, 1) := by decide +kernel
theorem d_B_morning_96 : decode prog_1_method_32_code 96 = .ok (.getfield 41, 3) := by decide +kernel
theorem d_B_morning_99 : decode prog_1_method_32_code 99 = .ok (.sipush (479), 3) := by decide +kernel
theorem d_B_morning_102 : decode prog_1_method_32_code 102 = .ok (.invokevirtual 249, 3) := by decide +kernel
theorem d_B_morning_105 : decode prog_1_method_32_code 105 = .ok (.aload_n 0, 1) := by decide +kernel
theorem d_B_morning_106 : decode prog_1_method_32_code 106 = .ok (.getfield 41, 3) := by decide +kernel
theorem d_B_morning_109 : decode prog_1_method_32_code 109 = .ok (.getfield 198, 3) := by decide +kernel
theorem d_B_morning_112 : decode prog_1_method_32_code 112 = .ok (.getfield 202, 3) := by decide +kernel
theorem d_B_morning_115 : decode prog_1_method_32_code 115 = .ok (.iload_n 1, 1) := by decide +kernel
theorem d_B_morning_116 : decode prog_1_method_32_code 116 = .ok (.iaload, 1) := by decide +kernel
theorem d_B_morning_117 : decode prog_1_method_32_code 117 = .ok (.iload_n 2, 1) := by decide +kernel
theorem d_B_morning_118 : decode prog_1_method_32_code 118 = .ok (.isub, 1) := by decide +kernel
theorem d_B_morning_119 : decode prog_1_method_32_code 119 = .ok (.invokestatic 293, 3) := by decide +kernel
theorem d_B_morning_122 : decode prog_1_method_32_code 122 = .ok (.istore 7, 2) := by decide +kernel
theorem d_B_morning_124 : decode prog_1_method_32_code 124 = .ok (.iload 6, 2) := by decide +kernel
theorem d_B_morning_126 : decode prog_1_method_32_code 126 = .ok (.ifCond .eq (10), 3) := by decide +kernel
theorem d_B_morning_129 : decode prog_1_method_32_code 129 = .ok (.iload 7, 2) := by decide +kernel
theorem d_B_morning_131 : decode prog_1_method_32_code 131 = .ok (.iload 5, 2) := by decide +kernel
theorem d_B_morning_133 : decode prog_1_method_32_code 133 = .ok (.if_icmp .ge (11), 3) := by decide +kernel
theorem d_B_morning_136 : decode prog_1_method_32_code 136 = .ok (.iload 7, 2) := by decide +kernel
theorem d_B_morning_138 : decode prog_1_method_32_code 138 = .ok (.istore 5, 2) := by decide +kernel
theorem d_B_morning_140 : decode prog_1_method_32_code 140 = .ok (.iload 6, 2) := by decide +kernel
theorem d_B_morning_142 : decode prog_1_method_32_code 142 = .ok (.istore 4, 2) := by decide +kernel
theorem d_B_morning_144 : decode prog_1_method_32_code 144 = .ok (.iinc 6 (1), 3) := by decide +kernel
theorem d_B_morning_147 : decode prog_1_method_32_code 147 = .ok (.goto (-91), 3) := by decide +kernel
theorem d_B_morning_150 : decode prog_1_method_32_code 150 = .ok (.iload_n 3, 1) := by decide +kernel
theorem d_B_morning_151 : decode prog_1_method_32_code 151 = .ok (.ifCond .ne (8), 3) := by decide +kernel
theorem d_B_morning_154 : decode prog_1_method_32_code 154 = .ok (.iload 4, 2) := by decide +kernel
theorem d_B_morning_156 : decode prog_1_method_32_code 156 = .ok (.goto (5), 3) := by decide +kernel
theorem d_B_morning_159 : decode prog_1_method_32_code 159 = .ok (.iload 5, 2) := by decide +kernel
theorem d_B_morning_161 : decode prog_1_method_32_code 161 = .ok (.ireturn, 1) := by decide +kernel
set_option maxHeartbeats 4000000 in
set_option maxRecDepth 100000 in
theorem zf_B_morning_J136 {G : zz_G} {l : Launch} {Z : zz_Z} {q : Int32 × zz_S} {s : zz_S} (C : zz_Cx G l "OneBlanket" "morning" prog_1_method_32_code 8 (some .int) 8 (some (.int q.1), zsh, q.2) Z) (K56 : Int32 → Int32 → Int32 → Int32 → Int32 → Int32 → zz_S → Option (Int32 × zz_S)) (hK56 : ∀ (v1 : Int32) (v2 : Int32) (v3 : Int32) (v4 : Int32) (v5 : Int32) (v6 : Int32) (s : zz_S), K56 v1 v2 v3 v4 v5 v6 s = some q → Z 56 [some (.ref 0), some (.int v1), some (.int v2), some (.int v3), some (.int v4), some (.int v5), some (.int v6), none] [] zsh s) (v1 : Int32) (v2 : Int32) (v3 : Int32) (v6 : Int32) (v7 : Int32) (h : f_B_morning_J136 K56 v1 v2 v3 v6 v7 s = some q) : Z 136 [some (.ref 0), some (.int v1), some (.int v2), some (.int v3), none, none, some (.int v6), some (.int v7)] [] zsh s := by
  unfold f_B_morning_J136 at h
  refine zz_iload (i := 7) (pc := 136) C rfl d_B_morning_136 ?_
  refine zz_istore (i := 5) (lo' := [some (.ref 0), some (.int v1), some (.int v2), some (.int v3), none, some (.int v7), some (.int v6), some (.int v7)]) (pc := 138) C (Nat.le_of_ble_eq_true rfl) rfl rfl d_B_morning_138 ?_
  refine zz_iload (i := 6) (pc := 140) C rfl d_B_morning_140 ?_
  refine zz_istore (i := 4) (lo' := [some (.ref 0), some (.int v1), some (.int v2), some (.int v3), some (.int v6), some (.int v7), some (.int v6), some (.int v7)]) (pc := 142) C (Nat.le_of_ble_eq_true rfl) rfl rfl d_B_morning_142 ?_
  refine zz_iinc (lo' := [some (.ref 0), some (.int v1), some (.int v2), some (.int v3), some (.int v6), some (.int v7), some (.int (v6 + (1 : Int32))), some (.int v7)]) (pc := 144) C rfl (zz_inc zki_1) rfl rfl d_B_morning_144 ?_
  refine zz_goto (tgt := 56) (pc := 147) C (by decide) d_B_morning_147 ?_
  refine zz_fg C [true, true, true, true, true, true, true, false] rfl rfl ?_
  exact hK56 v1 v2 v3 v6 v7 (v6 + (1 : Int32)) s h
set_option maxHeartbeats 4000000 in
set_option maxRecDepth 100000 in
theorem zf_B_morning_L56 {G : zz_G} {l : Launch} {Z : zz_Z} {q : Int32 × zz_S} (C : zz_Cx G l "OneBlanket" "morning" prog_1_method_32_code 8 (some .int) 8 (some (.int q.1), zsh, q.2) Z) : ∀ (n : Nat) (v1 : Int32) (v2 : Int32) (v3 : Int32) (v4 : Int32) (v5 : Int32) (v6 : Int32) (s : zz_S), f_B_morning_L56 n v1 v2 v3 v4 v5 v6 s = some q → Z 56 [some (.ref 0), some (.int v1), some (.int v2), some (.int v3), some (.int v4), some (.int v5), some (.int v6), none] [] zsh s := by
  intro n
  induction n with
  | zero => intro v1 v2 v3 v4 v5 v6 s h; rw [f_B_morning_L56] at h; cases h
  | succ n ih =>
  intro v1 v2 v3 v4 v5 v6 s h
  rw [f_B_morning_L56] at h
  refine zz_iload (i := 6) (pc := 56) C rfl d_B_morning_56 ?_
  refine zz_aload_n (i := 0) (pc := 58) C rfl rfl d_B_morning_58 ?_
  refine zz_getR (pc := 59) C zl_11_12 zsh_0 rfl d_B_morning_59 ?_
  refine zz_getI (pc := 62) C zl_11_85 zsh_1 rfl d_B_morning_62 ?_
  refine zz_icmp_ge (tgt := 150) (pc := 65) C (by decide) d_B_morning_65 (fun hc7 => ?_) (fun hc7 => ?_)
  · rw [if_pos hc7] at h
    refine zz_iload_n (i := 3) (pc := 150) C rfl rfl d_B_morning_150 ?_
    refine zz_if_ne (tgt := 159) (pc := 151) C (by decide) d_B_morning_151 (fun hc8 => ?_) (fun hc8 => ?_)
    · rw [if_neg hc8] at h
      refine zz_iload (i := 5) (pc := 159) C rfl d_B_morning_159 ?_
      replace h := Option.some.inj h
      subst h
      exact zz_ret (pc := 161) C (v := some (.int v5)) d_B_morning_161 (Or.inl ⟨_, _, rfl, rfl, rfl, rfl⟩) rfl
    · rw [if_pos hc8] at h
      refine zz_iload (i := 4) (pc := 154) C rfl d_B_morning_154 ?_
      refine zz_goto (tgt := 161) (pc := 156) C (by decide) d_B_morning_156 ?_
      replace h := Option.some.inj h
      subst h
      exact zz_ret (pc := 161) C (v := some (.int v4)) d_B_morning_161 (Or.inl ⟨_, _, rfl, rfl, rfl, rfl⟩) rfl
  · rw [if_neg hc7] at h
    refine zz_aload_n (i := 0) (pc := 68) C rfl rfl d_B_morning_68 ?_
    refine zz_getR (pc := 69) C zl_11_41 zsh_0 rfl d_B_morning_69 ?_
    refine zz_aload_n (i := 0) (pc := 72) C rfl rfl d_B_morning_72 ?_
    refine zz_getI (pc := 73) C zl_11_79 zsh_0 rfl d_B_morning_73 ?_
    refine zz_aload_n (i := 0) (pc := 76) C rfl rfl d_B_morning_76 ?_
    refine zz_getR (pc := 77) C zl_11_12 zsh_0 rfl d_B_morning_77 ?_
    refine zz_getR (pc := 80) C zl_11_244 zsh_1 rfl d_B_morning_80 ?_
    obtain ⟨q9, hq9, h⟩ := zz_bdE h
    refine zz_cVv (as := [.int (s.1 0 12), .ref 2]) (st := []) (pc := 83) C (zm_Night_begin (by decide) hq9) zcv_Night_begin zsh_20 zl_11_245 (by omega) (Nat.le_of_ble_eq_true rfl) d_B_morning_83 rfl rfl ?_
    refine zz_aload_n (i := 0) (pc := 86) C rfl rfl d_B_morning_86 ?_
    refine zz_getR (pc := 87) C zl_11_41 zsh_0 rfl d_B_morning_87 ?_
    refine zz_iload (i := 6) (pc := 90) C rfl d_B_morning_90 ?_
    refine zz_putI' (pc := 92) C zl_11_290 zpf_4_14 zsh_20 rfl d_B_morning_92 ?_
    refine zz_aload_n (i := 0) (pc := 95) C rfl rfl d_B_morning_95 ?_
    refine zz_getR (pc := 96) C zl_11_41 zsh_0 rfl d_B_morning_96 ?_
    refine zz_sipush (pc := 99) C zks_479 d_B_morning_99 ?_
    obtain ⟨q10, hq10, h⟩ := zz_bdE h
    refine zz_cVv (as := [.int (479 : Int32)]) (st := []) (pc := 102) C (zm_Night_play hq10) zcv_Night_play zsh_20 zl_11_249 (by omega) (Nat.le_of_ble_eq_true rfl) d_B_morning_102 rfl rfl ?_
    refine zz_aload_n (i := 0) (pc := 105) C rfl rfl d_B_morning_105 ?_
    refine zz_getR (pc := 106) C zl_11_41 zsh_0 rfl d_B_morning_106 ?_
    refine zz_getR (pc := 109) C zl_11_198 zsh_20 rfl d_B_morning_109 ?_
    refine zz_getR (pc := 112) C zl_11_202 zsh_32 rfl d_B_morning_112 ?_
    refine zz_iload_n (i := 1) (pc := 115) C rfl rfl d_B_morning_115 ?_
    obtain ⟨hi11, h⟩ := zz_ckE h
    refine zz_iald (pc := 116) C rfl zsh_36 hi11 d_B_morning_116 ?_
    refine zz_iload_n (i := 2) (pc := 117) C rfl rfl d_B_morning_117 ?_
    refine zz_isub (pc := 118) C d_B_morning_118 ?_
    refine zz_mabs (st := []) (pc := 119) C zl_11_293 (by omega) (Nat.le_of_ble_eq_true rfl) d_B_morning_119 rfl ?_
    refine zz_istore (i := 7) (lo' := [some (.ref 0), some (.int v1), some (.int v2), some (.int v3), some (.int v4), some (.int v5), some (.int v6), some (.int (zz_abs ((q10.1 36 (v1.toNatClampNeg)) - v2)))]) (pc := 122) C (Nat.le_of_ble_eq_true rfl) rfl rfl d_B_morning_122 ?_
    refine zz_iload (i := 6) (pc := 124) C rfl d_B_morning_124 ?_
    refine zz_if_eq (tgt := 136) (pc := 126) C (by decide) d_B_morning_126 (fun hc12 => ?_) (fun hc12 => ?_)
    · rw [if_pos hc12] at h
      refine zz_fg C [true, true, true, true, false, false, true, true] rfl rfl ?_
      exact zf_B_morning_J136 C (f_B_morning_L56 n) ih v1 v2 v3 v6 (zz_abs ((q10.1 36 (v1.toNatClampNeg)) - v2)) h
    · rw [if_neg hc12] at h
      refine zz_iload (i := 7) (pc := 129) C rfl d_B_morning_129 ?_
      refine zz_iload (i := 5) (pc := 131) C rfl d_B_morning_131 ?_
      refine zz_icmp_ge (tgt := 144) (pc := 133) C (by decide) d_B_morning_133 (fun hc13 => ?_) (fun hc13 => ?_)
      · rw [if_pos hc13] at h
        refine zz_iinc (lo' := [some (.ref 0), some (.int v1), some (.int v2), some (.int v3), some (.int v4), some (.int v5), some (.int (v6 + (1 : Int32))), some (.int (zz_abs ((q10.1 36 (v1.toNatClampNeg)) - v2)))]) (pc := 144) C rfl (zz_inc zki_1) rfl rfl d_B_morning_144 ?_
        refine zz_goto (tgt := 56) (pc := 147) C (by decide) d_B_morning_147 ?_
        refine zz_fg C [true, true, true, true, true, true, true, false] rfl rfl ?_
        exact ih v1 v2 v3 v4 v5 (v6 + (1 : Int32)) q10 h
      · rw [if_neg hc13] at h
        refine zz_fg C [true, true, true, true, false, false, true, true] rfl rfl ?_
        exact zf_B_morning_J136 C (f_B_morning_L56 n) ih v1 v2 v3 v6 (zz_abs ((q10.1 36 (v1.toNatClampNeg)) - v2)) h
set_option maxHeartbeats 4000000 in
set_option maxRecDepth 100000 in
theorem zf_B_morning {G : zz_G} {l : Launch} {Z : zz_Z} {q : Int32 × zz_S} {s : zz_S} (C : zz_Cx G l "OneBlanket" "morning" prog_1_method_32_code 8 (some .int) 8 (some (.int q.1), zsh, q.2) Z) (a1 : Int32) (a2 : Int32) (a3 : Int32) (h : f_B_morning a1 a2 a3 s = some q) : Z 0 [some (.ref 0), some (.int a1), some (.int a2), some (.int a3), none, none, none, none] [] zsh s := by
  unfold f_B_morning at h
  refine zz_aload_n (i := 0) (pc := 0) C rfl rfl d_B_morning_0 ?_
  refine zz_getR (pc := 1) C zl_11_12 zsh_0 rfl d_B_morning_1 ?_
  refine zz_iload_n (i := 1) (pc := 4) C rfl rfl d_B_morning_4 ?_
  refine zz_cVi (as := [.int a1]) (st := []) (pc := 5) C (zm_Bed_hasCover rfl) zcv_Bed_hasCover zsh_1 zl_11_105 (by omega) (Nat.le_of_ble_eq_true rfl) d_B_morning_5 rfl rfl ?_
  refine zz_if_eq (tgt := 32) (pc := 8) C (by decide) d_B_morning_8 (fun hc1 => ?_) (fun hc1 => ?_)
  · rw [if_pos hc1] at h
    refine zz_iconst (pc := 32) C zki_m1 d_B_morning_32 ?_
    replace h := Option.some.inj h
    subst h
    exact zz_ret (pc := 33) C (v := some (.int (-1 : Int32))) d_B_morning_33 (Or.inl ⟨_, _, rfl, rfl, rfl, rfl⟩) rfl
  · rw [if_neg hc1] at h
    refine zz_iload_n (i := 2) (pc := 11) C rfl rfl d_B_morning_11 ?_
    refine zz_bipush (pc := 12) C zkb_m99 d_B_morning_12 ?_
    refine zz_icmp_lt (tgt := 32) (pc := 14) C (by decide) d_B_morning_14 (fun hc2 => ?_) (fun hc2 => ?_)
    · rw [if_pos hc2] at h
      refine zz_iconst (pc := 32) C zki_m1 d_B_morning_32 ?_
      replace h := Option.some.inj h
      subst h
      exact zz_ret (pc := 33) C (v := some (.int (-1 : Int32))) d_B_morning_33 (Or.inl ⟨_, _, rfl, rfl, rfl, rfl⟩) rfl
    · rw [if_neg hc2] at h
      refine zz_iload_n (i := 2) (pc := 17) C rfl rfl d_B_morning_17 ?_
      refine zz_bipush (pc := 18) C zkb_99 d_B_morning_18 ?_
      refine zz_icmp_gt (tgt := 32) (pc := 20) C (by decide) d_B_morning_20 (fun hc3 => ?_) (fun hc3 => ?_)
      · rw [if_pos hc3] at h
        refine zz_iconst (pc := 32) C zki_m1 d_B_morning_32 ?_
        replace h := Option.some.inj h
        subst h
        exact zz_ret (pc := 33) C (v := some (.int (-1 : Int32))) d_B_morning_33 (Or.inl ⟨_, _, rfl, rfl, rfl, rfl⟩) rfl
      · rw [if_neg hc3] at h
        refine zz_iload_n (i := 3) (pc := 23) C rfl rfl d_B_morning_23 ?_
        refine zz_if_lt (tgt := 32) (pc := 24) C (by decide) d_B_morning_24 (fun hc4 => ?_) (fun hc4 => ?_)
        · rw [if_pos hc4] at h
          refine zz_iconst (pc := 32) C zki_m1 d_B_morning_32 ?_
          replace h := Option.some.inj h
          subst h
          exact zz_ret (pc := 33) C (v := some (.int (-1 : Int32))) d_B_morning_33 (Or.inl ⟨_, _, rfl, rfl, rfl, rfl⟩) rfl
        · rw [if_neg hc4] at h
          refine zz_iload_n (i := 3) (pc := 27) C rfl rfl d_B_morning_27 ?_
          refine zz_iconst (pc := 28) C zki_1 d_B_morning_28 ?_
          refine zz_icmp_le (tgt := 34) (pc := 29) C (by decide) d_B_morning_29 (fun hc5 => ?_) (fun hc5 => ?_)
          · rw [if_pos hc5] at h
            refine zz_aload_n (i := 0) (pc := 34) C rfl rfl d_B_morning_34 ?_
            refine zz_getR (pc := 35) C zl_11_12 zsh_0 rfl d_B_morning_35 ?_
            refine zz_getI (pc := 38) C zl_11_85 zsh_1 rfl d_B_morning_38 ?_
            refine zz_if_ne (tgt := 47) (pc := 41) C (by decide) d_B_morning_41 (fun hc6 => ?_) (fun hc6 => ?_)
            · rw [if_neg hc6] at h
              refine zz_iconst (pc := 47) C zki_0 d_B_morning_47 ?_
              refine zz_istore (i := 4) (lo' := [some (.ref 0), some (.int a1), some (.int a2), some (.int a3), some (.int (0 : Int32)), none, none, none]) (pc := 48) C (Nat.le_of_ble_eq_true rfl) rfl rfl d_B_morning_48 ?_
              refine zz_iconst (pc := 50) C zki_0 d_B_morning_50 ?_
              refine zz_istore (i := 5) (lo' := [some (.ref 0), some (.int a1), some (.int a2), some (.int a3), some (.int (0 : Int32)), some (.int (0 : Int32)), none, none]) (pc := 51) C (Nat.le_of_ble_eq_true rfl) rfl rfl d_B_morning_51 ?_
              refine zz_iconst (pc := 53) C zki_0 d_B_morning_53 ?_
              refine zz_istore (i := 6) (lo' := [some (.ref 0), some (.int a1), some (.int a2), some (.int a3), some (.int (0 : Int32)), some (.int (0 : Int32)), some (.int (0 : Int32)), none]) (pc := 54) C (Nat.le_of_ble_eq_true rfl) rfl rfl d_B_morning_54 ?_
              exact zf_B_morning_L56 C zF a1 a2 a3 (0 : Int32) (0 : Int32) (0 : Int32) s h
            · rw [if_pos hc6] at h
              refine zz_bipush (pc := 44) C zkb_m5 d_B_morning_44 ?_
              replace h := Option.some.inj h
              subst h
              exact zz_ret (pc := 46) C (v := some (.int (-5 : Int32))) d_B_morning_46 (Or.inl ⟨_, _, rfl, rfl, rfl, rfl⟩) rfl
          · rw [if_neg hc5] at h
            refine zz_iconst (pc := 32) C zki_m1 d_B_morning_32 ?_
            replace h := Option.some.inj h
            subst h
            exact zz_ret (pc := 33) C (v := some (.int (-1 : Int32))) d_B_morning_33 (Or.inl ⟨_, _, rfl, rfl, rfl, rfl⟩) rfl
theorem zm_B_morning {G : zz_G} {l : Launch} {s : zz_S} {q : Int32 × zz_S} {a1 : Int32} {a2 : Int32} {a3 : Int32} (h : f_B_morning a1 a2 a3 s = some q) : zz_M G l 8 y_B_morning prog_1_method_32_code 8 (some .int) [.ref 0, .int a1, .int a2, .int a3] zsh s (some (.int q.1), zsh, q.2) :=
  zz_M.intro (by decide) (Nat.le_of_ble_eq_true rfl) (Nat.le_refl _) (Nat.le_refl _) (fun Z C => zf_B_morning C a1 a2 a3 h)
theorem d_B_of_0 : decode prog_1_method_8_code 0 = .ok (.iload_n 2, 1) := by decide +kernel
theorem d_B_of_1 : decode prog_1_method_8_code 1 = .ok (.ifCond .lt (34), 3) := by decide +kernel
theorem d_B_of_4 : decode prog_1_method_8_code 4 = .ok (.iload_n 2, 1) := by decide +kernel
theorem d_B_of_5 : decode prog_1_method_8_code 5 = .ok (.iconst 3, 1) := by decide +kernel
theorem d_B_of_6 : decode prog_1_method_8_code 6 = .ok (.if_icmp .gt (29), 3) := by decide +kernel
theorem d_B_of_9 : decode prog_1_method_8_code 9 = .ok (.aload_n 0, 1) := by decide +kernel
theorem d_B_of_10 : decode prog_1_method_8_code 10 = .ok (.getfield 12, 3) := by decide +kernel
theorem d_B_of_13 : decode prog_1_method_8_code 13 = .ok (.iload_n 1, 1) := by decide +kernel
theorem d_B_of_14 : decode prog_1_method_8_code 14 = .ok (.invokevirtual 101, 3) := by decide +kernel
theorem d_B_of_17 : decode prog_1_method_8_code 17 = .ok (.ifCond .eq (15), 3) := by decide +kernel
theorem d_B_of_20 : decode prog_1_method_8_code 20 = .ok (.aload_n 0, 1) := by decide +kernel
theorem d_B_of_21 : decode prog_1_method_8_code 21 = .ok (.getfield 12, 3) := by decide +kernel
theorem d_B_of_24 : decode prog_1_method_8_code 24 = .ok (.iload_n 1, 1) := by decide +kernel
theorem d_B_of_25 : decode prog_1_method_8_code 25 = .ok (.iload_n 2, 1) := by decide +kernel
theorem d_B_of_26 : decode prog_1_method_8_code 26 = .ok (.invokevirtual 123, 3) := by decide +kernel
theorem d_B_of_29 : decode prog_1_method_8_code 29 = .ok (.goto (5), 3) := by decide +kernel
theorem d_B_of_32 : decode prog_1_method_8_code 32 = .ok (.ldc 127, 2) := by decide +kernel
theorem d_B_of_34 : decode prog_1_method_8_code 34 = .ok (.ireturn, 1) := by decide +kernel
theorem d_B_of_35 : decode prog_1_method_8_code 35 = .ok (.iload_n 2, 1) := by decide +kernel
theorem d_B_of_36 : decode prog_1_method_8_code 36 = .ok (.bipush (10), 2) := by decide +kernel
theorem d_B_of_38 : decode prog_1_method_8_code 38 = .ok (.if_icmp .lt (38), 3) := by decide +kernel
theorem d_B_of_41 : decode prog_1_method_8_code 41 = .ok (.iload_n 2, 1) := by decide +kernel
theorem d_B_of_42 : decode prog_1_method_8_code 42 = .ok (.bipush (13), 2) := by decide +kernel
theorem d_B_of_44 : decode prog_1_method_8_code 44 = .ok (.if_icmp .gt (32), 3) := by decide +kernel
theorem d_B_of_47 : decode prog_1_method_8_code 47 = .ok (.aload_n 0, 1) := by decide +kernel
theorem d_B_of_48 : decode prog_1_method_8_code 48 = .ok (.getfield 12, 3) := by decide +kernel
theorem d_B_of_51 : decode prog_1_method_8_code 51 = .ok (.iload_n 1, 1) := by decide +kernel
theorem d_B_of_52 : decode prog_1_method_8_code 52 = .ok (.invokevirtual 105, 3) := by decide +kernel
theorem d_B_of_55 : decode prog_1_method_8_code 55 = .ok (.ifCond .eq (18), 3) := by decide +kernel
theorem d_B_of_58 : decode prog_1_method_8_code 58 = .ok (.aload_n 0, 1) := by decide +kernel
theorem d_B_of_59 : decode prog_1_method_8_code 59 = .ok (.getfield 12, 3) := by decide +kernel
theorem d_B_of_62 : decode prog_1_method_8_code 62 = .ok (.iload_n 1, 1) := by decide +kernel
theorem d_B_of_63 : decode prog_1_method_8_code 63 = .ok (.iload_n 2, 1) := by decide +kernel
theorem d_B_of_64 : decode prog_1_method_8_code 64 = .ok (.bipush (10), 2) := by decide +kernel
theorem d_B_of_66 : decode prog_1_method_8_code 66 = .ok (.isub, 1) := by decide +kernel
theorem d_B_of_67 : decode prog_1_method_8_code 67 = .ok (.invokevirtual 128, 3) := by decide +kernel
theorem d_B_of_70 : decode prog_1_method_8_code 70 = .ok (.goto (5), 3) := by decide +kernel
theorem d_B_of_73 : decode prog_1_method_8_code 73 = .ok (.ldc 127, 2) := by decide +kernel
theorem d_B_of_75 : decode prog_1_method_8_code 75 = .ok (.ireturn, 1) := by decide +kernel
theorem d_B_of_76 : decode prog_1_method_8_code 76 = .ok (.iload_n 2, 1) := by decide +kernel
theorem d_B_of_77 : decode prog_1_method_8_code 77 = .ok (.bipush (20), 2) := by decide +kernel
theorem d_B_of_79 : decode prog_1_method_8_code 79 = .ok (.if_icmp .lt (38), 3) := by decide +kernel
theorem d_B_of_82 : decode prog_1_method_8_code 82 = .ok (.iload_n 2, 1) := by decide +kernel
theorem d_B_of_83 : decode prog_1_method_8_code 83 = .ok (.bipush (22), 2) := by decide +kernel
theorem d_B_of_85 : decode prog_1_method_8_code 85 = .ok (.if_icmp .gt (32), 3) := by decide +kernel
theorem d_B_of_88 : decode prog_1_method_8_code 88 = .ok (.aload_n 0, 1) := by decide +kernel
theorem d_B_of_89 : decode prog_1_method_8_code 89 = .ok (.getfield 19, 3) := by decide +kernel
theorem d_B_of_92 : decode prog_1_method_8_code 92 = .ok (.iload_n 1, 1) := by decide +kernel
theorem d_B_of_93 : decode prog_1_method_8_code 93 = .ok (.invokevirtual 131, 3) := by decide +kernel
theorem d_B_of_96 : decode prog_1_method_8_code 96 = .ok (.ifCond .eq (18), 3) := by decide +kernel
theorem d_B_of_99 : decode prog_1_method_8_code 99 = .ok (.aload_n 0, 1) := by decide +kernel
theorem d_B_of_100 : decode prog_1_method_8_code 100 = .ok (.getfield 19, 3) := by decide +kernel
theorem d_B_of_103 : decode prog_1_method_8_code 103 = .ok (.iload_n 1, 1) := by decide +kernel
theorem d_B_of_104 : decode prog_1_method_8_code 104 = .ok (.iload_n 2, 1) := by decide +kernel
theorem d_B_of_105 : decode prog_1_method_8_code 105 = .ok (.bipush (20), 2) := by decide +kernel
theorem d_B_of_107 : decode prog_1_method_8_code 107 = .ok (.isub, 1) := by decide +kernel
theorem d_B_of_108 : decode prog_1_method_8_code 108 = .ok (.invokevirtual 134, 3) := by decide +kernel
theorem d_B_of_111 : decode prog_1_method_8_code 111 = .ok (.goto (5), 3) := by decide +kernel
theorem d_B_of_114 : decode prog_1_method_8_code 114 = .ok (.ldc 127, 2) := by decide +kernel
theorem d_B_of_116 : decode prog_1_method_8_code 116 = .ok (.ireturn, 1) := by decide +kernel
theorem d_B_of_117 : decode prog_1_method_8_code 117 = .ok (.ldc 127, 2) := by decide +kernel
theorem d_B_of_119 : decode prog_1_method_8_code 119 = .ok (.ireturn, 1) := by decide +kernel
set_option maxHeartbeats 4000000 in
set_option maxRecDepth 100000 in
theorem zf_B_of_J76 {G : zz_G} {l : Launch} {Z : zz_Z} {q : Int32} {s : zz_S} (C : zz_Cx G l "OneBlanket" "of" prog_1_method_8_code 3 (some .int) 3 (some (.int q), zsh, s) Z) (v1 : Int32) (v2 : Int32) (h : f_B_of_J76 v1 v2 s = some q) : Z 76 [some (.ref 0), some (.int v1), some (.int v2)] [] zsh s := by
  unfold f_B_of_J76 at h
  refine zz_iload_n (i := 2) (pc := 76) C rfl rfl d_B_of_76 ?_
  refine zz_bipush (pc := 77) C zkb_20 d_B_of_77 ?_
  refine zz_icmp_lt (tgt := 117) (pc := 79) C (by decide) d_B_of_79 (fun hc3 => ?_) (fun hc3 => ?_)
  · rw [if_pos hc3] at h
    refine zz_ldc (pc := 117) C zl_11_127 d_B_of_117 ?_
    replace h := Option.some.inj h
    subst h
    exact zz_ret (pc := 119) C (v := some (.int (-2000000000 : Int32))) d_B_of_119 (Or.inl ⟨_, _, rfl, rfl, rfl, rfl⟩) rfl
  · rw [if_neg hc3] at h
    refine zz_iload_n (i := 2) (pc := 82) C rfl rfl d_B_of_82 ?_
    refine zz_bipush (pc := 83) C zkb_22 d_B_of_83 ?_
    refine zz_icmp_gt (tgt := 117) (pc := 85) C (by decide) d_B_of_85 (fun hc4 => ?_) (fun hc4 => ?_)
    · rw [if_pos hc4] at h
      refine zz_ldc (pc := 117) C zl_11_127 d_B_of_117 ?_
      replace h := Option.some.inj h
      subst h
      exact zz_ret (pc := 119) C (v := some (.int (-2000000000 : Int32))) d_B_of_119 (Or.inl ⟨_, _, rfl, rfl, rfl, rfl⟩) rfl
    · rw [if_neg hc4] at h
      refine zz_aload_n (i := 0) (pc := 88) C rfl rfl d_B_of_88 ?_
      refine zz_getR (pc := 89) C zl_11_19 zsh_0 rfl d_B_of_89 ?_
      refine zz_iload_n (i := 1) (pc := 92) C rfl rfl d_B_of_92 ?_
      refine zz_cVi (as := [.int v1]) (st := []) (pc := 93) C (zm_Turns_has rfl) zcv_Turns_has zsh_10 zl_11_131 (by omega) (Nat.le_of_ble_eq_true rfl) d_B_of_93 rfl rfl ?_
      refine zz_if_eq (tgt := 114) (pc := 96) C (by decide) d_B_of_96 (fun hc5 => ?_) (fun hc5 => ?_)
      · rw [if_pos hc5] at h
        refine zz_ldc (pc := 114) C zl_11_127 d_B_of_114 ?_
        replace h := Option.some.inj h
        subst h
        exact zz_ret (pc := 116) C (v := some (.int (-2000000000 : Int32))) d_B_of_116 (Or.inl ⟨_, _, rfl, rfl, rfl, rfl⟩) rfl
      · rw [if_neg hc5] at h
        refine zz_aload_n (i := 0) (pc := 99) C rfl rfl d_B_of_99 ?_
        refine zz_getR (pc := 100) C zl_11_19 zsh_0 rfl d_B_of_100 ?_
        refine zz_iload_n (i := 1) (pc := 103) C rfl rfl d_B_of_103 ?_
        refine zz_iload_n (i := 2) (pc := 104) C rfl rfl d_B_of_104 ?_
        refine zz_bipush (pc := 105) C zkb_20 d_B_of_105 ?_
        refine zz_isub (pc := 107) C d_B_of_107 ?_
        obtain ⟨q6, hq6, h⟩ := zz_bdE h
        refine zz_cVi (as := [.int v1, .int (v2 - (20 : Int32))]) (st := []) (pc := 108) C (zm_Turns_ofTurn hq6) zcv_Turns_ofTurn zsh_10 zl_11_134 (by omega) (Nat.le_of_ble_eq_true rfl) d_B_of_108 rfl rfl ?_
        refine zz_goto (tgt := 116) (pc := 111) C (by decide) d_B_of_111 ?_
        replace h := Option.some.inj h
        subst h
        exact zz_ret (pc := 116) C (v := some (.int q6)) d_B_of_116 (Or.inl ⟨_, _, rfl, rfl, rfl, rfl⟩) rfl
set_option maxHeartbeats 4000000 in
set_option maxRecDepth 100000 in
theorem zf_B_of_J35 {G : zz_G} {l : Launch} {Z : zz_Z} {q : Int32} {s : zz_S} (C : zz_Cx G l "OneBlanket" "of" prog_1_method_8_code 3 (some .int) 3 (some (.int q), zsh, s) Z) (v1 : Int32) (v2 : Int32) (h : f_B_of_J35 v1 v2 s = some q) : Z 35 [some (.ref 0), some (.int v1), some (.int v2)] [] zsh s := by
  unfold f_B_of_J35 at h
  refine zz_iload_n (i := 2) (pc := 35) C rfl rfl d_B_of_35 ?_
  refine zz_bipush (pc := 36) C zkb_10 d_B_of_36 ?_
  refine zz_icmp_lt (tgt := 76) (pc := 38) C (by decide) d_B_of_38 (fun hc2 => ?_) (fun hc2 => ?_)
  · rw [if_pos hc2] at h
    exact zf_B_of_J76 C v1 v2 h
  · rw [if_neg hc2] at h
    refine zz_iload_n (i := 2) (pc := 41) C rfl rfl d_B_of_41 ?_
    refine zz_bipush (pc := 42) C zkb_13 d_B_of_42 ?_
    refine zz_icmp_gt (tgt := 76) (pc := 44) C (by decide) d_B_of_44 (fun hc7 => ?_) (fun hc7 => ?_)
    · rw [if_pos hc7] at h
      exact zf_B_of_J76 C v1 v2 h
    · rw [if_neg hc7] at h
      refine zz_aload_n (i := 0) (pc := 47) C rfl rfl d_B_of_47 ?_
      refine zz_getR (pc := 48) C zl_11_12 zsh_0 rfl d_B_of_48 ?_
      refine zz_iload_n (i := 1) (pc := 51) C rfl rfl d_B_of_51 ?_
      refine zz_cVi (as := [.int v1]) (st := []) (pc := 52) C (zm_Bed_hasCover rfl) zcv_Bed_hasCover zsh_1 zl_11_105 (by omega) (Nat.le_of_ble_eq_true rfl) d_B_of_52 rfl rfl ?_
      refine zz_if_eq (tgt := 73) (pc := 55) C (by decide) d_B_of_55 (fun hc8 => ?_) (fun hc8 => ?_)
      · rw [if_pos hc8] at h
        refine zz_ldc (pc := 73) C zl_11_127 d_B_of_73 ?_
        replace h := Option.some.inj h
        subst h
        exact zz_ret (pc := 75) C (v := some (.int (-2000000000 : Int32))) d_B_of_75 (Or.inl ⟨_, _, rfl, rfl, rfl, rfl⟩) rfl
      · rw [if_neg hc8] at h
        refine zz_aload_n (i := 0) (pc := 58) C rfl rfl d_B_of_58 ?_
        refine zz_getR (pc := 59) C zl_11_12 zsh_0 rfl d_B_of_59 ?_
        refine zz_iload_n (i := 1) (pc := 62) C rfl rfl d_B_of_62 ?_
        refine zz_iload_n (i := 2) (pc := 63) C rfl rfl d_B_of_63 ?_
        refine zz_bipush (pc := 64) C zkb_10 d_B_of_64 ?_
        refine zz_isub (pc := 66) C d_B_of_66 ?_
        obtain ⟨q9, hq9, h⟩ := zz_bdE h
        refine zz_cVi (as := [.int v1, .int (v2 - (10 : Int32))]) (st := []) (pc := 67) C (zm_Bed_ofCover hq9) zcv_Bed_ofCover zsh_1 zl_11_128 (by omega) (Nat.le_of_ble_eq_true rfl) d_B_of_67 rfl rfl ?_
        refine zz_goto (tgt := 75) (pc := 70) C (by decide) d_B_of_70 ?_
        replace h := Option.some.inj h
        subst h
        exact zz_ret (pc := 75) C (v := some (.int q9)) d_B_of_75 (Or.inl ⟨_, _, rfl, rfl, rfl, rfl⟩) rfl
set_option maxHeartbeats 4000000 in
set_option maxRecDepth 100000 in
theorem zf_B_of {G : zz_G} {l : Launch} {Z : zz_Z} {q : Int32} {s : zz_S} (C : zz_Cx G l "OneBlanket" "of" prog_1_method_8_code 3 (some .int) 3 (some (.int q), zsh, s) Z) (a1 : Int32) (a2 : Int32) (h : f_B_of a1 a2 s = some q) : Z 0 [some (.ref 0), some (.int a1), some (.int a2)] [] zsh s := by
  unfold f_B_of at h
  refine zz_iload_n (i := 2) (pc := 0) C rfl rfl d_B_of_0 ?_
  refine zz_if_lt (tgt := 35) (pc := 1) C (by decide) d_B_of_1 (fun hc1 => ?_) (fun hc1 => ?_)
  · rw [if_pos hc1] at h
    exact zf_B_of_J35 C a1 a2 h
  · rw [if_neg hc1] at h
    refine zz_iload_n (i := 2) (pc := 4) C rfl rfl d_B_of_4 ?_
    refine zz_iconst (pc := 5) C zki_3 d_B_of_5 ?_
    refine zz_icmp_gt (tgt := 35) (pc := 6) C (by decide) d_B_of_6 (fun hc10 => ?_) (fun hc10 => ?_)
    · rw [if_pos hc10] at h
      exact zf_B_of_J35 C a1 a2 h
    · rw [if_neg hc10] at h
      refine zz_aload_n (i := 0) (pc := 9) C rfl rfl d_B_of_9 ?_
      refine zz_getR (pc := 10) C zl_11_12 zsh_0 rfl d_B_of_10 ?_
      refine zz_iload_n (i := 1) (pc := 13) C rfl rfl d_B_of_13 ?_
      refine zz_cVi (as := [.int a1]) (st := []) (pc := 14) C (zm_Bed_hasSleeper rfl) zcv_Bed_hasSleeper zsh_1 zl_11_101 (by omega) (Nat.le_of_ble_eq_true rfl) d_B_of_14 rfl rfl ?_
      refine zz_if_eq (tgt := 32) (pc := 17) C (by decide) d_B_of_17 (fun hc11 => ?_) (fun hc11 => ?_)
      · rw [if_pos hc11] at h
        refine zz_ldc (pc := 32) C zl_11_127 d_B_of_32 ?_
        replace h := Option.some.inj h
        subst h
        exact zz_ret (pc := 34) C (v := some (.int (-2000000000 : Int32))) d_B_of_34 (Or.inl ⟨_, _, rfl, rfl, rfl, rfl⟩) rfl
      · rw [if_neg hc11] at h
        refine zz_aload_n (i := 0) (pc := 20) C rfl rfl d_B_of_20 ?_
        refine zz_getR (pc := 21) C zl_11_12 zsh_0 rfl d_B_of_21 ?_
        refine zz_iload_n (i := 1) (pc := 24) C rfl rfl d_B_of_24 ?_
        refine zz_iload_n (i := 2) (pc := 25) C rfl rfl d_B_of_25 ?_
        obtain ⟨q12, hq12, h⟩ := zz_bdE h
        refine zz_cVi (as := [.int a1, .int a2]) (st := []) (pc := 26) C (zm_Bed_ofSleeper hq12) zcv_Bed_ofSleeper zsh_1 zl_11_123 (by omega) (Nat.le_of_ble_eq_true rfl) d_B_of_26 rfl rfl ?_
        refine zz_goto (tgt := 34) (pc := 29) C (by decide) d_B_of_29 ?_
        replace h := Option.some.inj h
        subst h
        exact zz_ret (pc := 34) C (v := some (.int q12)) d_B_of_34 (Or.inl ⟨_, _, rfl, rfl, rfl, rfl⟩) rfl
theorem zm_B_of {G : zz_G} {l : Launch} {s : zz_S} {q : Int32} {a1 : Int32} {a2 : Int32} (h : f_B_of a1 a2 s = some q) : zz_M G l 3 y_B_of prog_1_method_8_code 3 (some .int) [.ref 0, .int a1, .int a2] zsh s (some (.int q), zsh, s) :=
  zz_M.intro (by decide) (Nat.le_of_ble_eq_true rfl) (Nat.le_refl _) (Nat.le_refl _) (fun Z C => zf_B_of C a1 a2 h)
