theorem d_M_count_0 : decode prog_14_method_91_code 0 = .ok (.iload_n 1, 1) := by decide +kernel
theorem d_M_count_1 : decode prog_14_method_91_code 1 = .ok (.tableswitch (87) (0) (7) #[47, 52, 57, 62, 67, 72, 77, 82], 47) := by decide +kernel
theorem d_M_count_48 : decode prog_14_method_91_code 48 = .ok (.aload_n 0, 1) := by decide +kernel
theorem d_M_count_49 : decode prog_14_method_91_code 49 = .ok (.getfield 155, 3) := by decide +kernel
theorem d_M_count_52 : decode prog_14_method_91_code 52 = .ok (.ireturn, 1) := by decide +kernel
theorem d_M_count_53 : decode prog_14_method_91_code 53 = .ok (.aload_n 0, 1) := by decide +kernel
theorem d_M_count_54 : decode prog_14_method_91_code 54 = .ok (.getfield 162, 3) := by decide +kernel
theorem d_M_count_57 : decode prog_14_method_91_code 57 = .ok (.ireturn, 1) := by decide +kernel
theorem d_M_count_58 : decode prog_14_method_91_code 58 = .ok (.aload_n 0, 1) := by decide +kernel
theorem d_M_count_59 : decode prog_14_method_91_code 59 = .ok (.getfield 191, 3) := by decide +kernel
theorem d_M_count_62 : decode prog_14_method_91_code 62 = .ok (.ireturn, 1) := by decide +kernel
theorem d_M_count_63 : decode prog_14_method_91_code 63 = .ok (.aload_n 0, 1) := by decide +kernel
theorem d_M_count_64 : decode prog_14_method_91_code 64 = .ok (.getfield 258, 3) := by decide +kernel
theorem d_M_count_67 : decode prog_14_method_91_code 67 = .ok (.ireturn, 1) := by decide +kernel
theorem d_M_count_68 : decode prog_14_method_91_code 68 = .ok (.aload_n 0, 1) := by decide +kernel
theorem d_M_count_69 : decode prog_14_method_91_code 69 = .ok (.getfield 194, 3) := by decide +kernel
theorem d_M_count_72 : decode prog_14_method_91_code 72 = .ok (.ireturn, 1) := by decide +kernel
theorem d_M_count_73 : decode prog_14_method_91_code 73 = .ok (.aload_n 0, 1) := by decide +kernel
theorem d_M_count_74 : decode prog_14_method_91_code 74 = .ok (.getfield 172, 3) := by decide +kernel
theorem d_M_count_77 : decode prog_14_method_91_code 77 = .ok (.ireturn, 1) := by decide +kernel
theorem d_M_count_78 : decode prog_14_method_91_code 78 = .ok (.aload_n 0, 1) := by decide +kernel
theorem d_M_count_79 : decode prog_14_method_91_code 79 = .ok (.getfield 351, 3) := by decide +kernel
theorem d_M_count_82 : decode prog_14_method_91_code 82 = .ok (.ireturn, 1) := by decide +kernel
theorem d_M_count_83 : decode prog_14_method_91_code 83 = .ok (.aload_n 0, 1) := by decide +kernel
theorem d_M_count_84 : decode prog_14_method_91_code 84 = .ok (.getfield 354, 3) := by decide +kernel
theorem d_M_count_87 : decode prog_14_method_91_code 87 = .ok (.ireturn, 1) := by decide +kernel
theorem d_M_count_88 : decode prog_14_method_91_code 88 = .ok (.iconst (-1), 1) := by decide +kernel
theorem d_M_count_89 : decode prog_14_method_91_code 89 = .ok (.ireturn, 1) := by decide +kernel
set_option maxHeartbeats 4000000 in
set_option maxRecDepth 100000 in
theorem zf_M_count {G : zz_G} {l : Launch} {Z : zz_Z} {q : Int32} {s : zz_S} (C : zz_Cx G l "OneBlanketModel" "count" prog_14_method_91_code 2 (some .int) 2 (some (.int q), zsh, s) Z) (a1 : Int32) (h : f_M_count a1 s = q) : Z 0 [some (.ref 79), some (.int a1)] [] zsh s := by
  unfold f_M_count at h
  refine zz_iload_n (i := 1) (pc := 0) C rfl rfl d_M_count_0 ?_
  by_cases hc1 : a1 = (0 : Int32)
  · rw [if_pos hc1] at h
    refine zz_tableIn (tgt := 48) (off := 47) (pc := 1) C (by rw [hc1]; decide) (by rw [hc1]; decide) (by rw [hc1]; decide) (by decide) d_M_count_1 ?_
    refine zz_aload_n (i := 0) (pc := 48) C rfl rfl d_M_count_48 ?_
    refine zz_getI (pc := 49) C zl_12_155 zsh_79 rfl d_M_count_49 ?_
    subst h
    exact zz_ret (pc := 52) C (v := some (.int (s.1 79 2))) d_M_count_52 (Or.inl ⟨_, _, rfl, rfl, rfl, rfl⟩) rfl
  · rw [if_neg hc1] at h
    by_cases hc2 : a1 = (1 : Int32)
    · rw [if_pos hc2] at h
      refine zz_tableIn (tgt := 53) (off := 52) (pc := 1) C (by rw [hc2]; decide) (by rw [hc2]; decide) (by rw [hc2]; decide) (by decide) d_M_count_1 ?_
      refine zz_aload_n (i := 0) (pc := 53) C rfl rfl d_M_count_53 ?_
      refine zz_getI (pc := 54) C zl_12_162 zsh_79 rfl d_M_count_54 ?_
      subst h
      exact zz_ret (pc := 57) C (v := some (.int (s.1 79 7))) d_M_count_57 (Or.inl ⟨_, _, rfl, rfl, rfl, rfl⟩) rfl
    · rw [if_neg hc2] at h
      by_cases hc3 : a1 = (2 : Int32)
      · rw [if_pos hc3] at h
        refine zz_tableIn (tgt := 58) (off := 57) (pc := 1) C (by rw [hc3]; decide) (by rw [hc3]; decide) (by rw [hc3]; decide) (by decide) d_M_count_1 ?_
        refine zz_aload_n (i := 0) (pc := 58) C rfl rfl d_M_count_58 ?_
        refine zz_getI (pc := 59) C zl_12_191 zsh_79 rfl d_M_count_59 ?_
        subst h
        exact zz_ret (pc := 62) C (v := some (.int (s.1 79 12))) d_M_count_62 (Or.inl ⟨_, _, rfl, rfl, rfl, rfl⟩) rfl
      · rw [if_neg hc3] at h
        by_cases hc4 : a1 = (3 : Int32)
        · rw [if_pos hc4] at h
          refine zz_tableIn (tgt := 63) (off := 62) (pc := 1) C (by rw [hc4]; decide) (by rw [hc4]; decide) (by rw [hc4]; decide) (by decide) d_M_count_1 ?_
          refine zz_aload_n (i := 0) (pc := 63) C rfl rfl d_M_count_63 ?_
          refine zz_getI (pc := 64) C zl_12_258 zsh_79 rfl d_M_count_64 ?_
          subst h
          exact zz_ret (pc := 67) C (v := some (.int (s.1 79 35))) d_M_count_67 (Or.inl ⟨_, _, rfl, rfl, rfl, rfl⟩) rfl
        · rw [if_neg hc4] at h
          by_cases hc5 : a1 = (4 : Int32)
          · rw [if_pos hc5] at h
            refine zz_tableIn (tgt := 68) (off := 67) (pc := 1) C (by rw [hc5]; decide) (by rw [hc5]; decide) (by rw [hc5]; decide) (by decide) d_M_count_1 ?_
            refine zz_aload_n (i := 0) (pc := 68) C rfl rfl d_M_count_68 ?_
            refine zz_getI (pc := 69) C zl_12_194 zsh_79 rfl d_M_count_69 ?_
            subst h
            exact zz_ret (pc := 72) C (v := some (.int (s.1 79 23))) d_M_count_72 (Or.inl ⟨_, _, rfl, rfl, rfl, rfl⟩) rfl
          · rw [if_neg hc5] at h
            by_cases hc6 : a1 = (5 : Int32)
            · rw [if_pos hc6] at h
              refine zz_tableIn (tgt := 73) (off := 72) (pc := 1) C (by rw [hc6]; decide) (by rw [hc6]; decide) (by rw [hc6]; decide) (by decide) d_M_count_1 ?_
              refine zz_aload_n (i := 0) (pc := 73) C rfl rfl d_M_count_73 ?_
              refine zz_getI (pc := 74) C zl_12_172 zsh_79 rfl d_M_count_74 ?_
              subst h
              exact zz_ret (pc := 77) C (v := some (.int (s.1 79 16))) d_M_count_77 (Or.inl ⟨_, _, rfl, rfl, rfl, rfl⟩) rfl
            · rw [if_neg hc6] at h
              by_cases hc7 : a1 = (6 : Int32)
              · rw [if_pos hc7] at h
                refine zz_tableIn (tgt := 78) (off := 77) (pc := 1) C (by rw [hc7]; decide) (by rw [hc7]; decide) (by rw [hc7]; decide) (by decide) d_M_count_1 ?_
                refine zz_aload_n (i := 0) (pc := 78) C rfl rfl d_M_count_78 ?_
                refine zz_getI (pc := 79) C zl_12_351 zsh_79 rfl d_M_count_79 ?_
                subst h
                exact zz_ret (pc := 82) C (v := some (.int (s.1 79 55))) d_M_count_82 (Or.inl ⟨_, _, rfl, rfl, rfl, rfl⟩) rfl
              · rw [if_neg hc7] at h
                by_cases hc8 : a1 = (7 : Int32)
                · rw [if_pos hc8] at h
                  refine zz_tableIn (tgt := 83) (off := 82) (pc := 1) C (by rw [hc8]; decide) (by rw [hc8]; decide) (by rw [hc8]; decide) (by decide) d_M_count_1 ?_
                  refine zz_aload_n (i := 0) (pc := 83) C rfl rfl d_M_count_83 ?_
                  refine zz_getI (pc := 84) C zl_12_354 zsh_79 rfl d_M_count_84 ?_
                  subst h
                  exact zz_ret (pc := 87) C (v := some (.int (s.1 79 57))) d_M_count_87 (Or.inl ⟨_, _, rfl, rfl, rfl, rfl⟩) rfl
                · rw [if_neg hc8] at h
                  have hc1i : a1.toInt ≠ 0 := fun e => hc1 (Int32.toInt_inj.mp e)
                  have hc2i : a1.toInt ≠ 1 := fun e => hc2 (Int32.toInt_inj.mp e)
                  have hc3i : a1.toInt ≠ 2 := fun e => hc3 (Int32.toInt_inj.mp e)
                  have hc4i : a1.toInt ≠ 3 := fun e => hc4 (Int32.toInt_inj.mp e)
                  have hc5i : a1.toInt ≠ 4 := fun e => hc5 (Int32.toInt_inj.mp e)
                  have hc6i : a1.toInt ≠ 5 := fun e => hc6 (Int32.toInt_inj.mp e)
                  have hc7i : a1.toInt ≠ 6 := fun e => hc7 (Int32.toInt_inj.mp e)
                  have hc8i : a1.toInt ≠ 7 := fun e => hc8 (Int32.toInt_inj.mp e)
                  refine zz_tableOut (tgt := 88) (pc := 1) C (by omega) (by decide) d_M_count_1 ?_
                  refine zz_iconst (pc := 88) C zki_m1 d_M_count_88 ?_
                  subst h
                  exact zz_ret (pc := 89) C (v := some (.int (-1 : Int32))) d_M_count_89 (Or.inl ⟨_, _, rfl, rfl, rfl, rfl⟩) rfl
theorem zm_M_count {G : zz_G} {l : Launch} {s : zz_S} {q : Int32} {a1 : Int32} (h : f_M_count a1 s = q) : zz_M G l 2 y_M_count prog_14_method_91_code 2 (some .int) [.ref 79, .int a1] zsh s (some (.int q), zsh, s) :=
  zz_M.intro (by decide) (Nat.le_of_ble_eq_true rfl) (Nat.le_refl _) (Nat.le_refl _) (fun Z C => zf_M_count C a1 h)
theorem d_M_cover_0 : decode prog_14_method_11_code 0 = .ok (.iload_n 1, 1) := by decide +kernel
theorem d_M_cover_1 : decode prog_14_method_11_code 1 = .ok (.bipush (-40), 2) := by decide +kernel
theorem d_M_cover_3 : decode prog_14_method_11_code 3 = .ok (.bipush (60), 2) := by decide +kernel
theorem d_M_cover_5 : decode prog_14_method_11_code 5 = .ok (.invokestatic 158, 3) := by decide +kernel
theorem d_M_cover_8 : decode prog_14_method_11_code 8 = .ok (.ifCond .eq (39), 3) := by decide +kernel
theorem d_M_cover_11 : decode prog_14_method_11_code 11 = .ok (.iload_n 2, 1) := by decide +kernel
theorem d_M_cover_12 : decode prog_14_method_11_code 12 = .ok (.ifCond .lt (35), 3) := by decide +kernel
theorem d_M_cover_15 : decode prog_14_method_11_code 15 = .ok (.iload_n 2, 1) := by decide +kernel
theorem d_M_cover_16 : decode prog_14_method_11_code 16 = .ok (.bipush (100), 2) := by decide +kernel
theorem d_M_cover_18 : decode prog_14_method_11_code 18 = .ok (.idiv, 1) := by decide +kernel
theorem d_M_cover_19 : decode prog_14_method_11_code 19 = .ok (.iconst 5, 1) := by decide +kernel
theorem d_M_cover_20 : decode prog_14_method_11_code 20 = .ok (.bipush (80), 2) := by decide +kernel
theorem d_M_cover_22 : decode prog_14_method_11_code 22 = .ok (.invokestatic 158, 3) := by decide +kernel
theorem d_M_cover_25 : decode prog_14_method_11_code 25 = .ok (.ifCond .eq (22), 3) := by decide +kernel
theorem d_M_cover_28 : decode prog_14_method_11_code 28 = .ok (.iload_n 2, 1) := by decide +kernel
theorem d_M_cover_29 : decode prog_14_method_11_code 29 = .ok (.bipush (100), 2) := by decide +kernel
theorem d_M_cover_31 : decode prog_14_method_11_code 31 = .ok (.irem, 1) := by decide +kernel
theorem d_M_cover_32 : decode prog_14_method_11_code 32 = .ok (.bipush (50), 2) := by decide +kernel
theorem d_M_cover_34 : decode prog_14_method_11_code 34 = .ok (.if_icmp .gt (13), 3) := by decide +kernel
theorem d_M_cover_37 : decode prog_14_method_11_code 37 = .ok (.iload_n 3, 1) := by decide +kernel
theorem d_M_cover_38 : decode prog_14_method_11_code 38 = .ok (.iconst 0, 1) := by decide +kernel
theorem d_M_cover_39 : decode prog_14_method_11_code 39 = .ok (.bipush (9), 2) := by decide +kernel
theorem d_M_cover_41 : decode prog_14_method_11_code 41 = .ok (.invokestatic 158, 3) := by decide +kernel
theorem d_M_cover_44 : decode prog_14_method_11_code 44 = .ok (.ifCond .ne (5), 3) := by decide +kernel
theorem d_M_cover_47 : decode prog_14_method_11_code 47 = .ok (.iconst (-1), 1) := by decide +kernel
theorem d_M_cover_48 : decode prog_14_method_11_code 48 = .ok (.ireturn, 1) := by decide +kernel
theorem d_M_cover_49 : decode prog_14_method_11_code 49 = .ok (.aload_n 0, 1) := by decide +kernel
theorem d_M_cover_50 : decode prog_14_method_11_code 50 = .ok (.getfield 162, 3) := by decide +kernel
theorem d_M_cover_53 : decode prog_14_method_11_code 53 = .ok (.iconst 3, 1) := by decide +kernel
theorem d_M_cover_54 : decode prog_14_method_11_code 54 = .ok (.if_icmp .ne (6), 3) := by decide +kernel
theorem d_M_cover_57 : decode prog_14_method_11_code 57 = .ok (.bipush (-3), 2) := by decide +kernel
theorem d_M_cover_59 : decode prog_14_method_11_code 59 = .ok (.ireturn, 1) := by decide +kernel
theorem d_M_cover_60 : decode prog_14_method_11_code 60 = .ok (.aload_n 0, 1) := by decide +kernel
theorem d_M_cover_61 : decode prog_14_method_11_code 61 = .ok (.getfield 26, 3) := by decide +kernel
theorem d_M_cover_64 : decode prog_14_method_11_code 64 = .ok (.aload_n 0, 1) := by decide +kernel
theorem d_M_cover_65 : decode prog_14_method_11_code 65 = .ok (.getfield 162, 3) := by decide +kernel
theorem d_M_cover_68 : decode prog_14_method_11_code 68 = .ok (.iload_n 1, 1) := by decide +kernel
theorem d_M_cover_69 : decode prog_14_method_11_code 69 = .ok (.iastore, 1) := by decide +kernel
theorem d_M_cover_70 : decode prog_14_method_11_code 70 = .ok (.aload_n 0, 1) := by decide +kernel
theorem d_M_cover_71 : decode prog_14_method_11_code 71 = .ok (.getfield 29, 3) := by decide +kernel
theorem d_M_cover_74 : decode prog_14_method_11_code 74 = .ok (.aload_n 0, 1) := by decide +kernel
theorem d_M_cover_75 : decode prog_14_method_11_code 75 = .ok (.getfield 162, 3) := by decide +kernel
theorem d_M_cover_78 : decode prog_14_method_11_code 78 = .ok (.iload_n 2, 1) := by decide +kernel
theorem d_M_cover_79 : decode prog_14_method_11_code 79 = .ok (.bipush (100), 2) := by decide +kernel
theorem d_M_cover_81 : decode prog_14_method_11_code 81 = .ok (.idiv, 1) := by decide +kernel
theorem d_M_cover_82 : decode prog_14_method_11_code 82 = .ok (.iastore, 1) := by decide +kernel
theorem d_M_cover_83 : decode prog_14_method_11_code 83 = .ok (.aload_n 0, 1) := by decide +kernel
theorem d_M_cover_84 : decode prog_14_method_11_code 84 = .ok (.getfield 32, 3) := by decide +kernel
theorem d_M_cover_87 : decode prog_14_method_11_code 87 = .ok (.aload_n 0, 1) := by decide +kernel
theorem d_M_cover_88 : decode prog_14_method_11_code 88 = .ok (.getfield 162, 3) := by decide +kernel
theorem d_M_cover_91 : decode prog_14_method_11_code 91 = .ok (.iload_n 2, 1) := by decide +kernel
theorem d_M_cover_92 : decode prog_14_method_11_code 92 = .ok (.bipush (100), 2) := by decide +kernel
theorem d_M_cover_94 : decode prog_14_method_11_code 94 = .ok (.irem, 1) := by decide +kernel
theorem d_M_cover_95 : decode prog_14_method_11_code 95 = .ok (.iastore, 1) := by decide +kernel
theorem d_M_cover_96 : decode prog_14_method_11_code 96 = .ok (.aload_n 0, 1) := by decide +kernel
theorem d_M_cover_97 : decode prog_14_method_11_code 97 = .ok (.getfield 35, 3) := by decide +kernel
theorem d_M_cover_100 : decode prog_14_method_11_code 100 = .ok (.aload_n 0, 1) := by decide +kernel
theorem d_M_cover_101 : decode prog_14_method_11_code 101 = .ok (.getfield 162, 3) := by decide +kernel
theorem d_M_cover_104 : decode prog_14_method_11_code 104 = .ok (.iload_n 3, 1) := by decide +kernel
theorem d_M_cover_105 : decode prog_14_method_11_code 105 = .ok (.iastore, 1) := by decide +kernel
theorem d_M_cover_106 : decode prog_14_method_11_code 106 = .ok (.aload_n 0, 1) := by decide +kernel
theorem d_M_cover_107 : decode prog_14_method_11_code 107 = .ok (.dup, 1) := by decide +kernel
theorem d_M_cover_108 : decode prog_14_method_11_code 108 = .ok (.getfield 162, 3) := by decide +kernel
theorem d_M_cover_111 : decode prog_14_method_11_code 111 = .ok (.iconst 1, 1) := by decide +kernel
theorem d_M_cover_112 : decode prog_14_method_11_code 112 = .ok (.iadd, 1) := by decide +kernel
theorem d_M_cover_113 : decode prog_14_method_11_code 113 = .ok (.putfield 162, 3) := by decide +kernel
theorem d_M_cover_116 : decode prog_14_method_11_code 116 = .ok (.aload_n 0, 1) := by decide +kernel
theorem d_M_cover_117 : decode prog_14_method_11_code 117 = .ok (.getfield 162, 3) := by decide +kernel
theorem d_M_cover_120 : decode prog_14_method_11_code 120 = .ok (.iconst 1, 1) := by decide +kernel
theorem d_M_cover_121 : decode prog_14_method_11_code 121 = .ok (.isub, 1) := by decide +kernel
theorem d_M_cover_122 : decode prog_14_method_11_code 122 = .ok (.ireturn, 1) := by decide +kernel
set_option maxHeartbeats 4000000 in
set_option maxRecDepth 100000 in
theorem zf_M_cover {G : zz_G} {l : Launch} {Z : zz_Z} {q : Int32 × zz_S} {s : zz_S} (C : zz_Cx G l "OneBlanketModel" "cover" prog_14_method_11_code 4 (some .int) 3 (some (.int q.1), zsh, q.2) Z) (a1 : Int32) (a2 : Int32) (a3 : Int32) (h : f_M_cover a1 a2 a3 s = some q) : Z 0 [some (.ref 79), some (.int a1), some (.int a2), some (.int a3)] [] zsh s := by
  unfold f_M_cover at h
  refine zz_iload_n (i := 1) (pc := 0) C rfl rfl d_M_cover_0 ?_
  refine zz_bipush (pc := 1) C zkb_m40 d_M_cover_1 ?_
  refine zz_bipush (pc := 3) C zkb_60 d_M_cover_3 ?_
  refine zz_cSi (as := [.int a1, .int (-40 : Int32), .int (60 : Int32)]) (st := []) (pc := 5) C (zm_M_in rfl) zcs_M_in zl_12_158 (by omega) (Nat.le_of_ble_eq_true rfl) d_M_cover_5 rfl rfl ?_
  refine zz_if_eq (tgt := 47) (pc := 8) C (by decide) d_M_cover_8 (fun hc1 => ?_) (fun hc1 => ?_)
  · rw [if_pos hc1] at h
    refine zz_iconst (pc := 47) C zki_m1 d_M_cover_47 ?_
    replace h := Option.some.inj h
    subst h
    exact zz_ret (pc := 48) C (v := some (.int (-1 : Int32))) d_M_cover_48 (Or.inl ⟨_, _, rfl, rfl, rfl, rfl⟩) rfl
  · rw [if_neg hc1] at h
    refine zz_iload_n (i := 2) (pc := 11) C rfl rfl d_M_cover_11 ?_
    refine zz_if_lt (tgt := 47) (pc := 12) C (by decide) d_M_cover_12 (fun hc2 => ?_) (fun hc2 => ?_)
    · rw [if_pos hc2] at h
      refine zz_iconst (pc := 47) C zki_m1 d_M_cover_47 ?_
      replace h := Option.some.inj h
      subst h
      exact zz_ret (pc := 48) C (v := some (.int (-1 : Int32))) d_M_cover_48 (Or.inl ⟨_, _, rfl, rfl, rfl, rfl⟩) rfl
    · rw [if_neg hc2] at h
      refine zz_iload_n (i := 2) (pc := 15) C rfl rfl d_M_cover_15 ?_
      refine zz_bipush (pc := 16) C zkb_100 d_M_cover_16 ?_
      refine zz_idiv (pc := 18) C (by decide) d_M_cover_18 ?_
      refine zz_iconst (pc := 19) C zki_5 d_M_cover_19 ?_
      refine zz_bipush (pc := 20) C zkb_80 d_M_cover_20 ?_
      refine zz_cSi (as := [.int (a2 / (100 : Int32)), .int (5 : Int32), .int (80 : Int32)]) (st := []) (pc := 22) C (zm_M_in rfl) zcs_M_in zl_12_158 (by omega) (Nat.le_of_ble_eq_true rfl) d_M_cover_22 rfl rfl ?_
      refine zz_if_eq (tgt := 47) (pc := 25) C (by decide) d_M_cover_25 (fun hc3 => ?_) (fun hc3 => ?_)
      · rw [if_pos hc3] at h
        refine zz_iconst (pc := 47) C zki_m1 d_M_cover_47 ?_
        replace h := Option.some.inj h
        subst h
        exact zz_ret (pc := 48) C (v := some (.int (-1 : Int32))) d_M_cover_48 (Or.inl ⟨_, _, rfl, rfl, rfl, rfl⟩) rfl
      · rw [if_neg hc3] at h
        refine zz_iload_n (i := 2) (pc := 28) C rfl rfl d_M_cover_28 ?_
        refine zz_bipush (pc := 29) C zkb_100 d_M_cover_29 ?_
        refine zz_irem (pc := 31) C (by decide) d_M_cover_31 ?_
        refine zz_bipush (pc := 32) C zkb_50 d_M_cover_32 ?_
        refine zz_icmp_gt (tgt := 47) (pc := 34) C (by decide) d_M_cover_34 (fun hc4 => ?_) (fun hc4 => ?_)
        · rw [if_pos hc4] at h
          refine zz_iconst (pc := 47) C zki_m1 d_M_cover_47 ?_
          replace h := Option.some.inj h
          subst h
          exact zz_ret (pc := 48) C (v := some (.int (-1 : Int32))) d_M_cover_48 (Or.inl ⟨_, _, rfl, rfl, rfl, rfl⟩) rfl
        · rw [if_neg hc4] at h
          refine zz_iload_n (i := 3) (pc := 37) C rfl rfl d_M_cover_37 ?_
          refine zz_iconst (pc := 38) C zki_0 d_M_cover_38 ?_
          refine zz_bipush (pc := 39) C zkb_9 d_M_cover_39 ?_
          refine zz_cSi (as := [.int a3, .int (0 : Int32), .int (9 : Int32)]) (st := []) (pc := 41) C (zm_M_in rfl) zcs_M_in zl_12_158 (by omega) (Nat.le_of_ble_eq_true rfl) d_M_cover_41 rfl rfl ?_
          refine zz_if_ne (tgt := 49) (pc := 44) C (by decide) d_M_cover_44 (fun hc5 => ?_) (fun hc5 => ?_)
          · rw [if_neg hc5] at h
            refine zz_aload_n (i := 0) (pc := 49) C rfl rfl d_M_cover_49 ?_
            refine zz_getI (pc := 50) C zl_12_162 zsh_79 rfl d_M_cover_50 ?_
            refine zz_iconst (pc := 53) C zki_3 d_M_cover_53 ?_
            refine zz_icmp_ne (tgt := 60) (pc := 54) C (by decide) d_M_cover_54 (fun hc6 => ?_) (fun hc6 => ?_)
            · rw [if_neg hc6] at h
              refine zz_aload_n (i := 0) (pc := 60) C rfl rfl d_M_cover_60 ?_
              refine zz_getR (pc := 61) C zl_12_26 zsh_79 rfl d_M_cover_61 ?_
              refine zz_aload_n (i := 0) (pc := 64) C rfl rfl d_M_cover_64 ?_
              refine zz_getI (pc := 65) C zl_12_162 zsh_79 rfl d_M_cover_65 ?_
              refine zz_iload_n (i := 1) (pc := 68) C rfl rfl d_M_cover_68 ?_
              obtain ⟨hi7, h⟩ := zz_ckE h
              refine zz_iast (pc := 69) C rfl zsh_84 hi7 d_M_cover_69 ?_
              refine zz_aload_n (i := 0) (pc := 70) C rfl rfl d_M_cover_70 ?_
              refine zz_getR (pc := 71) C zl_12_29 zsh_79 rfl d_M_cover_71 ?_
              refine zz_aload_n (i := 0) (pc := 74) C rfl rfl d_M_cover_74 ?_
              refine zz_getIv (v := (s.1 79 7)) (pc := 75) C zl_12_162 zsh_79 rfl rfl d_M_cover_75 ?_
              refine zz_iload_n (i := 2) (pc := 78) C rfl rfl d_M_cover_78 ?_
              refine zz_bipush (pc := 79) C zkb_100 d_M_cover_79 ?_
              refine zz_idiv (pc := 81) C (by decide) d_M_cover_81 ?_
              refine zz_iast (pc := 82) C rfl zsh_85 hi7 d_M_cover_82 ?_
              refine zz_aload_n (i := 0) (pc := 83) C rfl rfl d_M_cover_83 ?_
              refine zz_getR (pc := 84) C zl_12_32 zsh_79 rfl d_M_cover_84 ?_
              refine zz_aload_n (i := 0) (pc := 87) C rfl rfl d_M_cover_87 ?_
              refine zz_getIv (v := (s.1 79 7)) (pc := 88) C zl_12_162 zsh_79 rfl rfl d_M_cover_88 ?_
              refine zz_iload_n (i := 2) (pc := 91) C rfl rfl d_M_cover_91 ?_
              refine zz_bipush (pc := 92) C zkb_100 d_M_cover_92 ?_
              refine zz_irem (pc := 94) C (by decide) d_M_cover_94 ?_
              refine zz_iast (pc := 95) C rfl zsh_86 hi7 d_M_cover_95 ?_
              refine zz_aload_n (i := 0) (pc := 96) C rfl rfl d_M_cover_96 ?_
              refine zz_getR (pc := 97) C zl_12_35 zsh_79 rfl d_M_cover_97 ?_
              refine zz_aload_n (i := 0) (pc := 100) C rfl rfl d_M_cover_100 ?_
              refine zz_getIv (v := (s.1 79 7)) (pc := 101) C zl_12_162 zsh_79 rfl rfl d_M_cover_101 ?_
              refine zz_iload_n (i := 3) (pc := 104) C rfl rfl d_M_cover_104 ?_
              refine zz_iast (pc := 105) C rfl zsh_87 hi7 d_M_cover_105 ?_
              refine zz_aload_n (i := 0) (pc := 106) C rfl rfl d_M_cover_106 ?_
              refine zz_dup (pc := 107) C rfl d_M_cover_107 ?_
              refine zz_getIv (v := (s.1 79 7)) (pc := 108) C zl_12_162 zsh_79 rfl rfl d_M_cover_108 ?_
              refine zz_iconst (pc := 111) C zki_1 d_M_cover_111 ?_
              refine zz_iadd (pc := 112) C d_M_cover_112 ?_
              refine zz_putI' (pc := 113) C zl_12_162 zpf_12_7 zsh_79 rfl d_M_cover_113 ?_
              refine zz_aload_n (i := 0) (pc := 116) C rfl rfl d_M_cover_116 ?_
              refine zz_getIv (v := ((s.1 79 7) + (1 : Int32))) (pc := 117) C zl_12_162 zsh_79 rfl rfl d_M_cover_117 ?_
              refine zz_iconst (pc := 120) C zki_1 d_M_cover_120 ?_
              refine zz_isub (pc := 121) C d_M_cover_121 ?_
              replace h := Option.some.inj h
              subst h
              exact zz_ret (pc := 122) C (v := some (.int (((s.1 79 7) + (1 : Int32)) - (1 : Int32)))) d_M_cover_122 (Or.inl ⟨_, _, rfl, rfl, rfl, rfl⟩) rfl
            · rw [if_pos hc6] at h
              refine zz_bipush (pc := 57) C zkb_m3 d_M_cover_57 ?_
              replace h := Option.some.inj h
              subst h
              exact zz_ret (pc := 59) C (v := some (.int (-3 : Int32))) d_M_cover_59 (Or.inl ⟨_, _, rfl, rfl, rfl, rfl⟩) rfl
          · rw [if_pos hc5] at h
            refine zz_iconst (pc := 47) C zki_m1 d_M_cover_47 ?_
            replace h := Option.some.inj h
            subst h
            exact zz_ret (pc := 48) C (v := some (.int (-1 : Int32))) d_M_cover_48 (Or.inl ⟨_, _, rfl, rfl, rfl, rfl⟩) rfl
theorem zm_M_cover {G : zz_G} {l : Launch} {s : zz_S} {q : Int32 × zz_S} {a1 : Int32} {a2 : Int32} {a3 : Int32} (h : f_M_cover a1 a2 a3 s = some q) : zz_M G l 3 y_M_cover prog_14_method_11_code 4 (some .int) [.ref 79, .int a1, .int a2, .int a3] zsh s (some (.int q.1), zsh, q.2) :=
  zz_M.intro (by decide) (Nat.le_of_ble_eq_true rfl) (Nat.le_refl _) (Nat.le_refl _) (fun Z C => zf_M_cover C a1 a2 a3 h)
theorem d_M_draw_0 : decode prog_14_method_68_code 0 = .ok (.aload_n 0, 1) := by decide +kernel
theorem d_M_draw_1 : decode prog_14_method_68_code 1 = .ok (.aload_n 0, 1) := by decide +kernel
theorem d_M_draw_2 : decode prog_14_method_68_code 2 = .ok (.getfield 338, 3) := by decide +kernel
theorem d_M_draw_5 : decode prog_14_method_68_code 5 = .ok (.ldc_w 341, 3) := by decide +kernel
theorem d_M_draw_8 : decode prog_14_method_68_code 8 = .ok (.imul, 1) := by decide +kernel
theorem d_M_draw_9 : decode prog_14_method_68_code 9 = .ok (.sipush (12345), 3) := by decide +kernel
theorem d_M_draw_12 : decode prog_14_method_68_code 12 = .ok (.iadd, 1) := by decide +kernel
theorem d_M_draw_13 : decode prog_14_method_68_code 13 = .ok (.putfield 338, 3) := by decide +kernel
theorem d_M_draw_16 : decode prog_14_method_68_code 16 = .ok (.aload_n 0, 1) := by decide +kernel
theorem d_M_draw_17 : decode prog_14_method_68_code 17 = .ok (.getfield 338, 3) := by decide +kernel
theorem d_M_draw_20 : decode prog_14_method_68_code 20 = .ok (.bipush (8), 2) := by decide +kernel
theorem d_M_draw_22 : decode prog_14_method_68_code 22 = .ok (.iushr, 1) := by decide +kernel
theorem d_M_draw_23 : decode prog_14_method_68_code 23 = .ok (.iload_n 1, 1) := by decide +kernel
theorem d_M_draw_24 : decode prog_14_method_68_code 24 = .ok (.irem, 1) := by decide +kernel
theorem d_M_draw_25 : decode prog_14_method_68_code 25 = .ok (.ireturn, 1) := by decide +kernel
set_option maxHeartbeats 4000000 in
set_option maxRecDepth 100000 in
theorem zf_M_draw {G : zz_G} {l : Launch} {Z : zz_Z} {q : Int32 × zz_S} {s : zz_S} (C : zz_Cx G l "OneBlanketModel" "draw" prog_14_method_68_code 2 (some .int) 2 (some (.int q.1), zsh, q.2) Z) (a1 : Int32) (h : f_M_draw a1 s = some q) : Z 0 [some (.ref 79), some (.int a1)] [] zsh s := by
  unfold f_M_draw at h
  refine zz_aload_n (i := 0) (pc := 0) C rfl rfl d_M_draw_0 ?_
  refine zz_aload_n (i := 0) (pc := 1) C rfl rfl d_M_draw_1 ?_
  refine zz_getI (pc := 2) C zl_12_338 zsh_79 rfl d_M_draw_2 ?_
  refine zz_ldcw (pc := 5) C zl_12_341 d_M_draw_5 ?_
  refine zz_imul (pc := 8) C d_M_draw_8 ?_
  refine zz_sipush (pc := 9) C zks_12345 d_M_draw_9 ?_
  refine zz_iadd (pc := 12) C d_M_draw_12 ?_
  refine zz_putI' (pc := 13) C zl_12_338 zpf_12_54 zsh_79 rfl d_M_draw_13 ?_
  refine zz_aload_n (i := 0) (pc := 16) C rfl rfl d_M_draw_16 ?_
  refine zz_getIv (v := (((s.1 79 54) * (1103515245 : Int32)) + (12345 : Int32))) (pc := 17) C zl_12_338 zsh_79 rfl rfl d_M_draw_17 ?_
  refine zz_bipush (pc := 20) C zkb_8 d_M_draw_20 ?_
  refine zz_iushr (pc := 22) C d_M_draw_22 ?_
  refine zz_iload_n (i := 1) (pc := 23) C rfl rfl d_M_draw_23 ?_
  obtain ⟨hy1, h⟩ := zz_ckN h
  refine zz_irem (pc := 24) C hy1 d_M_draw_24 ?_
  replace h := Option.some.inj h
  subst h
  exact zz_ret (pc := 25) C (v := some (.int ((((((s.1 79 54) * (1103515245 : Int32)) + (12345 : Int32)).toUInt32 >>> ((8 : Int32).toUInt32 &&& Int32.toUInt32 31)).toInt32) % a1))) d_M_draw_25 (Or.inl ⟨_, _, rfl, rfl, rfl, rfl⟩) rfl
theorem zm_M_draw {G : zz_G} {l : Launch} {s : zz_S} {q : Int32 × zz_S} {a1 : Int32} (h : f_M_draw a1 s = some q) : zz_M G l 2 y_M_draw prog_14_method_68_code 2 (some .int) [.ref 79, .int a1] zsh s (some (.int q.1), zsh, q.2) :=
  zz_M.intro (by decide) (Nat.le_of_ble_eq_true rfl) (Nat.le_refl _) (Nat.le_refl _) (fun Z C => zf_M_draw C a1 h)
theorem d_M_isSleeper_0 : decode prog_14_method_6_code 0 = .ok (.iload_n 1, 1) := by decide +kernel
theorem d_M_isSleeper_1 : decode prog_14_method_6_code 1 = .ok (.iconst 0, 1) := by decide +kernel
theorem d_M_isSleeper_2 : decode prog_14_method_6_code 2 = .ok (.aload_n 0, 1) := by decide +kernel
theorem d_M_isSleeper_3 : decode prog_14_method_6_code 3 = .ok (.getfield 155, 3) := by decide +kernel
theorem d_M_isSleeper_6 : decode prog_14_method_6_code 6 = .ok (.iconst 1, 1) := by decide +kernel
theorem d_M_isSleeper_7 : decode prog_14_method_6_code 7 = .ok (.isub, 1) := by decide +kernel
theorem d_M_isSleeper_8 : decode prog_14_method_6_code 8 = .ok (.invokestatic 158, 3) := by decide +kernel
theorem d_M_isSleeper_11 : decode prog_14_method_6_code 11 = .ok (.ireturn, 1) := by decide +kernel
set_option maxHeartbeats 4000000 in
set_option maxRecDepth 100000 in
theorem zf_M_isSleeper {G : zz_G} {l : Launch} {Z : zz_Z} {q : Int32} {s : zz_S} (C : zz_Cx G l "OneBlanketModel" "isSleeper" prog_14_method_6_code 2 (some .boolean) 3 (some (.int q), zsh, s) Z) (a1 : Int32) (h : f_M_isSleeper a1 s = q) : Z 0 [some (.ref 79), some (.int a1)] [] zsh s := by
  unfold f_M_isSleeper at h
  refine zz_iload_n (i := 1) (pc := 0) C rfl rfl d_M_isSleeper_0 ?_
  refine zz_iconst (pc := 1) C zki_0 d_M_isSleeper_1 ?_
  refine zz_aload_n (i := 0) (pc := 2) C rfl rfl d_M_isSleeper_2 ?_
  refine zz_getI (pc := 3) C zl_12_155 zsh_79 rfl d_M_isSleeper_3 ?_
  refine zz_iconst (pc := 6) C zki_1 d_M_isSleeper_6 ?_
  refine zz_isub (pc := 7) C d_M_isSleeper_7 ?_
  refine zz_cSi (as := [.int a1, .int (0 : Int32), .int ((s.1 79 2) - (1 : Int32))]) (st := []) (pc := 8) C (zm_M_in rfl) zcs_M_in zl_12_158 (by omega) (Nat.le_of_ble_eq_true rfl) d_M_isSleeper_8 rfl rfl ?_
  subst h
  -- boolean of (f_M_in a1 (0 : Int32) ((s.1 79 2) - (1 : Int32)))
  exact zz_ret (pc := 11) C (v := some (.int (f_M_in a1 (0 : Int32) ((s.1 79 2) - (1 : Int32))))) d_M_isSleeper_11 (Or.inl ⟨_, _, rfl, rfl, rfl, (zz_nb (zbool_M_in _ _ _))⟩) rfl
theorem zm_M_isSleeper {G : zz_G} {l : Launch} {s : zz_S} {q : Int32} {a1 : Int32} (h : f_M_isSleeper a1 s = q) : zz_M G l 3 y_M_isSleeper prog_14_method_6_code 2 (some .boolean) [.ref 79, .int a1] zsh s (some (.int q), zsh, s) :=
  zz_M.intro (by decide) (Nat.le_of_ble_eq_true rfl) (Nat.le_refl _) (Nat.le_refl _) (fun Z C => zf_M_isSleeper C a1 h)
theorem d_M_drawnNight_0 : decode prog_14_method_69_code 0 = .ok (.aload_n 0, 1) := by decide +kernel
theorem d_M_drawnNight_1 : decode prog_14_method_69_code 1 = .ok (.invokevirtual 313, 3) := by decide +kernel
theorem d_M_drawnNight_4 : decode prog_14_method_69_code 4 = .ok (.iconst 0, 1) := by decide +kernel
theorem d_M_drawnNight_5 : decode prog_14_method_69_code 5 = .ok (.istore_n 2, 1) := by decide +kernel
theorem d_M_drawnNight_6 : decode prog_14_method_69_code 6 = .ok (.iload_n 2, 1) := by decide +kernel
theorem d_M_drawnNight_7 : decode prog_14_method_69_code 7 = .ok (.sipush (480), 3) := by decide +kernel
theorem d_M_drawnNight_10 : decode prog_14_method_69_code 10 = .ok (.if_icmp .ge (74), 3) := by decide +kernel
theorem d_M_drawnNight_13 : decode prog_14_method_69_code 13 = .ok (.iload_n 2, 1) := by decide +kernel
theorem d_M_drawnNight_14 : decode prog_14_method_69_code 14 = .ok (.bipush (10), 2) := by decide +kernel
theorem d_M_drawnNight_16 : decode prog_14_method_69_code 16 = .ok (.irem, 1) := by decide +kernel
theorem d_M_drawnNight_17 : decode prog_14_method_69_code 17 = .ok (.ifCond .ne (56), 3) := by decide +kernel
theorem d_M_drawnNight_20 : decode prog_14_method_69_code 20 = .ok (.iconst 0, 1) := by decide +kernel
theorem d_M_drawnNight_21 : decode prog_14_method_69_code 21 = .ok (.istore_n 3, 1) := by decide +kernel
theorem d_M_drawnNight_22 : decode prog_14_method_69_code 22 = .ok (.iload_n 3, 1) := by decide +kernel
theorem d_M_drawnNight_23 : decode prog_14_method_69_code 23 = .ok (.aload_n 0, 1) := by decide +kernel
theorem d_M_drawnNight_24 : decode prog_14_method_69_code 24 = .ok (.getfield 155, 3) := by decide +kernel
theorem d_M_drawnNight_27 : decode prog_14_method_69_code 27 = .ok (.if_icmp .ge (46), 3) := by decide +kernel
theorem d_M_drawnNight_30 : decode prog_14_method_69_code 30 = .ok (.aload_n 0, 1) := by decide +kernel
theorem d_M_drawnNight_31 : decode prog_14_method_69_code 31 = .ok (.bipush (100), 2) := by decide +kernel
theorem d_M_drawnNight_33 : decode prog_14_method_69_code 33 = .ok (.invokevirtual 342, 3) := by decide +kernel
theorem d_M_drawnNight_36 : decode prog_14_method_69_code 36 = .ok (.iload_n 1, 1) := by decide +kernel
theorem d_M_drawnNight_37 : decode prog_14_method_69_code 37 = .ok (.if_icmp .lt (6), 3) := by decide +kernel
theorem d_M_drawnNight_40 : decode prog_14_method_69_code 40 = .ok (.goto (27), 3) := by decide +kernel
theorem d_M_drawnNight_43 : decode prog_14_method_69_code 43 = .ok (.aload_n 0, 1) := by decide +kernel
theorem d_M_drawnNight_44 : decode prog_14_method_69_code 44 = .ok (.bipush (21), 2) := by decide +kernel
theorem d_M_drawnNight_46 : decode prog_14_method_69_code 46 = .ok (.invokevirtual 342, 3) := by decide +kernel
theorem d_M_drawnNight_49 : decode prog_14_method_69_code 49 = .ok (.bipush (10), 2) := by decide +kernel
theorem d_M_drawnNight_51 : decode prog_14_method_69_code 51 = .ok (.isub, 1) := by decide +kernel
theorem d_M_drawnNight_52 : decode prog_14_method_69_code 52 = .ok (.istore 4, 2) := by decide +kernel
theorem d_M_drawnNight_54 : decode prog_14_method_69_code 54 = .ok (.iload 4, 2) := by decide +kernel
theorem d_M_drawnNight_56 : decode prog_14_method_69_code 56 = .ok (.ifCond .eq (11), 3) := by decide +kernel
theorem d_M_drawnNight_59 : decode prog_14_method_69_code 59 = .ok (.aload_n 0, 1) := by decide +kernel
theorem d_M_drawnNight_60 : decode prog_14_method_69_code 60 = .ok (.iload_n 3, 1) := by decide +kernel
theorem d_M_drawnNight_61 : decode prog_14_method_69_code 61 = .ok (.iload 4, 2) := by decide +kernel
theorem d_M_drawnNight_63 : decode prog_14_method_69_code 63 = .ok (.iload_n 2, 1) := by decide +kernel
theorem d_M_drawnNight_64 : decode prog_14_method_69_code 64 = .ok (.invokevirtual 310, 3) := by decide +kernel
theorem d_M_drawnNight_67 : decode prog_14_method_69_code 67 = .ok (.iinc 3 (1), 3) := by decide +kernel
theorem d_M_drawnNight_70 : decode prog_14_method_69_code 70 = .ok (.goto (-48), 3) := by decide +kernel
theorem d_M_drawnNight_73 : decode prog_14_method_69_code 73 = .ok (.aload_n 0, 1) := by decide +kernel
theorem d_M_drawnNight_74 : decode prog_14_method_69_code 74 = .ok (.iload_n 2, 1) := by decide +kernel
theorem d_M_drawnNight_75 : decode prog_14_method_69_code 75 = .ok (.invokevirtual 320, 3) := by decide +kernel
theorem d_M_drawnNight_78 : decode prog_14_method_69_code 78 = .ok (.iinc 2 (1), 3) := by decide +kernel
theorem d_M_drawnNight_81 : decode prog_14_method_69_code 81 = .ok (.goto (-75), 3) := by decide +kernel
theorem d_M_drawnNight_84 : decode prog_14_method_69_code 84 = .ok (.return_, 1) := by decide +kernel
set_option maxHeartbeats 4000000 in
set_option maxRecDepth 100000 in
theorem zf_M_drawnNight_J73 {G : zz_G} {l : Launch} {Z : zz_Z} {q : zz_S} {s : zz_S} (C : zz_Cx G l "OneBlanketModel" "drawnNight" prog_14_method_69_code 5 (none) 7 (none, zsh, q) Z) (K6 : Int32 → Int32 → zz_S → Option (zz_S)) (hK6 : ∀ (v1 : Int32) (v2 : Int32) (s : zz_S), K6 v1 v2 s = some q → Z 6 [some (.ref 79), some (.int v1), some (.int v2), none, none] [] zsh s) (v1 : Int32) (v2 : Int32) (h : f_M_drawnNight_J73 K6 v1 v2 s = some q) : Z 73 [some (.ref 79), some (.int v1), some (.int v2), none, none] [] zsh s := by
  unfold f_M_drawnNight_J73 at h
  refine zz_aload_n (i := 0) (pc := 73) C rfl rfl d_M_drawnNight_73 ?_
  refine zz_iload_n (i := 2) (pc := 74) C rfl rfl d_M_drawnNight_74 ?_
  obtain ⟨q4, hq4, h⟩ := zz_bdE h
  refine zz_cVv (as := [.int v2]) (st := []) (pc := 75) C (zm_M_countNow hq4) zcv_M_countNow zsh_79 zl_12_320 (by omega) (Nat.le_of_ble_eq_true rfl) d_M_drawnNight_75 rfl rfl ?_
  refine zz_iinc (lo' := [some (.ref 79), some (.int v1), some (.int (v2 + (1 : Int32))), none, none]) (pc := 78) C rfl (zz_inc zki_1) rfl rfl d_M_drawnNight_78 ?_
  refine zz_goto (tgt := 6) (pc := 81) C (by decide) d_M_drawnNight_81 ?_
  exact hK6 v1 (v2 + (1 : Int32)) q4 h
set_option maxHeartbeats 4000000 in
set_option maxRecDepth 100000 in
theorem zf_M_drawnNight_L22 {G : zz_G} {l : Launch} {Z : zz_Z} {q : zz_S} (C : zz_Cx G l "OneBlanketModel" "drawnNight" prog_14_method_69_code 5 (none) 7 (none, zsh, q) Z) (K6 : Int32 → Int32 → zz_S → Option (zz_S)) (hK6 : ∀ (v1 : Int32) (v2 : Int32) (s : zz_S), K6 v1 v2 s = some q → Z 6 [some (.ref 79), some (.int v1), some (.int v2), none, none] [] zsh s) : ∀ (n : Nat) (v1 : Int32) (v2 : Int32) (v3 : Int32) (s : zz_S), f_M_drawnNight_L22 K6 n v1 v2 v3 s = some q → Z 22 [some (.ref 79), some (.int v1), some (.int v2), some (.int v3), none] [] zsh s := by
  intro n
  induction n with
  | zero => intro v1 v2 v3 s h; rw [f_M_drawnNight_L22] at h; cases h
  | succ n ih =>
  intro v1 v2 v3 s h
  rw [f_M_drawnNight_L22] at h
  refine zz_iload_n (i := 3) (pc := 22) C rfl rfl d_M_drawnNight_22 ?_
  refine zz_aload_n (i := 0) (pc := 23) C rfl rfl d_M_drawnNight_23 ?_
  refine zz_getI (pc := 24) C zl_12_155 zsh_79 rfl d_M_drawnNight_24 ?_
  refine zz_icmp_ge (tgt := 73) (pc := 27) C (by decide) d_M_drawnNight_27 (fun hc5 => ?_) (fun hc5 => ?_)
  · rw [if_pos hc5] at h
    refine zz_fg C [true, true, true, false, false] rfl rfl ?_
    exact zf_M_drawnNight_J73 C K6 hK6 v1 v2 h
  · rw [if_neg hc5] at h
    refine zz_aload_n (i := 0) (pc := 30) C rfl rfl d_M_drawnNight_30 ?_
    refine zz_bipush (pc := 31) C zkb_100 d_M_drawnNight_31 ?_
    obtain ⟨q6, hq6, h⟩ := zz_bdE h
    refine zz_cVi (as := [.int (100 : Int32)]) (st := []) (pc := 33) C (zm_M_draw hq6) zcv_M_draw zsh_79 zl_12_342 (by omega) (Nat.le_of_ble_eq_true rfl) d_M_drawnNight_33 rfl rfl ?_
    refine zz_iload_n (i := 1) (pc := 36) C rfl rfl d_M_drawnNight_36 ?_
    refine zz_icmp_lt (tgt := 43) (pc := 37) C (by decide) d_M_drawnNight_37 (fun hc7 => ?_) (fun hc7 => ?_)
    · rw [if_pos hc7] at h
      refine zz_aload_n (i := 0) (pc := 43) C rfl rfl d_M_drawnNight_43 ?_
      refine zz_bipush (pc := 44) C zkb_21 d_M_drawnNight_44 ?_
      obtain ⟨q8, hq8, h⟩ := zz_bdE h
      refine zz_cVi (as := [.int (21 : Int32)]) (st := []) (pc := 46) C (zm_M_draw hq8) zcv_M_draw zsh_79 zl_12_342 (by omega) (Nat.le_of_ble_eq_true rfl) d_M_drawnNight_46 rfl rfl ?_
      refine zz_bipush (pc := 49) C zkb_10 d_M_drawnNight_49 ?_
      refine zz_isub (pc := 51) C d_M_drawnNight_51 ?_
      refine zz_istore (i := 4) (lo' := [some (.ref 79), some (.int v1), some (.int v2), some (.int v3), some (.int (q8.1 - (10 : Int32)))]) (pc := 52) C (Nat.le_of_ble_eq_true rfl) rfl rfl d_M_drawnNight_52 ?_
      refine zz_iload (i := 4) (pc := 54) C rfl d_M_drawnNight_54 ?_
      refine zz_if_eq (tgt := 67) (pc := 56) C (by decide) d_M_drawnNight_56 (fun hc9 => ?_) (fun hc9 => ?_)
      · rw [if_pos hc9] at h
        refine zz_iinc (lo' := [some (.ref 79), some (.int v1), some (.int v2), some (.int (v3 + (1 : Int32))), some (.int (q8.1 - (10 : Int32)))]) (pc := 67) C rfl (zz_inc zki_1) rfl rfl d_M_drawnNight_67 ?_
        refine zz_goto (tgt := 22) (pc := 70) C (by decide) d_M_drawnNight_70 ?_
        refine zz_fg C [true, true, true, true, false] rfl rfl ?_
        exact ih v1 v2 (v3 + (1 : Int32)) q8.2 h
      · rw [if_neg hc9] at h
        refine zz_aload_n (i := 0) (pc := 59) C rfl rfl d_M_drawnNight_59 ?_
        refine zz_iload_n (i := 3) (pc := 60) C rfl rfl d_M_drawnNight_60 ?_
        refine zz_iload (i := 4) (pc := 61) C rfl d_M_drawnNight_61 ?_
        refine zz_iload_n (i := 2) (pc := 63) C rfl rfl d_M_drawnNight_63 ?_
        obtain ⟨q10, hq10, h⟩ := zz_bdE h
        refine zz_cVv (as := [.int v3, .int (q8.1 - (10 : Int32)), .int v2]) (st := []) (pc := 64) C (zm_M_turnNow hq10) zcv_M_turnNow zsh_79 zl_12_310 (by omega) (Nat.le_of_ble_eq_true rfl) d_M_drawnNight_64 rfl rfl ?_
        refine zz_iinc (lo' := [some (.ref 79), some (.int v1), some (.int v2), some (.int (v3 + (1 : Int32))), some (.int (q8.1 - (10 : Int32)))]) (pc := 67) C rfl (zz_inc zki_1) rfl rfl d_M_drawnNight_67 ?_
        refine zz_goto (tgt := 22) (pc := 70) C (by decide) d_M_drawnNight_70 ?_
        refine zz_fg C [true, true, true, true, false] rfl rfl ?_
        exact ih v1 v2 (v3 + (1 : Int32)) q10 h
    · rw [if_neg hc7] at h
      refine zz_goto (tgt := 67) (pc := 40) C (by decide) d_M_drawnNight_40 ?_
      refine zz_iinc (lo' := [some (.ref 79), some (.int v1), some (.int v2), some (.int (v3 + (1 : Int32))), none]) (pc := 67) C rfl (zz_inc zki_1) rfl rfl d_M_drawnNight_67 ?_
      refine zz_goto (tgt := 22) (pc := 70) C (by decide) d_M_drawnNight_70 ?_
      exact ih v1 v2 (v3 + (1 : Int32)) q6.2 h
set_option maxHeartbeats 4000000 in
set_option maxRecDepth 100000 in
theorem zf_M_drawnNight_L6 {G : zz_G} {l : Launch} {Z : zz_Z} {q : zz_S} (C : zz_Cx G l "OneBlanketModel" "drawnNight" prog_14_method_69_code 5 (none) 7 (none, zsh, q) Z) : ∀ (n : Nat) (v1 : Int32) (v2 : Int32) (s : zz_S), f_M_drawnNight_L6 n v1 v2 s = some q → Z 6 [some (.ref 79), some (.int v1), some (.int v2), none, none] [] zsh s := by
  intro n
  induction n with
  | zero => intro v1 v2 s h; rw [f_M_drawnNight_L6] at h; cases h
  | succ n ih =>
  intro v1 v2 s h
  rw [f_M_drawnNight_L6] at h
  refine zz_iload_n (i := 2) (pc := 6) C rfl rfl d_M_drawnNight_6 ?_
  refine zz_sipush (pc := 7) C zks_480 d_M_drawnNight_7 ?_
  refine zz_icmp_ge (tgt := 84) (pc := 10) C (by decide) d_M_drawnNight_10 (fun hc2 => ?_) (fun hc2 => ?_)
  · rw [if_pos hc2] at h
    replace h := Option.some.inj h
    subst h
    exact zz_ret (pc := 84) C (v := none) d_M_drawnNight_84 (Or.inr (Or.inr (Or.inr ⟨rfl, rfl, rfl⟩))) rfl
  · rw [if_neg hc2] at h
    refine zz_iload_n (i := 2) (pc := 13) C rfl rfl d_M_drawnNight_13 ?_
    refine zz_bipush (pc := 14) C zkb_10 d_M_drawnNight_14 ?_
    refine zz_irem (pc := 16) C (by decide) d_M_drawnNight_16 ?_
    refine zz_if_ne (tgt := 73) (pc := 17) C (by decide) d_M_drawnNight_17 (fun hc3 => ?_) (fun hc3 => ?_)
    · rw [if_neg hc3] at h
      exact zf_M_drawnNight_J73 C (f_M_drawnNight_L6 n) ih v1 v2 h
    · rw [if_pos hc3] at h
      refine zz_iconst (pc := 20) C zki_0 d_M_drawnNight_20 ?_
      refine zz_istore_n (i := 3) (lo' := [some (.ref 79), some (.int v1), some (.int v2), some (.int (0 : Int32)), none]) (pc := 21) C rfl (Nat.le_of_ble_eq_true rfl) rfl rfl d_M_drawnNight_21 ?_
      exact zf_M_drawnNight_L22 C (f_M_drawnNight_L6 n) ih zF v1 v2 (0 : Int32) s h
set_option maxHeartbeats 4000000 in
set_option maxRecDepth 100000 in
theorem zf_M_drawnNight {G : zz_G} {l : Launch} {Z : zz_Z} {q : zz_S} {s : zz_S} (C : zz_Cx G l "OneBlanketModel" "drawnNight" prog_14_method_69_code 5 (none) 7 (none, zsh, q) Z) (a1 : Int32) (h : f_M_drawnNight a1 s = some q) : Z 0 [some (.ref 79), some (.int a1), none, none, none] [] zsh s := by
  unfold f_M_drawnNight at h
  refine zz_aload_n (i := 0) (pc := 0) C rfl rfl d_M_drawnNight_0 ?_
  obtain ⟨q1, hq1, h⟩ := zz_bdE h
  refine zz_cVv (as := []) (st := []) (pc := 1) C (zm_M_begin hq1) zcv_M_begin zsh_79 zl_12_313 (by omega) (Nat.le_of_ble_eq_true rfl) d_M_drawnNight_1 rfl rfl ?_
  refine zz_iconst (pc := 4) C zki_0 d_M_drawnNight_4 ?_
  refine zz_istore_n (i := 2) (lo' := [some (.ref 79), some (.int a1), some (.int (0 : Int32)), none, none]) (pc := 5) C rfl (Nat.le_of_ble_eq_true rfl) rfl rfl d_M_drawnNight_5 ?_
  exact zf_M_drawnNight_L6 C zF a1 (0 : Int32) q1 h
theorem zm_M_drawnNight {G : zz_G} {l : Launch} {s : zz_S} {q : zz_S} {a1 : Int32} (h : f_M_drawnNight a1 s = some q) : zz_M G l 7 y_M_drawnNight prog_14_method_69_code 5 (none) [.ref 79, .int a1] zsh s (none, zsh, q) :=
  zz_M.intro (by decide) (Nat.le_of_ble_eq_true rfl) (Nat.le_refl _) (Nat.le_refl _) (fun Z C => zf_M_drawnNight C a1 h)
theorem d_M_drawn_0 : decode prog_14_method_70_code 0 = .ok (.iload_n 2, 1) := by decide +kernel
theorem d_M_drawn_1 : decode prog_14_method_70_code 1 = .ok (.ifCond .lt (61), 3) := by decide +kernel
theorem d_M_drawn_4 : decode prog_14_method_70_code 4 = .ok (.iload_n 2, 1) := by decide +kernel
theorem d_M_drawn_5 : decode prog_14_method_70_code 5 = .ok (.sipush (1000), 3) := by decide +kernel
theorem d_M_drawn_8 : decode prog_14_method_70_code 8 = .ok (.idiv, 1) := by decide +kernel
theorem d_M_drawn_9 : decode prog_14_method_70_code 9 = .ok (.iconst 1, 1) := by decide +kernel
theorem d_M_drawn_10 : decode prog_14_method_70_code 10 = .ok (.bipush (20), 2) := by decide +kernel
theorem d_M_drawn_12 : decode prog_14_method_70_code 12 = .ok (.invokestatic 158, 3) := by decide +kernel
theorem d_M_drawn_15 : decode prog_14_method_70_code 15 = .ok (.ifCond .eq (47), 3) := by decide +kernel
theorem d_M_drawn_18 : decode prog_14_method_70_code 18 = .ok (.iload_n 2, 1) := by decide +kernel
theorem d_M_drawn_19 : decode prog_14_method_70_code 19 = .ok (.sipush (1000), 3) := by decide +kernel
theorem d_M_drawn_22 : decode prog_14_method_70_code 22 = .ok (.irem, 1) := by decide +kernel
theorem d_M_drawn_23 : decode prog_14_method_70_code 23 = .ok (.bipush (100), 2) := by decide +kernel
theorem d_M_drawn_25 : decode prog_14_method_70_code 25 = .ok (.if_icmp .gt (37), 3) := by decide +kernel
theorem d_M_drawn_28 : decode prog_14_method_70_code 28 = .ok (.iload 4, 2) := by decide +kernel
theorem d_M_drawn_30 : decode prog_14_method_70_code 30 = .ok (.iconst 0, 1) := by decide +kernel
theorem d_M_drawn_31 : decode prog_14_method_70_code 31 = .ok (.iconst 1, 1) := by decide +kernel
theorem d_M_drawn_32 : decode prog_14_method_70_code 32 = .ok (.invokestatic 158, 3) := by decide +kernel
theorem d_M_drawn_35 : decode prog_14_method_70_code 35 = .ok (.ifCond .eq (27), 3) := by decide +kernel
theorem d_M_drawn_38 : decode prog_14_method_70_code 38 = .ok (.iload 4, 2) := by decide +kernel
theorem d_M_drawn_40 : decode prog_14_method_70_code 40 = .ok (.ifCond .ne (14), 3) := by decide +kernel
theorem d_M_drawn_43 : decode prog_14_method_70_code 43 = .ok (.aload_n 0, 1) := by decide +kernel
theorem d_M_drawn_44 : decode prog_14_method_70_code 44 = .ok (.iload_n 3, 1) := by decide +kernel
theorem d_M_drawn_45 : decode prog_14_method_70_code 45 = .ok (.invokevirtual 179, 3) := by decide +kernel
theorem d_M_drawn_48 : decode prog_14_method_70_code 48 = .ok (.ifCond .eq (14), 3) := by decide +kernel
theorem d_M_drawn_51 : decode prog_14_method_70_code 51 = .ok (.goto (14), 3) := by decide +kernel
theorem d_M_drawn_54 : decode prog_14_method_70_code 54 = .ok (.aload_n 0, 1) := by decide +kernel
theorem d_M_drawn_55 : decode prog_14_method_70_code 55 = .ok (.iload_n 3, 1) := by decide +kernel
theorem d_M_drawn_56 : decode prog_14_method_70_code 56 = .ok (.invokevirtual 187, 3) := by decide +kernel
theorem d_M_drawn_59 : decode prog_14_method_70_code 59 = .ok (.ifCond .ne (6), 3) := by decide +kernel
theorem d_M_drawn_62 : decode prog_14_method_70_code 62 = .ok (.ldc 190, 2) := by decide +kernel
theorem d_M_drawn_64 : decode prog_14_method_70_code 64 = .ok (.ireturn, 1) := by decide +kernel
theorem d_M_drawn_65 : decode prog_14_method_70_code 65 = .ok (.aload_n 0, 1) := by decide +kernel
theorem d_M_drawn_66 : decode prog_14_method_70_code 66 = .ok (.iload_n 1, 1) := by decide +kernel
theorem d_M_drawn_67 : decode prog_14_method_70_code 67 = .ok (.putfield 338, 3) := by decide +kernel
theorem d_M_drawn_70 : decode prog_14_method_70_code 70 = .ok (.iconst 0, 1) := by decide +kernel
theorem d_M_drawn_71 : decode prog_14_method_70_code 71 = .ok (.istore 5, 2) := by decide +kernel
theorem d_M_drawn_73 : decode prog_14_method_70_code 73 = .ok (.iconst 0, 1) := by decide +kernel
theorem d_M_drawn_74 : decode prog_14_method_70_code 74 = .ok (.istore 6, 2) := by decide +kernel
theorem d_M_drawn_76 : decode prog_14_method_70_code 76 = .ok (.iload 6, 2) := by decide +kernel
theorem d_M_drawn_78 : decode prog_14_method_70_code 78 = .ok (.iload_n 2, 1) := by decide +kernel
theorem d_M_drawn_79 : decode prog_14_method_70_code 79 = .ok (.sipush (1000), 3) := by decide +kernel
theorem d_M_drawn_82 : decode prog_14_method_70_code 82 = .ok (.idiv, 1) := by decide +kernel
theorem d_M_drawn_83 : decode prog_14_method_70_code 83 = .ok (.if_icmp .ge (43), 3) := by decide +kernel
theorem d_M_drawn_86 : decode prog_14_method_70_code 86 = .ok (.aload_n 0, 1) := by decide +kernel
theorem d_M_drawn_87 : decode prog_14_method_70_code 87 = .ok (.iload_n 2, 1) := by decide +kernel
theorem d_M_drawn_88 : decode prog_14_method_70_code 88 = .ok (.sipush (1000), 3) := by decide +kernel
theorem d_M_drawn_91 : decode prog_14_method_70_code 91 = .ok (.irem, 1) := by decide +kernel
theorem d_M_drawn_92 : decode prog_14_method_70_code 92 = .ok (.invokevirtual 345, 3) := by decide +kernel
theorem d_M_drawn_95 : decode prog_14_method_70_code 95 = .ok (.iload 5, 2) := by decide +kernel
theorem d_M_drawn_97 : decode prog_14_method_70_code 97 = .ok (.iload 4, 2) := by decide +kernel
theorem d_M_drawn_99 : decode prog_14_method_70_code 99 = .ok (.ifCond .ne (12), 3) := by decide +kernel
theorem d_M_drawn_102 : decode prog_14_method_70_code 102 = .ok (.aload_n 0, 1) := by decide +kernel
theorem d_M_drawn_103 : decode prog_14_method_70_code 103 = .ok (.getfield 100, 3) := by decide +kernel
theorem d_M_drawn_106 : decode prog_14_method_70_code 106 = .ok (.iload_n 3, 1) := by decide +kernel
theorem d_M_drawn_107 : decode prog_14_method_70_code 107 = .ok (.iaload, 1) := by decide +kernel
theorem d_M_drawn_108 : decode prog_14_method_70_code 108 = .ok (.goto (9), 3) := by decide +kernel
theorem d_M_drawn_111 : decode prog_14_method_70_code 111 = .ok (.aload_n 0, 1) := by decide +kernel
theorem d_M_drawn_112 : decode prog_14_method_70_code 112 = .ok (.getfield 91, 3) := by decide +kernel
theorem d_M_drawn_115 : decode prog_14_method_70_code 115 = .ok (.iload_n 3, 1) := by decide +kernel
theorem d_M_drawn_116 : decode prog_14_method_70_code 116 = .ok (.iaload, 1) := by decide +kernel
theorem d_M_drawn_117 : decode prog_14_method_70_code 117 = .ok (.iadd, 1) := by decide +kernel
theorem d_M_drawn_118 : decode prog_14_method_70_code 118 = .ok (.istore 5, 2) := by decide +kernel
theorem d_M_drawn_120 : decode prog_14_method_70_code 120 = .ok (.iinc 6 (1), 3) := by decide +kernel
theorem d_M_drawn_123 : decode prog_14_method_70_code 123 = .ok (.goto (-47), 3) := by decide +kernel
theorem d_M_drawn_126 : decode prog_14_method_70_code 126 = .ok (.iload 5, 2) := by decide +kernel
theorem d_M_drawn_128 : decode prog_14_method_70_code 128 = .ok (.iload_n 2, 1) := by decide +kernel
theorem d_M_drawn_129 : decode prog_14_method_70_code 129 = .ok (.sipush (1000), 3) := by decide +kernel
theorem d_M_drawn_132 : decode prog_14_method_70_code 132 = .ok (.idiv, 1) := by decide +kernel
theorem d_M_drawn_133 : decode prog_14_method_70_code 133 = .ok (.idiv, 1) := by decide +kernel
theorem d_M_drawn_134 : decode prog_14_method_70_code 134 = .ok (.ireturn, 1) := by decide +kernel
set_option maxHeartbeats 4000000 in
set_option maxRecDepth 100000 in
theorem zf_M_drawn_J117 {G : zz_G} {l : Launch} {Z : zz_Z} {q : Int32 × zz_S} {s : zz_S} (C : zz_Cx G l "OneBlanketModel" "drawn" prog_14_method_70_code 7 (some .int) 8 (some (.int q.1), zsh, q.2) Z) (K76 : Int32 → Int32 → Int32 → Int32 → Int32 → zz_S → Option (Int32 × zz_S)) (hK76 : ∀ (v2 : Int32) (v3 : Int32) (v4 : Int32) (v5 : Int32) (v6 : Int32) (s : zz_S), K76 v2 v3 v4 v5 v6 s = some q → Z 76 [some (.ref 79), none, some (.int v2), some (.int v3), some (.int v4), some (.int v5), some (.int v6)] [] zsh s) (v2 : Int32) (v3 : Int32) (v4 : Int32) (v6 : Int32) (t0 : Int32) (t1 : Int32) (h : f_M_drawn_J117 K76 v2 v3 v4 v6 t0 t1 s = some q) : Z 117 [some (.ref 79), none, some (.int v2), some (.int v3), some (.int v4), none, some (.int v6)] [.int t1, .int t0] zsh s := by
  unfold f_M_drawn_J117 at h
  refine zz_iadd (pc := 117) C d_M_drawn_117 ?_
  refine zz_istore (i := 5) (lo' := [some (.ref 79), none, some (.int v2), some (.int v3), some (.int v4), some (.int (t0 + t1)), some (.int v6)]) (pc := 118) C (Nat.le_of_ble_eq_true rfl) rfl rfl d_M_drawn_118 ?_
  refine zz_iinc (lo' := [some (.ref 79), none, some (.int v2), some (.int v3), some (.int v4), some (.int (t0 + t1)), some (.int (v6 + (1 : Int32)))]) (pc := 120) C rfl (zz_inc zki_1) rfl rfl d_M_drawn_120 ?_
  refine zz_goto (tgt := 76) (pc := 123) C (by decide) d_M_drawn_123 ?_
  exact hK76 v2 v3 v4 (t0 + t1) (v6 + (1 : Int32)) s h
set_option maxHeartbeats 4000000 in
set_option maxRecDepth 100000 in
theorem zf_M_drawn_L76 {G : zz_G} {l : Launch} {Z : zz_Z} {q : Int32 × zz_S} (C : zz_Cx G l "OneBlanketModel" "drawn" prog_14_method_70_code 7 (some .int) 8 (some (.int q.1), zsh, q.2) Z) : ∀ (n : Nat) (v2 : Int32) (v3 : Int32) (v4 : Int32) (v5 : Int32) (v6 : Int32) (s : zz_S), f_M_drawn_L76 n v2 v3 v4 v5 v6 s = some q → Z 76 [some (.ref 79), none, some (.int v2), some (.int v3), some (.int v4), some (.int v5), some (.int v6)] [] zsh s := by
  intro n
  induction n with
  | zero => intro v2 v3 v4 v5 v6 s h; rw [f_M_drawn_L76] at h; cases h
  | succ n ih =>
  intro v2 v3 v4 v5 v6 s h
  rw [f_M_drawn_L76] at h
  refine zz_iload (i := 6) (pc := 76) C rfl d_M_drawn_76 ?_
  refine zz_iload_n (i := 2) (pc := 78) C rfl rfl d_M_drawn_78 ?_
  refine zz_sipush (pc := 79) C zks_1000 d_M_drawn_79 ?_
  refine zz_idiv (pc := 82) C (by decide) d_M_drawn_82 ?_
  refine zz_icmp_ge (tgt := 126) (pc := 83) C (by decide) d_M_drawn_83 (fun hc7 => ?_) (fun hc7 => ?_)
  · rw [if_pos hc7] at h
    refine zz_iload (i := 5) (pc := 126) C rfl d_M_drawn_126 ?_
    refine zz_iload_n (i := 2) (pc := 128) C rfl rfl d_M_drawn_128 ?_
    refine zz_sipush (pc := 129) C zks_1000 d_M_drawn_129 ?_
    refine zz_idiv (pc := 132) C (by decide) d_M_drawn_132 ?_
    obtain ⟨hy8, h⟩ := zz_ckN h
    refine zz_idiv (pc := 133) C hy8 d_M_drawn_133 ?_
    replace h := Option.some.inj h
    subst h
    exact zz_ret (pc := 134) C (v := some (.int (v5 / (v2 / (1000 : Int32))))) d_M_drawn_134 (Or.inl ⟨_, _, rfl, rfl, rfl, rfl⟩) rfl
  · rw [if_neg hc7] at h
    refine zz_aload_n (i := 0) (pc := 86) C rfl rfl d_M_drawn_86 ?_
    refine zz_iload_n (i := 2) (pc := 87) C rfl rfl d_M_drawn_87 ?_
    refine zz_sipush (pc := 88) C zks_1000 d_M_drawn_88 ?_
    refine zz_irem (pc := 91) C (by decide) d_M_drawn_91 ?_
    obtain ⟨q9, hq9, h⟩ := zz_bdE h
    refine zz_cVv (as := [.int (v2 % (1000 : Int32))]) (st := []) (pc := 92) C (zm_M_drawnNight hq9) zcv_M_drawnNight zsh_79 zl_12_345 (by omega) (Nat.le_of_ble_eq_true rfl) d_M_drawn_92 rfl rfl ?_
    refine zz_iload (i := 5) (pc := 95) C rfl d_M_drawn_95 ?_
    refine zz_iload (i := 4) (pc := 97) C rfl d_M_drawn_97 ?_
    refine zz_if_ne (tgt := 111) (pc := 99) C (by decide) d_M_drawn_99 (fun hc10 => ?_) (fun hc10 => ?_)
    · rw [if_neg hc10] at h
      refine zz_aload_n (i := 0) (pc := 111) C rfl rfl d_M_drawn_111 ?_
      refine zz_getR (pc := 112) C zl_12_91 zsh_79 rfl d_M_drawn_112 ?_
      refine zz_iload_n (i := 3) (pc := 115) C rfl rfl d_M_drawn_115 ?_
      obtain ⟨hi11, h⟩ := zz_ckE h
      refine zz_iald (pc := 116) C rfl zsh_104 hi11 d_M_drawn_116 ?_
      refine zz_fg C [true, false, true, true, true, false, true] rfl rfl ?_
      exact zf_M_drawn_J117 C (f_M_drawn_L76 n) ih v2 v3 v4 v6 v5 (q9.1 104 (v3.toNatClampNeg)) h
    · rw [if_pos hc10] at h
      refine zz_aload_n (i := 0) (pc := 102) C rfl rfl d_M_drawn_102 ?_
      refine zz_getR (pc := 103) C zl_12_100 zsh_79 rfl d_M_drawn_103 ?_
      refine zz_iload_n (i := 3) (pc := 106) C rfl rfl d_M_drawn_106 ?_
      obtain ⟨hi12, h⟩ := zz_ckE h
      refine zz_iald (pc := 107) C rfl zsh_107 hi12 d_M_drawn_107 ?_
      refine zz_goto (tgt := 117) (pc := 108) C (by decide) d_M_drawn_108 ?_
      refine zz_fg C [true, false, true, true, true, false, true] rfl rfl ?_
      exact zf_M_drawn_J117 C (f_M_drawn_L76 n) ih v2 v3 v4 v6 v5 (q9.1 107 (v3.toNatClampNeg)) h
set_option maxHeartbeats 4000000 in
set_option maxRecDepth 100000 in
theorem zf_M_drawn_J65 {G : zz_G} {l : Launch} {Z : zz_Z} {q : Int32 × zz_S} {s : zz_S} (C : zz_Cx G l "OneBlanketModel" "drawn" prog_14_method_70_code 7 (some .int) 8 (some (.int q.1), zsh, q.2) Z) (v1 : Int32) (v2 : Int32) (v3 : Int32) (v4 : Int32) (h : f_M_drawn_J65 v1 v2 v3 v4 s = some q) : Z 65 [some (.ref 79), some (.int v1), some (.int v2), some (.int v3), some (.int v4), none, none] [] zsh s := by
  unfold f_M_drawn_J65 at h
  refine zz_aload_n (i := 0) (pc := 65) C rfl rfl d_M_drawn_65 ?_
  refine zz_iload_n (i := 1) (pc := 66) C rfl rfl d_M_drawn_66 ?_
  refine zz_putI' (pc := 67) C zl_12_338 zpf_12_54 zsh_79 rfl d_M_drawn_67 ?_
  refine zz_iconst (pc := 70) C zki_0 d_M_drawn_70 ?_
  refine zz_istore (i := 5) (lo' := [some (.ref 79), some (.int v1), some (.int v2), some (.int v3), some (.int v4), some (.int (0 : Int32)), none]) (pc := 71) C (Nat.le_of_ble_eq_true rfl) rfl rfl d_M_drawn_71 ?_
  refine zz_iconst (pc := 73) C zki_0 d_M_drawn_73 ?_
  refine zz_istore (i := 6) (lo' := [some (.ref 79), some (.int v1), some (.int v2), some (.int v3), some (.int v4), some (.int (0 : Int32)), some (.int (0 : Int32))]) (pc := 74) C (Nat.le_of_ble_eq_true rfl) rfl rfl d_M_drawn_74 ?_
  refine zz_fg C [true, false, true, true, true, true, true] rfl rfl ?_
  exact zf_M_drawn_L76 C zF v2 v3 v4 (0 : Int32) (0 : Int32) (zz_w s 79 54 v1) h
set_option maxHeartbeats 4000000 in
set_option maxRecDepth 100000 in
theorem zf_M_drawn {G : zz_G} {l : Launch} {Z : zz_Z} {q : Int32 × zz_S} {s : zz_S} (C : zz_Cx G l "OneBlanketModel" "drawn" prog_14_method_70_code 7 (some .int) 8 (some (.int q.1), zsh, q.2) Z) (a1 : Int32) (a2 : Int32) (a3 : Int32) (a4 : Int32) (h : f_M_drawn a1 a2 a3 a4 s = some q) : Z 0 [some (.ref 79), some (.int a1), some (.int a2), some (.int a3), some (.int a4), none, none] [] zsh s := by
  unfold f_M_drawn at h
  refine zz_iload_n (i := 2) (pc := 0) C rfl rfl d_M_drawn_0 ?_
  refine zz_if_lt (tgt := 62) (pc := 1) C (by decide) d_M_drawn_1 (fun hc1 => ?_) (fun hc1 => ?_)
  · rw [if_pos hc1] at h
    refine zz_ldc (pc := 62) C zl_12_190 d_M_drawn_62 ?_
    replace h := Option.some.inj h
    subst h
    exact zz_ret (pc := 64) C (v := some (.int (-2000000000 : Int32))) d_M_drawn_64 (Or.inl ⟨_, _, rfl, rfl, rfl, rfl⟩) rfl
  · rw [if_neg hc1] at h
    refine zz_iload_n (i := 2) (pc := 4) C rfl rfl d_M_drawn_4 ?_
    refine zz_sipush (pc := 5) C zks_1000 d_M_drawn_5 ?_
    refine zz_idiv (pc := 8) C (by decide) d_M_drawn_8 ?_
    refine zz_iconst (pc := 9) C zki_1 d_M_drawn_9 ?_
    refine zz_bipush (pc := 10) C zkb_20 d_M_drawn_10 ?_
    refine zz_cSi (as := [.int (a2 / (1000 : Int32)), .int (1 : Int32), .int (20 : Int32)]) (st := []) (pc := 12) C (zm_M_in rfl) zcs_M_in zl_12_158 (by omega) (Nat.le_of_ble_eq_true rfl) d_M_drawn_12 rfl rfl ?_
    refine zz_if_eq (tgt := 62) (pc := 15) C (by decide) d_M_drawn_15 (fun hc2 => ?_) (fun hc2 => ?_)
    · rw [if_pos hc2] at h
      refine zz_ldc (pc := 62) C zl_12_190 d_M_drawn_62 ?_
      replace h := Option.some.inj h
      subst h
      exact zz_ret (pc := 64) C (v := some (.int (-2000000000 : Int32))) d_M_drawn_64 (Or.inl ⟨_, _, rfl, rfl, rfl, rfl⟩) rfl
    · rw [if_neg hc2] at h
      refine zz_iload_n (i := 2) (pc := 18) C rfl rfl d_M_drawn_18 ?_
      refine zz_sipush (pc := 19) C zks_1000 d_M_drawn_19 ?_
      refine zz_irem (pc := 22) C (by decide) d_M_drawn_22 ?_
      refine zz_bipush (pc := 23) C zkb_100 d_M_drawn_23 ?_
      refine zz_icmp_gt (tgt := 62) (pc := 25) C (by decide) d_M_drawn_25 (fun hc3 => ?_) (fun hc3 => ?_)
      · rw [if_pos hc3] at h
        refine zz_ldc (pc := 62) C zl_12_190 d_M_drawn_62 ?_
        replace h := Option.some.inj h
        subst h
        exact zz_ret (pc := 64) C (v := some (.int (-2000000000 : Int32))) d_M_drawn_64 (Or.inl ⟨_, _, rfl, rfl, rfl, rfl⟩) rfl
      · rw [if_neg hc3] at h
        refine zz_iload (i := 4) (pc := 28) C rfl d_M_drawn_28 ?_
        refine zz_iconst (pc := 30) C zki_0 d_M_drawn_30 ?_
        refine zz_iconst (pc := 31) C zki_1 d_M_drawn_31 ?_
        refine zz_cSi (as := [.int a4, .int (0 : Int32), .int (1 : Int32)]) (st := []) (pc := 32) C (zm_M_in rfl) zcs_M_in zl_12_158 (by omega) (Nat.le_of_ble_eq_true rfl) d_M_drawn_32 rfl rfl ?_
        refine zz_if_eq (tgt := 62) (pc := 35) C (by decide) d_M_drawn_35 (fun hc4 => ?_) (fun hc4 => ?_)
        · rw [if_pos hc4] at h
          refine zz_ldc (pc := 62) C zl_12_190 d_M_drawn_62 ?_
          replace h := Option.some.inj h
          subst h
          exact zz_ret (pc := 64) C (v := some (.int (-2000000000 : Int32))) d_M_drawn_64 (Or.inl ⟨_, _, rfl, rfl, rfl, rfl⟩) rfl
        · rw [if_neg hc4] at h
          refine zz_iload (i := 4) (pc := 38) C rfl d_M_drawn_38 ?_
          refine zz_if_ne (tgt := 54) (pc := 40) C (by decide) d_M_drawn_40 (fun hc5 => ?_) (fun hc5 => ?_)
          · rw [if_neg hc5] at h
            refine zz_aload_n (i := 0) (pc := 54) C rfl rfl d_M_drawn_54 ?_
            refine zz_iload_n (i := 3) (pc := 55) C rfl rfl d_M_drawn_55 ?_
            refine zz_cVi (as := [.int a3]) (st := []) (pc := 56) C (zm_M_isCover rfl) zcv_M_isCover zsh_79 zl_12_187 (by omega) (Nat.le_of_ble_eq_true rfl) d_M_drawn_56 rfl rfl ?_
            refine zz_if_ne (tgt := 65) (pc := 59) C (by decide) d_M_drawn_59 (fun hc6 => ?_) (fun hc6 => ?_)
            · rw [if_neg hc6] at h
              exact zf_M_drawn_J65 C a1 a2 a3 a4 h
            · rw [if_pos hc6] at h
              refine zz_ldc (pc := 62) C zl_12_190 d_M_drawn_62 ?_
              replace h := Option.some.inj h
              subst h
              exact zz_ret (pc := 64) C (v := some (.int (-2000000000 : Int32))) d_M_drawn_64 (Or.inl ⟨_, _, rfl, rfl, rfl, rfl⟩) rfl
          · rw [if_pos hc5] at h
            refine zz_aload_n (i := 0) (pc := 43) C rfl rfl d_M_drawn_43 ?_
            refine zz_iload_n (i := 3) (pc := 44) C rfl rfl d_M_drawn_44 ?_
            refine zz_cVi (as := [.int a3]) (st := []) (pc := 45) C (zm_M_isSleeper rfl) zcv_M_isSleeper zsh_79 zl_12_179 (by omega) (Nat.le_of_ble_eq_true rfl) d_M_drawn_45 rfl rfl ?_
            refine zz_if_eq (tgt := 62) (pc := 48) C (by decide) d_M_drawn_48 (fun hc13 => ?_) (fun hc13 => ?_)
            · rw [if_pos hc13] at h
              refine zz_ldc (pc := 62) C zl_12_190 d_M_drawn_62 ?_
              replace h := Option.some.inj h
              subst h
              exact zz_ret (pc := 64) C (v := some (.int (-2000000000 : Int32))) d_M_drawn_64 (Or.inl ⟨_, _, rfl, rfl, rfl, rfl⟩) rfl
            · rw [if_neg hc13] at h
              refine zz_goto (tgt := 65) (pc := 51) C (by decide) d_M_drawn_51 ?_
              exact zf_M_drawn_J65 C a1 a2 a3 a4 h
theorem zm_M_drawn {G : zz_G} {l : Launch} {s : zz_S} {q : Int32 × zz_S} {a1 : Int32} {a2 : Int32} {a3 : Int32} {a4 : Int32} (h : f_M_drawn a1 a2 a3 a4 s = some q) : zz_M G l 8 y_M_drawn prog_14_method_70_code 7 (some .int) [.ref 79, .int a1, .int a2, .int a3, .int a4] zsh s (some (.int q.1), zsh, q.2) :=
  zz_M.intro (by decide) (Nat.le_of_ble_eq_true rfl) (Nat.le_refl _) (Nat.le_refl _) (fun Z C => zf_M_drawn C a1 a2 a3 a4 h)
theorem d_M_easyOfAll_0 : decode prog_14_method_62_code 0 = .ok (.aload_n 0, 1) := by decide +kernel
theorem d_M_easyOfAll_1 : decode prog_14_method_62_code 1 = .ok (.sipush (479), 3) := by decide +kernel
theorem d_M_easyOfAll_4 : decode prog_14_method_62_code 4 = .ok (.invokevirtual 323, 3) := by decide +kernel
theorem d_M_easyOfAll_7 : decode prog_14_method_62_code 7 = .ok (.iconst 0, 1) := by decide +kernel
theorem d_M_easyOfAll_8 : decode prog_14_method_62_code 8 = .ok (.istore_n 1, 1) := by decide +kernel
theorem d_M_easyOfAll_9 : decode prog_14_method_62_code 9 = .ok (.iconst 0, 1) := by decide +kernel
theorem d_M_easyOfAll_10 : decode prog_14_method_62_code 10 = .ok (.istore_n 2, 1) := by decide +kernel
theorem d_M_easyOfAll_11 : decode prog_14_method_62_code 11 = .ok (.iload_n 2, 1) := by decide +kernel
theorem d_M_easyOfAll_12 : decode prog_14_method_62_code 12 = .ok (.aload_n 0, 1) := by decide +kernel
theorem d_M_easyOfAll_13 : decode prog_14_method_62_code 13 = .ok (.getfield 155, 3) := by decide +kernel
theorem d_M_easyOfAll_16 : decode prog_14_method_62_code 16 = .ok (.if_icmp .ge (18), 3) := by decide +kernel
theorem d_M_easyOfAll_19 : decode prog_14_method_62_code 19 = .ok (.iload_n 1, 1) := by decide +kernel
theorem d_M_easyOfAll_20 : decode prog_14_method_62_code 20 = .ok (.aload_n 0, 1) := by decide +kernel
theorem d_M_easyOfAll_21 : decode prog_14_method_62_code 21 = .ok (.getfield 100, 3) := by decide +kernel
theorem d_M_easyOfAll_24 : decode prog_14_method_62_code 24 = .ok (.iload_n 2, 1) := by decide +kernel
theorem d_M_easyOfAll_25 : decode prog_14_method_62_code 25 = .ok (.iaload, 1) := by decide +kernel
theorem d_M_easyOfAll_26 : decode prog_14_method_62_code 26 = .ok (.iadd, 1) := by decide +kernel
theorem d_M_easyOfAll_27 : decode prog_14_method_62_code 27 = .ok (.istore_n 1, 1) := by decide +kernel
theorem d_M_easyOfAll_28 : decode prog_14_method_62_code 28 = .ok (.iinc 2 (1), 3) := by decide +kernel
theorem d_M_easyOfAll_31 : decode prog_14_method_62_code 31 = .ok (.goto (-20), 3) := by decide +kernel
theorem d_M_easyOfAll_34 : decode prog_14_method_62_code 34 = .ok (.iload_n 1, 1) := by decide +kernel
theorem d_M_easyOfAll_35 : decode prog_14_method_62_code 35 = .ok (.ireturn, 1) := by decide +kernel
set_option maxHeartbeats 4000000 in
set_option maxRecDepth 100000 in
theorem zf_M_easyOfAll_L11 {G : zz_G} {l : Launch} {Z : zz_Z} {q : Int32 × zz_S} (C : zz_Cx G l "OneBlanketModel" "easyOfAll" prog_14_method_62_code 3 (some .int) 9 (some (.int q.1), zsh, q.2) Z) : ∀ (n : Nat) (v1 : Int32) (v2 : Int32) (s : zz_S), f_M_easyOfAll_L11 n v1 v2 s = some q → Z 11 [some (.ref 79), some (.int v1), some (.int v2)] [] zsh s := by
  intro n
  induction n with
  | zero => intro v1 v2 s h; rw [f_M_easyOfAll_L11] at h; cases h
  | succ n ih =>
  intro v1 v2 s h
  rw [f_M_easyOfAll_L11] at h
  refine zz_iload_n (i := 2) (pc := 11) C rfl rfl d_M_easyOfAll_11 ?_
  refine zz_aload_n (i := 0) (pc := 12) C rfl rfl d_M_easyOfAll_12 ?_
  refine zz_getI (pc := 13) C zl_12_155 zsh_79 rfl d_M_easyOfAll_13 ?_
  refine zz_icmp_ge (tgt := 34) (pc := 16) C (by decide) d_M_easyOfAll_16 (fun hc2 => ?_) (fun hc2 => ?_)
  · rw [if_pos hc2] at h
    refine zz_iload_n (i := 1) (pc := 34) C rfl rfl d_M_easyOfAll_34 ?_
    replace h := Option.some.inj h
    subst h
    exact zz_ret (pc := 35) C (v := some (.int v1)) d_M_easyOfAll_35 (Or.inl ⟨_, _, rfl, rfl, rfl, rfl⟩) rfl
  · rw [if_neg hc2] at h
    refine zz_iload_n (i := 1) (pc := 19) C rfl rfl d_M_easyOfAll_19 ?_
    refine zz_aload_n (i := 0) (pc := 20) C rfl rfl d_M_easyOfAll_20 ?_
    refine zz_getR (pc := 21) C zl_12_100 zsh_79 rfl d_M_easyOfAll_21 ?_
    refine zz_iload_n (i := 2) (pc := 24) C rfl rfl d_M_easyOfAll_24 ?_
    obtain ⟨hi3, h⟩ := zz_ckE h
    refine zz_iald (pc := 25) C rfl zsh_107 hi3 d_M_easyOfAll_25 ?_
    refine zz_iadd (pc := 26) C d_M_easyOfAll_26 ?_
    refine zz_istore_n (i := 1) (lo' := [some (.ref 79), some (.int (v1 + (s.1 107 (v2.toNatClampNeg)))), some (.int v2)]) (pc := 27) C rfl (Nat.le_of_ble_eq_true rfl) rfl rfl d_M_easyOfAll_27 ?_
    refine zz_iinc (lo' := [some (.ref 79), some (.int (v1 + (s.1 107 (v2.toNatClampNeg)))), some (.int (v2 + (1 : Int32)))]) (pc := 28) C rfl (zz_inc zki_1) rfl rfl d_M_easyOfAll_28 ?_
    refine zz_goto (tgt := 11) (pc := 31) C (by decide) d_M_easyOfAll_31 ?_
    exact ih (v1 + (s.1 107 (v2.toNatClampNeg))) (v2 + (1 : Int32)) s h
set_option maxHeartbeats 4000000 in
set_option maxRecDepth 100000 in
theorem zf_M_easyOfAll {G : zz_G} {l : Launch} {Z : zz_Z} {q : Int32 × zz_S} {s : zz_S} (C : zz_Cx G l "OneBlanketModel" "easyOfAll" prog_14_method_62_code 3 (some .int) 9 (some (.int q.1), zsh, q.2) Z) (h : f_M_easyOfAll s = some q) : Z 0 [some (.ref 79), none, none] [] zsh s := by
  unfold f_M_easyOfAll at h
  refine zz_aload_n (i := 0) (pc := 0) C rfl rfl d_M_easyOfAll_0 ?_
  refine zz_sipush (pc := 1) C zks_479 d_M_easyOfAll_1 ?_
  obtain ⟨q1, hq1, h⟩ := zz_bdE h
  refine zz_cVv (as := [.int (479 : Int32)]) (st := []) (pc := 4) C (zm_M_night hq1) zcv_M_night zsh_79 zl_12_323 (by omega) (Nat.le_of_ble_eq_true rfl) d_M_easyOfAll_4 rfl rfl ?_
  refine zz_iconst (pc := 7) C zki_0 d_M_easyOfAll_7 ?_
  refine zz_istore_n (i := 1) (lo' := [some (.ref 79), some (.int (0 : Int32)), none]) (pc := 8) C rfl (Nat.le_of_ble_eq_true rfl) rfl rfl d_M_easyOfAll_8 ?_
  refine zz_iconst (pc := 9) C zki_0 d_M_easyOfAll_9 ?_
  refine zz_istore_n (i := 2) (lo' := [some (.ref 79), some (.int (0 : Int32)), some (.int (0 : Int32))]) (pc := 10) C rfl (Nat.le_of_ble_eq_true rfl) rfl rfl d_M_easyOfAll_10 ?_
  exact zf_M_easyOfAll_L11 C zF (0 : Int32) (0 : Int32) q1 h
theorem zm_M_easyOfAll {G : zz_G} {l : Launch} {s : zz_S} {q : Int32 × zz_S} (h : f_M_easyOfAll s = some q) : zz_M G l 9 y_M_easyOfAll prog_14_method_62_code 3 (some .int) [.ref 79] zsh s (some (.int q.1), zsh, q.2) :=
  zz_M.intro (by decide) (Nat.le_of_ble_eq_true rfl) (Nat.le_refl _) (Nat.le_refl _) (fun Z C => zf_M_easyOfAll C h)
theorem d_M_isShelf_0 : decode prog_14_method_92_code 0 = .ok (.iload_n 0, 1) := by decide +kernel
theorem d_M_isShelf_1 : decode prog_14_method_92_code 1 = .ok (.iconst 0, 1) := by decide +kernel
theorem d_M_isShelf_2 : decode prog_14_method_92_code 2 = .ok (.iconst 5, 1) := by decide +kernel
theorem d_M_isShelf_3 : decode prog_14_method_92_code 3 = .ok (.invokestatic 158, 3) := by decide +kernel
theorem d_M_isShelf_6 : decode prog_14_method_92_code 6 = .ok (.ireturn, 1) := by decide +kernel
set_option maxHeartbeats 4000000 in
set_option maxRecDepth 100000 in
theorem zf_M_isShelf {G : zz_G} {l : Launch} {Z : zz_Z} {sh : List zz_Sh} {q : Int32} {s : zz_S} (C : zz_Cx G l "OneBlanketModel" "isShelf" prog_14_method_92_code 1 (some .boolean) 3 (some (.int q), sh, s) Z) (a0 : Int32) (h : f_M_isShelf a0 = q) : Z 0 [some (.int a0)] [] sh s := by
  unfold f_M_isShelf at h
  refine zz_iload_n (i := 0) (pc := 0) C rfl rfl d_M_isShelf_0 ?_
  refine zz_iconst (pc := 1) C zki_0 d_M_isShelf_1 ?_
  refine zz_iconst (pc := 2) C zki_5 d_M_isShelf_2 ?_
  refine zz_cSi (as := [.int a0, .int (0 : Int32), .int (5 : Int32)]) (st := []) (pc := 3) C (zm_M_in rfl) zcs_M_in zl_12_158 (by omega) (Nat.le_of_ble_eq_true rfl) d_M_isShelf_3 rfl rfl ?_
  subst h
  -- boolean of (f_M_in a0 (0 : Int32) (5 : Int32))
  exact zz_ret (pc := 6) C (v := some (.int (f_M_in a0 (0 : Int32) (5 : Int32)))) d_M_isShelf_6 (Or.inl ⟨_, _, rfl, rfl, rfl, (zz_nb (zbool_M_in _ _ _))⟩) rfl
theorem zm_M_isShelf {G : zz_G} {l : Launch} {sh : List zz_Sh} {s : zz_S} {q : Int32} {a0 : Int32} (h : f_M_isShelf a0 = q) : zz_M G l 3 y_M_isShelf prog_14_method_92_code 1 (some .boolean) [.int a0] sh s (some (.int q), sh, s) :=
  zz_M.intro (by decide) (Nat.le_of_ble_eq_true rfl) (Nat.le_refl _) (Nat.le_refl _) (fun Z C => zf_M_isShelf C a0 h)
theorem d_M_whyNoPlace_0 : decode prog_14_method_95_code 0 = .ok (.iload_n 1, 1) := by decide +kernel
theorem d_M_whyNoPlace_1 : decode prog_14_method_95_code 1 = .ok (.invokestatic 286, 3) := by decide +kernel
theorem d_M_whyNoPlace_4 : decode prog_14_method_95_code 4 = .ok (.ifCond .ne (5), 3) := by decide +kernel
theorem d_M_whyNoPlace_7 : decode prog_14_method_95_code 7 = .ok (.iconst (-1), 1) := by decide +kernel
theorem d_M_whyNoPlace_8 : decode prog_14_method_95_code 8 = .ok (.ireturn, 1) := by decide +kernel
theorem d_M_whyNoPlace_9 : decode prog_14_method_95_code 9 = .ok (.aload_n 0, 1) := by decide +kernel
theorem d_M_whyNoPlace_10 : decode prog_14_method_95_code 10 = .ok (.getfield 139, 3) := by decide +kernel
theorem d_M_whyNoPlace_13 : decode prog_14_method_95_code 13 = .ok (.iload_n 1, 1) := by decide +kernel
theorem d_M_whyNoPlace_14 : decode prog_14_method_95_code 14 = .ok (.iaload, 1) := by decide +kernel
theorem d_M_whyNoPlace_15 : decode prog_14_method_95_code 15 = .ok (.iconst (-1), 1) := by decide +kernel
theorem d_M_whyNoPlace_16 : decode prog_14_method_95_code 16 = .ok (.if_icmp .ne (6), 3) := by decide +kernel
theorem d_M_whyNoPlace_19 : decode prog_14_method_95_code 19 = .ok (.bipush (-11), 2) := by decide +kernel
theorem d_M_whyNoPlace_21 : decode prog_14_method_95_code 21 = .ok (.ireturn, 1) := by decide +kernel
theorem d_M_whyNoPlace_22 : decode prog_14_method_95_code 22 = .ok (.aload_n 0, 1) := by decide +kernel
theorem d_M_whyNoPlace_23 : decode prog_14_method_95_code 23 = .ok (.getfield 139, 3) := by decide +kernel
theorem d_M_whyNoPlace_26 : decode prog_14_method_95_code 26 = .ok (.iload_n 1, 1) := by decide +kernel
theorem d_M_whyNoPlace_27 : decode prog_14_method_95_code 27 = .ok (.iaload, 1) := by decide +kernel
theorem d_M_whyNoPlace_28 : decode prog_14_method_95_code 28 = .ok (.ifCond .lt (6), 3) := by decide +kernel
theorem d_M_whyNoPlace_31 : decode prog_14_method_95_code 31 = .ok (.bipush (-12), 2) := by decide +kernel
theorem d_M_whyNoPlace_33 : decode prog_14_method_95_code 33 = .ok (.ireturn, 1) := by decide +kernel
theorem d_M_whyNoPlace_34 : decode prog_14_method_95_code 34 = .ok (.iload_n 2, 1) := by decide +kernel
theorem d_M_whyNoPlace_35 : decode prog_14_method_95_code 35 = .ok (.iconst 0, 1) := by decide +kernel
theorem d_M_whyNoPlace_36 : decode prog_14_method_95_code 36 = .ok (.aload_n 0, 1) := by decide +kernel
theorem d_M_whyNoPlace_37 : decode prog_14_method_95_code 37 = .ok (.getfield 142, 3) := by decide +kernel
theorem d_M_whyNoPlace_40 : decode prog_14_method_95_code 40 = .ok (.iload_n 1, 1) := by decide +kernel
theorem d_M_whyNoPlace_41 : decode prog_14_method_95_code 41 = .ok (.iaload, 1) := by decide +kernel
theorem d_M_whyNoPlace_42 : decode prog_14_method_95_code 42 = .ok (.iconst 1, 1) := by decide +kernel
theorem d_M_whyNoPlace_43 : decode prog_14_method_95_code 43 = .ok (.isub, 1) := by decide +kernel
theorem d_M_whyNoPlace_44 : decode prog_14_method_95_code 44 = .ok (.invokestatic 158, 3) := by decide +kernel
theorem d_M_whyNoPlace_47 : decode prog_14_method_95_code 47 = .ok (.ifCond .eq (7), 3) := by decide +kernel
theorem d_M_whyNoPlace_50 : decode prog_14_method_95_code 50 = .ok (.iconst 0, 1) := by decide +kernel
theorem d_M_whyNoPlace_51 : decode prog_14_method_95_code 51 = .ok (.goto (5), 3) := by decide +kernel
theorem d_M_whyNoPlace_54 : decode prog_14_method_95_code 54 = .ok (.bipush (-13), 2) := by decide +kernel
theorem d_M_whyNoPlace_56 : decode prog_14_method_95_code 56 = .ok (.ireturn, 1) := by decide +kernel
set_option maxHeartbeats 4000000 in
set_option maxRecDepth 100000 in
theorem zf_M_whyNoPlace {G : zz_G} {l : Launch} {Z : zz_Z} {q : Int32} {s : zz_S} (C : zz_Cx G l "OneBlanketModel" "whyNoPlace" prog_14_method_95_code 3 (some .int) 4 (some (.int q), zsh, s) Z) (a1 : Int32) (a2 : Int32) (h : f_M_whyNoPlace a1 a2 s = some q) : Z 0 [some (.ref 79), some (.int a1), some (.int a2)] [] zsh s := by
  unfold f_M_whyNoPlace at h
  refine zz_iload_n (i := 1) (pc := 0) C rfl rfl d_M_whyNoPlace_0 ?_
  refine zz_cSi (as := [.int a1]) (st := []) (pc := 1) C (zm_M_isShelf rfl) zcs_M_isShelf zl_12_286 (by omega) (Nat.le_of_ble_eq_true rfl) d_M_whyNoPlace_1 rfl rfl ?_
  refine zz_if_ne (tgt := 9) (pc := 4) C (by decide) d_M_whyNoPlace_4 (fun hc1 => ?_) (fun hc1 => ?_)
  · rw [if_neg hc1] at h
    refine zz_aload_n (i := 0) (pc := 9) C rfl rfl d_M_whyNoPlace_9 ?_
    refine zz_getR (pc := 10) C zl_12_139 zsh_79 rfl d_M_whyNoPlace_10 ?_
    refine zz_iload_n (i := 1) (pc := 13) C rfl rfl d_M_whyNoPlace_13 ?_
    obtain ⟨hi2, h⟩ := zz_ckE h
    refine zz_iald (pc := 14) C rfl zsh_119 hi2 d_M_whyNoPlace_14 ?_
    refine zz_iconst (pc := 15) C zki_m1 d_M_whyNoPlace_15 ?_
    refine zz_icmp_ne (tgt := 22) (pc := 16) C (by decide) d_M_whyNoPlace_16 (fun hc3 => ?_) (fun hc3 => ?_)
    · rw [if_neg hc3] at h
      refine zz_aload_n (i := 0) (pc := 22) C rfl rfl d_M_whyNoPlace_22 ?_
      refine zz_getR (pc := 23) C zl_12_139 zsh_79 rfl d_M_whyNoPlace_23 ?_
      refine zz_iload_n (i := 1) (pc := 26) C rfl rfl d_M_whyNoPlace_26 ?_
      refine zz_iald (pc := 27) C rfl zsh_119 hi2 d_M_whyNoPlace_27 ?_
      refine zz_if_lt (tgt := 34) (pc := 28) C (by decide) d_M_whyNoPlace_28 (fun hc4 => ?_) (fun hc4 => ?_)
      · rw [if_pos hc4] at h
        refine zz_iload_n (i := 2) (pc := 34) C rfl rfl d_M_whyNoPlace_34 ?_
        refine zz_iconst (pc := 35) C zki_0 d_M_whyNoPlace_35 ?_
        refine zz_aload_n (i := 0) (pc := 36) C rfl rfl d_M_whyNoPlace_36 ?_
        refine zz_getR (pc := 37) C zl_12_142 zsh_79 rfl d_M_whyNoPlace_37 ?_
        refine zz_iload_n (i := 1) (pc := 40) C rfl rfl d_M_whyNoPlace_40 ?_
        refine zz_iald (pc := 41) C rfl zsh_120 hi2 d_M_whyNoPlace_41 ?_
        refine zz_iconst (pc := 42) C zki_1 d_M_whyNoPlace_42 ?_
        refine zz_isub (pc := 43) C d_M_whyNoPlace_43 ?_
        refine zz_cSi (as := [.int a2, .int (0 : Int32), .int ((s.1 120 (a1.toNatClampNeg)) - (1 : Int32))]) (st := []) (pc := 44) C (zm_M_in rfl) zcs_M_in zl_12_158 (by omega) (Nat.le_of_ble_eq_true rfl) d_M_whyNoPlace_44 rfl rfl ?_
        refine zz_if_eq (tgt := 54) (pc := 47) C (by decide) d_M_whyNoPlace_47 (fun hc5 => ?_) (fun hc5 => ?_)
        · rw [if_pos hc5] at h
          refine zz_bipush (pc := 54) C zkb_m13 d_M_whyNoPlace_54 ?_
          replace h := Option.some.inj h
          subst h
          exact zz_ret (pc := 56) C (v := some (.int (-13 : Int32))) d_M_whyNoPlace_56 (Or.inl ⟨_, _, rfl, rfl, rfl, rfl⟩) rfl
        · rw [if_neg hc5] at h
          refine zz_iconst (pc := 50) C zki_0 d_M_whyNoPlace_50 ?_
          refine zz_goto (tgt := 56) (pc := 51) C (by decide) d_M_whyNoPlace_51 ?_
          replace h := Option.some.inj h
          subst h
          exact zz_ret (pc := 56) C (v := some (.int (0 : Int32))) d_M_whyNoPlace_56 (Or.inl ⟨_, _, rfl, rfl, rfl, rfl⟩) rfl
      · rw [if_neg hc4] at h
        refine zz_bipush (pc := 31) C zkb_m12 d_M_whyNoPlace_31 ?_
        replace h := Option.some.inj h
        subst h
        exact zz_ret (pc := 33) C (v := some (.int (-12 : Int32))) d_M_whyNoPlace_33 (Or.inl ⟨_, _, rfl, rfl, rfl, rfl⟩) rfl
    · rw [if_pos hc3] at h
      refine zz_bipush (pc := 19) C zkb_m11 d_M_whyNoPlace_19 ?_
      replace h := Option.some.inj h
      subst h
      exact zz_ret (pc := 21) C (v := some (.int (-11 : Int32))) d_M_whyNoPlace_21 (Or.inl ⟨_, _, rfl, rfl, rfl, rfl⟩) rfl
  · rw [if_pos hc1] at h
    refine zz_iconst (pc := 7) C zki_m1 d_M_whyNoPlace_7 ?_
    replace h := Option.some.inj h
    subst h
    exact zz_ret (pc := 8) C (v := some (.int (-1 : Int32))) d_M_whyNoPlace_8 (Or.inl ⟨_, _, rfl, rfl, rfl, rfl⟩) rfl
theorem zm_M_whyNoPlace {G : zz_G} {l : Launch} {s : zz_S} {q : Int32} {a1 : Int32} {a2 : Int32} (h : f_M_whyNoPlace a1 a2 s = some q) : zz_M G l 4 y_M_whyNoPlace prog_14_method_95_code 3 (some .int) [.ref 79, .int a1, .int a2] zsh s (some (.int q), zsh, s) :=
  zz_M.intro (by decide) (Nat.le_of_ble_eq_true rfl) (Nat.le_refl _) (Nat.le_refl _) (fun Z C => zf_M_whyNoPlace C a1 a2 h)
theorem d_M_element_0 : decode prog_14_method_97_code 0 = .ok (.aload_n 0, 1) := by decide +kernel
theorem d_M_element_1 : decode prog_14_method_97_code 1 = .ok (.iload_n 1, 1) := by decide +kernel
theorem d_M_element_2 : decode prog_14_method_97_code 2 = .ok (.iload_n 2, 1) := by decide +kernel
theorem d_M_element_3 : decode prog_14_method_97_code 3 = .ok (.invokevirtual 400, 3) := by decide +kernel
theorem d_M_element_6 : decode prog_14_method_97_code 6 = .ok (.ifCond .ge (9), 3) := by decide +kernel
theorem d_M_element_9 : decode prog_14_method_97_code 9 = .ok (.ldc2_w 405, 3) := by decide +kernel
theorem d_M_element_12 : decode prog_14_method_97_code 12 = .ok (.goto (14), 3) := by decide +kernel
theorem d_M_element_15 : decode prog_14_method_97_code 15 = .ok (.aload_n 0, 1) := by decide +kernel
theorem d_M_element_16 : decode prog_14_method_97_code 16 = .ok (.getfield 145, 3) := by decide +kernel
theorem d_M_element_19 : decode prog_14_method_97_code 19 = .ok (.bipush (60), 2) := by decide +kernel
theorem d_M_element_21 : decode prog_14_method_97_code 21 = .ok (.iload_n 1, 1) := by decide +kernel
theorem d_M_element_22 : decode prog_14_method_97_code 22 = .ok (.imul, 1) := by decide +kernel
theorem d_M_element_23 : decode prog_14_method_97_code 23 = .ok (.iload_n 2, 1) := by decide +kernel
theorem d_M_element_24 : decode prog_14_method_97_code 24 = .ok (.iadd, 1) := by decide +kernel
theorem d_M_element_25 : decode prog_14_method_97_code 25 = .ok (.laload, 1) := by decide +kernel
theorem d_M_element_26 : decode prog_14_method_97_code 26 = .ok (.lreturn, 1) := by decide +kernel
set_option maxHeartbeats 4000000 in
set_option maxRecDepth 100000 in
theorem zf_M_element {G : zz_G} {l : Launch} {Z : zz_Z} {q : Int64} {s : zz_S} (C : zz_Cx G l "OneBlanketModel" "element" prog_14_method_97_code 3 (some .long) 5 (some (.long q), zsh, s) Z) (a1 : Int32) (a2 : Int32) (h : f_M_element a1 a2 s = some q) : Z 0 [some (.ref 79), some (.int a1), some (.int a2)] [] zsh s := by
  unfold f_M_element at h
  refine zz_aload_n (i := 0) (pc := 0) C rfl rfl d_M_element_0 ?_
  refine zz_iload_n (i := 1) (pc := 1) C rfl rfl d_M_element_1 ?_
  refine zz_iload_n (i := 2) (pc := 2) C rfl rfl d_M_element_2 ?_
  obtain ⟨q1, hq1, h⟩ := zz_bdE h
  refine zz_cVi (as := [.int a1, .int a2]) (st := []) (pc := 3) C (zm_M_whyNoPlace hq1) zcv_M_whyNoPlace zsh_79 zl_12_400 (by omega) (Nat.le_of_ble_eq_true rfl) d_M_element_3 rfl rfl ?_
  refine zz_if_ge (tgt := 15) (pc := 6) C (by decide) d_M_element_6 (fun hc2 => ?_) (fun hc2 => ?_)
  · rw [if_pos hc2] at h
    refine zz_aload_n (i := 0) (pc := 15) C rfl rfl d_M_element_15 ?_
    refine zz_getR (pc := 16) C zl_12_145 zsh_79 rfl d_M_element_16 ?_
    refine zz_bipush (pc := 19) C zkb_60 d_M_element_19 ?_
    refine zz_iload_n (i := 1) (pc := 21) C rfl rfl d_M_element_21 ?_
    refine zz_imul (pc := 22) C d_M_element_22 ?_
    refine zz_iload_n (i := 2) (pc := 23) C rfl rfl d_M_element_23 ?_
    refine zz_iadd (pc := 24) C d_M_element_24 ?_
    obtain ⟨hi3, h⟩ := zz_ckE h
    refine zz_lald (pc := 25) C rfl zsh_121 hi3 d_M_element_25 ?_
    replace h := Option.some.inj h
    subst h
    exact zz_ret (pc := 26) C (v := some (.long (s.2 121 ((((60 : Int32) * a1) + a2).toNatClampNeg)))) d_M_element_26 (Or.inr (Or.inl ⟨_, rfl, rfl, rfl⟩)) rfl
  · rw [if_neg hc2] at h
    refine zz_ldc2 (pc := 9) C zl_12_405 d_M_element_9 ?_
    refine zz_goto (tgt := 26) (pc := 12) C (by decide) d_M_element_12 ?_
    replace h := Option.some.inj h
    subst h
    exact zz_ret (pc := 26) C (v := some (.long (-9223372036854775808 : Int64))) d_M_element_26 (Or.inr (Or.inl ⟨_, rfl, rfl, rfl⟩)) rfl
theorem zm_M_element {G : zz_G} {l : Launch} {s : zz_S} {q : Int64} {a1 : Int32} {a2 : Int32} (h : f_M_element a1 a2 s = some q) : zz_M G l 5 y_M_element prog_14_method_97_code 3 (some .long) [.ref 79, .int a1, .int a2] zsh s (some (.long q), zsh, s) :=
  zz_M.intro (by decide) (Nat.le_of_ble_eq_true rfl) (Nat.le_refl _) (Nat.le_refl _) (fun Z C => zf_M_element C a1 a2 h)
theorem d_M_feed_0 : decode prog_14_method_19_code 0 = .ok (.iload_n 1, 1) := by decide +kernel
theorem d_M_feed_1 : decode prog_14_method_19_code 1 = .ok (.iconst 0, 1) := by decide +kernel
theorem d_M_feed_2 : decode prog_14_method_19_code 2 = .ok (.sipush (255), 3) := by decide +kernel
theorem d_M_feed_5 : decode prog_14_method_19_code 5 = .ok (.invokestatic 158, 3) := by decide +kernel
theorem d_M_feed_8 : decode prog_14_method_19_code 8 = .ok (.ifCond .ne (5), 3) := by decide +kernel
theorem d_M_feed_11 : decode prog_14_method_19_code 11 = .ok (.iconst (-1), 1) := by decide +kernel
theorem d_M_feed_12 : decode prog_14_method_19_code 12 = .ok (.ireturn, 1) := by decide +kernel
theorem d_M_feed_13 : decode prog_14_method_19_code 13 = .ok (.aload_n 0, 1) := by decide +kernel
theorem d_M_feed_14 : decode prog_14_method_19_code 14 = .ok (.getfield 194, 3) := by decide +kernel
theorem d_M_feed_17 : decode prog_14_method_19_code 17 = .ok (.bipush (120), 2) := by decide +kernel
theorem d_M_feed_19 : decode prog_14_method_19_code 19 = .ok (.if_icmp .ne (6), 3) := by decide +kernel
theorem d_M_feed_22 : decode prog_14_method_19_code 22 = .ok (.bipush (-3), 2) := by decide +kernel
theorem d_M_feed_24 : decode prog_14_method_19_code 24 = .ok (.ireturn, 1) := by decide +kernel
theorem d_M_feed_25 : decode prog_14_method_19_code 25 = .ok (.aload_n 0, 1) := by decide +kernel
theorem d_M_feed_26 : decode prog_14_method_19_code 26 = .ok (.getfield 59, 3) := by decide +kernel
theorem d_M_feed_29 : decode prog_14_method_19_code 29 = .ok (.aload_n 0, 1) := by decide +kernel
theorem d_M_feed_30 : decode prog_14_method_19_code 30 = .ok (.getfield 194, 3) := by decide +kernel
theorem d_M_feed_33 : decode prog_14_method_19_code 33 = .ok (.iload_n 1, 1) := by decide +kernel
theorem d_M_feed_34 : decode prog_14_method_19_code 34 = .ok (.i2b, 1) := by decide +kernel
theorem d_M_feed_35 : decode prog_14_method_19_code 35 = .ok (.bastore, 1) := by decide +kernel
theorem d_M_feed_36 : decode prog_14_method_19_code 36 = .ok (.aload_n 0, 1) := by decide +kernel
theorem d_M_feed_37 : decode prog_14_method_19_code 37 = .ok (.dup, 1) := by decide +kernel
theorem d_M_feed_38 : decode prog_14_method_19_code 38 = .ok (.getfield 194, 3) := by decide +kernel
theorem d_M_feed_41 : decode prog_14_method_19_code 41 = .ok (.iconst 1, 1) := by decide +kernel
theorem d_M_feed_42 : decode prog_14_method_19_code 42 = .ok (.iadd, 1) := by decide +kernel
theorem d_M_feed_43 : decode prog_14_method_19_code 43 = .ok (.putfield 194, 3) := by decide +kernel
theorem d_M_feed_46 : decode prog_14_method_19_code 46 = .ok (.aload_n 0, 1) := by decide +kernel
theorem d_M_feed_47 : decode prog_14_method_19_code 47 = .ok (.getfield 194, 3) := by decide +kernel
theorem d_M_feed_50 : decode prog_14_method_19_code 50 = .ok (.ireturn, 1) := by decide +kernel
set_option maxHeartbeats 4000000 in
set_option maxRecDepth 100000 in
theorem zf_M_feed {G : zz_G} {l : Launch} {Z : zz_Z} {q : Int32 × zz_S} {s : zz_S} (C : zz_Cx G l "OneBlanketModel" "feed" prog_14_method_19_code 2 (some .int) 3 (some (.int q.1), zsh, q.2) Z) (a1 : Int32) (h : f_M_feed a1 s = some q) : Z 0 [some (.ref 79), some (.int a1)] [] zsh s := by
  unfold f_M_feed at h
  refine zz_iload_n (i := 1) (pc := 0) C rfl rfl d_M_feed_0 ?_
  refine zz_iconst (pc := 1) C zki_0 d_M_feed_1 ?_
  refine zz_sipush (pc := 2) C zks_255 d_M_feed_2 ?_
  refine zz_cSi (as := [.int a1, .int (0 : Int32), .int (255 : Int32)]) (st := []) (pc := 5) C (zm_M_in rfl) zcs_M_in zl_12_158 (by omega) (Nat.le_of_ble_eq_true rfl) d_M_feed_5 rfl rfl ?_
  refine zz_if_ne (tgt := 13) (pc := 8) C (by decide) d_M_feed_8 (fun hc1 => ?_) (fun hc1 => ?_)
  · rw [if_neg hc1] at h
    refine zz_aload_n (i := 0) (pc := 13) C rfl rfl d_M_feed_13 ?_
    refine zz_getI (pc := 14) C zl_12_194 zsh_79 rfl d_M_feed_14 ?_
    refine zz_bipush (pc := 17) C zkb_120 d_M_feed_17 ?_
    refine zz_icmp_ne (tgt := 25) (pc := 19) C (by decide) d_M_feed_19 (fun hc2 => ?_) (fun hc2 => ?_)
    · rw [if_neg hc2] at h
      refine zz_aload_n (i := 0) (pc := 25) C rfl rfl d_M_feed_25 ?_
      refine zz_getR (pc := 26) C zl_12_59 zsh_79 rfl d_M_feed_26 ?_
      refine zz_aload_n (i := 0) (pc := 29) C rfl rfl d_M_feed_29 ?_
      refine zz_getI (pc := 30) C zl_12_194 zsh_79 rfl d_M_feed_30 ?_
      refine zz_iload_n (i := 1) (pc := 33) C rfl rfl d_M_feed_33 ?_
      refine zz_i2b (pc := 34) C d_M_feed_34 ?_
      obtain ⟨hi3, h⟩ := zz_ckE h
      refine zz_bast (pc := 35) C rfl zsh_95 hi3 d_M_feed_35 ?_
      refine zz_aload_n (i := 0) (pc := 36) C rfl rfl d_M_feed_36 ?_
      refine zz_dup (pc := 37) C rfl d_M_feed_37 ?_
      refine zz_getIv (v := (s.1 79 23)) (pc := 38) C zl_12_194 zsh_79 rfl rfl d_M_feed_38 ?_
      refine zz_iconst (pc := 41) C zki_1 d_M_feed_41 ?_
      refine zz_iadd (pc := 42) C d_M_feed_42 ?_
      refine zz_putI' (pc := 43) C zl_12_194 zpf_12_23 zsh_79 rfl d_M_feed_43 ?_
      refine zz_aload_n (i := 0) (pc := 46) C rfl rfl d_M_feed_46 ?_
      refine zz_getIv (v := ((s.1 79 23) + (1 : Int32))) (pc := 47) C zl_12_194 zsh_79 rfl rfl d_M_feed_47 ?_
      replace h := Option.some.inj h
      subst h
      exact zz_ret (pc := 50) C (v := some (.int ((s.1 79 23) + (1 : Int32)))) d_M_feed_50 (Or.inl ⟨_, _, rfl, rfl, rfl, rfl⟩) rfl
    · rw [if_pos hc2] at h
      refine zz_bipush (pc := 22) C zkb_m3 d_M_feed_22 ?_
      replace h := Option.some.inj h
      subst h
      exact zz_ret (pc := 24) C (v := some (.int (-3 : Int32))) d_M_feed_24 (Or.inl ⟨_, _, rfl, rfl, rfl, rfl⟩) rfl
  · rw [if_pos hc1] at h
    refine zz_iconst (pc := 11) C zki_m1 d_M_feed_11 ?_
    replace h := Option.some.inj h
    subst h
    exact zz_ret (pc := 12) C (v := some (.int (-1 : Int32))) d_M_feed_12 (Or.inl ⟨_, _, rfl, rfl, rfl, rfl⟩) rfl
theorem zm_M_feed {G : zz_G} {l : Launch} {s : zz_S} {q : Int32 × zz_S} {a1 : Int32} (h : f_M_feed a1 s = some q) : zz_M G l 3 y_M_feed prog_14_method_19_code 2 (some .int) [.ref 79, .int a1] zsh s (some (.int q.1), zsh, q.2) :=
  zz_M.intro (by decide) (Nat.le_of_ble_eq_true rfl) (Nat.le_refl _) (Nat.le_refl _) (fun Z C => zf_M_feed C a1 h)
theorem d_M_isAsFilm_0 : decode prog_14_method_72_code 0 = .ok (.aload_n 0, 1) := by decide +kernel
theorem d_M_isAsFilm_1 : decode prog_14_method_72_code 1 = .ok (.invokevirtual 313, 3) := by decide +kernel
theorem d_M_isAsFilm_4 : decode prog_14_method_72_code 4 = .ok (.iconst 0, 1) := by decide +kernel
theorem d_M_isAsFilm_5 : decode prog_14_method_72_code 5 = .ok (.istore_n 2, 1) := by decide +kernel
theorem d_M_isAsFilm_6 : decode prog_14_method_72_code 6 = .ok (.iload_n 2, 1) := by decide +kernel
theorem d_M_isAsFilm_7 : decode prog_14_method_72_code 7 = .ok (.sipush (480), 3) := by decide +kernel
theorem d_M_isAsFilm_10 : decode prog_14_method_72_code 10 = .ok (.if_icmp .ge (70), 3) := by decide +kernel
theorem d_M_isAsFilm_13 : decode prog_14_method_72_code 13 = .ok (.aload_n 0, 1) := by decide +kernel
theorem d_M_isAsFilm_14 : decode prog_14_method_72_code 14 = .ok (.iload_n 2, 1) := by decide +kernel
theorem d_M_isAsFilm_15 : decode prog_14_method_72_code 15 = .ok (.invokevirtual 316, 3) := by decide +kernel
theorem d_M_isAsFilm_18 : decode prog_14_method_72_code 18 = .ok (.iload_n 2, 1) := by decide +kernel
theorem d_M_isAsFilm_19 : decode prog_14_method_72_code 19 = .ok (.sipush (479), 3) := by decide +kernel
theorem d_M_isAsFilm_22 : decode prog_14_method_72_code 22 = .ok (.if_icmp .ne (8), 3) := by decide +kernel
theorem d_M_isAsFilm_25 : decode prog_14_method_72_code 25 = .ok (.bipush (8), 2) := by decide +kernel
theorem d_M_isAsFilm_27 : decode prog_14_method_72_code 27 = .ok (.goto (18), 3) := by decide +kernel
theorem d_M_isAsFilm_30 : decode prog_14_method_72_code 30 = .ok (.iload_n 2, 1) := by decide +kernel
theorem d_M_isAsFilm_31 : decode prog_14_method_72_code 31 = .ok (.bipush (60), 2) := by decide +kernel
theorem d_M_isAsFilm_33 : decode prog_14_method_72_code 33 = .ok (.irem, 1) := by decide +kernel
theorem d_M_isAsFilm_34 : decode prog_14_method_72_code 34 = .ok (.ifCond .ne (10), 3) := by decide +kernel
theorem d_M_isAsFilm_37 : decode prog_14_method_72_code 37 = .ok (.iload_n 2, 1) := by decide +kernel
theorem d_M_isAsFilm_38 : decode prog_14_method_72_code 38 = .ok (.bipush (60), 2) := by decide +kernel
theorem d_M_isAsFilm_40 : decode prog_14_method_72_code 40 = .ok (.idiv, 1) := by decide +kernel
theorem d_M_isAsFilm_41 : decode prog_14_method_72_code 41 = .ok (.goto (4), 3) := by decide +kernel
theorem d_M_isAsFilm_44 : decode prog_14_method_72_code 44 = .ok (.iconst (-1), 1) := by decide +kernel
theorem d_M_isAsFilm_45 : decode prog_14_method_72_code 45 = .ok (.istore_n 3, 1) := by decide +kernel
theorem d_M_isAsFilm_46 : decode prog_14_method_72_code 46 = .ok (.iload_n 3, 1) := by decide +kernel
theorem d_M_isAsFilm_47 : decode prog_14_method_72_code 47 = .ok (.ifCond .lt (27), 3) := by decide +kernel
theorem d_M_isAsFilm_50 : decode prog_14_method_72_code 50 = .ok (.aload_n 0, 1) := by decide +kernel
theorem d_M_isAsFilm_51 : decode prog_14_method_72_code 51 = .ok (.getfield 145, 3) := by decide +kernel
theorem d_M_isAsFilm_54 : decode prog_14_method_72_code 54 = .ok (.bipush (60), 2) := by decide +kernel
theorem d_M_isAsFilm_56 : decode prog_14_method_72_code 56 = .ok (.iload_n 1, 1) := by decide +kernel
theorem d_M_isAsFilm_57 : decode prog_14_method_72_code 57 = .ok (.imul, 1) := by decide +kernel
theorem d_M_isAsFilm_58 : decode prog_14_method_72_code 58 = .ok (.iload_n 3, 1) := by decide +kernel
theorem d_M_isAsFilm_59 : decode prog_14_method_72_code 59 = .ok (.iadd, 1) := by decide +kernel
theorem d_M_isAsFilm_60 : decode prog_14_method_72_code 60 = .ok (.laload, 1) := by decide +kernel
theorem d_M_isAsFilm_61 : decode prog_14_method_72_code 61 = .ok (.aload_n 0, 1) := by decide +kernel
theorem d_M_isAsFilm_62 : decode prog_14_method_72_code 62 = .ok (.getfield 91, 3) := by decide +kernel
theorem d_M_isAsFilm_65 : decode prog_14_method_72_code 65 = .ok (.iconst 0, 1) := by decide +kernel
theorem d_M_isAsFilm_66 : decode prog_14_method_72_code 66 = .ok (.iaload, 1) := by decide +kernel
theorem d_M_isAsFilm_67 : decode prog_14_method_72_code 67 = .ok (.i2l, 1) := by decide +kernel
theorem d_M_isAsFilm_68 : decode prog_14_method_72_code 68 = .ok (.lcmp, 1) := by decide +kernel
theorem d_M_isAsFilm_69 : decode prog_14_method_72_code 69 = .ok (.ifCond .eq (5), 3) := by decide +kernel
theorem d_M_isAsFilm_72 : decode prog_14_method_72_code 72 = .ok (.iconst 0, 1) := by decide +kernel
theorem d_M_isAsFilm_73 : decode prog_14_method_72_code 73 = .ok (.ireturn, 1) := by decide +kernel
theorem d_M_isAsFilm_74 : decode prog_14_method_72_code 74 = .ok (.iinc 2 (1), 3) := by decide +kernel
theorem d_M_isAsFilm_77 : decode prog_14_method_72_code 77 = .ok (.goto (-71), 3) := by decide +kernel
theorem d_M_isAsFilm_80 : decode prog_14_method_72_code 80 = .ok (.iconst 1, 1) := by decide +kernel
theorem d_M_isAsFilm_81 : decode prog_14_method_72_code 81 = .ok (.ireturn, 1) := by decide +kernel
set_option maxHeartbeats 4000000 in
set_option maxRecDepth 100000 in
theorem zf_M_isAsFilm_J45 {G : zz_G} {l : Launch} {Z : zz_Z} {q : Int32 × zz_S} {s : zz_S} (C : zz_Cx G l "OneBlanketModel" "isAsFilm" prog_14_method_72_code 4 (some .boolean) 8 (some (.int q.1), zsh, q.2) Z) (K6 : Int32 → Int32 → zz_S → Option (Int32 × zz_S)) (hK6 : ∀ (v1 : Int32) (v2 : Int32) (s : zz_S), K6 v1 v2 s = some q → Z 6 [some (.ref 79), some (.int v1), some (.int v2), none] [] zsh s) (v1 : Int32) (v2 : Int32) (t0 : Int32) (h : f_M_isAsFilm_J45 K6 v1 v2 t0 s = some q) : Z 45 [some (.ref 79), some (.int v1), some (.int v2), none] [.int t0] zsh s := by
  unfold f_M_isAsFilm_J45 at h
  refine zz_istore_n (i := 3) (lo' := [some (.ref 79), some (.int v1), some (.int v2), some (.int t0)]) (pc := 45) C rfl (Nat.le_of_ble_eq_true rfl) rfl rfl d_M_isAsFilm_45 ?_
  refine zz_iload_n (i := 3) (pc := 46) C rfl rfl d_M_isAsFilm_46 ?_
  refine zz_if_lt (tgt := 74) (pc := 47) C (by decide) d_M_isAsFilm_47 (fun hc6 => ?_) (fun hc6 => ?_)
  · rw [if_pos hc6] at h
    refine zz_iinc (lo' := [some (.ref 79), some (.int v1), some (.int (v2 + (1 : Int32))), some (.int t0)]) (pc := 74) C rfl (zz_inc zki_1) rfl rfl d_M_isAsFilm_74 ?_
    refine zz_goto (tgt := 6) (pc := 77) C (by decide) d_M_isAsFilm_77 ?_
    refine zz_fg C [true, true, true, false] rfl rfl ?_
    exact hK6 v1 (v2 + (1 : Int32)) s h
  · rw [if_neg hc6] at h
    refine zz_aload_n (i := 0) (pc := 50) C rfl rfl d_M_isAsFilm_50 ?_
    refine zz_getR (pc := 51) C zl_12_145 zsh_79 rfl d_M_isAsFilm_51 ?_
    refine zz_bipush (pc := 54) C zkb_60 d_M_isAsFilm_54 ?_
    refine zz_iload_n (i := 1) (pc := 56) C rfl rfl d_M_isAsFilm_56 ?_
    refine zz_imul (pc := 57) C d_M_isAsFilm_57 ?_
    refine zz_iload_n (i := 3) (pc := 58) C rfl rfl d_M_isAsFilm_58 ?_
    refine zz_iadd (pc := 59) C d_M_isAsFilm_59 ?_
    obtain ⟨hi7, h⟩ := zz_ckE h
    refine zz_lald (pc := 60) C rfl zsh_121 hi7 d_M_isAsFilm_60 ?_
    refine zz_aload_n (i := 0) (pc := 61) C rfl rfl d_M_isAsFilm_61 ?_
    refine zz_getR (pc := 62) C zl_12_91 zsh_79 rfl d_M_isAsFilm_62 ?_
    refine zz_iconst (pc := 65) C zki_0 d_M_isAsFilm_65 ?_
    refine zz_iald (pc := 66) C zkx_0 zsh_104 (by decide) d_M_isAsFilm_66 ?_
    refine zz_i2l (pc := 67) C d_M_isAsFilm_67 ?_
    refine zz_lcmp (pc := 68) C d_M_isAsFilm_68 ?_
    refine zz_if_eq (tgt := 74) (pc := 69) C (by decide) d_M_isAsFilm_69 (fun hc8 => ?_) (fun hc8 => ?_)
    · rw [if_pos hc8] at h
      refine zz_iinc (lo' := [some (.ref 79), some (.int v1), some (.int (v2 + (1 : Int32))), some (.int t0)]) (pc := 74) C rfl (zz_inc zki_1) rfl rfl d_M_isAsFilm_74 ?_
      refine zz_goto (tgt := 6) (pc := 77) C (by decide) d_M_isAsFilm_77 ?_
      refine zz_fg C [true, true, true, false] rfl rfl ?_
      exact hK6 v1 (v2 + (1 : Int32)) s h
    · rw [if_neg hc8] at h
      refine zz_iconst (pc := 72) C zki_0 d_M_isAsFilm_72 ?_
      replace h := Option.some.inj h
      subst h
      exact zz_ret (pc := 73) C (v := some (.int (0 : Int32))) d_M_isAsFilm_73 (Or.inl ⟨_, _, rfl, rfl, rfl, (by decide)⟩) rfl
set_option maxHeartbeats 4000000 in
set_option maxRecDepth 100000 in
theorem zf_M_isAsFilm_L6 {G : zz_G} {l : Launch} {Z : zz_Z} {q : Int32 × zz_S} (C : zz_Cx G l "OneBlanketModel" "isAsFilm" prog_14_method_72_code 4 (some .boolean) 8 (some (.int q.1), zsh, q.2) Z) : ∀ (n : Nat) (v1 : Int32) (v2 : Int32) (s : zz_S), f_M_isAsFilm_L6 n v1 v2 s = some q → Z 6 [some (.ref 79), some (.int v1), some (.int v2), none] [] zsh s := by
  intro n
  induction n with
  | zero => intro v1 v2 s h; rw [f_M_isAsFilm_L6] at h; cases h
  | succ n ih =>
  intro v1 v2 s h
  rw [f_M_isAsFilm_L6] at h
  refine zz_iload_n (i := 2) (pc := 6) C rfl rfl d_M_isAsFilm_6 ?_
  refine zz_sipush (pc := 7) C zks_480 d_M_isAsFilm_7 ?_
  refine zz_icmp_ge (tgt := 80) (pc := 10) C (by decide) d_M_isAsFilm_10 (fun hc2 => ?_) (fun hc2 => ?_)
  · rw [if_pos hc2] at h
    refine zz_iconst (pc := 80) C zki_1 d_M_isAsFilm_80 ?_
    replace h := Option.some.inj h
    subst h
    exact zz_ret (pc := 81) C (v := some (.int (1 : Int32))) d_M_isAsFilm_81 (Or.inl ⟨_, _, rfl, rfl, rfl, (by decide)⟩) rfl
  · rw [if_neg hc2] at h
    refine zz_aload_n (i := 0) (pc := 13) C rfl rfl d_M_isAsFilm_13 ?_
    refine zz_iload_n (i := 2) (pc := 14) C rfl rfl d_M_isAsFilm_14 ?_
    obtain ⟨q3, hq3, h⟩ := zz_bdE h
    refine zz_cVv (as := [.int v2]) (st := []) (pc := 15) C (zm_M_minute hq3) zcv_M_minute zsh_79 zl_12_316 (by omega) (Nat.le_of_ble_eq_true rfl) d_M_isAsFilm_15 rfl rfl ?_
    refine zz_iload_n (i := 2) (pc := 18) C rfl rfl d_M_isAsFilm_18 ?_
    refine zz_sipush (pc := 19) C zks_479 d_M_isAsFilm_19 ?_
    refine zz_icmp_ne (tgt := 30) (pc := 22) C (by decide) d_M_isAsFilm_22 (fun hc4 => ?_) (fun hc4 => ?_)
    · rw [if_neg hc4] at h
      refine zz_iload_n (i := 2) (pc := 30) C rfl rfl d_M_isAsFilm_30 ?_
      refine zz_bipush (pc := 31) C zkb_60 d_M_isAsFilm_31 ?_
      refine zz_irem (pc := 33) C (by decide) d_M_isAsFilm_33 ?_
      refine zz_if_ne (tgt := 44) (pc := 34) C (by decide) d_M_isAsFilm_34 (fun hc5 => ?_) (fun hc5 => ?_)
      · rw [if_neg hc5] at h
        refine zz_iconst (pc := 44) C zki_m1 d_M_isAsFilm_44 ?_
        exact zf_M_isAsFilm_J45 C (f_M_isAsFilm_L6 n) ih v1 v2 (-1 : Int32) h
      · rw [if_pos hc5] at h
        refine zz_iload_n (i := 2) (pc := 37) C rfl rfl d_M_isAsFilm_37 ?_
        refine zz_bipush (pc := 38) C zkb_60 d_M_isAsFilm_38 ?_
        refine zz_idiv (pc := 40) C (by decide) d_M_isAsFilm_40 ?_
        refine zz_goto (tgt := 45) (pc := 41) C (by decide) d_M_isAsFilm_41 ?_
        exact zf_M_isAsFilm_J45 C (f_M_isAsFilm_L6 n) ih v1 v2 (v2 / (60 : Int32)) h
    · rw [if_pos hc4] at h
      refine zz_bipush (pc := 25) C zkb_8 d_M_isAsFilm_25 ?_
      refine zz_goto (tgt := 45) (pc := 27) C (by decide) d_M_isAsFilm_27 ?_
      exact zf_M_isAsFilm_J45 C (f_M_isAsFilm_L6 n) ih v1 v2 (8 : Int32) h
set_option maxHeartbeats 4000000 in
set_option maxRecDepth 100000 in
theorem zf_M_isAsFilm {G : zz_G} {l : Launch} {Z : zz_Z} {q : Int32 × zz_S} {s : zz_S} (C : zz_Cx G l "OneBlanketModel" "isAsFilm" prog_14_method_72_code 4 (some .boolean) 8 (some (.int q.1), zsh, q.2) Z) (a1 : Int32) (h : f_M_isAsFilm a1 s = some q) : Z 0 [some (.ref 79), some (.int a1), none, none] [] zsh s := by
  unfold f_M_isAsFilm at h
  refine zz_aload_n (i := 0) (pc := 0) C rfl rfl d_M_isAsFilm_0 ?_
  obtain ⟨q1, hq1, h⟩ := zz_bdE h
  refine zz_cVv (as := []) (st := []) (pc := 1) C (zm_M_begin hq1) zcv_M_begin zsh_79 zl_12_313 (by omega) (Nat.le_of_ble_eq_true rfl) d_M_isAsFilm_1 rfl rfl ?_
  refine zz_iconst (pc := 4) C zki_0 d_M_isAsFilm_4 ?_
  refine zz_istore_n (i := 2) (lo' := [some (.ref 79), some (.int a1), some (.int (0 : Int32)), none]) (pc := 5) C rfl (Nat.le_of_ble_eq_true rfl) rfl rfl d_M_isAsFilm_5 ?_
  exact zf_M_isAsFilm_L6 C zF a1 (0 : Int32) q1 h
theorem zm_M_isAsFilm {G : zz_G} {l : Launch} {s : zz_S} {q : Int32 × zz_S} {a1 : Int32} (h : f_M_isAsFilm a1 s = some q) : zz_M G l 8 y_M_isAsFilm prog_14_method_72_code 4 (some .boolean) [.ref 79, .int a1] zsh s (some (.int q.1), zsh, q.2) :=
  zz_M.intro (by decide) (Nat.le_of_ble_eq_true rfl) (Nat.le_refl _) (Nat.le_refl _) (fun Z C => zf_M_isAsFilm C a1 h)
theorem d_M_film_0 : decode prog_14_method_73_code 0 = .ok (.iload_n 1, 1) := by decide +kernel
theorem d_M_film_1 : decode prog_14_method_73_code 1 = .ok (.invokestatic 286, 3) := by decide +kernel
theorem d_M_film_4 : decode prog_14_method_73_code 4 = .ok (.ifCond .ne (5), 3) := by decide +kernel
theorem d_M_film_7 : decode prog_14_method_73_code 7 = .ok (.iconst (-1), 1) := by decide +kernel
theorem d_M_film_8 : decode prog_14_method_73_code 8 = .ok (.ireturn, 1) := by decide +kernel
theorem d_M_film_9 : decode prog_14_method_73_code 9 = .ok (.aload_n 0, 1) := by decide +kernel
theorem d_M_film_10 : decode prog_14_method_73_code 10 = .ok (.getfield 139, 3) := by decide +kernel
theorem d_M_film_13 : decode prog_14_method_73_code 13 = .ok (.iload_n 1, 1) := by decide +kernel
theorem d_M_film_14 : decode prog_14_method_73_code 14 = .ok (.iaload, 1) := by decide +kernel
theorem d_M_film_15 : decode prog_14_method_73_code 15 = .ok (.iconst (-1), 1) := by decide +kernel
theorem d_M_film_16 : decode prog_14_method_73_code 16 = .ok (.if_icmp .ne (6), 3) := by decide +kernel
theorem d_M_film_19 : decode prog_14_method_73_code 19 = .ok (.bipush (-11), 2) := by decide +kernel
theorem d_M_film_21 : decode prog_14_method_73_code 21 = .ok (.ireturn, 1) := by decide +kernel
theorem d_M_film_22 : decode prog_14_method_73_code 22 = .ok (.aload_n 0, 1) := by decide +kernel
theorem d_M_film_23 : decode prog_14_method_73_code 23 = .ok (.getfield 139, 3) := by decide +kernel
theorem d_M_film_26 : decode prog_14_method_73_code 26 = .ok (.iload_n 1, 1) := by decide +kernel
theorem d_M_film_27 : decode prog_14_method_73_code 27 = .ok (.iaload, 1) := by decide +kernel
theorem d_M_film_28 : decode prog_14_method_73_code 28 = .ok (.bipush (-3), 2) := by decide +kernel
theorem d_M_film_30 : decode prog_14_method_73_code 30 = .ok (.if_icmp .eq (6), 3) := by decide +kernel
theorem d_M_film_33 : decode prog_14_method_73_code 33 = .ok (.bipush (-12), 2) := by decide +kernel
theorem d_M_film_35 : decode prog_14_method_73_code 35 = .ok (.ireturn, 1) := by decide +kernel
theorem d_M_film_36 : decode prog_14_method_73_code 36 = .ok (.aload_n 0, 1) := by decide +kernel
theorem d_M_film_37 : decode prog_14_method_73_code 37 = .ok (.getfield 142, 3) := by decide +kernel
theorem d_M_film_40 : decode prog_14_method_73_code 40 = .ok (.iload_n 1, 1) := by decide +kernel
theorem d_M_film_41 : decode prog_14_method_73_code 41 = .ok (.iaload, 1) := by decide +kernel
theorem d_M_film_42 : decode prog_14_method_73_code 42 = .ok (.bipush (9), 2) := by decide +kernel
theorem d_M_film_44 : decode prog_14_method_73_code 44 = .ok (.if_icmp .ge (6), 3) := by decide +kernel
theorem d_M_film_47 : decode prog_14_method_73_code 47 = .ok (.bipush (-13), 2) := by decide +kernel
theorem d_M_film_49 : decode prog_14_method_73_code 49 = .ok (.ireturn, 1) := by decide +kernel
theorem d_M_film_50 : decode prog_14_method_73_code 50 = .ok (.aload_n 0, 1) := by decide +kernel
theorem d_M_film_51 : decode prog_14_method_73_code 51 = .ok (.getfield 162, 3) := by decide +kernel
theorem d_M_film_54 : decode prog_14_method_73_code 54 = .ok (.ifCond .ne (6), 3) := by decide +kernel
theorem d_M_film_57 : decode prog_14_method_73_code 57 = .ok (.bipush (-5), 2) := by decide +kernel
theorem d_M_film_59 : decode prog_14_method_73_code 59 = .ok (.ireturn, 1) := by decide +kernel
theorem d_M_film_60 : decode prog_14_method_73_code 60 = .ok (.aload_n 0, 1) := by decide +kernel
theorem d_M_film_61 : decode prog_14_method_73_code 61 = .ok (.getfield 85, 3) := by decide +kernel
theorem d_M_film_64 : decode prog_14_method_73_code 64 = .ok (.istore_n 2, 1) := by decide +kernel
theorem d_M_film_65 : decode prog_14_method_73_code 65 = .ok (.iconst 0, 1) := by decide +kernel
theorem d_M_film_66 : decode prog_14_method_73_code 66 = .ok (.istore_n 3, 1) := by decide +kernel
theorem d_M_film_67 : decode prog_14_method_73_code 67 = .ok (.iconst (-1), 1) := by decide +kernel
theorem d_M_film_68 : decode prog_14_method_73_code 68 = .ok (.istore 4, 2) := by decide +kernel
theorem d_M_film_70 : decode prog_14_method_73_code 70 = .ok (.iload 4, 2) := by decide +kernel
theorem d_M_film_72 : decode prog_14_method_73_code 72 = .ok (.aload_n 0, 1) := by decide +kernel
theorem d_M_film_73 : decode prog_14_method_73_code 73 = .ok (.getfield 258, 3) := by decide +kernel
theorem d_M_film_76 : decode prog_14_method_73_code 76 = .ok (.if_icmp .ge (32), 3) := by decide +kernel
theorem d_M_film_79 : decode prog_14_method_73_code 79 = .ok (.aload_n 0, 1) := by decide +kernel
theorem d_M_film_80 : decode prog_14_method_73_code 80 = .ok (.iload 4, 2) := by decide +kernel
theorem d_M_film_82 : decode prog_14_method_73_code 82 = .ok (.putfield 85, 3) := by decide +kernel
theorem d_M_film_85 : decode prog_14_method_73_code 85 = .ok (.aload_n 0, 1) := by decide +kernel
theorem d_M_film_86 : decode prog_14_method_73_code 86 = .ok (.iload_n 1, 1) := by decide +kernel
theorem d_M_film_87 : decode prog_14_method_73_code 87 = .ok (.invokevirtual 348, 3) := by decide +kernel
theorem d_M_film_90 : decode prog_14_method_73_code 90 = .ok (.ifCond .eq (12), 3) := by decide +kernel
theorem d_M_film_93 : decode prog_14_method_73_code 93 = .ok (.iload_n 3, 1) := by decide +kernel
theorem d_M_film_94 : decode prog_14_method_73_code 94 = .ok (.iconst 1, 1) := by decide +kernel
theorem d_M_film_95 : decode prog_14_method_73_code 95 = .ok (.iload 4, 2) := by decide +kernel
theorem d_M_film_97 : decode prog_14_method_73_code 97 = .ok (.iconst 1, 1) := by decide +kernel
theorem d_M_film_98 : decode prog_14_method_73_code 98 = .ok (.iadd, 1) := by decide +kernel
theorem d_M_film_99 : decode prog_14_method_73_code 99 = .ok (.ishl, 1) := by decide +kernel
theorem d_M_film_100 : decode prog_14_method_73_code 100 = .ok (.ior, 1) := by decide +kernel
theorem d_M_film_101 : decode prog_14_method_73_code 101 = .ok (.istore_n 3, 1) := by decide +kernel
theorem d_M_film_102 : decode prog_14_method_73_code 102 = .ok (.iinc 4 (1), 3) := by decide +kernel
theorem d_M_film_105 : decode prog_14_method_73_code 105 = .ok (.goto (-35), 3) := by decide +kernel
theorem d_M_film_108 : decode prog_14_method_73_code 108 = .ok (.aload_n 0, 1) := by decide +kernel
theorem d_M_film_109 : decode prog_14_method_73_code 109 = .ok (.iload_n 2, 1) := by decide +kernel
theorem d_M_film_110 : decode prog_14_method_73_code 110 = .ok (.putfield 85, 3) := by decide +kernel
theorem d_M_film_113 : decode prog_14_method_73_code 113 = .ok (.iload_n 3, 1) := by decide +kernel
theorem d_M_film_114 : decode prog_14_method_73_code 114 = .ok (.ireturn, 1) := by decide +kernel
set_option maxHeartbeats 4000000 in
set_option maxRecDepth 100000 in
theorem zf_M_film_L70 {G : zz_G} {l : Launch} {Z : zz_Z} {q : Int32 × zz_S} (C : zz_Cx G l "OneBlanketModel" "film" prog_14_method_73_code 5 (some .int) 9 (some (.int q.1), zsh, q.2) Z) : ∀ (n : Nat) (v1 : Int32) (v2 : Int32) (v3 : Int32) (v4 : Int32) (s : zz_S), f_M_film_L70 n v1 v2 v3 v4 s = some q → Z 70 [some (.ref 79), some (.int v1), some (.int v2), some (.int v3), some (.int v4)] [] zsh s := by
  intro n
  induction n with
  | zero => intro v1 v2 v3 v4 s h; rw [f_M_film_L70] at h; cases h
  | succ n ih =>
  intro v1 v2 v3 v4 s h
  rw [f_M_film_L70] at h
  refine zz_iload (i := 4) (pc := 70) C rfl d_M_film_70 ?_
  refine zz_aload_n (i := 0) (pc := 72) C rfl rfl d_M_film_72 ?_
  refine zz_getI (pc := 73) C zl_12_258 zsh_79 rfl d_M_film_73 ?_
  refine zz_icmp_ge (tgt := 108) (pc := 76) C (by decide) d_M_film_76 (fun hc7 => ?_) (fun hc7 => ?_)
  · rw [if_pos hc7] at h
    refine zz_aload_n (i := 0) (pc := 108) C rfl rfl d_M_film_108 ?_
    refine zz_iload_n (i := 2) (pc := 109) C rfl rfl d_M_film_109 ?_
    refine zz_putI' (pc := 110) C zl_12_85 zpf_12_36 zsh_79 rfl d_M_film_110 ?_
    refine zz_iload_n (i := 3) (pc := 113) C rfl rfl d_M_film_113 ?_
    replace h := Option.some.inj h
    subst h
    exact zz_ret (pc := 114) C (v := some (.int v3)) d_M_film_114 (Or.inl ⟨_, _, rfl, rfl, rfl, rfl⟩) rfl
  · rw [if_neg hc7] at h
    refine zz_aload_n (i := 0) (pc := 79) C rfl rfl d_M_film_79 ?_
    refine zz_iload (i := 4) (pc := 80) C rfl d_M_film_80 ?_
    refine zz_putI' (pc := 82) C zl_12_85 zpf_12_36 zsh_79 rfl d_M_film_82 ?_
    refine zz_aload_n (i := 0) (pc := 85) C rfl rfl d_M_film_85 ?_
    refine zz_iload_n (i := 1) (pc := 86) C rfl rfl d_M_film_86 ?_
    obtain ⟨q8, hq8, h⟩ := zz_bdE h
    refine zz_cVi (as := [.int v1]) (st := []) (pc := 87) C (zm_M_isAsFilm hq8) zcv_M_isAsFilm zsh_79 zl_12_348 (by omega) (Nat.le_of_ble_eq_true rfl) d_M_film_87 rfl rfl ?_
    refine zz_if_eq (tgt := 102) (pc := 90) C (by decide) d_M_film_90 (fun hc9 => ?_) (fun hc9 => ?_)
    · rw [if_pos hc9] at h
      refine zz_iinc (lo' := [some (.ref 79), some (.int v1), some (.int v2), some (.int v3), some (.int (v4 + (1 : Int32)))]) (pc := 102) C rfl (zz_inc zki_1) rfl rfl d_M_film_102 ?_
      refine zz_goto (tgt := 70) (pc := 105) C (by decide) d_M_film_105 ?_
      exact ih v1 v2 v3 (v4 + (1 : Int32)) q8.2 h
    · rw [if_neg hc9] at h
      refine zz_iload_n (i := 3) (pc := 93) C rfl rfl d_M_film_93 ?_
      refine zz_iconst (pc := 94) C zki_1 d_M_film_94 ?_
      refine zz_iload (i := 4) (pc := 95) C rfl d_M_film_95 ?_
      refine zz_iconst (pc := 97) C zki_1 d_M_film_97 ?_
      refine zz_iadd (pc := 98) C d_M_film_98 ?_
      refine zz_ishl (pc := 99) C d_M_film_99 ?_
      refine zz_ior (pc := 100) C d_M_film_100 ?_
      refine zz_istore_n (i := 3) (lo' := [some (.ref 79), some (.int v1), some (.int v2), some (.int (v3 ||| ((1 : Int32) <<< ((v4 + (1 : Int32)) &&& 31)))), some (.int v4)]) (pc := 101) C rfl (Nat.le_of_ble_eq_true rfl) rfl rfl d_M_film_101 ?_
      refine zz_iinc (lo' := [some (.ref 79), some (.int v1), some (.int v2), some (.int (v3 ||| ((1 : Int32) <<< ((v4 + (1 : Int32)) &&& 31)))), some (.int (v4 + (1 : Int32)))]) (pc := 102) C rfl (zz_inc zki_1) rfl rfl d_M_film_102 ?_
      refine zz_goto (tgt := 70) (pc := 105) C (by decide) d_M_film_105 ?_
      exact ih v1 v2 (v3 ||| ((1 : Int32) <<< ((v4 + (1 : Int32)) &&& 31))) (v4 + (1 : Int32)) q8.2 h
set_option maxHeartbeats 4000000 in
set_option maxRecDepth 100000 in
theorem zf_M_film {G : zz_G} {l : Launch} {Z : zz_Z} {q : Int32 × zz_S} {s : zz_S} (C : zz_Cx G l "OneBlanketModel" "film" prog_14_method_73_code 5 (some .int) 9 (some (.int q.1), zsh, q.2) Z) (a1 : Int32) (h : f_M_film a1 s = some q) : Z 0 [some (.ref 79), some (.int a1), none, none, none] [] zsh s := by
  unfold f_M_film at h
  refine zz_iload_n (i := 1) (pc := 0) C rfl rfl d_M_film_0 ?_
  refine zz_cSi (as := [.int a1]) (st := []) (pc := 1) C (zm_M_isShelf rfl) zcs_M_isShelf zl_12_286 (by omega) (Nat.le_of_ble_eq_true rfl) d_M_film_1 rfl rfl ?_
  refine zz_if_ne (tgt := 9) (pc := 4) C (by decide) d_M_film_4 (fun hc1 => ?_) (fun hc1 => ?_)
  · rw [if_neg hc1] at h
    refine zz_aload_n (i := 0) (pc := 9) C rfl rfl d_M_film_9 ?_
    refine zz_getR (pc := 10) C zl_12_139 zsh_79 rfl d_M_film_10 ?_
    refine zz_iload_n (i := 1) (pc := 13) C rfl rfl d_M_film_13 ?_
    obtain ⟨hi2, h⟩ := zz_ckE h
    refine zz_iald (pc := 14) C rfl zsh_119 hi2 d_M_film_14 ?_
    refine zz_iconst (pc := 15) C zki_m1 d_M_film_15 ?_
    refine zz_icmp_ne (tgt := 22) (pc := 16) C (by decide) d_M_film_16 (fun hc3 => ?_) (fun hc3 => ?_)
    · rw [if_neg hc3] at h
      refine zz_aload_n (i := 0) (pc := 22) C rfl rfl d_M_film_22 ?_
      refine zz_getR (pc := 23) C zl_12_139 zsh_79 rfl d_M_film_23 ?_
      refine zz_iload_n (i := 1) (pc := 26) C rfl rfl d_M_film_26 ?_
      refine zz_iald (pc := 27) C rfl zsh_119 hi2 d_M_film_27 ?_
      refine zz_bipush (pc := 28) C zkb_m3 d_M_film_28 ?_
      refine zz_icmp_eq (tgt := 36) (pc := 30) C (by decide) d_M_film_30 (fun hc4 => ?_) (fun hc4 => ?_)
      · rw [if_pos hc4] at h
        refine zz_aload_n (i := 0) (pc := 36) C rfl rfl d_M_film_36 ?_
        refine zz_getR (pc := 37) C zl_12_142 zsh_79 rfl d_M_film_37 ?_
        refine zz_iload_n (i := 1) (pc := 40) C rfl rfl d_M_film_40 ?_
        refine zz_iald (pc := 41) C rfl zsh_120 hi2 d_M_film_41 ?_
        refine zz_bipush (pc := 42) C zkb_9 d_M_film_42 ?_
        refine zz_icmp_ge (tgt := 50) (pc := 44) C (by decide) d_M_film_44 (fun hc5 => ?_) (fun hc5 => ?_)
        · rw [if_pos hc5] at h
          refine zz_aload_n (i := 0) (pc := 50) C rfl rfl d_M_film_50 ?_
          refine zz_getI (pc := 51) C zl_12_162 zsh_79 rfl d_M_film_51 ?_
          refine zz_if_ne (tgt := 60) (pc := 54) C (by decide) d_M_film_54 (fun hc6 => ?_) (fun hc6 => ?_)
          · rw [if_neg hc6] at h
            refine zz_aload_n (i := 0) (pc := 60) C rfl rfl d_M_film_60 ?_
            refine zz_getI (pc := 61) C zl_12_85 zsh_79 rfl d_M_film_61 ?_
            refine zz_istore_n (i := 2) (lo' := [some (.ref 79), some (.int a1), some (.int (s.1 79 36)), none, none]) (pc := 64) C rfl (Nat.le_of_ble_eq_true rfl) rfl rfl d_M_film_64 ?_
            refine zz_iconst (pc := 65) C zki_0 d_M_film_65 ?_
            refine zz_istore_n (i := 3) (lo' := [some (.ref 79), some (.int a1), some (.int (s.1 79 36)), some (.int (0 : Int32)), none]) (pc := 66) C rfl (Nat.le_of_ble_eq_true rfl) rfl rfl d_M_film_66 ?_
            refine zz_iconst (pc := 67) C zki_m1 d_M_film_67 ?_
            refine zz_istore (i := 4) (lo' := [some (.ref 79), some (.int a1), some (.int (s.1 79 36)), some (.int (0 : Int32)), some (.int (-1 : Int32))]) (pc := 68) C (Nat.le_of_ble_eq_true rfl) rfl rfl d_M_film_68 ?_
            exact zf_M_film_L70 C zF a1 (s.1 79 36) (0 : Int32) (-1 : Int32) s h
          · rw [if_pos hc6] at h
            refine zz_bipush (pc := 57) C zkb_m5 d_M_film_57 ?_
            replace h := Option.some.inj h
            subst h
            exact zz_ret (pc := 59) C (v := some (.int (-5 : Int32))) d_M_film_59 (Or.inl ⟨_, _, rfl, rfl, rfl, rfl⟩) rfl
        · rw [if_neg hc5] at h
          refine zz_bipush (pc := 47) C zkb_m13 d_M_film_47 ?_
          replace h := Option.some.inj h
          subst h
          exact zz_ret (pc := 49) C (v := some (.int (-13 : Int32))) d_M_film_49 (Or.inl ⟨_, _, rfl, rfl, rfl, rfl⟩) rfl
      · rw [if_neg hc4] at h
        refine zz_bipush (pc := 33) C zkb_m12 d_M_film_33 ?_
        replace h := Option.some.inj h
        subst h
        exact zz_ret (pc := 35) C (v := some (.int (-12 : Int32))) d_M_film_35 (Or.inl ⟨_, _, rfl, rfl, rfl, rfl⟩) rfl
    · rw [if_pos hc3] at h
      refine zz_bipush (pc := 19) C zkb_m11 d_M_film_19 ?_
      replace h := Option.some.inj h
      subst h
      exact zz_ret (pc := 21) C (v := some (.int (-11 : Int32))) d_M_film_21 (Or.inl ⟨_, _, rfl, rfl, rfl, rfl⟩) rfl
  · rw [if_pos hc1] at h
    refine zz_iconst (pc := 7) C zki_m1 d_M_film_7 ?_
    replace h := Option.some.inj h
    subst h
    exact zz_ret (pc := 8) C (v := some (.int (-1 : Int32))) d_M_film_8 (Or.inl ⟨_, _, rfl, rfl, rfl, rfl⟩) rfl
theorem zm_M_film {G : zz_G} {l : Launch} {s : zz_S} {q : Int32 × zz_S} {a1 : Int32} (h : f_M_film a1 s = some q) : zz_M G l 9 y_M_film prog_14_method_73_code 5 (some .int) [.ref 79, .int a1] zsh s (some (.int q.1), zsh, q.2) :=
  zz_M.intro (by decide) (Nat.le_of_ble_eq_true rfl) (Nat.le_refl _) (Nat.le_refl _) (fun Z C => zf_M_film C a1 h)
theorem d_M_force_0 : decode prog_14_method_39_code 0 = .ok (.iload_n 1, 1) := by decide +kernel
theorem d_M_force_1 : decode prog_14_method_39_code 1 = .ok (.iconst (-1), 1) := by decide +kernel
theorem d_M_force_2 : decode prog_14_method_39_code 2 = .ok (.aload_n 0, 1) := by decide +kernel
theorem d_M_force_3 : decode prog_14_method_39_code 3 = .ok (.getfield 258, 3) := by decide +kernel
theorem d_M_force_6 : decode prog_14_method_39_code 6 = .ok (.iconst 1, 1) := by decide +kernel
theorem d_M_force_7 : decode prog_14_method_39_code 7 = .ok (.isub, 1) := by decide +kernel
theorem d_M_force_8 : decode prog_14_method_39_code 8 = .ok (.invokestatic 158, 3) := by decide +kernel
theorem d_M_force_11 : decode prog_14_method_39_code 11 = .ok (.ifCond .ne (6), 3) := by decide +kernel
theorem d_M_force_14 : decode prog_14_method_39_code 14 = .ok (.ldc 190, 2) := by decide +kernel
theorem d_M_force_16 : decode prog_14_method_39_code 16 = .ok (.ireturn, 1) := by decide +kernel
theorem d_M_force_17 : decode prog_14_method_39_code 17 = .ok (.aload_n 0, 1) := by decide +kernel
theorem d_M_force_18 : decode prog_14_method_39_code 18 = .ok (.getfield 85, 3) := by decide +kernel
theorem d_M_force_21 : decode prog_14_method_39_code 21 = .ok (.istore_n 2, 1) := by decide +kernel
theorem d_M_force_22 : decode prog_14_method_39_code 22 = .ok (.aload_n 0, 1) := by decide +kernel
theorem d_M_force_23 : decode prog_14_method_39_code 23 = .ok (.iload_n 1, 1) := by decide +kernel
theorem d_M_force_24 : decode prog_14_method_39_code 24 = .ok (.putfield 85, 3) := by decide +kernel
theorem d_M_force_27 : decode prog_14_method_39_code 27 = .ok (.iload_n 2, 1) := by decide +kernel
theorem d_M_force_28 : decode prog_14_method_39_code 28 = .ok (.ireturn, 1) := by decide +kernel
set_option maxHeartbeats 4000000 in
set_option maxRecDepth 100000 in
theorem zf_M_force {G : zz_G} {l : Launch} {Z : zz_Z} {q : Int32 × zz_S} {s : zz_S} (C : zz_Cx G l "OneBlanketModel" "force" prog_14_method_39_code 3 (some .int) 3 (some (.int q.1), zsh, q.2) Z) (a1 : Int32) (h : f_M_force a1 s = some q) : Z 0 [some (.ref 79), some (.int a1), none] [] zsh s := by
  unfold f_M_force at h
  refine zz_iload_n (i := 1) (pc := 0) C rfl rfl d_M_force_0 ?_
  refine zz_iconst (pc := 1) C zki_m1 d_M_force_1 ?_
  refine zz_aload_n (i := 0) (pc := 2) C rfl rfl d_M_force_2 ?_
  refine zz_getI (pc := 3) C zl_12_258 zsh_79 rfl d_M_force_3 ?_
  refine zz_iconst (pc := 6) C zki_1 d_M_force_6 ?_
  refine zz_isub (pc := 7) C d_M_force_7 ?_
  refine zz_cSi (as := [.int a1, .int (-1 : Int32), .int ((s.1 79 35) - (1 : Int32))]) (st := []) (pc := 8) C (zm_M_in rfl) zcs_M_in zl_12_158 (by omega) (Nat.le_of_ble_eq_true rfl) d_M_force_8 rfl rfl ?_
  refine zz_if_ne (tgt := 17) (pc := 11) C (by decide) d_M_force_11 (fun hc1 => ?_) (fun hc1 => ?_)
  · rw [if_neg hc1] at h
    refine zz_aload_n (i := 0) (pc := 17) C rfl rfl d_M_force_17 ?_
    refine zz_getI (pc := 18) C zl_12_85 zsh_79 rfl d_M_force_18 ?_
    refine zz_istore_n (i := 2) (lo' := [some (.ref 79), some (.int a1), some (.int (s.1 79 36))]) (pc := 21) C rfl (Nat.le_of_ble_eq_true rfl) rfl rfl d_M_force_21 ?_
    refine zz_aload_n (i := 0) (pc := 22) C rfl rfl d_M_force_22 ?_
    refine zz_iload_n (i := 1) (pc := 23) C rfl rfl d_M_force_23 ?_
    refine zz_putI' (pc := 24) C zl_12_85 zpf_12_36 zsh_79 rfl d_M_force_24 ?_
    refine zz_iload_n (i := 2) (pc := 27) C rfl rfl d_M_force_27 ?_
    replace h := Option.some.inj h
    subst h
    exact zz_ret (pc := 28) C (v := some (.int (s.1 79 36))) d_M_force_28 (Or.inl ⟨_, _, rfl, rfl, rfl, rfl⟩) rfl
  · rw [if_pos hc1] at h
    refine zz_ldc (pc := 14) C zl_12_190 d_M_force_14 ?_
    replace h := Option.some.inj h
    subst h
    exact zz_ret (pc := 16) C (v := some (.int (-2000000000 : Int32))) d_M_force_16 (Or.inl ⟨_, _, rfl, rfl, rfl, rfl⟩) rfl
theorem zm_M_force {G : zz_G} {l : Launch} {s : zz_S} {q : Int32 × zz_S} {a1 : Int32} (h : f_M_force a1 s = some q) : zz_M G l 3 y_M_force prog_14_method_39_code 3 (some .int) [.ref 79, .int a1] zsh s (some (.int q.1), zsh, q.2) :=
  zz_M.intro (by decide) (Nat.le_of_ble_eq_true rfl) (Nat.le_refl _) (Nat.le_refl _) (fun Z C => zf_M_force C a1 h)
theorem d_M_isTurn_0 : decode prog_14_method_41_code 0 = .ok (.iload_n 0, 1) := by decide +kernel
theorem d_M_isTurn_1 : decode prog_14_method_41_code 1 = .ok (.invokestatic 277, 3) := by decide +kernel
theorem d_M_isTurn_4 : decode prog_14_method_41_code 4 = .ok (.ifCond .eq (31), 3) := by decide +kernel
theorem d_M_isTurn_7 : decode prog_14_method_41_code 7 = .ok (.iload_n 1, 1) := by decide +kernel
theorem d_M_isTurn_8 : decode prog_14_method_41_code 8 = .ok (.iconst 0, 1) := by decide +kernel
theorem d_M_isTurn_9 : decode prog_14_method_41_code 9 = .ok (.iconst 5, 1) := by decide +kernel
theorem d_M_isTurn_10 : decode prog_14_method_41_code 10 = .ok (.invokestatic 158, 3) := by decide +kernel
theorem d_M_isTurn_13 : decode prog_14_method_41_code 13 = .ok (.ifCond .eq (22), 3) := by decide +kernel
theorem d_M_isTurn_16 : decode prog_14_method_41_code 16 = .ok (.iload_n 2, 1) := by decide +kernel
theorem d_M_isTurn_17 : decode prog_14_method_41_code 17 = .ok (.bipush (-20), 2) := by decide +kernel
theorem d_M_isTurn_19 : decode prog_14_method_41_code 19 = .ok (.bipush (20), 2) := by decide +kernel
theorem d_M_isTurn_21 : decode prog_14_method_41_code 21 = .ok (.invokestatic 158, 3) := by decide +kernel
theorem d_M_isTurn_24 : decode prog_14_method_41_code 24 = .ok (.ifCond .eq (11), 3) := by decide +kernel
theorem d_M_isTurn_27 : decode prog_14_method_41_code 27 = .ok (.iload_n 2, 1) := by decide +kernel
theorem d_M_isTurn_28 : decode prog_14_method_41_code 28 = .ok (.ifCond .eq (7), 3) := by decide +kernel
theorem d_M_isTurn_31 : decode prog_14_method_41_code 31 = .ok (.iconst 1, 1) := by decide +kernel
theorem d_M_isTurn_32 : decode prog_14_method_41_code 32 = .ok (.goto (4), 3) := by decide +kernel
theorem d_M_isTurn_35 : decode prog_14_method_41_code 35 = .ok (.iconst 0, 1) := by decide +kernel
theorem d_M_isTurn_36 : decode prog_14_method_41_code 36 = .ok (.ireturn, 1) := by decide +kernel
set_option maxHeartbeats 4000000 in
set_option maxRecDepth 100000 in
theorem zf_M_isTurn {G : zz_G} {l : Launch} {Z : zz_Z} {sh : List zz_Sh} {q : Int32} {s : zz_S} (C : zz_Cx G l "OneBlanketModel" "isTurn" prog_14_method_41_code 3 (some .boolean) 4 (some (.int q), sh, s) Z) (a0 : Int32) (a1 : Int32) (a2 : Int32) (h : f_M_isTurn a0 a1 a2 = q) : Z 0 [some (.int a0), some (.int a1), some (.int a2)] [] sh s := by
  unfold f_M_isTurn at h
  refine zz_iload_n (i := 0) (pc := 0) C rfl rfl d_M_isTurn_0 ?_
  refine zz_cSi (as := [.int a0]) (st := []) (pc := 1) C (zm_M_isMinute rfl) zcs_M_isMinute zl_12_277 (by omega) (Nat.le_of_ble_eq_true rfl) d_M_isTurn_1 rfl rfl ?_
  refine zz_if_eq (tgt := 35) (pc := 4) C (by decide) d_M_isTurn_4 (fun hc1 => ?_) (fun hc1 => ?_)
  · rw [if_pos hc1] at h
    refine zz_iconst (pc := 35) C zki_0 d_M_isTurn_35 ?_
    subst h
    exact zz_ret (pc := 36) C (v := some (.int (0 : Int32))) d_M_isTurn_36 (Or.inl ⟨_, _, rfl, rfl, rfl, (by decide)⟩) rfl
  · rw [if_neg hc1] at h
    refine zz_iload_n (i := 1) (pc := 7) C rfl rfl d_M_isTurn_7 ?_
    refine zz_iconst (pc := 8) C zki_0 d_M_isTurn_8 ?_
    refine zz_iconst (pc := 9) C zki_5 d_M_isTurn_9 ?_
    refine zz_cSi (as := [.int a1, .int (0 : Int32), .int (5 : Int32)]) (st := []) (pc := 10) C (zm_M_in rfl) zcs_M_in zl_12_158 (by omega) (Nat.le_of_ble_eq_true rfl) d_M_isTurn_10 rfl rfl ?_
    refine zz_if_eq (tgt := 35) (pc := 13) C (by decide) d_M_isTurn_13 (fun hc2 => ?_) (fun hc2 => ?_)
    · rw [if_pos hc2] at h
      refine zz_iconst (pc := 35) C zki_0 d_M_isTurn_35 ?_
      subst h
      exact zz_ret (pc := 36) C (v := some (.int (0 : Int32))) d_M_isTurn_36 (Or.inl ⟨_, _, rfl, rfl, rfl, (by decide)⟩) rfl
    · rw [if_neg hc2] at h
      refine zz_iload_n (i := 2) (pc := 16) C rfl rfl d_M_isTurn_16 ?_
      refine zz_bipush (pc := 17) C zkb_m20 d_M_isTurn_17 ?_
      refine zz_bipush (pc := 19) C zkb_20 d_M_isTurn_19 ?_
      refine zz_cSi (as := [.int a2, .int (-20 : Int32), .int (20 : Int32)]) (st := []) (pc := 21) C (zm_M_in rfl) zcs_M_in zl_12_158 (by omega) (Nat.le_of_ble_eq_true rfl) d_M_isTurn_21 rfl rfl ?_
      refine zz_if_eq (tgt := 35) (pc := 24) C (by decide) d_M_isTurn_24 (fun hc3 => ?_) (fun hc3 => ?_)
      · rw [if_pos hc3] at h
        refine zz_iconst (pc := 35) C zki_0 d_M_isTurn_35 ?_
        subst h
        exact zz_ret (pc := 36) C (v := some (.int (0 : Int32))) d_M_isTurn_36 (Or.inl ⟨_, _, rfl, rfl, rfl, (by decide)⟩) rfl
      · rw [if_neg hc3] at h
        refine zz_iload_n (i := 2) (pc := 27) C rfl rfl d_M_isTurn_27 ?_
        refine zz_if_eq (tgt := 35) (pc := 28) C (by decide) d_M_isTurn_28 (fun hc4 => ?_) (fun hc4 => ?_)
        · rw [if_pos hc4] at h
          refine zz_iconst (pc := 35) C zki_0 d_M_isTurn_35 ?_
          subst h
          exact zz_ret (pc := 36) C (v := some (.int (0 : Int32))) d_M_isTurn_36 (Or.inl ⟨_, _, rfl, rfl, rfl, (by decide)⟩) rfl
        · rw [if_neg hc4] at h
          refine zz_iconst (pc := 31) C zki_1 d_M_isTurn_31 ?_
          refine zz_goto (tgt := 36) (pc := 32) C (by decide) d_M_isTurn_32 ?_
          subst h
          exact zz_ret (pc := 36) C (v := some (.int (1 : Int32))) d_M_isTurn_36 (Or.inl ⟨_, _, rfl, rfl, rfl, (by decide)⟩) rfl
theorem zm_M_isTurn {G : zz_G} {l : Launch} {sh : List zz_Sh} {s : zz_S} {q : Int32} {a0 : Int32} {a1 : Int32} {a2 : Int32} (h : f_M_isTurn a0 a1 a2 = q) : zz_M G l 4 y_M_isTurn prog_14_method_41_code 3 (some .boolean) [.int a0, .int a1, .int a2] sh s (some (.int q), sh, s) :=
  zz_M.intro (by decide) (Nat.le_of_ble_eq_true rfl) (Nat.le_refl _) (Nat.le_refl _) (fun Z C => zf_M_isTurn C a0 a1 a2 h)
theorem d_M_keep_0 : decode prog_14_method_93_code 0 = .ok (.iload_n 1, 1) := by decide +kernel
theorem d_M_keep_1 : decode prog_14_method_93_code 1 = .ok (.invokestatic 286, 3) := by decide +kernel
theorem d_M_keep_4 : decode prog_14_method_93_code 4 = .ok (.ifCond .eq (16), 3) := by decide +kernel
theorem d_M_keep_7 : decode prog_14_method_93_code 7 = .ok (.iload_n 2, 1) := by decide +kernel
theorem d_M_keep_8 : decode prog_14_method_93_code 8 = .ok (.iconst (-1), 1) := by decide +kernel
theorem d_M_keep_9 : decode prog_14_method_93_code 9 = .ok (.if_icmp .eq (13), 3) := by decide +kernel
theorem d_M_keep_12 : decode prog_14_method_93_code 12 = .ok (.aload_n 0, 1) := by decide +kernel
theorem d_M_keep_13 : decode prog_14_method_93_code 13 = .ok (.iload_n 2, 1) := by decide +kernel
theorem d_M_keep_14 : decode prog_14_method_93_code 14 = .ok (.invokevirtual 394, 3) := by decide +kernel
theorem d_M_keep_17 : decode prog_14_method_93_code 17 = .ok (.ifCond .ne (5), 3) := by decide +kernel
theorem d_M_keep_20 : decode prog_14_method_93_code 20 = .ok (.iconst (-1), 1) := by decide +kernel
theorem d_M_keep_21 : decode prog_14_method_93_code 21 = .ok (.ireturn, 1) := by decide +kernel
theorem d_M_keep_22 : decode prog_14_method_93_code 22 = .ok (.aload_n 0, 1) := by decide +kernel
theorem d_M_keep_23 : decode prog_14_method_93_code 23 = .ok (.getfield 139, 3) := by decide +kernel
theorem d_M_keep_26 : decode prog_14_method_93_code 26 = .ok (.iload_n 1, 1) := by decide +kernel
theorem d_M_keep_27 : decode prog_14_method_93_code 27 = .ok (.iload_n 2, 1) := by decide +kernel
theorem d_M_keep_28 : decode prog_14_method_93_code 28 = .ok (.iastore, 1) := by decide +kernel
theorem d_M_keep_29 : decode prog_14_method_93_code 29 = .ok (.iconst 1, 1) := by decide +kernel
theorem d_M_keep_30 : decode prog_14_method_93_code 30 = .ok (.ireturn, 1) := by decide +kernel
set_option maxHeartbeats 4000000 in
set_option maxRecDepth 100000 in
theorem zf_M_keep_J22 {G : zz_G} {l : Launch} {Z : zz_Z} {q : Int32 × zz_S} {s : zz_S} (C : zz_Cx G l "OneBlanketModel" "keep" prog_14_method_93_code 3 (some .int) 4 (some (.int q.1), zsh, q.2) Z) (v1 : Int32) (v2 : Int32) (h : f_M_keep_J22 v1 v2 s = some q) : Z 22 [some (.ref 79), some (.int v1), some (.int v2)] [] zsh s := by
  unfold f_M_keep_J22 at h
  refine zz_aload_n (i := 0) (pc := 22) C rfl rfl d_M_keep_22 ?_
  refine zz_getR (pc := 23) C zl_12_139 zsh_79 rfl d_M_keep_23 ?_
  refine zz_iload_n (i := 1) (pc := 26) C rfl rfl d_M_keep_26 ?_
  refine zz_iload_n (i := 2) (pc := 27) C rfl rfl d_M_keep_27 ?_
  obtain ⟨hi3, h⟩ := zz_ckE h
  refine zz_iast (pc := 28) C rfl zsh_119 hi3 d_M_keep_28 ?_
  refine zz_iconst (pc := 29) C zki_1 d_M_keep_29 ?_
  replace h := Option.some.inj h
  subst h
  exact zz_ret (pc := 30) C (v := some (.int (1 : Int32))) d_M_keep_30 (Or.inl ⟨_, _, rfl, rfl, rfl, rfl⟩) rfl
set_option maxHeartbeats 4000000 in
set_option maxRecDepth 100000 in
theorem zf_M_keep {G : zz_G} {l : Launch} {Z : zz_Z} {q : Int32 × zz_S} {s : zz_S} (C : zz_Cx G l "OneBlanketModel" "keep" prog_14_method_93_code 3 (some .int) 4 (some (.int q.1), zsh, q.2) Z) (a1 : Int32) (a2 : Int32) (h : f_M_keep a1 a2 s = some q) : Z 0 [some (.ref 79), some (.int a1), some (.int a2)] [] zsh s := by
  unfold f_M_keep at h
  refine zz_iload_n (i := 1) (pc := 0) C rfl rfl d_M_keep_0 ?_
  refine zz_cSi (as := [.int a1]) (st := []) (pc := 1) C (zm_M_isShelf rfl) zcs_M_isShelf zl_12_286 (by omega) (Nat.le_of_ble_eq_true rfl) d_M_keep_1 rfl rfl ?_
  refine zz_if_eq (tgt := 20) (pc := 4) C (by decide) d_M_keep_4 (fun hc1 => ?_) (fun hc1 => ?_)
  · rw [if_pos hc1] at h
    refine zz_iconst (pc := 20) C zki_m1 d_M_keep_20 ?_
    replace h := Option.some.inj h
    subst h
    exact zz_ret (pc := 21) C (v := some (.int (-1 : Int32))) d_M_keep_21 (Or.inl ⟨_, _, rfl, rfl, rfl, rfl⟩) rfl
  · rw [if_neg hc1] at h
    refine zz_iload_n (i := 2) (pc := 7) C rfl rfl d_M_keep_7 ?_
    refine zz_iconst (pc := 8) C zki_m1 d_M_keep_8 ?_
    refine zz_icmp_eq (tgt := 22) (pc := 9) C (by decide) d_M_keep_9 (fun hc2 => ?_) (fun hc2 => ?_)
    · rw [if_pos hc2] at h
      exact zf_M_keep_J22 C a1 a2 h
    · rw [if_neg hc2] at h
      refine zz_aload_n (i := 0) (pc := 12) C rfl rfl d_M_keep_12 ?_
      refine zz_iload_n (i := 2) (pc := 13) C rfl rfl d_M_keep_13 ?_
      refine zz_cVi (as := [.int a2]) (st := []) (pc := 14) C (zm_M_isBody rfl) zcv_M_isBody zsh_79 zl_12_394 (by omega) (Nat.le_of_ble_eq_true rfl) d_M_keep_14 rfl rfl ?_
      refine zz_if_ne (tgt := 22) (pc := 17) C (by decide) d_M_keep_17 (fun hc4 => ?_) (fun hc4 => ?_)
      · rw [if_neg hc4] at h
        exact zf_M_keep_J22 C a1 a2 h
      · rw [if_pos hc4] at h
        refine zz_iconst (pc := 20) C zki_m1 d_M_keep_20 ?_
        replace h := Option.some.inj h
        subst h
        exact zz_ret (pc := 21) C (v := some (.int (-1 : Int32))) d_M_keep_21 (Or.inl ⟨_, _, rfl, rfl, rfl, rfl⟩) rfl
theorem zm_M_keep {G : zz_G} {l : Launch} {s : zz_S} {q : Int32 × zz_S} {a1 : Int32} {a2 : Int32} (h : f_M_keep a1 a2 s = some q) : zz_M G l 4 y_M_keep prog_14_method_93_code 3 (some .int) [.ref 79, .int a1, .int a2] zsh s (some (.int q.1), zsh, q.2) :=
  zz_M.intro (by decide) (Nat.le_of_ble_eq_true rfl) (Nat.le_refl _) (Nat.le_refl _) (fun Z C => zf_M_keep C a1 a2 h)
theorem d_M_line_0 : decode prog_14_method_32_code 0 = .ok (.sipush (305), 3) := by decide +kernel
theorem d_M_line_3 : decode prog_14_method_32_code 3 = .ok (.aload_n 0, 1) := by decide +kernel
theorem d_M_line_4 : decode prog_14_method_32_code 4 = .ok (.getfield 69, 3) := by decide +kernel
theorem d_M_line_7 : decode prog_14_method_32_code 7 = .ok (.iconst 5, 1) := by decide +kernel
theorem d_M_line_8 : decode prog_14_method_32_code 8 = .ok (.iaload, 1) := by decide +kernel
theorem d_M_line_9 : decode prog_14_method_32_code 9 = .ok (.iadd, 1) := by decide +kernel
theorem d_M_line_10 : decode prog_14_method_32_code 10 = .ok (.istore_n 1, 1) := by decide +kernel
theorem d_M_line_11 : decode prog_14_method_32_code 11 = .ok (.aload_n 0, 1) := by decide +kernel
theorem d_M_line_12 : decode prog_14_method_32_code 12 = .ok (.getfield 72, 3) := by decide +kernel
theorem d_M_line_15 : decode prog_14_method_32_code 15 = .ok (.iload_n 1, 1) := by decide +kernel
theorem d_M_line_16 : decode prog_14_method_32_code 16 = .ok (.aload_n 0, 1) := by decide +kernel
theorem d_M_line_17 : decode prog_14_method_32_code 17 = .ok (.getfield 203, 3) := by decide +kernel
theorem d_M_line_20 : decode prog_14_method_32_code 20 = .ok (.i2s, 1) := by decide +kernel
theorem d_M_line_21 : decode prog_14_method_32_code 21 = .ok (.sastore, 1) := by decide +kernel
theorem d_M_line_22 : decode prog_14_method_32_code 22 = .ok (.aload_n 0, 1) := by decide +kernel
theorem d_M_line_23 : decode prog_14_method_32_code 23 = .ok (.invokevirtual 231, 3) := by decide +kernel
theorem d_M_line_26 : decode prog_14_method_32_code 26 = .ok (.aload_n 0, 1) := by decide +kernel
theorem d_M_line_27 : decode prog_14_method_32_code 27 = .ok (.getfield 200, 3) := by decide +kernel
theorem d_M_line_30 : decode prog_14_method_32_code 30 = .ok (.ifCond .ge (37), 3) := by decide +kernel
theorem d_M_line_33 : decode prog_14_method_32_code 33 = .ok (.aload_n 0, 1) := by decide +kernel
theorem d_M_line_34 : decode prog_14_method_32_code 34 = .ok (.invokevirtual 212, 3) := by decide +kernel
theorem d_M_line_37 : decode prog_14_method_32_code 37 = .ok (.bipush (63), 2) := by decide +kernel
theorem d_M_line_39 : decode prog_14_method_32_code 39 = .ok (.if_icmp .ne (28), 3) := by decide +kernel
theorem d_M_line_42 : decode prog_14_method_32_code 42 = .ok (.aload_n 0, 1) := by decide +kernel
theorem d_M_line_43 : decode prog_14_method_32_code 43 = .ok (.dup, 1) := by decide +kernel
theorem d_M_line_44 : decode prog_14_method_32_code 44 = .ok (.getfield 197, 3) := by decide +kernel
theorem d_M_line_47 : decode prog_14_method_32_code 47 = .ok (.iconst 1, 1) := by decide +kernel
theorem d_M_line_48 : decode prog_14_method_32_code 48 = .ok (.iadd, 1) := by decide +kernel
theorem d_M_line_49 : decode prog_14_method_32_code 49 = .ok (.putfield 197, 3) := by decide +kernel
theorem d_M_line_52 : decode prog_14_method_32_code 52 = .ok (.aload_n 0, 1) := by decide +kernel
theorem d_M_line_53 : decode prog_14_method_32_code 53 = .ok (.getfield 72, 3) := by decide +kernel
theorem d_M_line_56 : decode prog_14_method_32_code 56 = .ok (.iload_n 1, 1) := by decide +kernel
theorem d_M_line_57 : decode prog_14_method_32_code 57 = .ok (.aload_n 0, 1) := by decide +kernel
theorem d_M_line_58 : decode prog_14_method_32_code 58 = .ok (.getfield 203, 3) := by decide +kernel
theorem d_M_line_61 : decode prog_14_method_32_code 61 = .ok (.i2s, 1) := by decide +kernel
theorem d_M_line_62 : decode prog_14_method_32_code 62 = .ok (.sastore, 1) := by decide +kernel
theorem d_M_line_63 : decode prog_14_method_32_code 63 = .ok (.aload_n 0, 1) := by decide +kernel
theorem d_M_line_64 : decode prog_14_method_32_code 64 = .ok (.invokevirtual 231, 3) := by decide +kernel
theorem d_M_line_67 : decode prog_14_method_32_code 67 = .ok (.aload_n 0, 1) := by decide +kernel
theorem d_M_line_68 : decode prog_14_method_32_code 68 = .ok (.getfield 76, 3) := by decide +kernel
theorem d_M_line_71 : decode prog_14_method_32_code 71 = .ok (.iload_n 1, 1) := by decide +kernel
theorem d_M_line_72 : decode prog_14_method_32_code 72 = .ok (.aload_n 0, 1) := by decide +kernel
theorem d_M_line_73 : decode prog_14_method_32_code 73 = .ok (.getfield 203, 3) := by decide +kernel
theorem d_M_line_76 : decode prog_14_method_32_code 76 = .ok (.i2s, 1) := by decide +kernel
theorem d_M_line_77 : decode prog_14_method_32_code 77 = .ok (.sastore, 1) := by decide +kernel
theorem d_M_line_78 : decode prog_14_method_32_code 78 = .ok (.aload_n 0, 1) := by decide +kernel
theorem d_M_line_79 : decode prog_14_method_32_code 79 = .ok (.getfield 69, 3) := by decide +kernel
theorem d_M_line_82 : decode prog_14_method_32_code 82 = .ok (.iconst 5, 1) := by decide +kernel
theorem d_M_line_83 : decode prog_14_method_32_code 83 = .ok (.dup2, 1) := by decide +kernel
theorem d_M_line_84 : decode prog_14_method_32_code 84 = .ok (.iaload, 1) := by decide +kernel
theorem d_M_line_85 : decode prog_14_method_32_code 85 = .ok (.iconst 1, 1) := by decide +kernel
theorem d_M_line_86 : decode prog_14_method_32_code 86 = .ok (.iadd, 1) := by decide +kernel
theorem d_M_line_87 : decode prog_14_method_32_code 87 = .ok (.iastore, 1) := by decide +kernel
theorem d_M_line_88 : decode prog_14_method_32_code 88 = .ok (.return_, 1) := by decide +kernel
set_option maxHeartbeats 4000000 in
set_option maxRecDepth 100000 in
theorem zf_M_line_J67 {G : zz_G} {l : Launch} {Z : zz_Z} {q : zz_S} {s : zz_S} (C : zz_Cx G l "OneBlanketModel" "line" prog_14_method_32_code 2 (none) 204 (none, zsh, q) Z) (v1 : Int32) (h : f_M_line_J67 v1 s = some q) : Z 67 [some (.ref 79), some (.int v1)] [] zsh s := by
  unfold f_M_line_J67 at h
  refine zz_aload_n (i := 0) (pc := 67) C rfl rfl d_M_line_67 ?_
  refine zz_getR (pc := 68) C zl_12_76 zsh_79 rfl d_M_line_68 ?_
  refine zz_iload_n (i := 1) (pc := 71) C rfl rfl d_M_line_71 ?_
  refine zz_aload_n (i := 0) (pc := 72) C rfl rfl d_M_line_72 ?_
  refine zz_getI (pc := 73) C zl_12_203 zsh_79 rfl d_M_line_73 ?_
  refine zz_i2s (pc := 76) C d_M_line_76 ?_
  obtain ⟨hi4, h⟩ := zz_ckE h
  refine zz_sast (pc := 77) C rfl zsh_100 hi4 d_M_line_77 ?_
  refine zz_aload_n (i := 0) (pc := 78) C rfl rfl d_M_line_78 ?_
  refine zz_getR (pc := 79) C zl_12_69 zsh_79 rfl d_M_line_79 ?_
  refine zz_iconst (pc := 82) C zki_5 d_M_line_82 ?_
  refine zz_dup2 (pc := 83) C rfl rfl d_M_line_83 ?_
  refine zz_ialdv (v := (s.1 98 5)) (pc := 84) C zkx_5 zsh_98 (by decide) rfl d_M_line_84 ?_
  refine zz_iconst (pc := 85) C zki_1 d_M_line_85 ?_
  refine zz_iadd (pc := 86) C d_M_line_86 ?_
  refine zz_iast (pc := 87) C zkx_5 zsh_98 (by decide) d_M_line_87 ?_
  replace h := Option.some.inj h
  subst h
  exact zz_ret (pc := 88) C (v := none) d_M_line_88 (Or.inr (Or.inr (Or.inr ⟨rfl, rfl, rfl⟩))) rfl
set_option maxHeartbeats 4000000 in
set_option maxRecDepth 100000 in
theorem zf_M_line {G : zz_G} {l : Launch} {Z : zz_Z} {q : zz_S} {s : zz_S} (C : zz_Cx G l "OneBlanketModel" "line" prog_14_method_32_code 2 (none) 204 (none, zsh, q) Z) (h : f_M_line s = some q) : Z 0 [some (.ref 79), none] [] zsh s := by
  unfold f_M_line at h
  refine zz_sipush (pc := 0) C zks_305 d_M_line_0 ?_
  refine zz_aload_n (i := 0) (pc := 3) C rfl rfl d_M_line_3 ?_
  refine zz_getR (pc := 4) C zl_12_69 zsh_79 rfl d_M_line_4 ?_
  refine zz_iconst (pc := 7) C zki_5 d_M_line_7 ?_
  refine zz_iald (pc := 8) C zkx_5 zsh_98 (by decide) d_M_line_8 ?_
  refine zz_iadd (pc := 9) C d_M_line_9 ?_
  refine zz_istore_n (i := 1) (lo' := [some (.ref 79), some (.int ((305 : Int32) + (s.1 98 5)))]) (pc := 10) C rfl (Nat.le_of_ble_eq_true rfl) rfl rfl d_M_line_10 ?_
  refine zz_aload_n (i := 0) (pc := 11) C rfl rfl d_M_line_11 ?_
  refine zz_getR (pc := 12) C zl_12_72 zsh_79 rfl d_M_line_12 ?_
  refine zz_iload_n (i := 1) (pc := 15) C rfl rfl d_M_line_15 ?_
  refine zz_aload_n (i := 0) (pc := 16) C rfl rfl d_M_line_16 ?_
  refine zz_getI (pc := 17) C zl_12_203 zsh_79 rfl d_M_line_17 ?_
  refine zz_i2s (pc := 20) C d_M_line_20 ?_
  obtain ⟨hi1, h⟩ := zz_ckE h
  refine zz_sast (pc := 21) C rfl zsh_99 hi1 d_M_line_21 ?_
  refine zz_aload_n (i := 0) (pc := 22) C rfl rfl d_M_line_22 ?_
  obtain ⟨q2, hq2, h⟩ := zz_bdE h
  refine zz_cVv (as := []) (st := []) (pc := 23) C (zm_M_either hq2) zcv_M_either zsh_79 zl_12_231 (by omega) (Nat.le_of_ble_eq_true rfl) d_M_line_23 rfl rfl ?_
  refine zz_aload_n (i := 0) (pc := 26) C rfl rfl d_M_line_26 ?_
  refine zz_getI (pc := 27) C zl_12_200 zsh_79 rfl d_M_line_27 ?_
  refine zz_if_ge (tgt := 67) (pc := 30) C (by decide) d_M_line_30 (fun hc3 => ?_) (fun hc3 => ?_)
  · rw [if_pos hc3] at h
    exact zf_M_line_J67 C ((305 : Int32) + (s.1 98 5)) h
  · rw [if_neg hc3] at h
    refine zz_aload_n (i := 0) (pc := 33) C rfl rfl d_M_line_33 ?_
    obtain ⟨q5, hq5, h⟩ := zz_bdE h
    refine zz_cVi (as := []) (st := []) (pc := 34) C (zm_M_look hq5) zcv_M_look zsh_79 zl_12_212 (by omega) (Nat.le_of_ble_eq_true rfl) d_M_line_34 rfl rfl ?_
    refine zz_bipush (pc := 37) C zkb_63 d_M_line_37 ?_
    refine zz_icmp_ne (tgt := 67) (pc := 39) C (by decide) d_M_line_39 (fun hc6 => ?_) (fun hc6 => ?_)
    · rw [if_neg hc6] at h
      exact zf_M_line_J67 C ((305 : Int32) + (s.1 98 5)) h
    · rw [if_pos hc6] at h
      refine zz_aload_n (i := 0) (pc := 42) C rfl rfl d_M_line_42 ?_
      refine zz_dup (pc := 43) C rfl d_M_line_43 ?_
      refine zz_getI (pc := 44) C zl_12_197 zsh_79 rfl d_M_line_44 ?_
      refine zz_iconst (pc := 47) C zki_1 d_M_line_47 ?_
      refine zz_iadd (pc := 48) C d_M_line_48 ?_
      refine zz_putI' (pc := 49) C zl_12_197 zpf_12_24 zsh_79 rfl d_M_line_49 ?_
      refine zz_aload_n (i := 0) (pc := 52) C rfl rfl d_M_line_52 ?_
      refine zz_getR (pc := 53) C zl_12_72 zsh_79 rfl d_M_line_53 ?_
      refine zz_iload_n (i := 1) (pc := 56) C rfl rfl d_M_line_56 ?_
      refine zz_aload_n (i := 0) (pc := 57) C rfl rfl d_M_line_57 ?_
      refine zz_getIv (v := (q2.1 79 27)) (pc := 58) C zl_12_203 zsh_79 rfl rfl d_M_line_58 ?_
      refine zz_i2s (pc := 61) C d_M_line_61 ?_
      refine zz_sast (pc := 62) C rfl zsh_99 hi1 d_M_line_62 ?_
      refine zz_aload_n (i := 0) (pc := 63) C rfl rfl d_M_line_63 ?_
      obtain ⟨q7, hq7, h⟩ := zz_bdE h
      refine zz_cVv (as := []) (st := []) (pc := 64) C (zm_M_either hq7) zcv_M_either zsh_79 zl_12_231 (by omega) (Nat.le_of_ble_eq_true rfl) d_M_line_64 rfl rfl ?_
      exact zf_M_line_J67 C ((305 : Int32) + (s.1 98 5)) h
theorem zm_M_line {G : zz_G} {l : Launch} {s : zz_S} {q : zz_S} (h : f_M_line s = some q) : zz_M G l 204 y_M_line prog_14_method_32_code 2 (none) [.ref 79] zsh s (none, zsh, q) :=
  zz_M.intro (by decide) (Nat.le_of_ble_eq_true rfl) (Nat.le_refl _) (Nat.le_refl _) (fun Z C => zf_M_line C h)
theorem d_M_readText_0 : decode prog_14_method_33_code 0 = .ok (.aload_n 0, 1) := by decide +kernel
theorem d_M_readText_1 : decode prog_14_method_33_code 1 = .ok (.iconst 0, 1) := by decide +kernel
theorem d_M_readText_2 : decode prog_14_method_33_code 2 = .ok (.putfield 197, 3) := by decide +kernel
theorem d_M_readText_5 : decode prog_14_method_33_code 5 = .ok (.aload_n 0, 1) := by decide +kernel
theorem d_M_readText_6 : decode prog_14_method_33_code 6 = .ok (.iconst (-1), 1) := by decide +kernel
theorem d_M_readText_7 : decode prog_14_method_33_code 7 = .ok (.putfield 200, 3) := by decide +kernel
theorem d_M_readText_10 : decode prog_14_method_33_code 10 = .ok (.aload_n 0, 1) := by decide +kernel
theorem d_M_readText_11 : decode prog_14_method_33_code 11 = .ok (.iconst 0, 1) := by decide +kernel
theorem d_M_readText_12 : decode prog_14_method_33_code 12 = .ok (.putfield 206, 3) := by decide +kernel
theorem d_M_readText_15 : decode prog_14_method_33_code 15 = .ok (.aload_n 0, 1) := by decide +kernel
theorem d_M_readText_16 : decode prog_14_method_33_code 16 = .ok (.iconst 0, 1) := by decide +kernel
theorem d_M_readText_17 : decode prog_14_method_33_code 17 = .ok (.putfield 203, 3) := by decide +kernel
theorem d_M_readText_20 : decode prog_14_method_33_code 20 = .ok (.aload_n 0, 1) := by decide +kernel
theorem d_M_readText_21 : decode prog_14_method_33_code 21 = .ok (.getfield 69, 3) := by decide +kernel
theorem d_M_readText_24 : decode prog_14_method_33_code 24 = .ok (.iconst 5, 1) := by decide +kernel
theorem d_M_readText_25 : decode prog_14_method_33_code 25 = .ok (.iconst 0, 1) := by decide +kernel
theorem d_M_readText_26 : decode prog_14_method_33_code 26 = .ok (.iastore, 1) := by decide +kernel
theorem d_M_readText_27 : decode prog_14_method_33_code 27 = .ok (.aload_n 0, 1) := by decide +kernel
theorem d_M_readText_28 : decode prog_14_method_33_code 28 = .ok (.invokevirtual 249, 3) := by decide +kernel
theorem d_M_readText_31 : decode prog_14_method_33_code 31 = .ok (.aload_n 0, 1) := by decide +kernel
theorem d_M_readText_32 : decode prog_14_method_33_code 32 = .ok (.getfield 200, 3) := by decide +kernel
theorem d_M_readText_35 : decode prog_14_method_33_code 35 = .ok (.ifCond .ge (29), 3) := by decide +kernel
theorem d_M_readText_38 : decode prog_14_method_33_code 38 = .ok (.aload_n 0, 1) := by decide +kernel
theorem d_M_readText_39 : decode prog_14_method_33_code 39 = .ok (.invokevirtual 212, 3) := by decide +kernel
theorem d_M_readText_42 : decode prog_14_method_33_code 42 = .ok (.bipush (59), 2) := by decide +kernel
theorem d_M_readText_44 : decode prog_14_method_33_code 44 = .ok (.if_icmp .ne (20), 3) := by decide +kernel
theorem d_M_readText_47 : decode prog_14_method_33_code 47 = .ok (.aload_n 0, 1) := by decide +kernel
theorem d_M_readText_48 : decode prog_14_method_33_code 48 = .ok (.dup, 1) := by decide +kernel
theorem d_M_readText_49 : decode prog_14_method_33_code 49 = .ok (.getfield 197, 3) := by decide +kernel
theorem d_M_readText_52 : decode prog_14_method_33_code 52 = .ok (.iconst 1, 1) := by decide +kernel
theorem d_M_readText_53 : decode prog_14_method_33_code 53 = .ok (.iadd, 1) := by decide +kernel
theorem d_M_readText_54 : decode prog_14_method_33_code 54 = .ok (.putfield 197, 3) := by decide +kernel
theorem d_M_readText_57 : decode prog_14_method_33_code 57 = .ok (.aload_n 0, 1) := by decide +kernel
theorem d_M_readText_58 : decode prog_14_method_33_code 58 = .ok (.invokevirtual 249, 3) := by decide +kernel
theorem d_M_readText_61 : decode prog_14_method_33_code 61 = .ok (.goto (-30), 3) := by decide +kernel
theorem d_M_readText_64 : decode prog_14_method_33_code 64 = .ok (.aload_n 0, 1) := by decide +kernel
theorem d_M_readText_65 : decode prog_14_method_33_code 65 = .ok (.getfield 200, 3) := by decide +kernel
theorem d_M_readText_68 : decode prog_14_method_33_code 68 = .ok (.ifCond .ge (18), 3) := by decide +kernel
theorem d_M_readText_71 : decode prog_14_method_33_code 71 = .ok (.aload_n 0, 1) := by decide +kernel
theorem d_M_readText_72 : decode prog_14_method_33_code 72 = .ok (.getfield 197, 3) := by decide +kernel
theorem d_M_readText_75 : decode prog_14_method_33_code 75 = .ok (.aload_n 0, 1) := by decide +kernel
theorem d_M_readText_76 : decode prog_14_method_33_code 76 = .ok (.getfield 194, 3) := by decide +kernel
theorem d_M_readText_79 : decode prog_14_method_33_code 79 = .ok (.if_icmp .ge (7), 3) := by decide +kernel
theorem d_M_readText_82 : decode prog_14_method_33_code 82 = .ok (.aload_n 0, 1) := by decide +kernel
theorem d_M_readText_83 : decode prog_14_method_33_code 83 = .ok (.invokevirtual 209, 3) := by decide +kernel
theorem d_M_readText_86 : decode prog_14_method_33_code 86 = .ok (.aload_n 0, 1) := by decide +kernel
theorem d_M_readText_87 : decode prog_14_method_33_code 87 = .ok (.iconst 0, 1) := by decide +kernel
theorem d_M_readText_88 : decode prog_14_method_33_code 88 = .ok (.putfield 194, 3) := by decide +kernel
theorem d_M_readText_91 : decode prog_14_method_33_code 91 = .ok (.aload_n 0, 1) := by decide +kernel
theorem d_M_readText_92 : decode prog_14_method_33_code 92 = .ok (.getfield 200, 3) := by decide +kernel
theorem d_M_readText_95 : decode prog_14_method_33_code 95 = .ok (.ifCond .lt (8), 3) := by decide +kernel
theorem d_M_readText_98 : decode prog_14_method_33_code 98 = .ok (.aload_n 0, 1) := by decide +kernel
theorem d_M_readText_99 : decode prog_14_method_33_code 99 = .ok (.getfield 200, 3) := by decide +kernel
theorem d_M_readText_102 : decode prog_14_method_33_code 102 = .ok (.ireturn, 1) := by decide +kernel
theorem d_M_readText_103 : decode prog_14_method_33_code 103 = .ok (.iconst 0, 1) := by decide +kernel
theorem d_M_readText_104 : decode prog_14_method_33_code 104 = .ok (.istore_n 2, 1) := by decide +kernel
theorem d_M_readText_105 : decode prog_14_method_33_code 105 = .ok (.iload_n 2, 1) := by decide +kernel
theorem d_M_readText_106 : decode prog_14_method_33_code 106 = .ok (.aload_n 0, 1) := by decide +kernel
theorem d_M_readText_107 : decode prog_14_method_33_code 107 = .ok (.getfield 203, 3) := by decide +kernel
theorem d_M_readText_110 : decode prog_14_method_33_code 110 = .ok (.if_icmp .ge (53), 3) := by decide +kernel
theorem d_M_readText_113 : decode prog_14_method_33_code 113 = .ok (.aload_n 0, 1) := by decide +kernel
theorem d_M_readText_114 : decode prog_14_method_33_code 114 = .ok (.getfield 63, 3) := by decide +kernel
theorem d_M_readText_117 : decode prog_14_method_33_code 117 = .ok (.sipush (130), 3) := by decide +kernel
theorem d_M_readText_120 : decode prog_14_method_33_code 120 = .ok (.iload_n 1, 1) := by decide +kernel
theorem d_M_readText_121 : decode prog_14_method_33_code 121 = .ok (.imul, 1) := by decide +kernel
theorem d_M_readText_122 : decode prog_14_method_33_code 122 = .ok (.iload_n 2, 1) := by decide +kernel
theorem d_M_readText_123 : decode prog_14_method_33_code 123 = .ok (.iadd, 1) := by decide +kernel
theorem d_M_readText_124 : decode prog_14_method_33_code 124 = .ok (.aload_n 0, 1) := by decide +kernel
theorem d_M_readText_125 : decode prog_14_method_33_code 125 = .ok (.getfield 63, 3) := by decide +kernel
theorem d_M_readText_128 : decode prog_14_method_33_code 128 = .ok (.sipush (650), 3) := by decide +kernel
theorem d_M_readText_131 : decode prog_14_method_33_code 131 = .ok (.iload_n 2, 1) := by decide +kernel
theorem d_M_readText_132 : decode prog_14_method_33_code 132 = .ok (.iadd, 1) := by decide +kernel
theorem d_M_readText_133 : decode prog_14_method_33_code 133 = .ok (.baload, 1) := by decide +kernel
theorem d_M_readText_134 : decode prog_14_method_33_code 134 = .ok (.bastore, 1) := by decide +kernel
theorem d_M_readText_135 : decode prog_14_method_33_code 135 = .ok (.aload_n 0, 1) := by decide +kernel
theorem d_M_readText_136 : decode prog_14_method_33_code 136 = .ok (.getfield 66, 3) := by decide +kernel
theorem d_M_readText_139 : decode prog_14_method_33_code 139 = .ok (.sipush (130), 3) := by decide +kernel
theorem d_M_readText_142 : decode prog_14_method_33_code 142 = .ok (.iload_n 1, 1) := by decide +kernel
theorem d_M_readText_143 : decode prog_14_method_33_code 143 = .ok (.imul, 1) := by decide +kernel
theorem d_M_readText_144 : decode prog_14_method_33_code 144 = .ok (.iload_n 2, 1) := by decide +kernel
theorem d_M_readText_145 : decode prog_14_method_33_code 145 = .ok (.iadd, 1) := by decide +kernel
theorem d_M_readText_146 : decode prog_14_method_33_code 146 = .ok (.aload_n 0, 1) := by decide +kernel
theorem d_M_readText_147 : decode prog_14_method_33_code 147 = .ok (.getfield 66, 3) := by decide +kernel
theorem d_M_readText_150 : decode prog_14_method_33_code 150 = .ok (.sipush (650), 3) := by decide +kernel
theorem d_M_readText_153 : decode prog_14_method_33_code 153 = .ok (.iload_n 2, 1) := by decide +kernel
theorem d_M_readText_154 : decode prog_14_method_33_code 154 = .ok (.iadd, 1) := by decide +kernel
theorem d_M_readText_155 : decode prog_14_method_33_code 155 = .ok (.iaload, 1) := by decide +kernel
theorem d_M_readText_156 : decode prog_14_method_33_code 156 = .ok (.iastore, 1) := by decide +kernel
theorem d_M_readText_157 : decode prog_14_method_33_code 157 = .ok (.iinc 2 (1), 3) := by decide +kernel
theorem d_M_readText_160 : decode prog_14_method_33_code 160 = .ok (.goto (-55), 3) := by decide +kernel
theorem d_M_readText_163 : decode prog_14_method_33_code 163 = .ok (.aload_n 0, 1) := by decide +kernel
theorem d_M_readText_164 : decode prog_14_method_33_code 164 = .ok (.getfield 69, 3) := by decide +kernel
theorem d_M_readText_167 : decode prog_14_method_33_code 167 = .ok (.iload_n 1, 1) := by decide +kernel
theorem d_M_readText_168 : decode prog_14_method_33_code 168 = .ok (.aload_n 0, 1) := by decide +kernel
theorem d_M_readText_169 : decode prog_14_method_33_code 169 = .ok (.getfield 69, 3) := by decide +kernel
theorem d_M_readText_172 : decode prog_14_method_33_code 172 = .ok (.iconst 5, 1) := by decide +kernel
theorem d_M_readText_173 : decode prog_14_method_33_code 173 = .ok (.iaload, 1) := by decide +kernel
theorem d_M_readText_174 : decode prog_14_method_33_code 174 = .ok (.iastore, 1) := by decide +kernel
theorem d_M_readText_175 : decode prog_14_method_33_code 175 = .ok (.iconst 0, 1) := by decide +kernel
theorem d_M_readText_176 : decode prog_14_method_33_code 176 = .ok (.istore_n 2, 1) := by decide +kernel
theorem d_M_readText_177 : decode prog_14_method_33_code 177 = .ok (.iload_n 2, 1) := by decide +kernel
theorem d_M_readText_178 : decode prog_14_method_33_code 178 = .ok (.aload_n 0, 1) := by decide +kernel
theorem d_M_readText_179 : decode prog_14_method_33_code 179 = .ok (.getfield 69, 3) := by decide +kernel
theorem d_M_readText_182 : decode prog_14_method_33_code 182 = .ok (.iload_n 1, 1) := by decide +kernel
theorem d_M_readText_183 : decode prog_14_method_33_code 183 = .ok (.iaload, 1) := by decide +kernel
theorem d_M_readText_184 : decode prog_14_method_33_code 184 = .ok (.if_icmp .ge (51), 3) := by decide +kernel
theorem d_M_readText_187 : decode prog_14_method_33_code 187 = .ok (.aload_n 0, 1) := by decide +kernel
theorem d_M_readText_188 : decode prog_14_method_33_code 188 = .ok (.getfield 72, 3) := by decide +kernel
theorem d_M_readText_191 : decode prog_14_method_33_code 191 = .ok (.bipush (61), 2) := by decide +kernel
theorem d_M_readText_193 : decode prog_14_method_33_code 193 = .ok (.iload_n 1, 1) := by decide +kernel
theorem d_M_readText_194 : decode prog_14_method_33_code 194 = .ok (.imul, 1) := by decide +kernel
theorem d_M_readText_195 : decode prog_14_method_33_code 195 = .ok (.iload_n 2, 1) := by decide +kernel
theorem d_M_readText_196 : decode prog_14_method_33_code 196 = .ok (.iadd, 1) := by decide +kernel
theorem d_M_readText_197 : decode prog_14_method_33_code 197 = .ok (.aload_n 0, 1) := by decide +kernel
theorem d_M_readText_198 : decode prog_14_method_33_code 198 = .ok (.getfield 72, 3) := by decide +kernel
theorem d_M_readText_201 : decode prog_14_method_33_code 201 = .ok (.sipush (305), 3) := by decide +kernel
theorem d_M_readText_204 : decode prog_14_method_33_code 204 = .ok (.iload_n 2, 1) := by decide +kernel
theorem d_M_readText_205 : decode prog_14_method_33_code 205 = .ok (.iadd, 1) := by decide +kernel
theorem d_M_readText_206 : decode prog_14_method_33_code 206 = .ok (.saload, 1) := by decide +kernel
theorem d_M_readText_207 : decode prog_14_method_33_code 207 = .ok (.sastore, 1) := by decide +kernel
theorem d_M_readText_208 : decode prog_14_method_33_code 208 = .ok (.aload_n 0, 1) := by decide +kernel
theorem d_M_readText_209 : decode prog_14_method_33_code 209 = .ok (.getfield 76, 3) := by decide +kernel
theorem d_M_readText_212 : decode prog_14_method_33_code 212 = .ok (.bipush (61), 2) := by decide +kernel
theorem d_M_readText_214 : decode prog_14_method_33_code 214 = .ok (.iload_n 1, 1) := by decide +kernel
theorem d_M_readText_215 : decode prog_14_method_33_code 215 = .ok (.imul, 1) := by decide +kernel
theorem d_M_readText_216 : decode prog_14_method_33_code 216 = .ok (.iload_n 2, 1) := by decide +kernel
theorem d_M_readText_217 : decode prog_14_method_33_code 217 = .ok (.iadd, 1) := by decide +kernel
theorem d_M_readText_218 : decode prog_14_method_33_code 218 = .ok (.aload_n 0, 1) := by decide +kernel
theorem d_M_readText_219 : decode prog_14_method_33_code 219 = .ok (.getfield 76, 3) := by decide +kernel
theorem d_M_readText_222 : decode prog_14_method_33_code 222 = .ok (.sipush (305), 3) := by decide +kernel
theorem d_M_readText_225 : decode prog_14_method_33_code 225 = .ok (.iload_n 2, 1) := by decide +kernel
theorem d_M_readText_226 : decode prog_14_method_33_code 226 = .ok (.iadd, 1) := by decide +kernel
theorem d_M_readText_227 : decode prog_14_method_33_code 227 = .ok (.saload, 1) := by decide +kernel
theorem d_M_readText_228 : decode prog_14_method_33_code 228 = .ok (.sastore, 1) := by decide +kernel
theorem d_M_readText_229 : decode prog_14_method_33_code 229 = .ok (.iinc 2 (1), 3) := by decide +kernel
theorem d_M_readText_232 : decode prog_14_method_33_code 232 = .ok (.goto (-55), 3) := by decide +kernel
theorem d_M_readText_235 : decode prog_14_method_33_code 235 = .ok (.iconst (-1), 1) := by decide +kernel
theorem d_M_readText_236 : decode prog_14_method_33_code 236 = .ok (.ireturn, 1) := by decide +kernel
set_option maxHeartbeats 4000000 in
set_option maxRecDepth 100000 in
theorem zf_M_readText_L177 {G : zz_G} {l : Launch} {Z : zz_Z} {q : Int32 × zz_S} (C : zz_Cx G l "OneBlanketModel" "readText" prog_14_method_33_code 3 (some .int) 205 (some (.int q.1), zsh, q.2) Z) : ∀ (n : Nat) (v1 : Int32) (v2 : Int32) (s : zz_S), f_M_readText_L177 n v1 v2 s = some q → Z 177 [some (.ref 79), some (.int v1), some (.int v2)] [] zsh s := by
  intro n
  induction n with
  | zero => intro v1 v2 s h; rw [f_M_readText_L177] at h; cases h
  | succ n ih =>
  intro v1 v2 s h
  rw [f_M_readText_L177] at h
  refine zz_iload_n (i := 2) (pc := 177) C rfl rfl d_M_readText_177 ?_
  refine zz_aload_n (i := 0) (pc := 178) C rfl rfl d_M_readText_178 ?_
  refine zz_getR (pc := 179) C zl_12_69 zsh_79 rfl d_M_readText_179 ?_
  refine zz_iload_n (i := 1) (pc := 182) C rfl rfl d_M_readText_182 ?_
  obtain ⟨hi7, h⟩ := zz_ckE h
  refine zz_iald (pc := 183) C rfl zsh_98 hi7 d_M_readText_183 ?_
  refine zz_icmp_ge (tgt := 235) (pc := 184) C (by decide) d_M_readText_184 (fun hc8 => ?_) (fun hc8 => ?_)
  · rw [if_pos hc8] at h
    refine zz_iconst (pc := 235) C zki_m1 d_M_readText_235 ?_
    replace h := Option.some.inj h
    subst h
    exact zz_ret (pc := 236) C (v := some (.int (-1 : Int32))) d_M_readText_236 (Or.inl ⟨_, _, rfl, rfl, rfl, rfl⟩) rfl
  · rw [if_neg hc8] at h
    refine zz_aload_n (i := 0) (pc := 187) C rfl rfl d_M_readText_187 ?_
    refine zz_getR (pc := 188) C zl_12_72 zsh_79 rfl d_M_readText_188 ?_
    refine zz_bipush (pc := 191) C zkb_61 d_M_readText_191 ?_
    refine zz_iload_n (i := 1) (pc := 193) C rfl rfl d_M_readText_193 ?_
    refine zz_imul (pc := 194) C d_M_readText_194 ?_
    refine zz_iload_n (i := 2) (pc := 195) C rfl rfl d_M_readText_195 ?_
    refine zz_iadd (pc := 196) C d_M_readText_196 ?_
    refine zz_aload_n (i := 0) (pc := 197) C rfl rfl d_M_readText_197 ?_
    refine zz_getR (pc := 198) C zl_12_72 zsh_79 rfl d_M_readText_198 ?_
    refine zz_sipush (pc := 201) C zks_305 d_M_readText_201 ?_
    refine zz_iload_n (i := 2) (pc := 204) C rfl rfl d_M_readText_204 ?_
    refine zz_iadd (pc := 205) C d_M_readText_205 ?_
    obtain ⟨hi9, h⟩ := zz_ckE h
    refine zz_sald (pc := 206) C rfl zsh_99 hi9 d_M_readText_206 ?_
    obtain ⟨hi10, h⟩ := zz_ckE h
    refine zz_sast (pc := 207) C rfl zsh_99 hi10 d_M_readText_207 ?_
    refine zz_aload_n (i := 0) (pc := 208) C rfl rfl d_M_readText_208 ?_
    refine zz_getR (pc := 209) C zl_12_76 zsh_79 rfl d_M_readText_209 ?_
    refine zz_bipush (pc := 212) C zkb_61 d_M_readText_212 ?_
    refine zz_iload_n (i := 1) (pc := 214) C rfl rfl d_M_readText_214 ?_
    refine zz_imul (pc := 215) C d_M_readText_215 ?_
    refine zz_iload_n (i := 2) (pc := 216) C rfl rfl d_M_readText_216 ?_
    refine zz_iadd (pc := 217) C d_M_readText_217 ?_
    refine zz_aload_n (i := 0) (pc := 218) C rfl rfl d_M_readText_218 ?_
    refine zz_getR (pc := 219) C zl_12_76 zsh_79 rfl d_M_readText_219 ?_
    refine zz_sipush (pc := 222) C zks_305 d_M_readText_222 ?_
    refine zz_iload_n (i := 2) (pc := 225) C rfl rfl d_M_readText_225 ?_
    refine zz_iadd (pc := 226) C d_M_readText_226 ?_
    refine zz_saldv (v := (s.1 100 (((305 : Int32) + v2).toNatClampNeg))) (pc := 227) C rfl zsh_100 hi9 rfl d_M_readText_227 ?_
    refine zz_sast (pc := 228) C rfl zsh_100 hi10 d_M_readText_228 ?_
    refine zz_iinc (lo' := [some (.ref 79), some (.int v1), some (.int (v2 + (1 : Int32)))]) (pc := 229) C rfl (zz_inc zki_1) rfl rfl d_M_readText_229 ?_
    refine zz_goto (tgt := 177) (pc := 232) C (by decide) d_M_readText_232 ?_
    exact ih v1 (v2 + (1 : Int32)) (zz_w (zz_w s 99 ((((61 : Int32) * v1) + v2).toNatClampNeg) (vp_nar .short (s.1 99 (((305 : Int32) + v2).toNatClampNeg)))) 100 ((((61 : Int32) * v1) + v2).toNatClampNeg) (vp_nar .short (s.1 100 (((305 : Int32) + v2).toNatClampNeg)))) h
set_option maxHeartbeats 4000000 in
set_option maxRecDepth 100000 in
theorem zf_M_readText_L105 {G : zz_G} {l : Launch} {Z : zz_Z} {q : Int32 × zz_S} (C : zz_Cx G l "OneBlanketModel" "readText" prog_14_method_33_code 3 (some .int) 205 (some (.int q.1), zsh, q.2) Z) : ∀ (n : Nat) (v1 : Int32) (v2 : Int32) (s : zz_S), f_M_readText_L105 n v1 v2 s = some q → Z 105 [some (.ref 79), some (.int v1), some (.int v2)] [] zsh s := by
  intro n
  induction n with
  | zero => intro v1 v2 s h; rw [f_M_readText_L105] at h; cases h
  | succ n ih =>
  intro v1 v2 s h
  rw [f_M_readText_L105] at h
  refine zz_iload_n (i := 2) (pc := 105) C rfl rfl d_M_readText_105 ?_
  refine zz_aload_n (i := 0) (pc := 106) C rfl rfl d_M_readText_106 ?_
  refine zz_getI (pc := 107) C zl_12_203 zsh_79 rfl d_M_readText_107 ?_
  refine zz_icmp_ge (tgt := 163) (pc := 110) C (by decide) d_M_readText_110 (fun hc5 => ?_) (fun hc5 => ?_)
  · rw [if_pos hc5] at h
    refine zz_aload_n (i := 0) (pc := 163) C rfl rfl d_M_readText_163 ?_
    refine zz_getR (pc := 164) C zl_12_69 zsh_79 rfl d_M_readText_164 ?_
    refine zz_iload_n (i := 1) (pc := 167) C rfl rfl d_M_readText_167 ?_
    refine zz_aload_n (i := 0) (pc := 168) C rfl rfl d_M_readText_168 ?_
    refine zz_getR (pc := 169) C zl_12_69 zsh_79 rfl d_M_readText_169 ?_
    refine zz_iconst (pc := 172) C zki_5 d_M_readText_172 ?_
    refine zz_iald (pc := 173) C zkx_5 zsh_98 (by decide) d_M_readText_173 ?_
    obtain ⟨hi6, h⟩ := zz_ckE h
    refine zz_iast (pc := 174) C rfl zsh_98 hi6 d_M_readText_174 ?_
    refine zz_iconst (pc := 175) C zki_0 d_M_readText_175 ?_
    refine zz_istore_n (i := 2) (lo' := [some (.ref 79), some (.int v1), some (.int (0 : Int32))]) (pc := 176) C rfl (Nat.le_of_ble_eq_true rfl) rfl rfl d_M_readText_176 ?_
    exact zf_M_readText_L177 C zF v1 (0 : Int32) (zz_w s 98 (v1.toNatClampNeg) (s.1 98 5)) h
  · rw [if_neg hc5] at h
    refine zz_aload_n (i := 0) (pc := 113) C rfl rfl d_M_readText_113 ?_
    refine zz_getR (pc := 114) C zl_12_63 zsh_79 rfl d_M_readText_114 ?_
    refine zz_sipush (pc := 117) C zks_130 d_M_readText_117 ?_
    refine zz_iload_n (i := 1) (pc := 120) C rfl rfl d_M_readText_120 ?_
    refine zz_imul (pc := 121) C d_M_readText_121 ?_
    refine zz_iload_n (i := 2) (pc := 122) C rfl rfl d_M_readText_122 ?_
    refine zz_iadd (pc := 123) C d_M_readText_123 ?_
    refine zz_aload_n (i := 0) (pc := 124) C rfl rfl d_M_readText_124 ?_
    refine zz_getR (pc := 125) C zl_12_63 zsh_79 rfl d_M_readText_125 ?_
    refine zz_sipush (pc := 128) C zks_650 d_M_readText_128 ?_
    refine zz_iload_n (i := 2) (pc := 131) C rfl rfl d_M_readText_131 ?_
    refine zz_iadd (pc := 132) C d_M_readText_132 ?_
    obtain ⟨hi11, h⟩ := zz_ckE h
    refine zz_bald (pc := 133) C rfl zsh_96 hi11 d_M_readText_133 ?_
    obtain ⟨hi12, h⟩ := zz_ckE h
    refine zz_bast (pc := 134) C rfl zsh_96 hi12 d_M_readText_134 ?_
    refine zz_aload_n (i := 0) (pc := 135) C rfl rfl d_M_readText_135 ?_
    refine zz_getR (pc := 136) C zl_12_66 zsh_79 rfl d_M_readText_136 ?_
    refine zz_sipush (pc := 139) C zks_130 d_M_readText_139 ?_
    refine zz_iload_n (i := 1) (pc := 142) C rfl rfl d_M_readText_142 ?_
    refine zz_imul (pc := 143) C d_M_readText_143 ?_
    refine zz_iload_n (i := 2) (pc := 144) C rfl rfl d_M_readText_144 ?_
    refine zz_iadd (pc := 145) C d_M_readText_145 ?_
    refine zz_aload_n (i := 0) (pc := 146) C rfl rfl d_M_readText_146 ?_
    refine zz_getR (pc := 147) C zl_12_66 zsh_79 rfl d_M_readText_147 ?_
    refine zz_sipush (pc := 150) C zks_650 d_M_readText_150 ?_
    refine zz_iload_n (i := 2) (pc := 153) C rfl rfl d_M_readText_153 ?_
    refine zz_iadd (pc := 154) C d_M_readText_154 ?_
    refine zz_ialdv (v := (s.1 97 (((650 : Int32) + v2).toNatClampNeg))) (pc := 155) C rfl zsh_97 hi11 rfl d_M_readText_155 ?_
    refine zz_iast (pc := 156) C rfl zsh_97 hi12 d_M_readText_156 ?_
    refine zz_iinc (lo' := [some (.ref 79), some (.int v1), some (.int (v2 + (1 : Int32)))]) (pc := 157) C rfl (zz_inc zki_1) rfl rfl d_M_readText_157 ?_
    refine zz_goto (tgt := 105) (pc := 160) C (by decide) d_M_readText_160 ?_
    exact ih v1 (v2 + (1 : Int32)) (zz_w (zz_w s 96 ((((130 : Int32) * v1) + v2).toNatClampNeg) (vp_nar .byte (s.1 96 (((650 : Int32) + v2).toNatClampNeg)))) 97 ((((130 : Int32) * v1) + v2).toNatClampNeg) (s.1 97 (((650 : Int32) + v2).toNatClampNeg))) h
set_option maxHeartbeats 4000000 in
set_option maxRecDepth 100000 in
theorem zf_M_readText_J86 {G : zz_G} {l : Launch} {Z : zz_Z} {q : Int32 × zz_S} {s : zz_S} (C : zz_Cx G l "OneBlanketModel" "readText" prog_14_method_33_code 3 (some .int) 205 (some (.int q.1), zsh, q.2) Z) (v1 : Int32) (h : f_M_readText_J86 v1 s = some q) : Z 86 [some (.ref 79), some (.int v1), none] [] zsh s := by
  unfold f_M_readText_J86 at h
  refine zz_aload_n (i := 0) (pc := 86) C rfl rfl d_M_readText_86 ?_
  refine zz_iconst (pc := 87) C zki_0 d_M_readText_87 ?_
  refine zz_putI' (pc := 88) C zl_12_194 zpf_12_23 zsh_79 rfl d_M_readText_88 ?_
  refine zz_aload_n (i := 0) (pc := 91) C rfl rfl d_M_readText_91 ?_
  refine zz_getIv (v := (s.1 79 25)) (pc := 92) C zl_12_200 zsh_79 rfl rfl d_M_readText_92 ?_
  refine zz_if_lt (tgt := 103) (pc := 95) C (by decide) d_M_readText_95 (fun hc4 => ?_) (fun hc4 => ?_)
  · rw [if_pos hc4] at h
    refine zz_iconst (pc := 103) C zki_0 d_M_readText_103 ?_
    refine zz_istore_n (i := 2) (lo' := [some (.ref 79), some (.int v1), some (.int (0 : Int32))]) (pc := 104) C rfl (Nat.le_of_ble_eq_true rfl) rfl rfl d_M_readText_104 ?_
    exact zf_M_readText_L105 C zF v1 (0 : Int32) (zz_w s 79 23 (0 : Int32)) h
  · rw [if_neg hc4] at h
    refine zz_aload_n (i := 0) (pc := 98) C rfl rfl d_M_readText_98 ?_
    refine zz_getIv (v := (s.1 79 25)) (pc := 99) C zl_12_200 zsh_79 rfl rfl d_M_readText_99 ?_
    replace h := Option.some.inj h
    subst h
    exact zz_ret (pc := 102) C (v := some (.int (s.1 79 25))) d_M_readText_102 (Or.inl ⟨_, _, rfl, rfl, rfl, rfl⟩) rfl
set_option maxHeartbeats 4000000 in
set_option maxRecDepth 100000 in
theorem zf_M_readText_J64 {G : zz_G} {l : Launch} {Z : zz_Z} {q : Int32 × zz_S} {s : zz_S} (C : zz_Cx G l "OneBlanketModel" "readText" prog_14_method_33_code 3 (some .int) 205 (some (.int q.1), zsh, q.2) Z) (v1 : Int32) (h : f_M_readText_J64 v1 s = some q) : Z 64 [some (.ref 79), some (.int v1), none] [] zsh s := by
  unfold f_M_readText_J64 at h
  refine zz_aload_n (i := 0) (pc := 64) C rfl rfl d_M_readText_64 ?_
  refine zz_getI (pc := 65) C zl_12_200 zsh_79 rfl d_M_readText_65 ?_
  refine zz_if_ge (tgt := 86) (pc := 68) C (by decide) d_M_readText_68 (fun hc3 => ?_) (fun hc3 => ?_)
  · rw [if_pos hc3] at h
    exact zf_M_readText_J86 C v1 h
  · rw [if_neg hc3] at h
    refine zz_aload_n (i := 0) (pc := 71) C rfl rfl d_M_readText_71 ?_
    refine zz_getI (pc := 72) C zl_12_197 zsh_79 rfl d_M_readText_72 ?_
    refine zz_aload_n (i := 0) (pc := 75) C rfl rfl d_M_readText_75 ?_
    refine zz_getI (pc := 76) C zl_12_194 zsh_79 rfl d_M_readText_76 ?_
    refine zz_icmp_ge (tgt := 86) (pc := 79) C (by decide) d_M_readText_79 (fun hc13 => ?_) (fun hc13 => ?_)
    · rw [if_pos hc13] at h
      exact zf_M_readText_J86 C v1 h
    · rw [if_neg hc13] at h
      refine zz_aload_n (i := 0) (pc := 82) C rfl rfl d_M_readText_82 ?_
      refine zz_cVv (as := []) (st := []) (pc := 83) C (zm_M_faulty rfl) zcv_M_faulty zsh_79 zl_12_209 (by omega) (Nat.le_of_ble_eq_true rfl) d_M_readText_83 rfl rfl ?_
      exact zf_M_readText_J86 C v1 h
set_option maxHeartbeats 4000000 in
set_option maxRecDepth 100000 in
theorem zf_M_readText_L31 {G : zz_G} {l : Launch} {Z : zz_Z} {q : Int32 × zz_S} (C : zz_Cx G l "OneBlanketModel" "readText" prog_14_method_33_code 3 (some .int) 205 (some (.int q.1), zsh, q.2) Z) : ∀ (n : Nat) (v1 : Int32) (s : zz_S), f_M_readText_L31 n v1 s = some q → Z 31 [some (.ref 79), some (.int v1), none] [] zsh s := by
  intro n
  induction n with
  | zero => intro v1 s h; rw [f_M_readText_L31] at h; cases h
  | succ n ih =>
  intro v1 s h
  rw [f_M_readText_L31] at h
  refine zz_aload_n (i := 0) (pc := 31) C rfl rfl d_M_readText_31 ?_
  refine zz_getI (pc := 32) C zl_12_200 zsh_79 rfl d_M_readText_32 ?_
  refine zz_if_ge (tgt := 64) (pc := 35) C (by decide) d_M_readText_35 (fun hc2 => ?_) (fun hc2 => ?_)
  · rw [if_pos hc2] at h
    exact zf_M_readText_J64 C v1 h
  · rw [if_neg hc2] at h
    refine zz_aload_n (i := 0) (pc := 38) C rfl rfl d_M_readText_38 ?_
    obtain ⟨q14, hq14, h⟩ := zz_bdE h
    refine zz_cVi (as := []) (st := []) (pc := 39) C (zm_M_look hq14) zcv_M_look zsh_79 zl_12_212 (by omega) (Nat.le_of_ble_eq_true rfl) d_M_readText_39 rfl rfl ?_
    refine zz_bipush (pc := 42) C zkb_59 d_M_readText_42 ?_
    refine zz_icmp_ne (tgt := 64) (pc := 44) C (by decide) d_M_readText_44 (fun hc15 => ?_) (fun hc15 => ?_)
    · rw [if_neg hc15] at h
      exact zf_M_readText_J64 C v1 h
    · rw [if_pos hc15] at h
      refine zz_aload_n (i := 0) (pc := 47) C rfl rfl d_M_readText_47 ?_
      refine zz_dup (pc := 48) C rfl d_M_readText_48 ?_
      refine zz_getI (pc := 49) C zl_12_197 zsh_79 rfl d_M_readText_49 ?_
      refine zz_iconst (pc := 52) C zki_1 d_M_readText_52 ?_
      refine zz_iadd (pc := 53) C d_M_readText_53 ?_
      refine zz_putI' (pc := 54) C zl_12_197 zpf_12_24 zsh_79 rfl d_M_readText_54 ?_
      refine zz_aload_n (i := 0) (pc := 57) C rfl rfl d_M_readText_57 ?_
      obtain ⟨q16, hq16, h⟩ := zz_bdE h
      refine zz_cVv (as := []) (st := []) (pc := 58) C (zm_M_line hq16) zcv_M_line zsh_79 zl_12_249 (by omega) (Nat.le_of_ble_eq_true rfl) d_M_readText_58 rfl rfl ?_
      refine zz_goto (tgt := 31) (pc := 61) C (by decide) d_M_readText_61 ?_
      exact ih v1 q16 h
set_option maxHeartbeats 4000000 in
set_option maxRecDepth 100000 in
theorem zf_M_readText {G : zz_G} {l : Launch} {Z : zz_Z} {q : Int32 × zz_S} {s : zz_S} (C : zz_Cx G l "OneBlanketModel" "readText" prog_14_method_33_code 3 (some .int) 205 (some (.int q.1), zsh, q.2) Z) (a1 : Int32) (h : f_M_readText a1 s = some q) : Z 0 [some (.ref 79), some (.int a1), none] [] zsh s := by
  unfold f_M_readText at h
  refine zz_aload_n (i := 0) (pc := 0) C rfl rfl d_M_readText_0 ?_
  refine zz_iconst (pc := 1) C zki_0 d_M_readText_1 ?_
  refine zz_putI' (pc := 2) C zl_12_197 zpf_12_24 zsh_79 rfl d_M_readText_2 ?_
  refine zz_aload_n (i := 0) (pc := 5) C rfl rfl d_M_readText_5 ?_
  refine zz_iconst (pc := 6) C zki_m1 d_M_readText_6 ?_
  refine zz_putI' (pc := 7) C zl_12_200 zpf_12_25 zsh_79 rfl d_M_readText_7 ?_
  refine zz_aload_n (i := 0) (pc := 10) C rfl rfl d_M_readText_10 ?_
  refine zz_iconst (pc := 11) C zki_0 d_M_readText_11 ?_
  refine zz_putI' (pc := 12) C zl_12_206 zpf_12_26 zsh_79 rfl d_M_readText_12 ?_
  refine zz_aload_n (i := 0) (pc := 15) C rfl rfl d_M_readText_15 ?_
  refine zz_iconst (pc := 16) C zki_0 d_M_readText_16 ?_
  refine zz_putI' (pc := 17) C zl_12_203 zpf_12_27 zsh_79 rfl d_M_readText_17 ?_
  refine zz_aload_n (i := 0) (pc := 20) C rfl rfl d_M_readText_20 ?_
  refine zz_getR (pc := 21) C zl_12_69 zsh_79 rfl d_M_readText_21 ?_
  refine zz_iconst (pc := 24) C zki_5 d_M_readText_24 ?_
  refine zz_iconst (pc := 25) C zki_0 d_M_readText_25 ?_
  refine zz_iast (pc := 26) C zkx_5 zsh_98 (by decide) d_M_readText_26 ?_
  refine zz_aload_n (i := 0) (pc := 27) C rfl rfl d_M_readText_27 ?_
  obtain ⟨q1, hq1, h⟩ := zz_bdE h
  refine zz_cVv (as := []) (st := []) (pc := 28) C (zm_M_line hq1) zcv_M_line zsh_79 zl_12_249 (by omega) (Nat.le_of_ble_eq_true rfl) d_M_readText_28 rfl rfl ?_
  exact zf_M_readText_L31 C zF a1 q1 h
theorem zm_M_readText {G : zz_G} {l : Launch} {s : zz_S} {q : Int32 × zz_S} {a1 : Int32} (h : f_M_readText a1 s = some q) : zz_M G l 205 y_M_readText prog_14_method_33_code 3 (some .int) [.ref 79, .int a1] zsh s (some (.int q.1), zsh, q.2) :=
  zz_M.intro (by decide) (Nat.le_of_ble_eq_true rfl) (Nat.le_refl _) (Nat.le_refl _) (fun Z C => zf_M_readText C a1 h)
