theorem d_M_taken_0 : decode prog_14_method_99_code 0 = .ok (.iload_n 1, 1) := by decide +kernel
theorem d_M_taken_1 : decode prog_14_method_99_code 1 = .ok (.invokestatic 286, 3) := by decide +kernel
theorem d_M_taken_4 : decode prog_14_method_99_code 4 = .ok (.ifCond .eq (13), 3) := by decide +kernel
theorem d_M_taken_7 : decode prog_14_method_99_code 7 = .ok (.iload_n 2, 1) := by decide +kernel
theorem d_M_taken_8 : decode prog_14_method_99_code 8 = .ok (.iconst 0, 1) := by decide +kernel
theorem d_M_taken_9 : decode prog_14_method_99_code 9 = .ok (.bipush (7), 2) := by decide +kernel
theorem d_M_taken_11 : decode prog_14_method_99_code 11 = .ok (.invokestatic 158, 3) := by decide +kernel
theorem d_M_taken_14 : decode prog_14_method_99_code 14 = .ok (.ifCond .ne (5), 3) := by decide +kernel
theorem d_M_taken_17 : decode prog_14_method_99_code 17 = .ok (.iconst (-1), 1) := by decide +kernel
theorem d_M_taken_18 : decode prog_14_method_99_code 18 = .ok (.ireturn, 1) := by decide +kernel
theorem d_M_taken_19 : decode prog_14_method_99_code 19 = .ok (.aload_n 0, 1) := by decide +kernel
theorem d_M_taken_20 : decode prog_14_method_99_code 20 = .ok (.getfield 139, 3) := by decide +kernel
theorem d_M_taken_23 : decode prog_14_method_99_code 23 = .ok (.iload_n 1, 1) := by decide +kernel
theorem d_M_taken_24 : decode prog_14_method_99_code 24 = .ok (.iaload, 1) := by decide +kernel
theorem d_M_taken_25 : decode prog_14_method_99_code 25 = .ok (.iconst (-1), 1) := by decide +kernel
theorem d_M_taken_26 : decode prog_14_method_99_code 26 = .ok (.if_icmp .ne (6), 3) := by decide +kernel
theorem d_M_taken_29 : decode prog_14_method_99_code 29 = .ok (.bipush (-11), 2) := by decide +kernel
theorem d_M_taken_31 : decode prog_14_method_99_code 31 = .ok (.ireturn, 1) := by decide +kernel
theorem d_M_taken_32 : decode prog_14_method_99_code 32 = .ok (.aload_n 0, 1) := by decide +kernel
theorem d_M_taken_33 : decode prog_14_method_99_code 33 = .ok (.getfield 139, 3) := by decide +kernel
theorem d_M_taken_36 : decode prog_14_method_99_code 36 = .ok (.iload_n 1, 1) := by decide +kernel
theorem d_M_taken_37 : decode prog_14_method_99_code 37 = .ok (.iaload, 1) := by decide +kernel
theorem d_M_taken_38 : decode prog_14_method_99_code 38 = .ok (.ifCond .lt (35), 3) := by decide +kernel
theorem d_M_taken_41 : decode prog_14_method_99_code 41 = .ok (.aload_n 0, 1) := by decide +kernel
theorem d_M_taken_42 : decode prog_14_method_99_code 42 = .ok (.getfield 133, 3) := by decide +kernel
theorem d_M_taken_45 : decode prog_14_method_99_code 45 = .ok (.aload_n 0, 1) := by decide +kernel
theorem d_M_taken_46 : decode prog_14_method_99_code 46 = .ok (.getfield 139, 3) := by decide +kernel
theorem d_M_taken_49 : decode prog_14_method_99_code 49 = .ok (.iload_n 1, 1) := by decide +kernel
theorem d_M_taken_50 : decode prog_14_method_99_code 50 = .ok (.iaload, 1) := by decide +kernel
theorem d_M_taken_51 : decode prog_14_method_99_code 51 = .ok (.iaload, 1) := by decide +kernel
theorem d_M_taken_52 : decode prog_14_method_99_code 52 = .ok (.iload_n 2, 1) := by decide +kernel
theorem d_M_taken_53 : decode prog_14_method_99_code 53 = .ok (.invokestatic 363, 3) := by decide +kernel
theorem d_M_taken_56 : decode prog_14_method_99_code 56 = .ok (.ifCond .eq (17), 3) := by decide +kernel
theorem d_M_taken_59 : decode prog_14_method_99_code 59 = .ok (.aload_n 0, 1) := by decide +kernel
theorem d_M_taken_60 : decode prog_14_method_99_code 60 = .ok (.getfield 133, 3) := by decide +kernel
theorem d_M_taken_63 : decode prog_14_method_99_code 63 = .ok (.aload_n 0, 1) := by decide +kernel
theorem d_M_taken_64 : decode prog_14_method_99_code 64 = .ok (.getfield 139, 3) := by decide +kernel
theorem d_M_taken_67 : decode prog_14_method_99_code 67 = .ok (.iload_n 1, 1) := by decide +kernel
theorem d_M_taken_68 : decode prog_14_method_99_code 68 = .ok (.iaload, 1) := by decide +kernel
theorem d_M_taken_69 : decode prog_14_method_99_code 69 = .ok (.iaload, 1) := by decide +kernel
theorem d_M_taken_70 : decode prog_14_method_99_code 70 = .ok (.goto (5), 3) := by decide +kernel
theorem d_M_taken_73 : decode prog_14_method_99_code 73 = .ok (.bipush (-12), 2) := by decide +kernel
theorem d_M_taken_75 : decode prog_14_method_99_code 75 = .ok (.ireturn, 1) := by decide +kernel
set_option maxHeartbeats 4000000 in
set_option maxRecDepth 100000 in
theorem zf_M_taken {G : zz_G} {l : Launch} {Z : zz_Z} {q : Int32} {s : zz_S} (C : zz_Cx G l "OneBlanketModel" "taken" prog_14_method_99_code 3 (some .int) 4 (some (.int q), zsh, s) Z) (a1 : Int32) (a2 : Int32) (h : f_M_taken a1 a2 s = some q) : Z 0 [some (.ref 79), some (.int a1), some (.int a2)] [] zsh s := by
  unfold f_M_taken at h
  refine zz_iload_n (i := 1) (pc := 0) C rfl rfl d_M_taken_0 ?_
  refine zz_cSi (as := [.int a1]) (st := []) (pc := 1) C (zm_M_isShelf rfl) zcs_M_isShelf zl_12_286 (by omega) (Nat.le_of_ble_eq_true rfl) d_M_taken_1 rfl rfl ?_
  refine zz_if_eq (tgt := 17) (pc := 4) C (by decide) d_M_taken_4 (fun hc1 => ?_) (fun hc1 => ?_)
  · rw [if_pos hc1] at h
    refine zz_iconst (pc := 17) C zki_m1 d_M_taken_17 ?_
    replace h := Option.some.inj h
    subst h
    exact zz_ret (pc := 18) C (v := some (.int (-1 : Int32))) d_M_taken_18 (Or.inl ⟨_, _, rfl, rfl, rfl, rfl⟩) rfl
  · rw [if_neg hc1] at h
    refine zz_iload_n (i := 2) (pc := 7) C rfl rfl d_M_taken_7 ?_
    refine zz_iconst (pc := 8) C zki_0 d_M_taken_8 ?_
    refine zz_bipush (pc := 9) C zkb_7 d_M_taken_9 ?_
    refine zz_cSi (as := [.int a2, .int (0 : Int32), .int (7 : Int32)]) (st := []) (pc := 11) C (zm_M_in rfl) zcs_M_in zl_12_158 (by omega) (Nat.le_of_ble_eq_true rfl) d_M_taken_11 rfl rfl ?_
    refine zz_if_ne (tgt := 19) (pc := 14) C (by decide) d_M_taken_14 (fun hc2 => ?_) (fun hc2 => ?_)
    · rw [if_neg hc2] at h
      refine zz_aload_n (i := 0) (pc := 19) C rfl rfl d_M_taken_19 ?_
      refine zz_getR (pc := 20) C zl_12_139 zsh_79 rfl d_M_taken_20 ?_
      refine zz_iload_n (i := 1) (pc := 23) C rfl rfl d_M_taken_23 ?_
      obtain ⟨hi3, h⟩ := zz_ckE h
      refine zz_iald (pc := 24) C rfl zsh_119 hi3 d_M_taken_24 ?_
      refine zz_iconst (pc := 25) C zki_m1 d_M_taken_25 ?_
      refine zz_icmp_ne (tgt := 32) (pc := 26) C (by decide) d_M_taken_26 (fun hc4 => ?_) (fun hc4 => ?_)
      · rw [if_neg hc4] at h
        refine zz_aload_n (i := 0) (pc := 32) C rfl rfl d_M_taken_32 ?_
        refine zz_getR (pc := 33) C zl_12_139 zsh_79 rfl d_M_taken_33 ?_
        refine zz_iload_n (i := 1) (pc := 36) C rfl rfl d_M_taken_36 ?_
        refine zz_iald (pc := 37) C rfl zsh_119 hi3 d_M_taken_37 ?_
        refine zz_if_lt (tgt := 73) (pc := 38) C (by decide) d_M_taken_38 (fun hc5 => ?_) (fun hc5 => ?_)
        · rw [if_pos hc5] at h
          refine zz_bipush (pc := 73) C zkb_m12 d_M_taken_73 ?_
          replace h := Option.some.inj h
          subst h
          exact zz_ret (pc := 75) C (v := some (.int (-12 : Int32))) d_M_taken_75 (Or.inl ⟨_, _, rfl, rfl, rfl, rfl⟩) rfl
        · rw [if_neg hc5] at h
          refine zz_aload_n (i := 0) (pc := 41) C rfl rfl d_M_taken_41 ?_
          refine zz_getR (pc := 42) C zl_12_133 zsh_79 rfl d_M_taken_42 ?_
          refine zz_aload_n (i := 0) (pc := 45) C rfl rfl d_M_taken_45 ?_
          refine zz_getR (pc := 46) C zl_12_139 zsh_79 rfl d_M_taken_46 ?_
          refine zz_iload_n (i := 1) (pc := 49) C rfl rfl d_M_taken_49 ?_
          refine zz_iald (pc := 50) C rfl zsh_119 hi3 d_M_taken_50 ?_
          obtain ⟨hi6, h⟩ := zz_ckE h
          refine zz_iald (pc := 51) C rfl zsh_117 hi6 d_M_taken_51 ?_
          refine zz_iload_n (i := 2) (pc := 52) C rfl rfl d_M_taken_52 ?_
          refine zz_cSi (as := [.int (s.1 117 ((s.1 119 (a1.toNatClampNeg)).toNatClampNeg)), .int a2]) (st := []) (pc := 53) C (zm_M_isUnder rfl) zcs_M_isUnder zl_12_363 (by omega) (Nat.le_of_ble_eq_true rfl) d_M_taken_53 rfl rfl ?_
          refine zz_if_eq (tgt := 73) (pc := 56) C (by decide) d_M_taken_56 (fun hc7 => ?_) (fun hc7 => ?_)
          · rw [if_pos hc7] at h
            refine zz_bipush (pc := 73) C zkb_m12 d_M_taken_73 ?_
            replace h := Option.some.inj h
            subst h
            exact zz_ret (pc := 75) C (v := some (.int (-12 : Int32))) d_M_taken_75 (Or.inl ⟨_, _, rfl, rfl, rfl, rfl⟩) rfl
          · rw [if_neg hc7] at h
            refine zz_aload_n (i := 0) (pc := 59) C rfl rfl d_M_taken_59 ?_
            refine zz_getR (pc := 60) C zl_12_133 zsh_79 rfl d_M_taken_60 ?_
            refine zz_aload_n (i := 0) (pc := 63) C rfl rfl d_M_taken_63 ?_
            refine zz_getR (pc := 64) C zl_12_139 zsh_79 rfl d_M_taken_64 ?_
            refine zz_iload_n (i := 1) (pc := 67) C rfl rfl d_M_taken_67 ?_
            refine zz_iald (pc := 68) C rfl zsh_119 hi3 d_M_taken_68 ?_
            refine zz_iald (pc := 69) C rfl zsh_117 hi6 d_M_taken_69 ?_
            refine zz_goto (tgt := 75) (pc := 70) C (by decide) d_M_taken_70 ?_
            replace h := Option.some.inj h
            subst h
            exact zz_ret (pc := 75) C (v := some (.int (s.1 117 ((s.1 119 (a1.toNatClampNeg)).toNatClampNeg)))) d_M_taken_75 (Or.inl ⟨_, _, rfl, rfl, rfl, rfl⟩) rfl
      · rw [if_pos hc4] at h
        refine zz_bipush (pc := 29) C zkb_m11 d_M_taken_29 ?_
        replace h := Option.some.inj h
        subst h
        exact zz_ret (pc := 31) C (v := some (.int (-11 : Int32))) d_M_taken_31 (Or.inl ⟨_, _, rfl, rfl, rfl, rfl⟩) rfl
    · rw [if_pos hc2] at h
      refine zz_iconst (pc := 17) C zki_m1 d_M_taken_17 ?_
      replace h := Option.some.inj h
      subst h
      exact zz_ret (pc := 18) C (v := some (.int (-1 : Int32))) d_M_taken_18 (Or.inl ⟨_, _, rfl, rfl, rfl, rfl⟩) rfl
theorem zm_M_taken {G : zz_G} {l : Launch} {s : zz_S} {q : Int32} {a1 : Int32} {a2 : Int32} (h : f_M_taken a1 a2 s = some q) : zz_M G l 4 y_M_taken prog_14_method_99_code 3 (some .int) [.ref 79, .int a1, .int a2] zsh s (some (.int q), zsh, s) :=
  zz_M.intro (by decide) (Nat.le_of_ble_eq_true rfl) (Nat.le_refl _) (Nat.le_refl _) (fun Z C => zf_M_taken C a1 a2 h)
theorem d_M_took_0 : decode prog_14_method_59_code 0 = .ok (.iload_n 1, 1) := by decide +kernel
theorem d_M_took_1 : decode prog_14_method_59_code 1 = .ok (.ifCond .lt (25), 3) := by decide +kernel
theorem d_M_took_4 : decode prog_14_method_59_code 4 = .ok (.aload_n 0, 1) := by decide +kernel
theorem d_M_took_5 : decode prog_14_method_59_code 5 = .ok (.iload_n 1, 1) := by decide +kernel
theorem d_M_took_6 : decode prog_14_method_59_code 6 = .ok (.bipush (10), 2) := by decide +kernel
theorem d_M_took_8 : decode prog_14_method_59_code 8 = .ok (.idiv, 1) := by decide +kernel
theorem d_M_took_9 : decode prog_14_method_59_code 9 = .ok (.invokevirtual 179, 3) := by decide +kernel
theorem d_M_took_12 : decode prog_14_method_59_code 12 = .ok (.ifCond .eq (14), 3) := by decide +kernel
theorem d_M_took_15 : decode prog_14_method_59_code 15 = .ok (.aload_n 0, 1) := by decide +kernel
theorem d_M_took_16 : decode prog_14_method_59_code 16 = .ok (.iload_n 1, 1) := by decide +kernel
theorem d_M_took_17 : decode prog_14_method_59_code 17 = .ok (.bipush (10), 2) := by decide +kernel
theorem d_M_took_19 : decode prog_14_method_59_code 19 = .ok (.irem, 1) := by decide +kernel
theorem d_M_took_20 : decode prog_14_method_59_code 20 = .ok (.invokevirtual 187, 3) := by decide +kernel
theorem d_M_took_23 : decode prog_14_method_59_code 23 = .ok (.ifCond .ne (6), 3) := by decide +kernel
theorem d_M_took_26 : decode prog_14_method_59_code 26 = .ok (.ldc 190, 2) := by decide +kernel
theorem d_M_took_28 : decode prog_14_method_59_code 28 = .ok (.ireturn, 1) := by decide +kernel
theorem d_M_took_29 : decode prog_14_method_59_code 29 = .ok (.aload_n 0, 1) := by decide +kernel
theorem d_M_took_30 : decode prog_14_method_59_code 30 = .ok (.sipush (479), 3) := by decide +kernel
theorem d_M_took_33 : decode prog_14_method_59_code 33 = .ok (.invokevirtual 323, 3) := by decide +kernel
theorem d_M_took_36 : decode prog_14_method_59_code 36 = .ok (.aload_n 0, 1) := by decide +kernel
theorem d_M_took_37 : decode prog_14_method_59_code 37 = .ok (.getfield 118, 3) := by decide +kernel
theorem d_M_took_40 : decode prog_14_method_59_code 40 = .ok (.iconst 3, 1) := by decide +kernel
theorem d_M_took_41 : decode prog_14_method_59_code 41 = .ok (.iload_n 1, 1) := by decide +kernel
theorem d_M_took_42 : decode prog_14_method_59_code 42 = .ok (.bipush (10), 2) := by decide +kernel
theorem d_M_took_44 : decode prog_14_method_59_code 44 = .ok (.idiv, 1) := by decide +kernel
theorem d_M_took_45 : decode prog_14_method_59_code 45 = .ok (.imul, 1) := by decide +kernel
theorem d_M_took_46 : decode prog_14_method_59_code 46 = .ok (.iload_n 1, 1) := by decide +kernel
theorem d_M_took_47 : decode prog_14_method_59_code 47 = .ok (.bipush (10), 2) := by decide +kernel
theorem d_M_took_49 : decode prog_14_method_59_code 49 = .ok (.irem, 1) := by decide +kernel
theorem d_M_took_50 : decode prog_14_method_59_code 50 = .ok (.iadd, 1) := by decide +kernel
theorem d_M_took_51 : decode prog_14_method_59_code 51 = .ok (.iaload, 1) := by decide +kernel
theorem d_M_took_52 : decode prog_14_method_59_code 52 = .ok (.ireturn, 1) := by decide +kernel
set_option maxHeartbeats 4000000 in
set_option maxRecDepth 100000 in
theorem zf_M_took {G : zz_G} {l : Launch} {Z : zz_Z} {q : Int32 × zz_S} {s : zz_S} (C : zz_Cx G l "OneBlanketModel" "took" prog_14_method_59_code 2 (some .int) 9 (some (.int q.1), zsh, q.2) Z) (a1 : Int32) (h : f_M_took a1 s = some q) : Z 0 [some (.ref 79), some (.int a1)] [] zsh s := by
  unfold f_M_took at h
  refine zz_iload_n (i := 1) (pc := 0) C rfl rfl d_M_took_0 ?_
  refine zz_if_lt (tgt := 26) (pc := 1) C (by decide) d_M_took_1 (fun hc1 => ?_) (fun hc1 => ?_)
  · rw [if_pos hc1] at h
    refine zz_ldc (pc := 26) C zl_12_190 d_M_took_26 ?_
    replace h := Option.some.inj h
    subst h
    exact zz_ret (pc := 28) C (v := some (.int (-2000000000 : Int32))) d_M_took_28 (Or.inl ⟨_, _, rfl, rfl, rfl, rfl⟩) rfl
  · rw [if_neg hc1] at h
    refine zz_aload_n (i := 0) (pc := 4) C rfl rfl d_M_took_4 ?_
    refine zz_iload_n (i := 1) (pc := 5) C rfl rfl d_M_took_5 ?_
    refine zz_bipush (pc := 6) C zkb_10 d_M_took_6 ?_
    refine zz_idiv (pc := 8) C (by decide) d_M_took_8 ?_
    refine zz_cVi (as := [.int (a1 / (10 : Int32))]) (st := []) (pc := 9) C (zm_M_isSleeper rfl) zcv_M_isSleeper zsh_79 zl_12_179 (by omega) (Nat.le_of_ble_eq_true rfl) d_M_took_9 rfl rfl ?_
    refine zz_if_eq (tgt := 26) (pc := 12) C (by decide) d_M_took_12 (fun hc2 => ?_) (fun hc2 => ?_)
    · rw [if_pos hc2] at h
      refine zz_ldc (pc := 26) C zl_12_190 d_M_took_26 ?_
      replace h := Option.some.inj h
      subst h
      exact zz_ret (pc := 28) C (v := some (.int (-2000000000 : Int32))) d_M_took_28 (Or.inl ⟨_, _, rfl, rfl, rfl, rfl⟩) rfl
    · rw [if_neg hc2] at h
      refine zz_aload_n (i := 0) (pc := 15) C rfl rfl d_M_took_15 ?_
      refine zz_iload_n (i := 1) (pc := 16) C rfl rfl d_M_took_16 ?_
      refine zz_bipush (pc := 17) C zkb_10 d_M_took_17 ?_
      refine zz_irem (pc := 19) C (by decide) d_M_took_19 ?_
      refine zz_cVi (as := [.int (a1 % (10 : Int32))]) (st := []) (pc := 20) C (zm_M_isCover rfl) zcv_M_isCover zsh_79 zl_12_187 (by omega) (Nat.le_of_ble_eq_true rfl) d_M_took_20 rfl rfl ?_
      refine zz_if_ne (tgt := 29) (pc := 23) C (by decide) d_M_took_23 (fun hc3 => ?_) (fun hc3 => ?_)
      · rw [if_neg hc3] at h
        refine zz_aload_n (i := 0) (pc := 29) C rfl rfl d_M_took_29 ?_
        refine zz_sipush (pc := 30) C zks_479 d_M_took_30 ?_
        obtain ⟨q4, hq4, h⟩ := zz_bdE h
        refine zz_cVv (as := [.int (479 : Int32)]) (st := []) (pc := 33) C (zm_M_night hq4) zcv_M_night zsh_79 zl_12_323 (by omega) (Nat.le_of_ble_eq_true rfl) d_M_took_33 rfl rfl ?_
        refine zz_aload_n (i := 0) (pc := 36) C rfl rfl d_M_took_36 ?_
        refine zz_getR (pc := 37) C zl_12_118 zsh_79 rfl d_M_took_37 ?_
        refine zz_iconst (pc := 40) C zki_3 d_M_took_40 ?_
        refine zz_iload_n (i := 1) (pc := 41) C rfl rfl d_M_took_41 ?_
        refine zz_bipush (pc := 42) C zkb_10 d_M_took_42 ?_
        refine zz_idiv (pc := 44) C (by decide) d_M_took_44 ?_
        refine zz_imul (pc := 45) C d_M_took_45 ?_
        refine zz_iload_n (i := 1) (pc := 46) C rfl rfl d_M_took_46 ?_
        refine zz_bipush (pc := 47) C zkb_10 d_M_took_47 ?_
        refine zz_irem (pc := 49) C (by decide) d_M_took_49 ?_
        refine zz_iadd (pc := 50) C d_M_took_50 ?_
        obtain ⟨hi5, h⟩ := zz_ckE h
        refine zz_iald (pc := 51) C rfl zsh_113 hi5 d_M_took_51 ?_
        replace h := Option.some.inj h
        subst h
        exact zz_ret (pc := 52) C (v := some (.int (q4.1 113 ((((3 : Int32) * (a1 / (10 : Int32))) + (a1 % (10 : Int32))).toNatClampNeg)))) d_M_took_52 (Or.inl ⟨_, _, rfl, rfl, rfl, rfl⟩) rfl
      · rw [if_pos hc3] at h
        refine zz_ldc (pc := 26) C zl_12_190 d_M_took_26 ?_
        replace h := Option.some.inj h
        subst h
        exact zz_ret (pc := 28) C (v := some (.int (-2000000000 : Int32))) d_M_took_28 (Or.inl ⟨_, _, rfl, rfl, rfl, rfl⟩) rfl
theorem zm_M_took {G : zz_G} {l : Launch} {s : zz_S} {q : Int32 × zz_S} {a1 : Int32} (h : f_M_took a1 s = some q) : zz_M G l 9 y_M_took prog_14_method_59_code 2 (some .int) [.ref 79, .int a1] zsh s (some (.int q.1), zsh, q.2) :=
  zz_M.intro (by decide) (Nat.le_of_ble_eq_true rfl) (Nat.le_refl _) (Nat.le_refl _) (fun Z C => zf_M_took C a1 h)
theorem d_M_tosses_0 : decode prog_14_method_44_code 0 = .ok (.iload_n 1, 1) := by decide +kernel
theorem d_M_tosses_1 : decode prog_14_method_44_code 1 = .ok (.invokestatic 286, 3) := by decide +kernel
theorem d_M_tosses_4 : decode prog_14_method_44_code 4 = .ok (.ifCond .eq (13), 3) := by decide +kernel
theorem d_M_tosses_7 : decode prog_14_method_44_code 7 = .ok (.iload_n 3, 1) := by decide +kernel
theorem d_M_tosses_8 : decode prog_14_method_44_code 8 = .ok (.iconst 1, 1) := by decide +kernel
theorem d_M_tosses_9 : decode prog_14_method_44_code 9 = .ok (.bipush (20), 2) := by decide +kernel
theorem d_M_tosses_11 : decode prog_14_method_44_code 11 = .ok (.invokestatic 158, 3) := by decide +kernel
theorem d_M_tosses_14 : decode prog_14_method_44_code 14 = .ok (.ifCond .ne (5), 3) := by decide +kernel
theorem d_M_tosses_17 : decode prog_14_method_44_code 17 = .ok (.iconst (-1), 1) := by decide +kernel
theorem d_M_tosses_18 : decode prog_14_method_44_code 18 = .ok (.ireturn, 1) := by decide +kernel
theorem d_M_tosses_19 : decode prog_14_method_44_code 19 = .ok (.aload_n 0, 1) := by decide +kernel
theorem d_M_tosses_20 : decode prog_14_method_44_code 20 = .ok (.getfield 139, 3) := by decide +kernel
theorem d_M_tosses_23 : decode prog_14_method_44_code 23 = .ok (.iload_n 1, 1) := by decide +kernel
theorem d_M_tosses_24 : decode prog_14_method_44_code 24 = .ok (.iaload, 1) := by decide +kernel
theorem d_M_tosses_25 : decode prog_14_method_44_code 25 = .ok (.iconst (-1), 1) := by decide +kernel
theorem d_M_tosses_26 : decode prog_14_method_44_code 26 = .ok (.if_icmp .eq (17), 3) := by decide +kernel
theorem d_M_tosses_29 : decode prog_14_method_44_code 29 = .ok (.aload_n 0, 1) := by decide +kernel
theorem d_M_tosses_30 : decode prog_14_method_44_code 30 = .ok (.getfield 139, 3) := by decide +kernel
theorem d_M_tosses_33 : decode prog_14_method_44_code 33 = .ok (.iload_n 1, 1) := by decide +kernel
theorem d_M_tosses_34 : decode prog_14_method_44_code 34 = .ok (.iaload, 1) := by decide +kernel
theorem d_M_tosses_35 : decode prog_14_method_44_code 35 = .ok (.bipush (-3), 2) := by decide +kernel
theorem d_M_tosses_37 : decode prog_14_method_44_code 37 = .ok (.if_icmp .eq (6), 3) := by decide +kernel
theorem d_M_tosses_40 : decode prog_14_method_44_code 40 = .ok (.bipush (-12), 2) := by decide +kernel
theorem d_M_tosses_42 : decode prog_14_method_44_code 42 = .ok (.ireturn, 1) := by decide +kernel
theorem d_M_tosses_43 : decode prog_14_method_44_code 43 = .ok (.aload_n 0, 1) := by decide +kernel
theorem d_M_tosses_44 : decode prog_14_method_44_code 44 = .ok (.getfield 139, 3) := by decide +kernel
theorem d_M_tosses_47 : decode prog_14_method_44_code 47 = .ok (.iload_n 1, 1) := by decide +kernel
theorem d_M_tosses_48 : decode prog_14_method_44_code 48 = .ok (.iaload, 1) := by decide +kernel
theorem d_M_tosses_49 : decode prog_14_method_44_code 49 = .ok (.iconst (-1), 1) := by decide +kernel
theorem d_M_tosses_50 : decode prog_14_method_44_code 50 = .ok (.if_icmp .ne (5), 3) := by decide +kernel
theorem d_M_tosses_53 : decode prog_14_method_44_code 53 = .ok (.iconst 0, 1) := by decide +kernel
theorem d_M_tosses_54 : decode prog_14_method_44_code 54 = .ok (.ireturn, 1) := by decide +kernel
theorem d_M_tosses_55 : decode prog_14_method_44_code 55 = .ok (.iconst 0, 1) := by decide +kernel
theorem d_M_tosses_56 : decode prog_14_method_44_code 56 = .ok (.istore 4, 2) := by decide +kernel
theorem d_M_tosses_58 : decode prog_14_method_44_code 58 = .ok (.iload 4, 2) := by decide +kernel
theorem d_M_tosses_60 : decode prog_14_method_44_code 60 = .ok (.iload_n 3, 1) := by decide +kernel
theorem d_M_tosses_61 : decode prog_14_method_44_code 61 = .ok (.if_icmp .ge (135), 3) := by decide +kernel
theorem d_M_tosses_64 : decode prog_14_method_44_code 64 = .ok (.iload_n 2, 1) := by decide +kernel
theorem d_M_tosses_65 : decode prog_14_method_44_code 65 = .ok (.i2l, 1) := by decide +kernel
theorem d_M_tosses_66 : decode prog_14_method_44_code 66 = .ok (.iconst 3, 1) := by decide +kernel
theorem d_M_tosses_67 : decode prog_14_method_44_code 67 = .ok (.iload 4, 2) := by decide +kernel
theorem d_M_tosses_69 : decode prog_14_method_44_code 69 = .ok (.imul, 1) := by decide +kernel
theorem d_M_tosses_70 : decode prog_14_method_44_code 70 = .ok (.i2l, 1) := by decide +kernel
theorem d_M_tosses_71 : decode prog_14_method_44_code 71 = .ok (.ladd, 1) := by decide +kernel
theorem d_M_tosses_72 : decode prog_14_method_44_code 72 = .ok (.lstore 5, 2) := by decide +kernel
theorem d_M_tosses_74 : decode prog_14_method_44_code 74 = .ok (.lload 5, 2) := by decide +kernel
theorem d_M_tosses_76 : decode prog_14_method_44_code 76 = .ok (.lconst 0, 1) := by decide +kernel
theorem d_M_tosses_77 : decode prog_14_method_44_code 77 = .ok (.lcmp, 1) := by decide +kernel
theorem d_M_tosses_78 : decode prog_14_method_44_code 78 = .ok (.ifCond .lt (29), 3) := by decide +kernel
theorem d_M_tosses_81 : decode prog_14_method_44_code 81 = .ok (.lload 5, 2) := by decide +kernel
theorem d_M_tosses_83 : decode prog_14_method_44_code 83 = .ok (.ldc2_w 289, 3) := by decide +kernel
theorem d_M_tosses_86 : decode prog_14_method_44_code 86 = .ok (.ladd, 1) := by decide +kernel
theorem d_M_tosses_87 : decode prog_14_method_44_code 87 = .ok (.aload_n 0, 1) := by decide +kernel
theorem d_M_tosses_88 : decode prog_14_method_44_code 88 = .ok (.getfield 142, 3) := by decide +kernel
theorem d_M_tosses_91 : decode prog_14_method_44_code 91 = .ok (.iload_n 1, 1) := by decide +kernel
theorem d_M_tosses_92 : decode prog_14_method_44_code 92 = .ok (.iaload, 1) := by decide +kernel
theorem d_M_tosses_93 : decode prog_14_method_44_code 93 = .ok (.i2l, 1) := by decide +kernel
theorem d_M_tosses_94 : decode prog_14_method_44_code 94 = .ok (.lcmp, 1) := by decide +kernel
theorem d_M_tosses_95 : decode prog_14_method_44_code 95 = .ok (.ifCond .ge (12), 3) := by decide +kernel
theorem d_M_tosses_98 : decode prog_14_method_44_code 98 = .ok (.aload_n 0, 1) := by decide +kernel
theorem d_M_tosses_99 : decode prog_14_method_44_code 99 = .ok (.getfield 191, 3) := by decide +kernel
theorem d_M_tosses_102 : decode prog_14_method_44_code 102 = .ok (.bipush (60), 2) := by decide +kernel
theorem d_M_tosses_104 : decode prog_14_method_44_code 104 = .ok (.if_icmp .ne (6), 3) := by decide +kernel
theorem d_M_tosses_107 : decode prog_14_method_44_code 107 = .ok (.iload 4, 2) := by decide +kernel
theorem d_M_tosses_109 : decode prog_14_method_44_code 109 = .ok (.ireturn, 1) := by decide +kernel
theorem d_M_tosses_110 : decode prog_14_method_44_code 110 = .ok (.bipush (60), 2) := by decide +kernel
theorem d_M_tosses_112 : decode prog_14_method_44_code 112 = .ok (.iload_n 1, 1) := by decide +kernel
theorem d_M_tosses_113 : decode prog_14_method_44_code 113 = .ok (.imul, 1) := by decide +kernel
theorem d_M_tosses_114 : decode prog_14_method_44_code 114 = .ok (.lload 5, 2) := by decide +kernel
theorem d_M_tosses_116 : decode prog_14_method_44_code 116 = .ok (.l2i, 1) := by decide +kernel
theorem d_M_tosses_117 : decode prog_14_method_44_code 117 = .ok (.iadd, 1) := by decide +kernel
theorem d_M_tosses_118 : decode prog_14_method_44_code 118 = .ok (.istore 7, 2) := by decide +kernel
theorem d_M_tosses_120 : decode prog_14_method_44_code 120 = .ok (.aload_n 0, 1) := by decide +kernel
theorem d_M_tosses_121 : decode prog_14_method_44_code 121 = .ok (.getfield 145, 3) := by decide +kernel
theorem d_M_tosses_124 : decode prog_14_method_44_code 124 = .ok (.iload 7, 2) := by decide +kernel
theorem d_M_tosses_126 : decode prog_14_method_44_code 126 = .ok (.laload, 1) := by decide +kernel
theorem d_M_tosses_127 : decode prog_14_method_44_code 127 = .ok (.l2i, 1) := by decide +kernel
theorem d_M_tosses_128 : decode prog_14_method_44_code 128 = .ok (.aload_n 0, 1) := by decide +kernel
theorem d_M_tosses_129 : decode prog_14_method_44_code 129 = .ok (.getfield 145, 3) := by decide +kernel
theorem d_M_tosses_132 : decode prog_14_method_44_code 132 = .ok (.iload 7, 2) := by decide +kernel
theorem d_M_tosses_134 : decode prog_14_method_44_code 134 = .ok (.iconst 1, 1) := by decide +kernel
theorem d_M_tosses_135 : decode prog_14_method_44_code 135 = .ok (.iadd, 1) := by decide +kernel
theorem d_M_tosses_136 : decode prog_14_method_44_code 136 = .ok (.laload, 1) := by decide +kernel
theorem d_M_tosses_137 : decode prog_14_method_44_code 137 = .ok (.l2i, 1) := by decide +kernel
theorem d_M_tosses_138 : decode prog_14_method_44_code 138 = .ok (.aload_n 0, 1) := by decide +kernel
theorem d_M_tosses_139 : decode prog_14_method_44_code 139 = .ok (.getfield 145, 3) := by decide +kernel
theorem d_M_tosses_142 : decode prog_14_method_44_code 142 = .ok (.iload 7, 2) := by decide +kernel
theorem d_M_tosses_144 : decode prog_14_method_44_code 144 = .ok (.iconst 2, 1) := by decide +kernel
theorem d_M_tosses_145 : decode prog_14_method_44_code 145 = .ok (.iadd, 1) := by decide +kernel
theorem d_M_tosses_146 : decode prog_14_method_44_code 146 = .ok (.laload, 1) := by decide +kernel
theorem d_M_tosses_147 : decode prog_14_method_44_code 147 = .ok (.l2i, 1) := by decide +kernel
theorem d_M_tosses_148 : decode prog_14_method_44_code 148 = .ok (.invokestatic 280, 3) := by decide +kernel
theorem d_M_tosses_151 : decode prog_14_method_44_code 151 = .ok (.ifCond .ne (6), 3) := by decide +kernel
theorem d_M_tosses_154 : decode prog_14_method_44_code 154 = .ok (.iload 4, 2) := by decide +kernel
theorem d_M_tosses_156 : decode prog_14_method_44_code 156 = .ok (.ireturn, 1) := by decide +kernel
theorem d_M_tosses_157 : decode prog_14_method_44_code 157 = .ok (.aload_n 0, 1) := by decide +kernel
theorem d_M_tosses_158 : decode prog_14_method_44_code 158 = .ok (.aload_n 0, 1) := by decide +kernel
theorem d_M_tosses_159 : decode prog_14_method_44_code 159 = .ok (.getfield 145, 3) := by decide +kernel
theorem d_M_tosses_162 : decode prog_14_method_44_code 162 = .ok (.iload 7, 2) := by decide +kernel
theorem d_M_tosses_164 : decode prog_14_method_44_code 164 = .ok (.laload, 1) := by decide +kernel
theorem d_M_tosses_165 : decode prog_14_method_44_code 165 = .ok (.l2i, 1) := by decide +kernel
theorem d_M_tosses_166 : decode prog_14_method_44_code 166 = .ok (.aload_n 0, 1) := by decide +kernel
theorem d_M_tosses_167 : decode prog_14_method_44_code 167 = .ok (.getfield 145, 3) := by decide +kernel
theorem d_M_tosses_170 : decode prog_14_method_44_code 170 = .ok (.iload 7, 2) := by decide +kernel
theorem d_M_tosses_172 : decode prog_14_method_44_code 172 = .ok (.iconst 1, 1) := by decide +kernel
theorem d_M_tosses_173 : decode prog_14_method_44_code 173 = .ok (.iadd, 1) := by decide +kernel
theorem d_M_tosses_174 : decode prog_14_method_44_code 174 = .ok (.laload, 1) := by decide +kernel
theorem d_M_tosses_175 : decode prog_14_method_44_code 175 = .ok (.l2i, 1) := by decide +kernel
theorem d_M_tosses_176 : decode prog_14_method_44_code 176 = .ok (.aload_n 0, 1) := by decide +kernel
theorem d_M_tosses_177 : decode prog_14_method_44_code 177 = .ok (.getfield 145, 3) := by decide +kernel
theorem d_M_tosses_180 : decode prog_14_method_44_code 180 = .ok (.iload 7, 2) := by decide +kernel
theorem d_M_tosses_182 : decode prog_14_method_44_code 182 = .ok (.iconst 2, 1) := by decide +kernel
theorem d_M_tosses_183 : decode prog_14_method_44_code 183 = .ok (.iadd, 1) := by decide +kernel
theorem d_M_tosses_184 : decode prog_14_method_44_code 184 = .ok (.laload, 1) := by decide +kernel
theorem d_M_tosses_185 : decode prog_14_method_44_code 185 = .ok (.l2i, 1) := by decide +kernel
theorem d_M_tosses_186 : decode prog_14_method_44_code 186 = .ok (.invokevirtual 283, 3) := by decide +kernel
theorem d_M_tosses_189 : decode prog_14_method_44_code 189 = .ok (.pop, 1) := by decide +kernel
theorem d_M_tosses_190 : decode prog_14_method_44_code 190 = .ok (.iinc 4 (1), 3) := by decide +kernel
theorem d_M_tosses_193 : decode prog_14_method_44_code 193 = .ok (.goto (-135), 3) := by decide +kernel
theorem d_M_tosses_196 : decode prog_14_method_44_code 196 = .ok (.iload_n 3, 1) := by decide +kernel
theorem d_M_tosses_197 : decode prog_14_method_44_code 197 = .ok (.ireturn, 1) := by decide +kernel
set_option maxHeartbeats 4000000 in
set_option maxRecDepth 100000 in
theorem zf_M_tosses_L58 {G : zz_G} {l : Launch} {Z : zz_Z} {q : Int32 × zz_S} (C : zz_Cx G l "OneBlanketModel" "tosses" prog_14_method_44_code 8 (some .int) 5 (some (.int q.1), zsh, q.2) Z) : ∀ (n : Nat) (v1 : Int32) (v2 : Int32) (v3 : Int32) (v4 : Int32) (s : zz_S), f_M_tosses_L58 n v1 v2 v3 v4 s = some q → Z 58 [some (.ref 79), some (.int v1), some (.int v2), some (.int v3), some (.int v4), none, none, none] [] zsh s := by
  intro n
  induction n with
  | zero => intro v1 v2 v3 v4 s h; rw [f_M_tosses_L58] at h; cases h
  | succ n ih =>
  intro v1 v2 v3 v4 s h
  rw [f_M_tosses_L58] at h
  refine zz_iload (i := 4) (pc := 58) C rfl d_M_tosses_58 ?_
  refine zz_iload_n (i := 3) (pc := 60) C rfl rfl d_M_tosses_60 ?_
  refine zz_icmp_ge (tgt := 196) (pc := 61) C (by decide) d_M_tosses_61 (fun hc7 => ?_) (fun hc7 => ?_)
  · rw [if_pos hc7] at h
    refine zz_iload_n (i := 3) (pc := 196) C rfl rfl d_M_tosses_196 ?_
    replace h := Option.some.inj h
    subst h
    exact zz_ret (pc := 197) C (v := some (.int v3)) d_M_tosses_197 (Or.inl ⟨_, _, rfl, rfl, rfl, rfl⟩) rfl
  · rw [if_neg hc7] at h
    refine zz_iload_n (i := 2) (pc := 64) C rfl rfl d_M_tosses_64 ?_
    refine zz_i2l (pc := 65) C d_M_tosses_65 ?_
    refine zz_iconst (pc := 66) C zki_3 d_M_tosses_66 ?_
    refine zz_iload (i := 4) (pc := 67) C rfl d_M_tosses_67 ?_
    refine zz_imul (pc := 69) C d_M_tosses_69 ?_
    refine zz_i2l (pc := 70) C d_M_tosses_70 ?_
    refine zz_ladd (pc := 71) C d_M_tosses_71 ?_
    refine zz_lstore (i := 5) (lo' := [some (.ref 79), some (.int v1), some (.int v2), some (.int v3), some (.int v4), some (.long (v2.toInt64 + ((3 : Int32) * v4).toInt64)), none, none]) (pc := 72) C (Nat.le_of_ble_eq_true rfl) rfl rfl d_M_tosses_72 ?_
    refine zz_lload (i := 5) (pc := 74) C rfl d_M_tosses_74 ?_
    refine zz_lconst (pc := 76) C zkl_0 d_M_tosses_76 ?_
    refine zz_lcmp (pc := 77) C d_M_tosses_77 ?_
    refine zz_if_lt (tgt := 107) (pc := 78) C (by decide) d_M_tosses_78 (fun hc8 => ?_) (fun hc8 => ?_)
    · rw [if_pos hc8] at h
      refine zz_iload (i := 4) (pc := 107) C rfl d_M_tosses_107 ?_
      replace h := Option.some.inj h
      subst h
      exact zz_ret (pc := 109) C (v := some (.int v4)) d_M_tosses_109 (Or.inl ⟨_, _, rfl, rfl, rfl, rfl⟩) rfl
    · rw [if_neg hc8] at h
      refine zz_lload (i := 5) (pc := 81) C rfl d_M_tosses_81 ?_
      refine zz_ldc2 (pc := 83) C zl_12_289 d_M_tosses_83 ?_
      refine zz_ladd (pc := 86) C d_M_tosses_86 ?_
      refine zz_aload_n (i := 0) (pc := 87) C rfl rfl d_M_tosses_87 ?_
      refine zz_getR (pc := 88) C zl_12_142 zsh_79 rfl d_M_tosses_88 ?_
      refine zz_iload_n (i := 1) (pc := 91) C rfl rfl d_M_tosses_91 ?_
      obtain ⟨hi9, h⟩ := zz_ckE h
      refine zz_iald (pc := 92) C rfl zsh_120 hi9 d_M_tosses_92 ?_
      refine zz_i2l (pc := 93) C d_M_tosses_93 ?_
      refine zz_lcmp (pc := 94) C d_M_tosses_94 ?_
      refine zz_if_ge (tgt := 107) (pc := 95) C (by decide) d_M_tosses_95 (fun hc10 => ?_) (fun hc10 => ?_)
      · rw [if_pos hc10] at h
        refine zz_iload (i := 4) (pc := 107) C rfl d_M_tosses_107 ?_
        replace h := Option.some.inj h
        subst h
        exact zz_ret (pc := 109) C (v := some (.int v4)) d_M_tosses_109 (Or.inl ⟨_, _, rfl, rfl, rfl, rfl⟩) rfl
      · rw [if_neg hc10] at h
        refine zz_aload_n (i := 0) (pc := 98) C rfl rfl d_M_tosses_98 ?_
        refine zz_getI (pc := 99) C zl_12_191 zsh_79 rfl d_M_tosses_99 ?_
        refine zz_bipush (pc := 102) C zkb_60 d_M_tosses_102 ?_
        refine zz_icmp_ne (tgt := 110) (pc := 104) C (by decide) d_M_tosses_104 (fun hc11 => ?_) (fun hc11 => ?_)
        · rw [if_neg hc11] at h
          refine zz_bipush (pc := 110) C zkb_60 d_M_tosses_110 ?_
          refine zz_iload_n (i := 1) (pc := 112) C rfl rfl d_M_tosses_112 ?_
          refine zz_imul (pc := 113) C d_M_tosses_113 ?_
          refine zz_lload (i := 5) (pc := 114) C rfl d_M_tosses_114 ?_
          refine zz_l2i (pc := 116) C d_M_tosses_116 ?_
          refine zz_iadd (pc := 117) C d_M_tosses_117 ?_
          refine zz_istore (i := 7) (lo' := [some (.ref 79), some (.int v1), some (.int v2), some (.int v3), some (.int v4), some (.long (v2.toInt64 + ((3 : Int32) * v4).toInt64)), none, some (.int (((60 : Int32) * v1) + (v2.toInt64 + ((3 : Int32) * v4).toInt64).toInt32))]) (pc := 118) C (Nat.le_of_ble_eq_true rfl) rfl rfl d_M_tosses_118 ?_
          refine zz_aload_n (i := 0) (pc := 120) C rfl rfl d_M_tosses_120 ?_
          refine zz_getR (pc := 121) C zl_12_145 zsh_79 rfl d_M_tosses_121 ?_
          refine zz_iload (i := 7) (pc := 124) C rfl d_M_tosses_124 ?_
          obtain ⟨hi12, h⟩ := zz_ckE h
          refine zz_lald (pc := 126) C rfl zsh_121 hi12 d_M_tosses_126 ?_
          refine zz_l2i (pc := 127) C d_M_tosses_127 ?_
          refine zz_aload_n (i := 0) (pc := 128) C rfl rfl d_M_tosses_128 ?_
          refine zz_getR (pc := 129) C zl_12_145 zsh_79 rfl d_M_tosses_129 ?_
          refine zz_iload (i := 7) (pc := 132) C rfl d_M_tosses_132 ?_
          refine zz_iconst (pc := 134) C zki_1 d_M_tosses_134 ?_
          refine zz_iadd (pc := 135) C d_M_tosses_135 ?_
          obtain ⟨hi13, h⟩ := zz_ckE h
          refine zz_lald (pc := 136) C rfl zsh_121 hi13 d_M_tosses_136 ?_
          refine zz_l2i (pc := 137) C d_M_tosses_137 ?_
          refine zz_aload_n (i := 0) (pc := 138) C rfl rfl d_M_tosses_138 ?_
          refine zz_getR (pc := 139) C zl_12_145 zsh_79 rfl d_M_tosses_139 ?_
          refine zz_iload (i := 7) (pc := 142) C rfl d_M_tosses_142 ?_
          refine zz_iconst (pc := 144) C zki_2 d_M_tosses_144 ?_
          refine zz_iadd (pc := 145) C d_M_tosses_145 ?_
          obtain ⟨hi14, h⟩ := zz_ckE h
          refine zz_lald (pc := 146) C rfl zsh_121 hi14 d_M_tosses_146 ?_
          refine zz_l2i (pc := 147) C d_M_tosses_147 ?_
          refine zz_cSi (as := [.int (s.2 121 ((((60 : Int32) * v1) + (v2.toInt64 + ((3 : Int32) * v4).toInt64).toInt32).toNatClampNeg)).toInt32, .int (s.2 121 (((((60 : Int32) * v1) + (v2.toInt64 + ((3 : Int32) * v4).toInt64).toInt32) + (1 : Int32)).toNatClampNeg)).toInt32, .int (s.2 121 (((((60 : Int32) * v1) + (v2.toInt64 + ((3 : Int32) * v4).toInt64).toInt32) + (2 : Int32)).toNatClampNeg)).toInt32]) (st := []) (pc := 148) C (zm_M_isTurn rfl) zcs_M_isTurn zl_12_280 (by omega) (Nat.le_of_ble_eq_true rfl) d_M_tosses_148 rfl rfl ?_
          refine zz_if_ne (tgt := 157) (pc := 151) C (by decide) d_M_tosses_151 (fun hc15 => ?_) (fun hc15 => ?_)
          · rw [if_neg hc15] at h
            refine zz_aload_n (i := 0) (pc := 157) C rfl rfl d_M_tosses_157 ?_
            refine zz_aload_n (i := 0) (pc := 158) C rfl rfl d_M_tosses_158 ?_
            refine zz_getR (pc := 159) C zl_12_145 zsh_79 rfl d_M_tosses_159 ?_
            refine zz_iload (i := 7) (pc := 162) C rfl d_M_tosses_162 ?_
            refine zz_lald (pc := 164) C rfl zsh_121 hi12 d_M_tosses_164 ?_
            refine zz_l2i (pc := 165) C d_M_tosses_165 ?_
            refine zz_aload_n (i := 0) (pc := 166) C rfl rfl d_M_tosses_166 ?_
            refine zz_getR (pc := 167) C zl_12_145 zsh_79 rfl d_M_tosses_167 ?_
            refine zz_iload (i := 7) (pc := 170) C rfl d_M_tosses_170 ?_
            refine zz_iconst (pc := 172) C zki_1 d_M_tosses_172 ?_
            refine zz_iadd (pc := 173) C d_M_tosses_173 ?_
            refine zz_lald (pc := 174) C rfl zsh_121 hi13 d_M_tosses_174 ?_
            refine zz_l2i (pc := 175) C d_M_tosses_175 ?_
            refine zz_aload_n (i := 0) (pc := 176) C rfl rfl d_M_tosses_176 ?_
            refine zz_getR (pc := 177) C zl_12_145 zsh_79 rfl d_M_tosses_177 ?_
            refine zz_iload (i := 7) (pc := 180) C rfl d_M_tosses_180 ?_
            refine zz_iconst (pc := 182) C zki_2 d_M_tosses_182 ?_
            refine zz_iadd (pc := 183) C d_M_tosses_183 ?_
            refine zz_lald (pc := 184) C rfl zsh_121 hi14 d_M_tosses_184 ?_
            refine zz_l2i (pc := 185) C d_M_tosses_185 ?_
            obtain ⟨q16, hq16, h⟩ := zz_bdE h
            refine zz_cVi (as := [.int (s.2 121 ((((60 : Int32) * v1) + (v2.toInt64 + ((3 : Int32) * v4).toInt64).toInt32).toNatClampNeg)).toInt32, .int (s.2 121 (((((60 : Int32) * v1) + (v2.toInt64 + ((3 : Int32) * v4).toInt64).toInt32) + (1 : Int32)).toNatClampNeg)).toInt32, .int (s.2 121 (((((60 : Int32) * v1) + (v2.toInt64 + ((3 : Int32) * v4).toInt64).toInt32) + (2 : Int32)).toNatClampNeg)).toInt32]) (st := []) (pc := 186) C (zm_M_addTurn hq16) zcv_M_addTurn zsh_79 zl_12_283 (by omega) (Nat.le_of_ble_eq_true rfl) d_M_tosses_186 rfl rfl ?_
            refine zz_pop (pc := 189) C rfl d_M_tosses_189 ?_
            refine zz_iinc (lo' := [some (.ref 79), some (.int v1), some (.int v2), some (.int v3), some (.int (v4 + (1 : Int32))), some (.long (v2.toInt64 + ((3 : Int32) * v4).toInt64)), none, some (.int (((60 : Int32) * v1) + (v2.toInt64 + ((3 : Int32) * v4).toInt64).toInt32))]) (pc := 190) C rfl (zz_inc zki_1) rfl rfl d_M_tosses_190 ?_
            refine zz_goto (tgt := 58) (pc := 193) C (by decide) d_M_tosses_193 ?_
            refine zz_fg C [true, true, true, true, true, false, false, false] rfl rfl ?_
            exact ih v1 v2 v3 (v4 + (1 : Int32)) q16.2 h
          · rw [if_pos hc15] at h
            refine zz_iload (i := 4) (pc := 154) C rfl d_M_tosses_154 ?_
            replace h := Option.some.inj h
            subst h
            exact zz_ret (pc := 156) C (v := some (.int v4)) d_M_tosses_156 (Or.inl ⟨_, _, rfl, rfl, rfl, rfl⟩) rfl
        · rw [if_pos hc11] at h
          refine zz_iload (i := 4) (pc := 107) C rfl d_M_tosses_107 ?_
          replace h := Option.some.inj h
          subst h
          exact zz_ret (pc := 109) C (v := some (.int v4)) d_M_tosses_109 (Or.inl ⟨_, _, rfl, rfl, rfl, rfl⟩) rfl
set_option maxHeartbeats 4000000 in
set_option maxRecDepth 100000 in
theorem zf_M_tosses_J43 {G : zz_G} {l : Launch} {Z : zz_Z} {q : Int32 × zz_S} {s : zz_S} (C : zz_Cx G l "OneBlanketModel" "tosses" prog_14_method_44_code 8 (some .int) 5 (some (.int q.1), zsh, q.2) Z) (v1 : Int32) (v2 : Int32) (v3 : Int32) (h : f_M_tosses_J43 v1 v2 v3 s = some q) : Z 43 [some (.ref 79), some (.int v1), some (.int v2), some (.int v3), none, none, none, none] [] zsh s := by
  unfold f_M_tosses_J43 at h
  refine zz_aload_n (i := 0) (pc := 43) C rfl rfl d_M_tosses_43 ?_
  refine zz_getR (pc := 44) C zl_12_139 zsh_79 rfl d_M_tosses_44 ?_
  refine zz_iload_n (i := 1) (pc := 47) C rfl rfl d_M_tosses_47 ?_
  obtain ⟨hi5, h⟩ := zz_ckE h
  refine zz_iald (pc := 48) C rfl zsh_119 hi5 d_M_tosses_48 ?_
  refine zz_iconst (pc := 49) C zki_m1 d_M_tosses_49 ?_
  refine zz_icmp_ne (tgt := 55) (pc := 50) C (by decide) d_M_tosses_50 (fun hc6 => ?_) (fun hc6 => ?_)
  · rw [if_neg hc6] at h
    refine zz_iconst (pc := 55) C zki_0 d_M_tosses_55 ?_
    refine zz_istore (i := 4) (lo' := [some (.ref 79), some (.int v1), some (.int v2), some (.int v3), some (.int (0 : Int32)), none, none, none]) (pc := 56) C (Nat.le_of_ble_eq_true rfl) rfl rfl d_M_tosses_56 ?_
    exact zf_M_tosses_L58 C zF v1 v2 v3 (0 : Int32) s h
  · rw [if_pos hc6] at h
    refine zz_iconst (pc := 53) C zki_0 d_M_tosses_53 ?_
    replace h := Option.some.inj h
    subst h
    exact zz_ret (pc := 54) C (v := some (.int (0 : Int32))) d_M_tosses_54 (Or.inl ⟨_, _, rfl, rfl, rfl, rfl⟩) rfl
set_option maxHeartbeats 4000000 in
set_option maxRecDepth 100000 in
theorem zf_M_tosses {G : zz_G} {l : Launch} {Z : zz_Z} {q : Int32 × zz_S} {s : zz_S} (C : zz_Cx G l "OneBlanketModel" "tosses" prog_14_method_44_code 8 (some .int) 5 (some (.int q.1), zsh, q.2) Z) (a1 : Int32) (a2 : Int32) (a3 : Int32) (h : f_M_tosses a1 a2 a3 s = some q) : Z 0 [some (.ref 79), some (.int a1), some (.int a2), some (.int a3), none, none, none, none] [] zsh s := by
  unfold f_M_tosses at h
  refine zz_iload_n (i := 1) (pc := 0) C rfl rfl d_M_tosses_0 ?_
  refine zz_cSi (as := [.int a1]) (st := []) (pc := 1) C (zm_M_isShelf rfl) zcs_M_isShelf zl_12_286 (by omega) (Nat.le_of_ble_eq_true rfl) d_M_tosses_1 rfl rfl ?_
  refine zz_if_eq (tgt := 17) (pc := 4) C (by decide) d_M_tosses_4 (fun hc1 => ?_) (fun hc1 => ?_)
  · rw [if_pos hc1] at h
    refine zz_iconst (pc := 17) C zki_m1 d_M_tosses_17 ?_
    replace h := Option.some.inj h
    subst h
    exact zz_ret (pc := 18) C (v := some (.int (-1 : Int32))) d_M_tosses_18 (Or.inl ⟨_, _, rfl, rfl, rfl, rfl⟩) rfl
  · rw [if_neg hc1] at h
    refine zz_iload_n (i := 3) (pc := 7) C rfl rfl d_M_tosses_7 ?_
    refine zz_iconst (pc := 8) C zki_1 d_M_tosses_8 ?_
    refine zz_bipush (pc := 9) C zkb_20 d_M_tosses_9 ?_
    refine zz_cSi (as := [.int a3, .int (1 : Int32), .int (20 : Int32)]) (st := []) (pc := 11) C (zm_M_in rfl) zcs_M_in zl_12_158 (by omega) (Nat.le_of_ble_eq_true rfl) d_M_tosses_11 rfl rfl ?_
    refine zz_if_ne (tgt := 19) (pc := 14) C (by decide) d_M_tosses_14 (fun hc2 => ?_) (fun hc2 => ?_)
    · rw [if_neg hc2] at h
      refine zz_aload_n (i := 0) (pc := 19) C rfl rfl d_M_tosses_19 ?_
      refine zz_getR (pc := 20) C zl_12_139 zsh_79 rfl d_M_tosses_20 ?_
      refine zz_iload_n (i := 1) (pc := 23) C rfl rfl d_M_tosses_23 ?_
      obtain ⟨hi3, h⟩ := zz_ckE h
      refine zz_iald (pc := 24) C rfl zsh_119 hi3 d_M_tosses_24 ?_
      refine zz_iconst (pc := 25) C zki_m1 d_M_tosses_25 ?_
      refine zz_icmp_eq (tgt := 43) (pc := 26) C (by decide) d_M_tosses_26 (fun hc4 => ?_) (fun hc4 => ?_)
      · rw [if_pos hc4] at h
        exact zf_M_tosses_J43 C a1 a2 a3 h
      · rw [if_neg hc4] at h
        refine zz_aload_n (i := 0) (pc := 29) C rfl rfl d_M_tosses_29 ?_
        refine zz_getR (pc := 30) C zl_12_139 zsh_79 rfl d_M_tosses_30 ?_
        refine zz_iload_n (i := 1) (pc := 33) C rfl rfl d_M_tosses_33 ?_
        refine zz_iald (pc := 34) C rfl zsh_119 hi3 d_M_tosses_34 ?_
        refine zz_bipush (pc := 35) C zkb_m3 d_M_tosses_35 ?_
        refine zz_icmp_eq (tgt := 43) (pc := 37) C (by decide) d_M_tosses_37 (fun hc17 => ?_) (fun hc17 => ?_)
        · rw [if_pos hc17] at h
          exact zf_M_tosses_J43 C a1 a2 a3 h
        · rw [if_neg hc17] at h
          refine zz_bipush (pc := 40) C zkb_m12 d_M_tosses_40 ?_
          replace h := Option.some.inj h
          subst h
          exact zz_ret (pc := 42) C (v := some (.int (-12 : Int32))) d_M_tosses_42 (Or.inl ⟨_, _, rfl, rfl, rfl, rfl⟩) rfl
    · rw [if_pos hc2] at h
      refine zz_iconst (pc := 17) C zki_m1 d_M_tosses_17 ?_
      replace h := Option.some.inj h
      subst h
      exact zz_ret (pc := 18) C (v := some (.int (-1 : Int32))) d_M_tosses_18 (Or.inl ⟨_, _, rfl, rfl, rfl, rfl⟩) rfl
theorem zm_M_tosses {G : zz_G} {l : Launch} {s : zz_S} {q : Int32 × zz_S} {a1 : Int32} {a2 : Int32} {a3 : Int32} (h : f_M_tosses a1 a2 a3 s = some q) : zz_M G l 5 y_M_tosses prog_14_method_44_code 8 (some .int) [.ref 79, .int a1, .int a2, .int a3] zsh s (some (.int q.1), zsh, q.2) :=
  zz_M.intro (by decide) (Nat.le_of_ble_eq_true rfl) (Nat.le_refl _) (Nat.le_refl _) (fun Z C => zf_M_tosses C a1 a2 a3 h)
theorem d_M_trace_0 : decode prog_14_method_76_code 0 = .ok (.iload_n 1, 1) := by decide +kernel
theorem d_M_trace_1 : decode prog_14_method_76_code 1 = .ok (.ifCond .lt (26), 3) := by decide +kernel
theorem d_M_trace_4 : decode prog_14_method_76_code 4 = .ok (.iload_n 1, 1) := by decide +kernel
theorem d_M_trace_5 : decode prog_14_method_76_code 5 = .ok (.aload_n 0, 1) := by decide +kernel
theorem d_M_trace_6 : decode prog_14_method_76_code 6 = .ok (.getfield 354, 3) := by decide +kernel
theorem d_M_trace_9 : decode prog_14_method_76_code 9 = .ok (.if_icmp .ge (18), 3) := by decide +kernel
theorem d_M_trace_12 : decode prog_14_method_76_code 12 = .ok (.iload_n 1, 1) := by decide +kernel
theorem d_M_trace_13 : decode prog_14_method_76_code 13 = .ok (.bipush (24), 2) := by decide +kernel
theorem d_M_trace_15 : decode prog_14_method_76_code 15 = .ok (.if_icmp .ge (12), 3) := by decide +kernel
theorem d_M_trace_18 : decode prog_14_method_76_code 18 = .ok (.aload_n 0, 1) := by decide +kernel
theorem d_M_trace_19 : decode prog_14_method_76_code 19 = .ok (.getfield 136, 3) := by decide +kernel
theorem d_M_trace_22 : decode prog_14_method_76_code 22 = .ok (.iload_n 1, 1) := by decide +kernel
theorem d_M_trace_23 : decode prog_14_method_76_code 23 = .ok (.iaload, 1) := by decide +kernel
theorem d_M_trace_24 : decode prog_14_method_76_code 24 = .ok (.goto (4), 3) := by decide +kernel
theorem d_M_trace_27 : decode prog_14_method_76_code 27 = .ok (.iconst (-1), 1) := by decide +kernel
theorem d_M_trace_28 : decode prog_14_method_76_code 28 = .ok (.ireturn, 1) := by decide +kernel
set_option maxHeartbeats 4000000 in
set_option maxRecDepth 100000 in
theorem zf_M_trace {G : zz_G} {l : Launch} {Z : zz_Z} {q : Int32} {s : zz_S} (C : zz_Cx G l "OneBlanketModel" "trace" prog_14_method_76_code 2 (some .int) 2 (some (.int q), zsh, s) Z) (a1 : Int32) (h : f_M_trace a1 s = some q) : Z 0 [some (.ref 79), some (.int a1)] [] zsh s := by
  unfold f_M_trace at h
  refine zz_iload_n (i := 1) (pc := 0) C rfl rfl d_M_trace_0 ?_
  refine zz_if_lt (tgt := 27) (pc := 1) C (by decide) d_M_trace_1 (fun hc1 => ?_) (fun hc1 => ?_)
  · rw [if_pos hc1] at h
    refine zz_iconst (pc := 27) C zki_m1 d_M_trace_27 ?_
    replace h := Option.some.inj h
    subst h
    exact zz_ret (pc := 28) C (v := some (.int (-1 : Int32))) d_M_trace_28 (Or.inl ⟨_, _, rfl, rfl, rfl, rfl⟩) rfl
  · rw [if_neg hc1] at h
    refine zz_iload_n (i := 1) (pc := 4) C rfl rfl d_M_trace_4 ?_
    refine zz_aload_n (i := 0) (pc := 5) C rfl rfl d_M_trace_5 ?_
    refine zz_getI (pc := 6) C zl_12_354 zsh_79 rfl d_M_trace_6 ?_
    refine zz_icmp_ge (tgt := 27) (pc := 9) C (by decide) d_M_trace_9 (fun hc2 => ?_) (fun hc2 => ?_)
    · rw [if_pos hc2] at h
      refine zz_iconst (pc := 27) C zki_m1 d_M_trace_27 ?_
      replace h := Option.some.inj h
      subst h
      exact zz_ret (pc := 28) C (v := some (.int (-1 : Int32))) d_M_trace_28 (Or.inl ⟨_, _, rfl, rfl, rfl, rfl⟩) rfl
    · rw [if_neg hc2] at h
      refine zz_iload_n (i := 1) (pc := 12) C rfl rfl d_M_trace_12 ?_
      refine zz_bipush (pc := 13) C zkb_24 d_M_trace_13 ?_
      refine zz_icmp_ge (tgt := 27) (pc := 15) C (by decide) d_M_trace_15 (fun hc3 => ?_) (fun hc3 => ?_)
      · rw [if_pos hc3] at h
        refine zz_iconst (pc := 27) C zki_m1 d_M_trace_27 ?_
        replace h := Option.some.inj h
        subst h
        exact zz_ret (pc := 28) C (v := some (.int (-1 : Int32))) d_M_trace_28 (Or.inl ⟨_, _, rfl, rfl, rfl, rfl⟩) rfl
      · rw [if_neg hc3] at h
        refine zz_aload_n (i := 0) (pc := 18) C rfl rfl d_M_trace_18 ?_
        refine zz_getR (pc := 19) C zl_12_136 zsh_79 rfl d_M_trace_19 ?_
        refine zz_iload_n (i := 1) (pc := 22) C rfl rfl d_M_trace_22 ?_
        obtain ⟨hi4, h⟩ := zz_ckE h
        refine zz_iald (pc := 23) C rfl zsh_118 hi4 d_M_trace_23 ?_
        refine zz_goto (tgt := 28) (pc := 24) C (by decide) d_M_trace_24 ?_
        replace h := Option.some.inj h
        subst h
        exact zz_ret (pc := 28) C (v := some (.int (s.1 118 (a1.toNatClampNeg)))) d_M_trace_28 (Or.inl ⟨_, _, rfl, rfl, rfl, rfl⟩) rfl
theorem zm_M_trace {G : zz_G} {l : Launch} {s : zz_S} {q : Int32} {a1 : Int32} (h : f_M_trace a1 s = some q) : zz_M G l 2 y_M_trace prog_14_method_76_code 2 (some .int) [.ref 79, .int a1] zsh s (some (.int q), zsh, s) :=
  zz_M.intro (by decide) (Nat.le_of_ble_eq_true rfl) (Nat.le_refl _) (Nat.le_refl _) (fun Z C => zf_M_trace C a1 h)
theorem d_M_tucked_0 : decode prog_14_method_64_code 0 = .ok (.aload_n 0, 1) := by decide +kernel
theorem d_M_tucked_1 : decode prog_14_method_64_code 1 = .ok (.iload_n 1, 1) := by decide +kernel
theorem d_M_tucked_2 : decode prog_14_method_64_code 2 = .ok (.invokevirtual 187, 3) := by decide +kernel
theorem d_M_tucked_5 : decode prog_14_method_64_code 5 = .ok (.ifCond .eq (12), 3) := by decide +kernel
theorem d_M_tucked_8 : decode prog_14_method_64_code 8 = .ok (.iload_n 2, 1) := by decide +kernel
theorem d_M_tucked_9 : decode prog_14_method_64_code 9 = .ok (.iconst 0, 1) := by decide +kernel
theorem d_M_tucked_10 : decode prog_14_method_64_code 10 = .ok (.iconst 1, 1) := by decide +kernel
theorem d_M_tucked_11 : decode prog_14_method_64_code 11 = .ok (.invokestatic 158, 3) := by decide +kernel
theorem d_M_tucked_14 : decode prog_14_method_64_code 14 = .ok (.ifCond .ne (5), 3) := by decide +kernel
theorem d_M_tucked_17 : decode prog_14_method_64_code 17 = .ok (.iconst (-1), 1) := by decide +kernel
theorem d_M_tucked_18 : decode prog_14_method_64_code 18 = .ok (.ireturn, 1) := by decide +kernel
theorem d_M_tucked_19 : decode prog_14_method_64_code 19 = .ok (.aload_n 0, 1) := by decide +kernel
theorem d_M_tucked_20 : decode prog_14_method_64_code 20 = .ok (.getfield 35, 3) := by decide +kernel
theorem d_M_tucked_23 : decode prog_14_method_64_code 23 = .ok (.iload_n 1, 1) := by decide +kernel
theorem d_M_tucked_24 : decode prog_14_method_64_code 24 = .ok (.iaload, 1) := by decide +kernel
theorem d_M_tucked_25 : decode prog_14_method_64_code 25 = .ok (.istore_n 3, 1) := by decide +kernel
theorem d_M_tucked_26 : decode prog_14_method_64_code 26 = .ok (.iconst (-1), 1) := by decide +kernel
theorem d_M_tucked_27 : decode prog_14_method_64_code 27 = .ok (.istore 4, 2) := by decide +kernel
theorem d_M_tucked_29 : decode prog_14_method_64_code 29 = .ok (.iconst 0, 1) := by decide +kernel
theorem d_M_tucked_30 : decode prog_14_method_64_code 30 = .ok (.istore 5, 2) := by decide +kernel
theorem d_M_tucked_32 : decode prog_14_method_64_code 32 = .ok (.iconst 0, 1) := by decide +kernel
theorem d_M_tucked_33 : decode prog_14_method_64_code 33 = .ok (.istore 6, 2) := by decide +kernel
theorem d_M_tucked_35 : decode prog_14_method_64_code 35 = .ok (.iload 6, 2) := by decide +kernel
theorem d_M_tucked_37 : decode prog_14_method_64_code 37 = .ok (.bipush (9), 2) := by decide +kernel
theorem d_M_tucked_39 : decode prog_14_method_64_code 39 = .ok (.if_icmp .gt (46), 3) := by decide +kernel
theorem d_M_tucked_42 : decode prog_14_method_64_code 42 = .ok (.aload_n 0, 1) := by decide +kernel
theorem d_M_tucked_43 : decode prog_14_method_64_code 43 = .ok (.getfield 35, 3) := by decide +kernel
theorem d_M_tucked_46 : decode prog_14_method_64_code 46 = .ok (.iload_n 1, 1) := by decide +kernel
theorem d_M_tucked_47 : decode prog_14_method_64_code 47 = .ok (.iload 6, 2) := by decide +kernel
theorem d_M_tucked_49 : decode prog_14_method_64_code 49 = .ok (.iastore, 1) := by decide +kernel
theorem d_M_tucked_50 : decode prog_14_method_64_code 50 = .ok (.aload_n 0, 1) := by decide +kernel
theorem d_M_tucked_51 : decode prog_14_method_64_code 51 = .ok (.invokevirtual 329, 3) := by decide +kernel
theorem d_M_tucked_54 : decode prog_14_method_64_code 54 = .ok (.istore 7, 2) := by decide +kernel
theorem d_M_tucked_56 : decode prog_14_method_64_code 56 = .ok (.iload 4, 2) := by decide +kernel
theorem d_M_tucked_58 : decode prog_14_method_64_code 58 = .ok (.ifCond .lt (13), 3) := by decide +kernel
theorem d_M_tucked_61 : decode prog_14_method_64_code 61 = .ok (.iload 7, 2) := by decide +kernel
theorem d_M_tucked_63 : decode prog_14_method_64_code 63 = .ok (.iload 5, 2) := by decide +kernel
theorem d_M_tucked_65 : decode prog_14_method_64_code 65 = .ok (.if_icmp .gt (6), 3) := by decide +kernel
theorem d_M_tucked_68 : decode prog_14_method_64_code 68 = .ok (.goto (11), 3) := by decide +kernel
theorem d_M_tucked_71 : decode prog_14_method_64_code 71 = .ok (.iload 6, 2) := by decide +kernel
theorem d_M_tucked_73 : decode prog_14_method_64_code 73 = .ok (.istore 4, 2) := by decide +kernel
theorem d_M_tucked_75 : decode prog_14_method_64_code 75 = .ok (.iload 7, 2) := by decide +kernel
theorem d_M_tucked_77 : decode prog_14_method_64_code 77 = .ok (.istore 5, 2) := by decide +kernel
theorem d_M_tucked_79 : decode prog_14_method_64_code 79 = .ok (.iinc 6 (1), 3) := by decide +kernel
theorem d_M_tucked_82 : decode prog_14_method_64_code 82 = .ok (.goto (-47), 3) := by decide +kernel
theorem d_M_tucked_85 : decode prog_14_method_64_code 85 = .ok (.aload_n 0, 1) := by decide +kernel
theorem d_M_tucked_86 : decode prog_14_method_64_code 86 = .ok (.getfield 35, 3) := by decide +kernel
theorem d_M_tucked_89 : decode prog_14_method_64_code 89 = .ok (.iload_n 1, 1) := by decide +kernel
theorem d_M_tucked_90 : decode prog_14_method_64_code 90 = .ok (.iload_n 3, 1) := by decide +kernel
theorem d_M_tucked_91 : decode prog_14_method_64_code 91 = .ok (.iastore, 1) := by decide +kernel
theorem d_M_tucked_92 : decode prog_14_method_64_code 92 = .ok (.iload_n 2, 1) := by decide +kernel
theorem d_M_tucked_93 : decode prog_14_method_64_code 93 = .ok (.ifCond .ne (8), 3) := by decide +kernel
theorem d_M_tucked_96 : decode prog_14_method_64_code 96 = .ok (.iload 4, 2) := by decide +kernel
theorem d_M_tucked_98 : decode prog_14_method_64_code 98 = .ok (.goto (5), 3) := by decide +kernel
theorem d_M_tucked_101 : decode prog_14_method_64_code 101 = .ok (.iload 5, 2) := by decide +kernel
theorem d_M_tucked_103 : decode prog_14_method_64_code 103 = .ok (.ireturn, 1) := by decide +kernel
set_option maxHeartbeats 4000000 in
set_option maxRecDepth 100000 in
theorem zf_M_tucked_J71 {G : zz_G} {l : Launch} {Z : zz_Z} {q : Int32 × zz_S} {s : zz_S} (C : zz_Cx G l "OneBlanketModel" "tucked" prog_14_method_64_code 8 (some .int) 10 (some (.int q.1), zsh, q.2) Z) (K35 : Int32 → Int32 → Int32 → Int32 → Int32 → Int32 → zz_S → Option (Int32 × zz_S)) (hK35 : ∀ (v1 : Int32) (v2 : Int32) (v3 : Int32) (v4 : Int32) (v5 : Int32) (v6 : Int32) (s : zz_S), K35 v1 v2 v3 v4 v5 v6 s = some q → Z 35 [some (.ref 79), some (.int v1), some (.int v2), some (.int v3), some (.int v4), some (.int v5), some (.int v6), none] [] zsh s) (v1 : Int32) (v2 : Int32) (v3 : Int32) (v6 : Int32) (v7 : Int32) (h : f_M_tucked_J71 K35 v1 v2 v3 v6 v7 s = some q) : Z 71 [some (.ref 79), some (.int v1), some (.int v2), some (.int v3), none, none, some (.int v6), some (.int v7)] [] zsh s := by
  unfold f_M_tucked_J71 at h
  refine zz_iload (i := 6) (pc := 71) C rfl d_M_tucked_71 ?_
  refine zz_istore (i := 4) (lo' := [some (.ref 79), some (.int v1), some (.int v2), some (.int v3), some (.int v6), none, some (.int v6), some (.int v7)]) (pc := 73) C (Nat.le_of_ble_eq_true rfl) rfl rfl d_M_tucked_73 ?_
  refine zz_iload (i := 7) (pc := 75) C rfl d_M_tucked_75 ?_
  refine zz_istore (i := 5) (lo' := [some (.ref 79), some (.int v1), some (.int v2), some (.int v3), some (.int v6), some (.int v7), some (.int v6), some (.int v7)]) (pc := 77) C (Nat.le_of_ble_eq_true rfl) rfl rfl d_M_tucked_77 ?_
  refine zz_iinc (lo' := [some (.ref 79), some (.int v1), some (.int v2), some (.int v3), some (.int v6), some (.int v7), some (.int (v6 + (1 : Int32))), some (.int v7)]) (pc := 79) C rfl (zz_inc zki_1) rfl rfl d_M_tucked_79 ?_
  refine zz_goto (tgt := 35) (pc := 82) C (by decide) d_M_tucked_82 ?_
  refine zz_fg C [true, true, true, true, true, true, true, false] rfl rfl ?_
  exact hK35 v1 v2 v3 v6 v7 (v6 + (1 : Int32)) s h
set_option maxHeartbeats 4000000 in
set_option maxRecDepth 100000 in
theorem zf_M_tucked_L35 {G : zz_G} {l : Launch} {Z : zz_Z} {q : Int32 × zz_S} (C : zz_Cx G l "OneBlanketModel" "tucked" prog_14_method_64_code 8 (some .int) 10 (some (.int q.1), zsh, q.2) Z) : ∀ (n : Nat) (v1 : Int32) (v2 : Int32) (v3 : Int32) (v4 : Int32) (v5 : Int32) (v6 : Int32) (s : zz_S), f_M_tucked_L35 n v1 v2 v3 v4 v5 v6 s = some q → Z 35 [some (.ref 79), some (.int v1), some (.int v2), some (.int v3), some (.int v4), some (.int v5), some (.int v6), none] [] zsh s := by
  intro n
  induction n with
  | zero => intro v1 v2 v3 v4 v5 v6 s h; rw [f_M_tucked_L35] at h; cases h
  | succ n ih =>
  intro v1 v2 v3 v4 v5 v6 s h
  rw [f_M_tucked_L35] at h
  refine zz_iload (i := 6) (pc := 35) C rfl d_M_tucked_35 ?_
  refine zz_bipush (pc := 37) C zkb_9 d_M_tucked_37 ?_
  refine zz_icmp_gt (tgt := 85) (pc := 39) C (by decide) d_M_tucked_39 (fun hc4 => ?_) (fun hc4 => ?_)
  · rw [if_pos hc4] at h
    refine zz_aload_n (i := 0) (pc := 85) C rfl rfl d_M_tucked_85 ?_
    refine zz_getR (pc := 86) C zl_12_35 zsh_79 rfl d_M_tucked_86 ?_
    refine zz_iload_n (i := 1) (pc := 89) C rfl rfl d_M_tucked_89 ?_
    refine zz_iload_n (i := 3) (pc := 90) C rfl rfl d_M_tucked_90 ?_
    obtain ⟨hi5, h⟩ := zz_ckE h
    refine zz_iast (pc := 91) C rfl zsh_87 hi5 d_M_tucked_91 ?_
    refine zz_iload_n (i := 2) (pc := 92) C rfl rfl d_M_tucked_92 ?_
    refine zz_if_ne (tgt := 101) (pc := 93) C (by decide) d_M_tucked_93 (fun hc6 => ?_) (fun hc6 => ?_)
    · rw [if_neg hc6] at h
      refine zz_iload (i := 5) (pc := 101) C rfl d_M_tucked_101 ?_
      replace h := Option.some.inj h
      subst h
      exact zz_ret (pc := 103) C (v := some (.int v5)) d_M_tucked_103 (Or.inl ⟨_, _, rfl, rfl, rfl, rfl⟩) rfl
    · rw [if_pos hc6] at h
      refine zz_iload (i := 4) (pc := 96) C rfl d_M_tucked_96 ?_
      refine zz_goto (tgt := 103) (pc := 98) C (by decide) d_M_tucked_98 ?_
      replace h := Option.some.inj h
      subst h
      exact zz_ret (pc := 103) C (v := some (.int v4)) d_M_tucked_103 (Or.inl ⟨_, _, rfl, rfl, rfl, rfl⟩) rfl
  · rw [if_neg hc4] at h
    refine zz_aload_n (i := 0) (pc := 42) C rfl rfl d_M_tucked_42 ?_
    refine zz_getR (pc := 43) C zl_12_35 zsh_79 rfl d_M_tucked_43 ?_
    refine zz_iload_n (i := 1) (pc := 46) C rfl rfl d_M_tucked_46 ?_
    refine zz_iload (i := 6) (pc := 47) C rfl d_M_tucked_47 ?_
    obtain ⟨hi7, h⟩ := zz_ckE h
    refine zz_iast (pc := 49) C rfl zsh_87 hi7 d_M_tucked_49 ?_
    refine zz_aload_n (i := 0) (pc := 50) C rfl rfl d_M_tucked_50 ?_
    obtain ⟨q8, hq8, h⟩ := zz_bdE h
    refine zz_cVi (as := []) (st := []) (pc := 51) C (zm_M_easyOfAll hq8) zcv_M_easyOfAll zsh_79 zl_12_329 (by omega) (Nat.le_of_ble_eq_true rfl) d_M_tucked_51 rfl rfl ?_
    refine zz_istore (i := 7) (lo' := [some (.ref 79), some (.int v1), some (.int v2), some (.int v3), some (.int v4), some (.int v5), some (.int v6), some (.int q8.1)]) (pc := 54) C (Nat.le_of_ble_eq_true rfl) rfl rfl d_M_tucked_54 ?_
    refine zz_iload (i := 4) (pc := 56) C rfl d_M_tucked_56 ?_
    refine zz_if_lt (tgt := 71) (pc := 58) C (by decide) d_M_tucked_58 (fun hc9 => ?_) (fun hc9 => ?_)
    · rw [if_pos hc9] at h
      refine zz_fg C [true, true, true, true, false, false, true, true] rfl rfl ?_
      exact zf_M_tucked_J71 C (f_M_tucked_L35 n) ih v1 v2 v3 v6 q8.1 h
    · rw [if_neg hc9] at h
      refine zz_iload (i := 7) (pc := 61) C rfl d_M_tucked_61 ?_
      refine zz_iload (i := 5) (pc := 63) C rfl d_M_tucked_63 ?_
      refine zz_icmp_gt (tgt := 71) (pc := 65) C (by decide) d_M_tucked_65 (fun hc10 => ?_) (fun hc10 => ?_)
      · rw [if_pos hc10] at h
        refine zz_fg C [true, true, true, true, false, false, true, true] rfl rfl ?_
        exact zf_M_tucked_J71 C (f_M_tucked_L35 n) ih v1 v2 v3 v6 q8.1 h
      · rw [if_neg hc10] at h
        refine zz_goto (tgt := 79) (pc := 68) C (by decide) d_M_tucked_68 ?_
        refine zz_iinc (lo' := [some (.ref 79), some (.int v1), some (.int v2), some (.int v3), some (.int v4), some (.int v5), some (.int (v6 + (1 : Int32))), some (.int q8.1)]) (pc := 79) C rfl (zz_inc zki_1) rfl rfl d_M_tucked_79 ?_
        refine zz_goto (tgt := 35) (pc := 82) C (by decide) d_M_tucked_82 ?_
        refine zz_fg C [true, true, true, true, true, true, true, false] rfl rfl ?_
        exact ih v1 v2 v3 v4 v5 (v6 + (1 : Int32)) q8.2 h
set_option maxHeartbeats 4000000 in
set_option maxRecDepth 100000 in
theorem zf_M_tucked {G : zz_G} {l : Launch} {Z : zz_Z} {q : Int32 × zz_S} {s : zz_S} (C : zz_Cx G l "OneBlanketModel" "tucked" prog_14_method_64_code 8 (some .int) 10 (some (.int q.1), zsh, q.2) Z) (a1 : Int32) (a2 : Int32) (h : f_M_tucked a1 a2 s = some q) : Z 0 [some (.ref 79), some (.int a1), some (.int a2), none, none, none, none, none] [] zsh s := by
  unfold f_M_tucked at h
  refine zz_aload_n (i := 0) (pc := 0) C rfl rfl d_M_tucked_0 ?_
  refine zz_iload_n (i := 1) (pc := 1) C rfl rfl d_M_tucked_1 ?_
  refine zz_cVi (as := [.int a1]) (st := []) (pc := 2) C (zm_M_isCover rfl) zcv_M_isCover zsh_79 zl_12_187 (by omega) (Nat.le_of_ble_eq_true rfl) d_M_tucked_2 rfl rfl ?_
  refine zz_if_eq (tgt := 17) (pc := 5) C (by decide) d_M_tucked_5 (fun hc1 => ?_) (fun hc1 => ?_)
  · rw [if_pos hc1] at h
    refine zz_iconst (pc := 17) C zki_m1 d_M_tucked_17 ?_
    replace h := Option.some.inj h
    subst h
    exact zz_ret (pc := 18) C (v := some (.int (-1 : Int32))) d_M_tucked_18 (Or.inl ⟨_, _, rfl, rfl, rfl, rfl⟩) rfl
  · rw [if_neg hc1] at h
    refine zz_iload_n (i := 2) (pc := 8) C rfl rfl d_M_tucked_8 ?_
    refine zz_iconst (pc := 9) C zki_0 d_M_tucked_9 ?_
    refine zz_iconst (pc := 10) C zki_1 d_M_tucked_10 ?_
    refine zz_cSi (as := [.int a2, .int (0 : Int32), .int (1 : Int32)]) (st := []) (pc := 11) C (zm_M_in rfl) zcs_M_in zl_12_158 (by omega) (Nat.le_of_ble_eq_true rfl) d_M_tucked_11 rfl rfl ?_
    refine zz_if_ne (tgt := 19) (pc := 14) C (by decide) d_M_tucked_14 (fun hc2 => ?_) (fun hc2 => ?_)
    · rw [if_neg hc2] at h
      refine zz_aload_n (i := 0) (pc := 19) C rfl rfl d_M_tucked_19 ?_
      refine zz_getR (pc := 20) C zl_12_35 zsh_79 rfl d_M_tucked_20 ?_
      refine zz_iload_n (i := 1) (pc := 23) C rfl rfl d_M_tucked_23 ?_
      obtain ⟨hi3, h⟩ := zz_ckE h
      refine zz_iald (pc := 24) C rfl zsh_87 hi3 d_M_tucked_24 ?_
      refine zz_istore_n (i := 3) (lo' := [some (.ref 79), some (.int a1), some (.int a2), some (.int (s.1 87 (a1.toNatClampNeg))), none, none, none, none]) (pc := 25) C rfl (Nat.le_of_ble_eq_true rfl) rfl rfl d_M_tucked_25 ?_
      refine zz_iconst (pc := 26) C zki_m1 d_M_tucked_26 ?_
      refine zz_istore (i := 4) (lo' := [some (.ref 79), some (.int a1), some (.int a2), some (.int (s.1 87 (a1.toNatClampNeg))), some (.int (-1 : Int32)), none, none, none]) (pc := 27) C (Nat.le_of_ble_eq_true rfl) rfl rfl d_M_tucked_27 ?_
      refine zz_iconst (pc := 29) C zki_0 d_M_tucked_29 ?_
      refine zz_istore (i := 5) (lo' := [some (.ref 79), some (.int a1), some (.int a2), some (.int (s.1 87 (a1.toNatClampNeg))), some (.int (-1 : Int32)), some (.int (0 : Int32)), none, none]) (pc := 30) C (Nat.le_of_ble_eq_true rfl) rfl rfl d_M_tucked_30 ?_
      refine zz_iconst (pc := 32) C zki_0 d_M_tucked_32 ?_
      refine zz_istore (i := 6) (lo' := [some (.ref 79), some (.int a1), some (.int a2), some (.int (s.1 87 (a1.toNatClampNeg))), some (.int (-1 : Int32)), some (.int (0 : Int32)), some (.int (0 : Int32)), none]) (pc := 33) C (Nat.le_of_ble_eq_true rfl) rfl rfl d_M_tucked_33 ?_
      exact zf_M_tucked_L35 C zF a1 a2 (s.1 87 (a1.toNatClampNeg)) (-1 : Int32) (0 : Int32) (0 : Int32) s h
    · rw [if_pos hc2] at h
      refine zz_iconst (pc := 17) C zki_m1 d_M_tucked_17 ?_
      replace h := Option.some.inj h
      subst h
      exact zz_ret (pc := 18) C (v := some (.int (-1 : Int32))) d_M_tucked_18 (Or.inl ⟨_, _, rfl, rfl, rfl, rfl⟩) rfl
theorem zm_M_tucked {G : zz_G} {l : Launch} {s : zz_S} {q : Int32 × zz_S} {a1 : Int32} {a2 : Int32} (h : f_M_tucked a1 a2 s = some q) : zz_M G l 10 y_M_tucked prog_14_method_64_code 8 (some .int) [.ref 79, .int a1, .int a2] zsh s (some (.int q.1), zsh, q.2) :=
  zz_M.intro (by decide) (Nat.le_of_ble_eq_true rfl) (Nat.le_refl _) (Nat.le_refl _) (fun Z C => zf_M_tucked C a1 a2 h)
theorem d_M_turn_0 : decode prog_14_method_43_code 0 = .ok (.iload_n 1, 1) := by decide +kernel
theorem d_M_turn_1 : decode prog_14_method_43_code 1 = .ok (.iload_n 2, 1) := by decide +kernel
theorem d_M_turn_2 : decode prog_14_method_43_code 2 = .ok (.iload_n 3, 1) := by decide +kernel
theorem d_M_turn_3 : decode prog_14_method_43_code 3 = .ok (.invokestatic 280, 3) := by decide +kernel
theorem d_M_turn_6 : decode prog_14_method_43_code 6 = .ok (.ifCond .ne (5), 3) := by decide +kernel
theorem d_M_turn_9 : decode prog_14_method_43_code 9 = .ok (.iconst (-1), 1) := by decide +kernel
theorem d_M_turn_10 : decode prog_14_method_43_code 10 = .ok (.ireturn, 1) := by decide +kernel
theorem d_M_turn_11 : decode prog_14_method_43_code 11 = .ok (.aload_n 0, 1) := by decide +kernel
theorem d_M_turn_12 : decode prog_14_method_43_code 12 = .ok (.getfield 191, 3) := by decide +kernel
theorem d_M_turn_15 : decode prog_14_method_43_code 15 = .ok (.bipush (60), 2) := by decide +kernel
theorem d_M_turn_17 : decode prog_14_method_43_code 17 = .ok (.if_icmp .ne (8), 3) := by decide +kernel
theorem d_M_turn_20 : decode prog_14_method_43_code 20 = .ok (.bipush (-3), 2) := by decide +kernel
theorem d_M_turn_22 : decode prog_14_method_43_code 22 = .ok (.goto (10), 3) := by decide +kernel
theorem d_M_turn_25 : decode prog_14_method_43_code 25 = .ok (.aload_n 0, 1) := by decide +kernel
theorem d_M_turn_26 : decode prog_14_method_43_code 26 = .ok (.iload_n 1, 1) := by decide +kernel
theorem d_M_turn_27 : decode prog_14_method_43_code 27 = .ok (.iload_n 2, 1) := by decide +kernel
theorem d_M_turn_28 : decode prog_14_method_43_code 28 = .ok (.iload_n 3, 1) := by decide +kernel
theorem d_M_turn_29 : decode prog_14_method_43_code 29 = .ok (.invokevirtual 283, 3) := by decide +kernel
theorem d_M_turn_32 : decode prog_14_method_43_code 32 = .ok (.ireturn, 1) := by decide +kernel
set_option maxHeartbeats 4000000 in
set_option maxRecDepth 100000 in
theorem zf_M_turn {G : zz_G} {l : Launch} {Z : zz_Z} {q : Int32 × zz_S} {s : zz_S} (C : zz_Cx G l "OneBlanketModel" "turn" prog_14_method_43_code 4 (some .int) 5 (some (.int q.1), zsh, q.2) Z) (a1 : Int32) (a2 : Int32) (a3 : Int32) (h : f_M_turn a1 a2 a3 s = some q) : Z 0 [some (.ref 79), some (.int a1), some (.int a2), some (.int a3)] [] zsh s := by
  unfold f_M_turn at h
  refine zz_iload_n (i := 1) (pc := 0) C rfl rfl d_M_turn_0 ?_
  refine zz_iload_n (i := 2) (pc := 1) C rfl rfl d_M_turn_1 ?_
  refine zz_iload_n (i := 3) (pc := 2) C rfl rfl d_M_turn_2 ?_
  refine zz_cSi (as := [.int a1, .int a2, .int a3]) (st := []) (pc := 3) C (zm_M_isTurn rfl) zcs_M_isTurn zl_12_280 (by omega) (Nat.le_of_ble_eq_true rfl) d_M_turn_3 rfl rfl ?_
  refine zz_if_ne (tgt := 11) (pc := 6) C (by decide) d_M_turn_6 (fun hc1 => ?_) (fun hc1 => ?_)
  · rw [if_neg hc1] at h
    refine zz_aload_n (i := 0) (pc := 11) C rfl rfl d_M_turn_11 ?_
    refine zz_getI (pc := 12) C zl_12_191 zsh_79 rfl d_M_turn_12 ?_
    refine zz_bipush (pc := 15) C zkb_60 d_M_turn_15 ?_
    refine zz_icmp_ne (tgt := 25) (pc := 17) C (by decide) d_M_turn_17 (fun hc2 => ?_) (fun hc2 => ?_)
    · rw [if_neg hc2] at h
      refine zz_aload_n (i := 0) (pc := 25) C rfl rfl d_M_turn_25 ?_
      refine zz_iload_n (i := 1) (pc := 26) C rfl rfl d_M_turn_26 ?_
      refine zz_iload_n (i := 2) (pc := 27) C rfl rfl d_M_turn_27 ?_
      refine zz_iload_n (i := 3) (pc := 28) C rfl rfl d_M_turn_28 ?_
      obtain ⟨q3, hq3, h⟩ := zz_bdE h
      refine zz_cVi (as := [.int a1, .int a2, .int a3]) (st := []) (pc := 29) C (zm_M_addTurn hq3) zcv_M_addTurn zsh_79 zl_12_283 (by omega) (Nat.le_of_ble_eq_true rfl) d_M_turn_29 rfl rfl ?_
      replace h := Option.some.inj h
      subst h
      exact zz_ret (pc := 32) C (v := some (.int q3.1)) d_M_turn_32 (Or.inl ⟨_, _, rfl, rfl, rfl, rfl⟩) rfl
    · rw [if_pos hc2] at h
      refine zz_bipush (pc := 20) C zkb_m3 d_M_turn_20 ?_
      refine zz_goto (tgt := 32) (pc := 22) C (by decide) d_M_turn_22 ?_
      replace h := Option.some.inj h
      subst h
      exact zz_ret (pc := 32) C (v := some (.int (-3 : Int32))) d_M_turn_32 (Or.inl ⟨_, _, rfl, rfl, rfl, rfl⟩) rfl
  · rw [if_pos hc1] at h
    refine zz_iconst (pc := 9) C zki_m1 d_M_turn_9 ?_
    replace h := Option.some.inj h
    subst h
    exact zz_ret (pc := 10) C (v := some (.int (-1 : Int32))) d_M_turn_10 (Or.inl ⟨_, _, rfl, rfl, rfl, rfl⟩) rfl
theorem zm_M_turn {G : zz_G} {l : Launch} {s : zz_S} {q : Int32 × zz_S} {a1 : Int32} {a2 : Int32} {a3 : Int32} (h : f_M_turn a1 a2 a3 s = some q) : zz_M G l 5 y_M_turn prog_14_method_43_code 4 (some .int) [.ref 79, .int a1, .int a2, .int a3] zsh s (some (.int q.1), zsh, q.2) :=
  zz_M.intro (by decide) (Nat.le_of_ble_eq_true rfl) (Nat.le_refl _) (Nat.le_refl _) (fun Z C => zf_M_turn C a1 a2 a3 h)
theorem d_M_undo_0 : decode prog_14_method_15_code 0 = .ok (.aload_n 0, 1) := by decide +kernel
theorem d_M_undo_1 : decode prog_14_method_15_code 1 = .ok (.getfield 172, 3) := by decide +kernel
theorem d_M_undo_4 : decode prog_14_method_15_code 4 = .ok (.ifCond .ne (6), 3) := by decide +kernel
theorem d_M_undo_7 : decode prog_14_method_15_code 7 = .ok (.bipush (-5), 2) := by decide +kernel
theorem d_M_undo_9 : decode prog_14_method_15_code 9 = .ok (.ireturn, 1) := by decide +kernel
theorem d_M_undo_10 : decode prog_14_method_15_code 10 = .ok (.aload_n 0, 1) := by decide +kernel
theorem d_M_undo_11 : decode prog_14_method_15_code 11 = .ok (.dup, 1) := by decide +kernel
theorem d_M_undo_12 : decode prog_14_method_15_code 12 = .ok (.getfield 172, 3) := by decide +kernel
theorem d_M_undo_15 : decode prog_14_method_15_code 15 = .ok (.iconst 1, 1) := by decide +kernel
theorem d_M_undo_16 : decode prog_14_method_15_code 16 = .ok (.isub, 1) := by decide +kernel
theorem d_M_undo_17 : decode prog_14_method_15_code 17 = .ok (.putfield 172, 3) := by decide +kernel
theorem d_M_undo_20 : decode prog_14_method_15_code 20 = .ok (.aload_n 0, 1) := by decide +kernel
theorem d_M_undo_21 : decode prog_14_method_15_code 21 = .ok (.dup, 1) := by decide +kernel
theorem d_M_undo_22 : decode prog_14_method_15_code 22 = .ok (.getfield 169, 3) := by decide +kernel
theorem d_M_undo_25 : decode prog_14_method_15_code 25 = .ok (.iconst 1, 1) := by decide +kernel
theorem d_M_undo_26 : decode prog_14_method_15_code 26 = .ok (.iadd, 1) := by decide +kernel
theorem d_M_undo_27 : decode prog_14_method_15_code 27 = .ok (.putfield 169, 3) := by decide +kernel
theorem d_M_undo_30 : decode prog_14_method_15_code 30 = .ok (.aload_n 0, 1) := by decide +kernel
theorem d_M_undo_31 : decode prog_14_method_15_code 31 = .ok (.aload_n 0, 1) := by decide +kernel
theorem d_M_undo_32 : decode prog_14_method_15_code 32 = .ok (.getfield 47, 3) := by decide +kernel
theorem d_M_undo_35 : decode prog_14_method_15_code 35 = .ok (.aload_n 0, 1) := by decide +kernel
theorem d_M_undo_36 : decode prog_14_method_15_code 36 = .ok (.getfield 172, 3) := by decide +kernel
theorem d_M_undo_39 : decode prog_14_method_15_code 39 = .ok (.iaload, 1) := by decide +kernel
theorem d_M_undo_40 : decode prog_14_method_15_code 40 = .ok (.aload_n 0, 1) := by decide +kernel
theorem d_M_undo_41 : decode prog_14_method_15_code 41 = .ok (.getfield 50, 3) := by decide +kernel
theorem d_M_undo_44 : decode prog_14_method_15_code 44 = .ok (.aload_n 0, 1) := by decide +kernel
theorem d_M_undo_45 : decode prog_14_method_15_code 45 = .ok (.getfield 172, 3) := by decide +kernel
theorem d_M_undo_48 : decode prog_14_method_15_code 48 = .ok (.iaload, 1) := by decide +kernel
theorem d_M_undo_49 : decode prog_14_method_15_code 49 = .ok (.aload_n 0, 1) := by decide +kernel
theorem d_M_undo_50 : decode prog_14_method_15_code 50 = .ok (.getfield 53, 3) := by decide +kernel
theorem d_M_undo_53 : decode prog_14_method_15_code 53 = .ok (.aload_n 0, 1) := by decide +kernel
theorem d_M_undo_54 : decode prog_14_method_15_code 54 = .ok (.getfield 172, 3) := by decide +kernel
theorem d_M_undo_57 : decode prog_14_method_15_code 57 = .ok (.iaload, 1) := by decide +kernel
theorem d_M_undo_58 : decode prog_14_method_15_code 58 = .ok (.invokevirtual 175, 3) := by decide +kernel
theorem d_M_undo_61 : decode prog_14_method_15_code 61 = .ok (.aload_n 0, 1) := by decide +kernel
theorem d_M_undo_62 : decode prog_14_method_15_code 62 = .ok (.getfield 172, 3) := by decide +kernel
theorem d_M_undo_65 : decode prog_14_method_15_code 65 = .ok (.ireturn, 1) := by decide +kernel
set_option maxHeartbeats 4000000 in
set_option maxRecDepth 100000 in
theorem zf_M_undo {G : zz_G} {l : Launch} {Z : zz_Z} {q : Int32 × zz_S} {s : zz_S} (C : zz_Cx G l "OneBlanketModel" "undo" prog_14_method_15_code 1 (some .int) 3 (some (.int q.1), zsh, q.2) Z) (h : f_M_undo s = some q) : Z 0 [some (.ref 79)] [] zsh s := by
  unfold f_M_undo at h
  refine zz_aload_n (i := 0) (pc := 0) C rfl rfl d_M_undo_0 ?_
  refine zz_getI (pc := 1) C zl_12_172 zsh_79 rfl d_M_undo_1 ?_
  refine zz_if_ne (tgt := 10) (pc := 4) C (by decide) d_M_undo_4 (fun hc1 => ?_) (fun hc1 => ?_)
  · rw [if_neg hc1] at h
    refine zz_aload_n (i := 0) (pc := 10) C rfl rfl d_M_undo_10 ?_
    refine zz_dup (pc := 11) C rfl d_M_undo_11 ?_
    refine zz_getI (pc := 12) C zl_12_172 zsh_79 rfl d_M_undo_12 ?_
    refine zz_iconst (pc := 15) C zki_1 d_M_undo_15 ?_
    refine zz_isub (pc := 16) C d_M_undo_16 ?_
    refine zz_putI' (pc := 17) C zl_12_172 zpf_12_16 zsh_79 rfl d_M_undo_17 ?_
    refine zz_aload_n (i := 0) (pc := 20) C rfl rfl d_M_undo_20 ?_
    refine zz_dup (pc := 21) C rfl d_M_undo_21 ?_
    refine zz_getIv (v := (s.1 79 17)) (pc := 22) C zl_12_169 zsh_79 rfl rfl d_M_undo_22 ?_
    refine zz_iconst (pc := 25) C zki_1 d_M_undo_25 ?_
    refine zz_iadd (pc := 26) C d_M_undo_26 ?_
    refine zz_putI' (pc := 27) C zl_12_169 zpf_12_17 zsh_79 rfl d_M_undo_27 ?_
    refine zz_aload_n (i := 0) (pc := 30) C rfl rfl d_M_undo_30 ?_
    refine zz_aload_n (i := 0) (pc := 31) C rfl rfl d_M_undo_31 ?_
    refine zz_getR (pc := 32) C zl_12_47 zsh_79 rfl d_M_undo_32 ?_
    refine zz_aload_n (i := 0) (pc := 35) C rfl rfl d_M_undo_35 ?_
    refine zz_getIv (v := ((s.1 79 16) - (1 : Int32))) (pc := 36) C zl_12_172 zsh_79 rfl rfl d_M_undo_36 ?_
    obtain ⟨hi2, h⟩ := zz_ckE h
    refine zz_ialdv (v := (s.1 91 (((s.1 79 16) - (1 : Int32)).toNatClampNeg))) (pc := 39) C rfl zsh_91 hi2 rfl d_M_undo_39 ?_
    refine zz_aload_n (i := 0) (pc := 40) C rfl rfl d_M_undo_40 ?_
    refine zz_getR (pc := 41) C zl_12_50 zsh_79 rfl d_M_undo_41 ?_
    refine zz_aload_n (i := 0) (pc := 44) C rfl rfl d_M_undo_44 ?_
    refine zz_getIv (v := ((s.1 79 16) - (1 : Int32))) (pc := 45) C zl_12_172 zsh_79 rfl rfl d_M_undo_45 ?_
    refine zz_ialdv (v := (s.1 92 (((s.1 79 16) - (1 : Int32)).toNatClampNeg))) (pc := 48) C rfl zsh_92 hi2 rfl d_M_undo_48 ?_
    refine zz_aload_n (i := 0) (pc := 49) C rfl rfl d_M_undo_49 ?_
    refine zz_getR (pc := 50) C zl_12_53 zsh_79 rfl d_M_undo_50 ?_
    refine zz_aload_n (i := 0) (pc := 53) C rfl rfl d_M_undo_53 ?_
    refine zz_getIv (v := ((s.1 79 16) - (1 : Int32))) (pc := 54) C zl_12_172 zsh_79 rfl rfl d_M_undo_54 ?_
    refine zz_ialdv (v := (s.1 93 (((s.1 79 16) - (1 : Int32)).toNatClampNeg))) (pc := 57) C rfl zsh_93 hi2 rfl d_M_undo_57 ?_
    obtain ⟨q3, hq3, h⟩ := zz_bdE h
    refine zz_cVv (as := [.int (s.1 91 (((s.1 79 16) - (1 : Int32)).toNatClampNeg)), .int (s.1 92 (((s.1 79 16) - (1 : Int32)).toNatClampNeg)), .int (s.1 93 (((s.1 79 16) - (1 : Int32)).toNatClampNeg))]) (st := []) (pc := 58) C (zm_M_lays hq3) zcv_M_lays zsh_79 zl_12_175 (by omega) (Nat.le_of_ble_eq_true rfl) d_M_undo_58 rfl rfl ?_
    refine zz_aload_n (i := 0) (pc := 61) C rfl rfl d_M_undo_61 ?_
    refine zz_getI (pc := 62) C zl_12_172 zsh_79 rfl d_M_undo_62 ?_
    replace h := Option.some.inj h
    subst h
    exact zz_ret (pc := 65) C (v := some (.int (q3.1 79 16))) d_M_undo_65 (Or.inl ⟨_, _, rfl, rfl, rfl, rfl⟩) rfl
  · rw [if_pos hc1] at h
    refine zz_bipush (pc := 7) C zkb_m5 d_M_undo_7 ?_
    replace h := Option.some.inj h
    subst h
    exact zz_ret (pc := 9) C (v := some (.int (-5 : Int32))) d_M_undo_9 (Or.inl ⟨_, _, rfl, rfl, rfl, rfl⟩) rfl
theorem zm_M_undo {G : zz_G} {l : Launch} {s : zz_S} {q : Int32 × zz_S} (h : f_M_undo s = some q) : zz_M G l 3 y_M_undo prog_14_method_15_code 1 (some .int) [.ref 79] zsh s (some (.int q.1), zsh, q.2) :=
  zz_M.intro (by decide) (Nat.le_of_ble_eq_true rfl) (Nat.le_refl _) (Nat.le_refl _) (fun Z C => zf_M_undo C h)
theorem d_M_wakes_0 : decode prog_14_method_58_code 0 = .ok (.aload_n 0, 1) := by decide +kernel
theorem d_M_wakes_1 : decode prog_14_method_58_code 1 = .ok (.iload_n 1, 1) := by decide +kernel
theorem d_M_wakes_2 : decode prog_14_method_58_code 2 = .ok (.invokevirtual 179, 3) := by decide +kernel
theorem d_M_wakes_5 : decode prog_14_method_58_code 5 = .ok (.ifCond .eq (12), 3) := by decide +kernel
theorem d_M_wakes_8 : decode prog_14_method_58_code 8 = .ok (.iload_n 2, 1) := by decide +kernel
theorem d_M_wakes_9 : decode prog_14_method_58_code 9 = .ok (.iconst 0, 1) := by decide +kernel
theorem d_M_wakes_10 : decode prog_14_method_58_code 10 = .ok (.iconst 1, 1) := by decide +kernel
theorem d_M_wakes_11 : decode prog_14_method_58_code 11 = .ok (.invokestatic 158, 3) := by decide +kernel
theorem d_M_wakes_14 : decode prog_14_method_58_code 14 = .ok (.ifCond .ne (6), 3) := by decide +kernel
theorem d_M_wakes_17 : decode prog_14_method_58_code 17 = .ok (.ldc 190, 2) := by decide +kernel
theorem d_M_wakes_19 : decode prog_14_method_58_code 19 = .ok (.ireturn, 1) := by decide +kernel
theorem d_M_wakes_20 : decode prog_14_method_58_code 20 = .ok (.aload_n 0, 1) := by decide +kernel
theorem d_M_wakes_21 : decode prog_14_method_58_code 21 = .ok (.sipush (479), 3) := by decide +kernel
theorem d_M_wakes_24 : decode prog_14_method_58_code 24 = .ok (.invokevirtual 323, 3) := by decide +kernel
theorem d_M_wakes_27 : decode prog_14_method_58_code 27 = .ok (.iload_n 2, 1) := by decide +kernel
theorem d_M_wakes_28 : decode prog_14_method_58_code 28 = .ok (.ifCond .ne (12), 3) := by decide +kernel
theorem d_M_wakes_31 : decode prog_14_method_58_code 31 = .ok (.aload_n 0, 1) := by decide +kernel
theorem d_M_wakes_32 : decode prog_14_method_58_code 32 = .ok (.getfield 112, 3) := by decide +kernel
theorem d_M_wakes_35 : decode prog_14_method_58_code 35 = .ok (.iload_n 1, 1) := by decide +kernel
theorem d_M_wakes_36 : decode prog_14_method_58_code 36 = .ok (.iaload, 1) := by decide +kernel
theorem d_M_wakes_37 : decode prog_14_method_58_code 37 = .ok (.goto (9), 3) := by decide +kernel
theorem d_M_wakes_40 : decode prog_14_method_58_code 40 = .ok (.aload_n 0, 1) := by decide +kernel
theorem d_M_wakes_41 : decode prog_14_method_58_code 41 = .ok (.getfield 115, 3) := by decide +kernel
theorem d_M_wakes_44 : decode prog_14_method_58_code 44 = .ok (.iload_n 1, 1) := by decide +kernel
theorem d_M_wakes_45 : decode prog_14_method_58_code 45 = .ok (.iaload, 1) := by decide +kernel
theorem d_M_wakes_46 : decode prog_14_method_58_code 46 = .ok (.ireturn, 1) := by decide +kernel
set_option maxHeartbeats 4000000 in
set_option maxRecDepth 100000 in
theorem zf_M_wakes {G : zz_G} {l : Launch} {Z : zz_Z} {q : Int32 × zz_S} {s : zz_S} (C : zz_Cx G l "OneBlanketModel" "wakes" prog_14_method_58_code 3 (some .int) 9 (some (.int q.1), zsh, q.2) Z) (a1 : Int32) (a2 : Int32) (h : f_M_wakes a1 a2 s = some q) : Z 0 [some (.ref 79), some (.int a1), some (.int a2)] [] zsh s := by
  unfold f_M_wakes at h
  refine zz_aload_n (i := 0) (pc := 0) C rfl rfl d_M_wakes_0 ?_
  refine zz_iload_n (i := 1) (pc := 1) C rfl rfl d_M_wakes_1 ?_
  refine zz_cVi (as := [.int a1]) (st := []) (pc := 2) C (zm_M_isSleeper rfl) zcv_M_isSleeper zsh_79 zl_12_179 (by omega) (Nat.le_of_ble_eq_true rfl) d_M_wakes_2 rfl rfl ?_
  refine zz_if_eq (tgt := 17) (pc := 5) C (by decide) d_M_wakes_5 (fun hc1 => ?_) (fun hc1 => ?_)
  · rw [if_pos hc1] at h
    refine zz_ldc (pc := 17) C zl_12_190 d_M_wakes_17 ?_
    replace h := Option.some.inj h
    subst h
    exact zz_ret (pc := 19) C (v := some (.int (-2000000000 : Int32))) d_M_wakes_19 (Or.inl ⟨_, _, rfl, rfl, rfl, rfl⟩) rfl
  · rw [if_neg hc1] at h
    refine zz_iload_n (i := 2) (pc := 8) C rfl rfl d_M_wakes_8 ?_
    refine zz_iconst (pc := 9) C zki_0 d_M_wakes_9 ?_
    refine zz_iconst (pc := 10) C zki_1 d_M_wakes_10 ?_
    refine zz_cSi (as := [.int a2, .int (0 : Int32), .int (1 : Int32)]) (st := []) (pc := 11) C (zm_M_in rfl) zcs_M_in zl_12_158 (by omega) (Nat.le_of_ble_eq_true rfl) d_M_wakes_11 rfl rfl ?_
    refine zz_if_ne (tgt := 20) (pc := 14) C (by decide) d_M_wakes_14 (fun hc2 => ?_) (fun hc2 => ?_)
    · rw [if_neg hc2] at h
      refine zz_aload_n (i := 0) (pc := 20) C rfl rfl d_M_wakes_20 ?_
      refine zz_sipush (pc := 21) C zks_479 d_M_wakes_21 ?_
      obtain ⟨q3, hq3, h⟩ := zz_bdE h
      refine zz_cVv (as := [.int (479 : Int32)]) (st := []) (pc := 24) C (zm_M_night hq3) zcv_M_night zsh_79 zl_12_323 (by omega) (Nat.le_of_ble_eq_true rfl) d_M_wakes_24 rfl rfl ?_
      refine zz_iload_n (i := 2) (pc := 27) C rfl rfl d_M_wakes_27 ?_
      refine zz_if_ne (tgt := 40) (pc := 28) C (by decide) d_M_wakes_28 (fun hc4 => ?_) (fun hc4 => ?_)
      · rw [if_neg hc4] at h
        refine zz_aload_n (i := 0) (pc := 40) C rfl rfl d_M_wakes_40 ?_
        refine zz_getR (pc := 41) C zl_12_115 zsh_79 rfl d_M_wakes_41 ?_
        refine zz_iload_n (i := 1) (pc := 44) C rfl rfl d_M_wakes_44 ?_
        obtain ⟨hi5, h⟩ := zz_ckE h
        refine zz_iald (pc := 45) C rfl zsh_112 hi5 d_M_wakes_45 ?_
        replace h := Option.some.inj h
        subst h
        exact zz_ret (pc := 46) C (v := some (.int (q3.1 112 (a1.toNatClampNeg)))) d_M_wakes_46 (Or.inl ⟨_, _, rfl, rfl, rfl, rfl⟩) rfl
      · rw [if_pos hc4] at h
        refine zz_aload_n (i := 0) (pc := 31) C rfl rfl d_M_wakes_31 ?_
        refine zz_getR (pc := 32) C zl_12_112 zsh_79 rfl d_M_wakes_32 ?_
        refine zz_iload_n (i := 1) (pc := 35) C rfl rfl d_M_wakes_35 ?_
        obtain ⟨hi6, h⟩ := zz_ckE h
        refine zz_iald (pc := 36) C rfl zsh_111 hi6 d_M_wakes_36 ?_
        refine zz_goto (tgt := 46) (pc := 37) C (by decide) d_M_wakes_37 ?_
        replace h := Option.some.inj h
        subst h
        exact zz_ret (pc := 46) C (v := some (.int (q3.1 111 (a1.toNatClampNeg)))) d_M_wakes_46 (Or.inl ⟨_, _, rfl, rfl, rfl, rfl⟩) rfl
    · rw [if_pos hc2] at h
      refine zz_ldc (pc := 17) C zl_12_190 d_M_wakes_17 ?_
      replace h := Option.some.inj h
      subst h
      exact zz_ret (pc := 19) C (v := some (.int (-2000000000 : Int32))) d_M_wakes_19 (Or.inl ⟨_, _, rfl, rfl, rfl, rfl⟩) rfl
theorem zm_M_wakes {G : zz_G} {l : Launch} {s : zz_S} {q : Int32 × zz_S} {a1 : Int32} {a2 : Int32} (h : f_M_wakes a1 a2 s = some q) : zz_M G l 9 y_M_wakes prog_14_method_58_code 3 (some .int) [.ref 79, .int a1, .int a2] zsh s (some (.int q.1), zsh, q.2) :=
  zz_M.intro (by decide) (Nat.le_of_ble_eq_true rfl) (Nat.le_refl _) (Nat.le_refl _) (fun Z C => zf_M_wakes C a1 a2 h)
theorem d_M_wide_0 : decode prog_14_method_9_code 0 = .ok (.iload_n 1, 1) := by decide +kernel
theorem d_M_wide_1 : decode prog_14_method_9_code 1 = .ok (.bipush (20), 2) := by decide +kernel
theorem d_M_wide_3 : decode prog_14_method_9_code 3 = .ok (.bipush (60), 2) := by decide +kernel
theorem d_M_wide_5 : decode prog_14_method_9_code 5 = .ok (.invokestatic 158, 3) := by decide +kernel
theorem d_M_wide_8 : decode prog_14_method_9_code 8 = .ok (.ifCond .ne (5), 3) := by decide +kernel
theorem d_M_wide_11 : decode prog_14_method_9_code 11 = .ok (.iconst (-1), 1) := by decide +kernel
theorem d_M_wide_12 : decode prog_14_method_9_code 12 = .ok (.ireturn, 1) := by decide +kernel
theorem d_M_wide_13 : decode prog_14_method_9_code 13 = .ok (.aload_n 0, 1) := by decide +kernel
theorem d_M_wide_14 : decode prog_14_method_9_code 14 = .ok (.getfield 155, 3) := by decide +kernel
theorem d_M_wide_17 : decode prog_14_method_9_code 17 = .ok (.ifCond .le (6), 3) := by decide +kernel
theorem d_M_wide_20 : decode prog_14_method_9_code 20 = .ok (.bipush (-5), 2) := by decide +kernel
theorem d_M_wide_22 : decode prog_14_method_9_code 22 = .ok (.ireturn, 1) := by decide +kernel
theorem d_M_wide_23 : decode prog_14_method_9_code 23 = .ok (.aload_n 0, 1) := by decide +kernel
theorem d_M_wide_24 : decode prog_14_method_9_code 24 = .ok (.getfield 7, 3) := by decide +kernel
theorem d_M_wide_27 : decode prog_14_method_9_code 27 = .ok (.istore_n 2, 1) := by decide +kernel
theorem d_M_wide_28 : decode prog_14_method_9_code 28 = .ok (.aload_n 0, 1) := by decide +kernel
theorem d_M_wide_29 : decode prog_14_method_9_code 29 = .ok (.iload_n 1, 1) := by decide +kernel
theorem d_M_wide_30 : decode prog_14_method_9_code 30 = .ok (.putfield 7, 3) := by decide +kernel
theorem d_M_wide_33 : decode prog_14_method_9_code 33 = .ok (.iload_n 2, 1) := by decide +kernel
theorem d_M_wide_34 : decode prog_14_method_9_code 34 = .ok (.ireturn, 1) := by decide +kernel
set_option maxHeartbeats 4000000 in
set_option maxRecDepth 100000 in
theorem zf_M_wide {G : zz_G} {l : Launch} {Z : zz_Z} {q : Int32 × zz_S} {s : zz_S} (C : zz_Cx G l "OneBlanketModel" "wide" prog_14_method_9_code 3 (some .int) 3 (some (.int q.1), zsh, q.2) Z) (a1 : Int32) (h : f_M_wide a1 s = some q) : Z 0 [some (.ref 79), some (.int a1), none] [] zsh s := by
  unfold f_M_wide at h
  refine zz_iload_n (i := 1) (pc := 0) C rfl rfl d_M_wide_0 ?_
  refine zz_bipush (pc := 1) C zkb_20 d_M_wide_1 ?_
  refine zz_bipush (pc := 3) C zkb_60 d_M_wide_3 ?_
  refine zz_cSi (as := [.int a1, .int (20 : Int32), .int (60 : Int32)]) (st := []) (pc := 5) C (zm_M_in rfl) zcs_M_in zl_12_158 (by omega) (Nat.le_of_ble_eq_true rfl) d_M_wide_5 rfl rfl ?_
  refine zz_if_ne (tgt := 13) (pc := 8) C (by decide) d_M_wide_8 (fun hc1 => ?_) (fun hc1 => ?_)
  · rw [if_neg hc1] at h
    refine zz_aload_n (i := 0) (pc := 13) C rfl rfl d_M_wide_13 ?_
    refine zz_getI (pc := 14) C zl_12_155 zsh_79 rfl d_M_wide_14 ?_
    refine zz_if_le (tgt := 23) (pc := 17) C (by decide) d_M_wide_17 (fun hc2 => ?_) (fun hc2 => ?_)
    · rw [if_pos hc2] at h
      refine zz_aload_n (i := 0) (pc := 23) C rfl rfl d_M_wide_23 ?_
      refine zz_getI (pc := 24) C zl_12_7 zsh_79 rfl d_M_wide_24 ?_
      refine zz_istore_n (i := 2) (lo' := [some (.ref 79), some (.int a1), some (.int (s.1 79 1))]) (pc := 27) C rfl (Nat.le_of_ble_eq_true rfl) rfl rfl d_M_wide_27 ?_
      refine zz_aload_n (i := 0) (pc := 28) C rfl rfl d_M_wide_28 ?_
      refine zz_iload_n (i := 1) (pc := 29) C rfl rfl d_M_wide_29 ?_
      refine zz_putI' (pc := 30) C zl_12_7 zpf_12_1 zsh_79 rfl d_M_wide_30 ?_
      refine zz_iload_n (i := 2) (pc := 33) C rfl rfl d_M_wide_33 ?_
      replace h := Option.some.inj h
      subst h
      exact zz_ret (pc := 34) C (v := some (.int (s.1 79 1))) d_M_wide_34 (Or.inl ⟨_, _, rfl, rfl, rfl, rfl⟩) rfl
    · rw [if_neg hc2] at h
      refine zz_bipush (pc := 20) C zkb_m5 d_M_wide_20 ?_
      replace h := Option.some.inj h
      subst h
      exact zz_ret (pc := 22) C (v := some (.int (-5 : Int32))) d_M_wide_22 (Or.inl ⟨_, _, rfl, rfl, rfl, rfl⟩) rfl
  · rw [if_pos hc1] at h
    refine zz_iconst (pc := 11) C zki_m1 d_M_wide_11 ?_
    replace h := Option.some.inj h
    subst h
    exact zz_ret (pc := 12) C (v := some (.int (-1 : Int32))) d_M_wide_12 (Or.inl ⟨_, _, rfl, rfl, rfl, rfl⟩) rfl
theorem zm_M_wide {G : zz_G} {l : Launch} {s : zz_S} {q : Int32 × zz_S} {a1 : Int32} (h : f_M_wide a1 s = some q) : zz_M G l 3 y_M_wide prog_14_method_9_code 3 (some .int) [.ref 79, .int a1] zsh s (some (.int q.1), zsh, q.2) :=
  zz_M.intro (by decide) (Nat.le_of_ble_eq_true rfl) (Nat.le_refl _) (Nat.le_refl _) (fun Z C => zf_M_wide C a1 h)
theorem d_M_window_0 : decode prog_14_method_65_code 0 = .ok (.iload_n 1, 1) := by decide +kernel
theorem d_M_window_1 : decode prog_14_method_65_code 1 = .ok (.iconst 0, 1) := by decide +kernel
theorem d_M_window_2 : decode prog_14_method_65_code 2 = .ok (.iconst 1, 1) := by decide +kernel
theorem d_M_window_3 : decode prog_14_method_65_code 3 = .ok (.invokestatic 158, 3) := by decide +kernel
theorem d_M_window_6 : decode prog_14_method_65_code 6 = .ok (.ifCond .eq (10), 3) := by decide +kernel
theorem d_M_window_9 : decode prog_14_method_65_code 9 = .ok (.aload_n 0, 1) := by decide +kernel
theorem d_M_window_10 : decode prog_14_method_65_code 10 = .ok (.getfield 155, 3) := by decide +kernel
theorem d_M_window_13 : decode prog_14_method_65_code 13 = .ok (.ifCond .ne (6), 3) := by decide +kernel
theorem d_M_window_16 : decode prog_14_method_65_code 16 = .ok (.ldc 190, 2) := by decide +kernel
theorem d_M_window_18 : decode prog_14_method_65_code 18 = .ok (.ireturn, 1) := by decide +kernel
theorem d_M_window_19 : decode prog_14_method_65_code 19 = .ok (.iconst 0, 1) := by decide +kernel
theorem d_M_window_20 : decode prog_14_method_65_code 20 = .ok (.istore_n 2, 1) := by decide +kernel
theorem d_M_window_21 : decode prog_14_method_65_code 21 = .ok (.iconst (-1), 1) := by decide +kernel
theorem d_M_window_22 : decode prog_14_method_65_code 22 = .ok (.istore_n 3, 1) := by decide +kernel
theorem d_M_window_23 : decode prog_14_method_65_code 23 = .ok (.bipush (-9), 2) := by decide +kernel
theorem d_M_window_25 : decode prog_14_method_65_code 25 = .ok (.istore 4, 2) := by decide +kernel
theorem d_M_window_27 : decode prog_14_method_65_code 27 = .ok (.iload 4, 2) := by decide +kernel
theorem d_M_window_29 : decode prog_14_method_65_code 29 = .ok (.bipush (9), 2) := by decide +kernel
theorem d_M_window_31 : decode prog_14_method_65_code 31 = .ok (.if_icmp .gt (36), 3) := by decide +kernel
theorem d_M_window_34 : decode prog_14_method_65_code 34 = .ok (.aload_n 0, 1) := by decide +kernel
theorem d_M_window_35 : decode prog_14_method_65_code 35 = .ok (.iload 4, 2) := by decide +kernel
theorem d_M_window_37 : decode prog_14_method_65_code 37 = .ok (.putfield 268, 3) := by decide +kernel
theorem d_M_window_40 : decode prog_14_method_65_code 40 = .ok (.aload_n 0, 1) := by decide +kernel
theorem d_M_window_41 : decode prog_14_method_65_code 41 = .ok (.invokevirtual 332, 3) := by decide +kernel
theorem d_M_window_44 : decode prog_14_method_65_code 44 = .ok (.istore 5, 2) := by decide +kernel
theorem d_M_window_46 : decode prog_14_method_65_code 46 = .ok (.iload 5, 2) := by decide +kernel
theorem d_M_window_48 : decode prog_14_method_65_code 48 = .ok (.iload_n 3, 1) := by decide +kernel
theorem d_M_window_49 : decode prog_14_method_65_code 49 = .ok (.if_icmp .gt (6), 3) := by decide +kernel
theorem d_M_window_52 : decode prog_14_method_65_code 52 = .ok (.goto (9), 3) := by decide +kernel
theorem d_M_window_55 : decode prog_14_method_65_code 55 = .ok (.iload 4, 2) := by decide +kernel
theorem d_M_window_57 : decode prog_14_method_65_code 57 = .ok (.istore_n 2, 1) := by decide +kernel
theorem d_M_window_58 : decode prog_14_method_65_code 58 = .ok (.iload 5, 2) := by decide +kernel
theorem d_M_window_60 : decode prog_14_method_65_code 60 = .ok (.istore_n 3, 1) := by decide +kernel
theorem d_M_window_61 : decode prog_14_method_65_code 61 = .ok (.iinc 4 (1), 3) := by decide +kernel
theorem d_M_window_64 : decode prog_14_method_65_code 64 = .ok (.goto (-37), 3) := by decide +kernel
theorem d_M_window_67 : decode prog_14_method_65_code 67 = .ok (.aload_n 0, 1) := by decide +kernel
theorem d_M_window_68 : decode prog_14_method_65_code 68 = .ok (.iconst 0, 1) := by decide +kernel
theorem d_M_window_69 : decode prog_14_method_65_code 69 = .ok (.putfield 268, 3) := by decide +kernel
theorem d_M_window_72 : decode prog_14_method_65_code 72 = .ok (.iload_n 1, 1) := by decide +kernel
theorem d_M_window_73 : decode prog_14_method_65_code 73 = .ok (.ifCond .ne (7), 3) := by decide +kernel
theorem d_M_window_76 : decode prog_14_method_65_code 76 = .ok (.iload_n 2, 1) := by decide +kernel
theorem d_M_window_77 : decode prog_14_method_65_code 77 = .ok (.goto (4), 3) := by decide +kernel
theorem d_M_window_80 : decode prog_14_method_65_code 80 = .ok (.iload_n 3, 1) := by decide +kernel
theorem d_M_window_81 : decode prog_14_method_65_code 81 = .ok (.ireturn, 1) := by decide +kernel
set_option maxHeartbeats 4000000 in
set_option maxRecDepth 100000 in
theorem zf_M_window_L27 {G : zz_G} {l : Launch} {Z : zz_Z} {q : Int32 × zz_S} (C : zz_Cx G l "OneBlanketModel" "window" prog_14_method_65_code 6 (some .int) 10 (some (.int q.1), zsh, q.2) Z) : ∀ (n : Nat) (v1 : Int32) (v2 : Int32) (v3 : Int32) (v4 : Int32) (s : zz_S), f_M_window_L27 n v1 v2 v3 v4 s = some q → Z 27 [some (.ref 79), some (.int v1), some (.int v2), some (.int v3), some (.int v4), none] [] zsh s := by
  intro n
  induction n with
  | zero => intro v1 v2 v3 v4 s h; rw [f_M_window_L27] at h; cases h
  | succ n ih =>
  intro v1 v2 v3 v4 s h
  rw [f_M_window_L27] at h
  refine zz_iload (i := 4) (pc := 27) C rfl d_M_window_27 ?_
  refine zz_bipush (pc := 29) C zkb_9 d_M_window_29 ?_
  refine zz_icmp_gt (tgt := 67) (pc := 31) C (by decide) d_M_window_31 (fun hc3 => ?_) (fun hc3 => ?_)
  · rw [if_pos hc3] at h
    refine zz_aload_n (i := 0) (pc := 67) C rfl rfl d_M_window_67 ?_
    refine zz_iconst (pc := 68) C zki_0 d_M_window_68 ?_
    refine zz_putI' (pc := 69) C zl_12_268 zpf_12_38 zsh_79 rfl d_M_window_69 ?_
    refine zz_iload_n (i := 1) (pc := 72) C rfl rfl d_M_window_72 ?_
    refine zz_if_ne (tgt := 80) (pc := 73) C (by decide) d_M_window_73 (fun hc4 => ?_) (fun hc4 => ?_)
    · rw [if_neg hc4] at h
      refine zz_iload_n (i := 3) (pc := 80) C rfl rfl d_M_window_80 ?_
      replace h := Option.some.inj h
      subst h
      exact zz_ret (pc := 81) C (v := some (.int v3)) d_M_window_81 (Or.inl ⟨_, _, rfl, rfl, rfl, rfl⟩) rfl
    · rw [if_pos hc4] at h
      refine zz_iload_n (i := 2) (pc := 76) C rfl rfl d_M_window_76 ?_
      refine zz_goto (tgt := 81) (pc := 77) C (by decide) d_M_window_77 ?_
      replace h := Option.some.inj h
      subst h
      exact zz_ret (pc := 81) C (v := some (.int v2)) d_M_window_81 (Or.inl ⟨_, _, rfl, rfl, rfl, rfl⟩) rfl
  · rw [if_neg hc3] at h
    refine zz_aload_n (i := 0) (pc := 34) C rfl rfl d_M_window_34 ?_
    refine zz_iload (i := 4) (pc := 35) C rfl d_M_window_35 ?_
    refine zz_putI' (pc := 37) C zl_12_268 zpf_12_38 zsh_79 rfl d_M_window_37 ?_
    refine zz_aload_n (i := 0) (pc := 40) C rfl rfl d_M_window_40 ?_
    obtain ⟨q5, hq5, h⟩ := zz_bdE h
    refine zz_cVi (as := []) (st := []) (pc := 41) C (zm_M_leastEasy hq5) zcv_M_leastEasy zsh_79 zl_12_332 (by omega) (Nat.le_of_ble_eq_true rfl) d_M_window_41 rfl rfl ?_
    refine zz_istore (i := 5) (lo' := [some (.ref 79), some (.int v1), some (.int v2), some (.int v3), some (.int v4), some (.int q5.1)]) (pc := 44) C (Nat.le_of_ble_eq_true rfl) rfl rfl d_M_window_44 ?_
    refine zz_iload (i := 5) (pc := 46) C rfl d_M_window_46 ?_
    refine zz_iload_n (i := 3) (pc := 48) C rfl rfl d_M_window_48 ?_
    refine zz_icmp_gt (tgt := 55) (pc := 49) C (by decide) d_M_window_49 (fun hc6 => ?_) (fun hc6 => ?_)
    · rw [if_pos hc6] at h
      refine zz_iload (i := 4) (pc := 55) C rfl d_M_window_55 ?_
      refine zz_istore_n (i := 2) (lo' := [some (.ref 79), some (.int v1), some (.int v4), some (.int v3), some (.int v4), some (.int q5.1)]) (pc := 57) C rfl (Nat.le_of_ble_eq_true rfl) rfl rfl d_M_window_57 ?_
      refine zz_iload (i := 5) (pc := 58) C rfl d_M_window_58 ?_
      refine zz_istore_n (i := 3) (lo' := [some (.ref 79), some (.int v1), some (.int v4), some (.int q5.1), some (.int v4), some (.int q5.1)]) (pc := 60) C rfl (Nat.le_of_ble_eq_true rfl) rfl rfl d_M_window_60 ?_
      refine zz_iinc (lo' := [some (.ref 79), some (.int v1), some (.int v4), some (.int q5.1), some (.int (v4 + (1 : Int32))), some (.int q5.1)]) (pc := 61) C rfl (zz_inc zki_1) rfl rfl d_M_window_61 ?_
      refine zz_goto (tgt := 27) (pc := 64) C (by decide) d_M_window_64 ?_
      refine zz_fg C [true, true, true, true, true, false] rfl rfl ?_
      exact ih v1 v4 q5.1 (v4 + (1 : Int32)) q5.2 h
    · rw [if_neg hc6] at h
      refine zz_goto (tgt := 61) (pc := 52) C (by decide) d_M_window_52 ?_
      refine zz_iinc (lo' := [some (.ref 79), some (.int v1), some (.int v2), some (.int v3), some (.int (v4 + (1 : Int32))), some (.int q5.1)]) (pc := 61) C rfl (zz_inc zki_1) rfl rfl d_M_window_61 ?_
      refine zz_goto (tgt := 27) (pc := 64) C (by decide) d_M_window_64 ?_
      refine zz_fg C [true, true, true, true, true, false] rfl rfl ?_
      exact ih v1 v2 v3 (v4 + (1 : Int32)) q5.2 h
set_option maxHeartbeats 4000000 in
set_option maxRecDepth 100000 in
theorem zf_M_window {G : zz_G} {l : Launch} {Z : zz_Z} {q : Int32 × zz_S} {s : zz_S} (C : zz_Cx G l "OneBlanketModel" "window" prog_14_method_65_code 6 (some .int) 10 (some (.int q.1), zsh, q.2) Z) (a1 : Int32) (h : f_M_window a1 s = some q) : Z 0 [some (.ref 79), some (.int a1), none, none, none, none] [] zsh s := by
  unfold f_M_window at h
  refine zz_iload_n (i := 1) (pc := 0) C rfl rfl d_M_window_0 ?_
  refine zz_iconst (pc := 1) C zki_0 d_M_window_1 ?_
  refine zz_iconst (pc := 2) C zki_1 d_M_window_2 ?_
  refine zz_cSi (as := [.int a1, .int (0 : Int32), .int (1 : Int32)]) (st := []) (pc := 3) C (zm_M_in rfl) zcs_M_in zl_12_158 (by omega) (Nat.le_of_ble_eq_true rfl) d_M_window_3 rfl rfl ?_
  refine zz_if_eq (tgt := 16) (pc := 6) C (by decide) d_M_window_6 (fun hc1 => ?_) (fun hc1 => ?_)
  · rw [if_pos hc1] at h
    refine zz_ldc (pc := 16) C zl_12_190 d_M_window_16 ?_
    replace h := Option.some.inj h
    subst h
    exact zz_ret (pc := 18) C (v := some (.int (-2000000000 : Int32))) d_M_window_18 (Or.inl ⟨_, _, rfl, rfl, rfl, rfl⟩) rfl
  · rw [if_neg hc1] at h
    refine zz_aload_n (i := 0) (pc := 9) C rfl rfl d_M_window_9 ?_
    refine zz_getI (pc := 10) C zl_12_155 zsh_79 rfl d_M_window_10 ?_
    refine zz_if_ne (tgt := 19) (pc := 13) C (by decide) d_M_window_13 (fun hc2 => ?_) (fun hc2 => ?_)
    · rw [if_neg hc2] at h
      refine zz_iconst (pc := 19) C zki_0 d_M_window_19 ?_
      refine zz_istore_n (i := 2) (lo' := [some (.ref 79), some (.int a1), some (.int (0 : Int32)), none, none, none]) (pc := 20) C rfl (Nat.le_of_ble_eq_true rfl) rfl rfl d_M_window_20 ?_
      refine zz_iconst (pc := 21) C zki_m1 d_M_window_21 ?_
      refine zz_istore_n (i := 3) (lo' := [some (.ref 79), some (.int a1), some (.int (0 : Int32)), some (.int (-1 : Int32)), none, none]) (pc := 22) C rfl (Nat.le_of_ble_eq_true rfl) rfl rfl d_M_window_22 ?_
      refine zz_bipush (pc := 23) C zkb_m9 d_M_window_23 ?_
      refine zz_istore (i := 4) (lo' := [some (.ref 79), some (.int a1), some (.int (0 : Int32)), some (.int (-1 : Int32)), some (.int (-9 : Int32)), none]) (pc := 25) C (Nat.le_of_ble_eq_true rfl) rfl rfl d_M_window_25 ?_
      exact zf_M_window_L27 C zF a1 (0 : Int32) (-1 : Int32) (-9 : Int32) s h
    · rw [if_pos hc2] at h
      refine zz_ldc (pc := 16) C zl_12_190 d_M_window_16 ?_
      replace h := Option.some.inj h
      subst h
      exact zz_ret (pc := 18) C (v := some (.int (-2000000000 : Int32))) d_M_window_18 (Or.inl ⟨_, _, rfl, rfl, rfl, rfl⟩) rfl
theorem zm_M_window {G : zz_G} {l : Launch} {s : zz_S} {q : Int32 × zz_S} {a1 : Int32} (h : f_M_window a1 s = some q) : zz_M G l 10 y_M_window prog_14_method_65_code 6 (some .int) [.ref 79, .int a1] zsh s (some (.int q.1), zsh, q.2) :=
  zz_M.intro (by decide) (Nat.le_of_ble_eq_true rfl) (Nat.le_refl _) (Nat.le_refl _) (fun Z C => zf_M_window C a1 h)
