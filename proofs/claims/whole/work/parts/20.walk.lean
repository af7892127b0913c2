theorem d_Bed_addCover_0 : decode prog_2_method_5_code 0 = .ok (.aload_n 0, 1) := by decide +kernel
theorem d_Bed_addCover_1 : decode prog_2_method_5_code 1 = .ok (.getfield 28, 3) := by decide +kernel
theorem d_Bed_addCover_4 : decode prog_2_method_5_code 4 = .ok (.aload_n 0, 1) := by decide +kernel
theorem d_Bed_addCover_5 : decode prog_2_method_5_code 5 = .ok (.getfield 43, 3) := by decide +kernel
theorem d_Bed_addCover_8 : decode prog_2_method_5_code 8 = .ok (.iload_n 1, 1) := by decide +kernel
theorem d_Bed_addCover_9 : decode prog_2_method_5_code 9 = .ok (.iastore, 1) := by decide +kernel
theorem d_Bed_addCover_10 : decode prog_2_method_5_code 10 = .ok (.aload_n 0, 1) := by decide +kernel
theorem d_Bed_addCover_11 : decode prog_2_method_5_code 11 = .ok (.getfield 31, 3) := by decide +kernel
theorem d_Bed_addCover_14 : decode prog_2_method_5_code 14 = .ok (.aload_n 0, 1) := by decide +kernel
theorem d_Bed_addCover_15 : decode prog_2_method_5_code 15 = .ok (.getfield 43, 3) := by decide +kernel
theorem d_Bed_addCover_18 : decode prog_2_method_5_code 18 = .ok (.iload_n 2, 1) := by decide +kernel
theorem d_Bed_addCover_19 : decode prog_2_method_5_code 19 = .ok (.iastore, 1) := by decide +kernel
theorem d_Bed_addCover_20 : decode prog_2_method_5_code 20 = .ok (.aload_n 0, 1) := by decide +kernel
theorem d_Bed_addCover_21 : decode prog_2_method_5_code 21 = .ok (.getfield 34, 3) := by decide +kernel
theorem d_Bed_addCover_24 : decode prog_2_method_5_code 24 = .ok (.aload_n 0, 1) := by decide +kernel
theorem d_Bed_addCover_25 : decode prog_2_method_5_code 25 = .ok (.getfield 43, 3) := by decide +kernel
theorem d_Bed_addCover_28 : decode prog_2_method_5_code 28 = .ok (.iload_n 3, 1) := by decide +kernel
theorem d_Bed_addCover_29 : decode prog_2_method_5_code 29 = .ok (.iastore, 1) := by decide +kernel
theorem d_Bed_addCover_30 : decode prog_2_method_5_code 30 = .ok (.aload_n 0, 1) := by decide +kernel
theorem d_Bed_addCover_31 : decode prog_2_method_5_code 31 = .ok (.getfield 37, 3) := by decide +kernel
theorem d_Bed_addCover_34 : decode prog_2_method_5_code 34 = .ok (.aload_n 0, 1) := by decide +kernel
theorem d_Bed_addCover_35 : decode prog_2_method_5_code 35 = .ok (.getfield 43, 3) := by decide +kernel
theorem d_Bed_addCover_38 : decode prog_2_method_5_code 38 = .ok (.iload 4, 2) := by decide +kernel
theorem d_Bed_addCover_40 : decode prog_2_method_5_code 40 = .ok (.iastore, 1) := by decide +kernel
theorem d_Bed_addCover_41 : decode prog_2_method_5_code 41 = .ok (.aload_n 0, 1) := by decide +kernel
theorem d_Bed_addCover_42 : decode prog_2_method_5_code 42 = .ok (.dup, 1) := by decide +kernel
theorem d_Bed_addCover_43 : decode prog_2_method_5_code 43 = .ok (.getfield 43, 3) := by decide +kernel
theorem d_Bed_addCover_46 : decode prog_2_method_5_code 46 = .ok (.iconst 1, 1) := by decide +kernel
theorem d_Bed_addCover_47 : decode prog_2_method_5_code 47 = .ok (.iadd, 1) := by decide +kernel
theorem d_Bed_addCover_48 : decode prog_2_method_5_code 48 = .ok (.putfield 43, 3) := by decide +kernel
theorem d_Bed_addCover_51 : decode prog_2_method_5_code 51 = .ok (.aload_n 0, 1) := by decide +kernel
theorem d_Bed_addCover_52 : decode prog_2_method_5_code 52 = .ok (.getfield 43, 3) := by decide +kernel
theorem d_Bed_addCover_55 : decode prog_2_method_5_code 55 = .ok (.iconst 1, 1) := by decide +kernel
theorem d_Bed_addCover_56 : decode prog_2_method_5_code 56 = .ok (.isub, 1) := by decide +kernel
theorem d_Bed_addCover_57 : decode prog_2_method_5_code 57 = .ok (.ireturn, 1) := by decide +kernel
set_option maxHeartbeats 4000000 in
set_option maxRecDepth 100000 in
theorem zf_Bed_addCover {G : zz_G} {l : Launch} {Z : zz_Z} {q : Int32 × zz_S} {s : zz_S} (C : zz_Cx G l "OneBlanket$Bed" "addCover" prog_2_method_5_code 5 (some .int) 2 (some (.int q.1), zsh, q.2) Z) (a1 : Int32) (a2 : Int32) (a3 : Int32) (a4 : Int32) (h : f_Bed_addCover a1 a2 a3 a4 s = some q) : Z 0 [some (.ref 1), some (.int a1), some (.int a2), some (.int a3), some (.int a4)] [] zsh s := by
  unfold f_Bed_addCover at h
  refine zz_aload_n (i := 0) (pc := 0) C rfl rfl d_Bed_addCover_0 ?_
  refine zz_getR (pc := 1) C zl_0_28 zsh_1 rfl d_Bed_addCover_1 ?_
  refine zz_aload_n (i := 0) (pc := 4) C rfl rfl d_Bed_addCover_4 ?_
  refine zz_getI (pc := 5) C zl_0_43 zsh_1 rfl d_Bed_addCover_5 ?_
  refine zz_iload_n (i := 1) (pc := 8) C rfl rfl d_Bed_addCover_8 ?_
  obtain ⟨hi1, h⟩ := zz_ckE h
  refine zz_iast (pc := 9) C rfl zsh_6 hi1 d_Bed_addCover_9 ?_
  refine zz_aload_n (i := 0) (pc := 10) C rfl rfl d_Bed_addCover_10 ?_
  refine zz_getR (pc := 11) C zl_0_31 zsh_1 rfl d_Bed_addCover_11 ?_
  refine zz_aload_n (i := 0) (pc := 14) C rfl rfl d_Bed_addCover_14 ?_
  refine zz_getIv (v := (s.1 1 2)) (pc := 15) C zl_0_43 zsh_1 rfl rfl d_Bed_addCover_15 ?_
  refine zz_iload_n (i := 2) (pc := 18) C rfl rfl d_Bed_addCover_18 ?_
  refine zz_iast (pc := 19) C rfl zsh_7 hi1 d_Bed_addCover_19 ?_
  refine zz_aload_n (i := 0) (pc := 20) C rfl rfl d_Bed_addCover_20 ?_
  refine zz_getR (pc := 21) C zl_0_34 zsh_1 rfl d_Bed_addCover_21 ?_
  refine zz_aload_n (i := 0) (pc := 24) C rfl rfl d_Bed_addCover_24 ?_
  refine zz_getIv (v := (s.1 1 2)) (pc := 25) C zl_0_43 zsh_1 rfl rfl d_Bed_addCover_25 ?_
  refine zz_iload_n (i := 3) (pc := 28) C rfl rfl d_Bed_addCover_28 ?_
  refine zz_iast (pc := 29) C rfl zsh_8 hi1 d_Bed_addCover_29 ?_
  refine zz_aload_n (i := 0) (pc := 30) C rfl rfl d_Bed_addCover_30 ?_
  refine zz_getR (pc := 31) C zl_0_37 zsh_1 rfl d_Bed_addCover_31 ?_
  refine zz_aload_n (i := 0) (pc := 34) C rfl rfl d_Bed_addCover_34 ?_
  refine zz_getIv (v := (s.1 1 2)) (pc := 35) C zl_0_43 zsh_1 rfl rfl d_Bed_addCover_35 ?_
  refine zz_iload (i := 4) (pc := 38) C rfl d_Bed_addCover_38 ?_
  refine zz_iast (pc := 40) C rfl zsh_9 hi1 d_Bed_addCover_40 ?_
  refine zz_aload_n (i := 0) (pc := 41) C rfl rfl d_Bed_addCover_41 ?_
  refine zz_dup (pc := 42) C rfl d_Bed_addCover_42 ?_
  refine zz_getIv (v := (s.1 1 2)) (pc := 43) C zl_0_43 zsh_1 rfl rfl d_Bed_addCover_43 ?_
  refine zz_iconst (pc := 46) C zki_1 d_Bed_addCover_46 ?_
  refine zz_iadd (pc := 47) C d_Bed_addCover_47 ?_
  refine zz_putI' (pc := 48) C zl_0_43 zpf_0_2 zsh_1 rfl d_Bed_addCover_48 ?_
  refine zz_aload_n (i := 0) (pc := 51) C rfl rfl d_Bed_addCover_51 ?_
  refine zz_getIv (v := ((s.1 1 2) + (1 : Int32))) (pc := 52) C zl_0_43 zsh_1 rfl rfl d_Bed_addCover_52 ?_
  refine zz_iconst (pc := 55) C zki_1 d_Bed_addCover_55 ?_
  refine zz_isub (pc := 56) C d_Bed_addCover_56 ?_
  replace h := Option.some.inj h
  subst h
  exact zz_ret (pc := 57) C (v := some (.int (((s.1 1 2) + (1 : Int32)) - (1 : Int32)))) d_Bed_addCover_57 (Or.inl ⟨_, _, rfl, rfl, rfl, rfl⟩) rfl
theorem zm_Bed_addCover {G : zz_G} {l : Launch} {s : zz_S} {q : Int32 × zz_S} {a1 : Int32} {a2 : Int32} {a3 : Int32} {a4 : Int32} (h : f_Bed_addCover a1 a2 a3 a4 s = some q) : zz_M G l 2 y_Bed_addCover prog_2_method_5_code 5 (some .int) [.ref 1, .int a1, .int a2, .int a3, .int a4] zsh s (some (.int q.1), zsh, q.2) :=
  zz_M.intro (by decide) (Nat.le_of_ble_eq_true rfl) (Nat.le_refl _) (Nat.le_refl _) (fun Z C => zf_Bed_addCover C a1 a2 a3 a4 h)
theorem d_Bed_addSleeper_0 : decode prog_2_method_4_code 0 = .ok (.aload_n 0, 1) := by decide +kernel
theorem d_Bed_addSleeper_1 : decode prog_2_method_4_code 1 = .ok (.getfield 15, 3) := by decide +kernel
theorem d_Bed_addSleeper_4 : decode prog_2_method_4_code 4 = .ok (.aload_n 0, 1) := by decide +kernel
theorem d_Bed_addSleeper_5 : decode prog_2_method_4_code 5 = .ok (.getfield 40, 3) := by decide +kernel
theorem d_Bed_addSleeper_8 : decode prog_2_method_4_code 8 = .ok (.iload_n 1, 1) := by decide +kernel
theorem d_Bed_addSleeper_9 : decode prog_2_method_4_code 9 = .ok (.iastore, 1) := by decide +kernel
theorem d_Bed_addSleeper_10 : decode prog_2_method_4_code 10 = .ok (.aload_n 0, 1) := by decide +kernel
theorem d_Bed_addSleeper_11 : decode prog_2_method_4_code 11 = .ok (.getfield 19, 3) := by decide +kernel
theorem d_Bed_addSleeper_14 : decode prog_2_method_4_code 14 = .ok (.aload_n 0, 1) := by decide +kernel
theorem d_Bed_addSleeper_15 : decode prog_2_method_4_code 15 = .ok (.getfield 40, 3) := by decide +kernel
theorem d_Bed_addSleeper_18 : decode prog_2_method_4_code 18 = .ok (.iload_n 2, 1) := by decide +kernel
theorem d_Bed_addSleeper_19 : decode prog_2_method_4_code 19 = .ok (.iastore, 1) := by decide +kernel
theorem d_Bed_addSleeper_20 : decode prog_2_method_4_code 20 = .ok (.aload_n 0, 1) := by decide +kernel
theorem d_Bed_addSleeper_21 : decode prog_2_method_4_code 21 = .ok (.getfield 22, 3) := by decide +kernel
theorem d_Bed_addSleeper_24 : decode prog_2_method_4_code 24 = .ok (.aload_n 0, 1) := by decide +kernel
theorem d_Bed_addSleeper_25 : decode prog_2_method_4_code 25 = .ok (.getfield 40, 3) := by decide +kernel
theorem d_Bed_addSleeper_28 : decode prog_2_method_4_code 28 = .ok (.iload_n 3, 1) := by decide +kernel
theorem d_Bed_addSleeper_29 : decode prog_2_method_4_code 29 = .ok (.iastore, 1) := by decide +kernel
theorem d_Bed_addSleeper_30 : decode prog_2_method_4_code 30 = .ok (.aload_n 0, 1) := by decide +kernel
theorem d_Bed_addSleeper_31 : decode prog_2_method_4_code 31 = .ok (.getfield 25, 3) := by decide +kernel
theorem d_Bed_addSleeper_34 : decode prog_2_method_4_code 34 = .ok (.aload_n 0, 1) := by decide +kernel
theorem d_Bed_addSleeper_35 : decode prog_2_method_4_code 35 = .ok (.getfield 40, 3) := by decide +kernel
theorem d_Bed_addSleeper_38 : decode prog_2_method_4_code 38 = .ok (.iload 4, 2) := by decide +kernel
theorem d_Bed_addSleeper_40 : decode prog_2_method_4_code 40 = .ok (.iastore, 1) := by decide +kernel
theorem d_Bed_addSleeper_41 : decode prog_2_method_4_code 41 = .ok (.aload_n 0, 1) := by decide +kernel
theorem d_Bed_addSleeper_42 : decode prog_2_method_4_code 42 = .ok (.dup, 1) := by decide +kernel
theorem d_Bed_addSleeper_43 : decode prog_2_method_4_code 43 = .ok (.getfield 40, 3) := by decide +kernel
theorem d_Bed_addSleeper_46 : decode prog_2_method_4_code 46 = .ok (.iconst 1, 1) := by decide +kernel
theorem d_Bed_addSleeper_47 : decode prog_2_method_4_code 47 = .ok (.iadd, 1) := by decide +kernel
theorem d_Bed_addSleeper_48 : decode prog_2_method_4_code 48 = .ok (.putfield 40, 3) := by decide +kernel
theorem d_Bed_addSleeper_51 : decode prog_2_method_4_code 51 = .ok (.aload_n 0, 1) := by decide +kernel
theorem d_Bed_addSleeper_52 : decode prog_2_method_4_code 52 = .ok (.getfield 40, 3) := by decide +kernel
theorem d_Bed_addSleeper_55 : decode prog_2_method_4_code 55 = .ok (.iconst 1, 1) := by decide +kernel
theorem d_Bed_addSleeper_56 : decode prog_2_method_4_code 56 = .ok (.isub, 1) := by decide +kernel
theorem d_Bed_addSleeper_57 : decode prog_2_method_4_code 57 = .ok (.ireturn, 1) := by decide +kernel
set_option maxHeartbeats 4000000 in
set_option maxRecDepth 100000 in
theorem zf_Bed_addSleeper {G : zz_G} {l : Launch} {Z : zz_Z} {q : Int32 × zz_S} {s : zz_S} (C : zz_Cx G l "OneBlanket$Bed" "addSleeper" prog_2_method_4_code 5 (some .int) 2 (some (.int q.1), zsh, q.2) Z) (a1 : Int32) (a2 : Int32) (a3 : Int32) (a4 : Int32) (h : f_Bed_addSleeper a1 a2 a3 a4 s = some q) : Z 0 [some (.ref 1), some (.int a1), some (.int a2), some (.int a3), some (.int a4)] [] zsh s := by
  unfold f_Bed_addSleeper at h
  refine zz_aload_n (i := 0) (pc := 0) C rfl rfl d_Bed_addSleeper_0 ?_
  refine zz_getR (pc := 1) C zl_0_15 zsh_1 rfl d_Bed_addSleeper_1 ?_
  refine zz_aload_n (i := 0) (pc := 4) C rfl rfl d_Bed_addSleeper_4 ?_
  refine zz_getI (pc := 5) C zl_0_40 zsh_1 rfl d_Bed_addSleeper_5 ?_
  refine zz_iload_n (i := 1) (pc := 8) C rfl rfl d_Bed_addSleeper_8 ?_
  obtain ⟨hi1, h⟩ := zz_ckE h
  refine zz_iast (pc := 9) C rfl zsh_2 hi1 d_Bed_addSleeper_9 ?_
  refine zz_aload_n (i := 0) (pc := 10) C rfl rfl d_Bed_addSleeper_10 ?_
  refine zz_getR (pc := 11) C zl_0_19 zsh_1 rfl d_Bed_addSleeper_11 ?_
  refine zz_aload_n (i := 0) (pc := 14) C rfl rfl d_Bed_addSleeper_14 ?_
  refine zz_getIv (v := (s.1 1 1)) (pc := 15) C zl_0_40 zsh_1 rfl rfl d_Bed_addSleeper_15 ?_
  refine zz_iload_n (i := 2) (pc := 18) C rfl rfl d_Bed_addSleeper_18 ?_
  refine zz_iast (pc := 19) C rfl zsh_3 hi1 d_Bed_addSleeper_19 ?_
  refine zz_aload_n (i := 0) (pc := 20) C rfl rfl d_Bed_addSleeper_20 ?_
  refine zz_getR (pc := 21) C zl_0_22 zsh_1 rfl d_Bed_addSleeper_21 ?_
  refine zz_aload_n (i := 0) (pc := 24) C rfl rfl d_Bed_addSleeper_24 ?_
  refine zz_getIv (v := (s.1 1 1)) (pc := 25) C zl_0_40 zsh_1 rfl rfl d_Bed_addSleeper_25 ?_
  refine zz_iload_n (i := 3) (pc := 28) C rfl rfl d_Bed_addSleeper_28 ?_
  refine zz_iast (pc := 29) C rfl zsh_4 hi1 d_Bed_addSleeper_29 ?_
  refine zz_aload_n (i := 0) (pc := 30) C rfl rfl d_Bed_addSleeper_30 ?_
  refine zz_getR (pc := 31) C zl_0_25 zsh_1 rfl d_Bed_addSleeper_31 ?_
  refine zz_aload_n (i := 0) (pc := 34) C rfl rfl d_Bed_addSleeper_34 ?_
  refine zz_getIv (v := (s.1 1 1)) (pc := 35) C zl_0_40 zsh_1 rfl rfl d_Bed_addSleeper_35 ?_
  refine zz_iload (i := 4) (pc := 38) C rfl d_Bed_addSleeper_38 ?_
  refine zz_iast (pc := 40) C rfl zsh_5 hi1 d_Bed_addSleeper_40 ?_
  refine zz_aload_n (i := 0) (pc := 41) C rfl rfl d_Bed_addSleeper_41 ?_
  refine zz_dup (pc := 42) C rfl d_Bed_addSleeper_42 ?_
  refine zz_getIv (v := (s.1 1 1)) (pc := 43) C zl_0_40 zsh_1 rfl rfl d_Bed_addSleeper_43 ?_
  refine zz_iconst (pc := 46) C zki_1 d_Bed_addSleeper_46 ?_
  refine zz_iadd (pc := 47) C d_Bed_addSleeper_47 ?_
  refine zz_putI' (pc := 48) C zl_0_40 zpf_0_1 zsh_1 rfl d_Bed_addSleeper_48 ?_
  refine zz_aload_n (i := 0) (pc := 51) C rfl rfl d_Bed_addSleeper_51 ?_
  refine zz_getIv (v := ((s.1 1 1) + (1 : Int32))) (pc := 52) C zl_0_40 zsh_1 rfl rfl d_Bed_addSleeper_52 ?_
  refine zz_iconst (pc := 55) C zki_1 d_Bed_addSleeper_55 ?_
  refine zz_isub (pc := 56) C d_Bed_addSleeper_56 ?_
  replace h := Option.some.inj h
  subst h
  exact zz_ret (pc := 57) C (v := some (.int (((s.1 1 1) + (1 : Int32)) - (1 : Int32)))) d_Bed_addSleeper_57 (Or.inl ⟨_, _, rfl, rfl, rfl, rfl⟩) rfl
theorem zm_Bed_addSleeper {G : zz_G} {l : Launch} {s : zz_S} {q : Int32 × zz_S} {a1 : Int32} {a2 : Int32} {a3 : Int32} {a4 : Int32} (h : f_Bed_addSleeper a1 a2 a3 a4 s = some q) : zz_M G l 2 y_Bed_addSleeper prog_2_method_4_code 5 (some .int) [.ref 1, .int a1, .int a2, .int a3, .int a4] zsh s (some (.int q.1), zsh, q.2) :=
  zz_M.intro (by decide) (Nat.le_of_ble_eq_true rfl) (Nat.le_refl _) (Nat.le_refl _) (fun Z C => zf_Bed_addSleeper C a1 a2 a3 a4 h)
theorem d_Bed_bitsOf_0 : decode prog_2_method_14_code 0 = .ok (.iconst 0, 1) := by decide +kernel
theorem d_Bed_bitsOf_1 : decode prog_2_method_14_code 1 = .ok (.aload_n 0, 1) := by decide +kernel
theorem d_Bed_bitsOf_2 : decode prog_2_method_14_code 2 = .ok (.getfield 9, 3) := by decide +kernel
theorem d_Bed_bitsOf_5 : decode prog_2_method_14_code 5 = .ok (.iload_n 1, 1) := by decide +kernel
theorem d_Bed_bitsOf_6 : decode prog_2_method_14_code 6 = .ok (.invokestatic 46, 3) := by decide +kernel
theorem d_Bed_bitsOf_9 : decode prog_2_method_14_code 9 = .ok (.invokestatic 52, 3) := by decide +kernel
theorem d_Bed_bitsOf_12 : decode prog_2_method_14_code 12 = .ok (.istore_n 3, 1) := by decide +kernel
theorem d_Bed_bitsOf_13 : decode prog_2_method_14_code 13 = .ok (.iload_n 3, 1) := by decide +kernel
theorem d_Bed_bitsOf_14 : decode prog_2_method_14_code 14 = .ok (.aload_n 0, 1) := by decide +kernel
theorem d_Bed_bitsOf_15 : decode prog_2_method_14_code 15 = .ok (.getfield 9, 3) := by decide +kernel
theorem d_Bed_bitsOf_18 : decode prog_2_method_14_code 18 = .ok (.iload_n 1, 1) := by decide +kernel
theorem d_Bed_bitsOf_19 : decode prog_2_method_14_code 19 = .ok (.iload_n 2, 1) := by decide +kernel
theorem d_Bed_bitsOf_20 : decode prog_2_method_14_code 20 = .ok (.iadd, 1) := by decide +kernel
theorem d_Bed_bitsOf_21 : decode prog_2_method_14_code 21 = .ok (.invokestatic 46, 3) := by decide +kernel
theorem d_Bed_bitsOf_24 : decode prog_2_method_14_code 24 = .ok (.invokestatic 52, 3) := by decide +kernel
theorem d_Bed_bitsOf_27 : decode prog_2_method_14_code 27 = .ok (.istore 4, 2) := by decide +kernel
theorem d_Bed_bitsOf_29 : decode prog_2_method_14_code 29 = .ok (.lconst 1, 1) := by decide +kernel
theorem d_Bed_bitsOf_30 : decode prog_2_method_14_code 30 = .ok (.iload 4, 2) := by decide +kernel
theorem d_Bed_bitsOf_32 : decode prog_2_method_14_code 32 = .ok (.iload_n 3, 1) := by decide +kernel
theorem d_Bed_bitsOf_33 : decode prog_2_method_14_code 33 = .ok (.isub, 1) := by decide +kernel
theorem d_Bed_bitsOf_34 : decode prog_2_method_14_code 34 = .ok (.lshl, 1) := by decide +kernel
theorem d_Bed_bitsOf_35 : decode prog_2_method_14_code 35 = .ok (.lconst 1, 1) := by decide +kernel
theorem d_Bed_bitsOf_36 : decode prog_2_method_14_code 36 = .ok (.lsub, 1) := by decide +kernel
theorem d_Bed_bitsOf_37 : decode prog_2_method_14_code 37 = .ok (.iload_n 3, 1) := by decide +kernel
theorem d_Bed_bitsOf_38 : decode prog_2_method_14_code 38 = .ok (.lshl, 1) := by decide +kernel
theorem d_Bed_bitsOf_39 : decode prog_2_method_14_code 39 = .ok (.lreturn, 1) := by decide +kernel
set_option maxHeartbeats 4000000 in
set_option maxRecDepth 100000 in
theorem zf_Bed_bitsOf {G : zz_G} {l : Launch} {Z : zz_Z} {q : Int64} {s : zz_S} (C : zz_Cx G l "OneBlanket$Bed" "bitsOf" prog_2_method_14_code 5 (some .long) 2 (some (.long q), zsh, s) Z) (a1 : Int32) (a2 : Int32) (h : f_Bed_bitsOf a1 a2 s = q) : Z 0 [some (.ref 1), some (.int a1), some (.int a2), none, none] [] zsh s := by
  unfold f_Bed_bitsOf at h
  refine zz_iconst (pc := 0) C zki_0 d_Bed_bitsOf_0 ?_
  refine zz_aload_n (i := 0) (pc := 1) C rfl rfl d_Bed_bitsOf_1 ?_
  refine zz_getI (pc := 2) C zl_0_9 zsh_1 rfl d_Bed_bitsOf_2 ?_
  refine zz_iload_n (i := 1) (pc := 5) C rfl rfl d_Bed_bitsOf_5 ?_
  refine zz_mmin (st := [.int (0 : Int32)]) (pc := 6) C zl_0_46 (by omega) (Nat.le_of_ble_eq_true rfl) d_Bed_bitsOf_6 rfl ?_
  refine zz_mmax (st := []) (pc := 9) C zl_0_52 (by omega) (Nat.le_of_ble_eq_true rfl) d_Bed_bitsOf_9 rfl ?_
  refine zz_istore_n (i := 3) (lo' := [some (.ref 1), some (.int a1), some (.int a2), some (.int (zz_max (0 : Int32) (zz_min (s.1 1 0) a1))), none]) (pc := 12) C rfl (Nat.le_of_ble_eq_true rfl) rfl rfl d_Bed_bitsOf_12 ?_
  refine zz_iload_n (i := 3) (pc := 13) C rfl rfl d_Bed_bitsOf_13 ?_
  refine zz_aload_n (i := 0) (pc := 14) C rfl rfl d_Bed_bitsOf_14 ?_
  refine zz_getI (pc := 15) C zl_0_9 zsh_1 rfl d_Bed_bitsOf_15 ?_
  refine zz_iload_n (i := 1) (pc := 18) C rfl rfl d_Bed_bitsOf_18 ?_
  refine zz_iload_n (i := 2) (pc := 19) C rfl rfl d_Bed_bitsOf_19 ?_
  refine zz_iadd (pc := 20) C d_Bed_bitsOf_20 ?_
  refine zz_mmin (st := [.int (zz_max (0 : Int32) (zz_min (s.1 1 0) a1))]) (pc := 21) C zl_0_46 (by omega) (Nat.le_of_ble_eq_true rfl) d_Bed_bitsOf_21 rfl ?_
  refine zz_mmax (st := []) (pc := 24) C zl_0_52 (by omega) (Nat.le_of_ble_eq_true rfl) d_Bed_bitsOf_24 rfl ?_
  refine zz_istore (i := 4) (lo' := [some (.ref 1), some (.int a1), some (.int a2), some (.int (zz_max (0 : Int32) (zz_min (s.1 1 0) a1))), some (.int (zz_max (zz_max (0 : Int32) (zz_min (s.1 1 0) a1)) (zz_min (s.1 1 0) (a1 + a2))))]) (pc := 27) C (Nat.le_of_ble_eq_true rfl) rfl rfl d_Bed_bitsOf_27 ?_
  refine zz_lconst (pc := 29) C zkl_1 d_Bed_bitsOf_29 ?_
  refine zz_iload (i := 4) (pc := 30) C rfl d_Bed_bitsOf_30 ?_
  refine zz_iload_n (i := 3) (pc := 32) C rfl rfl d_Bed_bitsOf_32 ?_
  refine zz_isub (pc := 33) C d_Bed_bitsOf_33 ?_
  refine zz_lshl (pc := 34) C d_Bed_bitsOf_34 ?_
  refine zz_lconst (pc := 35) C zkl_1 d_Bed_bitsOf_35 ?_
  refine zz_lsub (pc := 36) C d_Bed_bitsOf_36 ?_
  refine zz_iload_n (i := 3) (pc := 37) C rfl rfl d_Bed_bitsOf_37 ?_
  refine zz_lshl (pc := 38) C d_Bed_bitsOf_38 ?_
  subst h
  exact zz_ret (pc := 39) C (v := some (.long ((((1 : Int64) <<< (((zz_max (zz_max (0 : Int32) (zz_min (s.1 1 0) a1)) (zz_min (s.1 1 0) (a1 + a2))) - (zz_max (0 : Int32) (zz_min (s.1 1 0) a1))).toInt64 &&& 63)) - (1 : Int64)) <<< ((zz_max (0 : Int32) (zz_min (s.1 1 0) a1)).toInt64 &&& 63)))) d_Bed_bitsOf_39 (Or.inr (Or.inl ⟨_, rfl, rfl, rfl⟩)) rfl
theorem zm_Bed_bitsOf {G : zz_G} {l : Launch} {s : zz_S} {q : Int64} {a1 : Int32} {a2 : Int32} (h : f_Bed_bitsOf a1 a2 s = q) : zz_M G l 2 y_Bed_bitsOf prog_2_method_14_code 5 (some .long) [.ref 1, .int a1, .int a2] zsh s (some (.long q), zsh, s) :=
  zz_M.intro (by decide) (Nat.le_of_ble_eq_true rfl) (Nat.le_refl _) (Nat.le_refl _) (fun Z C => zf_Bed_bitsOf C a1 a2 h)
theorem d_Bed_hasCover_0 : decode prog_2_method_3_code 0 = .ok (.iload_n 1, 1) := by decide +kernel
theorem d_Bed_hasCover_1 : decode prog_2_method_3_code 1 = .ok (.ifCond .lt (15), 3) := by decide +kernel
theorem d_Bed_hasCover_4 : decode prog_2_method_3_code 4 = .ok (.iload_n 1, 1) := by decide +kernel
theorem d_Bed_hasCover_5 : decode prog_2_method_3_code 5 = .ok (.aload_n 0, 1) := by decide +kernel
theorem d_Bed_hasCover_6 : decode prog_2_method_3_code 6 = .ok (.getfield 43, 3) := by decide +kernel
theorem d_Bed_hasCover_9 : decode prog_2_method_3_code 9 = .ok (.if_icmp .ge (7), 3) := by decide +kernel
theorem d_Bed_hasCover_12 : decode prog_2_method_3_code 12 = .ok (.iconst 1, 1) := by decide +kernel
theorem d_Bed_hasCover_13 : decode prog_2_method_3_code 13 = .ok (.goto (4), 3) := by decide +kernel
theorem d_Bed_hasCover_16 : decode prog_2_method_3_code 16 = .ok (.iconst 0, 1) := by decide +kernel
theorem d_Bed_hasCover_17 : decode prog_2_method_3_code 17 = .ok (.ireturn, 1) := by decide +kernel
set_option maxHeartbeats 4000000 in
set_option maxRecDepth 100000 in
theorem zf_Bed_hasCover {G : zz_G} {l : Launch} {Z : zz_Z} {q : Int32} {s : zz_S} (C : zz_Cx G l "OneBlanket$Bed" "hasCover" prog_2_method_3_code 2 (some .boolean) 2 (some (.int q), zsh, s) Z) (a1 : Int32) (h : f_Bed_hasCover a1 s = q) : Z 0 [some (.ref 1), some (.int a1)] [] zsh s := by
  unfold f_Bed_hasCover at h
  refine zz_iload_n (i := 1) (pc := 0) C rfl rfl d_Bed_hasCover_0 ?_
  refine zz_if_lt (tgt := 16) (pc := 1) C (by decide) d_Bed_hasCover_1 (fun hc1 => ?_) (fun hc1 => ?_)
  · rw [if_pos hc1] at h
    refine zz_iconst (pc := 16) C zki_0 d_Bed_hasCover_16 ?_
    subst h
    exact zz_ret (pc := 17) C (v := some (.int (0 : Int32))) d_Bed_hasCover_17 (Or.inl ⟨_, _, rfl, rfl, rfl, (by decide)⟩) rfl
  · rw [if_neg hc1] at h
    refine zz_iload_n (i := 1) (pc := 4) C rfl rfl d_Bed_hasCover_4 ?_
    refine zz_aload_n (i := 0) (pc := 5) C rfl rfl d_Bed_hasCover_5 ?_
    refine zz_getI (pc := 6) C zl_0_43 zsh_1 rfl d_Bed_hasCover_6 ?_
    refine zz_icmp_ge (tgt := 16) (pc := 9) C (by decide) d_Bed_hasCover_9 (fun hc2 => ?_) (fun hc2 => ?_)
    · rw [if_pos hc2] at h
      refine zz_iconst (pc := 16) C zki_0 d_Bed_hasCover_16 ?_
      subst h
      exact zz_ret (pc := 17) C (v := some (.int (0 : Int32))) d_Bed_hasCover_17 (Or.inl ⟨_, _, rfl, rfl, rfl, (by decide)⟩) rfl
    · rw [if_neg hc2] at h
      refine zz_iconst (pc := 12) C zki_1 d_Bed_hasCover_12 ?_
      refine zz_goto (tgt := 17) (pc := 13) C (by decide) d_Bed_hasCover_13 ?_
      subst h
      exact zz_ret (pc := 17) C (v := some (.int (1 : Int32))) d_Bed_hasCover_17 (Or.inl ⟨_, _, rfl, rfl, rfl, (by decide)⟩) rfl
theorem zm_Bed_hasCover {G : zz_G} {l : Launch} {s : zz_S} {q : Int32} {a1 : Int32} (h : f_Bed_hasCover a1 s = q) : zz_M G l 2 y_Bed_hasCover prog_2_method_3_code 2 (some .boolean) [.ref 1, .int a1] zsh s (some (.int q), zsh, s) :=
  zz_M.intro (by decide) (Nat.le_of_ble_eq_true rfl) (Nat.le_refl _) (Nat.le_refl _) (fun Z C => zf_Bed_hasCover C a1 h)
theorem d_Bed_hasSleeper_0 : decode prog_2_method_2_code 0 = .ok (.iload_n 1, 1) := by decide +kernel
theorem d_Bed_hasSleeper_1 : decode prog_2_method_2_code 1 = .ok (.ifCond .lt (15), 3) := by decide +kernel
theorem d_Bed_hasSleeper_4 : decode prog_2_method_2_code 4 = .ok (.iload_n 1, 1) := by decide +kernel
theorem d_Bed_hasSleeper_5 : decode prog_2_method_2_code 5 = .ok (.aload_n 0, 1) := by decide +kernel
theorem d_Bed_hasSleeper_6 : decode prog_2_method_2_code 6 = .ok (.getfield 40, 3) := by decide +kernel
theorem d_Bed_hasSleeper_9 : decode prog_2_method_2_code 9 = .ok (.if_icmp .ge (7), 3) := by decide +kernel
theorem d_Bed_hasSleeper_12 : decode prog_2_method_2_code 12 = .ok (.iconst 1, 1) := by decide +kernel
theorem d_Bed_hasSleeper_13 : decode prog_2_method_2_code 13 = .ok (.goto (4), 3) := by decide +kernel
theorem d_Bed_hasSleeper_16 : decode prog_2_method_2_code 16 = .ok (.iconst 0, 1) := by decide +kernel
theorem d_Bed_hasSleeper_17 : decode prog_2_method_2_code 17 = .ok (.ireturn, 1) := by decide +kernel
set_option maxHeartbeats 4000000 in
set_option maxRecDepth 100000 in
theorem zf_Bed_hasSleeper {G : zz_G} {l : Launch} {Z : zz_Z} {q : Int32} {s : zz_S} (C : zz_Cx G l "OneBlanket$Bed" "hasSleeper" prog_2_method_2_code 2 (some .boolean) 2 (some (.int q), zsh, s) Z) (a1 : Int32) (h : f_Bed_hasSleeper a1 s = q) : Z 0 [some (.ref 1), some (.int a1)] [] zsh s := by
  unfold f_Bed_hasSleeper at h
  refine zz_iload_n (i := 1) (pc := 0) C rfl rfl d_Bed_hasSleeper_0 ?_
  refine zz_if_lt (tgt := 16) (pc := 1) C (by decide) d_Bed_hasSleeper_1 (fun hc1 => ?_) (fun hc1 => ?_)
  · rw [if_pos hc1] at h
    refine zz_iconst (pc := 16) C zki_0 d_Bed_hasSleeper_16 ?_
    subst h
    exact zz_ret (pc := 17) C (v := some (.int (0 : Int32))) d_Bed_hasSleeper_17 (Or.inl ⟨_, _, rfl, rfl, rfl, (by decide)⟩) rfl
  · rw [if_neg hc1] at h
    refine zz_iload_n (i := 1) (pc := 4) C rfl rfl d_Bed_hasSleeper_4 ?_
    refine zz_aload_n (i := 0) (pc := 5) C rfl rfl d_Bed_hasSleeper_5 ?_
    refine zz_getI (pc := 6) C zl_0_40 zsh_1 rfl d_Bed_hasSleeper_6 ?_
    refine zz_icmp_ge (tgt := 16) (pc := 9) C (by decide) d_Bed_hasSleeper_9 (fun hc2 => ?_) (fun hc2 => ?_)
    · rw [if_pos hc2] at h
      refine zz_iconst (pc := 16) C zki_0 d_Bed_hasSleeper_16 ?_
      subst h
      exact zz_ret (pc := 17) C (v := some (.int (0 : Int32))) d_Bed_hasSleeper_17 (Or.inl ⟨_, _, rfl, rfl, rfl, (by decide)⟩) rfl
    · rw [if_neg hc2] at h
      refine zz_iconst (pc := 12) C zki_1 d_Bed_hasSleeper_12 ?_
      refine zz_goto (tgt := 17) (pc := 13) C (by decide) d_Bed_hasSleeper_13 ?_
      subst h
      exact zz_ret (pc := 17) C (v := some (.int (1 : Int32))) d_Bed_hasSleeper_17 (Or.inl ⟨_, _, rfl, rfl, rfl, (by decide)⟩) rfl
theorem zm_Bed_hasSleeper {G : zz_G} {l : Launch} {s : zz_S} {q : Int32} {a1 : Int32} (h : f_Bed_hasSleeper a1 s = q) : zz_M G l 2 y_Bed_hasSleeper prog_2_method_2_code 2 (some .boolean) [.ref 1, .int a1] zsh s (some (.int q), zsh, s) :=
  zz_M.intro (by decide) (Nat.le_of_ble_eq_true rfl) (Nat.le_refl _) (Nat.le_refl _) (fun Z C => zf_Bed_hasSleeper C a1 h)
theorem d_Bed_heldWithin_0 : decode prog_2_method_12_code 0 = .ok (.iconst 0, 1) := by decide +kernel
theorem d_Bed_heldWithin_1 : decode prog_2_method_12_code 1 = .ok (.aload_n 0, 1) := by decide +kernel
theorem d_Bed_heldWithin_2 : decode prog_2_method_12_code 2 = .ok (.getfield 9, 3) := by decide +kernel
theorem d_Bed_heldWithin_5 : decode prog_2_method_12_code 5 = .ok (.aload_n 0, 1) := by decide +kernel
theorem d_Bed_heldWithin_6 : decode prog_2_method_12_code 6 = .ok (.getfield 19, 3) := by decide +kernel
theorem d_Bed_heldWithin_9 : decode prog_2_method_12_code 9 = .ok (.iload_n 1, 1) := by decide +kernel
theorem d_Bed_heldWithin_10 : decode prog_2_method_12_code 10 = .ok (.iaload, 1) := by decide +kernel
theorem d_Bed_heldWithin_11 : decode prog_2_method_12_code 11 = .ok (.isub, 1) := by decide +kernel
theorem d_Bed_heldWithin_12 : decode prog_2_method_12_code 12 = .ok (.iload_n 2, 1) := by decide +kernel
theorem d_Bed_heldWithin_13 : decode prog_2_method_12_code 13 = .ok (.invokestatic 46, 3) := by decide +kernel
theorem d_Bed_heldWithin_16 : decode prog_2_method_12_code 16 = .ok (.invokestatic 52, 3) := by decide +kernel
theorem d_Bed_heldWithin_19 : decode prog_2_method_12_code 19 = .ok (.ireturn, 1) := by decide +kernel
set_option maxHeartbeats 4000000 in
set_option maxRecDepth 100000 in
theorem zf_Bed_heldWithin {G : zz_G} {l : Launch} {Z : zz_Z} {q : Int32} {s : zz_S} (C : zz_Cx G l "OneBlanket$Bed" "heldWithin" prog_2_method_12_code 3 (some .int) 2 (some (.int q), zsh, s) Z) (a1 : Int32) (a2 : Int32) (h : f_Bed_heldWithin a1 a2 s = some q) : Z 0 [some (.ref 1), some (.int a1), some (.int a2)] [] zsh s := by
  unfold f_Bed_heldWithin at h
  refine zz_iconst (pc := 0) C zki_0 d_Bed_heldWithin_0 ?_
  refine zz_aload_n (i := 0) (pc := 1) C rfl rfl d_Bed_heldWithin_1 ?_
  refine zz_getI (pc := 2) C zl_0_9 zsh_1 rfl d_Bed_heldWithin_2 ?_
  refine zz_aload_n (i := 0) (pc := 5) C rfl rfl d_Bed_heldWithin_5 ?_
  refine zz_getR (pc := 6) C zl_0_19 zsh_1 rfl d_Bed_heldWithin_6 ?_
  refine zz_iload_n (i := 1) (pc := 9) C rfl rfl d_Bed_heldWithin_9 ?_
  obtain ⟨hi1, h⟩ := zz_ckE h
  refine zz_iald (pc := 10) C rfl zsh_3 hi1 d_Bed_heldWithin_10 ?_
  refine zz_isub (pc := 11) C d_Bed_heldWithin_11 ?_
  refine zz_iload_n (i := 2) (pc := 12) C rfl rfl d_Bed_heldWithin_12 ?_
  refine zz_mmin (st := [.int (0 : Int32)]) (pc := 13) C zl_0_46 (by omega) (Nat.le_of_ble_eq_true rfl) d_Bed_heldWithin_13 rfl ?_
  refine zz_mmax (st := []) (pc := 16) C zl_0_52 (by omega) (Nat.le_of_ble_eq_true rfl) d_Bed_heldWithin_16 rfl ?_
  replace h := Option.some.inj h
  subst h
  exact zz_ret (pc := 19) C (v := some (.int (zz_max (0 : Int32) (zz_min ((s.1 1 0) - (s.1 3 (a1.toNatClampNeg))) a2)))) d_Bed_heldWithin_19 (Or.inl ⟨_, _, rfl, rfl, rfl, rfl⟩) rfl
theorem zm_Bed_heldWithin {G : zz_G} {l : Launch} {s : zz_S} {q : Int32} {a1 : Int32} {a2 : Int32} (h : f_Bed_heldWithin a1 a2 s = some q) : zz_M G l 2 y_Bed_heldWithin prog_2_method_12_code 3 (some .int) [.ref 1, .int a1, .int a2] zsh s (some (.int q), zsh, s) :=
  zz_M.intro (by decide) (Nat.le_of_ble_eq_true rfl) (Nat.le_refl _) (Nat.le_refl _) (fun Z C => zf_Bed_heldWithin C a1 a2 h)
theorem d_Bed_isCold_0 : decode prog_2_method_10_code 0 = .ok (.iload_n 2, 1) := by decide +kernel
theorem d_Bed_isCold_1 : decode prog_2_method_10_code 1 = .ok (.aload_n 0, 1) := by decide +kernel
theorem d_Bed_isCold_2 : decode prog_2_method_10_code 2 = .ok (.getfield 22, 3) := by decide +kernel
theorem d_Bed_isCold_5 : decode prog_2_method_10_code 5 = .ok (.iload_n 1, 1) := by decide +kernel
theorem d_Bed_isCold_6 : decode prog_2_method_10_code 6 = .ok (.iaload, 1) := by decide +kernel
theorem d_Bed_isCold_7 : decode prog_2_method_10_code 7 = .ok (.bipush (15), 2) := by decide +kernel
theorem d_Bed_isCold_9 : decode prog_2_method_10_code 9 = .ok (.isub, 1) := by decide +kernel
theorem d_Bed_isCold_10 : decode prog_2_method_10_code 10 = .ok (.if_icmp .ge (7), 3) := by decide +kernel
theorem d_Bed_isCold_13 : decode prog_2_method_10_code 13 = .ok (.iconst 1, 1) := by decide +kernel
theorem d_Bed_isCold_14 : decode prog_2_method_10_code 14 = .ok (.goto (4), 3) := by decide +kernel
theorem d_Bed_isCold_17 : decode prog_2_method_10_code 17 = .ok (.iconst 0, 1) := by decide +kernel
theorem d_Bed_isCold_18 : decode prog_2_method_10_code 18 = .ok (.ireturn, 1) := by decide +kernel
set_option maxHeartbeats 4000000 in
set_option maxRecDepth 100000 in
theorem zf_Bed_isCold {G : zz_G} {l : Launch} {Z : zz_Z} {q : Int32} {s : zz_S} (C : zz_Cx G l "OneBlanket$Bed" "isCold" prog_2_method_10_code 3 (some .boolean) 2 (some (.int q), zsh, s) Z) (a1 : Int32) (a2 : Int32) (h : f_Bed_isCold a1 a2 s = some q) : Z 0 [some (.ref 1), some (.int a1), some (.int a2)] [] zsh s := by
  unfold f_Bed_isCold at h
  refine zz_iload_n (i := 2) (pc := 0) C rfl rfl d_Bed_isCold_0 ?_
  refine zz_aload_n (i := 0) (pc := 1) C rfl rfl d_Bed_isCold_1 ?_
  refine zz_getR (pc := 2) C zl_0_22 zsh_1 rfl d_Bed_isCold_2 ?_
  refine zz_iload_n (i := 1) (pc := 5) C rfl rfl d_Bed_isCold_5 ?_
  obtain ⟨hi1, h⟩ := zz_ckE h
  refine zz_iald (pc := 6) C rfl zsh_4 hi1 d_Bed_isCold_6 ?_
  refine zz_bipush (pc := 7) C zkb_15 d_Bed_isCold_7 ?_
  refine zz_isub (pc := 9) C d_Bed_isCold_9 ?_
  refine zz_icmp_ge (tgt := 17) (pc := 10) C (by decide) d_Bed_isCold_10 (fun hc2 => ?_) (fun hc2 => ?_)
  · rw [if_pos hc2] at h
    refine zz_iconst (pc := 17) C zki_0 d_Bed_isCold_17 ?_
    replace h := Option.some.inj h
    subst h
    exact zz_ret (pc := 18) C (v := some (.int (0 : Int32))) d_Bed_isCold_18 (Or.inl ⟨_, _, rfl, rfl, rfl, (by decide)⟩) rfl
  · rw [if_neg hc2] at h
    refine zz_iconst (pc := 13) C zki_1 d_Bed_isCold_13 ?_
    refine zz_goto (tgt := 18) (pc := 14) C (by decide) d_Bed_isCold_14 ?_
    replace h := Option.some.inj h
    subst h
    exact zz_ret (pc := 18) C (v := some (.int (1 : Int32))) d_Bed_isCold_18 (Or.inl ⟨_, _, rfl, rfl, rfl, (by decide)⟩) rfl
theorem zm_Bed_isCold {G : zz_G} {l : Launch} {s : zz_S} {q : Int32} {a1 : Int32} {a2 : Int32} (h : f_Bed_isCold a1 a2 s = some q) : zz_M G l 2 y_Bed_isCold prog_2_method_10_code 3 (some .boolean) [.ref 1, .int a1, .int a2] zsh s (some (.int q), zsh, s) :=
  zz_M.intro (by decide) (Nat.le_of_ble_eq_true rfl) (Nat.le_refl _) (Nat.le_refl _) (fun Z C => zf_Bed_isCold C a1 a2 h)
theorem d_Bed_isEasy_0 : decode prog_2_method_9_code 0 = .ok (.iload_n 2, 1) := by decide +kernel
theorem d_Bed_isEasy_1 : decode prog_2_method_9_code 1 = .ok (.aload_n 0, 1) := by decide +kernel
theorem d_Bed_isEasy_2 : decode prog_2_method_9_code 2 = .ok (.getfield 22, 3) := by decide +kernel
theorem d_Bed_isEasy_5 : decode prog_2_method_9_code 5 = .ok (.iload_n 1, 1) := by decide +kernel
theorem d_Bed_isEasy_6 : decode prog_2_method_9_code 6 = .ok (.iaload, 1) := by decide +kernel
theorem d_Bed_isEasy_7 : decode prog_2_method_9_code 7 = .ok (.iconst 5, 1) := by decide +kernel
theorem d_Bed_isEasy_8 : decode prog_2_method_9_code 8 = .ok (.isub, 1) := by decide +kernel
theorem d_Bed_isEasy_9 : decode prog_2_method_9_code 9 = .ok (.if_icmp .lt (19), 3) := by decide +kernel
theorem d_Bed_isEasy_12 : decode prog_2_method_9_code 12 = .ok (.iload_n 2, 1) := by decide +kernel
theorem d_Bed_isEasy_13 : decode prog_2_method_9_code 13 = .ok (.aload_n 0, 1) := by decide +kernel
theorem d_Bed_isEasy_14 : decode prog_2_method_9_code 14 = .ok (.getfield 22, 3) := by decide +kernel
theorem d_Bed_isEasy_17 : decode prog_2_method_9_code 17 = .ok (.iload_n 1, 1) := by decide +kernel
theorem d_Bed_isEasy_18 : decode prog_2_method_9_code 18 = .ok (.iaload, 1) := by decide +kernel
theorem d_Bed_isEasy_19 : decode prog_2_method_9_code 19 = .ok (.iconst 5, 1) := by decide +kernel
theorem d_Bed_isEasy_20 : decode prog_2_method_9_code 20 = .ok (.iadd, 1) := by decide +kernel
theorem d_Bed_isEasy_21 : decode prog_2_method_9_code 21 = .ok (.if_icmp .gt (7), 3) := by decide +kernel
theorem d_Bed_isEasy_24 : decode prog_2_method_9_code 24 = .ok (.iconst 1, 1) := by decide +kernel
theorem d_Bed_isEasy_25 : decode prog_2_method_9_code 25 = .ok (.goto (4), 3) := by decide +kernel
theorem d_Bed_isEasy_28 : decode prog_2_method_9_code 28 = .ok (.iconst 0, 1) := by decide +kernel
theorem d_Bed_isEasy_29 : decode prog_2_method_9_code 29 = .ok (.ireturn, 1) := by decide +kernel
set_option maxHeartbeats 4000000 in
set_option maxRecDepth 100000 in
theorem zf_Bed_isEasy {G : zz_G} {l : Launch} {Z : zz_Z} {q : Int32} {s : zz_S} (C : zz_Cx G l "OneBlanket$Bed" "isEasy" prog_2_method_9_code 3 (some .boolean) 2 (some (.int q), zsh, s) Z) (a1 : Int32) (a2 : Int32) (h : f_Bed_isEasy a1 a2 s = some q) : Z 0 [some (.ref 1), some (.int a1), some (.int a2)] [] zsh s := by
  unfold f_Bed_isEasy at h
  refine zz_iload_n (i := 2) (pc := 0) C rfl rfl d_Bed_isEasy_0 ?_
  refine zz_aload_n (i := 0) (pc := 1) C rfl rfl d_Bed_isEasy_1 ?_
  refine zz_getR (pc := 2) C zl_0_22 zsh_1 rfl d_Bed_isEasy_2 ?_
  refine zz_iload_n (i := 1) (pc := 5) C rfl rfl d_Bed_isEasy_5 ?_
  obtain ⟨hi1, h⟩ := zz_ckE h
  refine zz_iald (pc := 6) C rfl zsh_4 hi1 d_Bed_isEasy_6 ?_
  refine zz_iconst (pc := 7) C zki_5 d_Bed_isEasy_7 ?_
  refine zz_isub (pc := 8) C d_Bed_isEasy_8 ?_
  refine zz_icmp_lt (tgt := 28) (pc := 9) C (by decide) d_Bed_isEasy_9 (fun hc2 => ?_) (fun hc2 => ?_)
  · rw [if_pos hc2] at h
    refine zz_iconst (pc := 28) C zki_0 d_Bed_isEasy_28 ?_
    replace h := Option.some.inj h
    subst h
    exact zz_ret (pc := 29) C (v := some (.int (0 : Int32))) d_Bed_isEasy_29 (Or.inl ⟨_, _, rfl, rfl, rfl, (by decide)⟩) rfl
  · rw [if_neg hc2] at h
    refine zz_iload_n (i := 2) (pc := 12) C rfl rfl d_Bed_isEasy_12 ?_
    refine zz_aload_n (i := 0) (pc := 13) C rfl rfl d_Bed_isEasy_13 ?_
    refine zz_getR (pc := 14) C zl_0_22 zsh_1 rfl d_Bed_isEasy_14 ?_
    refine zz_iload_n (i := 1) (pc := 17) C rfl rfl d_Bed_isEasy_17 ?_
    refine zz_iald (pc := 18) C rfl zsh_4 hi1 d_Bed_isEasy_18 ?_
    refine zz_iconst (pc := 19) C zki_5 d_Bed_isEasy_19 ?_
    refine zz_iadd (pc := 20) C d_Bed_isEasy_20 ?_
    refine zz_icmp_gt (tgt := 28) (pc := 21) C (by decide) d_Bed_isEasy_21 (fun hc3 => ?_) (fun hc3 => ?_)
    · rw [if_pos hc3] at h
      refine zz_iconst (pc := 28) C zki_0 d_Bed_isEasy_28 ?_
      replace h := Option.some.inj h
      subst h
      exact zz_ret (pc := 29) C (v := some (.int (0 : Int32))) d_Bed_isEasy_29 (Or.inl ⟨_, _, rfl, rfl, rfl, (by decide)⟩) rfl
    · rw [if_neg hc3] at h
      refine zz_iconst (pc := 24) C zki_1 d_Bed_isEasy_24 ?_
      refine zz_goto (tgt := 29) (pc := 25) C (by decide) d_Bed_isEasy_25 ?_
      replace h := Option.some.inj h
      subst h
      exact zz_ret (pc := 29) C (v := some (.int (1 : Int32))) d_Bed_isEasy_29 (Or.inl ⟨_, _, rfl, rfl, rfl, (by decide)⟩) rfl
theorem zm_Bed_isEasy {G : zz_G} {l : Launch} {s : zz_S} {q : Int32} {a1 : Int32} {a2 : Int32} (h : f_Bed_isEasy a1 a2 s = some q) : zz_M G l 2 y_Bed_isEasy prog_2_method_9_code 3 (some .boolean) [.ref 1, .int a1, .int a2] zsh s (some (.int q), zsh, s) :=
  zz_M.intro (by decide) (Nat.le_of_ble_eq_true rfl) (Nat.le_refl _) (Nat.le_refl _) (fun Z C => zf_Bed_isEasy C a1 a2 h)
theorem d_Bed_laySideBySide_0 : decode prog_2_method_13_code 0 = .ok (.iconst 0, 1) := by decide +kernel
theorem d_Bed_laySideBySide_1 : decode prog_2_method_13_code 1 = .ok (.istore_n 3, 1) := by decide +kernel
theorem d_Bed_laySideBySide_2 : decode prog_2_method_13_code 2 = .ok (.iconst 0, 1) := by decide +kernel
theorem d_Bed_laySideBySide_3 : decode prog_2_method_13_code 3 = .ok (.istore 4, 2) := by decide +kernel
theorem d_Bed_laySideBySide_5 : decode prog_2_method_13_code 5 = .ok (.iload 4, 2) := by decide +kernel
theorem d_Bed_laySideBySide_7 : decode prog_2_method_13_code 7 = .ok (.aload_n 0, 1) := by decide +kernel
theorem d_Bed_laySideBySide_8 : decode prog_2_method_13_code 8 = .ok (.getfield 40, 3) := by decide +kernel
theorem d_Bed_laySideBySide_11 : decode prog_2_method_13_code 11 = .ok (.if_icmp .ge (36), 3) := by decide +kernel
theorem d_Bed_laySideBySide_14 : decode prog_2_method_13_code 14 = .ok (.aload_n 1, 1) := by decide +kernel
theorem d_Bed_laySideBySide_15 : decode prog_2_method_13_code 15 = .ok (.iload 4, 2) := by decide +kernel
theorem d_Bed_laySideBySide_17 : decode prog_2_method_13_code 17 = .ok (.iaload, 1) := by decide +kernel
theorem d_Bed_laySideBySide_18 : decode prog_2_method_13_code 18 = .ok (.istore 5, 2) := by decide +kernel
theorem d_Bed_laySideBySide_20 : decode prog_2_method_13_code 20 = .ok (.aload_n 2, 1) := by decide +kernel
theorem d_Bed_laySideBySide_21 : decode prog_2_method_13_code 21 = .ok (.iload 5, 2) := by decide +kernel
theorem d_Bed_laySideBySide_23 : decode prog_2_method_13_code 23 = .ok (.aload_n 0, 1) := by decide +kernel
theorem d_Bed_laySideBySide_24 : decode prog_2_method_13_code 24 = .ok (.iload 5, 2) := by decide +kernel
theorem d_Bed_laySideBySide_26 : decode prog_2_method_13_code 26 = .ok (.iload_n 3, 1) := by decide +kernel
theorem d_Bed_laySideBySide_27 : decode prog_2_method_13_code 27 = .ok (.invokevirtual 55, 3) := by decide +kernel
theorem d_Bed_laySideBySide_30 : decode prog_2_method_13_code 30 = .ok (.iastore, 1) := by decide +kernel
theorem d_Bed_laySideBySide_31 : decode prog_2_method_13_code 31 = .ok (.iload_n 3, 1) := by decide +kernel
theorem d_Bed_laySideBySide_32 : decode prog_2_method_13_code 32 = .ok (.aload_n 0, 1) := by decide +kernel
theorem d_Bed_laySideBySide_33 : decode prog_2_method_13_code 33 = .ok (.getfield 19, 3) := by decide +kernel
theorem d_Bed_laySideBySide_36 : decode prog_2_method_13_code 36 = .ok (.iload 5, 2) := by decide +kernel
theorem d_Bed_laySideBySide_38 : decode prog_2_method_13_code 38 = .ok (.iaload, 1) := by decide +kernel
theorem d_Bed_laySideBySide_39 : decode prog_2_method_13_code 39 = .ok (.iadd, 1) := by decide +kernel
theorem d_Bed_laySideBySide_40 : decode prog_2_method_13_code 40 = .ok (.istore_n 3, 1) := by decide +kernel
theorem d_Bed_laySideBySide_41 : decode prog_2_method_13_code 41 = .ok (.iinc 4 (1), 3) := by decide +kernel
theorem d_Bed_laySideBySide_44 : decode prog_2_method_13_code 44 = .ok (.goto (-39), 3) := by decide +kernel
theorem d_Bed_laySideBySide_47 : decode prog_2_method_13_code 47 = .ok (.return_, 1) := by decide +kernel
set_option maxHeartbeats 4000000 in
set_option maxRecDepth 100000 in
theorem zf_Bed_laySideBySide_L5 {G : zz_G} {l : Launch} {Z : zz_Z} {q : zz_S} (C : zz_Cx G l "OneBlanket$Bed" "laySideBySide" prog_2_method_13_code 6 (none) 3 (none, zsh, q) Z) : ∀ (n : Nat) (v3 : Int32) (v4 : Int32) (s : zz_S), f_Bed_laySideBySide_L5 n v3 v4 s = some q → Z 5 [some (.ref 1), some (.ref 53), some (.ref 54), some (.int v3), some (.int v4), none] [] zsh s := by
  intro n
  induction n with
  | zero => intro v3 v4 s h; rw [f_Bed_laySideBySide_L5] at h; cases h
  | succ n ih =>
  intro v3 v4 s h
  rw [f_Bed_laySideBySide_L5] at h
  refine zz_iload (i := 4) (pc := 5) C rfl d_Bed_laySideBySide_5 ?_
  refine zz_aload_n (i := 0) (pc := 7) C rfl rfl d_Bed_laySideBySide_7 ?_
  refine zz_getI (pc := 8) C zl_0_40 zsh_1 rfl d_Bed_laySideBySide_8 ?_
  refine zz_icmp_ge (tgt := 47) (pc := 11) C (by decide) d_Bed_laySideBySide_11 (fun hc1 => ?_) (fun hc1 => ?_)
  · rw [if_pos hc1] at h
    replace h := Option.some.inj h
    subst h
    exact zz_ret (pc := 47) C (v := none) d_Bed_laySideBySide_47 (Or.inr (Or.inr (Or.inr ⟨rfl, rfl, rfl⟩))) rfl
  · rw [if_neg hc1] at h
    refine zz_aload_n (i := 1) (pc := 14) C rfl rfl d_Bed_laySideBySide_14 ?_
    refine zz_iload (i := 4) (pc := 15) C rfl d_Bed_laySideBySide_15 ?_
    obtain ⟨hi2, h⟩ := zz_ckE h
    refine zz_iald (pc := 17) C rfl zsh_53 hi2 d_Bed_laySideBySide_17 ?_
    refine zz_istore (i := 5) (lo' := [some (.ref 1), some (.ref 53), some (.ref 54), some (.int v3), some (.int v4), some (.int (s.1 53 (v4.toNatClampNeg)))]) (pc := 18) C (Nat.le_of_ble_eq_true rfl) rfl rfl d_Bed_laySideBySide_18 ?_
    refine zz_aload_n (i := 2) (pc := 20) C rfl rfl d_Bed_laySideBySide_20 ?_
    refine zz_iload (i := 5) (pc := 21) C rfl d_Bed_laySideBySide_21 ?_
    refine zz_aload_n (i := 0) (pc := 23) C rfl rfl d_Bed_laySideBySide_23 ?_
    refine zz_iload (i := 5) (pc := 24) C rfl d_Bed_laySideBySide_24 ?_
    refine zz_iload_n (i := 3) (pc := 26) C rfl rfl d_Bed_laySideBySide_26 ?_
    obtain ⟨q3, hq3, h⟩ := zz_bdE h
    refine zz_cVi (as := [.int (s.1 53 (v4.toNatClampNeg)), .int v3]) (st := [.int (s.1 53 (v4.toNatClampNeg)), .ref 54]) (pc := 27) C (zm_Bed_heldWithin hq3) zcv_Bed_heldWithin zsh_1 zl_0_55 (by omega) (Nat.le_of_ble_eq_true rfl) d_Bed_laySideBySide_27 rfl rfl ?_
    obtain ⟨hi4, h⟩ := zz_ckE h
    refine zz_iast (pc := 30) C rfl zsh_54 hi4 d_Bed_laySideBySide_30 ?_
    refine zz_iload_n (i := 3) (pc := 31) C rfl rfl d_Bed_laySideBySide_31 ?_
    refine zz_aload_n (i := 0) (pc := 32) C rfl rfl d_Bed_laySideBySide_32 ?_
    refine zz_getR (pc := 33) C zl_0_19 zsh_1 rfl d_Bed_laySideBySide_33 ?_
    refine zz_iload (i := 5) (pc := 36) C rfl d_Bed_laySideBySide_36 ?_
    refine zz_ialdv (v := (s.1 3 ((s.1 53 (v4.toNatClampNeg)).toNatClampNeg))) (pc := 38) C rfl zsh_3 hi4 rfl d_Bed_laySideBySide_38 ?_
    refine zz_iadd (pc := 39) C d_Bed_laySideBySide_39 ?_
    refine zz_istore_n (i := 3) (lo' := [some (.ref 1), some (.ref 53), some (.ref 54), some (.int (v3 + (s.1 3 ((s.1 53 (v4.toNatClampNeg)).toNatClampNeg)))), some (.int v4), some (.int (s.1 53 (v4.toNatClampNeg)))]) (pc := 40) C rfl (Nat.le_of_ble_eq_true rfl) rfl rfl d_Bed_laySideBySide_40 ?_
    refine zz_iinc (lo' := [some (.ref 1), some (.ref 53), some (.ref 54), some (.int (v3 + (s.1 3 ((s.1 53 (v4.toNatClampNeg)).toNatClampNeg)))), some (.int (v4 + (1 : Int32))), some (.int (s.1 53 (v4.toNatClampNeg)))]) (pc := 41) C rfl (zz_inc zki_1) rfl rfl d_Bed_laySideBySide_41 ?_
    refine zz_goto (tgt := 5) (pc := 44) C (by decide) d_Bed_laySideBySide_44 ?_
    refine zz_fg C [true, true, true, true, true, false] rfl rfl ?_
    exact ih (v3 + (s.1 3 ((s.1 53 (v4.toNatClampNeg)).toNatClampNeg))) (v4 + (1 : Int32)) (zz_w s 54 ((s.1 53 (v4.toNatClampNeg)).toNatClampNeg) q3) h
set_option maxHeartbeats 4000000 in
set_option maxRecDepth 100000 in
theorem zf_Bed_laySideBySide {G : zz_G} {l : Launch} {Z : zz_Z} {q : zz_S} {s : zz_S} (C : zz_Cx G l "OneBlanket$Bed" "laySideBySide" prog_2_method_13_code 6 (none) 3 (none, zsh, q) Z) (h : f_Bed_laySideBySide s = some q) : Z 0 [some (.ref 1), some (.ref 53), some (.ref 54), none, none, none] [] zsh s := by
  unfold f_Bed_laySideBySide at h
  refine zz_iconst (pc := 0) C zki_0 d_Bed_laySideBySide_0 ?_
  refine zz_istore_n (i := 3) (lo' := [some (.ref 1), some (.ref 53), some (.ref 54), some (.int (0 : Int32)), none, none]) (pc := 1) C rfl (Nat.le_of_ble_eq_true rfl) rfl rfl d_Bed_laySideBySide_1 ?_
  refine zz_iconst (pc := 2) C zki_0 d_Bed_laySideBySide_2 ?_
  refine zz_istore (i := 4) (lo' := [some (.ref 1), some (.ref 53), some (.ref 54), some (.int (0 : Int32)), some (.int (0 : Int32)), none]) (pc := 3) C (Nat.le_of_ble_eq_true rfl) rfl rfl d_Bed_laySideBySide_3 ?_
  exact zf_Bed_laySideBySide_L5 C zF (0 : Int32) (0 : Int32) s h
theorem zm_Bed_laySideBySide {G : zz_G} {l : Launch} {s : zz_S} {q : zz_S} (h : f_Bed_laySideBySide s = some q) : zz_M G l 3 y_Bed_laySideBySide prog_2_method_13_code 6 (none) [.ref 1, .ref 53, .ref 54] zsh s (none, zsh, q) :=
  zz_M.intro (by decide) (Nat.le_of_ble_eq_true rfl) (Nat.le_refl _) (Nat.le_refl _) (fun Z C => zf_Bed_laySideBySide C h)
theorem d_Bed_mendable_0 : decode prog_2_method_6_code 0 = .ok (.iload_n 1, 1) := by decide +kernel
theorem d_Bed_mendable_1 : decode prog_2_method_6_code 1 = .ok (.tableswitch (42) (0) (2) #[27, 32, 37], 27) := by decide +kernel
theorem d_Bed_mendable_28 : decode prog_2_method_6_code 28 = .ok (.aload_n 0, 1) := by decide +kernel
theorem d_Bed_mendable_29 : decode prog_2_method_6_code 29 = .ok (.getfield 22, 3) := by decide +kernel
theorem d_Bed_mendable_32 : decode prog_2_method_6_code 32 = .ok (.areturn, 1) := by decide +kernel
theorem d_Bed_mendable_33 : decode prog_2_method_6_code 33 = .ok (.aload_n 0, 1) := by decide +kernel
theorem d_Bed_mendable_34 : decode prog_2_method_6_code 34 = .ok (.getfield 25, 3) := by decide +kernel
theorem d_Bed_mendable_37 : decode prog_2_method_6_code 37 = .ok (.areturn, 1) := by decide +kernel
theorem d_Bed_mendable_38 : decode prog_2_method_6_code 38 = .ok (.aload_n 0, 1) := by decide +kernel
theorem d_Bed_mendable_39 : decode prog_2_method_6_code 39 = .ok (.getfield 31, 3) := by decide +kernel
theorem d_Bed_mendable_42 : decode prog_2_method_6_code 42 = .ok (.areturn, 1) := by decide +kernel
theorem d_Bed_mendable_43 : decode prog_2_method_6_code 43 = .ok (.aload_n 0, 1) := by decide +kernel
theorem d_Bed_mendable_44 : decode prog_2_method_6_code 44 = .ok (.getfield 37, 3) := by decide +kernel
theorem d_Bed_mendable_47 : decode prog_2_method_6_code 47 = .ok (.areturn, 1) := by decide +kernel
set_option maxHeartbeats 4000000 in
set_option maxRecDepth 100000 in
theorem zf_Bed_mendable {G : zz_G} {l : Launch} {Z : zz_Z} {q : Nat} {s : zz_S} (C : zz_Cx G l "OneBlanket$Bed" "mendable" prog_2_method_6_code 2 (some (.array .int)) 2 (some (.ref q), zsh, s) Z) (a1 : Int32) (h : f_Bed_mendable a1 = q) : Z 0 [some (.ref 1), some (.int a1)] [] zsh s := by
  unfold f_Bed_mendable at h
  refine zz_iload_n (i := 1) (pc := 0) C rfl rfl d_Bed_mendable_0 ?_
  by_cases hc1 : a1 = (0 : Int32)
  · rw [if_pos hc1] at h
    refine zz_tableIn (tgt := 28) (off := 27) (pc := 1) C (by rw [hc1]; decide) (by rw [hc1]; decide) (by rw [hc1]; decide) (by decide) d_Bed_mendable_1 ?_
    refine zz_aload_n (i := 0) (pc := 28) C rfl rfl d_Bed_mendable_28 ?_
    refine zz_getR (pc := 29) C zl_0_22 zsh_1 rfl d_Bed_mendable_29 ?_
    subst h
    exact zz_ret (pc := 32) C (v := some (.ref 4)) d_Bed_mendable_32 (Or.inr (Or.inr (Or.inl ⟨_, _, rfl, rfl, rfl, (Or.inr ⟨_, rfl⟩)⟩))) rfl
  · rw [if_neg hc1] at h
    by_cases hc2 : a1 = (1 : Int32)
    · rw [if_pos hc2] at h
      refine zz_tableIn (tgt := 33) (off := 32) (pc := 1) C (by rw [hc2]; decide) (by rw [hc2]; decide) (by rw [hc2]; decide) (by decide) d_Bed_mendable_1 ?_
      refine zz_aload_n (i := 0) (pc := 33) C rfl rfl d_Bed_mendable_33 ?_
      refine zz_getR (pc := 34) C zl_0_25 zsh_1 rfl d_Bed_mendable_34 ?_
      subst h
      exact zz_ret (pc := 37) C (v := some (.ref 5)) d_Bed_mendable_37 (Or.inr (Or.inr (Or.inl ⟨_, _, rfl, rfl, rfl, (Or.inr ⟨_, rfl⟩)⟩))) rfl
    · rw [if_neg hc2] at h
      by_cases hc3 : a1 = (2 : Int32)
      · rw [if_pos hc3] at h
        refine zz_tableIn (tgt := 38) (off := 37) (pc := 1) C (by rw [hc3]; decide) (by rw [hc3]; decide) (by rw [hc3]; decide) (by decide) d_Bed_mendable_1 ?_
        refine zz_aload_n (i := 0) (pc := 38) C rfl rfl d_Bed_mendable_38 ?_
        refine zz_getR (pc := 39) C zl_0_31 zsh_1 rfl d_Bed_mendable_39 ?_
        subst h
        exact zz_ret (pc := 42) C (v := some (.ref 7)) d_Bed_mendable_42 (Or.inr (Or.inr (Or.inl ⟨_, _, rfl, rfl, rfl, (Or.inr ⟨_, rfl⟩)⟩))) rfl
      · rw [if_neg hc3] at h
        have hc1i : a1.toInt ≠ 0 := fun e => hc1 (Int32.toInt_inj.mp e)
        have hc2i : a1.toInt ≠ 1 := fun e => hc2 (Int32.toInt_inj.mp e)
        have hc3i : a1.toInt ≠ 2 := fun e => hc3 (Int32.toInt_inj.mp e)
        refine zz_tableOut (tgt := 43) (pc := 1) C (by omega) (by decide) d_Bed_mendable_1 ?_
        refine zz_aload_n (i := 0) (pc := 43) C rfl rfl d_Bed_mendable_43 ?_
        refine zz_getR (pc := 44) C zl_0_37 zsh_1 rfl d_Bed_mendable_44 ?_
        subst h
        exact zz_ret (pc := 47) C (v := some (.ref 9)) d_Bed_mendable_47 (Or.inr (Or.inr (Or.inl ⟨_, _, rfl, rfl, rfl, (Or.inr ⟨_, rfl⟩)⟩))) rfl
theorem zm_Bed_mendable {G : zz_G} {l : Launch} {s : zz_S} {q : Nat} {a1 : Int32} (h : f_Bed_mendable a1 = q) : zz_M G l 2 y_Bed_mendable prog_2_method_6_code 2 (some (.array .int)) [.ref 1, .int a1] zsh s (some (.ref q), zsh, s) :=
  zz_M.intro (by decide) (Nat.le_of_ble_eq_true rfl) (Nat.le_refl _) (Nat.le_refl _) (fun Z C => zf_Bed_mendable C a1 h)
theorem d_Bed_ofCover_0 : decode prog_2_method_8_code 0 = .ok (.iload_n 2, 1) := by decide +kernel
theorem d_Bed_ofCover_1 : decode prog_2_method_8_code 1 = .ok (.tableswitch (48) (0) (2) #[27, 34, 41], 27) := by decide +kernel
theorem d_Bed_ofCover_28 : decode prog_2_method_8_code 28 = .ok (.aload_n 0, 1) := by decide +kernel
theorem d_Bed_ofCover_29 : decode prog_2_method_8_code 29 = .ok (.getfield 28, 3) := by decide +kernel
theorem d_Bed_ofCover_32 : decode prog_2_method_8_code 32 = .ok (.iload_n 1, 1) := by decide +kernel
theorem d_Bed_ofCover_33 : decode prog_2_method_8_code 33 = .ok (.iaload, 1) := by decide +kernel
theorem d_Bed_ofCover_34 : decode prog_2_method_8_code 34 = .ok (.ireturn, 1) := by decide +kernel
theorem d_Bed_ofCover_35 : decode prog_2_method_8_code 35 = .ok (.aload_n 0, 1) := by decide +kernel
theorem d_Bed_ofCover_36 : decode prog_2_method_8_code 36 = .ok (.getfield 31, 3) := by decide +kernel
theorem d_Bed_ofCover_39 : decode prog_2_method_8_code 39 = .ok (.iload_n 1, 1) := by decide +kernel
theorem d_Bed_ofCover_40 : decode prog_2_method_8_code 40 = .ok (.iaload, 1) := by decide +kernel
theorem d_Bed_ofCover_41 : decode prog_2_method_8_code 41 = .ok (.ireturn, 1) := by decide +kernel
theorem d_Bed_ofCover_42 : decode prog_2_method_8_code 42 = .ok (.aload_n 0, 1) := by decide +kernel
theorem d_Bed_ofCover_43 : decode prog_2_method_8_code 43 = .ok (.getfield 34, 3) := by decide +kernel
theorem d_Bed_ofCover_46 : decode prog_2_method_8_code 46 = .ok (.iload_n 1, 1) := by decide +kernel
theorem d_Bed_ofCover_47 : decode prog_2_method_8_code 47 = .ok (.iaload, 1) := by decide +kernel
theorem d_Bed_ofCover_48 : decode prog_2_method_8_code 48 = .ok (.ireturn, 1) := by decide +kernel
theorem d_Bed_ofCover_49 : decode prog_2_method_8_code 49 = .ok (.aload_n 0, 1) := by decide +kernel
theorem d_Bed_ofCover_50 : decode prog_2_method_8_code 50 = .ok (.getfield 37, 3) := by decide +kernel
theorem d_Bed_ofCover_53 : decode prog_2_method_8_code 53 = .ok (.iload_n 1, 1) := by decide +kernel
theorem d_Bed_ofCover_54 : decode prog_2_method_8_code 54 = .ok (.iaload, 1) := by decide +kernel
theorem d_Bed_ofCover_55 : decode prog_2_method_8_code 55 = .ok (.ireturn, 1) := by decide +kernel
set_option maxHeartbeats 4000000 in
set_option maxRecDepth 100000 in
theorem zf_Bed_ofCover {G : zz_G} {l : Launch} {Z : zz_Z} {q : Int32} {s : zz_S} (C : zz_Cx G l "OneBlanket$Bed" "ofCover" prog_2_method_8_code 3 (some .int) 2 (some (.int q), zsh, s) Z) (a1 : Int32) (a2 : Int32) (h : f_Bed_ofCover a1 a2 s = some q) : Z 0 [some (.ref 1), some (.int a1), some (.int a2)] [] zsh s := by
  unfold f_Bed_ofCover at h
  refine zz_iload_n (i := 2) (pc := 0) C rfl rfl d_Bed_ofCover_0 ?_
  by_cases hc1 : a2 = (0 : Int32)
  · rw [if_pos hc1] at h
    refine zz_tableIn (tgt := 28) (off := 27) (pc := 1) C (by rw [hc1]; decide) (by rw [hc1]; decide) (by rw [hc1]; decide) (by decide) d_Bed_ofCover_1 ?_
    refine zz_aload_n (i := 0) (pc := 28) C rfl rfl d_Bed_ofCover_28 ?_
    refine zz_getR (pc := 29) C zl_0_28 zsh_1 rfl d_Bed_ofCover_29 ?_
    refine zz_iload_n (i := 1) (pc := 32) C rfl rfl d_Bed_ofCover_32 ?_
    obtain ⟨hi2, h⟩ := zz_ckE h
    refine zz_iald (pc := 33) C rfl zsh_6 hi2 d_Bed_ofCover_33 ?_
    replace h := Option.some.inj h
    subst h
    exact zz_ret (pc := 34) C (v := some (.int (s.1 6 (a1.toNatClampNeg)))) d_Bed_ofCover_34 (Or.inl ⟨_, _, rfl, rfl, rfl, rfl⟩) rfl
  · rw [if_neg hc1] at h
    by_cases hc3 : a2 = (1 : Int32)
    · rw [if_pos hc3] at h
      refine zz_tableIn (tgt := 35) (off := 34) (pc := 1) C (by rw [hc3]; decide) (by rw [hc3]; decide) (by rw [hc3]; decide) (by decide) d_Bed_ofCover_1 ?_
      refine zz_aload_n (i := 0) (pc := 35) C rfl rfl d_Bed_ofCover_35 ?_
      refine zz_getR (pc := 36) C zl_0_31 zsh_1 rfl d_Bed_ofCover_36 ?_
      refine zz_iload_n (i := 1) (pc := 39) C rfl rfl d_Bed_ofCover_39 ?_
      obtain ⟨hi4, h⟩ := zz_ckE h
      refine zz_iald (pc := 40) C rfl zsh_7 hi4 d_Bed_ofCover_40 ?_
      replace h := Option.some.inj h
      subst h
      exact zz_ret (pc := 41) C (v := some (.int (s.1 7 (a1.toNatClampNeg)))) d_Bed_ofCover_41 (Or.inl ⟨_, _, rfl, rfl, rfl, rfl⟩) rfl
    · rw [if_neg hc3] at h
      by_cases hc5 : a2 = (2 : Int32)
      · rw [if_pos hc5] at h
        refine zz_tableIn (tgt := 42) (off := 41) (pc := 1) C (by rw [hc5]; decide) (by rw [hc5]; decide) (by rw [hc5]; decide) (by decide) d_Bed_ofCover_1 ?_
        refine zz_aload_n (i := 0) (pc := 42) C rfl rfl d_Bed_ofCover_42 ?_
        refine zz_getR (pc := 43) C zl_0_34 zsh_1 rfl d_Bed_ofCover_43 ?_
        refine zz_iload_n (i := 1) (pc := 46) C rfl rfl d_Bed_ofCover_46 ?_
        obtain ⟨hi6, h⟩ := zz_ckE h
        refine zz_iald (pc := 47) C rfl zsh_8 hi6 d_Bed_ofCover_47 ?_
        replace h := Option.some.inj h
        subst h
        exact zz_ret (pc := 48) C (v := some (.int (s.1 8 (a1.toNatClampNeg)))) d_Bed_ofCover_48 (Or.inl ⟨_, _, rfl, rfl, rfl, rfl⟩) rfl
      · rw [if_neg hc5] at h
        have hc1i : a2.toInt ≠ 0 := fun e => hc1 (Int32.toInt_inj.mp e)
        have hc3i : a2.toInt ≠ 1 := fun e => hc3 (Int32.toInt_inj.mp e)
        have hc5i : a2.toInt ≠ 2 := fun e => hc5 (Int32.toInt_inj.mp e)
        refine zz_tableOut (tgt := 49) (pc := 1) C (by omega) (by decide) d_Bed_ofCover_1 ?_
        refine zz_aload_n (i := 0) (pc := 49) C rfl rfl d_Bed_ofCover_49 ?_
        refine zz_getR (pc := 50) C zl_0_37 zsh_1 rfl d_Bed_ofCover_50 ?_
        refine zz_iload_n (i := 1) (pc := 53) C rfl rfl d_Bed_ofCover_53 ?_
        obtain ⟨hi7, h⟩ := zz_ckE h
        refine zz_iald (pc := 54) C rfl zsh_9 hi7 d_Bed_ofCover_54 ?_
        replace h := Option.some.inj h
        subst h
        exact zz_ret (pc := 55) C (v := some (.int (s.1 9 (a1.toNatClampNeg)))) d_Bed_ofCover_55 (Or.inl ⟨_, _, rfl, rfl, rfl, rfl⟩) rfl
theorem zm_Bed_ofCover {G : zz_G} {l : Launch} {s : zz_S} {q : Int32} {a1 : Int32} {a2 : Int32} (h : f_Bed_ofCover a1 a2 s = some q) : zz_M G l 2 y_Bed_ofCover prog_2_method_8_code 3 (some .int) [.ref 1, .int a1, .int a2] zsh s (some (.int q), zsh, s) :=
  zz_M.intro (by decide) (Nat.le_of_ble_eq_true rfl) (Nat.le_refl _) (Nat.le_refl _) (fun Z C => zf_Bed_ofCover C a1 a2 h)
theorem d_Bed_ofSleeper_0 : decode prog_2_method_7_code 0 = .ok (.iload_n 2, 1) := by decide +kernel
theorem d_Bed_ofSleeper_1 : decode prog_2_method_7_code 1 = .ok (.tableswitch (48) (0) (2) #[27, 34, 41], 27) := by decide +kernel
theorem d_Bed_ofSleeper_28 : decode prog_2_method_7_code 28 = .ok (.aload_n 0, 1) := by decide +kernel
theorem d_Bed_ofSleeper_29 : decode prog_2_method_7_code 29 = .ok (.getfield 15, 3) := by decide +kernel
theorem d_Bed_ofSleeper_32 : decode prog_2_method_7_code 32 = .ok (.iload_n 1, 1) := by decide +kernel
theorem d_Bed_ofSleeper_33 : decode prog_2_method_7_code 33 = .ok (.iaload, 1) := by decide +kernel
theorem d_Bed_ofSleeper_34 : decode prog_2_method_7_code 34 = .ok (.ireturn, 1) := by decide +kernel
theorem d_Bed_ofSleeper_35 : decode prog_2_method_7_code 35 = .ok (.aload_n 0, 1) := by decide +kernel
theorem d_Bed_ofSleeper_36 : decode prog_2_method_7_code 36 = .ok (.getfield 19, 3) := by decide +kernel
theorem d_Bed_ofSleeper_39 : decode prog_2_method_7_code 39 = .ok (.iload_n 1, 1) := by decide +kernel
theorem d_Bed_ofSleeper_40 : decode prog_2_method_7_code 40 = .ok (.iaload, 1) := by decide +kernel
theorem d_Bed_ofSleeper_41 : decode prog_2_method_7_code 41 = .ok (.ireturn, 1) := by decide +kernel
theorem d_Bed_ofSleeper_42 : decode prog_2_method_7_code 42 = .ok (.aload_n 0, 1) := by decide +kernel
theorem d_Bed_ofSleeper_43 : decode prog_2_method_7_code 43 = .ok (.getfield 22, 3) := by decide +kernel
theorem d_Bed_ofSleeper_46 : decode prog_2_method_7_code 46 = .ok (.iload_n 1, 1) := by decide +kernel
theorem d_Bed_ofSleeper_47 : decode prog_2_method_7_code 47 = .ok (.iaload, 1) := by decide +kernel
theorem d_Bed_ofSleeper_48 : decode prog_2_method_7_code 48 = .ok (.ireturn, 1) := by decide +kernel
theorem d_Bed_ofSleeper_49 : decode prog_2_method_7_code 49 = .ok (.aload_n 0, 1) := by decide +kernel
theorem d_Bed_ofSleeper_50 : decode prog_2_method_7_code 50 = .ok (.getfield 25, 3) := by decide +kernel
theorem d_Bed_ofSleeper_53 : decode prog_2_method_7_code 53 = .ok (.iload_n 1, 1) := by decide +kernel
theorem d_Bed_ofSleeper_54 : decode prog_2_method_7_code 54 = .ok (.iaload, 1) := by decide +kernel
theorem d_Bed_ofSleeper_55 : decode prog_2_method_7_code 55 = .ok (.ireturn, 1) := by decide +kernel
set_option maxHeartbeats 4000000 in
set_option maxRecDepth 100000 in
theorem zf_Bed_ofSleeper {G : zz_G} {l : Launch} {Z : zz_Z} {q : Int32} {s : zz_S} (C : zz_Cx G l "OneBlanket$Bed" "ofSleeper" prog_2_method_7_code 3 (some .int) 2 (some (.int q), zsh, s) Z) (a1 : Int32) (a2 : Int32) (h : f_Bed_ofSleeper a1 a2 s = some q) : Z 0 [some (.ref 1), some (.int a1), some (.int a2)] [] zsh s := by
  unfold f_Bed_ofSleeper at h
  refine zz_iload_n (i := 2) (pc := 0) C rfl rfl d_Bed_ofSleeper_0 ?_
  by_cases hc1 : a2 = (0 : Int32)
  · rw [if_pos hc1] at h
    refine zz_tableIn (tgt := 28) (off := 27) (pc := 1) C (by rw [hc1]; decide) (by rw [hc1]; decide) (by rw [hc1]; decide) (by decide) d_Bed_ofSleeper_1 ?_
    refine zz_aload_n (i := 0) (pc := 28) C rfl rfl d_Bed_ofSleeper_28 ?_
    refine zz_getR (pc := 29) C zl_0_15 zsh_1 rfl d_Bed_ofSleeper_29 ?_
    refine zz_iload_n (i := 1) (pc := 32) C rfl rfl d_Bed_ofSleeper_32 ?_
    obtain ⟨hi2, h⟩ := zz_ckE h
    refine zz_iald (pc := 33) C rfl zsh_2 hi2 d_Bed_ofSleeper_33 ?_
    replace h := Option.some.inj h
    subst h
    exact zz_ret (pc := 34) C (v := some (.int (s.1 2 (a1.toNatClampNeg)))) d_Bed_ofSleeper_34 (Or.inl ⟨_, _, rfl, rfl, rfl, rfl⟩) rfl
  · rw [if_neg hc1] at h
    by_cases hc3 : a2 = (1 : Int32)
    · rw [if_pos hc3] at h
      refine zz_tableIn (tgt := 35) (off := 34) (pc := 1) C (by rw [hc3]; decide) (by rw [hc3]; decide) (by rw [hc3]; decide) (by decide) d_Bed_ofSleeper_1 ?_
      refine zz_aload_n (i := 0) (pc := 35) C rfl rfl d_Bed_ofSleeper_35 ?_
      refine zz_getR (pc := 36) C zl_0_19 zsh_1 rfl d_Bed_ofSleeper_36 ?_
      refine zz_iload_n (i := 1) (pc := 39) C rfl rfl d_Bed_ofSleeper_39 ?_
      obtain ⟨hi4, h⟩ := zz_ckE h
      refine zz_iald (pc := 40) C rfl zsh_3 hi4 d_Bed_ofSleeper_40 ?_
      replace h := Option.some.inj h
      subst h
      exact zz_ret (pc := 41) C (v := some (.int (s.1 3 (a1.toNatClampNeg)))) d_Bed_ofSleeper_41 (Or.inl ⟨_, _, rfl, rfl, rfl, rfl⟩) rfl
    · rw [if_neg hc3] at h
      by_cases hc5 : a2 = (2 : Int32)
      · rw [if_pos hc5] at h
        refine zz_tableIn (tgt := 42) (off := 41) (pc := 1) C (by rw [hc5]; decide) (by rw [hc5]; decide) (by rw [hc5]; decide) (by decide) d_Bed_ofSleeper_1 ?_
        refine zz_aload_n (i := 0) (pc := 42) C rfl rfl d_Bed_ofSleeper_42 ?_
        refine zz_getR (pc := 43) C zl_0_22 zsh_1 rfl d_Bed_ofSleeper_43 ?_
        refine zz_iload_n (i := 1) (pc := 46) C rfl rfl d_Bed_ofSleeper_46 ?_
        obtain ⟨hi6, h⟩ := zz_ckE h
        refine zz_iald (pc := 47) C rfl zsh_4 hi6 d_Bed_ofSleeper_47 ?_
        replace h := Option.some.inj h
        subst h
        exact zz_ret (pc := 48) C (v := some (.int (s.1 4 (a1.toNatClampNeg)))) d_Bed_ofSleeper_48 (Or.inl ⟨_, _, rfl, rfl, rfl, rfl⟩) rfl
      · rw [if_neg hc5] at h
        have hc1i : a2.toInt ≠ 0 := fun e => hc1 (Int32.toInt_inj.mp e)
        have hc3i : a2.toInt ≠ 1 := fun e => hc3 (Int32.toInt_inj.mp e)
        have hc5i : a2.toInt ≠ 2 := fun e => hc5 (Int32.toInt_inj.mp e)
        refine zz_tableOut (tgt := 49) (pc := 1) C (by omega) (by decide) d_Bed_ofSleeper_1 ?_
        refine zz_aload_n (i := 0) (pc := 49) C rfl rfl d_Bed_ofSleeper_49 ?_
        refine zz_getR (pc := 50) C zl_0_25 zsh_1 rfl d_Bed_ofSleeper_50 ?_
        refine zz_iload_n (i := 1) (pc := 53) C rfl rfl d_Bed_ofSleeper_53 ?_
        obtain ⟨hi7, h⟩ := zz_ckE h
        refine zz_iald (pc := 54) C rfl zsh_5 hi7 d_Bed_ofSleeper_54 ?_
        replace h := Option.some.inj h
        subst h
        exact zz_ret (pc := 55) C (v := some (.int (s.1 5 (a1.toNatClampNeg)))) d_Bed_ofSleeper_55 (Or.inl ⟨_, _, rfl, rfl, rfl, rfl⟩) rfl
theorem zm_Bed_ofSleeper {G : zz_G} {l : Launch} {s : zz_S} {q : Int32} {a1 : Int32} {a2 : Int32} (h : f_Bed_ofSleeper a1 a2 s = some q) : zz_M G l 2 y_Bed_ofSleeper prog_2_method_7_code 3 (some .int) [.ref 1, .int a1, .int a2] zsh s (some (.int q), zsh, s) :=
  zz_M.intro (by decide) (Nat.le_of_ble_eq_true rfl) (Nat.le_refl _) (Nat.le_refl _) (fun Z C => zf_Bed_ofSleeper C a1 a2 h)
theorem d_Bed_partOf_0 : decode prog_2_method_11_code 0 = .ok (.aload_n 0, 1) := by decide +kernel
theorem d_Bed_partOf_1 : decode prog_2_method_11_code 1 = .ok (.getfield 19, 3) := by decide +kernel
theorem d_Bed_partOf_4 : decode prog_2_method_11_code 4 = .ok (.iload_n 1, 1) := by decide +kernel
theorem d_Bed_partOf_5 : decode prog_2_method_11_code 5 = .ok (.iaload, 1) := by decide +kernel
theorem d_Bed_partOf_6 : decode prog_2_method_11_code 6 = .ok (.ifCond .ne (7), 3) := by decide +kernel
theorem d_Bed_partOf_9 : decode prog_2_method_11_code 9 = .ok (.iconst 0, 1) := by decide +kernel
theorem d_Bed_partOf_10 : decode prog_2_method_11_code 10 = .ok (.goto (13), 3) := by decide +kernel
theorem d_Bed_partOf_13 : decode prog_2_method_11_code 13 = .ok (.iload_n 2, 1) := by decide +kernel
theorem d_Bed_partOf_14 : decode prog_2_method_11_code 14 = .ok (.iload_n 3, 1) := by decide +kernel
theorem d_Bed_partOf_15 : decode prog_2_method_11_code 15 = .ok (.imul, 1) := by decide +kernel
theorem d_Bed_partOf_16 : decode prog_2_method_11_code 16 = .ok (.aload_n 0, 1) := by decide +kernel
theorem d_Bed_partOf_17 : decode prog_2_method_11_code 17 = .ok (.getfield 19, 3) := by decide +kernel
theorem d_Bed_partOf_20 : decode prog_2_method_11_code 20 = .ok (.iload_n 1, 1) := by decide +kernel
theorem d_Bed_partOf_21 : decode prog_2_method_11_code 21 = .ok (.iaload, 1) := by decide +kernel
theorem d_Bed_partOf_22 : decode prog_2_method_11_code 22 = .ok (.idiv, 1) := by decide +kernel
theorem d_Bed_partOf_23 : decode prog_2_method_11_code 23 = .ok (.ireturn, 1) := by decide +kernel
set_option maxHeartbeats 4000000 in
set_option maxRecDepth 100000 in
theorem zf_Bed_partOf {G : zz_G} {l : Launch} {Z : zz_Z} {q : Int32} {s : zz_S} (C : zz_Cx G l "OneBlanket$Bed" "partOf" prog_2_method_11_code 4 (some .int) 2 (some (.int q), zsh, s) Z) (a1 : Int32) (a2 : Int32) (a3 : Int32) (h : f_Bed_partOf a1 a2 a3 s = some q) : Z 0 [some (.ref 1), some (.int a1), some (.int a2), some (.int a3)] [] zsh s := by
  unfold f_Bed_partOf at h
  refine zz_aload_n (i := 0) (pc := 0) C rfl rfl d_Bed_partOf_0 ?_
  refine zz_getR (pc := 1) C zl_0_19 zsh_1 rfl d_Bed_partOf_1 ?_
  refine zz_iload_n (i := 1) (pc := 4) C rfl rfl d_Bed_partOf_4 ?_
  obtain ⟨hi1, h⟩ := zz_ckE h
  refine zz_iald (pc := 5) C rfl zsh_3 hi1 d_Bed_partOf_5 ?_
  refine zz_if_ne (tgt := 13) (pc := 6) C (by decide) d_Bed_partOf_6 (fun hc2 => ?_) (fun hc2 => ?_)
  · rw [if_neg hc2] at h
    refine zz_iload_n (i := 2) (pc := 13) C rfl rfl d_Bed_partOf_13 ?_
    refine zz_iload_n (i := 3) (pc := 14) C rfl rfl d_Bed_partOf_14 ?_
    refine zz_imul (pc := 15) C d_Bed_partOf_15 ?_
    refine zz_aload_n (i := 0) (pc := 16) C rfl rfl d_Bed_partOf_16 ?_
    refine zz_getR (pc := 17) C zl_0_19 zsh_1 rfl d_Bed_partOf_17 ?_
    refine zz_iload_n (i := 1) (pc := 20) C rfl rfl d_Bed_partOf_20 ?_
    refine zz_iald (pc := 21) C rfl zsh_3 hi1 d_Bed_partOf_21 ?_
    obtain ⟨hy3, h⟩ := zz_ckN h
    refine zz_idiv (pc := 22) C hy3 d_Bed_partOf_22 ?_
    replace h := Option.some.inj h
    subst h
    exact zz_ret (pc := 23) C (v := some (.int ((a2 * a3) / (s.1 3 (a1.toNatClampNeg))))) d_Bed_partOf_23 (Or.inl ⟨_, _, rfl, rfl, rfl, rfl⟩) rfl
  · rw [if_pos hc2] at h
    refine zz_iconst (pc := 9) C zki_0 d_Bed_partOf_9 ?_
    refine zz_goto (tgt := 23) (pc := 10) C (by decide) d_Bed_partOf_10 ?_
    replace h := Option.some.inj h
    subst h
    exact zz_ret (pc := 23) C (v := some (.int (0 : Int32))) d_Bed_partOf_23 (Or.inl ⟨_, _, rfl, rfl, rfl, rfl⟩) rfl
theorem zm_Bed_partOf {G : zz_G} {l : Launch} {s : zz_S} {q : Int32} {a1 : Int32} {a2 : Int32} {a3 : Int32} (h : f_Bed_partOf a1 a2 a3 s = some q) : zz_M G l 2 y_Bed_partOf prog_2_method_11_code 4 (some .int) [.ref 1, .int a1, .int a2, .int a3] zsh s (some (.int q), zsh, s) :=
  zz_M.intro (by decide) (Nat.le_of_ble_eq_true rfl) (Nat.le_refl _) (Nat.le_refl _) (fun Z C => zf_Bed_partOf C a1 a2 a3 h)
theorem d_Bodies_add_0 : decode prog_3_method_3_code 0 = .ok (.aload_n 0, 1) := by decide +kernel
theorem d_Bodies_add_1 : decode prog_3_method_3_code 1 = .ok (.getfield 11, 3) := by decide +kernel
theorem d_Bodies_add_4 : decode prog_3_method_3_code 4 = .ok (.aload_n 0, 1) := by decide +kernel
theorem d_Bodies_add_5 : decode prog_3_method_3_code 5 = .ok (.getfield 18, 3) := by decide +kernel
theorem d_Bodies_add_8 : decode prog_3_method_3_code 8 = .ok (.iload_n 1, 1) := by decide +kernel
theorem d_Bodies_add_9 : decode prog_3_method_3_code 9 = .ok (.iastore, 1) := by decide +kernel
theorem d_Bodies_add_10 : decode prog_3_method_3_code 10 = .ok (.aload_n 0, 1) := by decide +kernel
theorem d_Bodies_add_11 : decode prog_3_method_3_code 11 = .ok (.dup, 1) := by decide +kernel
theorem d_Bodies_add_12 : decode prog_3_method_3_code 12 = .ok (.getfield 18, 3) := by decide +kernel
theorem d_Bodies_add_15 : decode prog_3_method_3_code 15 = .ok (.iconst 1, 1) := by decide +kernel
theorem d_Bodies_add_16 : decode prog_3_method_3_code 16 = .ok (.iadd, 1) := by decide +kernel
theorem d_Bodies_add_17 : decode prog_3_method_3_code 17 = .ok (.putfield 18, 3) := by decide +kernel
theorem d_Bodies_add_20 : decode prog_3_method_3_code 20 = .ok (.aload_n 0, 1) := by decide +kernel
theorem d_Bodies_add_21 : decode prog_3_method_3_code 21 = .ok (.getfield 18, 3) := by decide +kernel
theorem d_Bodies_add_24 : decode prog_3_method_3_code 24 = .ok (.iconst 1, 1) := by decide +kernel
theorem d_Bodies_add_25 : decode prog_3_method_3_code 25 = .ok (.isub, 1) := by decide +kernel
theorem d_Bodies_add_26 : decode prog_3_method_3_code 26 = .ok (.ireturn, 1) := by decide +kernel
set_option maxHeartbeats 4000000 in
set_option maxRecDepth 100000 in
theorem zf_Bodies_add {G : zz_G} {l : Launch} {Z : zz_Z} {q : Int32 × zz_S} {s : zz_S} (C : zz_Cx G l "OneBlanket$Bodies" "add" prog_3_method_3_code 2 (some .int) 2 (some (.int q.1), zsh, q.2) Z) (a1 : Int32) (h : f_Bodies_add a1 s = some q) : Z 0 [some (.ref 49), some (.int a1)] [] zsh s := by
  unfold f_Bodies_add at h
  refine zz_aload_n (i := 0) (pc := 0) C rfl rfl d_Bodies_add_0 ?_
  refine zz_getR (pc := 1) C zl_1_11 zsh_49 rfl d_Bodies_add_1 ?_
  refine zz_aload_n (i := 0) (pc := 4) C rfl rfl d_Bodies_add_4 ?_
  refine zz_getI (pc := 5) C zl_1_18 zsh_49 rfl d_Bodies_add_5 ?_
  refine zz_iload_n (i := 1) (pc := 8) C rfl rfl d_Bodies_add_8 ?_
  obtain ⟨hi1, h⟩ := zz_ckE h
  refine zz_iast (pc := 9) C rfl zsh_50 hi1 d_Bodies_add_9 ?_
  refine zz_aload_n (i := 0) (pc := 10) C rfl rfl d_Bodies_add_10 ?_
  refine zz_dup (pc := 11) C rfl d_Bodies_add_11 ?_
  refine zz_getIv (v := (s.1 49 0)) (pc := 12) C zl_1_18 zsh_49 rfl rfl d_Bodies_add_12 ?_
  refine zz_iconst (pc := 15) C zki_1 d_Bodies_add_15 ?_
  refine zz_iadd (pc := 16) C d_Bodies_add_16 ?_
  refine zz_putI' (pc := 17) C zl_1_18 zpf_1_0 zsh_49 rfl d_Bodies_add_17 ?_
  refine zz_aload_n (i := 0) (pc := 20) C rfl rfl d_Bodies_add_20 ?_
  refine zz_getIv (v := ((s.1 49 0) + (1 : Int32))) (pc := 21) C zl_1_18 zsh_49 rfl rfl d_Bodies_add_21 ?_
  refine zz_iconst (pc := 24) C zki_1 d_Bodies_add_24 ?_
  refine zz_isub (pc := 25) C d_Bodies_add_25 ?_
  replace h := Option.some.inj h
  subst h
  exact zz_ret (pc := 26) C (v := some (.int (((s.1 49 0) + (1 : Int32)) - (1 : Int32)))) d_Bodies_add_26 (Or.inl ⟨_, _, rfl, rfl, rfl, rfl⟩) rfl
theorem zm_Bodies_add {G : zz_G} {l : Launch} {s : zz_S} {q : Int32 × zz_S} {a1 : Int32} (h : f_Bodies_add a1 s = some q) : zz_M G l 2 y_Bodies_add prog_3_method_3_code 2 (some .int) [.ref 49, .int a1] zsh s (some (.int q.1), zsh, q.2) :=
  zz_M.intro (by decide) (Nat.le_of_ble_eq_true rfl) (Nat.le_refl _) (Nat.le_refl _) (fun Z C => zf_Bodies_add C a1 h)
theorem d_Bodies_begins_0 : decode prog_3_method_6_code 0 = .ok (.aload_n 0, 1) := by decide +kernel
theorem d_Bodies_begins_1 : decode prog_3_method_6_code 1 = .ok (.getfield 28, 3) := by decide +kernel
theorem d_Bodies_begins_4 : decode prog_3_method_6_code 4 = .ok (.bipush (24), 2) := by decide +kernel
theorem d_Bodies_begins_6 : decode prog_3_method_6_code 6 = .ok (.if_icmp .ge (13), 3) := by decide +kernel
theorem d_Bodies_begins_9 : decode prog_3_method_6_code 9 = .ok (.aload_n 0, 1) := by decide +kernel
theorem d_Bodies_begins_10 : decode prog_3_method_6_code 10 = .ok (.getfield 15, 3) := by decide +kernel
theorem d_Bodies_begins_13 : decode prog_3_method_6_code 13 = .ok (.aload_n 0, 1) := by decide +kernel
theorem d_Bodies_begins_14 : decode prog_3_method_6_code 14 = .ok (.getfield 28, 3) := by decide +kernel
theorem d_Bodies_begins_17 : decode prog_3_method_6_code 17 = .ok (.iload_n 1, 1) := by decide +kernel
theorem d_Bodies_begins_18 : decode prog_3_method_6_code 18 = .ok (.iastore, 1) := by decide +kernel
theorem d_Bodies_begins_19 : decode prog_3_method_6_code 19 = .ok (.aload_n 0, 1) := by decide +kernel
theorem d_Bodies_begins_20 : decode prog_3_method_6_code 20 = .ok (.dup, 1) := by decide +kernel
theorem d_Bodies_begins_21 : decode prog_3_method_6_code 21 = .ok (.getfield 28, 3) := by decide +kernel
theorem d_Bodies_begins_24 : decode prog_3_method_6_code 24 = .ok (.iconst 1, 1) := by decide +kernel
theorem d_Bodies_begins_25 : decode prog_3_method_6_code 25 = .ok (.iadd, 1) := by decide +kernel
theorem d_Bodies_begins_26 : decode prog_3_method_6_code 26 = .ok (.putfield 28, 3) := by decide +kernel
theorem d_Bodies_begins_29 : decode prog_3_method_6_code 29 = .ok (.return_, 1) := by decide +kernel
set_option maxHeartbeats 4000000 in
set_option maxRecDepth 100000 in
theorem zf_Bodies_begins_J19 {G : zz_G} {l : Launch} {Z : zz_Z} {q : zz_S} {s : zz_S} (C : zz_Cx G l "OneBlanket$Bodies" "begins" prog_3_method_6_code 2 (none) 2 (none, zsh, q) Z) (h : f_Bodies_begins_J19 s = some q) : Z 19 [some (.ref 49), none] [] zsh s := by
  unfold f_Bodies_begins_J19 at h
  refine zz_aload_n (i := 0) (pc := 19) C rfl rfl d_Bodies_begins_19 ?_
  refine zz_dup (pc := 20) C rfl d_Bodies_begins_20 ?_
  refine zz_getI (pc := 21) C zl_1_28 zsh_49 rfl d_Bodies_begins_21 ?_
  refine zz_iconst (pc := 24) C zki_1 d_Bodies_begins_24 ?_
  refine zz_iadd (pc := 25) C d_Bodies_begins_25 ?_
  refine zz_putI' (pc := 26) C zl_1_28 zpf_1_1 zsh_49 rfl d_Bodies_begins_26 ?_
  replace h := Option.some.inj h
  subst h
  exact zz_ret (pc := 29) C (v := none) d_Bodies_begins_29 (Or.inr (Or.inr (Or.inr ⟨rfl, rfl, rfl⟩))) rfl
set_option maxHeartbeats 4000000 in
set_option maxRecDepth 100000 in
theorem zf_Bodies_begins {G : zz_G} {l : Launch} {Z : zz_Z} {q : zz_S} {s : zz_S} (C : zz_Cx G l "OneBlanket$Bodies" "begins" prog_3_method_6_code 2 (none) 2 (none, zsh, q) Z) (a1 : Int32) (h : f_Bodies_begins a1 s = some q) : Z 0 [some (.ref 49), some (.int a1)] [] zsh s := by
  unfold f_Bodies_begins at h
  refine zz_aload_n (i := 0) (pc := 0) C rfl rfl d_Bodies_begins_0 ?_
  refine zz_getI (pc := 1) C zl_1_28 zsh_49 rfl d_Bodies_begins_1 ?_
  refine zz_bipush (pc := 4) C zkb_24 d_Bodies_begins_4 ?_
  refine zz_icmp_ge (tgt := 19) (pc := 6) C (by decide) d_Bodies_begins_6 (fun hc1 => ?_) (fun hc1 => ?_)
  · rw [if_pos hc1] at h
    refine zz_fg C [true, false] rfl rfl ?_
    exact zf_Bodies_begins_J19 C h
  · rw [if_neg hc1] at h
    refine zz_aload_n (i := 0) (pc := 9) C rfl rfl d_Bodies_begins_9 ?_
    refine zz_getR (pc := 10) C zl_1_15 zsh_49 rfl d_Bodies_begins_10 ?_
    refine zz_aload_n (i := 0) (pc := 13) C rfl rfl d_Bodies_begins_13 ?_
    refine zz_getI (pc := 14) C zl_1_28 zsh_49 rfl d_Bodies_begins_14 ?_
    refine zz_iload_n (i := 1) (pc := 17) C rfl rfl d_Bodies_begins_17 ?_
    obtain ⟨hi2, h⟩ := zz_ckE h
    refine zz_iast (pc := 18) C rfl zsh_51 hi2 d_Bodies_begins_18 ?_
    refine zz_fg C [true, false] rfl rfl ?_
    exact zf_Bodies_begins_J19 C h
theorem zm_Bodies_begins {G : zz_G} {l : Launch} {s : zz_S} {q : zz_S} {a1 : Int32} (h : f_Bodies_begins a1 s = some q) : zz_M G l 2 y_Bodies_begins prog_3_method_6_code 2 (none) [.ref 49, .int a1] zsh s (none, zsh, q) :=
  zz_M.intro (by decide) (Nat.le_of_ble_eq_true rfl) (Nat.le_refl _) (Nat.le_refl _) (fun Z C => zf_Bodies_begins C a1 h)
theorem d_Bodies_has_0 : decode prog_3_method_2_code 0 = .ok (.iload_n 1, 1) := by decide +kernel
theorem d_Bodies_has_1 : decode prog_3_method_2_code 1 = .ok (.ifCond .lt (15), 3) := by decide +kernel
theorem d_Bodies_has_4 : decode prog_3_method_2_code 4 = .ok (.iload_n 1, 1) := by decide +kernel
theorem d_Bodies_has_5 : decode prog_3_method_2_code 5 = .ok (.aload_n 0, 1) := by decide +kernel
theorem d_Bodies_has_6 : decode prog_3_method_2_code 6 = .ok (.getfield 18, 3) := by decide +kernel
theorem d_Bodies_has_9 : decode prog_3_method_2_code 9 = .ok (.if_icmp .ge (7), 3) := by decide +kernel
theorem d_Bodies_has_12 : decode prog_3_method_2_code 12 = .ok (.iconst 1, 1) := by decide +kernel
theorem d_Bodies_has_13 : decode prog_3_method_2_code 13 = .ok (.goto (4), 3) := by decide +kernel
theorem d_Bodies_has_16 : decode prog_3_method_2_code 16 = .ok (.iconst 0, 1) := by decide +kernel
theorem d_Bodies_has_17 : decode prog_3_method_2_code 17 = .ok (.ireturn, 1) := by decide +kernel
set_option maxHeartbeats 4000000 in
set_option maxRecDepth 100000 in
theorem zf_Bodies_has {G : zz_G} {l : Launch} {Z : zz_Z} {q : Int32} {s : zz_S} (C : zz_Cx G l "OneBlanket$Bodies" "has" prog_3_method_2_code 2 (some .boolean) 2 (some (.int q), zsh, s) Z) (a1 : Int32) (h : f_Bodies_has a1 s = q) : Z 0 [some (.ref 49), some (.int a1)] [] zsh s := by
  unfold f_Bodies_has at h
  refine zz_iload_n (i := 1) (pc := 0) C rfl rfl d_Bodies_has_0 ?_
  refine zz_if_lt (tgt := 16) (pc := 1) C (by decide) d_Bodies_has_1 (fun hc1 => ?_) (fun hc1 => ?_)
  · rw [if_pos hc1] at h
    refine zz_iconst (pc := 16) C zki_0 d_Bodies_has_16 ?_
    subst h
    exact zz_ret (pc := 17) C (v := some (.int (0 : Int32))) d_Bodies_has_17 (Or.inl ⟨_, _, rfl, rfl, rfl, (by decide)⟩) rfl
  · rw [if_neg hc1] at h
    refine zz_iload_n (i := 1) (pc := 4) C rfl rfl d_Bodies_has_4 ?_
    refine zz_aload_n (i := 0) (pc := 5) C rfl rfl d_Bodies_has_5 ?_
    refine zz_getI (pc := 6) C zl_1_18 zsh_49 rfl d_Bodies_has_6 ?_
    refine zz_icmp_ge (tgt := 16) (pc := 9) C (by decide) d_Bodies_has_9 (fun hc2 => ?_) (fun hc2 => ?_)
    · rw [if_pos hc2] at h
      refine zz_iconst (pc := 16) C zki_0 d_Bodies_has_16 ?_
      subst h
      exact zz_ret (pc := 17) C (v := some (.int (0 : Int32))) d_Bodies_has_17 (Or.inl ⟨_, _, rfl, rfl, rfl, (by decide)⟩) rfl
    · rw [if_neg hc2] at h
      refine zz_iconst (pc := 12) C zki_1 d_Bodies_has_12 ?_
      refine zz_goto (tgt := 17) (pc := 13) C (by decide) d_Bodies_has_13 ?_
      subst h
      exact zz_ret (pc := 17) C (v := some (.int (1 : Int32))) d_Bodies_has_17 (Or.inl ⟨_, _, rfl, rfl, rfl, (by decide)⟩) rfl
theorem zm_Bodies_has {G : zz_G} {l : Launch} {s : zz_S} {q : Int32} {a1 : Int32} (h : f_Bodies_has a1 s = q) : zz_M G l 2 y_Bodies_has prog_3_method_2_code 2 (some .boolean) [.ref 49, .int a1] zsh s (some (.int q), zsh, s) :=
  zz_M.intro (by decide) (Nat.le_of_ble_eq_true rfl) (Nat.le_refl _) (Nat.le_refl _) (fun Z C => zf_Bodies_has C a1 h)
theorem d_Bodies_isUnder_0 : decode prog_3_method_4_code 0 = .ok (.iload_n 0, 1) := by decide +kernel
theorem d_Bodies_isUnder_1 : decode prog_3_method_4_code 1 = .ok (.istore_n 2, 1) := by decide +kernel
theorem d_Bodies_isUnder_2 : decode prog_3_method_4_code 2 = .ok (.iconst 0, 1) := by decide +kernel
theorem d_Bodies_isUnder_3 : decode prog_3_method_4_code 3 = .ok (.istore_n 3, 1) := by decide +kernel
theorem d_Bodies_isUnder_4 : decode prog_3_method_4_code 4 = .ok (.iload_n 3, 1) := by decide +kernel
theorem d_Bodies_isUnder_5 : decode prog_3_method_4_code 5 = .ok (.bipush (8), 2) := by decide +kernel
theorem d_Bodies_isUnder_7 : decode prog_3_method_4_code 7 = .ok (.if_icmp .ge (26), 3) := by decide +kernel
theorem d_Bodies_isUnder_10 : decode prog_3_method_4_code 10 = .ok (.iload_n 2, 1) := by decide +kernel
theorem d_Bodies_isUnder_11 : decode prog_3_method_4_code 11 = .ok (.ifCond .lt (22), 3) := by decide +kernel
theorem d_Bodies_isUnder_14 : decode prog_3_method_4_code 14 = .ok (.iload_n 2, 1) := by decide +kernel
theorem d_Bodies_isUnder_15 : decode prog_3_method_4_code 15 = .ok (.iload_n 1, 1) := by decide +kernel
theorem d_Bodies_isUnder_16 : decode prog_3_method_4_code 16 = .ok (.if_icmp .ne (5), 3) := by decide +kernel
theorem d_Bodies_isUnder_19 : decode prog_3_method_4_code 19 = .ok (.iconst 1, 1) := by decide +kernel
theorem d_Bodies_isUnder_20 : decode prog_3_method_4_code 20 = .ok (.ireturn, 1) := by decide +kernel
theorem d_Bodies_isUnder_21 : decode prog_3_method_4_code 21 = .ok (.getstatic 22, 3) := by decide +kernel
theorem d_Bodies_isUnder_24 : decode prog_3_method_4_code 24 = .ok (.iload_n 2, 1) := by decide +kernel
theorem d_Bodies_isUnder_25 : decode prog_3_method_4_code 25 = .ok (.iaload, 1) := by decide +kernel
theorem d_Bodies_isUnder_26 : decode prog_3_method_4_code 26 = .ok (.istore_n 2, 1) := by decide +kernel
theorem d_Bodies_isUnder_27 : decode prog_3_method_4_code 27 = .ok (.iinc 3 (1), 3) := by decide +kernel
theorem d_Bodies_isUnder_30 : decode prog_3_method_4_code 30 = .ok (.goto (-26), 3) := by decide +kernel
theorem d_Bodies_isUnder_33 : decode prog_3_method_4_code 33 = .ok (.iconst 0, 1) := by decide +kernel
theorem d_Bodies_isUnder_34 : decode prog_3_method_4_code 34 = .ok (.ireturn, 1) := by decide +kernel
set_option maxHeartbeats 4000000 in
set_option maxRecDepth 100000 in
theorem zf_Bodies_isUnder_L4 {G : zz_G} {l : Launch} {Z : zz_Z} {q : Int32} {s : zz_S} (C : zz_Cx G l "OneBlanket$Bodies" "isUnder" prog_3_method_4_code 4 (some .boolean) 2 (some (.int q), zsh, s) Z) : ∀ (n : Nat) (v1 : Int32) (v2 : Int32) (v3 : Int32), f_Bodies_isUnder_L4 n v1 v2 v3 = some q → Z 4 [none, some (.int v1), some (.int v2), some (.int v3)] [] zsh s := by
  intro n
  induction n with
  | zero => intro v1 v2 v3 h; rw [f_Bodies_isUnder_L4] at h; cases h
  | succ n ih =>
  intro v1 v2 v3 h
  rw [f_Bodies_isUnder_L4] at h
  refine zz_iload_n (i := 3) (pc := 4) C rfl rfl d_Bodies_isUnder_4 ?_
  refine zz_bipush (pc := 5) C zkb_8 d_Bodies_isUnder_5 ?_
  refine zz_icmp_ge (tgt := 33) (pc := 7) C (by decide) d_Bodies_isUnder_7 (fun hc1 => ?_) (fun hc1 => ?_)
  · rw [if_pos hc1] at h
    refine zz_iconst (pc := 33) C zki_0 d_Bodies_isUnder_33 ?_
    replace h := Option.some.inj h
    subst h
    exact zz_ret (pc := 34) C (v := some (.int (0 : Int32))) d_Bodies_isUnder_34 (Or.inl ⟨_, _, rfl, rfl, rfl, (by decide)⟩) rfl
  · rw [if_neg hc1] at h
    refine zz_iload_n (i := 2) (pc := 10) C rfl rfl d_Bodies_isUnder_10 ?_
    refine zz_if_lt (tgt := 33) (pc := 11) C (by decide) d_Bodies_isUnder_11 (fun hc2 => ?_) (fun hc2 => ?_)
    · rw [if_pos hc2] at h
      refine zz_iconst (pc := 33) C zki_0 d_Bodies_isUnder_33 ?_
      replace h := Option.some.inj h
      subst h
      exact zz_ret (pc := 34) C (v := some (.int (0 : Int32))) d_Bodies_isUnder_34 (Or.inl ⟨_, _, rfl, rfl, rfl, (by decide)⟩) rfl
    · rw [if_neg hc2] at h
      refine zz_iload_n (i := 2) (pc := 14) C rfl rfl d_Bodies_isUnder_14 ?_
      refine zz_iload_n (i := 1) (pc := 15) C rfl rfl d_Bodies_isUnder_15 ?_
      refine zz_icmp_ne (tgt := 21) (pc := 16) C (by decide) d_Bodies_isUnder_16 (fun hc3 => ?_) (fun hc3 => ?_)
      · rw [if_neg hc3] at h
        refine zz_getABOVE (pc := 21) C zl_1_22 d_Bodies_isUnder_21 ?_
        refine zz_iload_n (i := 2) (pc := 24) C rfl rfl d_Bodies_isUnder_24 ?_
        obtain ⟨hi4, h⟩ := zz_ckE h
        refine zz_ldABOVE (pc := 25) C rfl hi4 d_Bodies_isUnder_25 ?_
        refine zz_istore_n (i := 2) (lo' := [none, some (.int v1), some (.int (zz_abv.getD v2.toNatClampNeg 0)), some (.int v3)]) (pc := 26) C rfl (Nat.le_of_ble_eq_true rfl) rfl rfl d_Bodies_isUnder_26 ?_
        refine zz_iinc (lo' := [none, some (.int v1), some (.int (zz_abv.getD v2.toNatClampNeg 0)), some (.int (v3 + (1 : Int32)))]) (pc := 27) C rfl (zz_inc zki_1) rfl rfl d_Bodies_isUnder_27 ?_
        refine zz_goto (tgt := 4) (pc := 30) C (by decide) d_Bodies_isUnder_30 ?_
        exact ih v1 (zz_abv.getD v2.toNatClampNeg 0) (v3 + (1 : Int32)) h
      · rw [if_pos hc3] at h
        refine zz_iconst (pc := 19) C zki_1 d_Bodies_isUnder_19 ?_
        replace h := Option.some.inj h
        subst h
        exact zz_ret (pc := 20) C (v := some (.int (1 : Int32))) d_Bodies_isUnder_20 (Or.inl ⟨_, _, rfl, rfl, rfl, (by decide)⟩) rfl
set_option maxHeartbeats 4000000 in
set_option maxRecDepth 100000 in
theorem zf_Bodies_isUnder {G : zz_G} {l : Launch} {Z : zz_Z} {q : Int32} {s : zz_S} (C : zz_Cx G l "OneBlanket$Bodies" "isUnder" prog_3_method_4_code 4 (some .boolean) 2 (some (.int q), zsh, s) Z) (a0 : Int32) (a1 : Int32) (h : f_Bodies_isUnder a0 a1 = some q) : Z 0 [some (.int a0), some (.int a1), none, none] [] zsh s := by
  unfold f_Bodies_isUnder at h
  refine zz_iload_n (i := 0) (pc := 0) C rfl rfl d_Bodies_isUnder_0 ?_
  refine zz_istore_n (i := 2) (lo' := [some (.int a0), some (.int a1), some (.int a0), none]) (pc := 1) C rfl (Nat.le_of_ble_eq_true rfl) rfl rfl d_Bodies_isUnder_1 ?_
  refine zz_iconst (pc := 2) C zki_0 d_Bodies_isUnder_2 ?_
  refine zz_istore_n (i := 3) (lo' := [some (.int a0), some (.int a1), some (.int a0), some (.int (0 : Int32))]) (pc := 3) C rfl (Nat.le_of_ble_eq_true rfl) rfl rfl d_Bodies_isUnder_3 ?_
  refine zz_fg C [false, true, true, true] rfl rfl ?_
  exact zf_Bodies_isUnder_L4 C zF a1 a0 (0 : Int32) h
theorem zm_Bodies_isUnder {G : zz_G} {l : Launch} {s : zz_S} {q : Int32} {a0 : Int32} {a1 : Int32} (h : f_Bodies_isUnder a0 a1 = some q) : zz_M G l 2 y_Bodies_isUnder prog_3_method_4_code 4 (some .boolean) [.int a0, .int a1] zsh s (some (.int q), zsh, s) :=
  zz_M.intro (by decide) (Nat.le_of_ble_eq_true rfl) (Nat.le_refl _) (Nat.le_refl _) (fun Z C => zf_Bodies_isUnder C a0 a1 h)
theorem d_Bodies_kindThatHas_0 : decode prog_3_method_5_code 0 = .ok (.iload_n 1, 1) := by decide +kernel
theorem d_Bodies_kindThatHas_1 : decode prog_3_method_5_code 1 = .ok (.istore_n 2, 1) := by decide +kernel
theorem d_Bodies_kindThatHas_2 : decode prog_3_method_5_code 2 = .ok (.iconst 0, 1) := by decide +kernel
theorem d_Bodies_kindThatHas_3 : decode prog_3_method_5_code 3 = .ok (.istore_n 3, 1) := by decide +kernel
theorem d_Bodies_kindThatHas_4 : decode prog_3_method_5_code 4 = .ok (.iload_n 3, 1) := by decide +kernel
theorem d_Bodies_kindThatHas_5 : decode prog_3_method_5_code 5 = .ok (.bipush (8), 2) := by decide +kernel
theorem d_Bodies_kindThatHas_7 : decode prog_3_method_5_code 7 = .ok (.if_icmp .ge (33), 3) := by decide +kernel
theorem d_Bodies_kindThatHas_10 : decode prog_3_method_5_code 10 = .ok (.iload_n 2, 1) := by decide +kernel
theorem d_Bodies_kindThatHas_11 : decode prog_3_method_5_code 11 = .ok (.ifCond .lt (29), 3) := by decide +kernel
theorem d_Bodies_kindThatHas_14 : decode prog_3_method_5_code 14 = .ok (.getstatic 25, 3) := by decide +kernel
theorem d_Bodies_kindThatHas_17 : decode prog_3_method_5_code 17 = .ok (.iload_n 2, 1) := by decide +kernel
theorem d_Bodies_kindThatHas_18 : decode prog_3_method_5_code 18 = .ok (.iconst 4, 1) := by decide +kernel
theorem d_Bodies_kindThatHas_19 : decode prog_3_method_5_code 19 = .ok (.imul, 1) := by decide +kernel
theorem d_Bodies_kindThatHas_20 : decode prog_3_method_5_code 20 = .ok (.iload_n 0, 1) := by decide +kernel
theorem d_Bodies_kindThatHas_21 : decode prog_3_method_5_code 21 = .ok (.iadd, 1) := by decide +kernel
theorem d_Bodies_kindThatHas_22 : decode prog_3_method_5_code 22 = .ok (.iaload, 1) := by decide +kernel
theorem d_Bodies_kindThatHas_23 : decode prog_3_method_5_code 23 = .ok (.ifCond .eq (5), 3) := by decide +kernel
theorem d_Bodies_kindThatHas_26 : decode prog_3_method_5_code 26 = .ok (.iload_n 2, 1) := by decide +kernel
theorem d_Bodies_kindThatHas_27 : decode prog_3_method_5_code 27 = .ok (.ireturn, 1) := by decide +kernel
theorem d_Bodies_kindThatHas_28 : decode prog_3_method_5_code 28 = .ok (.getstatic 22, 3) := by decide +kernel
theorem d_Bodies_kindThatHas_31 : decode prog_3_method_5_code 31 = .ok (.iload_n 2, 1) := by decide +kernel
theorem d_Bodies_kindThatHas_32 : decode prog_3_method_5_code 32 = .ok (.iaload, 1) := by decide +kernel
theorem d_Bodies_kindThatHas_33 : decode prog_3_method_5_code 33 = .ok (.istore_n 2, 1) := by decide +kernel
theorem d_Bodies_kindThatHas_34 : decode prog_3_method_5_code 34 = .ok (.iinc 3 (1), 3) := by decide +kernel
theorem d_Bodies_kindThatHas_37 : decode prog_3_method_5_code 37 = .ok (.goto (-33), 3) := by decide +kernel
theorem d_Bodies_kindThatHas_40 : decode prog_3_method_5_code 40 = .ok (.iconst (-1), 1) := by decide +kernel
theorem d_Bodies_kindThatHas_41 : decode prog_3_method_5_code 41 = .ok (.ireturn, 1) := by decide +kernel
set_option maxHeartbeats 4000000 in
set_option maxRecDepth 100000 in
theorem zf_Bodies_kindThatHas_L4 {G : zz_G} {l : Launch} {Z : zz_Z} {q : Int32} {s : zz_S} (C : zz_Cx G l "OneBlanket$Bodies" "kindThatHas" prog_3_method_5_code 4 (some .int) 2 (some (.int q), zsh, s) Z) : ∀ (n : Nat) (v0 : Int32) (v2 : Int32) (v3 : Int32), f_Bodies_kindThatHas_L4 n v0 v2 v3 = some q → Z 4 [some (.int v0), none, some (.int v2), some (.int v3)] [] zsh s := by
  intro n
  induction n with
  | zero => intro v0 v2 v3 h; rw [f_Bodies_kindThatHas_L4] at h; cases h
  | succ n ih =>
  intro v0 v2 v3 h
  rw [f_Bodies_kindThatHas_L4] at h
  refine zz_iload_n (i := 3) (pc := 4) C rfl rfl d_Bodies_kindThatHas_4 ?_
  refine zz_bipush (pc := 5) C zkb_8 d_Bodies_kindThatHas_5 ?_
  refine zz_icmp_ge (tgt := 40) (pc := 7) C (by decide) d_Bodies_kindThatHas_7 (fun hc1 => ?_) (fun hc1 => ?_)
  · rw [if_pos hc1] at h
    refine zz_iconst (pc := 40) C zki_m1 d_Bodies_kindThatHas_40 ?_
    replace h := Option.some.inj h
    subst h
    exact zz_ret (pc := 41) C (v := some (.int (-1 : Int32))) d_Bodies_kindThatHas_41 (Or.inl ⟨_, _, rfl, rfl, rfl, rfl⟩) rfl
  · rw [if_neg hc1] at h
    refine zz_iload_n (i := 2) (pc := 10) C rfl rfl d_Bodies_kindThatHas_10 ?_
    refine zz_if_lt (tgt := 40) (pc := 11) C (by decide) d_Bodies_kindThatHas_11 (fun hc2 => ?_) (fun hc2 => ?_)
    · rw [if_pos hc2] at h
      refine zz_iconst (pc := 40) C zki_m1 d_Bodies_kindThatHas_40 ?_
      replace h := Option.some.inj h
      subst h
      exact zz_ret (pc := 41) C (v := some (.int (-1 : Int32))) d_Bodies_kindThatHas_41 (Or.inl ⟨_, _, rfl, rfl, rfl, rfl⟩) rfl
    · rw [if_neg hc2] at h
      refine zz_getOWN (pc := 14) C zl_1_25 d_Bodies_kindThatHas_14 ?_
      refine zz_iload_n (i := 2) (pc := 17) C rfl rfl d_Bodies_kindThatHas_17 ?_
      refine zz_iconst (pc := 18) C zki_4 d_Bodies_kindThatHas_18 ?_
      refine zz_imul (pc := 19) C d_Bodies_kindThatHas_19 ?_
      refine zz_iload_n (i := 0) (pc := 20) C rfl rfl d_Bodies_kindThatHas_20 ?_
      refine zz_iadd (pc := 21) C d_Bodies_kindThatHas_21 ?_
      obtain ⟨hi3, h⟩ := zz_ckE h
      refine zz_ldOWN (pc := 22) C rfl hi3 d_Bodies_kindThatHas_22 ?_
      refine zz_if_eq (tgt := 28) (pc := 23) C (by decide) d_Bodies_kindThatHas_23 (fun hc4 => ?_) (fun hc4 => ?_)
      · rw [if_pos hc4] at h
        refine zz_getABOVE (pc := 28) C zl_1_22 d_Bodies_kindThatHas_28 ?_
        refine zz_iload_n (i := 2) (pc := 31) C rfl rfl d_Bodies_kindThatHas_31 ?_
        obtain ⟨hi5, h⟩ := zz_ckE h
        refine zz_ldABOVE (pc := 32) C rfl hi5 d_Bodies_kindThatHas_32 ?_
        refine zz_istore_n (i := 2) (lo' := [some (.int v0), none, some (.int (zz_abv.getD v2.toNatClampNeg 0)), some (.int v3)]) (pc := 33) C rfl (Nat.le_of_ble_eq_true rfl) rfl rfl d_Bodies_kindThatHas_33 ?_
        refine zz_iinc (lo' := [some (.int v0), none, some (.int (zz_abv.getD v2.toNatClampNeg 0)), some (.int (v3 + (1 : Int32)))]) (pc := 34) C rfl (zz_inc zki_1) rfl rfl d_Bodies_kindThatHas_34 ?_
        refine zz_goto (tgt := 4) (pc := 37) C (by decide) d_Bodies_kindThatHas_37 ?_
        exact ih v0 (zz_abv.getD v2.toNatClampNeg 0) (v3 + (1 : Int32)) h
      · rw [if_neg hc4] at h
        refine zz_iload_n (i := 2) (pc := 26) C rfl rfl d_Bodies_kindThatHas_26 ?_
        replace h := Option.some.inj h
        subst h
        exact zz_ret (pc := 27) C (v := some (.int v2)) d_Bodies_kindThatHas_27 (Or.inl ⟨_, _, rfl, rfl, rfl, rfl⟩) rfl
set_option maxHeartbeats 4000000 in
set_option maxRecDepth 100000 in
theorem zf_Bodies_kindThatHas {G : zz_G} {l : Launch} {Z : zz_Z} {q : Int32} {s : zz_S} (C : zz_Cx G l "OneBlanket$Bodies" "kindThatHas" prog_3_method_5_code 4 (some .int) 2 (some (.int q), zsh, s) Z) (a0 : Int32) (a1 : Int32) (h : f_Bodies_kindThatHas a0 a1 = some q) : Z 0 [some (.int a0), some (.int a1), none, none] [] zsh s := by
  unfold f_Bodies_kindThatHas at h
  refine zz_iload_n (i := 1) (pc := 0) C rfl rfl d_Bodies_kindThatHas_0 ?_
  refine zz_istore_n (i := 2) (lo' := [some (.int a0), some (.int a1), some (.int a1), none]) (pc := 1) C rfl (Nat.le_of_ble_eq_true rfl) rfl rfl d_Bodies_kindThatHas_1 ?_
  refine zz_iconst (pc := 2) C zki_0 d_Bodies_kindThatHas_2 ?_
  refine zz_istore_n (i := 3) (lo' := [some (.int a0), some (.int a1), some (.int a1), some (.int (0 : Int32))]) (pc := 3) C rfl (Nat.le_of_ble_eq_true rfl) rfl rfl d_Bodies_kindThatHas_3 ?_
  refine zz_fg C [true, false, true, true] rfl rfl ?_
  exact zf_Bodies_kindThatHas_L4 C zF a0 a1 (0 : Int32) h
theorem zm_Bodies_kindThatHas {G : zz_G} {l : Launch} {s : zz_S} {q : Int32} {a0 : Int32} {a1 : Int32} (h : f_Bodies_kindThatHas a0 a1 = some q) : zz_M G l 2 y_Bodies_kindThatHas prog_3_method_5_code 4 (some .int) [.int a0, .int a1] zsh s (some (.int q), zsh, s) :=
  zz_M.intro (by decide) (Nat.le_of_ble_eq_true rfl) (Nat.le_refl _) (Nat.le_refl _) (fun Z C => zf_Bodies_kindThatHas C a0 a1 h)
theorem d_Bodies_run_0 : decode prog_3_method_8_code 0 = .ok (.iload_n 2, 1) := by decide +kernel
theorem d_Bodies_run_1 : decode prog_3_method_8_code 1 = .ok (.iload_n 3, 1) := by decide +kernel
theorem d_Bodies_run_2 : decode prog_3_method_8_code 2 = .ok (.invokestatic 39, 3) := by decide +kernel
theorem d_Bodies_run_5 : decode prog_3_method_8_code 5 = .ok (.istore 6, 2) := by decide +kernel
theorem d_Bodies_run_7 : decode prog_3_method_8_code 7 = .ok (.iload 6, 2) := by decide +kernel
theorem d_Bodies_run_9 : decode prog_3_method_8_code 9 = .ok (.ifCond .lt (10), 3) := by decide +kernel
theorem d_Bodies_run_12 : decode prog_3_method_8_code 12 = .ok (.iload 5, 2) := by decide +kernel
theorem d_Bodies_run_14 : decode prog_3_method_8_code 14 = .ok (.bipush (40), 2) := by decide +kernel
theorem d_Bodies_run_16 : decode prog_3_method_8_code 16 = .ok (.if_icmp .le (5), 3) := by decide +kernel
theorem d_Bodies_run_19 : decode prog_3_method_8_code 19 = .ok (.iconst 0, 1) := by decide +kernel
theorem d_Bodies_run_20 : decode prog_3_method_8_code 20 = .ok (.ireturn, 1) := by decide +kernel
theorem d_Bodies_run_21 : decode prog_3_method_8_code 21 = .ok (.getstatic 25, 3) := by decide +kernel
theorem d_Bodies_run_24 : decode prog_3_method_8_code 24 = .ok (.iload 6, 2) := by decide +kernel
theorem d_Bodies_run_26 : decode prog_3_method_8_code 26 = .ok (.iconst 4, 1) := by decide +kernel
theorem d_Bodies_run_27 : decode prog_3_method_8_code 27 = .ok (.imul, 1) := by decide +kernel
theorem d_Bodies_run_28 : decode prog_3_method_8_code 28 = .ok (.iload_n 2, 1) := by decide +kernel
theorem d_Bodies_run_29 : decode prog_3_method_8_code 29 = .ok (.iadd, 1) := by decide +kernel
theorem d_Bodies_run_30 : decode prog_3_method_8_code 30 = .ok (.iaload, 1) := by decide +kernel
theorem d_Bodies_run_31 : decode prog_3_method_8_code 31 = .ok (.istore 7, 2) := by decide +kernel
theorem d_Bodies_run_33 : decode prog_3_method_8_code 33 = .ok (.aload_n 0, 1) := by decide +kernel
theorem d_Bodies_run_34 : decode prog_3_method_8_code 34 = .ok (.iload 7, 2) := by decide +kernel
theorem d_Bodies_run_36 : decode prog_3_method_8_code 36 = .ok (.invokevirtual 43, 3) := by decide +kernel
theorem d_Bodies_run_39 : decode prog_3_method_8_code 39 = .ok (.getstatic 22, 3) := by decide +kernel
theorem d_Bodies_run_42 : decode prog_3_method_8_code 42 = .ok (.iload 6, 2) := by decide +kernel
theorem d_Bodies_run_44 : decode prog_3_method_8_code 44 = .ok (.iaload, 1) := by decide +kernel
theorem d_Bodies_run_45 : decode prog_3_method_8_code 45 = .ok (.istore 8, 2) := by decide +kernel
theorem d_Bodies_run_47 : decode prog_3_method_8_code 47 = .ok (.aload_n 0, 1) := by decide +kernel
theorem d_Bodies_run_48 : decode prog_3_method_8_code 48 = .ok (.getfield 11, 3) := by decide +kernel
theorem d_Bodies_run_51 : decode prog_3_method_8_code 51 = .ok (.iload_n 1, 1) := by decide +kernel
theorem d_Bodies_run_52 : decode prog_3_method_8_code 52 = .ok (.iaload, 1) := by decide +kernel
theorem d_Bodies_run_53 : decode prog_3_method_8_code 53 = .ok (.istore 9, 2) := by decide +kernel
theorem d_Bodies_run_55 : decode prog_3_method_8_code 55 = .ok (.iload 5, 2) := by decide +kernel
theorem d_Bodies_run_57 : decode prog_3_method_8_code 57 = .ok (.iconst 1, 1) := by decide +kernel
theorem d_Bodies_run_58 : decode prog_3_method_8_code 58 = .ok (.iadd, 1) := by decide +kernel
theorem d_Bodies_run_59 : decode prog_3_method_8_code 59 = .ok (.istore 10, 2) := by decide +kernel
theorem d_Bodies_run_61 : decode prog_3_method_8_code 61 = .ok (.iload 7, 2) := by decide +kernel
theorem d_Bodies_run_63 : decode prog_3_method_8_code 63 = .ok (.lookupswitch (340) #[(1, 121), (2, 126), (10, 151), (11, 166), (20, 171), (30, 186), (40, 200), (41, 215), (50, 230), (60, 245), (61, 270), (70, 285), (80, 300), (81, 325)], 121) := by decide +kernel
theorem d_Bodies_run_184 : decode prog_3_method_8_code 184 = .ok (.iload 4, 2) := by decide +kernel
theorem d_Bodies_run_186 : decode prog_3_method_8_code 186 = .ok (.iload_n 1, 1) := by decide +kernel
theorem d_Bodies_run_187 : decode prog_3_method_8_code 187 = .ok (.iadd, 1) := by decide +kernel
theorem d_Bodies_run_188 : decode prog_3_method_8_code 188 = .ok (.ireturn, 1) := by decide +kernel
theorem d_Bodies_run_189 : decode prog_3_method_8_code 189 = .ok (.aload_n 0, 1) := by decide +kernel
theorem d_Bodies_run_190 : decode prog_3_method_8_code 190 = .ok (.iload_n 1, 1) := by decide +kernel
theorem d_Bodies_run_191 : decode prog_3_method_8_code 191 = .ok (.iconst 1, 1) := by decide +kernel
theorem d_Bodies_run_192 : decode prog_3_method_8_code 192 = .ok (.iload 9, 2) := by decide +kernel
theorem d_Bodies_run_194 : decode prog_3_method_8_code 194 = .ok (.iload 4, 2) := by decide +kernel
theorem d_Bodies_run_196 : decode prog_3_method_8_code 196 = .ok (.iload 10, 2) := by decide +kernel
theorem d_Bodies_run_198 : decode prog_3_method_8_code 198 = .ok (.invokevirtual 35, 3) := by decide +kernel
theorem d_Bodies_run_201 : decode prog_3_method_8_code 201 = .ok (.aload_n 0, 1) := by decide +kernel
theorem d_Bodies_run_202 : decode prog_3_method_8_code 202 = .ok (.iload_n 1, 1) := by decide +kernel
theorem d_Bodies_run_203 : decode prog_3_method_8_code 203 = .ok (.iconst 2, 1) := by decide +kernel
theorem d_Bodies_run_204 : decode prog_3_method_8_code 204 = .ok (.iload 9, 2) := by decide +kernel
theorem d_Bodies_run_206 : decode prog_3_method_8_code 206 = .ok (.iconst 1, 1) := by decide +kernel
theorem d_Bodies_run_207 : decode prog_3_method_8_code 207 = .ok (.iload 10, 2) := by decide +kernel
theorem d_Bodies_run_209 : decode prog_3_method_8_code 209 = .ok (.invokevirtual 35, 3) := by decide +kernel
theorem d_Bodies_run_212 : decode prog_3_method_8_code 212 = .ok (.isub, 1) := by decide +kernel
theorem d_Bodies_run_213 : decode prog_3_method_8_code 213 = .ok (.ireturn, 1) := by decide +kernel
theorem d_Bodies_run_214 : decode prog_3_method_8_code 214 = .ok (.aload_n 0, 1) := by decide +kernel
theorem d_Bodies_run_215 : decode prog_3_method_8_code 215 = .ok (.iload_n 1, 1) := by decide +kernel
theorem d_Bodies_run_216 : decode prog_3_method_8_code 216 = .ok (.iconst 0, 1) := by decide +kernel
theorem d_Bodies_run_217 : decode prog_3_method_8_code 217 = .ok (.iload 9, 2) := by decide +kernel
theorem d_Bodies_run_219 : decode prog_3_method_8_code 219 = .ok (.iload 4, 2) := by decide +kernel
theorem d_Bodies_run_221 : decode prog_3_method_8_code 221 = .ok (.iload 10, 2) := by decide +kernel
theorem d_Bodies_run_223 : decode prog_3_method_8_code 223 = .ok (.invokevirtual 35, 3) := by decide +kernel
theorem d_Bodies_run_226 : decode prog_3_method_8_code 226 = .ok (.iconst 2, 1) := by decide +kernel
theorem d_Bodies_run_227 : decode prog_3_method_8_code 227 = .ok (.imul, 1) := by decide +kernel
theorem d_Bodies_run_228 : decode prog_3_method_8_code 228 = .ok (.ireturn, 1) := by decide +kernel
theorem d_Bodies_run_229 : decode prog_3_method_8_code 229 = .ok (.iload 4, 2) := by decide +kernel
theorem d_Bodies_run_231 : decode prog_3_method_8_code 231 = .ok (.iload_n 1, 1) := by decide +kernel
theorem d_Bodies_run_232 : decode prog_3_method_8_code 232 = .ok (.ixor, 1) := by decide +kernel
theorem d_Bodies_run_233 : decode prog_3_method_8_code 233 = .ok (.ireturn, 1) := by decide +kernel
theorem d_Bodies_run_234 : decode prog_3_method_8_code 234 = .ok (.aload_n 0, 1) := by decide +kernel
theorem d_Bodies_run_235 : decode prog_3_method_8_code 235 = .ok (.iload_n 1, 1) := by decide +kernel
theorem d_Bodies_run_236 : decode prog_3_method_8_code 236 = .ok (.iconst 0, 1) := by decide +kernel
theorem d_Bodies_run_237 : decode prog_3_method_8_code 237 = .ok (.iload 8, 2) := by decide +kernel
theorem d_Bodies_run_239 : decode prog_3_method_8_code 239 = .ok (.iload 4, 2) := by decide +kernel
theorem d_Bodies_run_241 : decode prog_3_method_8_code 241 = .ok (.iload 10, 2) := by decide +kernel
theorem d_Bodies_run_243 : decode prog_3_method_8_code 243 = .ok (.invokevirtual 35, 3) := by decide +kernel
theorem d_Bodies_run_246 : decode prog_3_method_8_code 246 = .ok (.iconst 3, 1) := by decide +kernel
theorem d_Bodies_run_247 : decode prog_3_method_8_code 247 = .ok (.iadd, 1) := by decide +kernel
theorem d_Bodies_run_248 : decode prog_3_method_8_code 248 = .ok (.ireturn, 1) := by decide +kernel
theorem d_Bodies_run_249 : decode prog_3_method_8_code 249 = .ok (.aload_n 0, 1) := by decide +kernel
theorem d_Bodies_run_250 : decode prog_3_method_8_code 250 = .ok (.iload_n 1, 1) := by decide +kernel
theorem d_Bodies_run_251 : decode prog_3_method_8_code 251 = .ok (.iconst 1, 1) := by decide +kernel
theorem d_Bodies_run_252 : decode prog_3_method_8_code 252 = .ok (.iload 8, 2) := by decide +kernel
theorem d_Bodies_run_254 : decode prog_3_method_8_code 254 = .ok (.iload 4, 2) := by decide +kernel
theorem d_Bodies_run_256 : decode prog_3_method_8_code 256 = .ok (.iload 10, 2) := by decide +kernel
theorem d_Bodies_run_258 : decode prog_3_method_8_code 258 = .ok (.invokevirtual 35, 3) := by decide +kernel
theorem d_Bodies_run_261 : decode prog_3_method_8_code 261 = .ok (.ineg, 1) := by decide +kernel
theorem d_Bodies_run_262 : decode prog_3_method_8_code 262 = .ok (.ireturn, 1) := by decide +kernel
theorem d_Bodies_run_263 : decode prog_3_method_8_code 263 = .ok (.aload_n 0, 1) := by decide +kernel
theorem d_Bodies_run_264 : decode prog_3_method_8_code 264 = .ok (.iload_n 1, 1) := by decide +kernel
theorem d_Bodies_run_265 : decode prog_3_method_8_code 265 = .ok (.iconst 2, 1) := by decide +kernel
theorem d_Bodies_run_266 : decode prog_3_method_8_code 266 = .ok (.iload 8, 2) := by decide +kernel
theorem d_Bodies_run_268 : decode prog_3_method_8_code 268 = .ok (.iload 4, 2) := by decide +kernel
theorem d_Bodies_run_270 : decode prog_3_method_8_code 270 = .ok (.iload 10, 2) := by decide +kernel
theorem d_Bodies_run_272 : decode prog_3_method_8_code 272 = .ok (.invokevirtual 35, 3) := by decide +kernel
theorem d_Bodies_run_275 : decode prog_3_method_8_code 275 = .ok (.iconst 3, 1) := by decide +kernel
theorem d_Bodies_run_276 : decode prog_3_method_8_code 276 = .ok (.imul, 1) := by decide +kernel
theorem d_Bodies_run_277 : decode prog_3_method_8_code 277 = .ok (.ireturn, 1) := by decide +kernel
theorem d_Bodies_run_278 : decode prog_3_method_8_code 278 = .ok (.aload_n 0, 1) := by decide +kernel
theorem d_Bodies_run_279 : decode prog_3_method_8_code 279 = .ok (.iload_n 1, 1) := by decide +kernel
theorem d_Bodies_run_280 : decode prog_3_method_8_code 280 = .ok (.iconst 1, 1) := by decide +kernel
theorem d_Bodies_run_281 : decode prog_3_method_8_code 281 = .ok (.iload 8, 2) := by decide +kernel
theorem d_Bodies_run_283 : decode prog_3_method_8_code 283 = .ok (.iload 4, 2) := by decide +kernel
theorem d_Bodies_run_285 : decode prog_3_method_8_code 285 = .ok (.iconst 1, 1) := by decide +kernel
theorem d_Bodies_run_286 : decode prog_3_method_8_code 286 = .ok (.iadd, 1) := by decide +kernel
theorem d_Bodies_run_287 : decode prog_3_method_8_code 287 = .ok (.iload 10, 2) := by decide +kernel
theorem d_Bodies_run_289 : decode prog_3_method_8_code 289 = .ok (.invokevirtual 35, 3) := by decide +kernel
theorem d_Bodies_run_292 : decode prog_3_method_8_code 292 = .ok (.ireturn, 1) := by decide +kernel
theorem d_Bodies_run_293 : decode prog_3_method_8_code 293 = .ok (.aload_n 0, 1) := by decide +kernel
theorem d_Bodies_run_294 : decode prog_3_method_8_code 294 = .ok (.iload_n 1, 1) := by decide +kernel
theorem d_Bodies_run_295 : decode prog_3_method_8_code 295 = .ok (.iconst 3, 1) := by decide +kernel
theorem d_Bodies_run_296 : decode prog_3_method_8_code 296 = .ok (.iload 8, 2) := by decide +kernel
theorem d_Bodies_run_298 : decode prog_3_method_8_code 298 = .ok (.iload 4, 2) := by decide +kernel
theorem d_Bodies_run_300 : decode prog_3_method_8_code 300 = .ok (.iload 10, 2) := by decide +kernel
theorem d_Bodies_run_302 : decode prog_3_method_8_code 302 = .ok (.invokevirtual 35, 3) := by decide +kernel
theorem d_Bodies_run_305 : decode prog_3_method_8_code 305 = .ok (.iconst 5, 1) := by decide +kernel
theorem d_Bodies_run_306 : decode prog_3_method_8_code 306 = .ok (.ixor, 1) := by decide +kernel
theorem d_Bodies_run_307 : decode prog_3_method_8_code 307 = .ok (.ireturn, 1) := by decide +kernel
theorem d_Bodies_run_308 : decode prog_3_method_8_code 308 = .ok (.aload_n 0, 1) := by decide +kernel
theorem d_Bodies_run_309 : decode prog_3_method_8_code 309 = .ok (.iload_n 1, 1) := by decide +kernel
theorem d_Bodies_run_310 : decode prog_3_method_8_code 310 = .ok (.iconst 2, 1) := by decide +kernel
theorem d_Bodies_run_311 : decode prog_3_method_8_code 311 = .ok (.iload 8, 2) := by decide +kernel
theorem d_Bodies_run_313 : decode prog_3_method_8_code 313 = .ok (.iload 4, 2) := by decide +kernel
theorem d_Bodies_run_315 : decode prog_3_method_8_code 315 = .ok (.iload 10, 2) := by decide +kernel
theorem d_Bodies_run_317 : decode prog_3_method_8_code 317 = .ok (.invokevirtual 35, 3) := by decide +kernel
theorem d_Bodies_run_320 : decode prog_3_method_8_code 320 = .ok (.aload_n 0, 1) := by decide +kernel
theorem d_Bodies_run_321 : decode prog_3_method_8_code 321 = .ok (.iload_n 1, 1) := by decide +kernel
theorem d_Bodies_run_322 : decode prog_3_method_8_code 322 = .ok (.iconst 0, 1) := by decide +kernel
theorem d_Bodies_run_323 : decode prog_3_method_8_code 323 = .ok (.iload 9, 2) := by decide +kernel
theorem d_Bodies_run_325 : decode prog_3_method_8_code 325 = .ok (.iconst 2, 1) := by decide +kernel
theorem d_Bodies_run_326 : decode prog_3_method_8_code 326 = .ok (.iload 10, 2) := by decide +kernel
theorem d_Bodies_run_328 : decode prog_3_method_8_code 328 = .ok (.invokevirtual 35, 3) := by decide +kernel
theorem d_Bodies_run_331 : decode prog_3_method_8_code 331 = .ok (.isub, 1) := by decide +kernel
theorem d_Bodies_run_332 : decode prog_3_method_8_code 332 = .ok (.ireturn, 1) := by decide +kernel
theorem d_Bodies_run_333 : decode prog_3_method_8_code 333 = .ok (.aload_n 0, 1) := by decide +kernel
theorem d_Bodies_run_334 : decode prog_3_method_8_code 334 = .ok (.iload_n 1, 1) := by decide +kernel
theorem d_Bodies_run_335 : decode prog_3_method_8_code 335 = .ok (.iconst 3, 1) := by decide +kernel
theorem d_Bodies_run_336 : decode prog_3_method_8_code 336 = .ok (.iload 8, 2) := by decide +kernel
theorem d_Bodies_run_338 : decode prog_3_method_8_code 338 = .ok (.iload 4, 2) := by decide +kernel
theorem d_Bodies_run_340 : decode prog_3_method_8_code 340 = .ok (.iload 10, 2) := by decide +kernel
theorem d_Bodies_run_342 : decode prog_3_method_8_code 342 = .ok (.invokevirtual 35, 3) := by decide +kernel
theorem d_Bodies_run_345 : decode prog_3_method_8_code 345 = .ok (.iconst 1, 1) := by decide +kernel
theorem d_Bodies_run_346 : decode prog_3_method_8_code 346 = .ok (.iadd, 1) := by decide +kernel
theorem d_Bodies_run_347 : decode prog_3_method_8_code 347 = .ok (.ireturn, 1) := by decide +kernel
theorem d_Bodies_run_348 : decode prog_3_method_8_code 348 = .ok (.aload_n 0, 1) := by decide +kernel
theorem d_Bodies_run_349 : decode prog_3_method_8_code 349 = .ok (.iload_n 1, 1) := by decide +kernel
theorem d_Bodies_run_350 : decode prog_3_method_8_code 350 = .ok (.iconst 0, 1) := by decide +kernel
theorem d_Bodies_run_351 : decode prog_3_method_8_code 351 = .ok (.iload 8, 2) := by decide +kernel
theorem d_Bodies_run_353 : decode prog_3_method_8_code 353 = .ok (.iload 4, 2) := by decide +kernel
theorem d_Bodies_run_355 : decode prog_3_method_8_code 355 = .ok (.iload 10, 2) := by decide +kernel
theorem d_Bodies_run_357 : decode prog_3_method_8_code 357 = .ok (.invokevirtual 35, 3) := by decide +kernel
theorem d_Bodies_run_360 : decode prog_3_method_8_code 360 = .ok (.iconst 2, 1) := by decide +kernel
theorem d_Bodies_run_361 : decode prog_3_method_8_code 361 = .ok (.imul, 1) := by decide +kernel
theorem d_Bodies_run_362 : decode prog_3_method_8_code 362 = .ok (.ireturn, 1) := by decide +kernel
theorem d_Bodies_run_363 : decode prog_3_method_8_code 363 = .ok (.aload_n 0, 1) := by decide +kernel
theorem d_Bodies_run_364 : decode prog_3_method_8_code 364 = .ok (.iload_n 1, 1) := by decide +kernel
theorem d_Bodies_run_365 : decode prog_3_method_8_code 365 = .ok (.iconst 1, 1) := by decide +kernel
theorem d_Bodies_run_366 : decode prog_3_method_8_code 366 = .ok (.iload 8, 2) := by decide +kernel
theorem d_Bodies_run_368 : decode prog_3_method_8_code 368 = .ok (.iload 4, 2) := by decide +kernel
theorem d_Bodies_run_370 : decode prog_3_method_8_code 370 = .ok (.iload 10, 2) := by decide +kernel
theorem d_Bodies_run_372 : decode prog_3_method_8_code 372 = .ok (.invokevirtual 35, 3) := by decide +kernel
theorem d_Bodies_run_375 : decode prog_3_method_8_code 375 = .ok (.aload_n 0, 1) := by decide +kernel
theorem d_Bodies_run_376 : decode prog_3_method_8_code 376 = .ok (.iload_n 1, 1) := by decide +kernel
theorem d_Bodies_run_377 : decode prog_3_method_8_code 377 = .ok (.iconst 2, 1) := by decide +kernel
theorem d_Bodies_run_378 : decode prog_3_method_8_code 378 = .ok (.iload 9, 2) := by decide +kernel
theorem d_Bodies_run_380 : decode prog_3_method_8_code 380 = .ok (.iconst 2, 1) := by decide +kernel
theorem d_Bodies_run_381 : decode prog_3_method_8_code 381 = .ok (.iload 10, 2) := by decide +kernel
theorem d_Bodies_run_383 : decode prog_3_method_8_code 383 = .ok (.invokevirtual 35, 3) := by decide +kernel
theorem d_Bodies_run_386 : decode prog_3_method_8_code 386 = .ok (.iadd, 1) := by decide +kernel
theorem d_Bodies_run_387 : decode prog_3_method_8_code 387 = .ok (.ireturn, 1) := by decide +kernel
theorem d_Bodies_run_388 : decode prog_3_method_8_code 388 = .ok (.aload_n 0, 1) := by decide +kernel
theorem d_Bodies_run_389 : decode prog_3_method_8_code 389 = .ok (.iload_n 1, 1) := by decide +kernel
theorem d_Bodies_run_390 : decode prog_3_method_8_code 390 = .ok (.iconst 0, 1) := by decide +kernel
theorem d_Bodies_run_391 : decode prog_3_method_8_code 391 = .ok (.iload 8, 2) := by decide +kernel
theorem d_Bodies_run_393 : decode prog_3_method_8_code 393 = .ok (.iload 4, 2) := by decide +kernel
theorem d_Bodies_run_395 : decode prog_3_method_8_code 395 = .ok (.iload 10, 2) := by decide +kernel
theorem d_Bodies_run_397 : decode prog_3_method_8_code 397 = .ok (.invokevirtual 35, 3) := by decide +kernel
theorem d_Bodies_run_400 : decode prog_3_method_8_code 400 = .ok (.iconst 1, 1) := by decide +kernel
theorem d_Bodies_run_401 : decode prog_3_method_8_code 401 = .ok (.isub, 1) := by decide +kernel
theorem d_Bodies_run_402 : decode prog_3_method_8_code 402 = .ok (.ireturn, 1) := by decide +kernel
theorem d_Bodies_run_403 : decode prog_3_method_8_code 403 = .ok (.iconst 0, 1) := by decide +kernel
theorem d_Bodies_run_404 : decode prog_3_method_8_code 404 = .ok (.ireturn, 1) := by decide +kernel
set_option maxHeartbeats 4000000 in
set_option maxRecDepth 100000 in
theorem zf_Bodies_run {G : zz_G} {l : Launch} {Z : zz_Z} {dR : Nat} (hdR : 2 ≤ dR) {q : Int32 × zz_S} {s : zz_S} (C : zz_Cx G l "OneBlanket$Bodies" "run" prog_3_method_8_code 11 (some .int) (dR + 1) (some (.int q.1), zsh, q.2) Z) (R_Bodies_run : Int32 → Int32 → Int32 → Int32 → Int32 → zz_S → Option (Int32 × zz_S)) (hR_Bodies_run : ∀ (a1 : Int32) (a2 : Int32) (a3 : Int32) (a4 : Int32) (a5 : Int32) (s : zz_S) (q : Int32 × zz_S), R_Bodies_run a1 a2 a3 a4 a5 s = some q → zz_M G l dR y_Bodies_run prog_3_method_8_code 11 (some .int) [.ref 49, .int a1, .int a2, .int a3, .int a4, .int a5] zsh s (some (.int q.1), zsh, q.2)) (a1 : Int32) (a2 : Int32) (a3 : Int32) (a4 : Int32) (a5 : Int32) (h : f_Bodies_run R_Bodies_run a1 a2 a3 a4 a5 s = some q) : Z 0 [some (.ref 49), some (.int a1), some (.int a2), some (.int a3), some (.int a4), some (.int a5), none, none, none, none, none] [] zsh s := by
  unfold f_Bodies_run at h
  refine zz_iload_n (i := 2) (pc := 0) C rfl rfl d_Bodies_run_0 ?_
  refine zz_iload_n (i := 3) (pc := 1) C rfl rfl d_Bodies_run_1 ?_
  obtain ⟨q1, hq1, h⟩ := zz_bdE h
  refine zz_cSi (as := [.int a2, .int a3]) (st := []) (pc := 2) C (zm_Bodies_kindThatHas hq1) zcs_Bodies_kindThatHas zl_1_39 (by omega) (Nat.le_of_ble_eq_true rfl) d_Bodies_run_2 rfl rfl ?_
  refine zz_istore (i := 6) (lo' := [some (.ref 49), some (.int a1), some (.int a2), some (.int a3), some (.int a4), some (.int a5), some (.int q1), none, none, none, none]) (pc := 5) C (Nat.le_of_ble_eq_true rfl) rfl rfl d_Bodies_run_5 ?_
  refine zz_iload (i := 6) (pc := 7) C rfl d_Bodies_run_7 ?_
  refine zz_if_lt (tgt := 19) (pc := 9) C (by decide) d_Bodies_run_9 (fun hc2 => ?_) (fun hc2 => ?_)
  · rw [if_pos hc2] at h
    refine zz_iconst (pc := 19) C zki_0 d_Bodies_run_19 ?_
    replace h := Option.some.inj h
    subst h
    exact zz_ret (pc := 20) C (v := some (.int (0 : Int32))) d_Bodies_run_20 (Or.inl ⟨_, _, rfl, rfl, rfl, rfl⟩) rfl
  · rw [if_neg hc2] at h
    refine zz_iload (i := 5) (pc := 12) C rfl d_Bodies_run_12 ?_
    refine zz_bipush (pc := 14) C zkb_40 d_Bodies_run_14 ?_
    refine zz_icmp_le (tgt := 21) (pc := 16) C (by decide) d_Bodies_run_16 (fun hc3 => ?_) (fun hc3 => ?_)
    · rw [if_pos hc3] at h
      refine zz_getOWN (pc := 21) C zl_1_25 d_Bodies_run_21 ?_
      refine zz_iload (i := 6) (pc := 24) C rfl d_Bodies_run_24 ?_
      refine zz_iconst (pc := 26) C zki_4 d_Bodies_run_26 ?_
      refine zz_imul (pc := 27) C d_Bodies_run_27 ?_
      refine zz_iload_n (i := 2) (pc := 28) C rfl rfl d_Bodies_run_28 ?_
      refine zz_iadd (pc := 29) C d_Bodies_run_29 ?_
      obtain ⟨hi4, h⟩ := zz_ckE h
      refine zz_ldOWN (pc := 30) C rfl hi4 d_Bodies_run_30 ?_
      refine zz_istore (i := 7) (lo' := [some (.ref 49), some (.int a1), some (.int a2), some (.int a3), some (.int a4), some (.int a5), some (.int q1), some (.int (zz_own.getD ((q1 * (4 : Int32)) + a2).toNatClampNeg 0)), none, none, none]) (pc := 31) C (Nat.le_of_ble_eq_true rfl) rfl rfl d_Bodies_run_31 ?_
      refine zz_aload_n (i := 0) (pc := 33) C rfl rfl d_Bodies_run_33 ?_
      refine zz_iload (i := 7) (pc := 34) C rfl d_Bodies_run_34 ?_
      obtain ⟨q5, hq5, h⟩ := zz_bdE h
      refine zz_cVv (as := [.int (zz_own.getD ((q1 * (4 : Int32)) + a2).toNatClampNeg 0)]) (st := []) (pc := 36) C (zm_Bodies_begins hq5) zcv_Bodies_begins zsh_49 zl_1_43 (by omega) (Nat.le_of_ble_eq_true rfl) d_Bodies_run_36 rfl rfl ?_
      refine zz_getABOVE (pc := 39) C zl_1_22 d_Bodies_run_39 ?_
      refine zz_iload (i := 6) (pc := 42) C rfl d_Bodies_run_42 ?_
      obtain ⟨hi6, h⟩ := zz_ckE h
      refine zz_ldABOVE (pc := 44) C rfl hi6 d_Bodies_run_44 ?_
      refine zz_istore (i := 8) (lo' := [some (.ref 49), some (.int a1), some (.int a2), some (.int a3), some (.int a4), some (.int a5), some (.int q1), some (.int (zz_own.getD ((q1 * (4 : Int32)) + a2).toNatClampNeg 0)), some (.int (zz_abv.getD q1.toNatClampNeg 0)), none, none]) (pc := 45) C (Nat.le_of_ble_eq_true rfl) rfl rfl d_Bodies_run_45 ?_
      refine zz_aload_n (i := 0) (pc := 47) C rfl rfl d_Bodies_run_47 ?_
      refine zz_getR (pc := 48) C zl_1_11 zsh_49 rfl d_Bodies_run_48 ?_
      refine zz_iload_n (i := 1) (pc := 51) C rfl rfl d_Bodies_run_51 ?_
      obtain ⟨hi7, h⟩ := zz_ckE h
      refine zz_iald (pc := 52) C rfl zsh_50 hi7 d_Bodies_run_52 ?_
      refine zz_istore (i := 9) (lo' := [some (.ref 49), some (.int a1), some (.int a2), some (.int a3), some (.int a4), some (.int a5), some (.int q1), some (.int (zz_own.getD ((q1 * (4 : Int32)) + a2).toNatClampNeg 0)), some (.int (zz_abv.getD q1.toNatClampNeg 0)), some (.int (q5.1 50 (a1.toNatClampNeg))), none]) (pc := 53) C (Nat.le_of_ble_eq_true rfl) rfl rfl d_Bodies_run_53 ?_
      refine zz_iload (i := 5) (pc := 55) C rfl d_Bodies_run_55 ?_
      refine zz_iconst (pc := 57) C zki_1 d_Bodies_run_57 ?_
      refine zz_iadd (pc := 58) C d_Bodies_run_58 ?_
      refine zz_istore (i := 10) (lo' := [some (.ref 49), some (.int a1), some (.int a2), some (.int a3), some (.int a4), some (.int a5), some (.int q1), some (.int (zz_own.getD ((q1 * (4 : Int32)) + a2).toNatClampNeg 0)), some (.int (zz_abv.getD q1.toNatClampNeg 0)), some (.int (q5.1 50 (a1.toNatClampNeg))), some (.int (a5 + (1 : Int32)))]) (pc := 59) C (Nat.le_of_ble_eq_true rfl) rfl rfl d_Bodies_run_59 ?_
      refine zz_iload (i := 7) (pc := 61) C rfl d_Bodies_run_61 ?_
      by_cases hc8 : (zz_own.getD ((q1 * (4 : Int32)) + a2).toNatClampNeg 0) = (1 : Int32)
      · rw [if_pos hc8] at h
        refine zz_lookup (tgt := 184) (off := 121) (pc := 63) C (by decide) (by rw [hc8]; decide) (by decide) d_Bodies_run_63 ?_
        refine zz_iload (i := 4) (pc := 184) C rfl d_Bodies_run_184 ?_
        refine zz_iload_n (i := 1) (pc := 186) C rfl rfl d_Bodies_run_186 ?_
        refine zz_iadd (pc := 187) C d_Bodies_run_187 ?_
        replace h := Option.some.inj h
        subst h
        exact zz_ret (pc := 188) C (v := some (.int (a4 + a1))) d_Bodies_run_188 (Or.inl ⟨_, _, rfl, rfl, rfl, rfl⟩) rfl
      · rw [if_neg hc8] at h
        by_cases hc9 : (zz_own.getD ((q1 * (4 : Int32)) + a2).toNatClampNeg 0) = (2 : Int32)
        · rw [if_pos hc9] at h
          refine zz_lookup (tgt := 189) (off := 126) (pc := 63) C (by decide) (by rw [hc9]; decide) (by decide) d_Bodies_run_63 ?_
          refine zz_aload_n (i := 0) (pc := 189) C rfl rfl d_Bodies_run_189 ?_
          refine zz_iload_n (i := 1) (pc := 190) C rfl rfl d_Bodies_run_190 ?_
          refine zz_iconst (pc := 191) C zki_1 d_Bodies_run_191 ?_
          refine zz_iload (i := 9) (pc := 192) C rfl d_Bodies_run_192 ?_
          refine zz_iload (i := 4) (pc := 194) C rfl d_Bodies_run_194 ?_
          refine zz_iload (i := 10) (pc := 196) C rfl d_Bodies_run_196 ?_
          obtain ⟨q10, hq10, h⟩ := zz_bdE h
          refine zz_cVi (as := [.int a1, .int (1 : Int32), .int (q5.1 50 (a1.toNatClampNeg)), .int a4, .int (a5 + (1 : Int32))]) (st := []) (pc := 198) C (hR_Bodies_run a1 (1 : Int32) (q5.1 50 (a1.toNatClampNeg)) a4 (a5 + (1 : Int32)) q5 q10 hq10) zcv_Bodies_run zsh_49 zl_1_35 (by omega) (Nat.le_of_ble_eq_true rfl) d_Bodies_run_198 rfl rfl ?_
          refine zz_aload_n (i := 0) (pc := 201) C rfl rfl d_Bodies_run_201 ?_
          refine zz_iload_n (i := 1) (pc := 202) C rfl rfl d_Bodies_run_202 ?_
          refine zz_iconst (pc := 203) C zki_2 d_Bodies_run_203 ?_
          refine zz_iload (i := 9) (pc := 204) C rfl d_Bodies_run_204 ?_
          refine zz_iconst (pc := 206) C zki_1 d_Bodies_run_206 ?_
          refine zz_iload (i := 10) (pc := 207) C rfl d_Bodies_run_207 ?_
          obtain ⟨q11, hq11, h⟩ := zz_bdE h
          refine zz_cVi (as := [.int a1, .int (2 : Int32), .int (q5.1 50 (a1.toNatClampNeg)), .int (1 : Int32), .int (a5 + (1 : Int32))]) (st := [.int q10.1]) (pc := 209) C (hR_Bodies_run a1 (2 : Int32) (q5.1 50 (a1.toNatClampNeg)) (1 : Int32) (a5 + (1 : Int32)) q10.2 q11 hq11) zcv_Bodies_run zsh_49 zl_1_35 (by omega) (Nat.le_of_ble_eq_true rfl) d_Bodies_run_209 rfl rfl ?_
          refine zz_isub (pc := 212) C d_Bodies_run_212 ?_
          replace h := Option.some.inj h
          subst h
          exact zz_ret (pc := 213) C (v := some (.int (q10.1 - q11.1))) d_Bodies_run_213 (Or.inl ⟨_, _, rfl, rfl, rfl, rfl⟩) rfl
        · rw [if_neg hc9] at h
          by_cases hc12 : (zz_own.getD ((q1 * (4 : Int32)) + a2).toNatClampNeg 0) = (10 : Int32)
          · rw [if_pos hc12] at h
            refine zz_lookup (tgt := 214) (off := 151) (pc := 63) C (by decide) (by rw [hc12]; decide) (by decide) d_Bodies_run_63 ?_
            refine zz_aload_n (i := 0) (pc := 214) C rfl rfl d_Bodies_run_214 ?_
            refine zz_iload_n (i := 1) (pc := 215) C rfl rfl d_Bodies_run_215 ?_
            refine zz_iconst (pc := 216) C zki_0 d_Bodies_run_216 ?_
            refine zz_iload (i := 9) (pc := 217) C rfl d_Bodies_run_217 ?_
            refine zz_iload (i := 4) (pc := 219) C rfl d_Bodies_run_219 ?_
            refine zz_iload (i := 10) (pc := 221) C rfl d_Bodies_run_221 ?_
            obtain ⟨q13, hq13, h⟩ := zz_bdE h
            refine zz_cVi (as := [.int a1, .int (0 : Int32), .int (q5.1 50 (a1.toNatClampNeg)), .int a4, .int (a5 + (1 : Int32))]) (st := []) (pc := 223) C (hR_Bodies_run a1 (0 : Int32) (q5.1 50 (a1.toNatClampNeg)) a4 (a5 + (1 : Int32)) q5 q13 hq13) zcv_Bodies_run zsh_49 zl_1_35 (by omega) (Nat.le_of_ble_eq_true rfl) d_Bodies_run_223 rfl rfl ?_
            refine zz_iconst (pc := 226) C zki_2 d_Bodies_run_226 ?_
            refine zz_imul (pc := 227) C d_Bodies_run_227 ?_
            replace h := Option.some.inj h
            subst h
            exact zz_ret (pc := 228) C (v := some (.int (q13.1 * (2 : Int32)))) d_Bodies_run_228 (Or.inl ⟨_, _, rfl, rfl, rfl, rfl⟩) rfl
          · rw [if_neg hc12] at h
            by_cases hc14 : (zz_own.getD ((q1 * (4 : Int32)) + a2).toNatClampNeg 0) = (11 : Int32)
            · rw [if_pos hc14] at h
              refine zz_lookup (tgt := 229) (off := 166) (pc := 63) C (by decide) (by rw [hc14]; decide) (by decide) d_Bodies_run_63 ?_
              refine zz_iload (i := 4) (pc := 229) C rfl d_Bodies_run_229 ?_
              refine zz_iload_n (i := 1) (pc := 231) C rfl rfl d_Bodies_run_231 ?_
              refine zz_ixor (pc := 232) C d_Bodies_run_232 ?_
              replace h := Option.some.inj h
              subst h
              exact zz_ret (pc := 233) C (v := some (.int (a4 ^^^ a1))) d_Bodies_run_233 (Or.inl ⟨_, _, rfl, rfl, rfl, rfl⟩) rfl
            · rw [if_neg hc14] at h
              by_cases hc15 : (zz_own.getD ((q1 * (4 : Int32)) + a2).toNatClampNeg 0) = (20 : Int32)
              · rw [if_pos hc15] at h
                refine zz_lookup (tgt := 234) (off := 171) (pc := 63) C (by decide) (by rw [hc15]; decide) (by decide) d_Bodies_run_63 ?_
                refine zz_aload_n (i := 0) (pc := 234) C rfl rfl d_Bodies_run_234 ?_
                refine zz_iload_n (i := 1) (pc := 235) C rfl rfl d_Bodies_run_235 ?_
                refine zz_iconst (pc := 236) C zki_0 d_Bodies_run_236 ?_
                refine zz_iload (i := 8) (pc := 237) C rfl d_Bodies_run_237 ?_
                refine zz_iload (i := 4) (pc := 239) C rfl d_Bodies_run_239 ?_
                refine zz_iload (i := 10) (pc := 241) C rfl d_Bodies_run_241 ?_
                obtain ⟨q16, hq16, h⟩ := zz_bdE h
                refine zz_cVi (as := [.int a1, .int (0 : Int32), .int (zz_abv.getD q1.toNatClampNeg 0), .int a4, .int (a5 + (1 : Int32))]) (st := []) (pc := 243) C (hR_Bodies_run a1 (0 : Int32) (zz_abv.getD q1.toNatClampNeg 0) a4 (a5 + (1 : Int32)) q5 q16 hq16) zcv_Bodies_run zsh_49 zl_1_35 (by omega) (Nat.le_of_ble_eq_true rfl) d_Bodies_run_243 rfl rfl ?_
                refine zz_iconst (pc := 246) C zki_3 d_Bodies_run_246 ?_
                refine zz_iadd (pc := 247) C d_Bodies_run_247 ?_
                replace h := Option.some.inj h
                subst h
                exact zz_ret (pc := 248) C (v := some (.int (q16.1 + (3 : Int32)))) d_Bodies_run_248 (Or.inl ⟨_, _, rfl, rfl, rfl, rfl⟩) rfl
              · rw [if_neg hc15] at h
                by_cases hc17 : (zz_own.getD ((q1 * (4 : Int32)) + a2).toNatClampNeg 0) = (30 : Int32)
                · rw [if_pos hc17] at h
                  refine zz_lookup (tgt := 249) (off := 186) (pc := 63) C (by decide) (by rw [hc17]; decide) (by decide) d_Bodies_run_63 ?_
                  refine zz_aload_n (i := 0) (pc := 249) C rfl rfl d_Bodies_run_249 ?_
                  refine zz_iload_n (i := 1) (pc := 250) C rfl rfl d_Bodies_run_250 ?_
                  refine zz_iconst (pc := 251) C zki_1 d_Bodies_run_251 ?_
                  refine zz_iload (i := 8) (pc := 252) C rfl d_Bodies_run_252 ?_
                  refine zz_iload (i := 4) (pc := 254) C rfl d_Bodies_run_254 ?_
                  refine zz_iload (i := 10) (pc := 256) C rfl d_Bodies_run_256 ?_
                  obtain ⟨q18, hq18, h⟩ := zz_bdE h
                  refine zz_cVi (as := [.int a1, .int (1 : Int32), .int (zz_abv.getD q1.toNatClampNeg 0), .int a4, .int (a5 + (1 : Int32))]) (st := []) (pc := 258) C (hR_Bodies_run a1 (1 : Int32) (zz_abv.getD q1.toNatClampNeg 0) a4 (a5 + (1 : Int32)) q5 q18 hq18) zcv_Bodies_run zsh_49 zl_1_35 (by omega) (Nat.le_of_ble_eq_true rfl) d_Bodies_run_258 rfl rfl ?_
                  refine zz_ineg (pc := 261) C d_Bodies_run_261 ?_
                  replace h := Option.some.inj h
                  subst h
                  exact zz_ret (pc := 262) C (v := some (.int (-q18.1))) d_Bodies_run_262 (Or.inl ⟨_, _, rfl, rfl, rfl, rfl⟩) rfl
                · rw [if_neg hc17] at h
                  by_cases hc19 : (zz_own.getD ((q1 * (4 : Int32)) + a2).toNatClampNeg 0) = (40 : Int32)
                  · rw [if_pos hc19] at h
                    refine zz_lookup (tgt := 263) (off := 200) (pc := 63) C (by decide) (by rw [hc19]; decide) (by decide) d_Bodies_run_63 ?_
                    refine zz_aload_n (i := 0) (pc := 263) C rfl rfl d_Bodies_run_263 ?_
                    refine zz_iload_n (i := 1) (pc := 264) C rfl rfl d_Bodies_run_264 ?_
                    refine zz_iconst (pc := 265) C zki_2 d_Bodies_run_265 ?_
                    refine zz_iload (i := 8) (pc := 266) C rfl d_Bodies_run_266 ?_
                    refine zz_iload (i := 4) (pc := 268) C rfl d_Bodies_run_268 ?_
                    refine zz_iload (i := 10) (pc := 270) C rfl d_Bodies_run_270 ?_
                    obtain ⟨q20, hq20, h⟩ := zz_bdE h
                    refine zz_cVi (as := [.int a1, .int (2 : Int32), .int (zz_abv.getD q1.toNatClampNeg 0), .int a4, .int (a5 + (1 : Int32))]) (st := []) (pc := 272) C (hR_Bodies_run a1 (2 : Int32) (zz_abv.getD q1.toNatClampNeg 0) a4 (a5 + (1 : Int32)) q5 q20 hq20) zcv_Bodies_run zsh_49 zl_1_35 (by omega) (Nat.le_of_ble_eq_true rfl) d_Bodies_run_272 rfl rfl ?_
                    refine zz_iconst (pc := 275) C zki_3 d_Bodies_run_275 ?_
                    refine zz_imul (pc := 276) C d_Bodies_run_276 ?_
                    replace h := Option.some.inj h
                    subst h
                    exact zz_ret (pc := 277) C (v := some (.int (q20.1 * (3 : Int32)))) d_Bodies_run_277 (Or.inl ⟨_, _, rfl, rfl, rfl, rfl⟩) rfl
                  · rw [if_neg hc19] at h
                    by_cases hc21 : (zz_own.getD ((q1 * (4 : Int32)) + a2).toNatClampNeg 0) = (41 : Int32)
                    · rw [if_pos hc21] at h
                      refine zz_lookup (tgt := 278) (off := 215) (pc := 63) C (by decide) (by rw [hc21]; decide) (by decide) d_Bodies_run_63 ?_
                      refine zz_aload_n (i := 0) (pc := 278) C rfl rfl d_Bodies_run_278 ?_
                      refine zz_iload_n (i := 1) (pc := 279) C rfl rfl d_Bodies_run_279 ?_
                      refine zz_iconst (pc := 280) C zki_1 d_Bodies_run_280 ?_
                      refine zz_iload (i := 8) (pc := 281) C rfl d_Bodies_run_281 ?_
                      refine zz_iload (i := 4) (pc := 283) C rfl d_Bodies_run_283 ?_
                      refine zz_iconst (pc := 285) C zki_1 d_Bodies_run_285 ?_
                      refine zz_iadd (pc := 286) C d_Bodies_run_286 ?_
                      refine zz_iload (i := 10) (pc := 287) C rfl d_Bodies_run_287 ?_
                      obtain ⟨q22, hq22, h⟩ := zz_bdE h
                      refine zz_cVi (as := [.int a1, .int (1 : Int32), .int (zz_abv.getD q1.toNatClampNeg 0), .int (a4 + (1 : Int32)), .int (a5 + (1 : Int32))]) (st := []) (pc := 289) C (hR_Bodies_run a1 (1 : Int32) (zz_abv.getD q1.toNatClampNeg 0) (a4 + (1 : Int32)) (a5 + (1 : Int32)) q5 q22 hq22) zcv_Bodies_run zsh_49 zl_1_35 (by omega) (Nat.le_of_ble_eq_true rfl) d_Bodies_run_289 rfl rfl ?_
                      replace h := Option.some.inj h
                      subst h
                      exact zz_ret (pc := 292) C (v := some (.int q22.1)) d_Bodies_run_292 (Or.inl ⟨_, _, rfl, rfl, rfl, rfl⟩) rfl
                    · rw [if_neg hc21] at h
                      by_cases hc23 : (zz_own.getD ((q1 * (4 : Int32)) + a2).toNatClampNeg 0) = (50 : Int32)
                      · rw [if_pos hc23] at h
                        refine zz_lookup (tgt := 293) (off := 230) (pc := 63) C (by decide) (by rw [hc23]; decide) (by decide) d_Bodies_run_63 ?_
                        refine zz_aload_n (i := 0) (pc := 293) C rfl rfl d_Bodies_run_293 ?_
                        refine zz_iload_n (i := 1) (pc := 294) C rfl rfl d_Bodies_run_294 ?_
                        refine zz_iconst (pc := 295) C zki_3 d_Bodies_run_295 ?_
                        refine zz_iload (i := 8) (pc := 296) C rfl d_Bodies_run_296 ?_
                        refine zz_iload (i := 4) (pc := 298) C rfl d_Bodies_run_298 ?_
                        refine zz_iload (i := 10) (pc := 300) C rfl d_Bodies_run_300 ?_
                        obtain ⟨q24, hq24, h⟩ := zz_bdE h
                        refine zz_cVi (as := [.int a1, .int (3 : Int32), .int (zz_abv.getD q1.toNatClampNeg 0), .int a4, .int (a5 + (1 : Int32))]) (st := []) (pc := 302) C (hR_Bodies_run a1 (3 : Int32) (zz_abv.getD q1.toNatClampNeg 0) a4 (a5 + (1 : Int32)) q5 q24 hq24) zcv_Bodies_run zsh_49 zl_1_35 (by omega) (Nat.le_of_ble_eq_true rfl) d_Bodies_run_302 rfl rfl ?_
                        refine zz_iconst (pc := 305) C zki_5 d_Bodies_run_305 ?_
                        refine zz_ixor (pc := 306) C d_Bodies_run_306 ?_
                        replace h := Option.some.inj h
                        subst h
                        exact zz_ret (pc := 307) C (v := some (.int (q24.1 ^^^ (5 : Int32)))) d_Bodies_run_307 (Or.inl ⟨_, _, rfl, rfl, rfl, rfl⟩) rfl
                      · rw [if_neg hc23] at h
                        by_cases hc25 : (zz_own.getD ((q1 * (4 : Int32)) + a2).toNatClampNeg 0) = (60 : Int32)
                        · rw [if_pos hc25] at h
                          refine zz_lookup (tgt := 308) (off := 245) (pc := 63) C (by decide) (by rw [hc25]; decide) (by decide) d_Bodies_run_63 ?_
                          refine zz_aload_n (i := 0) (pc := 308) C rfl rfl d_Bodies_run_308 ?_
                          refine zz_iload_n (i := 1) (pc := 309) C rfl rfl d_Bodies_run_309 ?_
                          refine zz_iconst (pc := 310) C zki_2 d_Bodies_run_310 ?_
                          refine zz_iload (i := 8) (pc := 311) C rfl d_Bodies_run_311 ?_
                          refine zz_iload (i := 4) (pc := 313) C rfl d_Bodies_run_313 ?_
                          refine zz_iload (i := 10) (pc := 315) C rfl d_Bodies_run_315 ?_
                          obtain ⟨q26, hq26, h⟩ := zz_bdE h
                          refine zz_cVi (as := [.int a1, .int (2 : Int32), .int (zz_abv.getD q1.toNatClampNeg 0), .int a4, .int (a5 + (1 : Int32))]) (st := []) (pc := 317) C (hR_Bodies_run a1 (2 : Int32) (zz_abv.getD q1.toNatClampNeg 0) a4 (a5 + (1 : Int32)) q5 q26 hq26) zcv_Bodies_run zsh_49 zl_1_35 (by omega) (Nat.le_of_ble_eq_true rfl) d_Bodies_run_317 rfl rfl ?_
                          refine zz_aload_n (i := 0) (pc := 320) C rfl rfl d_Bodies_run_320 ?_
                          refine zz_iload_n (i := 1) (pc := 321) C rfl rfl d_Bodies_run_321 ?_
                          refine zz_iconst (pc := 322) C zki_0 d_Bodies_run_322 ?_
                          refine zz_iload (i := 9) (pc := 323) C rfl d_Bodies_run_323 ?_
                          refine zz_iconst (pc := 325) C zki_2 d_Bodies_run_325 ?_
                          refine zz_iload (i := 10) (pc := 326) C rfl d_Bodies_run_326 ?_
                          obtain ⟨q27, hq27, h⟩ := zz_bdE h
                          refine zz_cVi (as := [.int a1, .int (0 : Int32), .int (q5.1 50 (a1.toNatClampNeg)), .int (2 : Int32), .int (a5 + (1 : Int32))]) (st := [.int q26.1]) (pc := 328) C (hR_Bodies_run a1 (0 : Int32) (q5.1 50 (a1.toNatClampNeg)) (2 : Int32) (a5 + (1 : Int32)) q26.2 q27 hq27) zcv_Bodies_run zsh_49 zl_1_35 (by omega) (Nat.le_of_ble_eq_true rfl) d_Bodies_run_328 rfl rfl ?_
                          refine zz_isub (pc := 331) C d_Bodies_run_331 ?_
                          replace h := Option.some.inj h
                          subst h
                          exact zz_ret (pc := 332) C (v := some (.int (q26.1 - q27.1))) d_Bodies_run_332 (Or.inl ⟨_, _, rfl, rfl, rfl, rfl⟩) rfl
                        · rw [if_neg hc25] at h
                          by_cases hc28 : (zz_own.getD ((q1 * (4 : Int32)) + a2).toNatClampNeg 0) = (61 : Int32)
                          · rw [if_pos hc28] at h
                            refine zz_lookup (tgt := 333) (off := 270) (pc := 63) C (by decide) (by rw [hc28]; decide) (by decide) d_Bodies_run_63 ?_
                            refine zz_aload_n (i := 0) (pc := 333) C rfl rfl d_Bodies_run_333 ?_
                            refine zz_iload_n (i := 1) (pc := 334) C rfl rfl d_Bodies_run_334 ?_
                            refine zz_iconst (pc := 335) C zki_3 d_Bodies_run_335 ?_
                            refine zz_iload (i := 8) (pc := 336) C rfl d_Bodies_run_336 ?_
                            refine zz_iload (i := 4) (pc := 338) C rfl d_Bodies_run_338 ?_
                            refine zz_iload (i := 10) (pc := 340) C rfl d_Bodies_run_340 ?_
                            obtain ⟨q29, hq29, h⟩ := zz_bdE h
                            refine zz_cVi (as := [.int a1, .int (3 : Int32), .int (zz_abv.getD q1.toNatClampNeg 0), .int a4, .int (a5 + (1 : Int32))]) (st := []) (pc := 342) C (hR_Bodies_run a1 (3 : Int32) (zz_abv.getD q1.toNatClampNeg 0) a4 (a5 + (1 : Int32)) q5 q29 hq29) zcv_Bodies_run zsh_49 zl_1_35 (by omega) (Nat.le_of_ble_eq_true rfl) d_Bodies_run_342 rfl rfl ?_
                            refine zz_iconst (pc := 345) C zki_1 d_Bodies_run_345 ?_
                            refine zz_iadd (pc := 346) C d_Bodies_run_346 ?_
                            replace h := Option.some.inj h
                            subst h
                            exact zz_ret (pc := 347) C (v := some (.int (q29.1 + (1 : Int32)))) d_Bodies_run_347 (Or.inl ⟨_, _, rfl, rfl, rfl, rfl⟩) rfl
                          · rw [if_neg hc28] at h
                            by_cases hc30 : (zz_own.getD ((q1 * (4 : Int32)) + a2).toNatClampNeg 0) = (70 : Int32)
                            · rw [if_pos hc30] at h
                              refine zz_lookup (tgt := 348) (off := 285) (pc := 63) C (by decide) (by rw [hc30]; decide) (by decide) d_Bodies_run_63 ?_
                              refine zz_aload_n (i := 0) (pc := 348) C rfl rfl d_Bodies_run_348 ?_
                              refine zz_iload_n (i := 1) (pc := 349) C rfl rfl d_Bodies_run_349 ?_
                              refine zz_iconst (pc := 350) C zki_0 d_Bodies_run_350 ?_
                              refine zz_iload (i := 8) (pc := 351) C rfl d_Bodies_run_351 ?_
                              refine zz_iload (i := 4) (pc := 353) C rfl d_Bodies_run_353 ?_
                              refine zz_iload (i := 10) (pc := 355) C rfl d_Bodies_run_355 ?_
                              obtain ⟨q31, hq31, h⟩ := zz_bdE h
                              refine zz_cVi (as := [.int a1, .int (0 : Int32), .int (zz_abv.getD q1.toNatClampNeg 0), .int a4, .int (a5 + (1 : Int32))]) (st := []) (pc := 357) C (hR_Bodies_run a1 (0 : Int32) (zz_abv.getD q1.toNatClampNeg 0) a4 (a5 + (1 : Int32)) q5 q31 hq31) zcv_Bodies_run zsh_49 zl_1_35 (by omega) (Nat.le_of_ble_eq_true rfl) d_Bodies_run_357 rfl rfl ?_
                              refine zz_iconst (pc := 360) C zki_2 d_Bodies_run_360 ?_
                              refine zz_imul (pc := 361) C d_Bodies_run_361 ?_
                              replace h := Option.some.inj h
                              subst h
                              exact zz_ret (pc := 362) C (v := some (.int (q31.1 * (2 : Int32)))) d_Bodies_run_362 (Or.inl ⟨_, _, rfl, rfl, rfl, rfl⟩) rfl
                            · rw [if_neg hc30] at h
                              by_cases hc32 : (zz_own.getD ((q1 * (4 : Int32)) + a2).toNatClampNeg 0) = (80 : Int32)
                              · rw [if_pos hc32] at h
                                refine zz_lookup (tgt := 363) (off := 300) (pc := 63) C (by decide) (by rw [hc32]; decide) (by decide) d_Bodies_run_63 ?_
                                refine zz_aload_n (i := 0) (pc := 363) C rfl rfl d_Bodies_run_363 ?_
                                refine zz_iload_n (i := 1) (pc := 364) C rfl rfl d_Bodies_run_364 ?_
                                refine zz_iconst (pc := 365) C zki_1 d_Bodies_run_365 ?_
                                refine zz_iload (i := 8) (pc := 366) C rfl d_Bodies_run_366 ?_
                                refine zz_iload (i := 4) (pc := 368) C rfl d_Bodies_run_368 ?_
                                refine zz_iload (i := 10) (pc := 370) C rfl d_Bodies_run_370 ?_
                                obtain ⟨q33, hq33, h⟩ := zz_bdE h
                                refine zz_cVi (as := [.int a1, .int (1 : Int32), .int (zz_abv.getD q1.toNatClampNeg 0), .int a4, .int (a5 + (1 : Int32))]) (st := []) (pc := 372) C (hR_Bodies_run a1 (1 : Int32) (zz_abv.getD q1.toNatClampNeg 0) a4 (a5 + (1 : Int32)) q5 q33 hq33) zcv_Bodies_run zsh_49 zl_1_35 (by omega) (Nat.le_of_ble_eq_true rfl) d_Bodies_run_372 rfl rfl ?_
                                refine zz_aload_n (i := 0) (pc := 375) C rfl rfl d_Bodies_run_375 ?_
                                refine zz_iload_n (i := 1) (pc := 376) C rfl rfl d_Bodies_run_376 ?_
                                refine zz_iconst (pc := 377) C zki_2 d_Bodies_run_377 ?_
                                refine zz_iload (i := 9) (pc := 378) C rfl d_Bodies_run_378 ?_
                                refine zz_iconst (pc := 380) C zki_2 d_Bodies_run_380 ?_
                                refine zz_iload (i := 10) (pc := 381) C rfl d_Bodies_run_381 ?_
                                obtain ⟨q34, hq34, h⟩ := zz_bdE h
                                refine zz_cVi (as := [.int a1, .int (2 : Int32), .int (q5.1 50 (a1.toNatClampNeg)), .int (2 : Int32), .int (a5 + (1 : Int32))]) (st := [.int q33.1]) (pc := 383) C (hR_Bodies_run a1 (2 : Int32) (q5.1 50 (a1.toNatClampNeg)) (2 : Int32) (a5 + (1 : Int32)) q33.2 q34 hq34) zcv_Bodies_run zsh_49 zl_1_35 (by omega) (Nat.le_of_ble_eq_true rfl) d_Bodies_run_383 rfl rfl ?_
                                refine zz_iadd (pc := 386) C d_Bodies_run_386 ?_
                                replace h := Option.some.inj h
                                subst h
                                exact zz_ret (pc := 387) C (v := some (.int (q33.1 + q34.1))) d_Bodies_run_387 (Or.inl ⟨_, _, rfl, rfl, rfl, rfl⟩) rfl
                              · rw [if_neg hc32] at h
                                by_cases hc35 : (zz_own.getD ((q1 * (4 : Int32)) + a2).toNatClampNeg 0) = (81 : Int32)
                                · rw [if_pos hc35] at h
                                  refine zz_lookup (tgt := 388) (off := 325) (pc := 63) C (by decide) (by rw [hc35]; decide) (by decide) d_Bodies_run_63 ?_
                                  refine zz_aload_n (i := 0) (pc := 388) C rfl rfl d_Bodies_run_388 ?_
                                  refine zz_iload_n (i := 1) (pc := 389) C rfl rfl d_Bodies_run_389 ?_
                                  refine zz_iconst (pc := 390) C zki_0 d_Bodies_run_390 ?_
                                  refine zz_iload (i := 8) (pc := 391) C rfl d_Bodies_run_391 ?_
                                  refine zz_iload (i := 4) (pc := 393) C rfl d_Bodies_run_393 ?_
                                  refine zz_iload (i := 10) (pc := 395) C rfl d_Bodies_run_395 ?_
                                  obtain ⟨q36, hq36, h⟩ := zz_bdE h
                                  refine zz_cVi (as := [.int a1, .int (0 : Int32), .int (zz_abv.getD q1.toNatClampNeg 0), .int a4, .int (a5 + (1 : Int32))]) (st := []) (pc := 397) C (hR_Bodies_run a1 (0 : Int32) (zz_abv.getD q1.toNatClampNeg 0) a4 (a5 + (1 : Int32)) q5 q36 hq36) zcv_Bodies_run zsh_49 zl_1_35 (by omega) (Nat.le_of_ble_eq_true rfl) d_Bodies_run_397 rfl rfl ?_
                                  refine zz_iconst (pc := 400) C zki_1 d_Bodies_run_400 ?_
                                  refine zz_isub (pc := 401) C d_Bodies_run_401 ?_
                                  replace h := Option.some.inj h
                                  subst h
                                  exact zz_ret (pc := 402) C (v := some (.int (q36.1 - (1 : Int32)))) d_Bodies_run_402 (Or.inl ⟨_, _, rfl, rfl, rfl, rfl⟩) rfl
                                · rw [if_neg hc35] at h
                                  have hc8i : (zz_own.getD ((q1 * (4 : Int32)) + a2).toNatClampNeg 0).toInt ≠ 1 := fun e => hc8 (Int32.toInt_inj.mp e)
                                  have hc9i : (zz_own.getD ((q1 * (4 : Int32)) + a2).toNatClampNeg 0).toInt ≠ 2 := fun e => hc9 (Int32.toInt_inj.mp e)
                                  have hc12i : (zz_own.getD ((q1 * (4 : Int32)) + a2).toNatClampNeg 0).toInt ≠ 10 := fun e => hc12 (Int32.toInt_inj.mp e)
                                  have hc14i : (zz_own.getD ((q1 * (4 : Int32)) + a2).toNatClampNeg 0).toInt ≠ 11 := fun e => hc14 (Int32.toInt_inj.mp e)
                                  have hc15i : (zz_own.getD ((q1 * (4 : Int32)) + a2).toNatClampNeg 0).toInt ≠ 20 := fun e => hc15 (Int32.toInt_inj.mp e)
                                  have hc17i : (zz_own.getD ((q1 * (4 : Int32)) + a2).toNatClampNeg 0).toInt ≠ 30 := fun e => hc17 (Int32.toInt_inj.mp e)
                                  have hc19i : (zz_own.getD ((q1 * (4 : Int32)) + a2).toNatClampNeg 0).toInt ≠ 40 := fun e => hc19 (Int32.toInt_inj.mp e)
                                  have hc21i : (zz_own.getD ((q1 * (4 : Int32)) + a2).toNatClampNeg 0).toInt ≠ 41 := fun e => hc21 (Int32.toInt_inj.mp e)
                                  have hc23i : (zz_own.getD ((q1 * (4 : Int32)) + a2).toNatClampNeg 0).toInt ≠ 50 := fun e => hc23 (Int32.toInt_inj.mp e)
                                  have hc25i : (zz_own.getD ((q1 * (4 : Int32)) + a2).toNatClampNeg 0).toInt ≠ 60 := fun e => hc25 (Int32.toInt_inj.mp e)
                                  have hc28i : (zz_own.getD ((q1 * (4 : Int32)) + a2).toNatClampNeg 0).toInt ≠ 61 := fun e => hc28 (Int32.toInt_inj.mp e)
                                  have hc30i : (zz_own.getD ((q1 * (4 : Int32)) + a2).toNatClampNeg 0).toInt ≠ 70 := fun e => hc30 (Int32.toInt_inj.mp e)
                                  have hc32i : (zz_own.getD ((q1 * (4 : Int32)) + a2).toNatClampNeg 0).toInt ≠ 80 := fun e => hc32 (Int32.toInt_inj.mp e)
                                  have hc35i : (zz_own.getD ((q1 * (4 : Int32)) + a2).toNatClampNeg 0).toInt ≠ 81 := fun e => hc35 (Int32.toInt_inj.mp e)
                                  refine zz_lookup (tgt := 403) (off := 340) (pc := 63) C (by decide) (zlk_Bodies_run_63 hc8i hc9i hc12i hc14i hc15i hc17i hc19i hc21i hc23i hc25i hc28i hc30i hc32i hc35i) (by decide) d_Bodies_run_63 ?_
                                  refine zz_iconst (pc := 403) C zki_0 d_Bodies_run_403 ?_
                                  replace h := Option.some.inj h
                                  subst h
                                  exact zz_ret (pc := 404) C (v := some (.int (0 : Int32))) d_Bodies_run_404 (Or.inl ⟨_, _, rfl, rfl, rfl, rfl⟩) rfl
    · rw [if_neg hc3] at h
      refine zz_iconst (pc := 19) C zki_0 d_Bodies_run_19 ?_
      replace h := Option.some.inj h
      subst h
      exact zz_ret (pc := 20) C (v := some (.int (0 : Int32))) d_Bodies_run_20 (Or.inl ⟨_, _, rfl, rfl, rfl, rfl⟩) rfl
theorem zg_Bodies_run {G : zz_G} {l : Launch} : ∀ n : Nat, ∀ (a1 : Int32) (a2 : Int32) (a3 : Int32) (a4 : Int32) (a5 : Int32) (s : zz_S) (q : Int32 × zz_S), g_Bodies_run n a1 a2 a3 a4 a5 s = some q → zz_M G l (2 + n) y_Bodies_run prog_3_method_8_code 11 (some .int) [.ref 49, .int a1, .int a2, .int a3, .int a4, .int a5] zsh s (some (.int q.1), zsh, q.2) := by
  intro n
  induction n with
  | zero =>
    skip
    · intro a1 a2 a3 a4 a5 s q h; cases h
  | succ n ih =>
    · intro a1 a2 a3 a4 a5 s q h
      exact zz_M.intro (by decide) (Nat.le_of_ble_eq_true rfl) (Nat.le_refl _) (Nat.le_refl _) (fun Z C => zf_Bodies_run (dR := 2 + n) (by omega) C (g_Bodies_run n) ih a1 a2 a3 a4 a5 h)
theorem zm_Bodies_run {G : zz_G} {l : Launch} {s : zz_S} {q : Int32 × zz_S} {a1 : Int32} {a2 : Int32} {a3 : Int32} {a4 : Int32} {a5 : Int32} (h : g_Bodies_run zR a1 a2 a3 a4 a5 s = some q) : zz_M G l 202 y_Bodies_run prog_3_method_8_code 11 (some .int) [.ref 49, .int a1, .int a2, .int a3, .int a4, .int a5] zsh s (some (.int q.1), zsh, q.2) := (zg_Bodies_run zR) a1 a2 a3 a4 a5 s q h
theorem d_Bodies_runFirst_0 : decode prog_3_method_7_code 0 = .ok (.aload_n 0, 1) := by decide +kernel
theorem d_Bodies_runFirst_1 : decode prog_3_method_7_code 1 = .ok (.iconst 0, 1) := by decide +kernel
theorem d_Bodies_runFirst_2 : decode prog_3_method_7_code 2 = .ok (.putfield 28, 3) := by decide +kernel
theorem d_Bodies_runFirst_5 : decode prog_3_method_7_code 5 = .ok (.aload_n 0, 1) := by decide +kernel
theorem d_Bodies_runFirst_6 : decode prog_3_method_7_code 6 = .ok (.iload_n 1, 1) := by decide +kernel
theorem d_Bodies_runFirst_7 : decode prog_3_method_7_code 7 = .ok (.invokevirtual 31, 3) := by decide +kernel
theorem d_Bodies_runFirst_10 : decode prog_3_method_7_code 10 = .ok (.ifCond .eq (12), 3) := by decide +kernel
theorem d_Bodies_runFirst_13 : decode prog_3_method_7_code 13 = .ok (.iload_n 2, 1) := by decide +kernel
theorem d_Bodies_runFirst_14 : decode prog_3_method_7_code 14 = .ok (.ifCond .lt (8), 3) := by decide +kernel
theorem d_Bodies_runFirst_17 : decode prog_3_method_7_code 17 = .ok (.iload_n 2, 1) := by decide +kernel
theorem d_Bodies_runFirst_18 : decode prog_3_method_7_code 18 = .ok (.iconst 4, 1) := by decide +kernel
theorem d_Bodies_runFirst_19 : decode prog_3_method_7_code 19 = .ok (.if_icmp .lt (5), 3) := by decide +kernel
theorem d_Bodies_runFirst_22 : decode prog_3_method_7_code 22 = .ok (.iconst 0, 1) := by decide +kernel
theorem d_Bodies_runFirst_23 : decode prog_3_method_7_code 23 = .ok (.ireturn, 1) := by decide +kernel
theorem d_Bodies_runFirst_24 : decode prog_3_method_7_code 24 = .ok (.aload_n 0, 1) := by decide +kernel
theorem d_Bodies_runFirst_25 : decode prog_3_method_7_code 25 = .ok (.iload_n 1, 1) := by decide +kernel
theorem d_Bodies_runFirst_26 : decode prog_3_method_7_code 26 = .ok (.iload_n 2, 1) := by decide +kernel
theorem d_Bodies_runFirst_27 : decode prog_3_method_7_code 27 = .ok (.aload_n 0, 1) := by decide +kernel
theorem d_Bodies_runFirst_28 : decode prog_3_method_7_code 28 = .ok (.getfield 11, 3) := by decide +kernel
theorem d_Bodies_runFirst_31 : decode prog_3_method_7_code 31 = .ok (.iload_n 1, 1) := by decide +kernel
theorem d_Bodies_runFirst_32 : decode prog_3_method_7_code 32 = .ok (.iaload, 1) := by decide +kernel
theorem d_Bodies_runFirst_33 : decode prog_3_method_7_code 33 = .ok (.iload_n 3, 1) := by decide +kernel
theorem d_Bodies_runFirst_34 : decode prog_3_method_7_code 34 = .ok (.iconst 0, 1) := by decide +kernel
theorem d_Bodies_runFirst_35 : decode prog_3_method_7_code 35 = .ok (.invokevirtual 35, 3) := by decide +kernel
theorem d_Bodies_runFirst_38 : decode prog_3_method_7_code 38 = .ok (.ireturn, 1) := by decide +kernel
set_option maxHeartbeats 4000000 in
set_option maxRecDepth 100000 in
theorem zf_Bodies_runFirst {G : zz_G} {l : Launch} {Z : zz_Z} {q : Int32 × zz_S} {s : zz_S} (C : zz_Cx G l "OneBlanket$Bodies" "runFirst" prog_3_method_7_code 4 (some .int) 203 (some (.int q.1), zsh, q.2) Z) (a1 : Int32) (a2 : Int32) (a3 : Int32) (h : f_Bodies_runFirst a1 a2 a3 s = some q) : Z 0 [some (.ref 49), some (.int a1), some (.int a2), some (.int a3)] [] zsh s := by
  unfold f_Bodies_runFirst at h
  refine zz_aload_n (i := 0) (pc := 0) C rfl rfl d_Bodies_runFirst_0 ?_
  refine zz_iconst (pc := 1) C zki_0 d_Bodies_runFirst_1 ?_
  refine zz_putI' (pc := 2) C zl_1_28 zpf_1_1 zsh_49 rfl d_Bodies_runFirst_2 ?_
  refine zz_aload_n (i := 0) (pc := 5) C rfl rfl d_Bodies_runFirst_5 ?_
  refine zz_iload_n (i := 1) (pc := 6) C rfl rfl d_Bodies_runFirst_6 ?_
  refine zz_cVi (as := [.int a1]) (st := []) (pc := 7) C (zm_Bodies_has rfl) zcv_Bodies_has zsh_49 zl_1_31 (by omega) (Nat.le_of_ble_eq_true rfl) d_Bodies_runFirst_7 rfl rfl ?_
  refine zz_if_eq (tgt := 22) (pc := 10) C (by decide) d_Bodies_runFirst_10 (fun hc1 => ?_) (fun hc1 => ?_)
  · rw [if_pos hc1] at h
    refine zz_iconst (pc := 22) C zki_0 d_Bodies_runFirst_22 ?_
    replace h := Option.some.inj h
    subst h
    exact zz_ret (pc := 23) C (v := some (.int (0 : Int32))) d_Bodies_runFirst_23 (Or.inl ⟨_, _, rfl, rfl, rfl, rfl⟩) rfl
  · rw [if_neg hc1] at h
    refine zz_iload_n (i := 2) (pc := 13) C rfl rfl d_Bodies_runFirst_13 ?_
    refine zz_if_lt (tgt := 22) (pc := 14) C (by decide) d_Bodies_runFirst_14 (fun hc2 => ?_) (fun hc2 => ?_)
    · rw [if_pos hc2] at h
      refine zz_iconst (pc := 22) C zki_0 d_Bodies_runFirst_22 ?_
      replace h := Option.some.inj h
      subst h
      exact zz_ret (pc := 23) C (v := some (.int (0 : Int32))) d_Bodies_runFirst_23 (Or.inl ⟨_, _, rfl, rfl, rfl, rfl⟩) rfl
    · rw [if_neg hc2] at h
      refine zz_iload_n (i := 2) (pc := 17) C rfl rfl d_Bodies_runFirst_17 ?_
      refine zz_iconst (pc := 18) C zki_4 d_Bodies_runFirst_18 ?_
      refine zz_icmp_lt (tgt := 24) (pc := 19) C (by decide) d_Bodies_runFirst_19 (fun hc3 => ?_) (fun hc3 => ?_)
      · rw [if_pos hc3] at h
        refine zz_aload_n (i := 0) (pc := 24) C rfl rfl d_Bodies_runFirst_24 ?_
        refine zz_iload_n (i := 1) (pc := 25) C rfl rfl d_Bodies_runFirst_25 ?_
        refine zz_iload_n (i := 2) (pc := 26) C rfl rfl d_Bodies_runFirst_26 ?_
        refine zz_aload_n (i := 0) (pc := 27) C rfl rfl d_Bodies_runFirst_27 ?_
        refine zz_getR (pc := 28) C zl_1_11 zsh_49 rfl d_Bodies_runFirst_28 ?_
        refine zz_iload_n (i := 1) (pc := 31) C rfl rfl d_Bodies_runFirst_31 ?_
        obtain ⟨hi4, h⟩ := zz_ckE h
        refine zz_ialdv (v := (s.1 50 (a1.toNatClampNeg))) (pc := 32) C rfl zsh_50 hi4 rfl d_Bodies_runFirst_32 ?_
        refine zz_iload_n (i := 3) (pc := 33) C rfl rfl d_Bodies_runFirst_33 ?_
        refine zz_iconst (pc := 34) C zki_0 d_Bodies_runFirst_34 ?_
        obtain ⟨q5, hq5, h⟩ := zz_bdE h
        refine zz_cVi (as := [.int a1, .int a2, .int (s.1 50 (a1.toNatClampNeg)), .int a3, .int (0 : Int32)]) (st := []) (pc := 35) C (zm_Bodies_run hq5) zcv_Bodies_run zsh_49 zl_1_35 (by omega) (Nat.le_of_ble_eq_true rfl) d_Bodies_runFirst_35 rfl rfl ?_
        replace h := Option.some.inj h
        subst h
        exact zz_ret (pc := 38) C (v := some (.int q5.1)) d_Bodies_runFirst_38 (Or.inl ⟨_, _, rfl, rfl, rfl, rfl⟩) rfl
      · rw [if_neg hc3] at h
        refine zz_iconst (pc := 22) C zki_0 d_Bodies_runFirst_22 ?_
        replace h := Option.some.inj h
        subst h
        exact zz_ret (pc := 23) C (v := some (.int (0 : Int32))) d_Bodies_runFirst_23 (Or.inl ⟨_, _, rfl, rfl, rfl, rfl⟩) rfl
theorem zm_Bodies_runFirst {G : zz_G} {l : Launch} {s : zz_S} {q : Int32 × zz_S} {a1 : Int32} {a2 : Int32} {a3 : Int32} (h : f_Bodies_runFirst a1 a2 a3 s = some q) : zz_M G l 203 y_Bodies_runFirst prog_3_method_7_code 4 (some .int) [.ref 49, .int a1, .int a2, .int a3] zsh s (some (.int q.1), zsh, q.2) :=
  zz_M.intro (by decide) (Nat.le_of_ble_eq_true rfl) (Nat.le_refl _) (Nat.le_refl _) (fun Z C => zf_Bodies_runFirst C a1 a2 a3 h)
theorem d_Changes_forgetOldest_0 : decode prog_4_method_3_code 0 = .ok (.aload_n 0, 1) := by decide +kernel
theorem d_Changes_forgetOldest_1 : decode prog_4_method_3_code 1 = .ok (.getfield 9, 3) := by decide +kernel
theorem d_Changes_forgetOldest_4 : decode prog_4_method_3_code 4 = .ok (.iconst 1, 1) := by decide +kernel
theorem d_Changes_forgetOldest_5 : decode prog_4_method_3_code 5 = .ok (.aload_n 0, 1) := by decide +kernel
theorem d_Changes_forgetOldest_6 : decode prog_4_method_3_code 6 = .ok (.getfield 9, 3) := by decide +kernel
theorem d_Changes_forgetOldest_9 : decode prog_4_method_3_code 9 = .ok (.iconst 0, 1) := by decide +kernel
theorem d_Changes_forgetOldest_10 : decode prog_4_method_3_code 10 = .ok (.bipush (39), 2) := by decide +kernel
theorem d_Changes_forgetOldest_12 : decode prog_4_method_3_code 12 = .ok (.invokestatic 32, 3) := by decide +kernel
theorem d_Changes_forgetOldest_15 : decode prog_4_method_3_code 15 = .ok (.aload_n 0, 1) := by decide +kernel
theorem d_Changes_forgetOldest_16 : decode prog_4_method_3_code 16 = .ok (.getfield 13, 3) := by decide +kernel
theorem d_Changes_forgetOldest_19 : decode prog_4_method_3_code 19 = .ok (.iconst 1, 1) := by decide +kernel
theorem d_Changes_forgetOldest_20 : decode prog_4_method_3_code 20 = .ok (.aload_n 0, 1) := by decide +kernel
theorem d_Changes_forgetOldest_21 : decode prog_4_method_3_code 21 = .ok (.getfield 13, 3) := by decide +kernel
theorem d_Changes_forgetOldest_24 : decode prog_4_method_3_code 24 = .ok (.iconst 0, 1) := by decide +kernel
theorem d_Changes_forgetOldest_25 : decode prog_4_method_3_code 25 = .ok (.bipush (39), 2) := by decide +kernel
theorem d_Changes_forgetOldest_27 : decode prog_4_method_3_code 27 = .ok (.invokestatic 32, 3) := by decide +kernel
theorem d_Changes_forgetOldest_30 : decode prog_4_method_3_code 30 = .ok (.aload_n 0, 1) := by decide +kernel
theorem d_Changes_forgetOldest_31 : decode prog_4_method_3_code 31 = .ok (.getfield 16, 3) := by decide +kernel
theorem d_Changes_forgetOldest_34 : decode prog_4_method_3_code 34 = .ok (.iconst 1, 1) := by decide +kernel
theorem d_Changes_forgetOldest_35 : decode prog_4_method_3_code 35 = .ok (.aload_n 0, 1) := by decide +kernel
theorem d_Changes_forgetOldest_36 : decode prog_4_method_3_code 36 = .ok (.getfield 16, 3) := by decide +kernel
theorem d_Changes_forgetOldest_39 : decode prog_4_method_3_code 39 = .ok (.iconst 0, 1) := by decide +kernel
theorem d_Changes_forgetOldest_40 : decode prog_4_method_3_code 40 = .ok (.bipush (39), 2) := by decide +kernel
theorem d_Changes_forgetOldest_42 : decode prog_4_method_3_code 42 = .ok (.invokestatic 32, 3) := by decide +kernel
theorem d_Changes_forgetOldest_45 : decode prog_4_method_3_code 45 = .ok (.aload_n 0, 1) := by decide +kernel
theorem d_Changes_forgetOldest_46 : decode prog_4_method_3_code 46 = .ok (.getfield 19, 3) := by decide +kernel
theorem d_Changes_forgetOldest_49 : decode prog_4_method_3_code 49 = .ok (.iconst 1, 1) := by decide +kernel
theorem d_Changes_forgetOldest_50 : decode prog_4_method_3_code 50 = .ok (.aload_n 0, 1) := by decide +kernel
theorem d_Changes_forgetOldest_51 : decode prog_4_method_3_code 51 = .ok (.getfield 19, 3) := by decide +kernel
theorem d_Changes_forgetOldest_54 : decode prog_4_method_3_code 54 = .ok (.iconst 0, 1) := by decide +kernel
theorem d_Changes_forgetOldest_55 : decode prog_4_method_3_code 55 = .ok (.bipush (39), 2) := by decide +kernel
theorem d_Changes_forgetOldest_57 : decode prog_4_method_3_code 57 = .ok (.invokestatic 32, 3) := by decide +kernel
theorem d_Changes_forgetOldest_60 : decode prog_4_method_3_code 60 = .ok (.aload_n 0, 1) := by decide +kernel
theorem d_Changes_forgetOldest_61 : decode prog_4_method_3_code 61 = .ok (.bipush (39), 2) := by decide +kernel
theorem d_Changes_forgetOldest_63 : decode prog_4_method_3_code 63 = .ok (.putfield 22, 3) := by decide +kernel
theorem d_Changes_forgetOldest_66 : decode prog_4_method_3_code 66 = .ok (.return_, 1) := by decide +kernel
set_option maxHeartbeats 4000000 in
set_option maxRecDepth 100000 in
theorem zf_Changes_forgetOldest {G : zz_G} {l : Launch} {Z : zz_Z} (hex : G.2.2.2.2 = false) {q : zz_S} {s : zz_S} (C : zz_Cx G l "OneBlanket$Changes" "forgetOldest" prog_4_method_3_code 1 (none) 3 (none, zsh, q) Z) (h : f_Changes_forgetOldest s = some q) : Z 0 [some (.ref 39)] [] zsh s := by
  unfold f_Changes_forgetOldest at h
  refine zz_aload_n (i := 0) (pc := 0) C rfl rfl d_Changes_forgetOldest_0 ?_
  refine zz_getR (pc := 1) C zl_2_9 zsh_39 rfl d_Changes_forgetOldest_1 ?_
  refine zz_iconst (pc := 4) C zki_1 d_Changes_forgetOldest_4 ?_
  refine zz_aload_n (i := 0) (pc := 5) C rfl rfl d_Changes_forgetOldest_5 ?_
  refine zz_getR (pc := 6) C zl_2_9 zsh_39 rfl d_Changes_forgetOldest_6 ?_
  refine zz_iconst (pc := 9) C zki_0 d_Changes_forgetOldest_9 ?_
  refine zz_bipush (pc := 10) C zkb_39 d_Changes_forgetOldest_10 ?_
  refine zz_copyi (st := []) (pc := 12) C hex zsh_40 zsh_40 (by decide) (by decide) (by decide) (by decide) (by decide) zl_2_32 zl_acN zl_acS zl_acI (by omega) (Nat.le_of_ble_eq_true rfl) d_Changes_forgetOldest_12 ?_
  refine zz_aload_n (i := 0) (pc := 15) C rfl rfl d_Changes_forgetOldest_15 ?_
  refine zz_getR (pc := 16) C zl_2_13 zsh_39 rfl d_Changes_forgetOldest_16 ?_
  refine zz_iconst (pc := 19) C zki_1 d_Changes_forgetOldest_19 ?_
  refine zz_aload_n (i := 0) (pc := 20) C rfl rfl d_Changes_forgetOldest_20 ?_
  refine zz_getR (pc := 21) C zl_2_13 zsh_39 rfl d_Changes_forgetOldest_21 ?_
  refine zz_iconst (pc := 24) C zki_0 d_Changes_forgetOldest_24 ?_
  refine zz_bipush (pc := 25) C zkb_39 d_Changes_forgetOldest_25 ?_
  refine zz_copyi (st := []) (pc := 27) C hex zsh_41 zsh_41 (by decide) (by decide) (by decide) (by decide) (by decide) zl_2_32 zl_acN zl_acS zl_acI (by omega) (Nat.le_of_ble_eq_true rfl) d_Changes_forgetOldest_27 ?_
  refine zz_aload_n (i := 0) (pc := 30) C rfl rfl d_Changes_forgetOldest_30 ?_
  refine zz_getR (pc := 31) C zl_2_16 zsh_39 rfl d_Changes_forgetOldest_31 ?_
  refine zz_iconst (pc := 34) C zki_1 d_Changes_forgetOldest_34 ?_
  refine zz_aload_n (i := 0) (pc := 35) C rfl rfl d_Changes_forgetOldest_35 ?_
  refine zz_getR (pc := 36) C zl_2_16 zsh_39 rfl d_Changes_forgetOldest_36 ?_
  refine zz_iconst (pc := 39) C zki_0 d_Changes_forgetOldest_39 ?_
  refine zz_bipush (pc := 40) C zkb_39 d_Changes_forgetOldest_40 ?_
  refine zz_copyi (st := []) (pc := 42) C hex zsh_42 zsh_42 (by decide) (by decide) (by decide) (by decide) (by decide) zl_2_32 zl_acN zl_acS zl_acI (by omega) (Nat.le_of_ble_eq_true rfl) d_Changes_forgetOldest_42 ?_
  refine zz_aload_n (i := 0) (pc := 45) C rfl rfl d_Changes_forgetOldest_45 ?_
  refine zz_getR (pc := 46) C zl_2_19 zsh_39 rfl d_Changes_forgetOldest_46 ?_
  refine zz_iconst (pc := 49) C zki_1 d_Changes_forgetOldest_49 ?_
  refine zz_aload_n (i := 0) (pc := 50) C rfl rfl d_Changes_forgetOldest_50 ?_
  refine zz_getR (pc := 51) C zl_2_19 zsh_39 rfl d_Changes_forgetOldest_51 ?_
  refine zz_iconst (pc := 54) C zki_0 d_Changes_forgetOldest_54 ?_
  refine zz_bipush (pc := 55) C zkb_39 d_Changes_forgetOldest_55 ?_
  refine zz_copyi (st := []) (pc := 57) C hex zsh_43 zsh_43 (by decide) (by decide) (by decide) (by decide) (by decide) zl_2_32 zl_acN zl_acS zl_acI (by omega) (Nat.le_of_ble_eq_true rfl) d_Changes_forgetOldest_57 ?_
  refine zz_aload_n (i := 0) (pc := 60) C rfl rfl d_Changes_forgetOldest_60 ?_
  refine zz_bipush (pc := 61) C zkb_39 d_Changes_forgetOldest_61 ?_
  refine zz_putI' (pc := 63) C zl_2_22 zpf_2_0 zsh_39 rfl d_Changes_forgetOldest_63 ?_
  replace h := Option.some.inj h
  subst h
  exact zz_ret (pc := 66) C (v := none) d_Changes_forgetOldest_66 (Or.inr (Or.inr (Or.inr ⟨rfl, rfl, rfl⟩))) rfl
theorem zm_Changes_forgetOldest {G : zz_G} {l : Launch} {s : zz_S} {q : zz_S} (hex : G.2.2.2.2 = false) (h : f_Changes_forgetOldest s = some q) : zz_M G l 3 y_Changes_forgetOldest prog_4_method_3_code 1 (none) [.ref 39] zsh s (none, zsh, q) :=
  zz_M.intro (by decide) (Nat.le_of_ble_eq_true rfl) (Nat.le_refl _) (Nat.le_refl _) (fun Z C => zf_Changes_forgetOldest hex C h)
theorem d_Changes_add_0 : decode prog_4_method_2_code 0 = .ok (.aload_n 0, 1) := by decide +kernel
theorem d_Changes_add_1 : decode prog_4_method_2_code 1 = .ok (.getfield 22, 3) := by decide +kernel
theorem d_Changes_add_4 : decode prog_4_method_2_code 4 = .ok (.bipush (40), 2) := by decide +kernel
theorem d_Changes_add_6 : decode prog_4_method_2_code 6 = .ok (.if_icmp .lt (7), 3) := by decide +kernel
theorem d_Changes_add_9 : decode prog_4_method_2_code 9 = .ok (.aload_n 0, 1) := by decide +kernel
theorem d_Changes_add_10 : decode prog_4_method_2_code 10 = .ok (.invokevirtual 26, 3) := by decide +kernel
theorem d_Changes_add_13 : decode prog_4_method_2_code 13 = .ok (.aload_n 0, 1) := by decide +kernel
theorem d_Changes_add_14 : decode prog_4_method_2_code 14 = .ok (.getfield 9, 3) := by decide +kernel
theorem d_Changes_add_17 : decode prog_4_method_2_code 17 = .ok (.aload_n 0, 1) := by decide +kernel
theorem d_Changes_add_18 : decode prog_4_method_2_code 18 = .ok (.getfield 22, 3) := by decide +kernel
theorem d_Changes_add_21 : decode prog_4_method_2_code 21 = .ok (.iload_n 1, 1) := by decide +kernel
theorem d_Changes_add_22 : decode prog_4_method_2_code 22 = .ok (.iastore, 1) := by decide +kernel
theorem d_Changes_add_23 : decode prog_4_method_2_code 23 = .ok (.aload_n 0, 1) := by decide +kernel
theorem d_Changes_add_24 : decode prog_4_method_2_code 24 = .ok (.getfield 13, 3) := by decide +kernel
theorem d_Changes_add_27 : decode prog_4_method_2_code 27 = .ok (.aload_n 0, 1) := by decide +kernel
theorem d_Changes_add_28 : decode prog_4_method_2_code 28 = .ok (.getfield 22, 3) := by decide +kernel
theorem d_Changes_add_31 : decode prog_4_method_2_code 31 = .ok (.iload_n 2, 1) := by decide +kernel
theorem d_Changes_add_32 : decode prog_4_method_2_code 32 = .ok (.iastore, 1) := by decide +kernel
theorem d_Changes_add_33 : decode prog_4_method_2_code 33 = .ok (.aload_n 0, 1) := by decide +kernel
theorem d_Changes_add_34 : decode prog_4_method_2_code 34 = .ok (.getfield 16, 3) := by decide +kernel
theorem d_Changes_add_37 : decode prog_4_method_2_code 37 = .ok (.aload_n 0, 1) := by decide +kernel
theorem d_Changes_add_38 : decode prog_4_method_2_code 38 = .ok (.getfield 22, 3) := by decide +kernel
theorem d_Changes_add_41 : decode prog_4_method_2_code 41 = .ok (.iload_n 3, 1) := by decide +kernel
theorem d_Changes_add_42 : decode prog_4_method_2_code 42 = .ok (.iastore, 1) := by decide +kernel
theorem d_Changes_add_43 : decode prog_4_method_2_code 43 = .ok (.aload_n 0, 1) := by decide +kernel
theorem d_Changes_add_44 : decode prog_4_method_2_code 44 = .ok (.getfield 19, 3) := by decide +kernel
theorem d_Changes_add_47 : decode prog_4_method_2_code 47 = .ok (.aload_n 0, 1) := by decide +kernel
theorem d_Changes_add_48 : decode prog_4_method_2_code 48 = .ok (.getfield 22, 3) := by decide +kernel
theorem d_Changes_add_51 : decode prog_4_method_2_code 51 = .ok (.iload 4, 2) := by decide +kernel
theorem d_Changes_add_53 : decode prog_4_method_2_code 53 = .ok (.iastore, 1) := by decide +kernel
theorem d_Changes_add_54 : decode prog_4_method_2_code 54 = .ok (.aload_n 0, 1) := by decide +kernel
theorem d_Changes_add_55 : decode prog_4_method_2_code 55 = .ok (.dup, 1) := by decide +kernel
theorem d_Changes_add_56 : decode prog_4_method_2_code 56 = .ok (.getfield 22, 3) := by decide +kernel
theorem d_Changes_add_59 : decode prog_4_method_2_code 59 = .ok (.iconst 1, 1) := by decide +kernel
theorem d_Changes_add_60 : decode prog_4_method_2_code 60 = .ok (.iadd, 1) := by decide +kernel
theorem d_Changes_add_61 : decode prog_4_method_2_code 61 = .ok (.putfield 22, 3) := by decide +kernel
theorem d_Changes_add_64 : decode prog_4_method_2_code 64 = .ok (.aload_n 0, 1) := by decide +kernel
theorem d_Changes_add_65 : decode prog_4_method_2_code 65 = .ok (.aload_n 0, 1) := by decide +kernel
theorem d_Changes_add_66 : decode prog_4_method_2_code 66 = .ok (.getfield 22, 3) := by decide +kernel
theorem d_Changes_add_69 : decode prog_4_method_2_code 69 = .ok (.putfield 29, 3) := by decide +kernel
theorem d_Changes_add_72 : decode prog_4_method_2_code 72 = .ok (.return_, 1) := by decide +kernel
set_option maxHeartbeats 4000000 in
set_option maxRecDepth 100000 in
theorem zf_Changes_add_J13 {G : zz_G} {l : Launch} {Z : zz_Z} (hex : G.2.2.2.2 = false) {q : zz_S} {s : zz_S} (C : zz_Cx G l "OneBlanket$Changes" "add" prog_4_method_2_code 5 (none) 4 (none, zsh, q) Z) (v1 : Int32) (v2 : Int32) (v3 : Int32) (v4 : Int32) (h : f_Changes_add_J13 v1 v2 v3 v4 s = some q) : Z 13 [some (.ref 39), some (.int v1), some (.int v2), some (.int v3), some (.int v4)] [] zsh s := by
  unfold f_Changes_add_J13 at h
  refine zz_aload_n (i := 0) (pc := 13) C rfl rfl d_Changes_add_13 ?_
  refine zz_getR (pc := 14) C zl_2_9 zsh_39 rfl d_Changes_add_14 ?_
  refine zz_aload_n (i := 0) (pc := 17) C rfl rfl d_Changes_add_17 ?_
  refine zz_getI (pc := 18) C zl_2_22 zsh_39 rfl d_Changes_add_18 ?_
  refine zz_iload_n (i := 1) (pc := 21) C rfl rfl d_Changes_add_21 ?_
  obtain ⟨hi2, h⟩ := zz_ckE h
  refine zz_iast (pc := 22) C rfl zsh_40 hi2 d_Changes_add_22 ?_
  refine zz_aload_n (i := 0) (pc := 23) C rfl rfl d_Changes_add_23 ?_
  refine zz_getR (pc := 24) C zl_2_13 zsh_39 rfl d_Changes_add_24 ?_
  refine zz_aload_n (i := 0) (pc := 27) C rfl rfl d_Changes_add_27 ?_
  refine zz_getIv (v := (s.1 39 0)) (pc := 28) C zl_2_22 zsh_39 rfl rfl d_Changes_add_28 ?_
  refine zz_iload_n (i := 2) (pc := 31) C rfl rfl d_Changes_add_31 ?_
  refine zz_iast (pc := 32) C rfl zsh_41 hi2 d_Changes_add_32 ?_
  refine zz_aload_n (i := 0) (pc := 33) C rfl rfl d_Changes_add_33 ?_
  refine zz_getR (pc := 34) C zl_2_16 zsh_39 rfl d_Changes_add_34 ?_
  refine zz_aload_n (i := 0) (pc := 37) C rfl rfl d_Changes_add_37 ?_
  refine zz_getIv (v := (s.1 39 0)) (pc := 38) C zl_2_22 zsh_39 rfl rfl d_Changes_add_38 ?_
  refine zz_iload_n (i := 3) (pc := 41) C rfl rfl d_Changes_add_41 ?_
  refine zz_iast (pc := 42) C rfl zsh_42 hi2 d_Changes_add_42 ?_
  refine zz_aload_n (i := 0) (pc := 43) C rfl rfl d_Changes_add_43 ?_
  refine zz_getR (pc := 44) C zl_2_19 zsh_39 rfl d_Changes_add_44 ?_
  refine zz_aload_n (i := 0) (pc := 47) C rfl rfl d_Changes_add_47 ?_
  refine zz_getIv (v := (s.1 39 0)) (pc := 48) C zl_2_22 zsh_39 rfl rfl d_Changes_add_48 ?_
  refine zz_iload (i := 4) (pc := 51) C rfl d_Changes_add_51 ?_
  refine zz_iast (pc := 53) C rfl zsh_43 hi2 d_Changes_add_53 ?_
  refine zz_aload_n (i := 0) (pc := 54) C rfl rfl d_Changes_add_54 ?_
  refine zz_dup (pc := 55) C rfl d_Changes_add_55 ?_
  refine zz_getIv (v := (s.1 39 0)) (pc := 56) C zl_2_22 zsh_39 rfl rfl d_Changes_add_56 ?_
  refine zz_iconst (pc := 59) C zki_1 d_Changes_add_59 ?_
  refine zz_iadd (pc := 60) C d_Changes_add_60 ?_
  refine zz_putI' (pc := 61) C zl_2_22 zpf_2_0 zsh_39 rfl d_Changes_add_61 ?_
  refine zz_aload_n (i := 0) (pc := 64) C rfl rfl d_Changes_add_64 ?_
  refine zz_aload_n (i := 0) (pc := 65) C rfl rfl d_Changes_add_65 ?_
  refine zz_getIv (v := ((s.1 39 0) + (1 : Int32))) (pc := 66) C zl_2_22 zsh_39 rfl rfl d_Changes_add_66 ?_
  refine zz_putI' (pc := 69) C zl_2_29 zpf_2_1 zsh_39 rfl d_Changes_add_69 ?_
  replace h := Option.some.inj h
  subst h
  exact zz_ret (pc := 72) C (v := none) d_Changes_add_72 (Or.inr (Or.inr (Or.inr ⟨rfl, rfl, rfl⟩))) rfl
set_option maxHeartbeats 4000000 in
set_option maxRecDepth 100000 in
theorem zf_Changes_add {G : zz_G} {l : Launch} {Z : zz_Z} (hex : G.2.2.2.2 = false) {q : zz_S} {s : zz_S} (C : zz_Cx G l "OneBlanket$Changes" "add" prog_4_method_2_code 5 (none) 4 (none, zsh, q) Z) (a1 : Int32) (a2 : Int32) (a3 : Int32) (a4 : Int32) (h : f_Changes_add a1 a2 a3 a4 s = some q) : Z 0 [some (.ref 39), some (.int a1), some (.int a2), some (.int a3), some (.int a4)] [] zsh s := by
  unfold f_Changes_add at h
  refine zz_aload_n (i := 0) (pc := 0) C rfl rfl d_Changes_add_0 ?_
  refine zz_getI (pc := 1) C zl_2_22 zsh_39 rfl d_Changes_add_1 ?_
  refine zz_bipush (pc := 4) C zkb_40 d_Changes_add_4 ?_
  refine zz_icmp_lt (tgt := 13) (pc := 6) C (by decide) d_Changes_add_6 (fun hc1 => ?_) (fun hc1 => ?_)
  · rw [if_pos hc1] at h
    exact zf_Changes_add_J13 hex C a1 a2 a3 a4 h
  · rw [if_neg hc1] at h
    refine zz_aload_n (i := 0) (pc := 9) C rfl rfl d_Changes_add_9 ?_
    obtain ⟨q3, hq3, h⟩ := zz_bdE h
    refine zz_cVv (as := []) (st := []) (pc := 10) C (zm_Changes_forgetOldest hex hq3) zcv_Changes_forgetOldest zsh_39 zl_2_26 (by omega) (Nat.le_of_ble_eq_true rfl) d_Changes_add_10 rfl rfl ?_
    exact zf_Changes_add_J13 hex C a1 a2 a3 a4 h
theorem zm_Changes_add {G : zz_G} {l : Launch} {s : zz_S} {q : zz_S} {a1 : Int32} {a2 : Int32} {a3 : Int32} {a4 : Int32} (hex : G.2.2.2.2 = false) (h : f_Changes_add a1 a2 a3 a4 s = some q) : zz_M G l 4 y_Changes_add prog_4_method_2_code 5 (none) [.ref 39, .int a1, .int a2, .int a3, .int a4] zsh s (none, zsh, q) :=
  zz_M.intro (by decide) (Nat.le_of_ble_eq_true rfl) (Nat.le_refl _) (Nat.le_refl _) (fun Z C => zf_Changes_add hex C a1 a2 a3 a4 h)
theorem d_Changes_doAgain_0 : decode prog_4_method_5_code 0 = .ok (.aload_n 0, 1) := by decide +kernel
theorem d_Changes_doAgain_1 : decode prog_4_method_5_code 1 = .ok (.getfield 22, 3) := by decide +kernel
theorem d_Changes_doAgain_4 : decode prog_4_method_5_code 4 = .ok (.aload_n 0, 1) := by decide +kernel
theorem d_Changes_doAgain_5 : decode prog_4_method_5_code 5 = .ok (.getfield 29, 3) := by decide +kernel
theorem d_Changes_doAgain_8 : decode prog_4_method_5_code 8 = .ok (.if_icmp .ge (45), 3) := by decide +kernel
theorem d_Changes_doAgain_11 : decode prog_4_method_5_code 11 = .ok (.aload_n 1, 1) := by decide +kernel
theorem d_Changes_doAgain_12 : decode prog_4_method_5_code 12 = .ok (.aload_n 0, 1) := by decide +kernel
theorem d_Changes_doAgain_13 : decode prog_4_method_5_code 13 = .ok (.getfield 13, 3) := by decide +kernel
theorem d_Changes_doAgain_16 : decode prog_4_method_5_code 16 = .ok (.aload_n 0, 1) := by decide +kernel
theorem d_Changes_doAgain_17 : decode prog_4_method_5_code 17 = .ok (.getfield 22, 3) := by decide +kernel
theorem d_Changes_doAgain_20 : decode prog_4_method_5_code 20 = .ok (.iaload, 1) := by decide +kernel
theorem d_Changes_doAgain_21 : decode prog_4_method_5_code 21 = .ok (.invokevirtual 38, 3) := by decide +kernel
theorem d_Changes_doAgain_24 : decode prog_4_method_5_code 24 = .ok (.aload_n 0, 1) := by decide +kernel
theorem d_Changes_doAgain_25 : decode prog_4_method_5_code 25 = .ok (.getfield 9, 3) := by decide +kernel
theorem d_Changes_doAgain_28 : decode prog_4_method_5_code 28 = .ok (.aload_n 0, 1) := by decide +kernel
theorem d_Changes_doAgain_29 : decode prog_4_method_5_code 29 = .ok (.getfield 22, 3) := by decide +kernel
theorem d_Changes_doAgain_32 : decode prog_4_method_5_code 32 = .ok (.iaload, 1) := by decide +kernel
theorem d_Changes_doAgain_33 : decode prog_4_method_5_code 33 = .ok (.aload_n 0, 1) := by decide +kernel
theorem d_Changes_doAgain_34 : decode prog_4_method_5_code 34 = .ok (.getfield 19, 3) := by decide +kernel
theorem d_Changes_doAgain_37 : decode prog_4_method_5_code 37 = .ok (.aload_n 0, 1) := by decide +kernel
theorem d_Changes_doAgain_38 : decode prog_4_method_5_code 38 = .ok (.getfield 22, 3) := by decide +kernel
theorem d_Changes_doAgain_41 : decode prog_4_method_5_code 41 = .ok (.iaload, 1) := by decide +kernel
theorem d_Changes_doAgain_42 : decode prog_4_method_5_code 42 = .ok (.iastore, 1) := by decide +kernel
theorem d_Changes_doAgain_43 : decode prog_4_method_5_code 43 = .ok (.aload_n 0, 1) := by decide +kernel
theorem d_Changes_doAgain_44 : decode prog_4_method_5_code 44 = .ok (.dup, 1) := by decide +kernel
theorem d_Changes_doAgain_45 : decode prog_4_method_5_code 45 = .ok (.getfield 22, 3) := by decide +kernel
theorem d_Changes_doAgain_48 : decode prog_4_method_5_code 48 = .ok (.iconst 1, 1) := by decide +kernel
theorem d_Changes_doAgain_49 : decode prog_4_method_5_code 49 = .ok (.iadd, 1) := by decide +kernel
theorem d_Changes_doAgain_50 : decode prog_4_method_5_code 50 = .ok (.putfield 22, 3) := by decide +kernel
theorem d_Changes_doAgain_53 : decode prog_4_method_5_code 53 = .ok (.return_, 1) := by decide +kernel
set_option maxHeartbeats 4000000 in
set_option maxRecDepth 100000 in
theorem zf_Changes_doAgain {G : zz_G} {l : Launch} {Z : zz_Z} {q : zz_S} {s : zz_S} (C : zz_Cx G l "OneBlanket$Changes" "doAgain" prog_4_method_5_code 2 (none) 3 (none, zsh, q) Z) (h : f_Changes_doAgain s = some q) : Z 0 [some (.ref 39), some (.ref 1)] [] zsh s := by
  unfold f_Changes_doAgain at h
  refine zz_aload_n (i := 0) (pc := 0) C rfl rfl d_Changes_doAgain_0 ?_
  refine zz_getI (pc := 1) C zl_2_22 zsh_39 rfl d_Changes_doAgain_1 ?_
  refine zz_aload_n (i := 0) (pc := 4) C rfl rfl d_Changes_doAgain_4 ?_
  refine zz_getI (pc := 5) C zl_2_29 zsh_39 rfl d_Changes_doAgain_5 ?_
  refine zz_icmp_ge (tgt := 53) (pc := 8) C (by decide) d_Changes_doAgain_8 (fun hc1 => ?_) (fun hc1 => ?_)
  · rw [if_pos hc1] at h
    replace h := Option.some.inj h
    subst h
    exact zz_ret (pc := 53) C (v := none) d_Changes_doAgain_53 (Or.inr (Or.inr (Or.inr ⟨rfl, rfl, rfl⟩))) rfl
  · rw [if_neg hc1] at h
    refine zz_aload_n (i := 1) (pc := 11) C rfl rfl d_Changes_doAgain_11 ?_
    refine zz_aload_n (i := 0) (pc := 12) C rfl rfl d_Changes_doAgain_12 ?_
    refine zz_getR (pc := 13) C zl_2_13 zsh_39 rfl d_Changes_doAgain_13 ?_
    refine zz_aload_n (i := 0) (pc := 16) C rfl rfl d_Changes_doAgain_16 ?_
    refine zz_getI (pc := 17) C zl_2_22 zsh_39 rfl d_Changes_doAgain_17 ?_
    obtain ⟨hi2, h⟩ := zz_ckE h
    refine zz_iald (pc := 20) C rfl zsh_41 hi2 d_Changes_doAgain_20 ?_
    refine zz_cVr (as := [.int (s.1 41 ((s.1 39 0).toNatClampNeg))]) (st := []) (pc := 21) C (zm_Bed_mendable rfl) zcv_Bed_mendable zsh_1 zl_2_38 (by omega) (Nat.le_of_ble_eq_true rfl) d_Changes_doAgain_21 rfl rfl ?_
    refine zz_aload_n (i := 0) (pc := 24) C rfl rfl d_Changes_doAgain_24 ?_
    refine zz_getR (pc := 25) C zl_2_9 zsh_39 rfl d_Changes_doAgain_25 ?_
    refine zz_aload_n (i := 0) (pc := 28) C rfl rfl d_Changes_doAgain_28 ?_
    refine zz_getI (pc := 29) C zl_2_22 zsh_39 rfl d_Changes_doAgain_29 ?_
    refine zz_iald (pc := 32) C rfl zsh_40 hi2 d_Changes_doAgain_32 ?_
    refine zz_aload_n (i := 0) (pc := 33) C rfl rfl d_Changes_doAgain_33 ?_
    refine zz_getR (pc := 34) C zl_2_19 zsh_39 rfl d_Changes_doAgain_34 ?_
    refine zz_aload_n (i := 0) (pc := 37) C rfl rfl d_Changes_doAgain_37 ?_
    refine zz_getI (pc := 38) C zl_2_22 zsh_39 rfl d_Changes_doAgain_38 ?_
    refine zz_iald (pc := 41) C rfl zsh_43 hi2 d_Changes_doAgain_41 ?_
    obtain ⟨hi3, h⟩ := zz_ckE h
    refine zz_iast (pc := 42) C rfl (zS0_sh (zmem_Bed_mendable (s.1 41 ((s.1 39 0).toNatClampNeg)))) hi3 d_Changes_doAgain_42 ?_
    refine zz_aload_n (i := 0) (pc := 43) C rfl rfl d_Changes_doAgain_43 ?_
    refine zz_dup (pc := 44) C rfl d_Changes_doAgain_44 ?_
    refine zz_getI (pc := 45) C zl_2_22 zsh_39 rfl d_Changes_doAgain_45 ?_
    refine zz_iconst (pc := 48) C zki_1 d_Changes_doAgain_48 ?_
    refine zz_iadd (pc := 49) C d_Changes_doAgain_49 ?_
    refine zz_putI' (pc := 50) C zl_2_22 zpf_2_0 zsh_39 rfl d_Changes_doAgain_50 ?_
    replace h := Option.some.inj h
    subst h
    exact zz_ret (pc := 53) C (v := none) d_Changes_doAgain_53 (Or.inr (Or.inr (Or.inr ⟨rfl, rfl, rfl⟩))) rfl
theorem zm_Changes_doAgain {G : zz_G} {l : Launch} {s : zz_S} {q : zz_S} (h : f_Changes_doAgain s = some q) : zz_M G l 3 y_Changes_doAgain prog_4_method_5_code 2 (none) [.ref 39, .ref 1] zsh s (none, zsh, q) :=
  zz_M.intro (by decide) (Nat.le_of_ble_eq_true rfl) (Nat.le_refl _) (Nat.le_refl _) (fun Z C => zf_Changes_doAgain C h)
theorem d_Changes_takeBack_0 : decode prog_4_method_4_code 0 = .ok (.aload_n 0, 1) := by decide +kernel
theorem d_Changes_takeBack_1 : decode prog_4_method_4_code 1 = .ok (.getfield 22, 3) := by decide +kernel
theorem d_Changes_takeBack_4 : decode prog_4_method_4_code 4 = .ok (.ifCond .le (45), 3) := by decide +kernel
theorem d_Changes_takeBack_7 : decode prog_4_method_4_code 7 = .ok (.aload_n 0, 1) := by decide +kernel
theorem d_Changes_takeBack_8 : decode prog_4_method_4_code 8 = .ok (.dup, 1) := by decide +kernel
theorem d_Changes_takeBack_9 : decode prog_4_method_4_code 9 = .ok (.getfield 22, 3) := by decide +kernel
theorem d_Changes_takeBack_12 : decode prog_4_method_4_code 12 = .ok (.iconst 1, 1) := by decide +kernel
theorem d_Changes_takeBack_13 : decode prog_4_method_4_code 13 = .ok (.isub, 1) := by decide +kernel
theorem d_Changes_takeBack_14 : decode prog_4_method_4_code 14 = .ok (.putfield 22, 3) := by decide +kernel
theorem d_Changes_takeBack_17 : decode prog_4_method_4_code 17 = .ok (.aload_n 1, 1) := by decide +kernel
theorem d_Changes_takeBack_18 : decode prog_4_method_4_code 18 = .ok (.aload_n 0, 1) := by decide +kernel
theorem d_Changes_takeBack_19 : decode prog_4_method_4_code 19 = .ok (.getfield 13, 3) := by decide +kernel
theorem d_Changes_takeBack_22 : decode prog_4_method_4_code 22 = .ok (.aload_n 0, 1) := by decide +kernel
theorem d_Changes_takeBack_23 : decode prog_4_method_4_code 23 = .ok (.getfield 22, 3) := by decide +kernel
theorem d_Changes_takeBack_26 : decode prog_4_method_4_code 26 = .ok (.iaload, 1) := by decide +kernel
theorem d_Changes_takeBack_27 : decode prog_4_method_4_code 27 = .ok (.invokevirtual 38, 3) := by decide +kernel
theorem d_Changes_takeBack_30 : decode prog_4_method_4_code 30 = .ok (.aload_n 0, 1) := by decide +kernel
theorem d_Changes_takeBack_31 : decode prog_4_method_4_code 31 = .ok (.getfield 9, 3) := by decide +kernel
theorem d_Changes_takeBack_34 : decode prog_4_method_4_code 34 = .ok (.aload_n 0, 1) := by decide +kernel
theorem d_Changes_takeBack_35 : decode prog_4_method_4_code 35 = .ok (.getfield 22, 3) := by decide +kernel
theorem d_Changes_takeBack_38 : decode prog_4_method_4_code 38 = .ok (.iaload, 1) := by decide +kernel
theorem d_Changes_takeBack_39 : decode prog_4_method_4_code 39 = .ok (.aload_n 0, 1) := by decide +kernel
theorem d_Changes_takeBack_40 : decode prog_4_method_4_code 40 = .ok (.getfield 16, 3) := by decide +kernel
theorem d_Changes_takeBack_43 : decode prog_4_method_4_code 43 = .ok (.aload_n 0, 1) := by decide +kernel
theorem d_Changes_takeBack_44 : decode prog_4_method_4_code 44 = .ok (.getfield 22, 3) := by decide +kernel
theorem d_Changes_takeBack_47 : decode prog_4_method_4_code 47 = .ok (.iaload, 1) := by decide +kernel
theorem d_Changes_takeBack_48 : decode prog_4_method_4_code 48 = .ok (.iastore, 1) := by decide +kernel
theorem d_Changes_takeBack_49 : decode prog_4_method_4_code 49 = .ok (.return_, 1) := by decide +kernel
set_option maxHeartbeats 4000000 in
set_option maxRecDepth 100000 in
theorem zf_Changes_takeBack {G : zz_G} {l : Launch} {Z : zz_Z} {q : zz_S} {s : zz_S} (C : zz_Cx G l "OneBlanket$Changes" "takeBack" prog_4_method_4_code 2 (none) 3 (none, zsh, q) Z) (h : f_Changes_takeBack s = some q) : Z 0 [some (.ref 39), some (.ref 1)] [] zsh s := by
  unfold f_Changes_takeBack at h
  refine zz_aload_n (i := 0) (pc := 0) C rfl rfl d_Changes_takeBack_0 ?_
  refine zz_getI (pc := 1) C zl_2_22 zsh_39 rfl d_Changes_takeBack_1 ?_
  refine zz_if_le (tgt := 49) (pc := 4) C (by decide) d_Changes_takeBack_4 (fun hc1 => ?_) (fun hc1 => ?_)
  · rw [if_pos hc1] at h
    replace h := Option.some.inj h
    subst h
    exact zz_ret (pc := 49) C (v := none) d_Changes_takeBack_49 (Or.inr (Or.inr (Or.inr ⟨rfl, rfl, rfl⟩))) rfl
  · rw [if_neg hc1] at h
    refine zz_aload_n (i := 0) (pc := 7) C rfl rfl d_Changes_takeBack_7 ?_
    refine zz_dup (pc := 8) C rfl d_Changes_takeBack_8 ?_
    refine zz_getI (pc := 9) C zl_2_22 zsh_39 rfl d_Changes_takeBack_9 ?_
    refine zz_iconst (pc := 12) C zki_1 d_Changes_takeBack_12 ?_
    refine zz_isub (pc := 13) C d_Changes_takeBack_13 ?_
    refine zz_putI' (pc := 14) C zl_2_22 zpf_2_0 zsh_39 rfl d_Changes_takeBack_14 ?_
    refine zz_aload_n (i := 1) (pc := 17) C rfl rfl d_Changes_takeBack_17 ?_
    refine zz_aload_n (i := 0) (pc := 18) C rfl rfl d_Changes_takeBack_18 ?_
    refine zz_getR (pc := 19) C zl_2_13 zsh_39 rfl d_Changes_takeBack_19 ?_
    refine zz_aload_n (i := 0) (pc := 22) C rfl rfl d_Changes_takeBack_22 ?_
    refine zz_getIv (v := ((s.1 39 0) - (1 : Int32))) (pc := 23) C zl_2_22 zsh_39 rfl rfl d_Changes_takeBack_23 ?_
    obtain ⟨hi2, h⟩ := zz_ckE h
    refine zz_ialdv (v := (s.1 41 (((s.1 39 0) - (1 : Int32)).toNatClampNeg))) (pc := 26) C rfl zsh_41 hi2 rfl d_Changes_takeBack_26 ?_
    refine zz_cVr (as := [.int (s.1 41 (((s.1 39 0) - (1 : Int32)).toNatClampNeg))]) (st := []) (pc := 27) C (zm_Bed_mendable rfl) zcv_Bed_mendable zsh_1 zl_2_38 (by omega) (Nat.le_of_ble_eq_true rfl) d_Changes_takeBack_27 rfl rfl ?_
    refine zz_aload_n (i := 0) (pc := 30) C rfl rfl d_Changes_takeBack_30 ?_
    refine zz_getR (pc := 31) C zl_2_9 zsh_39 rfl d_Changes_takeBack_31 ?_
    refine zz_aload_n (i := 0) (pc := 34) C rfl rfl d_Changes_takeBack_34 ?_
    refine zz_getIv (v := ((s.1 39 0) - (1 : Int32))) (pc := 35) C zl_2_22 zsh_39 rfl rfl d_Changes_takeBack_35 ?_
    refine zz_ialdv (v := (s.1 40 (((s.1 39 0) - (1 : Int32)).toNatClampNeg))) (pc := 38) C rfl zsh_40 hi2 rfl d_Changes_takeBack_38 ?_
    refine zz_aload_n (i := 0) (pc := 39) C rfl rfl d_Changes_takeBack_39 ?_
    refine zz_getR (pc := 40) C zl_2_16 zsh_39 rfl d_Changes_takeBack_40 ?_
    refine zz_aload_n (i := 0) (pc := 43) C rfl rfl d_Changes_takeBack_43 ?_
    refine zz_getIv (v := ((s.1 39 0) - (1 : Int32))) (pc := 44) C zl_2_22 zsh_39 rfl rfl d_Changes_takeBack_44 ?_
    refine zz_ialdv (v := (s.1 42 (((s.1 39 0) - (1 : Int32)).toNatClampNeg))) (pc := 47) C rfl zsh_42 hi2 rfl d_Changes_takeBack_47 ?_
    obtain ⟨hi3, h⟩ := zz_ckE h
    refine zz_iast (pc := 48) C rfl (zS0_sh (zmem_Bed_mendable (s.1 41 (((s.1 39 0) - (1 : Int32)).toNatClampNeg)))) hi3 d_Changes_takeBack_48 ?_
    replace h := Option.some.inj h
    subst h
    exact zz_ret (pc := 49) C (v := none) d_Changes_takeBack_49 (Or.inr (Or.inr (Or.inr ⟨rfl, rfl, rfl⟩))) rfl
theorem zm_Changes_takeBack {G : zz_G} {l : Launch} {s : zz_S} {q : zz_S} (h : f_Changes_takeBack s = some q) : zz_M G l 3 y_Changes_takeBack prog_4_method_4_code 2 (none) [.ref 39, .ref 1] zsh s (none, zsh, q) :=
  zz_M.intro (by decide) (Nat.le_of_ble_eq_true rfl) (Nat.le_refl _) (Nat.le_refl _) (fun Z C => zf_Changes_takeBack C h)
theorem d_Lie_allCovers_0 : decode prog_5_method_5_code 0 = .ok (.lconst 0, 1) := by decide +kernel
theorem d_Lie_allCovers_1 : decode prog_5_method_5_code 1 = .ok (.lstore_n 1, 1) := by decide +kernel
theorem d_Lie_allCovers_2 : decode prog_5_method_5_code 2 = .ok (.iconst 0, 1) := by decide +kernel
theorem d_Lie_allCovers_3 : decode prog_5_method_5_code 3 = .ok (.istore_n 3, 1) := by decide +kernel
theorem d_Lie_allCovers_4 : decode prog_5_method_5_code 4 = .ok (.iload_n 3, 1) := by decide +kernel
theorem d_Lie_allCovers_5 : decode prog_5_method_5_code 5 = .ok (.aload_n 0, 1) := by decide +kernel
theorem d_Lie_allCovers_6 : decode prog_5_method_5_code 6 = .ok (.getfield 31, 3) := by decide +kernel
theorem d_Lie_allCovers_9 : decode prog_5_method_5_code 9 = .ok (.getfield 35, 3) := by decide +kernel
theorem d_Lie_allCovers_12 : decode prog_5_method_5_code 12 = .ok (.if_icmp .ge (18), 3) := by decide +kernel
theorem d_Lie_allCovers_15 : decode prog_5_method_5_code 15 = .ok (.lload_n 1, 1) := by decide +kernel
theorem d_Lie_allCovers_16 : decode prog_5_method_5_code 16 = .ok (.aload_n 0, 1) := by decide +kernel
theorem d_Lie_allCovers_17 : decode prog_5_method_5_code 17 = .ok (.getfield 28, 3) := by decide +kernel
theorem d_Lie_allCovers_20 : decode prog_5_method_5_code 20 = .ok (.iload_n 3, 1) := by decide +kernel
theorem d_Lie_allCovers_21 : decode prog_5_method_5_code 21 = .ok (.laload, 1) := by decide +kernel
theorem d_Lie_allCovers_22 : decode prog_5_method_5_code 22 = .ok (.lor, 1) := by decide +kernel
theorem d_Lie_allCovers_23 : decode prog_5_method_5_code 23 = .ok (.lstore_n 1, 1) := by decide +kernel
theorem d_Lie_allCovers_24 : decode prog_5_method_5_code 24 = .ok (.iinc 3 (1), 3) := by decide +kernel
theorem d_Lie_allCovers_27 : decode prog_5_method_5_code 27 = .ok (.goto (-23), 3) := by decide +kernel
theorem d_Lie_allCovers_30 : decode prog_5_method_5_code 30 = .ok (.lload_n 1, 1) := by decide +kernel
theorem d_Lie_allCovers_31 : decode prog_5_method_5_code 31 = .ok (.lreturn, 1) := by decide +kernel
set_option maxHeartbeats 4000000 in
set_option maxRecDepth 100000 in
theorem zf_Lie_allCovers_L4 {G : zz_G} {l : Launch} {Z : zz_Z} {q : Int64} {s : zz_S} (C : zz_Cx G l "OneBlanket$Lie" "allCovers" prog_5_method_5_code 4 (some .long) 2 (some (.long q), zsh, s) Z) : ∀ (n : Nat) (v1 : Int64) (v3 : Int32), f_Lie_allCovers_L4 s n v1 v3 = some q → Z 4 [some (.ref 32), some (.long v1), none, some (.int v3)] [] zsh s := by
  intro n
  induction n with
  | zero => intro v1 v3 h; rw [f_Lie_allCovers_L4] at h; cases h
  | succ n ih =>
  intro v1 v3 h
  rw [f_Lie_allCovers_L4] at h
  refine zz_iload_n (i := 3) (pc := 4) C rfl rfl d_Lie_allCovers_4 ?_
  refine zz_aload_n (i := 0) (pc := 5) C rfl rfl d_Lie_allCovers_5 ?_
  refine zz_getR (pc := 6) C zl_3_31 zsh_32 rfl d_Lie_allCovers_6 ?_
  refine zz_getI (pc := 9) C zl_3_35 zsh_1 rfl d_Lie_allCovers_9 ?_
  refine zz_icmp_ge (tgt := 30) (pc := 12) C (by decide) d_Lie_allCovers_12 (fun hc1 => ?_) (fun hc1 => ?_)
  · rw [if_pos hc1] at h
    refine zz_lload_n (i := 1) (pc := 30) C rfl rfl d_Lie_allCovers_30 ?_
    replace h := Option.some.inj h
    subst h
    exact zz_ret (pc := 31) C (v := some (.long v1)) d_Lie_allCovers_31 (Or.inr (Or.inl ⟨_, rfl, rfl, rfl⟩)) rfl
  · rw [if_neg hc1] at h
    refine zz_lload_n (i := 1) (pc := 15) C rfl rfl d_Lie_allCovers_15 ?_
    refine zz_aload_n (i := 0) (pc := 16) C rfl rfl d_Lie_allCovers_16 ?_
    refine zz_getR (pc := 17) C zl_3_28 zsh_32 rfl d_Lie_allCovers_17 ?_
    refine zz_iload_n (i := 3) (pc := 20) C rfl rfl d_Lie_allCovers_20 ?_
    obtain ⟨hi2, h⟩ := zz_ckE h
    refine zz_lald (pc := 21) C rfl zsh_38 hi2 d_Lie_allCovers_21 ?_
    refine zz_lor (pc := 22) C d_Lie_allCovers_22 ?_
    refine zz_lstore_n (i := 1) (lo' := [some (.ref 32), some (.long (v1 ||| (s.2 38 (v3.toNatClampNeg)))), none, some (.int v3)]) (pc := 23) C rfl (Nat.le_of_ble_eq_true rfl) rfl rfl d_Lie_allCovers_23 ?_
    refine zz_iinc (lo' := [some (.ref 32), some (.long (v1 ||| (s.2 38 (v3.toNatClampNeg)))), none, some (.int (v3 + (1 : Int32)))]) (pc := 24) C rfl (zz_inc zki_1) rfl rfl d_Lie_allCovers_24 ?_
    refine zz_goto (tgt := 4) (pc := 27) C (by decide) d_Lie_allCovers_27 ?_
    exact ih (v1 ||| (s.2 38 (v3.toNatClampNeg))) (v3 + (1 : Int32)) h
set_option maxHeartbeats 4000000 in
set_option maxRecDepth 100000 in
theorem zf_Lie_allCovers {G : zz_G} {l : Launch} {Z : zz_Z} {q : Int64} {s : zz_S} (C : zz_Cx G l "OneBlanket$Lie" "allCovers" prog_5_method_5_code 4 (some .long) 2 (some (.long q), zsh, s) Z) (h : f_Lie_allCovers s = some q) : Z 0 [some (.ref 32), none, none, none] [] zsh s := by
  unfold f_Lie_allCovers at h
  refine zz_lconst (pc := 0) C zkl_0 d_Lie_allCovers_0 ?_
  refine zz_lstore_n (i := 1) (lo' := [some (.ref 32), some (.long (0 : Int64)), none, none]) (pc := 1) C rfl (Nat.le_of_ble_eq_true rfl) rfl rfl d_Lie_allCovers_1 ?_
  refine zz_iconst (pc := 2) C zki_0 d_Lie_allCovers_2 ?_
  refine zz_istore_n (i := 3) (lo' := [some (.ref 32), some (.long (0 : Int64)), none, some (.int (0 : Int32))]) (pc := 3) C rfl (Nat.le_of_ble_eq_true rfl) rfl rfl d_Lie_allCovers_3 ?_
  exact zf_Lie_allCovers_L4 C zF (0 : Int64) (0 : Int32) h
theorem zm_Lie_allCovers {G : zz_G} {l : Launch} {s : zz_S} {q : Int64} (h : f_Lie_allCovers s = some q) : zz_M G l 2 y_Lie_allCovers prog_5_method_5_code 4 (some .long) [.ref 32] zsh s (some (.long q), zsh, s) :=
  zz_M.intro (by decide) (Nat.le_of_ble_eq_true rfl) (Nat.le_refl _) (Nat.le_refl _) (fun Z C => zf_Lie_allCovers C h)
