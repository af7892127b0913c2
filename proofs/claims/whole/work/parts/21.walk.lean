theorem d_Lie_moveCover_0 : decode prog_5_method_3_code 0 = .ok (.aload_n 0, 1) := by decide +kernel
theorem d_Lie_moveCover_1 : decode prog_5_method_3_code 1 = .ok (.getfield 21, 3) := by decide +kernel
theorem d_Lie_moveCover_4 : decode prog_5_method_3_code 4 = .ok (.iload_n 1, 1) := by decide +kernel
theorem d_Lie_moveCover_5 : decode prog_5_method_3_code 5 = .ok (.dup2, 1) := by decide +kernel
theorem d_Lie_moveCover_6 : decode prog_5_method_3_code 6 = .ok (.iaload, 1) := by decide +kernel
theorem d_Lie_moveCover_7 : decode prog_5_method_3_code 7 = .ok (.iload_n 2, 1) := by decide +kernel
theorem d_Lie_moveCover_8 : decode prog_5_method_3_code 8 = .ok (.iadd, 1) := by decide +kernel
theorem d_Lie_moveCover_9 : decode prog_5_method_3_code 9 = .ok (.iastore, 1) := by decide +kernel
theorem d_Lie_moveCover_10 : decode prog_5_method_3_code 10 = .ok (.aload_n 0, 1) := by decide +kernel
theorem d_Lie_moveCover_11 : decode prog_5_method_3_code 11 = .ok (.getfield 28, 3) := by decide +kernel
theorem d_Lie_moveCover_14 : decode prog_5_method_3_code 14 = .ok (.iload_n 1, 1) := by decide +kernel
theorem d_Lie_moveCover_15 : decode prog_5_method_3_code 15 = .ok (.aload_n 0, 1) := by decide +kernel
theorem d_Lie_moveCover_16 : decode prog_5_method_3_code 16 = .ok (.getfield 31, 3) := by decide +kernel
theorem d_Lie_moveCover_19 : decode prog_5_method_3_code 19 = .ok (.aload_n 0, 1) := by decide +kernel
theorem d_Lie_moveCover_20 : decode prog_5_method_3_code 20 = .ok (.getfield 21, 3) := by decide +kernel
theorem d_Lie_moveCover_23 : decode prog_5_method_3_code 23 = .ok (.iload_n 1, 1) := by decide +kernel
theorem d_Lie_moveCover_24 : decode prog_5_method_3_code 24 = .ok (.iaload, 1) := by decide +kernel
theorem d_Lie_moveCover_25 : decode prog_5_method_3_code 25 = .ok (.aload_n 0, 1) := by decide +kernel
theorem d_Lie_moveCover_26 : decode prog_5_method_3_code 26 = .ok (.getfield 31, 3) := by decide +kernel
theorem d_Lie_moveCover_29 : decode prog_5_method_3_code 29 = .ok (.getfield 63, 3) := by decide +kernel
theorem d_Lie_moveCover_32 : decode prog_5_method_3_code 32 = .ok (.iload_n 1, 1) := by decide +kernel
theorem d_Lie_moveCover_33 : decode prog_5_method_3_code 33 = .ok (.iaload, 1) := by decide +kernel
theorem d_Lie_moveCover_34 : decode prog_5_method_3_code 34 = .ok (.invokevirtual 66, 3) := by decide +kernel
theorem d_Lie_moveCover_37 : decode prog_5_method_3_code 37 = .ok (.lastore, 1) := by decide +kernel
theorem d_Lie_moveCover_38 : decode prog_5_method_3_code 38 = .ok (.return_, 1) := by decide +kernel
set_option maxHeartbeats 4000000 in
set_option maxRecDepth 100000 in
theorem zf_Lie_moveCover {G : zz_G} {l : Launch} {Z : zz_Z} {q : zz_S} {s : zz_S} (C : zz_Cx G l "OneBlanket$Lie" "moveCover" prog_5_method_3_code 3 (none) 3 (none, zsh, q) Z) (a1 : Int32) (a2 : Int32) (h : f_Lie_moveCover a1 a2 s = some q) : Z 0 [some (.ref 32), some (.int a1), some (.int a2)] [] zsh s := by
  unfold f_Lie_moveCover at h
  refine zz_aload_n (i := 0) (pc := 0) C rfl rfl d_Lie_moveCover_0 ?_
  refine zz_getR (pc := 1) C zl_3_21 zsh_32 rfl d_Lie_moveCover_1 ?_
  refine zz_iload_n (i := 1) (pc := 4) C rfl rfl d_Lie_moveCover_4 ?_
  refine zz_dup2 (pc := 5) C rfl rfl d_Lie_moveCover_5 ?_
  obtain ⟨hi1, h⟩ := zz_ckE h
  refine zz_iald (pc := 6) C rfl zsh_36 hi1 d_Lie_moveCover_6 ?_
  refine zz_iload_n (i := 2) (pc := 7) C rfl rfl d_Lie_moveCover_7 ?_
  refine zz_iadd (pc := 8) C d_Lie_moveCover_8 ?_
  refine zz_iast (pc := 9) C rfl zsh_36 hi1 d_Lie_moveCover_9 ?_
  refine zz_aload_n (i := 0) (pc := 10) C rfl rfl d_Lie_moveCover_10 ?_
  refine zz_getR (pc := 11) C zl_3_28 zsh_32 rfl d_Lie_moveCover_11 ?_
  refine zz_iload_n (i := 1) (pc := 14) C rfl rfl d_Lie_moveCover_14 ?_
  refine zz_aload_n (i := 0) (pc := 15) C rfl rfl d_Lie_moveCover_15 ?_
  refine zz_getR (pc := 16) C zl_3_31 zsh_32 rfl d_Lie_moveCover_16 ?_
  refine zz_aload_n (i := 0) (pc := 19) C rfl rfl d_Lie_moveCover_19 ?_
  refine zz_getR (pc := 20) C zl_3_21 zsh_32 rfl d_Lie_moveCover_20 ?_
  refine zz_iload_n (i := 1) (pc := 23) C rfl rfl d_Lie_moveCover_23 ?_
  refine zz_iald (pc := 24) C rfl zsh_36 hi1 d_Lie_moveCover_24 ?_
  refine zz_aload_n (i := 0) (pc := 25) C rfl rfl d_Lie_moveCover_25 ?_
  refine zz_getR (pc := 26) C zl_3_31 zsh_32 rfl d_Lie_moveCover_26 ?_
  refine zz_getR (pc := 29) C zl_3_63 zsh_1 rfl d_Lie_moveCover_29 ?_
  refine zz_iload_n (i := 1) (pc := 32) C rfl rfl d_Lie_moveCover_32 ?_
  refine zz_ialdv (v := (s.1 7 (a1.toNatClampNeg))) (pc := 33) C rfl zsh_7 hi1 rfl d_Lie_moveCover_33 ?_
  refine zz_cVl (as := [.int ((zz_w s 36 (a1.toNatClampNeg) ((s.1 36 (a1.toNatClampNeg)) + a2)).1 36 (a1.toNatClampNeg)), .int (s.1 7 (a1.toNatClampNeg))]) (st := [.int a1, .ref 38]) (pc := 34) C (zm_Bed_bitsOf rfl) zcv_Bed_bitsOf zsh_1 zl_3_66 (by omega) (Nat.le_of_ble_eq_true rfl) d_Lie_moveCover_34 rfl rfl ?_
  refine zz_last (pc := 37) C rfl zsh_38 hi1 d_Lie_moveCover_37 ?_
  replace h := Option.some.inj h
  subst h
  exact zz_ret (pc := 38) C (v := none) d_Lie_moveCover_38 (Or.inr (Or.inr (Or.inr ⟨rfl, rfl, rfl⟩))) rfl
theorem zm_Lie_moveCover {G : zz_G} {l : Launch} {s : zz_S} {q : zz_S} {a1 : Int32} {a2 : Int32} (h : f_Lie_moveCover a1 a2 s = some q) : zz_M G l 3 y_Lie_moveCover prog_5_method_3_code 3 (none) [.ref 32, .int a1, .int a2] zsh s (none, zsh, q) :=
  zz_M.intro (by decide) (Nat.le_of_ble_eq_true rfl) (Nat.le_refl _) (Nat.le_refl _) (fun Z C => zf_Lie_moveCover C a1 a2 h)
theorem d_Lie_moveSleeper_0 : decode prog_5_method_4_code 0 = .ok (.aload_n 0, 1) := by decide +kernel
theorem d_Lie_moveSleeper_1 : decode prog_5_method_4_code 1 = .ok (.getfield 9, 3) := by decide +kernel
theorem d_Lie_moveSleeper_4 : decode prog_5_method_4_code 4 = .ok (.iload_n 1, 1) := by decide +kernel
theorem d_Lie_moveSleeper_5 : decode prog_5_method_4_code 5 = .ok (.aload_n 0, 1) := by decide +kernel
theorem d_Lie_moveSleeper_6 : decode prog_5_method_4_code 6 = .ok (.getfield 31, 3) := by decide +kernel
theorem d_Lie_moveSleeper_9 : decode prog_5_method_4_code 9 = .ok (.iload_n 1, 1) := by decide +kernel
theorem d_Lie_moveSleeper_10 : decode prog_5_method_4_code 10 = .ok (.aload_n 0, 1) := by decide +kernel
theorem d_Lie_moveSleeper_11 : decode prog_5_method_4_code 11 = .ok (.getfield 9, 3) := by decide +kernel
theorem d_Lie_moveSleeper_14 : decode prog_5_method_4_code 14 = .ok (.iload_n 1, 1) := by decide +kernel
theorem d_Lie_moveSleeper_15 : decode prog_5_method_4_code 15 = .ok (.iaload, 1) := by decide +kernel
theorem d_Lie_moveSleeper_16 : decode prog_5_method_4_code 16 = .ok (.iload_n 2, 1) := by decide +kernel
theorem d_Lie_moveSleeper_17 : decode prog_5_method_4_code 17 = .ok (.iadd, 1) := by decide +kernel
theorem d_Lie_moveSleeper_18 : decode prog_5_method_4_code 18 = .ok (.invokevirtual 70, 3) := by decide +kernel
theorem d_Lie_moveSleeper_21 : decode prog_5_method_4_code 21 = .ok (.iastore, 1) := by decide +kernel
theorem d_Lie_moveSleeper_22 : decode prog_5_method_4_code 22 = .ok (.aload_n 0, 1) := by decide +kernel
theorem d_Lie_moveSleeper_23 : decode prog_5_method_4_code 23 = .ok (.getfield 24, 3) := by decide +kernel
theorem d_Lie_moveSleeper_26 : decode prog_5_method_4_code 26 = .ok (.iload_n 1, 1) := by decide +kernel
theorem d_Lie_moveSleeper_27 : decode prog_5_method_4_code 27 = .ok (.aload_n 0, 1) := by decide +kernel
theorem d_Lie_moveSleeper_28 : decode prog_5_method_4_code 28 = .ok (.getfield 31, 3) := by decide +kernel
theorem d_Lie_moveSleeper_31 : decode prog_5_method_4_code 31 = .ok (.aload_n 0, 1) := by decide +kernel
theorem d_Lie_moveSleeper_32 : decode prog_5_method_4_code 32 = .ok (.getfield 9, 3) := by decide +kernel
theorem d_Lie_moveSleeper_35 : decode prog_5_method_4_code 35 = .ok (.iload_n 1, 1) := by decide +kernel
theorem d_Lie_moveSleeper_36 : decode prog_5_method_4_code 36 = .ok (.iaload, 1) := by decide +kernel
theorem d_Lie_moveSleeper_37 : decode prog_5_method_4_code 37 = .ok (.aload_n 0, 1) := by decide +kernel
theorem d_Lie_moveSleeper_38 : decode prog_5_method_4_code 38 = .ok (.getfield 31, 3) := by decide +kernel
theorem d_Lie_moveSleeper_41 : decode prog_5_method_4_code 41 = .ok (.getfield 74, 3) := by decide +kernel
theorem d_Lie_moveSleeper_44 : decode prog_5_method_4_code 44 = .ok (.iload_n 1, 1) := by decide +kernel
theorem d_Lie_moveSleeper_45 : decode prog_5_method_4_code 45 = .ok (.iaload, 1) := by decide +kernel
theorem d_Lie_moveSleeper_46 : decode prog_5_method_4_code 46 = .ok (.invokevirtual 66, 3) := by decide +kernel
theorem d_Lie_moveSleeper_49 : decode prog_5_method_4_code 49 = .ok (.lastore, 1) := by decide +kernel
theorem d_Lie_moveSleeper_50 : decode prog_5_method_4_code 50 = .ok (.return_, 1) := by decide +kernel
set_option maxHeartbeats 4000000 in
set_option maxRecDepth 100000 in
theorem zf_Lie_moveSleeper {G : zz_G} {l : Launch} {Z : zz_Z} {q : zz_S} {s : zz_S} (C : zz_Cx G l "OneBlanket$Lie" "moveSleeper" prog_5_method_4_code 3 (none) 3 (none, zsh, q) Z) (a1 : Int32) (a2 : Int32) (h : f_Lie_moveSleeper a1 a2 s = some q) : Z 0 [some (.ref 32), some (.int a1), some (.int a2)] [] zsh s := by
  unfold f_Lie_moveSleeper at h
  refine zz_aload_n (i := 0) (pc := 0) C rfl rfl d_Lie_moveSleeper_0 ?_
  refine zz_getR (pc := 1) C zl_3_9 zsh_32 rfl d_Lie_moveSleeper_1 ?_
  refine zz_iload_n (i := 1) (pc := 4) C rfl rfl d_Lie_moveSleeper_4 ?_
  refine zz_aload_n (i := 0) (pc := 5) C rfl rfl d_Lie_moveSleeper_5 ?_
  refine zz_getR (pc := 6) C zl_3_31 zsh_32 rfl d_Lie_moveSleeper_6 ?_
  refine zz_iload_n (i := 1) (pc := 9) C rfl rfl d_Lie_moveSleeper_9 ?_
  refine zz_aload_n (i := 0) (pc := 10) C rfl rfl d_Lie_moveSleeper_10 ?_
  refine zz_getR (pc := 11) C zl_3_9 zsh_32 rfl d_Lie_moveSleeper_11 ?_
  refine zz_iload_n (i := 1) (pc := 14) C rfl rfl d_Lie_moveSleeper_14 ?_
  obtain ⟨hi1, h⟩ := zz_ckE h
  refine zz_iald (pc := 15) C rfl zsh_33 hi1 d_Lie_moveSleeper_15 ?_
  refine zz_iload_n (i := 2) (pc := 16) C rfl rfl d_Lie_moveSleeper_16 ?_
  refine zz_iadd (pc := 17) C d_Lie_moveSleeper_17 ?_
  obtain ⟨q2, hq2, h⟩ := zz_bdE h
  refine zz_cVi (as := [.int a1, .int ((s.1 33 (a1.toNatClampNeg)) + a2)]) (st := [.int a1, .ref 33]) (pc := 18) C (zm_Bed_heldWithin hq2) zcv_Bed_heldWithin zsh_1 zl_3_70 (by omega) (Nat.le_of_ble_eq_true rfl) d_Lie_moveSleeper_18 rfl rfl ?_
  refine zz_iast (pc := 21) C rfl zsh_33 hi1 d_Lie_moveSleeper_21 ?_
  refine zz_aload_n (i := 0) (pc := 22) C rfl rfl d_Lie_moveSleeper_22 ?_
  refine zz_getR (pc := 23) C zl_3_24 zsh_32 rfl d_Lie_moveSleeper_23 ?_
  refine zz_iload_n (i := 1) (pc := 26) C rfl rfl d_Lie_moveSleeper_26 ?_
  refine zz_aload_n (i := 0) (pc := 27) C rfl rfl d_Lie_moveSleeper_27 ?_
  refine zz_getR (pc := 28) C zl_3_31 zsh_32 rfl d_Lie_moveSleeper_28 ?_
  refine zz_aload_n (i := 0) (pc := 31) C rfl rfl d_Lie_moveSleeper_31 ?_
  refine zz_getR (pc := 32) C zl_3_9 zsh_32 rfl d_Lie_moveSleeper_32 ?_
  refine zz_iload_n (i := 1) (pc := 35) C rfl rfl d_Lie_moveSleeper_35 ?_
  refine zz_iald (pc := 36) C rfl zsh_33 hi1 d_Lie_moveSleeper_36 ?_
  refine zz_aload_n (i := 0) (pc := 37) C rfl rfl d_Lie_moveSleeper_37 ?_
  refine zz_getR (pc := 38) C zl_3_31 zsh_32 rfl d_Lie_moveSleeper_38 ?_
  refine zz_getR (pc := 41) C zl_3_74 zsh_1 rfl d_Lie_moveSleeper_41 ?_
  refine zz_iload_n (i := 1) (pc := 44) C rfl rfl d_Lie_moveSleeper_44 ?_
  refine zz_ialdv (v := (s.1 3 (a1.toNatClampNeg))) (pc := 45) C rfl zsh_3 hi1 rfl d_Lie_moveSleeper_45 ?_
  refine zz_cVl (as := [.int ((zz_w s 33 (a1.toNatClampNeg) q2).1 33 (a1.toNatClampNeg)), .int (s.1 3 (a1.toNatClampNeg))]) (st := [.int a1, .ref 37]) (pc := 46) C (zm_Bed_bitsOf rfl) zcv_Bed_bitsOf zsh_1 zl_3_66 (by omega) (Nat.le_of_ble_eq_true rfl) d_Lie_moveSleeper_46 rfl rfl ?_
  refine zz_last (pc := 49) C rfl zsh_37 hi1 d_Lie_moveSleeper_49 ?_
  replace h := Option.some.inj h
  subst h
  exact zz_ret (pc := 50) C (v := none) d_Lie_moveSleeper_50 (Or.inr (Or.inr (Or.inr ⟨rfl, rfl, rfl⟩))) rfl
theorem zm_Lie_moveSleeper {G : zz_G} {l : Launch} {s : zz_S} {q : zz_S} {a1 : Int32} {a2 : Int32} (h : f_Lie_moveSleeper a1 a2 s = some q) : zz_M G l 3 y_Lie_moveSleeper prog_5_method_4_code 3 (none) [.ref 32, .int a1, .int a2] zsh s (none, zsh, q) :=
  zz_M.intro (by decide) (Nat.le_of_ble_eq_true rfl) (Nat.le_refl _) (Nat.le_refl _) (fun Z C => zf_Lie_moveSleeper C a1 a2 h)
theorem d_Long_bitCount_0 : decode prog_16_method_50_code 0 = .ok (.lload_n 0, 1) := by decide +kernel
theorem d_Long_bitCount_1 : decode prog_16_method_50_code 1 = .ok (.lload_n 0, 1) := by decide +kernel
theorem d_Long_bitCount_2 : decode prog_16_method_50_code 2 = .ok (.iconst 1, 1) := by decide +kernel
theorem d_Long_bitCount_3 : decode prog_16_method_50_code 3 = .ok (.lushr, 1) := by decide +kernel
theorem d_Long_bitCount_4 : decode prog_16_method_50_code 4 = .ok (.ldc2_w 314, 3) := by decide +kernel
theorem d_Long_bitCount_7 : decode prog_16_method_50_code 7 = .ok (.land, 1) := by decide +kernel
theorem d_Long_bitCount_8 : decode prog_16_method_50_code 8 = .ok (.lsub, 1) := by decide +kernel
theorem d_Long_bitCount_9 : decode prog_16_method_50_code 9 = .ok (.lstore_n 0, 1) := by decide +kernel
theorem d_Long_bitCount_10 : decode prog_16_method_50_code 10 = .ok (.lload_n 0, 1) := by decide +kernel
theorem d_Long_bitCount_11 : decode prog_16_method_50_code 11 = .ok (.ldc2_w 316, 3) := by decide +kernel
theorem d_Long_bitCount_14 : decode prog_16_method_50_code 14 = .ok (.land, 1) := by decide +kernel
theorem d_Long_bitCount_15 : decode prog_16_method_50_code 15 = .ok (.lload_n 0, 1) := by decide +kernel
theorem d_Long_bitCount_16 : decode prog_16_method_50_code 16 = .ok (.iconst 2, 1) := by decide +kernel
theorem d_Long_bitCount_17 : decode prog_16_method_50_code 17 = .ok (.lushr, 1) := by decide +kernel
theorem d_Long_bitCount_18 : decode prog_16_method_50_code 18 = .ok (.ldc2_w 316, 3) := by decide +kernel
theorem d_Long_bitCount_21 : decode prog_16_method_50_code 21 = .ok (.land, 1) := by decide +kernel
theorem d_Long_bitCount_22 : decode prog_16_method_50_code 22 = .ok (.ladd, 1) := by decide +kernel
theorem d_Long_bitCount_23 : decode prog_16_method_50_code 23 = .ok (.lstore_n 0, 1) := by decide +kernel
theorem d_Long_bitCount_24 : decode prog_16_method_50_code 24 = .ok (.lload_n 0, 1) := by decide +kernel
theorem d_Long_bitCount_25 : decode prog_16_method_50_code 25 = .ok (.lload_n 0, 1) := by decide +kernel
theorem d_Long_bitCount_26 : decode prog_16_method_50_code 26 = .ok (.iconst 4, 1) := by decide +kernel
theorem d_Long_bitCount_27 : decode prog_16_method_50_code 27 = .ok (.lushr, 1) := by decide +kernel
theorem d_Long_bitCount_28 : decode prog_16_method_50_code 28 = .ok (.ladd, 1) := by decide +kernel
theorem d_Long_bitCount_29 : decode prog_16_method_50_code 29 = .ok (.ldc2_w 318, 3) := by decide +kernel
theorem d_Long_bitCount_32 : decode prog_16_method_50_code 32 = .ok (.land, 1) := by decide +kernel
theorem d_Long_bitCount_33 : decode prog_16_method_50_code 33 = .ok (.lstore_n 0, 1) := by decide +kernel
theorem d_Long_bitCount_34 : decode prog_16_method_50_code 34 = .ok (.lload_n 0, 1) := by decide +kernel
theorem d_Long_bitCount_35 : decode prog_16_method_50_code 35 = .ok (.lload_n 0, 1) := by decide +kernel
theorem d_Long_bitCount_36 : decode prog_16_method_50_code 36 = .ok (.bipush (8), 2) := by decide +kernel
theorem d_Long_bitCount_38 : decode prog_16_method_50_code 38 = .ok (.lushr, 1) := by decide +kernel
theorem d_Long_bitCount_39 : decode prog_16_method_50_code 39 = .ok (.ladd, 1) := by decide +kernel
theorem d_Long_bitCount_40 : decode prog_16_method_50_code 40 = .ok (.lstore_n 0, 1) := by decide +kernel
theorem d_Long_bitCount_41 : decode prog_16_method_50_code 41 = .ok (.lload_n 0, 1) := by decide +kernel
theorem d_Long_bitCount_42 : decode prog_16_method_50_code 42 = .ok (.lload_n 0, 1) := by decide +kernel
theorem d_Long_bitCount_43 : decode prog_16_method_50_code 43 = .ok (.bipush (16), 2) := by decide +kernel
theorem d_Long_bitCount_45 : decode prog_16_method_50_code 45 = .ok (.lushr, 1) := by decide +kernel
theorem d_Long_bitCount_46 : decode prog_16_method_50_code 46 = .ok (.ladd, 1) := by decide +kernel
theorem d_Long_bitCount_47 : decode prog_16_method_50_code 47 = .ok (.lstore_n 0, 1) := by decide +kernel
theorem d_Long_bitCount_48 : decode prog_16_method_50_code 48 = .ok (.lload_n 0, 1) := by decide +kernel
theorem d_Long_bitCount_49 : decode prog_16_method_50_code 49 = .ok (.lload_n 0, 1) := by decide +kernel
theorem d_Long_bitCount_50 : decode prog_16_method_50_code 50 = .ok (.bipush (32), 2) := by decide +kernel
theorem d_Long_bitCount_52 : decode prog_16_method_50_code 52 = .ok (.lushr, 1) := by decide +kernel
theorem d_Long_bitCount_53 : decode prog_16_method_50_code 53 = .ok (.ladd, 1) := by decide +kernel
theorem d_Long_bitCount_54 : decode prog_16_method_50_code 54 = .ok (.lstore_n 0, 1) := by decide +kernel
theorem d_Long_bitCount_55 : decode prog_16_method_50_code 55 = .ok (.lload_n 0, 1) := by decide +kernel
theorem d_Long_bitCount_56 : decode prog_16_method_50_code 56 = .ok (.l2i, 1) := by decide +kernel
theorem d_Long_bitCount_57 : decode prog_16_method_50_code 57 = .ok (.bipush (127), 2) := by decide +kernel
theorem d_Long_bitCount_59 : decode prog_16_method_50_code 59 = .ok (.iand, 1) := by decide +kernel
theorem d_Long_bitCount_60 : decode prog_16_method_50_code 60 = .ok (.ireturn, 1) := by decide +kernel
set_option maxHeartbeats 4000000 in
set_option maxRecDepth 100000 in
theorem zf_Long_bitCount {G : zz_G} {l : Launch} {Z : zz_Z} {sh : List zz_Sh} {q : Int32} {s : zz_S} (C : zz_Cx G l "java/lang/Long" "bitCount" prog_16_method_50_code 2 (some .int) 2 (some (.int q), sh, s) Z) (a0 : Int64) (h : f_Long_bitCount a0 = q) : Z 0 [some (.long a0), none] [] sh s := by
  unfold f_Long_bitCount at h
  refine zz_lload_n (i := 0) (pc := 0) C rfl rfl d_Long_bitCount_0 ?_
  refine zz_lload_n (i := 0) (pc := 1) C rfl rfl d_Long_bitCount_1 ?_
  refine zz_iconst (pc := 2) C zki_1 d_Long_bitCount_2 ?_
  refine zz_lushr (pc := 3) C d_Long_bitCount_3 ?_
  refine zz_ldc2 (pc := 4) C zl_Long_314 d_Long_bitCount_4 ?_
  refine zz_land (pc := 7) C d_Long_bitCount_7 ?_
  refine zz_lsub (pc := 8) C d_Long_bitCount_8 ?_
  refine zz_lstore_n (i := 0) (lo' := [some (.long (a0 - (((a0.toUInt64 >>> ((1 : Int32).toInt64.toUInt64 &&& Int64.toUInt64 63)).toInt64) &&& (6148914691236517205 : Int64)))), none]) (pc := 9) C rfl (Nat.le_of_ble_eq_true rfl) rfl rfl d_Long_bitCount_9 ?_
  refine zz_lload_n (i := 0) (pc := 10) C rfl rfl d_Long_bitCount_10 ?_
  refine zz_ldc2 (pc := 11) C zl_Long_316 d_Long_bitCount_11 ?_
  refine zz_land (pc := 14) C d_Long_bitCount_14 ?_
  refine zz_lload_n (i := 0) (pc := 15) C rfl rfl d_Long_bitCount_15 ?_
  refine zz_iconst (pc := 16) C zki_2 d_Long_bitCount_16 ?_
  refine zz_lushr (pc := 17) C d_Long_bitCount_17 ?_
  refine zz_ldc2 (pc := 18) C zl_Long_316 d_Long_bitCount_18 ?_
  refine zz_land (pc := 21) C d_Long_bitCount_21 ?_
  refine zz_ladd (pc := 22) C d_Long_bitCount_22 ?_
  refine zz_lstore_n (i := 0) (lo' := [some (.long (((a0 - (((a0.toUInt64 >>> ((1 : Int32).toInt64.toUInt64 &&& Int64.toUInt64 63)).toInt64) &&& (6148914691236517205 : Int64))) &&& (3689348814741910323 : Int64)) + ((((a0 - (((a0.toUInt64 >>> ((1 : Int32).toInt64.toUInt64 &&& Int64.toUInt64 63)).toInt64) &&& (6148914691236517205 : Int64))).toUInt64 >>> ((2 : Int32).toInt64.toUInt64 &&& Int64.toUInt64 63)).toInt64) &&& (3689348814741910323 : Int64)))), none]) (pc := 23) C rfl (Nat.le_of_ble_eq_true rfl) rfl rfl d_Long_bitCount_23 ?_
  refine zz_lload_n (i := 0) (pc := 24) C rfl rfl d_Long_bitCount_24 ?_
  refine zz_lload_n (i := 0) (pc := 25) C rfl rfl d_Long_bitCount_25 ?_
  refine zz_iconst (pc := 26) C zki_4 d_Long_bitCount_26 ?_
  refine zz_lushr (pc := 27) C d_Long_bitCount_27 ?_
  refine zz_ladd (pc := 28) C d_Long_bitCount_28 ?_
  refine zz_ldc2 (pc := 29) C zl_Long_318 d_Long_bitCount_29 ?_
  refine zz_land (pc := 32) C d_Long_bitCount_32 ?_
  refine zz_lstore_n (i := 0) (lo' := [some (.long (((((a0 - (((a0.toUInt64 >>> ((1 : Int32).toInt64.toUInt64 &&& Int64.toUInt64 63)).toInt64) &&& (6148914691236517205 : Int64))) &&& (3689348814741910323 : Int64)) + ((((a0 - (((a0.toUInt64 >>> ((1 : Int32).toInt64.toUInt64 &&& Int64.toUInt64 63)).toInt64) &&& (6148914691236517205 : Int64))).toUInt64 >>> ((2 : Int32).toInt64.toUInt64 &&& Int64.toUInt64 63)).toInt64) &&& (3689348814741910323 : Int64))) + (((((a0 - (((a0.toUInt64 >>> ((1 : Int32).toInt64.toUInt64 &&& Int64.toUInt64 63)).toInt64) &&& (6148914691236517205 : Int64))) &&& (3689348814741910323 : Int64)) + ((((a0 - (((a0.toUInt64 >>> ((1 : Int32).toInt64.toUInt64 &&& Int64.toUInt64 63)).toInt64) &&& (6148914691236517205 : Int64))).toUInt64 >>> ((2 : Int32).toInt64.toUInt64 &&& Int64.toUInt64 63)).toInt64) &&& (3689348814741910323 : Int64))).toUInt64 >>> ((4 : Int32).toInt64.toUInt64 &&& Int64.toUInt64 63)).toInt64)) &&& (1085102592571150095 : Int64))), none]) (pc := 33) C rfl (Nat.le_of_ble_eq_true rfl) rfl rfl d_Long_bitCount_33 ?_
  refine zz_lload_n (i := 0) (pc := 34) C rfl rfl d_Long_bitCount_34 ?_
  refine zz_lload_n (i := 0) (pc := 35) C rfl rfl d_Long_bitCount_35 ?_
  refine zz_bipush (pc := 36) C zkb_8 d_Long_bitCount_36 ?_
  refine zz_lushr (pc := 38) C d_Long_bitCount_38 ?_
  refine zz_ladd (pc := 39) C d_Long_bitCount_39 ?_
  refine zz_lstore_n (i := 0) (lo' := [some (.long ((((((a0 - (((a0.toUInt64 >>> ((1 : Int32).toInt64.toUInt64 &&& Int64.toUInt64 63)).toInt64) &&& (6148914691236517205 : Int64))) &&& (3689348814741910323 : Int64)) + ((((a0 - (((a0.toUInt64 >>> ((1 : Int32).toInt64.toUInt64 &&& Int64.toUInt64 63)).toInt64) &&& (6148914691236517205 : Int64))).toUInt64 >>> ((2 : Int32).toInt64.toUInt64 &&& Int64.toUInt64 63)).toInt64) &&& (3689348814741910323 : Int64))) + (((((a0 - (((a0.toUInt64 >>> ((1 : Int32).toInt64.toUInt64 &&& Int64.toUInt64 63)).toInt64) &&& (6148914691236517205 : Int64))) &&& (3689348814741910323 : Int64)) + ((((a0 - (((a0.toUInt64 >>> ((1 : Int32).toInt64.toUInt64 &&& Int64.toUInt64 63)).toInt64) &&& (6148914691236517205 : Int64))).toUInt64 >>> ((2 : Int32).toInt64.toUInt64 &&& Int64.toUInt64 63)).toInt64) &&& (3689348814741910323 : Int64))).toUInt64 >>> ((4 : Int32).toInt64.toUInt64 &&& Int64.toUInt64 63)).toInt64)) &&& (1085102592571150095 : Int64)) + (((((((a0 - (((a0.toUInt64 >>> ((1 : Int32).toInt64.toUInt64 &&& Int64.toUInt64 63)).toInt64) &&& (6148914691236517205 : Int64))) &&& (3689348814741910323 : Int64)) + ((((a0 - (((a0.toUInt64 >>> ((1 : Int32).toInt64.toUInt64 &&& Int64.toUInt64 63)).toInt64) &&& (6148914691236517205 : Int64))).toUInt64 >>> ((2 : Int32).toInt64.toUInt64 &&& Int64.toUInt64 63)).toInt64) &&& (3689348814741910323 : Int64))) + (((((a0 - (((a0.toUInt64 >>> ((1 : Int32).toInt64.toUInt64 &&& Int64.toUInt64 63)).toInt64) &&& (6148914691236517205 : Int64))) &&& (3689348814741910323 : Int64)) + ((((a0 - (((a0.toUInt64 >>> ((1 : Int32).toInt64.toUInt64 &&& Int64.toUInt64 63)).toInt64) &&& (6148914691236517205 : Int64))).toUInt64 >>> ((2 : Int32).toInt64.toUInt64 &&& Int64.toUInt64 63)).toInt64) &&& (3689348814741910323 : Int64))).toUInt64 >>> ((4 : Int32).toInt64.toUInt64 &&& Int64.toUInt64 63)).toInt64)) &&& (1085102592571150095 : Int64)).toUInt64 >>> ((8 : Int32).toInt64.toUInt64 &&& Int64.toUInt64 63)).toInt64))), none]) (pc := 40) C rfl (Nat.le_of_ble_eq_true rfl) rfl rfl d_Long_bitCount_40 ?_
  refine zz_lload_n (i := 0) (pc := 41) C rfl rfl d_Long_bitCount_41 ?_
  refine zz_lload_n (i := 0) (pc := 42) C rfl rfl d_Long_bitCount_42 ?_
  refine zz_bipush (pc := 43) C zkb_16 d_Long_bitCount_43 ?_
  refine zz_lushr (pc := 45) C d_Long_bitCount_45 ?_
  refine zz_ladd (pc := 46) C d_Long_bitCount_46 ?_
  refine zz_lstore_n (i := 0) (lo' := [some (.long (((((((a0 - (((a0.toUInt64 >>> ((1 : Int32).toInt64.toUInt64 &&& Int64.toUInt64 63)).toInt64) &&& (6148914691236517205 : Int64))) &&& (3689348814741910323 : Int64)) + ((((a0 - (((a0.toUInt64 >>> ((1 : Int32).toInt64.toUInt64 &&& Int64.toUInt64 63)).toInt64) &&& (6148914691236517205 : Int64))).toUInt64 >>> ((2 : Int32).toInt64.toUInt64 &&& Int64.toUInt64 63)).toInt64) &&& (3689348814741910323 : Int64))) + (((((a0 - (((a0.toUInt64 >>> ((1 : Int32).toInt64.toUInt64 &&& Int64.toUInt64 63)).toInt64) &&& (6148914691236517205 : Int64))) &&& (3689348814741910323 : Int64)) + ((((a0 - (((a0.toUInt64 >>> ((1 : Int32).toInt64.toUInt64 &&& Int64.toUInt64 63)).toInt64) &&& (6148914691236517205 : Int64))).toUInt64 >>> ((2 : Int32).toInt64.toUInt64 &&& Int64.toUInt64 63)).toInt64) &&& (3689348814741910323 : Int64))).toUInt64 >>> ((4 : Int32).toInt64.toUInt64 &&& Int64.toUInt64 63)).toInt64)) &&& (1085102592571150095 : Int64)) + (((((((a0 - (((a0.toUInt64 >>> ((1 : Int32).toInt64.toUInt64 &&& Int64.toUInt64 63)).toInt64) &&& (6148914691236517205 : Int64))) &&& (3689348814741910323 : Int64)) + ((((a0 - (((a0.toUInt64 >>> ((1 : Int32).toInt64.toUInt64 &&& Int64.toUInt64 63)).toInt64) &&& (6148914691236517205 : Int64))).toUInt64 >>> ((2 : Int32).toInt64.toUInt64 &&& Int64.toUInt64 63)).toInt64) &&& (3689348814741910323 : Int64))) + (((((a0 - (((a0.toUInt64 >>> ((1 : Int32).toInt64.toUInt64 &&& Int64.toUInt64 63)).toInt64) &&& (6148914691236517205 : Int64))) &&& (3689348814741910323 : Int64)) + ((((a0 - (((a0.toUInt64 >>> ((1 : Int32).toInt64.toUInt64 &&& Int64.toUInt64 63)).toInt64) &&& (6148914691236517205 : Int64))).toUInt64 >>> ((2 : Int32).toInt64.toUInt64 &&& Int64.toUInt64 63)).toInt64) &&& (3689348814741910323 : Int64))).toUInt64 >>> ((4 : Int32).toInt64.toUInt64 &&& Int64.toUInt64 63)).toInt64)) &&& (1085102592571150095 : Int64)).toUInt64 >>> ((8 : Int32).toInt64.toUInt64 &&& Int64.toUInt64 63)).toInt64)) + ((((((((a0 - (((a0.toUInt64 >>> ((1 : Int32).toInt64.toUInt64 &&& Int64.toUInt64 63)).toInt64) &&& (6148914691236517205 : Int64))) &&& (3689348814741910323 : Int64)) + ((((a0 - (((a0.toUInt64 >>> ((1 : Int32).toInt64.toUInt64 &&& Int64.toUInt64 63)).toInt64) &&& (6148914691236517205 : Int64))).toUInt64 >>> ((2 : Int32).toInt64.toUInt64 &&& Int64.toUInt64 63)).toInt64) &&& (3689348814741910323 : Int64))) + (((((a0 - (((a0.toUInt64 >>> ((1 : Int32).toInt64.toUInt64 &&& Int64.toUInt64 63)).toInt64) &&& (6148914691236517205 : Int64))) &&& (3689348814741910323 : Int64)) + ((((a0 - (((a0.toUInt64 >>> ((1 : Int32).toInt64.toUInt64 &&& Int64.toUInt64 63)).toInt64) &&& (6148914691236517205 : Int64))).toUInt64 >>> ((2 : Int32).toInt64.toUInt64 &&& Int64.toUInt64 63)).toInt64) &&& (3689348814741910323 : Int64))).toUInt64 >>> ((4 : Int32).toInt64.toUInt64 &&& Int64.toUInt64 63)).toInt64)) &&& (1085102592571150095 : Int64)) + (((((((a0 - (((a0.toUInt64 >>> ((1 : Int32).toInt64.toUInt64 &&& Int64.toUInt64 63)).toInt64) &&& (6148914691236517205 : Int64))) &&& (3689348814741910323 : Int64)) + ((((a0 - (((a0.toUInt64 >>> ((1 : Int32).toInt64.toUInt64 &&& Int64.toUInt64 63)).toInt64) &&& (6148914691236517205 : Int64))).toUInt64 >>> ((2 : Int32).toInt64.toUInt64 &&& Int64.toUInt64 63)).toInt64) &&& (3689348814741910323 : Int64))) + (((((a0 - (((a0.toUInt64 >>> ((1 : Int32).toInt64.toUInt64 &&& Int64.toUInt64 63)).toInt64) &&& (6148914691236517205 : Int64))) &&& (3689348814741910323 : Int64)) + ((((a0 - (((a0.toUInt64 >>> ((1 : Int32).toInt64.toUInt64 &&& Int64.toUInt64 63)).toInt64) &&& (6148914691236517205 : Int64))).toUInt64 >>> ((2 : Int32).toInt64.toUInt64 &&& Int64.toUInt64 63)).toInt64) &&& (3689348814741910323 : Int64))).toUInt64 >>> ((4 : Int32).toInt64.toUInt64 &&& Int64.toUInt64 63)).toInt64)) &&& (1085102592571150095 : Int64)).toUInt64 >>> ((8 : Int32).toInt64.toUInt64 &&& Int64.toUInt64 63)).toInt64)).toUInt64 >>> ((16 : Int32).toInt64.toUInt64 &&& Int64.toUInt64 63)).toInt64))), none]) (pc := 47) C rfl (Nat.le_of_ble_eq_true rfl) rfl rfl d_Long_bitCount_47 ?_
  refine zz_lload_n (i := 0) (pc := 48) C rfl rfl d_Long_bitCount_48 ?_
  refine zz_lload_n (i := 0) (pc := 49) C rfl rfl d_Long_bitCount_49 ?_
  refine zz_bipush (pc := 50) C zkb_32 d_Long_bitCount_50 ?_
  refine zz_lushr (pc := 52) C d_Long_bitCount_52 ?_
  refine zz_ladd (pc := 53) C d_Long_bitCount_53 ?_
  refine zz_lstore_n (i := 0) (lo' := [some (.long ((((((((a0 - (((a0.toUInt64 >>> ((1 : Int32).toInt64.toUInt64 &&& Int64.toUInt64 63)).toInt64) &&& (6148914691236517205 : Int64))) &&& (3689348814741910323 : Int64)) + ((((a0 - (((a0.toUInt64 >>> ((1 : Int32).toInt64.toUInt64 &&& Int64.toUInt64 63)).toInt64) &&& (6148914691236517205 : Int64))).toUInt64 >>> ((2 : Int32).toInt64.toUInt64 &&& Int64.toUInt64 63)).toInt64) &&& (3689348814741910323 : Int64))) + (((((a0 - (((a0.toUInt64 >>> ((1 : Int32).toInt64.toUInt64 &&& Int64.toUInt64 63)).toInt64) &&& (6148914691236517205 : Int64))) &&& (3689348814741910323 : Int64)) + ((((a0 - (((a0.toUInt64 >>> ((1 : Int32).toInt64.toUInt64 &&& Int64.toUInt64 63)).toInt64) &&& (6148914691236517205 : Int64))).toUInt64 >>> ((2 : Int32).toInt64.toUInt64 &&& Int64.toUInt64 63)).toInt64) &&& (3689348814741910323 : Int64))).toUInt64 >>> ((4 : Int32).toInt64.toUInt64 &&& Int64.toUInt64 63)).toInt64)) &&& (1085102592571150095 : Int64)) + (((((((a0 - (((a0.toUInt64 >>> ((1 : Int32).toInt64.toUInt64 &&& Int64.toUInt64 63)).toInt64) &&& (6148914691236517205 : Int64))) &&& (3689348814741910323 : Int64)) + ((((a0 - (((a0.toUInt64 >>> ((1 : Int32).toInt64.toUInt64 &&& Int64.toUInt64 63)).toInt64) &&& (6148914691236517205 : Int64))).toUInt64 >>> ((2 : Int32).toInt64.toUInt64 &&& Int64.toUInt64 63)).toInt64) &&& (3689348814741910323 : Int64))) + (((((a0 - (((a0.toUInt64 >>> ((1 : Int32).toInt64.toUInt64 &&& Int64.toUInt64 63)).toInt64) &&& (6148914691236517205 : Int64))) &&& (3689348814741910323 : Int64)) + ((((a0 - (((a0.toUInt64 >>> ((1 : Int32).toInt64.toUInt64 &&& Int64.toUInt64 63)).toInt64) &&& (6148914691236517205 : Int64))).toUInt64 >>> ((2 : Int32).toInt64.toUInt64 &&& Int64.toUInt64 63)).toInt64) &&& (3689348814741910323 : Int64))).toUInt64 >>> ((4 : Int32).toInt64.toUInt64 &&& Int64.toUInt64 63)).toInt64)) &&& (1085102592571150095 : Int64)).toUInt64 >>> ((8 : Int32).toInt64.toUInt64 &&& Int64.toUInt64 63)).toInt64)) + ((((((((a0 - (((a0.toUInt64 >>> ((1 : Int32).toInt64.toUInt64 &&& Int64.toUInt64 63)).toInt64) &&& (6148914691236517205 : Int64))) &&& (3689348814741910323 : Int64)) + ((((a0 - (((a0.toUInt64 >>> ((1 : Int32).toInt64.toUInt64 &&& Int64.toUInt64 63)).toInt64) &&& (6148914691236517205 : Int64))).toUInt64 >>> ((2 : Int32).toInt64.toUInt64 &&& Int64.toUInt64 63)).toInt64) &&& (3689348814741910323 : Int64))) + (((((a0 - (((a0.toUInt64 >>> ((1 : Int32).toInt64.toUInt64 &&& Int64.toUInt64 63)).toInt64) &&& (6148914691236517205 : Int64))) &&& (3689348814741910323 : Int64)) + ((((a0 - (((a0.toUInt64 >>> ((1 : Int32).toInt64.toUInt64 &&& Int64.toUInt64 63)).toInt64) &&& (6148914691236517205 : Int64))).toUInt64 >>> ((2 : Int32).toInt64.toUInt64 &&& Int64.toUInt64 63)).toInt64) &&& (3689348814741910323 : Int64))).toUInt64 >>> ((4 : Int32).toInt64.toUInt64 &&& Int64.toUInt64 63)).toInt64)) &&& (1085102592571150095 : Int64)) + (((((((a0 - (((a0.toUInt64 >>> ((1 : Int32).toInt64.toUInt64 &&& Int64.toUInt64 63)).toInt64) &&& (6148914691236517205 : Int64))) &&& (3689348814741910323 : Int64)) + ((((a0 - (((a0.toUInt64 >>> ((1 : Int32).toInt64.toUInt64 &&& Int64.toUInt64 63)).toInt64) &&& (6148914691236517205 : Int64))).toUInt64 >>> ((2 : Int32).toInt64.toUInt64 &&& Int64.toUInt64 63)).toInt64) &&& (3689348814741910323 : Int64))) + (((((a0 - (((a0.toUInt64 >>> ((1 : Int32).toInt64.toUInt64 &&& Int64.toUInt64 63)).toInt64) &&& (6148914691236517205 : Int64))) &&& (3689348814741910323 : Int64)) + ((((a0 - (((a0.toUInt64 >>> ((1 : Int32).toInt64.toUInt64 &&& Int64.toUInt64 63)).toInt64) &&& (6148914691236517205 : Int64))).toUInt64 >>> ((2 : Int32).toInt64.toUInt64 &&& Int64.toUInt64 63)).toInt64) &&& (3689348814741910323 : Int64))).toUInt64 >>> ((4 : Int32).toInt64.toUInt64 &&& Int64.toUInt64 63)).toInt64)) &&& (1085102592571150095 : Int64)).toUInt64 >>> ((8 : Int32).toInt64.toUInt64 &&& Int64.toUInt64 63)).toInt64)).toUInt64 >>> ((16 : Int32).toInt64.toUInt64 &&& Int64.toUInt64 63)).toInt64)) + (((((((((a0 - (((a0.toUInt64 >>> ((1 : Int32).toInt64.toUInt64 &&& Int64.toUInt64 63)).toInt64) &&& (6148914691236517205 : Int64))) &&& (3689348814741910323 : Int64)) + ((((a0 - (((a0.toUInt64 >>> ((1 : Int32).toInt64.toUInt64 &&& Int64.toUInt64 63)).toInt64) &&& (6148914691236517205 : Int64))).toUInt64 >>> ((2 : Int32).toInt64.toUInt64 &&& Int64.toUInt64 63)).toInt64) &&& (3689348814741910323 : Int64))) + (((((a0 - (((a0.toUInt64 >>> ((1 : Int32).toInt64.toUInt64 &&& Int64.toUInt64 63)).toInt64) &&& (6148914691236517205 : Int64))) &&& (3689348814741910323 : Int64)) + ((((a0 - (((a0.toUInt64 >>> ((1 : Int32).toInt64.toUInt64 &&& Int64.toUInt64 63)).toInt64) &&& (6148914691236517205 : Int64))).toUInt64 >>> ((2 : Int32).toInt64.toUInt64 &&& Int64.toUInt64 63)).toInt64) &&& (3689348814741910323 : Int64))).toUInt64 >>> ((4 : Int32).toInt64.toUInt64 &&& Int64.toUInt64 63)).toInt64)) &&& (1085102592571150095 : Int64)) + (((((((a0 - (((a0.toUInt64 >>> ((1 : Int32).toInt64.toUInt64 &&& Int64.toUInt64 63)).toInt64) &&& (6148914691236517205 : Int64))) &&& (3689348814741910323 : Int64)) + ((((a0 - (((a0.toUInt64 >>> ((1 : Int32).toInt64.toUInt64 &&& Int64.toUInt64 63)).toInt64) &&& (6148914691236517205 : Int64))).toUInt64 >>> ((2 : Int32).toInt64.toUInt64 &&& Int64.toUInt64 63)).toInt64) &&& (3689348814741910323 : Int64))) + (((((a0 - (((a0.toUInt64 >>> ((1 : Int32).toInt64.toUInt64 &&& Int64.toUInt64 63)).toInt64) &&& (6148914691236517205 : Int64))) &&& (3689348814741910323 : Int64)) + ((((a0 - (((a0.toUInt64 >>> ((1 : Int32).toInt64.toUInt64 &&& Int64.toUInt64 63)).toInt64) &&& (6148914691236517205 : Int64))).toUInt64 >>> ((2 : Int32).toInt64.toUInt64 &&& Int64.toUInt64 63)).toInt64) &&& (3689348814741910323 : Int64))).toUInt64 >>> ((4 : Int32).toInt64.toUInt64 &&& Int64.toUInt64 63)).toInt64)) &&& (1085102592571150095 : Int64)).toUInt64 >>> ((8 : Int32).toInt64.toUInt64 &&& Int64.toUInt64 63)).toInt64)) + ((((((((a0 - (((a0.toUInt64 >>> ((1 : Int32).toInt64.toUInt64 &&& Int64.toUInt64 63)).toInt64) &&& (6148914691236517205 : Int64))) &&& (3689348814741910323 : Int64)) + ((((a0 - (((a0.toUInt64 >>> ((1 : Int32).toInt64.toUInt64 &&& Int64.toUInt64 63)).toInt64) &&& (6148914691236517205 : Int64))).toUInt64 >>> ((2 : Int32).toInt64.toUInt64 &&& Int64.toUInt64 63)).toInt64) &&& (3689348814741910323 : Int64))) + (((((a0 - (((a0.toUInt64 >>> ((1 : Int32).toInt64.toUInt64 &&& Int64.toUInt64 63)).toInt64) &&& (6148914691236517205 : Int64))) &&& (3689348814741910323 : Int64)) + ((((a0 - (((a0.toUInt64 >>> ((1 : Int32).toInt64.toUInt64 &&& Int64.toUInt64 63)).toInt64) &&& (6148914691236517205 : Int64))).toUInt64 >>> ((2 : Int32).toInt64.toUInt64 &&& Int64.toUInt64 63)).toInt64) &&& (3689348814741910323 : Int64))).toUInt64 >>> ((4 : Int32).toInt64.toUInt64 &&& Int64.toUInt64 63)).toInt64)) &&& (1085102592571150095 : Int64)) + (((((((a0 - (((a0.toUInt64 >>> ((1 : Int32).toInt64.toUInt64 &&& Int64.toUInt64 63)).toInt64) &&& (6148914691236517205 : Int64))) &&& (3689348814741910323 : Int64)) + ((((a0 - (((a0.toUInt64 >>> ((1 : Int32).toInt64.toUInt64 &&& Int64.toUInt64 63)).toInt64) &&& (6148914691236517205 : Int64))).toUInt64 >>> ((2 : Int32).toInt64.toUInt64 &&& Int64.toUInt64 63)).toInt64) &&& (3689348814741910323 : Int64))) + (((((a0 - (((a0.toUInt64 >>> ((1 : Int32).toInt64.toUInt64 &&& Int64.toUInt64 63)).toInt64) &&& (6148914691236517205 : Int64))) &&& (3689348814741910323 : Int64)) + ((((a0 - (((a0.toUInt64 >>> ((1 : Int32).toInt64.toUInt64 &&& Int64.toUInt64 63)).toInt64) &&& (6148914691236517205 : Int64))).toUInt64 >>> ((2 : Int32).toInt64.toUInt64 &&& Int64.toUInt64 63)).toInt64) &&& (3689348814741910323 : Int64))).toUInt64 >>> ((4 : Int32).toInt64.toUInt64 &&& Int64.toUInt64 63)).toInt64)) &&& (1085102592571150095 : Int64)).toUInt64 >>> ((8 : Int32).toInt64.toUInt64 &&& Int64.toUInt64 63)).toInt64)).toUInt64 >>> ((16 : Int32).toInt64.toUInt64 &&& Int64.toUInt64 63)).toInt64)).toUInt64 >>> ((32 : Int32).toInt64.toUInt64 &&& Int64.toUInt64 63)).toInt64))), none]) (pc := 54) C rfl (Nat.le_of_ble_eq_true rfl) rfl rfl d_Long_bitCount_54 ?_
  refine zz_lload_n (i := 0) (pc := 55) C rfl rfl d_Long_bitCount_55 ?_
  refine zz_l2i (pc := 56) C d_Long_bitCount_56 ?_
  refine zz_bipush (pc := 57) C zkb_127 d_Long_bitCount_57 ?_
  refine zz_iand (pc := 59) C d_Long_bitCount_59 ?_
  subst h
  exact zz_ret (pc := 60) C (v := some (.int (((((((((a0 - (((a0.toUInt64 >>> ((1 : Int32).toInt64.toUInt64 &&& Int64.toUInt64 63)).toInt64) &&& (6148914691236517205 : Int64))) &&& (3689348814741910323 : Int64)) + ((((a0 - (((a0.toUInt64 >>> ((1 : Int32).toInt64.toUInt64 &&& Int64.toUInt64 63)).toInt64) &&& (6148914691236517205 : Int64))).toUInt64 >>> ((2 : Int32).toInt64.toUInt64 &&& Int64.toUInt64 63)).toInt64) &&& (3689348814741910323 : Int64))) + (((((a0 - (((a0.toUInt64 >>> ((1 : Int32).toInt64.toUInt64 &&& Int64.toUInt64 63)).toInt64) &&& (6148914691236517205 : Int64))) &&& (3689348814741910323 : Int64)) + ((((a0 - (((a0.toUInt64 >>> ((1 : Int32).toInt64.toUInt64 &&& Int64.toUInt64 63)).toInt64) &&& (6148914691236517205 : Int64))).toUInt64 >>> ((2 : Int32).toInt64.toUInt64 &&& Int64.toUInt64 63)).toInt64) &&& (3689348814741910323 : Int64))).toUInt64 >>> ((4 : Int32).toInt64.toUInt64 &&& Int64.toUInt64 63)).toInt64)) &&& (1085102592571150095 : Int64)) + (((((((a0 - (((a0.toUInt64 >>> ((1 : Int32).toInt64.toUInt64 &&& Int64.toUInt64 63)).toInt64) &&& (6148914691236517205 : Int64))) &&& (3689348814741910323 : Int64)) + ((((a0 - (((a0.toUInt64 >>> ((1 : Int32).toInt64.toUInt64 &&& Int64.toUInt64 63)).toInt64) &&& (6148914691236517205 : Int64))).toUInt64 >>> ((2 : Int32).toInt64.toUInt64 &&& Int64.toUInt64 63)).toInt64) &&& (3689348814741910323 : Int64))) + (((((a0 - (((a0.toUInt64 >>> ((1 : Int32).toInt64.toUInt64 &&& Int64.toUInt64 63)).toInt64) &&& (6148914691236517205 : Int64))) &&& (3689348814741910323 : Int64)) + ((((a0 - (((a0.toUInt64 >>> ((1 : Int32).toInt64.toUInt64 &&& Int64.toUInt64 63)).toInt64) &&& (6148914691236517205 : Int64))).toUInt64 >>> ((2 : Int32).toInt64.toUInt64 &&& Int64.toUInt64 63)).toInt64) &&& (3689348814741910323 : Int64))).toUInt64 >>> ((4 : Int32).toInt64.toUInt64 &&& Int64.toUInt64 63)).toInt64)) &&& (1085102592571150095 : Int64)).toUInt64 >>> ((8 : Int32).toInt64.toUInt64 &&& Int64.toUInt64 63)).toInt64)) + ((((((((a0 - (((a0.toUInt64 >>> ((1 : Int32).toInt64.toUInt64 &&& Int64.toUInt64 63)).toInt64) &&& (6148914691236517205 : Int64))) &&& (3689348814741910323 : Int64)) + ((((a0 - (((a0.toUInt64 >>> ((1 : Int32).toInt64.toUInt64 &&& Int64.toUInt64 63)).toInt64) &&& (6148914691236517205 : Int64))).toUInt64 >>> ((2 : Int32).toInt64.toUInt64 &&& Int64.toUInt64 63)).toInt64) &&& (3689348814741910323 : Int64))) + (((((a0 - (((a0.toUInt64 >>> ((1 : Int32).toInt64.toUInt64 &&& Int64.toUInt64 63)).toInt64) &&& (6148914691236517205 : Int64))) &&& (3689348814741910323 : Int64)) + ((((a0 - (((a0.toUInt64 >>> ((1 : Int32).toInt64.toUInt64 &&& Int64.toUInt64 63)).toInt64) &&& (6148914691236517205 : Int64))).toUInt64 >>> ((2 : Int32).toInt64.toUInt64 &&& Int64.toUInt64 63)).toInt64) &&& (3689348814741910323 : Int64))).toUInt64 >>> ((4 : Int32).toInt64.toUInt64 &&& Int64.toUInt64 63)).toInt64)) &&& (1085102592571150095 : Int64)) + (((((((a0 - (((a0.toUInt64 >>> ((1 : Int32).toInt64.toUInt64 &&& Int64.toUInt64 63)).toInt64) &&& (6148914691236517205 : Int64))) &&& (3689348814741910323 : Int64)) + ((((a0 - (((a0.toUInt64 >>> ((1 : Int32).toInt64.toUInt64 &&& Int64.toUInt64 63)).toInt64) &&& (6148914691236517205 : Int64))).toUInt64 >>> ((2 : Int32).toInt64.toUInt64 &&& Int64.toUInt64 63)).toInt64) &&& (3689348814741910323 : Int64))) + (((((a0 - (((a0.toUInt64 >>> ((1 : Int32).toInt64.toUInt64 &&& Int64.toUInt64 63)).toInt64) &&& (6148914691236517205 : Int64))) &&& (3689348814741910323 : Int64)) + ((((a0 - (((a0.toUInt64 >>> ((1 : Int32).toInt64.toUInt64 &&& Int64.toUInt64 63)).toInt64) &&& (6148914691236517205 : Int64))).toUInt64 >>> ((2 : Int32).toInt64.toUInt64 &&& Int64.toUInt64 63)).toInt64) &&& (3689348814741910323 : Int64))).toUInt64 >>> ((4 : Int32).toInt64.toUInt64 &&& Int64.toUInt64 63)).toInt64)) &&& (1085102592571150095 : Int64)).toUInt64 >>> ((8 : Int32).toInt64.toUInt64 &&& Int64.toUInt64 63)).toInt64)).toUInt64 >>> ((16 : Int32).toInt64.toUInt64 &&& Int64.toUInt64 63)).toInt64)) + (((((((((a0 - (((a0.toUInt64 >>> ((1 : Int32).toInt64.toUInt64 &&& Int64.toUInt64 63)).toInt64) &&& (6148914691236517205 : Int64))) &&& (3689348814741910323 : Int64)) + ((((a0 - (((a0.toUInt64 >>> ((1 : Int32).toInt64.toUInt64 &&& Int64.toUInt64 63)).toInt64) &&& (6148914691236517205 : Int64))).toUInt64 >>> ((2 : Int32).toInt64.toUInt64 &&& Int64.toUInt64 63)).toInt64) &&& (3689348814741910323 : Int64))) + (((((a0 - (((a0.toUInt64 >>> ((1 : Int32).toInt64.toUInt64 &&& Int64.toUInt64 63)).toInt64) &&& (6148914691236517205 : Int64))) &&& (3689348814741910323 : Int64)) + ((((a0 - (((a0.toUInt64 >>> ((1 : Int32).toInt64.toUInt64 &&& Int64.toUInt64 63)).toInt64) &&& (6148914691236517205 : Int64))).toUInt64 >>> ((2 : Int32).toInt64.toUInt64 &&& Int64.toUInt64 63)).toInt64) &&& (3689348814741910323 : Int64))).toUInt64 >>> ((4 : Int32).toInt64.toUInt64 &&& Int64.toUInt64 63)).toInt64)) &&& (1085102592571150095 : Int64)) + (((((((a0 - (((a0.toUInt64 >>> ((1 : Int32).toInt64.toUInt64 &&& Int64.toUInt64 63)).toInt64) &&& (6148914691236517205 : Int64))) &&& (3689348814741910323 : Int64)) + ((((a0 - (((a0.toUInt64 >>> ((1 : Int32).toInt64.toUInt64 &&& Int64.toUInt64 63)).toInt64) &&& (6148914691236517205 : Int64))).toUInt64 >>> ((2 : Int32).toInt64.toUInt64 &&& Int64.toUInt64 63)).toInt64) &&& (3689348814741910323 : Int64))) + (((((a0 - (((a0.toUInt64 >>> ((1 : Int32).toInt64.toUInt64 &&& Int64.toUInt64 63)).toInt64) &&& (6148914691236517205 : Int64))) &&& (3689348814741910323 : Int64)) + ((((a0 - (((a0.toUInt64 >>> ((1 : Int32).toInt64.toUInt64 &&& Int64.toUInt64 63)).toInt64) &&& (6148914691236517205 : Int64))).toUInt64 >>> ((2 : Int32).toInt64.toUInt64 &&& Int64.toUInt64 63)).toInt64) &&& (3689348814741910323 : Int64))).toUInt64 >>> ((4 : Int32).toInt64.toUInt64 &&& Int64.toUInt64 63)).toInt64)) &&& (1085102592571150095 : Int64)).toUInt64 >>> ((8 : Int32).toInt64.toUInt64 &&& Int64.toUInt64 63)).toInt64)) + ((((((((a0 - (((a0.toUInt64 >>> ((1 : Int32).toInt64.toUInt64 &&& Int64.toUInt64 63)).toInt64) &&& (6148914691236517205 : Int64))) &&& (3689348814741910323 : Int64)) + ((((a0 - (((a0.toUInt64 >>> ((1 : Int32).toInt64.toUInt64 &&& Int64.toUInt64 63)).toInt64) &&& (6148914691236517205 : Int64))).toUInt64 >>> ((2 : Int32).toInt64.toUInt64 &&& Int64.toUInt64 63)).toInt64) &&& (3689348814741910323 : Int64))) + (((((a0 - (((a0.toUInt64 >>> ((1 : Int32).toInt64.toUInt64 &&& Int64.toUInt64 63)).toInt64) &&& (6148914691236517205 : Int64))) &&& (3689348814741910323 : Int64)) + ((((a0 - (((a0.toUInt64 >>> ((1 : Int32).toInt64.toUInt64 &&& Int64.toUInt64 63)).toInt64) &&& (6148914691236517205 : Int64))).toUInt64 >>> ((2 : Int32).toInt64.toUInt64 &&& Int64.toUInt64 63)).toInt64) &&& (3689348814741910323 : Int64))).toUInt64 >>> ((4 : Int32).toInt64.toUInt64 &&& Int64.toUInt64 63)).toInt64)) &&& (1085102592571150095 : Int64)) + (((((((a0 - (((a0.toUInt64 >>> ((1 : Int32).toInt64.toUInt64 &&& Int64.toUInt64 63)).toInt64) &&& (6148914691236517205 : Int64))) &&& (3689348814741910323 : Int64)) + ((((a0 - (((a0.toUInt64 >>> ((1 : Int32).toInt64.toUInt64 &&& Int64.toUInt64 63)).toInt64) &&& (6148914691236517205 : Int64))).toUInt64 >>> ((2 : Int32).toInt64.toUInt64 &&& Int64.toUInt64 63)).toInt64) &&& (3689348814741910323 : Int64))) + (((((a0 - (((a0.toUInt64 >>> ((1 : Int32).toInt64.toUInt64 &&& Int64.toUInt64 63)).toInt64) &&& (6148914691236517205 : Int64))) &&& (3689348814741910323 : Int64)) + ((((a0 - (((a0.toUInt64 >>> ((1 : Int32).toInt64.toUInt64 &&& Int64.toUInt64 63)).toInt64) &&& (6148914691236517205 : Int64))).toUInt64 >>> ((2 : Int32).toInt64.toUInt64 &&& Int64.toUInt64 63)).toInt64) &&& (3689348814741910323 : Int64))).toUInt64 >>> ((4 : Int32).toInt64.toUInt64 &&& Int64.toUInt64 63)).toInt64)) &&& (1085102592571150095 : Int64)).toUInt64 >>> ((8 : Int32).toInt64.toUInt64 &&& Int64.toUInt64 63)).toInt64)).toUInt64 >>> ((16 : Int32).toInt64.toUInt64 &&& Int64.toUInt64 63)).toInt64)).toUInt64 >>> ((32 : Int32).toInt64.toUInt64 &&& Int64.toUInt64 63)).toInt64)).toInt32 &&& (127 : Int32)))) d_Long_bitCount_60 (Or.inl ⟨_, _, rfl, rfl, rfl, rfl⟩) rfl
theorem zm_Long_bitCount {G : zz_G} {l : Launch} {sh : List zz_Sh} {s : zz_S} {q : Int32} {a0 : Int64} (h : f_Long_bitCount a0 = q) : zz_M G l 2 y_Long_bitCount prog_16_method_50_code 2 (some .int) [.long a0] sh s (some (.int q), sh, s) :=
  zz_M.intro (by decide) (Nat.le_of_ble_eq_true rfl) (Nat.le_refl _) (Nat.le_refl _) (fun Z C => zf_Long_bitCount C a0 h)
theorem d_Lie_coverAnew_0 : decode prog_5_method_6_code 0 = .ok (.aload_n 0, 1) := by decide +kernel
theorem d_Lie_coverAnew_1 : decode prog_5_method_6_code 1 = .ok (.getfield 15, 3) := by decide +kernel
theorem d_Lie_coverAnew_4 : decode prog_5_method_6_code 4 = .ok (.iload_n 1, 1) := by decide +kernel
theorem d_Lie_coverAnew_5 : decode prog_5_method_6_code 5 = .ok (.iaload, 1) := by decide +kernel
theorem d_Lie_coverAnew_6 : decode prog_5_method_6_code 6 = .ok (.istore 4, 2) := by decide +kernel
theorem d_Lie_coverAnew_8 : decode prog_5_method_6_code 8 = .ok (.aload_n 0, 1) := by decide +kernel
theorem d_Lie_coverAnew_9 : decode prog_5_method_6_code 9 = .ok (.getfield 15, 3) := by decide +kernel
theorem d_Lie_coverAnew_12 : decode prog_5_method_6_code 12 = .ok (.iload_n 1, 1) := by decide +kernel
theorem d_Lie_coverAnew_13 : decode prog_5_method_6_code 13 = .ok (.aload_n 0, 1) := by decide +kernel
theorem d_Lie_coverAnew_14 : decode prog_5_method_6_code 14 = .ok (.getfield 24, 3) := by decide +kernel
theorem d_Lie_coverAnew_17 : decode prog_5_method_6_code 17 = .ok (.iload_n 1, 1) := by decide +kernel
theorem d_Lie_coverAnew_18 : decode prog_5_method_6_code 18 = .ok (.laload, 1) := by decide +kernel
theorem d_Lie_coverAnew_19 : decode prog_5_method_6_code 19 = .ok (.lload_n 2, 1) := by decide +kernel
theorem d_Lie_coverAnew_20 : decode prog_5_method_6_code 20 = .ok (.land, 1) := by decide +kernel
theorem d_Lie_coverAnew_21 : decode prog_5_method_6_code 21 = .ok (.invokestatic 77, 3) := by decide +kernel
theorem d_Lie_coverAnew_24 : decode prog_5_method_6_code 24 = .ok (.iastore, 1) := by decide +kernel
theorem d_Lie_coverAnew_25 : decode prog_5_method_6_code 25 = .ok (.iload 4, 2) := by decide +kernel
theorem d_Lie_coverAnew_27 : decode prog_5_method_6_code 27 = .ok (.aload_n 0, 1) := by decide +kernel
theorem d_Lie_coverAnew_28 : decode prog_5_method_6_code 28 = .ok (.getfield 15, 3) := by decide +kernel
theorem d_Lie_coverAnew_31 : decode prog_5_method_6_code 31 = .ok (.iload_n 1, 1) := by decide +kernel
theorem d_Lie_coverAnew_32 : decode prog_5_method_6_code 32 = .ok (.iaload, 1) := by decide +kernel
theorem d_Lie_coverAnew_33 : decode prog_5_method_6_code 33 = .ok (.isub, 1) := by decide +kernel
theorem d_Lie_coverAnew_34 : decode prog_5_method_6_code 34 = .ok (.ireturn, 1) := by decide +kernel
set_option maxHeartbeats 4000000 in
set_option maxRecDepth 100000 in
theorem zf_Lie_coverAnew {G : zz_G} {l : Launch} {Z : zz_Z} {q : Int32 × zz_S} {s : zz_S} (C : zz_Cx G l "OneBlanket$Lie" "coverAnew" prog_5_method_6_code 5 (some .int) 3 (some (.int q.1), zsh, q.2) Z) (a1 : Int32) (a2 : Int64) (h : f_Lie_coverAnew a1 a2 s = some q) : Z 0 [some (.ref 32), some (.int a1), some (.long a2), none, none] [] zsh s := by
  unfold f_Lie_coverAnew at h
  refine zz_aload_n (i := 0) (pc := 0) C rfl rfl d_Lie_coverAnew_0 ?_
  refine zz_getR (pc := 1) C zl_3_15 zsh_32 rfl d_Lie_coverAnew_1 ?_
  refine zz_iload_n (i := 1) (pc := 4) C rfl rfl d_Lie_coverAnew_4 ?_
  obtain ⟨hi1, h⟩ := zz_ckE h
  refine zz_iald (pc := 5) C rfl zsh_34 hi1 d_Lie_coverAnew_5 ?_
  refine zz_istore (i := 4) (lo' := [some (.ref 32), some (.int a1), some (.long a2), none, some (.int (s.1 34 (a1.toNatClampNeg)))]) (pc := 6) C (Nat.le_of_ble_eq_true rfl) rfl rfl d_Lie_coverAnew_6 ?_
  refine zz_aload_n (i := 0) (pc := 8) C rfl rfl d_Lie_coverAnew_8 ?_
  refine zz_getR (pc := 9) C zl_3_15 zsh_32 rfl d_Lie_coverAnew_9 ?_
  refine zz_iload_n (i := 1) (pc := 12) C rfl rfl d_Lie_coverAnew_12 ?_
  refine zz_aload_n (i := 0) (pc := 13) C rfl rfl d_Lie_coverAnew_13 ?_
  refine zz_getR (pc := 14) C zl_3_24 zsh_32 rfl d_Lie_coverAnew_14 ?_
  refine zz_iload_n (i := 1) (pc := 17) C rfl rfl d_Lie_coverAnew_17 ?_
  refine zz_lald (pc := 18) C rfl zsh_37 hi1 d_Lie_coverAnew_18 ?_
  refine zz_lload_n (i := 2) (pc := 19) C rfl rfl d_Lie_coverAnew_19 ?_
  refine zz_land (pc := 20) C d_Lie_coverAnew_20 ?_
  refine zz_cSi (as := [.long ((s.2 37 (a1.toNatClampNeg)) &&& a2)]) (st := [.int a1, .ref 34]) (pc := 21) C (zm_Long_bitCount rfl) zcs_Long_bitCount zl_3_77 (by omega) (Nat.le_of_ble_eq_true rfl) d_Lie_coverAnew_21 rfl rfl ?_
  refine zz_iast (pc := 24) C rfl zsh_34 hi1 d_Lie_coverAnew_24 ?_
  refine zz_iload (i := 4) (pc := 25) C rfl d_Lie_coverAnew_25 ?_
  refine zz_aload_n (i := 0) (pc := 27) C rfl rfl d_Lie_coverAnew_27 ?_
  refine zz_getR (pc := 28) C zl_3_15 zsh_32 rfl d_Lie_coverAnew_28 ?_
  refine zz_iload_n (i := 1) (pc := 31) C rfl rfl d_Lie_coverAnew_31 ?_
  refine zz_iald (pc := 32) C rfl zsh_34 hi1 d_Lie_coverAnew_32 ?_
  refine zz_isub (pc := 33) C d_Lie_coverAnew_33 ?_
  replace h := Option.some.inj h
  subst h
  exact zz_ret (pc := 34) C (v := some (.int ((s.1 34 (a1.toNatClampNeg)) - ((zz_w s 34 (a1.toNatClampNeg) (f_Long_bitCount ((s.2 37 (a1.toNatClampNeg)) &&& a2))).1 34 (a1.toNatClampNeg))))) d_Lie_coverAnew_34 (Or.inl ⟨_, _, rfl, rfl, rfl, rfl⟩) rfl
theorem zm_Lie_coverAnew {G : zz_G} {l : Launch} {s : zz_S} {q : Int32 × zz_S} {a1 : Int32} {a2 : Int64} (h : f_Lie_coverAnew a1 a2 s = some q) : zz_M G l 3 y_Lie_coverAnew prog_5_method_6_code 5 (some .int) [.ref 32, .int a1, .long a2] zsh s (some (.int q.1), zsh, q.2) :=
  zz_M.intro (by decide) (Nat.le_of_ble_eq_true rfl) (Nat.le_refl _) (Nat.le_refl _) (fun Z C => zf_Lie_coverAnew C a1 a2 h)
theorem d_Lie_underOf_0 : decode prog_5_method_7_code 0 = .ok (.aload_n 0, 1) := by decide +kernel
theorem d_Lie_underOf_1 : decode prog_5_method_7_code 1 = .ok (.getfield 24, 3) := by decide +kernel
theorem d_Lie_underOf_4 : decode prog_5_method_7_code 4 = .ok (.iload_n 1, 1) := by decide +kernel
theorem d_Lie_underOf_5 : decode prog_5_method_7_code 5 = .ok (.laload, 1) := by decide +kernel
theorem d_Lie_underOf_6 : decode prog_5_method_7_code 6 = .ok (.aload_n 0, 1) := by decide +kernel
theorem d_Lie_underOf_7 : decode prog_5_method_7_code 7 = .ok (.getfield 28, 3) := by decide +kernel
theorem d_Lie_underOf_10 : decode prog_5_method_7_code 10 = .ok (.iload_n 2, 1) := by decide +kernel
theorem d_Lie_underOf_11 : decode prog_5_method_7_code 11 = .ok (.laload, 1) := by decide +kernel
theorem d_Lie_underOf_12 : decode prog_5_method_7_code 12 = .ok (.land, 1) := by decide +kernel
theorem d_Lie_underOf_13 : decode prog_5_method_7_code 13 = .ok (.invokestatic 77, 3) := by decide +kernel
theorem d_Lie_underOf_16 : decode prog_5_method_7_code 16 = .ok (.ireturn, 1) := by decide +kernel
set_option maxHeartbeats 4000000 in
set_option maxRecDepth 100000 in
theorem zf_Lie_underOf {G : zz_G} {l : Launch} {Z : zz_Z} {q : Int32} {s : zz_S} (C : zz_Cx G l "OneBlanket$Lie" "underOf" prog_5_method_7_code 3 (some .int) 3 (some (.int q), zsh, s) Z) (a1 : Int32) (a2 : Int32) (h : f_Lie_underOf a1 a2 s = some q) : Z 0 [some (.ref 32), some (.int a1), some (.int a2)] [] zsh s := by
  unfold f_Lie_underOf at h
  refine zz_aload_n (i := 0) (pc := 0) C rfl rfl d_Lie_underOf_0 ?_
  refine zz_getR (pc := 1) C zl_3_24 zsh_32 rfl d_Lie_underOf_1 ?_
  refine zz_iload_n (i := 1) (pc := 4) C rfl rfl d_Lie_underOf_4 ?_
  obtain ⟨hi1, h⟩ := zz_ckE h
  refine zz_lald (pc := 5) C rfl zsh_37 hi1 d_Lie_underOf_5 ?_
  refine zz_aload_n (i := 0) (pc := 6) C rfl rfl d_Lie_underOf_6 ?_
  refine zz_getR (pc := 7) C zl_3_28 zsh_32 rfl d_Lie_underOf_7 ?_
  refine zz_iload_n (i := 2) (pc := 10) C rfl rfl d_Lie_underOf_10 ?_
  obtain ⟨hi2, h⟩ := zz_ckE h
  refine zz_lald (pc := 11) C rfl zsh_38 hi2 d_Lie_underOf_11 ?_
  refine zz_land (pc := 12) C d_Lie_underOf_12 ?_
  refine zz_cSi (as := [.long ((s.2 37 (a1.toNatClampNeg)) &&& (s.2 38 (a2.toNatClampNeg)))]) (st := []) (pc := 13) C (zm_Long_bitCount rfl) zcs_Long_bitCount zl_3_77 (by omega) (Nat.le_of_ble_eq_true rfl) d_Lie_underOf_13 rfl rfl ?_
  replace h := Option.some.inj h
  subst h
  exact zz_ret (pc := 16) C (v := some (.int (f_Long_bitCount ((s.2 37 (a1.toNatClampNeg)) &&& (s.2 38 (a2.toNatClampNeg)))))) d_Lie_underOf_16 (Or.inl ⟨_, _, rfl, rfl, rfl, rfl⟩) rfl
theorem zm_Lie_underOf {G : zz_G} {l : Launch} {s : zz_S} {q : Int32} {a1 : Int32} {a2 : Int32} (h : f_Lie_underOf a1 a2 s = some q) : zz_M G l 3 y_Lie_underOf prog_5_method_7_code 3 (some .int) [.ref 32, .int a1, .int a2] zsh s (some (.int q), zsh, s) :=
  zz_M.intro (by decide) (Nat.le_of_ble_eq_true rfl) (Nat.le_refl _) (Nat.le_refl _) (fun Z C => zf_Lie_underOf C a1 a2 h)
theorem d_Lie_feelWarmth_0 : decode prog_5_method_8_code 0 = .ok (.iconst 0, 1) := by decide +kernel
theorem d_Lie_feelWarmth_1 : decode prog_5_method_8_code 1 = .ok (.istore_n 1, 1) := by decide +kernel
theorem d_Lie_feelWarmth_2 : decode prog_5_method_8_code 2 = .ok (.iload_n 1, 1) := by decide +kernel
theorem d_Lie_feelWarmth_3 : decode prog_5_method_8_code 3 = .ok (.aload_n 0, 1) := by decide +kernel
theorem d_Lie_feelWarmth_4 : decode prog_5_method_8_code 4 = .ok (.getfield 31, 3) := by decide +kernel
theorem d_Lie_feelWarmth_7 : decode prog_5_method_8_code 7 = .ok (.getfield 50, 3) := by decide +kernel
theorem d_Lie_feelWarmth_10 : decode prog_5_method_8_code 10 = .ok (.if_icmp .ge (71), 3) := by decide +kernel
theorem d_Lie_feelWarmth_13 : decode prog_5_method_8_code 13 = .ok (.aload_n 0, 1) := by decide +kernel
theorem d_Lie_feelWarmth_14 : decode prog_5_method_8_code 14 = .ok (.getfield 31, 3) := by decide +kernel
theorem d_Lie_feelWarmth_17 : decode prog_5_method_8_code 17 = .ok (.getfield 83, 3) := by decide +kernel
theorem d_Lie_feelWarmth_20 : decode prog_5_method_8_code 20 = .ok (.iload_n 1, 1) := by decide +kernel
theorem d_Lie_feelWarmth_21 : decode prog_5_method_8_code 21 = .ok (.iaload, 1) := by decide +kernel
theorem d_Lie_feelWarmth_22 : decode prog_5_method_8_code 22 = .ok (.istore_n 2, 1) := by decide +kernel
theorem d_Lie_feelWarmth_23 : decode prog_5_method_8_code 23 = .ok (.iconst 0, 1) := by decide +kernel
theorem d_Lie_feelWarmth_24 : decode prog_5_method_8_code 24 = .ok (.istore_n 3, 1) := by decide +kernel
theorem d_Lie_feelWarmth_25 : decode prog_5_method_8_code 25 = .ok (.iload_n 3, 1) := by decide +kernel
theorem d_Lie_feelWarmth_26 : decode prog_5_method_8_code 26 = .ok (.aload_n 0, 1) := by decide +kernel
theorem d_Lie_feelWarmth_27 : decode prog_5_method_8_code 27 = .ok (.getfield 31, 3) := by decide +kernel
theorem d_Lie_feelWarmth_30 : decode prog_5_method_8_code 30 = .ok (.getfield 35, 3) := by decide +kernel
theorem d_Lie_feelWarmth_33 : decode prog_5_method_8_code 33 = .ok (.if_icmp .ge (35), 3) := by decide +kernel
theorem d_Lie_feelWarmth_36 : decode prog_5_method_8_code 36 = .ok (.iload_n 2, 1) := by decide +kernel
theorem d_Lie_feelWarmth_37 : decode prog_5_method_8_code 37 = .ok (.aload_n 0, 1) := by decide +kernel
theorem d_Lie_feelWarmth_38 : decode prog_5_method_8_code 38 = .ok (.getfield 31, 3) := by decide +kernel
theorem d_Lie_feelWarmth_41 : decode prog_5_method_8_code 41 = .ok (.iload_n 1, 1) := by decide +kernel
theorem d_Lie_feelWarmth_42 : decode prog_5_method_8_code 42 = .ok (.aload_n 0, 1) := by decide +kernel
theorem d_Lie_feelWarmth_43 : decode prog_5_method_8_code 43 = .ok (.getfield 31, 3) := by decide +kernel
theorem d_Lie_feelWarmth_46 : decode prog_5_method_8_code 46 = .ok (.getfield 86, 3) := by decide +kernel
theorem d_Lie_feelWarmth_49 : decode prog_5_method_8_code 49 = .ok (.iload_n 3, 1) := by decide +kernel
theorem d_Lie_feelWarmth_50 : decode prog_5_method_8_code 50 = .ok (.iaload, 1) := by decide +kernel
theorem d_Lie_feelWarmth_51 : decode prog_5_method_8_code 51 = .ok (.aload_n 0, 1) := by decide +kernel
theorem d_Lie_feelWarmth_52 : decode prog_5_method_8_code 52 = .ok (.iload_n 1, 1) := by decide +kernel
theorem d_Lie_feelWarmth_53 : decode prog_5_method_8_code 53 = .ok (.iload_n 3, 1) := by decide +kernel
theorem d_Lie_feelWarmth_54 : decode prog_5_method_8_code 54 = .ok (.invokevirtual 89, 3) := by decide +kernel
theorem d_Lie_feelWarmth_57 : decode prog_5_method_8_code 57 = .ok (.invokevirtual 92, 3) := by decide +kernel
theorem d_Lie_feelWarmth_60 : decode prog_5_method_8_code 60 = .ok (.iadd, 1) := by decide +kernel
theorem d_Lie_feelWarmth_61 : decode prog_5_method_8_code 61 = .ok (.istore_n 2, 1) := by decide +kernel
theorem d_Lie_feelWarmth_62 : decode prog_5_method_8_code 62 = .ok (.iinc 3 (1), 3) := by decide +kernel
theorem d_Lie_feelWarmth_65 : decode prog_5_method_8_code 65 = .ok (.goto (-40), 3) := by decide +kernel
theorem d_Lie_feelWarmth_68 : decode prog_5_method_8_code 68 = .ok (.aload_n 0, 1) := by decide +kernel
theorem d_Lie_feelWarmth_69 : decode prog_5_method_8_code 69 = .ok (.getfield 18, 3) := by decide +kernel
theorem d_Lie_feelWarmth_72 : decode prog_5_method_8_code 72 = .ok (.iload_n 1, 1) := by decide +kernel
theorem d_Lie_feelWarmth_73 : decode prog_5_method_8_code 73 = .ok (.iload_n 2, 1) := by decide +kernel
theorem d_Lie_feelWarmth_74 : decode prog_5_method_8_code 74 = .ok (.iastore, 1) := by decide +kernel
theorem d_Lie_feelWarmth_75 : decode prog_5_method_8_code 75 = .ok (.iinc 1 (1), 3) := by decide +kernel
theorem d_Lie_feelWarmth_78 : decode prog_5_method_8_code 78 = .ok (.goto (-76), 3) := by decide +kernel
theorem d_Lie_feelWarmth_81 : decode prog_5_method_8_code 81 = .ok (.return_, 1) := by decide +kernel
set_option maxHeartbeats 4000000 in
set_option maxRecDepth 100000 in
theorem zf_Lie_feelWarmth_L25 {G : zz_G} {l : Launch} {Z : zz_Z} {q : zz_S} (C : zz_Cx G l "OneBlanket$Lie" "feelWarmth" prog_5_method_8_code 4 (none) 4 (none, zsh, q) Z) (K2 : Int32 → zz_S → Option (zz_S)) (hK2 : ∀ (v1 : Int32) (s : zz_S), K2 v1 s = some q → Z 2 [some (.ref 32), some (.int v1), none, none] [] zsh s) : ∀ (n : Nat) (v1 : Int32) (v2 : Int32) (v3 : Int32) (s : zz_S), f_Lie_feelWarmth_L25 K2 n v1 v2 v3 s = some q → Z 25 [some (.ref 32), some (.int v1), some (.int v2), some (.int v3)] [] zsh s := by
  intro n
  induction n with
  | zero => intro v1 v2 v3 s h; rw [f_Lie_feelWarmth_L25] at h; cases h
  | succ n ih =>
  intro v1 v2 v3 s h
  rw [f_Lie_feelWarmth_L25] at h
  refine zz_iload_n (i := 3) (pc := 25) C rfl rfl d_Lie_feelWarmth_25 ?_
  refine zz_aload_n (i := 0) (pc := 26) C rfl rfl d_Lie_feelWarmth_26 ?_
  refine zz_getR (pc := 27) C zl_3_31 zsh_32 rfl d_Lie_feelWarmth_27 ?_
  refine zz_getI (pc := 30) C zl_3_35 zsh_1 rfl d_Lie_feelWarmth_30 ?_
  refine zz_icmp_ge (tgt := 68) (pc := 33) C (by decide) d_Lie_feelWarmth_33 (fun hc3 => ?_) (fun hc3 => ?_)
  · rw [if_pos hc3] at h
    refine zz_aload_n (i := 0) (pc := 68) C rfl rfl d_Lie_feelWarmth_68 ?_
    refine zz_getR (pc := 69) C zl_3_18 zsh_32 rfl d_Lie_feelWarmth_69 ?_
    refine zz_iload_n (i := 1) (pc := 72) C rfl rfl d_Lie_feelWarmth_72 ?_
    refine zz_iload_n (i := 2) (pc := 73) C rfl rfl d_Lie_feelWarmth_73 ?_
    obtain ⟨hi4, h⟩ := zz_ckE h
    refine zz_iast (pc := 74) C rfl zsh_35 hi4 d_Lie_feelWarmth_74 ?_
    refine zz_iinc (lo' := [some (.ref 32), some (.int (v1 + (1 : Int32))), some (.int v2), some (.int v3)]) (pc := 75) C rfl (zz_inc zki_1) rfl rfl d_Lie_feelWarmth_75 ?_
    refine zz_goto (tgt := 2) (pc := 78) C (by decide) d_Lie_feelWarmth_78 ?_
    refine zz_fg C [true, true, false, false] rfl rfl ?_
    exact hK2 (v1 + (1 : Int32)) (zz_w s 35 (v1.toNatClampNeg) v2) h
  · rw [if_neg hc3] at h
    refine zz_iload_n (i := 2) (pc := 36) C rfl rfl d_Lie_feelWarmth_36 ?_
    refine zz_aload_n (i := 0) (pc := 37) C rfl rfl d_Lie_feelWarmth_37 ?_
    refine zz_getR (pc := 38) C zl_3_31 zsh_32 rfl d_Lie_feelWarmth_38 ?_
    refine zz_iload_n (i := 1) (pc := 41) C rfl rfl d_Lie_feelWarmth_41 ?_
    refine zz_aload_n (i := 0) (pc := 42) C rfl rfl d_Lie_feelWarmth_42 ?_
    refine zz_getR (pc := 43) C zl_3_31 zsh_32 rfl d_Lie_feelWarmth_43 ?_
    refine zz_getR (pc := 46) C zl_3_86 zsh_1 rfl d_Lie_feelWarmth_46 ?_
    refine zz_iload_n (i := 3) (pc := 49) C rfl rfl d_Lie_feelWarmth_49 ?_
    obtain ⟨hi5, h⟩ := zz_ckE h
    refine zz_iald (pc := 50) C rfl zsh_8 hi5 d_Lie_feelWarmth_50 ?_
    refine zz_aload_n (i := 0) (pc := 51) C rfl rfl d_Lie_feelWarmth_51 ?_
    refine zz_iload_n (i := 1) (pc := 52) C rfl rfl d_Lie_feelWarmth_52 ?_
    refine zz_iload_n (i := 3) (pc := 53) C rfl rfl d_Lie_feelWarmth_53 ?_
    obtain ⟨q6, hq6, h⟩ := zz_bdE h
    refine zz_cVi (as := [.int v1, .int v3]) (st := [.int (s.1 8 (v3.toNatClampNeg)), .int v1, .ref 1, .int v2]) (pc := 54) C (zm_Lie_underOf hq6) zcv_Lie_underOf zsh_32 zl_3_89 (by omega) (Nat.le_of_ble_eq_true rfl) d_Lie_feelWarmth_54 rfl rfl ?_
    obtain ⟨q7, hq7, h⟩ := zz_bdE h
    refine zz_cVi (as := [.int v1, .int (s.1 8 (v3.toNatClampNeg)), .int q6]) (st := [.int v2]) (pc := 57) C (zm_Bed_partOf hq7) zcv_Bed_partOf zsh_1 zl_3_92 (by omega) (Nat.le_of_ble_eq_true rfl) d_Lie_feelWarmth_57 rfl rfl ?_
    refine zz_iadd (pc := 60) C d_Lie_feelWarmth_60 ?_
    refine zz_istore_n (i := 2) (lo' := [some (.ref 32), some (.int v1), some (.int (v2 + q7)), some (.int v3)]) (pc := 61) C rfl (Nat.le_of_ble_eq_true rfl) rfl rfl d_Lie_feelWarmth_61 ?_
    refine zz_iinc (lo' := [some (.ref 32), some (.int v1), some (.int (v2 + q7)), some (.int (v3 + (1 : Int32)))]) (pc := 62) C rfl (zz_inc zki_1) rfl rfl d_Lie_feelWarmth_62 ?_
    refine zz_goto (tgt := 25) (pc := 65) C (by decide) d_Lie_feelWarmth_65 ?_
    exact ih v1 (v2 + q7) (v3 + (1 : Int32)) s h
set_option maxHeartbeats 4000000 in
set_option maxRecDepth 100000 in
theorem zf_Lie_feelWarmth_L2 {G : zz_G} {l : Launch} {Z : zz_Z} {q : zz_S} (C : zz_Cx G l "OneBlanket$Lie" "feelWarmth" prog_5_method_8_code 4 (none) 4 (none, zsh, q) Z) : ∀ (n : Nat) (v1 : Int32) (s : zz_S), f_Lie_feelWarmth_L2 n v1 s = some q → Z 2 [some (.ref 32), some (.int v1), none, none] [] zsh s := by
  intro n
  induction n with
  | zero => intro v1 s h; rw [f_Lie_feelWarmth_L2] at h; cases h
  | succ n ih =>
  intro v1 s h
  rw [f_Lie_feelWarmth_L2] at h
  refine zz_iload_n (i := 1) (pc := 2) C rfl rfl d_Lie_feelWarmth_2 ?_
  refine zz_aload_n (i := 0) (pc := 3) C rfl rfl d_Lie_feelWarmth_3 ?_
  refine zz_getR (pc := 4) C zl_3_31 zsh_32 rfl d_Lie_feelWarmth_4 ?_
  refine zz_getI (pc := 7) C zl_3_50 zsh_1 rfl d_Lie_feelWarmth_7 ?_
  refine zz_icmp_ge (tgt := 81) (pc := 10) C (by decide) d_Lie_feelWarmth_10 (fun hc1 => ?_) (fun hc1 => ?_)
  · rw [if_pos hc1] at h
    replace h := Option.some.inj h
    subst h
    exact zz_ret (pc := 81) C (v := none) d_Lie_feelWarmth_81 (Or.inr (Or.inr (Or.inr ⟨rfl, rfl, rfl⟩))) rfl
  · rw [if_neg hc1] at h
    refine zz_aload_n (i := 0) (pc := 13) C rfl rfl d_Lie_feelWarmth_13 ?_
    refine zz_getR (pc := 14) C zl_3_31 zsh_32 rfl d_Lie_feelWarmth_14 ?_
    refine zz_getR (pc := 17) C zl_3_83 zsh_1 rfl d_Lie_feelWarmth_17 ?_
    refine zz_iload_n (i := 1) (pc := 20) C rfl rfl d_Lie_feelWarmth_20 ?_
    obtain ⟨hi2, h⟩ := zz_ckE h
    refine zz_iald (pc := 21) C rfl zsh_5 hi2 d_Lie_feelWarmth_21 ?_
    refine zz_istore_n (i := 2) (lo' := [some (.ref 32), some (.int v1), some (.int (s.1 5 (v1.toNatClampNeg))), none]) (pc := 22) C rfl (Nat.le_of_ble_eq_true rfl) rfl rfl d_Lie_feelWarmth_22 ?_
    refine zz_iconst (pc := 23) C zki_0 d_Lie_feelWarmth_23 ?_
    refine zz_istore_n (i := 3) (lo' := [some (.ref 32), some (.int v1), some (.int (s.1 5 (v1.toNatClampNeg))), some (.int (0 : Int32))]) (pc := 24) C rfl (Nat.le_of_ble_eq_true rfl) rfl rfl d_Lie_feelWarmth_24 ?_
    exact zf_Lie_feelWarmth_L25 C (f_Lie_feelWarmth_L2 n) ih zF v1 (s.1 5 (v1.toNatClampNeg)) (0 : Int32) s h
set_option maxHeartbeats 4000000 in
set_option maxRecDepth 100000 in
theorem zf_Lie_feelWarmth {G : zz_G} {l : Launch} {Z : zz_Z} {q : zz_S} {s : zz_S} (C : zz_Cx G l "OneBlanket$Lie" "feelWarmth" prog_5_method_8_code 4 (none) 4 (none, zsh, q) Z) (h : f_Lie_feelWarmth s = some q) : Z 0 [some (.ref 32), none, none, none] [] zsh s := by
  unfold f_Lie_feelWarmth at h
  refine zz_iconst (pc := 0) C zki_0 d_Lie_feelWarmth_0 ?_
  refine zz_istore_n (i := 1) (lo' := [some (.ref 32), some (.int (0 : Int32)), none, none]) (pc := 1) C rfl (Nat.le_of_ble_eq_true rfl) rfl rfl d_Lie_feelWarmth_1 ?_
  exact zf_Lie_feelWarmth_L2 C zF (0 : Int32) s h
theorem zm_Lie_feelWarmth {G : zz_G} {l : Launch} {s : zz_S} {q : zz_S} (h : f_Lie_feelWarmth s = some q) : zz_M G l 4 y_Lie_feelWarmth prog_5_method_8_code 4 (none) [.ref 32] zsh s (none, zsh, q) :=
  zz_M.intro (by decide) (Nat.le_of_ble_eq_true rfl) (Nat.le_refl _) (Nat.le_refl _) (fun Z C => zf_Lie_feelWarmth C h)
theorem d_Lie_begin_0 : decode prog_5_method_2_code 0 = .ok (.iconst 0, 1) := by decide +kernel
theorem d_Lie_begin_1 : decode prog_5_method_2_code 1 = .ok (.istore_n 2, 1) := by decide +kernel
theorem d_Lie_begin_2 : decode prog_5_method_2_code 2 = .ok (.iload_n 2, 1) := by decide +kernel
theorem d_Lie_begin_3 : decode prog_5_method_2_code 3 = .ok (.aload_n 0, 1) := by decide +kernel
theorem d_Lie_begin_4 : decode prog_5_method_2_code 4 = .ok (.getfield 31, 3) := by decide +kernel
theorem d_Lie_begin_7 : decode prog_5_method_2_code 7 = .ok (.getfield 35, 3) := by decide +kernel
theorem d_Lie_begin_10 : decode prog_5_method_2_code 10 = .ok (.if_icmp .ge (30), 3) := by decide +kernel
theorem d_Lie_begin_13 : decode prog_5_method_2_code 13 = .ok (.aload_n 0, 1) := by decide +kernel
theorem d_Lie_begin_14 : decode prog_5_method_2_code 14 = .ok (.getfield 21, 3) := by decide +kernel
theorem d_Lie_begin_17 : decode prog_5_method_2_code 17 = .ok (.iload_n 2, 1) := by decide +kernel
theorem d_Lie_begin_18 : decode prog_5_method_2_code 18 = .ok (.aload_n 0, 1) := by decide +kernel
theorem d_Lie_begin_19 : decode prog_5_method_2_code 19 = .ok (.getfield 31, 3) := by decide +kernel
theorem d_Lie_begin_22 : decode prog_5_method_2_code 22 = .ok (.getfield 41, 3) := by decide +kernel
theorem d_Lie_begin_25 : decode prog_5_method_2_code 25 = .ok (.iload_n 2, 1) := by decide +kernel
theorem d_Lie_begin_26 : decode prog_5_method_2_code 26 = .ok (.iaload, 1) := by decide +kernel
theorem d_Lie_begin_27 : decode prog_5_method_2_code 27 = .ok (.iastore, 1) := by decide +kernel
theorem d_Lie_begin_28 : decode prog_5_method_2_code 28 = .ok (.aload_n 0, 1) := by decide +kernel
theorem d_Lie_begin_29 : decode prog_5_method_2_code 29 = .ok (.iload_n 2, 1) := by decide +kernel
theorem d_Lie_begin_30 : decode prog_5_method_2_code 30 = .ok (.iconst 0, 1) := by decide +kernel
theorem d_Lie_begin_31 : decode prog_5_method_2_code 31 = .ok (.invokevirtual 42, 3) := by decide +kernel
theorem d_Lie_begin_34 : decode prog_5_method_2_code 34 = .ok (.iinc 2 (1), 3) := by decide +kernel
theorem d_Lie_begin_37 : decode prog_5_method_2_code 37 = .ok (.goto (-35), 3) := by decide +kernel
theorem d_Lie_begin_40 : decode prog_5_method_2_code 40 = .ok (.aload_n 0, 1) := by decide +kernel
theorem d_Lie_begin_41 : decode prog_5_method_2_code 41 = .ok (.invokevirtual 46, 3) := by decide +kernel
theorem d_Lie_begin_44 : decode prog_5_method_2_code 44 = .ok (.lstore_n 2, 1) := by decide +kernel
theorem d_Lie_begin_45 : decode prog_5_method_2_code 45 = .ok (.iconst 0, 1) := by decide +kernel
theorem d_Lie_begin_46 : decode prog_5_method_2_code 46 = .ok (.istore 4, 2) := by decide +kernel
theorem d_Lie_begin_48 : decode prog_5_method_2_code 48 = .ok (.iload 4, 2) := by decide +kernel
theorem d_Lie_begin_50 : decode prog_5_method_2_code 50 = .ok (.aload_n 0, 1) := by decide +kernel
theorem d_Lie_begin_51 : decode prog_5_method_2_code 51 = .ok (.getfield 31, 3) := by decide +kernel
theorem d_Lie_begin_54 : decode prog_5_method_2_code 54 = .ok (.getfield 50, 3) := by decide +kernel
theorem d_Lie_begin_57 : decode prog_5_method_2_code 57 = .ok (.if_icmp .ge (35), 3) := by decide +kernel
theorem d_Lie_begin_60 : decode prog_5_method_2_code 60 = .ok (.aload_n 0, 1) := by decide +kernel
theorem d_Lie_begin_61 : decode prog_5_method_2_code 61 = .ok (.getfield 9, 3) := by decide +kernel
theorem d_Lie_begin_64 : decode prog_5_method_2_code 64 = .ok (.iload 4, 2) := by decide +kernel
theorem d_Lie_begin_66 : decode prog_5_method_2_code 66 = .ok (.aload_n 1, 1) := by decide +kernel
theorem d_Lie_begin_67 : decode prog_5_method_2_code 67 = .ok (.iload 4, 2) := by decide +kernel
theorem d_Lie_begin_69 : decode prog_5_method_2_code 69 = .ok (.iaload, 1) := by decide +kernel
theorem d_Lie_begin_70 : decode prog_5_method_2_code 70 = .ok (.iastore, 1) := by decide +kernel
theorem d_Lie_begin_71 : decode prog_5_method_2_code 71 = .ok (.aload_n 0, 1) := by decide +kernel
theorem d_Lie_begin_72 : decode prog_5_method_2_code 72 = .ok (.iload 4, 2) := by decide +kernel
theorem d_Lie_begin_74 : decode prog_5_method_2_code 74 = .ok (.iconst 0, 1) := by decide +kernel
theorem d_Lie_begin_75 : decode prog_5_method_2_code 75 = .ok (.invokevirtual 53, 3) := by decide +kernel
theorem d_Lie_begin_78 : decode prog_5_method_2_code 78 = .ok (.aload_n 0, 1) := by decide +kernel
theorem d_Lie_begin_79 : decode prog_5_method_2_code 79 = .ok (.iload 4, 2) := by decide +kernel
theorem d_Lie_begin_81 : decode prog_5_method_2_code 81 = .ok (.lload_n 2, 1) := by decide +kernel
theorem d_Lie_begin_82 : decode prog_5_method_2_code 82 = .ok (.invokevirtual 56, 3) := by decide +kernel
theorem d_Lie_begin_85 : decode prog_5_method_2_code 85 = .ok (.pop, 1) := by decide +kernel
theorem d_Lie_begin_86 : decode prog_5_method_2_code 86 = .ok (.iinc 4 (1), 3) := by decide +kernel
theorem d_Lie_begin_89 : decode prog_5_method_2_code 89 = .ok (.goto (-41), 3) := by decide +kernel
theorem d_Lie_begin_92 : decode prog_5_method_2_code 92 = .ok (.aload_n 0, 1) := by decide +kernel
theorem d_Lie_begin_93 : decode prog_5_method_2_code 93 = .ok (.invokevirtual 60, 3) := by decide +kernel
theorem d_Lie_begin_96 : decode prog_5_method_2_code 96 = .ok (.return_, 1) := by decide +kernel
set_option maxHeartbeats 4000000 in
set_option maxRecDepth 100000 in
theorem zf_Lie_begin_L48 {G : zz_G} {l : Launch} {Z : zz_Z} {q : zz_S} (C : zz_Cx G l "OneBlanket$Lie" "begin" prog_5_method_2_code 5 (none) 5 (none, zsh, q) Z) : ∀ (n : Nat) (v1 : Nat) (v2 : Int64) (v4 : Int32) (s : zz_S) (hv1 : v1 ∈ zS1), f_Lie_begin_L48 n v1 v2 v4 s = some q → Z 48 [some (.ref 32), some (.ref v1), some (.long v2), none, some (.int v4)] [] zsh s := by
  intro n
  induction n with
  | zero => intro v1 v2 v4 s hv1 h; rw [f_Lie_begin_L48] at h; cases h
  | succ n ih =>
  intro v1 v2 v4 s hv1 h
  rw [f_Lie_begin_L48] at h
  refine zz_iload (i := 4) (pc := 48) C rfl d_Lie_begin_48 ?_
  refine zz_aload_n (i := 0) (pc := 50) C rfl rfl d_Lie_begin_50 ?_
  refine zz_getR (pc := 51) C zl_3_31 zsh_32 rfl d_Lie_begin_51 ?_
  refine zz_getI (pc := 54) C zl_3_50 zsh_1 rfl d_Lie_begin_54 ?_
  refine zz_icmp_ge (tgt := 92) (pc := 57) C (by decide) d_Lie_begin_57 (fun hc3 => ?_) (fun hc3 => ?_)
  · rw [if_pos hc3] at h
    refine zz_aload_n (i := 0) (pc := 92) C rfl rfl d_Lie_begin_92 ?_
    obtain ⟨q4, hq4, h⟩ := zz_bdE h
    refine zz_cVv (as := []) (st := []) (pc := 93) C (zm_Lie_feelWarmth hq4) zcv_Lie_feelWarmth zsh_32 zl_3_60 (by omega) (Nat.le_of_ble_eq_true rfl) d_Lie_begin_93 rfl rfl ?_
    replace h := Option.some.inj h
    subst h
    exact zz_ret (pc := 96) C (v := none) d_Lie_begin_96 (Or.inr (Or.inr (Or.inr ⟨rfl, rfl, rfl⟩))) rfl
  · rw [if_neg hc3] at h
    refine zz_aload_n (i := 0) (pc := 60) C rfl rfl d_Lie_begin_60 ?_
    refine zz_getR (pc := 61) C zl_3_9 zsh_32 rfl d_Lie_begin_61 ?_
    refine zz_iload (i := 4) (pc := 64) C rfl d_Lie_begin_64 ?_
    refine zz_aload_n (i := 1) (pc := 66) C rfl rfl d_Lie_begin_66 ?_
    refine zz_iload (i := 4) (pc := 67) C rfl d_Lie_begin_67 ?_
    obtain ⟨hi5, h⟩ := zz_ckE h
    refine zz_iald (pc := 69) C rfl (zS1_sh hv1) hi5 d_Lie_begin_69 ?_
    refine zz_iast (pc := 70) C rfl zsh_33 hi5 d_Lie_begin_70 ?_
    refine zz_aload_n (i := 0) (pc := 71) C rfl rfl d_Lie_begin_71 ?_
    refine zz_iload (i := 4) (pc := 72) C rfl d_Lie_begin_72 ?_
    refine zz_iconst (pc := 74) C zki_0 d_Lie_begin_74 ?_
    obtain ⟨q6, hq6, h⟩ := zz_bdE h
    refine zz_cVv (as := [.int v4, .int (0 : Int32)]) (st := []) (pc := 75) C (zm_Lie_moveSleeper hq6) zcv_Lie_moveSleeper zsh_32 zl_3_53 (by omega) (Nat.le_of_ble_eq_true rfl) d_Lie_begin_75 rfl rfl ?_
    refine zz_aload_n (i := 0) (pc := 78) C rfl rfl d_Lie_begin_78 ?_
    refine zz_iload (i := 4) (pc := 79) C rfl d_Lie_begin_79 ?_
    refine zz_lload_n (i := 2) (pc := 81) C rfl rfl d_Lie_begin_81 ?_
    obtain ⟨q7, hq7, h⟩ := zz_bdE h
    refine zz_cVi (as := [.int v4, .long v2]) (st := []) (pc := 82) C (zm_Lie_coverAnew hq7) zcv_Lie_coverAnew zsh_32 zl_3_56 (by omega) (Nat.le_of_ble_eq_true rfl) d_Lie_begin_82 rfl rfl ?_
    refine zz_pop (pc := 85) C rfl d_Lie_begin_85 ?_
    refine zz_iinc (lo' := [some (.ref 32), some (.ref v1), some (.long v2), none, some (.int (v4 + (1 : Int32)))]) (pc := 86) C rfl (zz_inc zki_1) rfl rfl d_Lie_begin_86 ?_
    refine zz_goto (tgt := 48) (pc := 89) C (by decide) d_Lie_begin_89 ?_
    exact ih v1 v2 (v4 + (1 : Int32)) q7.2 hv1 h
set_option maxHeartbeats 4000000 in
set_option maxRecDepth 100000 in
theorem zf_Lie_begin_L2 {G : zz_G} {l : Launch} {Z : zz_Z} {q : zz_S} (C : zz_Cx G l "OneBlanket$Lie" "begin" prog_5_method_2_code 5 (none) 5 (none, zsh, q) Z) : ∀ (n : Nat) (v1 : Nat) (v2 : Int32) (s : zz_S) (hv1 : v1 ∈ zS1), f_Lie_begin_L2 n v1 v2 s = some q → Z 2 [some (.ref 32), some (.ref v1), some (.int v2), none, none] [] zsh s := by
  intro n
  induction n with
  | zero => intro v1 v2 s hv1 h; rw [f_Lie_begin_L2] at h; cases h
  | succ n ih =>
  intro v1 v2 s hv1 h
  rw [f_Lie_begin_L2] at h
  refine zz_iload_n (i := 2) (pc := 2) C rfl rfl d_Lie_begin_2 ?_
  refine zz_aload_n (i := 0) (pc := 3) C rfl rfl d_Lie_begin_3 ?_
  refine zz_getR (pc := 4) C zl_3_31 zsh_32 rfl d_Lie_begin_4 ?_
  refine zz_getI (pc := 7) C zl_3_35 zsh_1 rfl d_Lie_begin_7 ?_
  refine zz_icmp_ge (tgt := 40) (pc := 10) C (by decide) d_Lie_begin_10 (fun hc1 => ?_) (fun hc1 => ?_)
  · rw [if_pos hc1] at h
    refine zz_aload_n (i := 0) (pc := 40) C rfl rfl d_Lie_begin_40 ?_
    obtain ⟨q2, hq2, h⟩ := zz_bdE h
    refine zz_cVl (as := []) (st := []) (pc := 41) C (zm_Lie_allCovers hq2) zcv_Lie_allCovers zsh_32 zl_3_46 (by omega) (Nat.le_of_ble_eq_true rfl) d_Lie_begin_41 rfl rfl ?_
    refine zz_lstore_n (i := 2) (lo' := [some (.ref 32), some (.ref v1), some (.long q2), none, none]) (pc := 44) C rfl (Nat.le_of_ble_eq_true rfl) rfl rfl d_Lie_begin_44 ?_
    refine zz_iconst (pc := 45) C zki_0 d_Lie_begin_45 ?_
    refine zz_istore (i := 4) (lo' := [some (.ref 32), some (.ref v1), some (.long q2), none, some (.int (0 : Int32))]) (pc := 46) C (Nat.le_of_ble_eq_true rfl) rfl rfl d_Lie_begin_46 ?_
    exact zf_Lie_begin_L48 C zF v1 q2 (0 : Int32) s hv1 h
  · rw [if_neg hc1] at h
    refine zz_aload_n (i := 0) (pc := 13) C rfl rfl d_Lie_begin_13 ?_
    refine zz_getR (pc := 14) C zl_3_21 zsh_32 rfl d_Lie_begin_14 ?_
    refine zz_iload_n (i := 2) (pc := 17) C rfl rfl d_Lie_begin_17 ?_
    refine zz_aload_n (i := 0) (pc := 18) C rfl rfl d_Lie_begin_18 ?_
    refine zz_getR (pc := 19) C zl_3_31 zsh_32 rfl d_Lie_begin_19 ?_
    refine zz_getR (pc := 22) C zl_3_41 zsh_1 rfl d_Lie_begin_22 ?_
    refine zz_iload_n (i := 2) (pc := 25) C rfl rfl d_Lie_begin_25 ?_
    obtain ⟨hi8, h⟩ := zz_ckE h
    refine zz_iald (pc := 26) C rfl zsh_6 hi8 d_Lie_begin_26 ?_
    refine zz_iast (pc := 27) C rfl zsh_36 hi8 d_Lie_begin_27 ?_
    refine zz_aload_n (i := 0) (pc := 28) C rfl rfl d_Lie_begin_28 ?_
    refine zz_iload_n (i := 2) (pc := 29) C rfl rfl d_Lie_begin_29 ?_
    refine zz_iconst (pc := 30) C zki_0 d_Lie_begin_30 ?_
    obtain ⟨q9, hq9, h⟩ := zz_bdE h
    refine zz_cVv (as := [.int v2, .int (0 : Int32)]) (st := []) (pc := 31) C (zm_Lie_moveCover hq9) zcv_Lie_moveCover zsh_32 zl_3_42 (by omega) (Nat.le_of_ble_eq_true rfl) d_Lie_begin_31 rfl rfl ?_
    refine zz_iinc (lo' := [some (.ref 32), some (.ref v1), some (.int (v2 + (1 : Int32))), none, none]) (pc := 34) C rfl (zz_inc zki_1) rfl rfl d_Lie_begin_34 ?_
    refine zz_goto (tgt := 2) (pc := 37) C (by decide) d_Lie_begin_37 ?_
    exact ih v1 (v2 + (1 : Int32)) q9 hv1 h
set_option maxHeartbeats 4000000 in
set_option maxRecDepth 100000 in
theorem zf_Lie_begin {G : zz_G} {l : Launch} {Z : zz_Z} {q : zz_S} {s : zz_S} (C : zz_Cx G l "OneBlanket$Lie" "begin" prog_5_method_2_code 5 (none) 5 (none, zsh, q) Z) (a1 : Nat) (ha1 : a1 ∈ zS1) (h : f_Lie_begin a1 s = some q) : Z 0 [some (.ref 32), some (.ref a1), none, none, none] [] zsh s := by
  unfold f_Lie_begin at h
  refine zz_iconst (pc := 0) C zki_0 d_Lie_begin_0 ?_
  refine zz_istore_n (i := 2) (lo' := [some (.ref 32), some (.ref a1), some (.int (0 : Int32)), none, none]) (pc := 1) C rfl (Nat.le_of_ble_eq_true rfl) rfl rfl d_Lie_begin_1 ?_
  exact zf_Lie_begin_L2 C zF a1 (0 : Int32) s ha1 h
theorem zm_Lie_begin {G : zz_G} {l : Launch} {s : zz_S} {q : zz_S} {a1 : Nat} (ha1 : a1 ∈ zS1) (h : f_Lie_begin a1 s = some q) : zz_M G l 5 y_Lie_begin prog_5_method_2_code 5 (none) [.ref 32, .ref a1] zsh s (none, zsh, q) :=
  zz_M.intro (by decide) (Nat.le_of_ble_eq_true rfl) (Nat.le_refl _) (Nat.le_refl _) (fun Z C => zf_Lie_begin C a1 ha1 h)
theorem d_Lie_isBare_0 : decode prog_5_method_9_code 0 = .ok (.aload_n 0, 1) := by decide +kernel
theorem d_Lie_isBare_1 : decode prog_5_method_9_code 1 = .ok (.getfield 15, 3) := by decide +kernel
theorem d_Lie_isBare_4 : decode prog_5_method_9_code 4 = .ok (.iload_n 1, 1) := by decide +kernel
theorem d_Lie_isBare_5 : decode prog_5_method_9_code 5 = .ok (.iaload, 1) := by decide +kernel
theorem d_Lie_isBare_6 : decode prog_5_method_9_code 6 = .ok (.aload_n 0, 1) := by decide +kernel
theorem d_Lie_isBare_7 : decode prog_5_method_9_code 7 = .ok (.getfield 31, 3) := by decide +kernel
theorem d_Lie_isBare_10 : decode prog_5_method_9_code 10 = .ok (.getfield 74, 3) := by decide +kernel
theorem d_Lie_isBare_13 : decode prog_5_method_9_code 13 = .ok (.iload_n 1, 1) := by decide +kernel
theorem d_Lie_isBare_14 : decode prog_5_method_9_code 14 = .ok (.iaload, 1) := by decide +kernel
theorem d_Lie_isBare_15 : decode prog_5_method_9_code 15 = .ok (.if_icmp .ge (7), 3) := by decide +kernel
theorem d_Lie_isBare_18 : decode prog_5_method_9_code 18 = .ok (.iconst 1, 1) := by decide +kernel
theorem d_Lie_isBare_19 : decode prog_5_method_9_code 19 = .ok (.goto (4), 3) := by decide +kernel
theorem d_Lie_isBare_22 : decode prog_5_method_9_code 22 = .ok (.iconst 0, 1) := by decide +kernel
theorem d_Lie_isBare_23 : decode prog_5_method_9_code 23 = .ok (.ireturn, 1) := by decide +kernel
set_option maxHeartbeats 4000000 in
set_option maxRecDepth 100000 in
theorem zf_Lie_isBare {G : zz_G} {l : Launch} {Z : zz_Z} {q : Int32} {s : zz_S} (C : zz_Cx G l "OneBlanket$Lie" "isBare" prog_5_method_9_code 2 (some .boolean) 2 (some (.int q), zsh, s) Z) (a1 : Int32) (h : f_Lie_isBare a1 s = some q) : Z 0 [some (.ref 32), some (.int a1)] [] zsh s := by
  unfold f_Lie_isBare at h
  refine zz_aload_n (i := 0) (pc := 0) C rfl rfl d_Lie_isBare_0 ?_
  refine zz_getR (pc := 1) C zl_3_15 zsh_32 rfl d_Lie_isBare_1 ?_
  refine zz_iload_n (i := 1) (pc := 4) C rfl rfl d_Lie_isBare_4 ?_
  obtain ⟨hi1, h⟩ := zz_ckE h
  refine zz_iald (pc := 5) C rfl zsh_34 hi1 d_Lie_isBare_5 ?_
  refine zz_aload_n (i := 0) (pc := 6) C rfl rfl d_Lie_isBare_6 ?_
  refine zz_getR (pc := 7) C zl_3_31 zsh_32 rfl d_Lie_isBare_7 ?_
  refine zz_getR (pc := 10) C zl_3_74 zsh_1 rfl d_Lie_isBare_10 ?_
  refine zz_iload_n (i := 1) (pc := 13) C rfl rfl d_Lie_isBare_13 ?_
  refine zz_iald (pc := 14) C rfl zsh_3 hi1 d_Lie_isBare_14 ?_
  refine zz_icmp_ge (tgt := 22) (pc := 15) C (by decide) d_Lie_isBare_15 (fun hc2 => ?_) (fun hc2 => ?_)
  · rw [if_pos hc2] at h
    refine zz_iconst (pc := 22) C zki_0 d_Lie_isBare_22 ?_
    replace h := Option.some.inj h
    subst h
    exact zz_ret (pc := 23) C (v := some (.int (0 : Int32))) d_Lie_isBare_23 (Or.inl ⟨_, _, rfl, rfl, rfl, (by decide)⟩) rfl
  · rw [if_neg hc2] at h
    refine zz_iconst (pc := 18) C zki_1 d_Lie_isBare_18 ?_
    refine zz_goto (tgt := 23) (pc := 19) C (by decide) d_Lie_isBare_19 ?_
    replace h := Option.some.inj h
    subst h
    exact zz_ret (pc := 23) C (v := some (.int (1 : Int32))) d_Lie_isBare_23 (Or.inl ⟨_, _, rfl, rfl, rfl, (by decide)⟩) rfl
theorem zm_Lie_isBare {G : zz_G} {l : Launch} {s : zz_S} {q : Int32} {a1 : Int32} (h : f_Lie_isBare a1 s = some q) : zz_M G l 2 y_Lie_isBare prog_5_method_9_code 2 (some .boolean) [.ref 32, .int a1] zsh s (some (.int q), zsh, s) :=
  zz_M.intro (by decide) (Nat.le_of_ble_eq_true rfl) (Nat.le_refl _) (Nat.le_refl _) (fun Z C => zf_Lie_isBare C a1 h)
theorem d_Lie_isNoneBare_0 : decode prog_5_method_10_code 0 = .ok (.iconst 0, 1) := by decide +kernel
theorem d_Lie_isNoneBare_1 : decode prog_5_method_10_code 1 = .ok (.istore_n 1, 1) := by decide +kernel
theorem d_Lie_isNoneBare_2 : decode prog_5_method_10_code 2 = .ok (.iload_n 1, 1) := by decide +kernel
theorem d_Lie_isNoneBare_3 : decode prog_5_method_10_code 3 = .ok (.aload_n 0, 1) := by decide +kernel
theorem d_Lie_isNoneBare_4 : decode prog_5_method_10_code 4 = .ok (.getfield 31, 3) := by decide +kernel
theorem d_Lie_isNoneBare_7 : decode prog_5_method_10_code 7 = .ok (.getfield 50, 3) := by decide +kernel
theorem d_Lie_isNoneBare_10 : decode prog_5_method_10_code 10 = .ok (.if_icmp .ge (19), 3) := by decide +kernel
theorem d_Lie_isNoneBare_13 : decode prog_5_method_10_code 13 = .ok (.aload_n 0, 1) := by decide +kernel
theorem d_Lie_isNoneBare_14 : decode prog_5_method_10_code 14 = .ok (.iload_n 1, 1) := by decide +kernel
theorem d_Lie_isNoneBare_15 : decode prog_5_method_10_code 15 = .ok (.invokevirtual 96, 3) := by decide +kernel
theorem d_Lie_isNoneBare_18 : decode prog_5_method_10_code 18 = .ok (.ifCond .eq (5), 3) := by decide +kernel
theorem d_Lie_isNoneBare_21 : decode prog_5_method_10_code 21 = .ok (.iconst 0, 1) := by decide +kernel
theorem d_Lie_isNoneBare_22 : decode prog_5_method_10_code 22 = .ok (.ireturn, 1) := by decide +kernel
theorem d_Lie_isNoneBare_23 : decode prog_5_method_10_code 23 = .ok (.iinc 1 (1), 3) := by decide +kernel
theorem d_Lie_isNoneBare_26 : decode prog_5_method_10_code 26 = .ok (.goto (-24), 3) := by decide +kernel
theorem d_Lie_isNoneBare_29 : decode prog_5_method_10_code 29 = .ok (.iconst 1, 1) := by decide +kernel
theorem d_Lie_isNoneBare_30 : decode prog_5_method_10_code 30 = .ok (.ireturn, 1) := by decide +kernel
set_option maxHeartbeats 4000000 in
set_option maxRecDepth 100000 in
theorem zf_Lie_isNoneBare_L2 {G : zz_G} {l : Launch} {Z : zz_Z} {q : Int32} {s : zz_S} (C : zz_Cx G l "OneBlanket$Lie" "isNoneBare" prog_5_method_10_code 2 (some .boolean) 3 (some (.int q), zsh, s) Z) : ∀ (n : Nat) (v1 : Int32), f_Lie_isNoneBare_L2 s n v1 = some q → Z 2 [some (.ref 32), some (.int v1)] [] zsh s := by
  intro n
  induction n with
  | zero => intro v1 h; rw [f_Lie_isNoneBare_L2] at h; cases h
  | succ n ih =>
  intro v1 h
  rw [f_Lie_isNoneBare_L2] at h
  refine zz_iload_n (i := 1) (pc := 2) C rfl rfl d_Lie_isNoneBare_2 ?_
  refine zz_aload_n (i := 0) (pc := 3) C rfl rfl d_Lie_isNoneBare_3 ?_
  refine zz_getR (pc := 4) C zl_3_31 zsh_32 rfl d_Lie_isNoneBare_4 ?_
  refine zz_getI (pc := 7) C zl_3_50 zsh_1 rfl d_Lie_isNoneBare_7 ?_
  refine zz_icmp_ge (tgt := 29) (pc := 10) C (by decide) d_Lie_isNoneBare_10 (fun hc1 => ?_) (fun hc1 => ?_)
  · rw [if_pos hc1] at h
    refine zz_iconst (pc := 29) C zki_1 d_Lie_isNoneBare_29 ?_
    replace h := Option.some.inj h
    subst h
    exact zz_ret (pc := 30) C (v := some (.int (1 : Int32))) d_Lie_isNoneBare_30 (Or.inl ⟨_, _, rfl, rfl, rfl, (by decide)⟩) rfl
  · rw [if_neg hc1] at h
    refine zz_aload_n (i := 0) (pc := 13) C rfl rfl d_Lie_isNoneBare_13 ?_
    refine zz_iload_n (i := 1) (pc := 14) C rfl rfl d_Lie_isNoneBare_14 ?_
    obtain ⟨q2, hq2, h⟩ := zz_bdE h
    refine zz_cVi (as := [.int v1]) (st := []) (pc := 15) C (zm_Lie_isBare hq2) zcv_Lie_isBare zsh_32 zl_3_96 (by omega) (Nat.le_of_ble_eq_true rfl) d_Lie_isNoneBare_15 rfl rfl ?_
    refine zz_if_eq (tgt := 23) (pc := 18) C (by decide) d_Lie_isNoneBare_18 (fun hc3 => ?_) (fun hc3 => ?_)
    · rw [if_pos hc3] at h
      refine zz_iinc (lo' := [some (.ref 32), some (.int (v1 + (1 : Int32)))]) (pc := 23) C rfl (zz_inc zki_1) rfl rfl d_Lie_isNoneBare_23 ?_
      refine zz_goto (tgt := 2) (pc := 26) C (by decide) d_Lie_isNoneBare_26 ?_
      exact ih (v1 + (1 : Int32)) h
    · rw [if_neg hc3] at h
      refine zz_iconst (pc := 21) C zki_0 d_Lie_isNoneBare_21 ?_
      replace h := Option.some.inj h
      subst h
      exact zz_ret (pc := 22) C (v := some (.int (0 : Int32))) d_Lie_isNoneBare_22 (Or.inl ⟨_, _, rfl, rfl, rfl, (by decide)⟩) rfl
set_option maxHeartbeats 4000000 in
set_option maxRecDepth 100000 in
theorem zf_Lie_isNoneBare {G : zz_G} {l : Launch} {Z : zz_Z} {q : Int32} {s : zz_S} (C : zz_Cx G l "OneBlanket$Lie" "isNoneBare" prog_5_method_10_code 2 (some .boolean) 3 (some (.int q), zsh, s) Z) (h : f_Lie_isNoneBare s = some q) : Z 0 [some (.ref 32), none] [] zsh s := by
  unfold f_Lie_isNoneBare at h
  refine zz_iconst (pc := 0) C zki_0 d_Lie_isNoneBare_0 ?_
  refine zz_istore_n (i := 1) (lo' := [some (.ref 32), some (.int (0 : Int32))]) (pc := 1) C rfl (Nat.le_of_ble_eq_true rfl) rfl rfl d_Lie_isNoneBare_1 ?_
  exact zf_Lie_isNoneBare_L2 C zF (0 : Int32) h
theorem zm_Lie_isNoneBare {G : zz_G} {l : Launch} {s : zz_S} {q : Int32} (h : f_Lie_isNoneBare s = some q) : zz_M G l 3 y_Lie_isNoneBare prog_5_method_10_code 2 (some .boolean) [.ref 32] zsh s (some (.int q), zsh, s) :=
  zz_M.intro (by decide) (Nat.le_of_ble_eq_true rfl) (Nat.le_refl _) (Nat.le_refl _) (fun Z C => zf_Lie_isNoneBare C h)
theorem d_Tally_begin_0 : decode prog_9_method_2_code 0 = .ok (.aload_n 0, 1) := by decide +kernel
theorem d_Tally_begin_1 : decode prog_9_method_2_code 1 = .ok (.getfield 9, 3) := by decide +kernel
theorem d_Tally_begin_4 : decode prog_9_method_2_code 4 = .ok (.iconst 0, 1) := by decide +kernel
theorem d_Tally_begin_5 : decode prog_9_method_2_code 5 = .ok (.invokestatic 30, 3) := by decide +kernel
theorem d_Tally_begin_8 : decode prog_9_method_2_code 8 = .ok (.aload_n 0, 1) := by decide +kernel
theorem d_Tally_begin_9 : decode prog_9_method_2_code 9 = .ok (.getfield 15, 3) := by decide +kernel
theorem d_Tally_begin_12 : decode prog_9_method_2_code 12 = .ok (.iconst 0, 1) := by decide +kernel
theorem d_Tally_begin_13 : decode prog_9_method_2_code 13 = .ok (.invokestatic 30, 3) := by decide +kernel
theorem d_Tally_begin_16 : decode prog_9_method_2_code 16 = .ok (.aload_n 0, 1) := by decide +kernel
theorem d_Tally_begin_17 : decode prog_9_method_2_code 17 = .ok (.getfield 18, 3) := by decide +kernel
theorem d_Tally_begin_20 : decode prog_9_method_2_code 20 = .ok (.iconst 0, 1) := by decide +kernel
theorem d_Tally_begin_21 : decode prog_9_method_2_code 21 = .ok (.invokestatic 30, 3) := by decide +kernel
theorem d_Tally_begin_24 : decode prog_9_method_2_code 24 = .ok (.aload_n 0, 1) := by decide +kernel
theorem d_Tally_begin_25 : decode prog_9_method_2_code 25 = .ok (.getfield 21, 3) := by decide +kernel
theorem d_Tally_begin_28 : decode prog_9_method_2_code 28 = .ok (.bipush (-2), 2) := by decide +kernel
theorem d_Tally_begin_30 : decode prog_9_method_2_code 30 = .ok (.invokestatic 30, 3) := by decide +kernel
theorem d_Tally_begin_33 : decode prog_9_method_2_code 33 = .ok (.aload_n 0, 1) := by decide +kernel
theorem d_Tally_begin_34 : decode prog_9_method_2_code 34 = .ok (.getfield 24, 3) := by decide +kernel
theorem d_Tally_begin_37 : decode prog_9_method_2_code 37 = .ok (.bipush (-2), 2) := by decide +kernel
theorem d_Tally_begin_39 : decode prog_9_method_2_code 39 = .ok (.invokestatic 30, 3) := by decide +kernel
theorem d_Tally_begin_42 : decode prog_9_method_2_code 42 = .ok (.aload_n 0, 1) := by decide +kernel
theorem d_Tally_begin_43 : decode prog_9_method_2_code 43 = .ok (.getfield 27, 3) := by decide +kernel
theorem d_Tally_begin_46 : decode prog_9_method_2_code 46 = .ok (.iconst 0, 1) := by decide +kernel
theorem d_Tally_begin_47 : decode prog_9_method_2_code 47 = .ok (.invokestatic 30, 3) := by decide +kernel
theorem d_Tally_begin_50 : decode prog_9_method_2_code 50 = .ok (.return_, 1) := by decide +kernel
set_option maxHeartbeats 4000000 in
set_option maxRecDepth 100000 in
theorem zf_Tally_begin {G : zz_G} {l : Launch} {Z : zz_Z} {q : zz_S} {s : zz_S} (C : zz_Cx G l "OneBlanket$Tally" "begin" prog_9_method_2_code 1 (none) 3 (none, zsh, q) Z) (h : f_Tally_begin s = q) : Z 0 [some (.ref 21)] [] zsh s := by
  unfold f_Tally_begin at h
  refine zz_aload_n (i := 0) (pc := 0) C rfl rfl d_Tally_begin_0 ?_
  refine zz_getR (pc := 1) C zl_7_9 zsh_21 rfl d_Tally_begin_1 ?_
  refine zz_iconst (pc := 4) C zki_0 d_Tally_begin_4 ?_
  refine zz_cSv (as := [.ref 22, .int (0 : Int32)]) (st := []) (pc := 5) C (zm_Arr_fillI zsh_22 (by decide)) zcs_Arr_fillI zl_7_30 (by omega) (Nat.le_of_ble_eq_true rfl) d_Tally_begin_5 rfl rfl ?_
  refine zz_aload_n (i := 0) (pc := 8) C rfl rfl d_Tally_begin_8 ?_
  refine zz_getR (pc := 9) C zl_7_15 zsh_21 rfl d_Tally_begin_9 ?_
  refine zz_iconst (pc := 12) C zki_0 d_Tally_begin_12 ?_
  refine zz_cSv (as := [.ref 23, .int (0 : Int32)]) (st := []) (pc := 13) C (zm_Arr_fillI zsh_23 (by decide)) zcs_Arr_fillI zl_7_30 (by omega) (Nat.le_of_ble_eq_true rfl) d_Tally_begin_13 rfl rfl ?_
  refine zz_aload_n (i := 0) (pc := 16) C rfl rfl d_Tally_begin_16 ?_
  refine zz_getR (pc := 17) C zl_7_18 zsh_21 rfl d_Tally_begin_17 ?_
  refine zz_iconst (pc := 20) C zki_0 d_Tally_begin_20 ?_
  refine zz_cSv (as := [.ref 24, .int (0 : Int32)]) (st := []) (pc := 21) C (zm_Arr_fillI zsh_24 (by decide)) zcs_Arr_fillI zl_7_30 (by omega) (Nat.le_of_ble_eq_true rfl) d_Tally_begin_21 rfl rfl ?_
  refine zz_aload_n (i := 0) (pc := 24) C rfl rfl d_Tally_begin_24 ?_
  refine zz_getR (pc := 25) C zl_7_21 zsh_21 rfl d_Tally_begin_25 ?_
  refine zz_bipush (pc := 28) C zkb_m2 d_Tally_begin_28 ?_
  refine zz_cSv (as := [.ref 25, .int (-2 : Int32)]) (st := []) (pc := 30) C (zm_Arr_fillI zsh_25 (by decide)) zcs_Arr_fillI zl_7_30 (by omega) (Nat.le_of_ble_eq_true rfl) d_Tally_begin_30 rfl rfl ?_
  refine zz_aload_n (i := 0) (pc := 33) C rfl rfl d_Tally_begin_33 ?_
  refine zz_getR (pc := 34) C zl_7_24 zsh_21 rfl d_Tally_begin_34 ?_
  refine zz_bipush (pc := 37) C zkb_m2 d_Tally_begin_37 ?_
  refine zz_cSv (as := [.ref 26, .int (-2 : Int32)]) (st := []) (pc := 39) C (zm_Arr_fillI zsh_26 (by decide)) zcs_Arr_fillI zl_7_30 (by omega) (Nat.le_of_ble_eq_true rfl) d_Tally_begin_39 rfl rfl ?_
  refine zz_aload_n (i := 0) (pc := 42) C rfl rfl d_Tally_begin_42 ?_
  refine zz_getR (pc := 43) C zl_7_27 zsh_21 rfl d_Tally_begin_43 ?_
  refine zz_iconst (pc := 46) C zki_0 d_Tally_begin_46 ?_
  refine zz_cSv (as := [.ref 27, .int (0 : Int32)]) (st := []) (pc := 47) C (zm_Arr_fillI zsh_27 (by decide)) zcs_Arr_fillI zl_7_30 (by omega) (Nat.le_of_ble_eq_true rfl) d_Tally_begin_47 rfl rfl ?_
  subst h
  exact zz_ret (pc := 50) C (v := none) d_Tally_begin_50 (Or.inr (Or.inr (Or.inr ⟨rfl, rfl, rfl⟩))) rfl
theorem zm_Tally_begin {G : zz_G} {l : Launch} {s : zz_S} {q : zz_S} (h : f_Tally_begin s = q) : zz_M G l 3 y_Tally_begin prog_9_method_2_code 1 (none) [.ref 21] zsh s (none, zsh, q) :=
  zz_M.intro (by decide) (Nat.le_of_ble_eq_true rfl) (Nat.le_refl _) (Nat.le_refl _) (fun Z C => zf_Tally_begin C h)
theorem d_Night_begin_0 : decode prog_6_method_2_code 0 = .ok (.aload_n 0, 1) := by decide +kernel
theorem d_Night_begin_1 : decode prog_6_method_2_code 1 = .ok (.getfield 62, 3) := by decide +kernel
theorem d_Night_begin_4 : decode prog_6_method_2_code 4 = .ok (.aload_n 2, 1) := by decide +kernel
theorem d_Night_begin_5 : decode prog_6_method_2_code 5 = .ok (.invokevirtual 66, 3) := by decide +kernel
theorem d_Night_begin_8 : decode prog_6_method_2_code 8 = .ok (.aload_n 0, 1) := by decide +kernel
theorem d_Night_begin_9 : decode prog_6_method_2_code 9 = .ok (.getfield 18, 3) := by decide +kernel
theorem d_Night_begin_12 : decode prog_6_method_2_code 12 = .ok (.iconst 0, 1) := by decide +kernel
theorem d_Night_begin_13 : decode prog_6_method_2_code 13 = .ok (.invokestatic 70, 3) := by decide +kernel
theorem d_Night_begin_16 : decode prog_6_method_2_code 16 = .ok (.aload_n 0, 1) := by decide +kernel
theorem d_Night_begin_17 : decode prog_6_method_2_code 17 = .ok (.getfield 22, 3) := by decide +kernel
theorem d_Night_begin_20 : decode prog_6_method_2_code 20 = .ok (.iconst 0, 1) := by decide +kernel
theorem d_Night_begin_21 : decode prog_6_method_2_code 21 = .ok (.invokestatic 70, 3) := by decide +kernel
theorem d_Night_begin_24 : decode prog_6_method_2_code 24 = .ok (.aload_n 0, 1) := by decide +kernel
theorem d_Night_begin_25 : decode prog_6_method_2_code 25 = .ok (.getfield 12, 3) := by decide +kernel
theorem d_Night_begin_28 : decode prog_6_method_2_code 28 = .ok (.invokevirtual 76, 3) := by decide +kernel
theorem d_Night_begin_31 : decode prog_6_method_2_code 31 = .ok (.aload_n 0, 1) := by decide +kernel
theorem d_Night_begin_32 : decode prog_6_method_2_code 32 = .ok (.iload_n 1, 1) := by decide +kernel
theorem d_Night_begin_33 : decode prog_6_method_2_code 33 = .ok (.putfield 78, 3) := by decide +kernel
theorem d_Night_begin_36 : decode prog_6_method_2_code 36 = .ok (.aload_n 0, 1) := by decide +kernel
theorem d_Night_begin_37 : decode prog_6_method_2_code 37 = .ok (.iconst 0, 1) := by decide +kernel
theorem d_Night_begin_38 : decode prog_6_method_2_code 38 = .ok (.putfield 82, 3) := by decide +kernel
theorem d_Night_begin_41 : decode prog_6_method_2_code 41 = .ok (.aload_n 0, 1) := by decide +kernel
theorem d_Night_begin_42 : decode prog_6_method_2_code 42 = .ok (.iconst 0, 1) := by decide +kernel
theorem d_Night_begin_43 : decode prog_6_method_2_code 43 = .ok (.putfield 85, 3) := by decide +kernel
theorem d_Night_begin_46 : decode prog_6_method_2_code 46 = .ok (.aload_n 0, 1) := by decide +kernel
theorem d_Night_begin_47 : decode prog_6_method_2_code 47 = .ok (.iconst 0, 1) := by decide +kernel
theorem d_Night_begin_48 : decode prog_6_method_2_code 48 = .ok (.putfield 88, 3) := by decide +kernel
theorem d_Night_begin_51 : decode prog_6_method_2_code 51 = .ok (.aload_n 0, 1) := by decide +kernel
theorem d_Night_begin_52 : decode prog_6_method_2_code 52 = .ok (.iconst (-1), 1) := by decide +kernel
theorem d_Night_begin_53 : decode prog_6_method_2_code 53 = .ok (.putfield 91, 3) := by decide +kernel
theorem d_Night_begin_56 : decode prog_6_method_2_code 56 = .ok (.aload_n 0, 1) := by decide +kernel
theorem d_Night_begin_57 : decode prog_6_method_2_code 57 = .ok (.iconst (-1), 1) := by decide +kernel
theorem d_Night_begin_58 : decode prog_6_method_2_code 58 = .ok (.putfield 94, 3) := by decide +kernel
theorem d_Night_begin_61 : decode prog_6_method_2_code 61 = .ok (.return_, 1) := by decide +kernel
set_option maxHeartbeats 4000000 in
set_option maxRecDepth 100000 in
theorem zf_Night_begin {G : zz_G} {l : Launch} {Z : zz_Z} {q : zz_S} {s : zz_S} (C : zz_Cx G l "OneBlanket$Night" "begin" prog_6_method_2_code 3 (none) 6 (none, zsh, q) Z) (a1 : Int32) (a2 : Nat) (ha2 : a2 ∈ zS1) (h : f_Night_begin a1 a2 s = some q) : Z 0 [some (.ref 20), some (.int a1), some (.ref a2)] [] zsh s := by
  unfold f_Night_begin at h
  refine zz_aload_n (i := 0) (pc := 0) C rfl rfl d_Night_begin_0 ?_
  refine zz_getR (pc := 1) C zl_4_62 zsh_20 rfl d_Night_begin_1 ?_
  refine zz_aload_n (i := 2) (pc := 4) C rfl rfl d_Night_begin_4 ?_
  obtain ⟨q1, hq1, h⟩ := zz_bdE h
  refine zz_cVv (as := [.ref a2]) (st := []) (pc := 5) C (zm_Lie_begin ha2 hq1) zcv_Lie_begin zsh_32 zl_4_66 (by omega) (Nat.le_of_ble_eq_true rfl) d_Night_begin_5 rfl rfl ?_
  refine zz_aload_n (i := 0) (pc := 8) C rfl rfl d_Night_begin_8 ?_
  refine zz_getR (pc := 9) C zl_4_18 zsh_20 rfl d_Night_begin_9 ?_
  refine zz_iconst (pc := 12) C zki_0 d_Night_begin_12 ?_
  refine zz_cSv (as := [.ref 28, .int (0 : Int32)]) (st := []) (pc := 13) C (zm_Arr_fillI zsh_28 (by decide)) zcs_Arr_fillI zl_4_70 (by omega) (Nat.le_of_ble_eq_true rfl) d_Night_begin_13 rfl rfl ?_
  refine zz_aload_n (i := 0) (pc := 16) C rfl rfl d_Night_begin_16 ?_
  refine zz_getR (pc := 17) C zl_4_22 zsh_20 rfl d_Night_begin_17 ?_
  refine zz_iconst (pc := 20) C zki_0 d_Night_begin_20 ?_
  refine zz_cSv (as := [.ref 29, .int (0 : Int32)]) (st := []) (pc := 21) C (zm_Arr_fillI zsh_29 (by decide)) zcs_Arr_fillI zl_4_70 (by omega) (Nat.le_of_ble_eq_true rfl) d_Night_begin_21 rfl rfl ?_
  refine zz_aload_n (i := 0) (pc := 24) C rfl rfl d_Night_begin_24 ?_
  refine zz_getR (pc := 25) C zl_4_12 zsh_20 rfl d_Night_begin_25 ?_
  refine zz_cVv (as := []) (st := []) (pc := 28) C (zm_Tally_begin rfl) zcv_Tally_begin zsh_21 zl_4_76 (by omega) (Nat.le_of_ble_eq_true rfl) d_Night_begin_28 rfl rfl ?_
  refine zz_aload_n (i := 0) (pc := 31) C rfl rfl d_Night_begin_31 ?_
  refine zz_iload_n (i := 1) (pc := 32) C rfl rfl d_Night_begin_32 ?_
  refine zz_putI' (pc := 33) C zl_4_78 zpf_4_10 zsh_20 rfl d_Night_begin_33 ?_
  refine zz_aload_n (i := 0) (pc := 36) C rfl rfl d_Night_begin_36 ?_
  refine zz_iconst (pc := 37) C zki_0 d_Night_begin_37 ?_
  refine zz_putI' (pc := 38) C zl_4_82 zpf_4_11 zsh_20 rfl d_Night_begin_38 ?_
  refine zz_aload_n (i := 0) (pc := 41) C rfl rfl d_Night_begin_41 ?_
  refine zz_iconst (pc := 42) C zki_0 d_Night_begin_42 ?_
  refine zz_putI' (pc := 43) C zl_4_85 zpf_4_12 zsh_20 rfl d_Night_begin_43 ?_
  refine zz_aload_n (i := 0) (pc := 46) C rfl rfl d_Night_begin_46 ?_
  refine zz_iconst (pc := 47) C zki_0 d_Night_begin_47 ?_
  refine zz_putI' (pc := 48) C zl_4_88 zpf_4_13 zsh_20 rfl d_Night_begin_48 ?_
  refine zz_aload_n (i := 0) (pc := 51) C rfl rfl d_Night_begin_51 ?_
  refine zz_iconst (pc := 52) C zki_m1 d_Night_begin_52 ?_
  refine zz_putI' (pc := 53) C zl_4_91 zpf_4_14 zsh_20 rfl d_Night_begin_53 ?_
  refine zz_aload_n (i := 0) (pc := 56) C rfl rfl d_Night_begin_56 ?_
  refine zz_iconst (pc := 57) C zki_m1 d_Night_begin_57 ?_
  refine zz_putI' (pc := 58) C zl_4_94 zpf_4_16 zsh_20 rfl d_Night_begin_58 ?_
  replace h := Option.some.inj h
  subst h
  exact zz_ret (pc := 61) C (v := none) d_Night_begin_61 (Or.inr (Or.inr (Or.inr ⟨rfl, rfl, rfl⟩))) rfl
theorem zm_Night_begin {G : zz_G} {l : Launch} {s : zz_S} {q : zz_S} {a1 : Int32} {a2 : Nat} (ha2 : a2 ∈ zS1) (h : f_Night_begin a1 a2 s = some q) : zz_M G l 6 y_Night_begin prog_6_method_2_code 3 (none) [.ref 20, .int a1, .ref a2] zsh s (none, zsh, q) :=
  zz_M.intro (by decide) (Nat.le_of_ble_eq_true rfl) (Nat.le_refl _) (Nat.le_refl _) (fun Z C => zf_Night_begin C a1 a2 ha2 h)
theorem d_Night_warmOf_0 : decode prog_6_method_11_code 0 = .ok (.aload_n 0, 1) := by decide +kernel
theorem d_Night_warmOf_1 : decode prog_6_method_11_code 1 = .ok (.getfield 49, 3) := by decide +kernel
theorem d_Night_warmOf_4 : decode prog_6_method_11_code 4 = .ok (.getfield 213, 3) := by decide +kernel
theorem d_Night_warmOf_7 : decode prog_6_method_11_code 7 = .ok (.iload_n 2, 1) := by decide +kernel
theorem d_Night_warmOf_8 : decode prog_6_method_11_code 8 = .ok (.iaload, 1) := by decide +kernel
theorem d_Night_warmOf_9 : decode prog_6_method_11_code 9 = .ok (.aload_n 0, 1) := by decide +kernel
theorem d_Night_warmOf_10 : decode prog_6_method_11_code 10 = .ok (.getfield 88, 3) := by decide +kernel
theorem d_Night_warmOf_13 : decode prog_6_method_11_code 13 = .ok (.iadd, 1) := by decide +kernel
theorem d_Night_warmOf_14 : decode prog_6_method_11_code 14 = .ok (.aload_n 0, 1) := by decide +kernel
theorem d_Night_warmOf_15 : decode prog_6_method_11_code 15 = .ok (.getfield 62, 3) := by decide +kernel
theorem d_Night_warmOf_18 : decode prog_6_method_11_code 18 = .ok (.getfield 216, 3) := by decide +kernel
theorem d_Night_warmOf_21 : decode prog_6_method_11_code 21 = .ok (.iload_n 1, 1) := by decide +kernel
theorem d_Night_warmOf_22 : decode prog_6_method_11_code 22 = .ok (.iaload, 1) := by decide +kernel
theorem d_Night_warmOf_23 : decode prog_6_method_11_code 23 = .ok (.iadd, 1) := by decide +kernel
theorem d_Night_warmOf_24 : decode prog_6_method_11_code 24 = .ok (.ireturn, 1) := by decide +kernel
set_option maxHeartbeats 4000000 in
set_option maxRecDepth 100000 in
theorem zf_Night_warmOf {G : zz_G} {l : Launch} {Z : zz_Z} {q : Int32} {s : zz_S} (C : zz_Cx G l "OneBlanket$Night" "warmOf" prog_6_method_11_code 3 (some .int) 2 (some (.int q), zsh, s) Z) (a1 : Int32) (a2 : Int32) (h : f_Night_warmOf a1 a2 s = some q) : Z 0 [some (.ref 20), some (.int a1), some (.int a2)] [] zsh s := by
  unfold f_Night_warmOf at h
  refine zz_aload_n (i := 0) (pc := 0) C rfl rfl d_Night_warmOf_0 ?_
  refine zz_getR (pc := 1) C zl_4_49 zsh_20 rfl d_Night_warmOf_1 ?_
  refine zz_getR (pc := 4) C zl_4_213 zsh_15 rfl d_Night_warmOf_4 ?_
  refine zz_iload_n (i := 2) (pc := 7) C rfl rfl d_Night_warmOf_7 ?_
  obtain ⟨hi1, h⟩ := zz_ckE h
  refine zz_iald (pc := 8) C rfl zsh_16 hi1 d_Night_warmOf_8 ?_
  refine zz_aload_n (i := 0) (pc := 9) C rfl rfl d_Night_warmOf_9 ?_
  refine zz_getI (pc := 10) C zl_4_88 zsh_20 rfl d_Night_warmOf_10 ?_
  refine zz_iadd (pc := 13) C d_Night_warmOf_13 ?_
  refine zz_aload_n (i := 0) (pc := 14) C rfl rfl d_Night_warmOf_14 ?_
  refine zz_getR (pc := 15) C zl_4_62 zsh_20 rfl d_Night_warmOf_15 ?_
  refine zz_getR (pc := 18) C zl_4_216 zsh_32 rfl d_Night_warmOf_18 ?_
  refine zz_iload_n (i := 1) (pc := 21) C rfl rfl d_Night_warmOf_21 ?_
  obtain ⟨hi2, h⟩ := zz_ckE h
  refine zz_iald (pc := 22) C rfl zsh_35 hi2 d_Night_warmOf_22 ?_
  refine zz_iadd (pc := 23) C d_Night_warmOf_23 ?_
  replace h := Option.some.inj h
  subst h
  exact zz_ret (pc := 24) C (v := some (.int (((s.1 16 (a2.toNatClampNeg)) + (s.1 20 13)) + (s.1 35 (a1.toNatClampNeg))))) d_Night_warmOf_24 (Or.inl ⟨_, _, rfl, rfl, rfl, rfl⟩) rfl
theorem zm_Night_warmOf {G : zz_G} {l : Launch} {s : zz_S} {q : Int32} {a1 : Int32} {a2 : Int32} (h : f_Night_warmOf a1 a2 s = some q) : zz_M G l 2 y_Night_warmOf prog_6_method_11_code 3 (some .int) [.ref 20, .int a1, .int a2] zsh s (some (.int q), zsh, s) :=
  zz_M.intro (by decide) (Nat.le_of_ble_eq_true rfl) (Nat.le_refl _) (Nat.le_refl _) (fun Z C => zf_Night_warmOf C a1 a2 h)
theorem d_Tally_wake_0 : decode prog_9_method_3_code 0 = .ok (.aload_n 0, 1) := by decide +kernel
theorem d_Tally_wake_1 : decode prog_9_method_3_code 1 = .ok (.getfield 21, 3) := by decide +kernel
theorem d_Tally_wake_4 : decode prog_9_method_3_code 4 = .ok (.iload_n 1, 1) := by decide +kernel
theorem d_Tally_wake_5 : decode prog_9_method_3_code 5 = .ok (.iaload, 1) := by decide +kernel
theorem d_Tally_wake_6 : decode prog_9_method_3_code 6 = .ok (.bipush (-2), 2) := by decide +kernel
theorem d_Tally_wake_8 : decode prog_9_method_3_code 8 = .ok (.if_icmp .ne (17), 3) := by decide +kernel
theorem d_Tally_wake_11 : decode prog_9_method_3_code 11 = .ok (.aload_n 0, 1) := by decide +kernel
theorem d_Tally_wake_12 : decode prog_9_method_3_code 12 = .ok (.getfield 21, 3) := by decide +kernel
theorem d_Tally_wake_15 : decode prog_9_method_3_code 15 = .ok (.iload_n 1, 1) := by decide +kernel
theorem d_Tally_wake_16 : decode prog_9_method_3_code 16 = .ok (.iload_n 2, 1) := by decide +kernel
theorem d_Tally_wake_17 : decode prog_9_method_3_code 17 = .ok (.iastore, 1) := by decide +kernel
theorem d_Tally_wake_18 : decode prog_9_method_3_code 18 = .ok (.aload_n 0, 1) := by decide +kernel
theorem d_Tally_wake_19 : decode prog_9_method_3_code 19 = .ok (.getfield 24, 3) := by decide +kernel
theorem d_Tally_wake_22 : decode prog_9_method_3_code 22 = .ok (.iload_n 1, 1) := by decide +kernel
theorem d_Tally_wake_23 : decode prog_9_method_3_code 23 = .ok (.iload_n 3, 1) := by decide +kernel
theorem d_Tally_wake_24 : decode prog_9_method_3_code 24 = .ok (.iastore, 1) := by decide +kernel
theorem d_Tally_wake_25 : decode prog_9_method_3_code 25 = .ok (.return_, 1) := by decide +kernel
set_option maxHeartbeats 4000000 in
set_option maxRecDepth 100000 in
theorem zf_Tally_wake {G : zz_G} {l : Launch} {Z : zz_Z} {q : zz_S} {s : zz_S} (C : zz_Cx G l "OneBlanket$Tally" "wake" prog_9_method_3_code 4 (none) 2 (none, zsh, q) Z) (a1 : Int32) (a2 : Int32) (a3 : Int32) (h : f_Tally_wake a1 a2 a3 s = some q) : Z 0 [some (.ref 21), some (.int a1), some (.int a2), some (.int a3)] [] zsh s := by
  unfold f_Tally_wake at h
  refine zz_aload_n (i := 0) (pc := 0) C rfl rfl d_Tally_wake_0 ?_
  refine zz_getR (pc := 1) C zl_7_21 zsh_21 rfl d_Tally_wake_1 ?_
  refine zz_iload_n (i := 1) (pc := 4) C rfl rfl d_Tally_wake_4 ?_
  obtain ⟨hi1, h⟩ := zz_ckE h
  refine zz_iald (pc := 5) C rfl zsh_25 hi1 d_Tally_wake_5 ?_
  refine zz_bipush (pc := 6) C zkb_m2 d_Tally_wake_6 ?_
  refine zz_icmp_ne (tgt := 25) (pc := 8) C (by decide) d_Tally_wake_8 (fun hc2 => ?_) (fun hc2 => ?_)
  · rw [if_neg hc2] at h
    replace h := Option.some.inj h
    subst h
    exact zz_ret (pc := 25) C (v := none) d_Tally_wake_25 (Or.inr (Or.inr (Or.inr ⟨rfl, rfl, rfl⟩))) rfl
  · rw [if_pos hc2] at h
    refine zz_aload_n (i := 0) (pc := 11) C rfl rfl d_Tally_wake_11 ?_
    refine zz_getR (pc := 12) C zl_7_21 zsh_21 rfl d_Tally_wake_12 ?_
    refine zz_iload_n (i := 1) (pc := 15) C rfl rfl d_Tally_wake_15 ?_
    refine zz_iload_n (i := 2) (pc := 16) C rfl rfl d_Tally_wake_16 ?_
    refine zz_iast (pc := 17) C rfl zsh_25 hi1 d_Tally_wake_17 ?_
    refine zz_aload_n (i := 0) (pc := 18) C rfl rfl d_Tally_wake_18 ?_
    refine zz_getR (pc := 19) C zl_7_24 zsh_21 rfl d_Tally_wake_19 ?_
    refine zz_iload_n (i := 1) (pc := 22) C rfl rfl d_Tally_wake_22 ?_
    refine zz_iload_n (i := 3) (pc := 23) C rfl rfl d_Tally_wake_23 ?_
    refine zz_iast (pc := 24) C rfl zsh_26 hi1 d_Tally_wake_24 ?_
    replace h := Option.some.inj h
    subst h
    exact zz_ret (pc := 25) C (v := none) d_Tally_wake_25 (Or.inr (Or.inr (Or.inr ⟨rfl, rfl, rfl⟩))) rfl
theorem zm_Tally_wake {G : zz_G} {l : Launch} {s : zz_S} {q : zz_S} {a1 : Int32} {a2 : Int32} {a3 : Int32} (h : f_Tally_wake a1 a2 a3 s = some q) : zz_M G l 2 y_Tally_wake prog_9_method_3_code 4 (none) [.ref 21, .int a1, .int a2, .int a3] zsh s (none, zsh, q) :=
  zz_M.intro (by decide) (Nat.le_of_ble_eq_true rfl) (Nat.le_refl _) (Nat.le_refl _) (fun Z C => zf_Tally_wake C a1 a2 a3 h)
theorem d_Tally_addCold_0 : decode prog_9_method_4_code 0 = .ok (.iload_n 2, 1) := by decide +kernel
theorem d_Tally_addCold_1 : decode prog_9_method_4_code 1 = .ok (.ifCond .ne (11), 3) := by decide +kernel
theorem d_Tally_addCold_4 : decode prog_9_method_4_code 4 = .ok (.aload_n 0, 1) := by decide +kernel
theorem d_Tally_addCold_5 : decode prog_9_method_4_code 5 = .ok (.getfield 27, 3) := by decide +kernel
theorem d_Tally_addCold_8 : decode prog_9_method_4_code 8 = .ok (.iload_n 1, 1) := by decide +kernel
theorem d_Tally_addCold_9 : decode prog_9_method_4_code 9 = .ok (.iconst 0, 1) := by decide +kernel
theorem d_Tally_addCold_10 : decode prog_9_method_4_code 10 = .ok (.iastore, 1) := by decide +kernel
theorem d_Tally_addCold_11 : decode prog_9_method_4_code 11 = .ok (.return_, 1) := by decide +kernel
theorem d_Tally_addCold_12 : decode prog_9_method_4_code 12 = .ok (.aload_n 0, 1) := by decide +kernel
theorem d_Tally_addCold_13 : decode prog_9_method_4_code 13 = .ok (.getfield 15, 3) := by decide +kernel
theorem d_Tally_addCold_16 : decode prog_9_method_4_code 16 = .ok (.iload_n 1, 1) := by decide +kernel
theorem d_Tally_addCold_17 : decode prog_9_method_4_code 17 = .ok (.dup2, 1) := by decide +kernel
theorem d_Tally_addCold_18 : decode prog_9_method_4_code 18 = .ok (.iaload, 1) := by decide +kernel
theorem d_Tally_addCold_19 : decode prog_9_method_4_code 19 = .ok (.iload 4, 2) := by decide +kernel
theorem d_Tally_addCold_21 : decode prog_9_method_4_code 21 = .ok (.iadd, 1) := by decide +kernel
theorem d_Tally_addCold_22 : decode prog_9_method_4_code 22 = .ok (.iastore, 1) := by decide +kernel
theorem d_Tally_addCold_23 : decode prog_9_method_4_code 23 = .ok (.aload_n 0, 1) := by decide +kernel
theorem d_Tally_addCold_24 : decode prog_9_method_4_code 24 = .ok (.getfield 27, 3) := by decide +kernel
theorem d_Tally_addCold_27 : decode prog_9_method_4_code 27 = .ok (.iload_n 1, 1) := by decide +kernel
theorem d_Tally_addCold_28 : decode prog_9_method_4_code 28 = .ok (.iaload, 1) := by decide +kernel
theorem d_Tally_addCold_29 : decode prog_9_method_4_code 29 = .ok (.iload 4, 2) := by decide +kernel
theorem d_Tally_addCold_31 : decode prog_9_method_4_code 31 = .ok (.iadd, 1) := by decide +kernel
theorem d_Tally_addCold_32 : decode prog_9_method_4_code 32 = .ok (.bipush (10), 2) := by decide +kernel
theorem d_Tally_addCold_34 : decode prog_9_method_4_code 34 = .ok (.if_icmp .lt (22), 3) := by decide +kernel
theorem d_Tally_addCold_37 : decode prog_9_method_4_code 37 = .ok (.aload_n 0, 1) := by decide +kernel
theorem d_Tally_addCold_38 : decode prog_9_method_4_code 38 = .ok (.iload_n 1, 1) := by decide +kernel
theorem d_Tally_addCold_39 : decode prog_9_method_4_code 39 = .ok (.iload_n 3, 1) := by decide +kernel
theorem d_Tally_addCold_40 : decode prog_9_method_4_code 40 = .ok (.bipush (10), 2) := by decide +kernel
theorem d_Tally_addCold_42 : decode prog_9_method_4_code 42 = .ok (.iadd, 1) := by decide +kernel
theorem d_Tally_addCold_43 : decode prog_9_method_4_code 43 = .ok (.iconst 1, 1) := by decide +kernel
theorem d_Tally_addCold_44 : decode prog_9_method_4_code 44 = .ok (.isub, 1) := by decide +kernel
theorem d_Tally_addCold_45 : decode prog_9_method_4_code 45 = .ok (.aload_n 0, 1) := by decide +kernel
theorem d_Tally_addCold_46 : decode prog_9_method_4_code 46 = .ok (.getfield 27, 3) := by decide +kernel
theorem d_Tally_addCold_49 : decode prog_9_method_4_code 49 = .ok (.iload_n 1, 1) := by decide +kernel
theorem d_Tally_addCold_50 : decode prog_9_method_4_code 50 = .ok (.iaload, 1) := by decide +kernel
theorem d_Tally_addCold_51 : decode prog_9_method_4_code 51 = .ok (.isub, 1) := by decide +kernel
theorem d_Tally_addCold_52 : decode prog_9_method_4_code 52 = .ok (.iconst (-1), 1) := by decide +kernel
theorem d_Tally_addCold_53 : decode prog_9_method_4_code 53 = .ok (.invokevirtual 36, 3) := by decide +kernel
theorem d_Tally_addCold_56 : decode prog_9_method_4_code 56 = .ok (.aload_n 0, 1) := by decide +kernel
theorem d_Tally_addCold_57 : decode prog_9_method_4_code 57 = .ok (.getfield 27, 3) := by decide +kernel
theorem d_Tally_addCold_60 : decode prog_9_method_4_code 60 = .ok (.iload_n 1, 1) := by decide +kernel
theorem d_Tally_addCold_61 : decode prog_9_method_4_code 61 = .ok (.dup2, 1) := by decide +kernel
theorem d_Tally_addCold_62 : decode prog_9_method_4_code 62 = .ok (.iaload, 1) := by decide +kernel
theorem d_Tally_addCold_63 : decode prog_9_method_4_code 63 = .ok (.iload 4, 2) := by decide +kernel
theorem d_Tally_addCold_65 : decode prog_9_method_4_code 65 = .ok (.iadd, 1) := by decide +kernel
theorem d_Tally_addCold_66 : decode prog_9_method_4_code 66 = .ok (.iastore, 1) := by decide +kernel
theorem d_Tally_addCold_67 : decode prog_9_method_4_code 67 = .ok (.return_, 1) := by decide +kernel
set_option maxHeartbeats 4000000 in
set_option maxRecDepth 100000 in
theorem zf_Tally_addCold_J56 {G : zz_G} {l : Launch} {Z : zz_Z} {q : zz_S} {s : zz_S} (C : zz_Cx G l "OneBlanket$Tally" "addCold" prog_9_method_4_code 5 (none) 3 (none, zsh, q) Z) (v1 : Int32) (v4 : Int32) (h : f_Tally_addCold_J56 v1 v4 s = some q) : Z 56 [some (.ref 21), some (.int v1), none, none, some (.int v4)] [] zsh s := by
  unfold f_Tally_addCold_J56 at h
  refine zz_aload_n (i := 0) (pc := 56) C rfl rfl d_Tally_addCold_56 ?_
  refine zz_getR (pc := 57) C zl_7_27 zsh_21 rfl d_Tally_addCold_57 ?_
  refine zz_iload_n (i := 1) (pc := 60) C rfl rfl d_Tally_addCold_60 ?_
  refine zz_dup2 (pc := 61) C rfl rfl d_Tally_addCold_61 ?_
  obtain ⟨hi4, h⟩ := zz_ckE h
  refine zz_iald (pc := 62) C rfl zsh_27 hi4 d_Tally_addCold_62 ?_
  refine zz_iload (i := 4) (pc := 63) C rfl d_Tally_addCold_63 ?_
  refine zz_iadd (pc := 65) C d_Tally_addCold_65 ?_
  refine zz_iast (pc := 66) C rfl zsh_27 hi4 d_Tally_addCold_66 ?_
  replace h := Option.some.inj h
  subst h
  exact zz_ret (pc := 67) C (v := none) d_Tally_addCold_67 (Or.inr (Or.inr (Or.inr ⟨rfl, rfl, rfl⟩))) rfl
set_option maxHeartbeats 4000000 in
set_option maxRecDepth 100000 in
theorem zf_Tally_addCold {G : zz_G} {l : Launch} {Z : zz_Z} {q : zz_S} {s : zz_S} (C : zz_Cx G l "OneBlanket$Tally" "addCold" prog_9_method_4_code 5 (none) 3 (none, zsh, q) Z) (a1 : Int32) (a2 : Int32) (a3 : Int32) (a4 : Int32) (h : f_Tally_addCold a1 a2 a3 a4 s = some q) : Z 0 [some (.ref 21), some (.int a1), some (.int a2), some (.int a3), some (.int a4)] [] zsh s := by
  unfold f_Tally_addCold at h
  refine zz_iload_n (i := 2) (pc := 0) C rfl rfl d_Tally_addCold_0 ?_
  refine zz_if_ne (tgt := 12) (pc := 1) C (by decide) d_Tally_addCold_1 (fun hc1 => ?_) (fun hc1 => ?_)
  · rw [if_neg hc1] at h
    refine zz_aload_n (i := 0) (pc := 12) C rfl rfl d_Tally_addCold_12 ?_
    refine zz_getR (pc := 13) C zl_7_15 zsh_21 rfl d_Tally_addCold_13 ?_
    refine zz_iload_n (i := 1) (pc := 16) C rfl rfl d_Tally_addCold_16 ?_
    refine zz_dup2 (pc := 17) C rfl rfl d_Tally_addCold_17 ?_
    obtain ⟨hi2, h⟩ := zz_ckE h
    refine zz_iald (pc := 18) C rfl zsh_23 hi2 d_Tally_addCold_18 ?_
    refine zz_iload (i := 4) (pc := 19) C rfl d_Tally_addCold_19 ?_
    refine zz_iadd (pc := 21) C d_Tally_addCold_21 ?_
    refine zz_iast (pc := 22) C rfl zsh_23 hi2 d_Tally_addCold_22 ?_
    refine zz_aload_n (i := 0) (pc := 23) C rfl rfl d_Tally_addCold_23 ?_
    refine zz_getR (pc := 24) C zl_7_27 zsh_21 rfl d_Tally_addCold_24 ?_
    refine zz_iload_n (i := 1) (pc := 27) C rfl rfl d_Tally_addCold_27 ?_
    refine zz_ialdv (v := (s.1 27 (a1.toNatClampNeg))) (pc := 28) C rfl zsh_27 hi2 rfl d_Tally_addCold_28 ?_
    refine zz_iload (i := 4) (pc := 29) C rfl d_Tally_addCold_29 ?_
    refine zz_iadd (pc := 31) C d_Tally_addCold_31 ?_
    refine zz_bipush (pc := 32) C zkb_10 d_Tally_addCold_32 ?_
    refine zz_icmp_lt (tgt := 56) (pc := 34) C (by decide) d_Tally_addCold_34 (fun hc3 => ?_) (fun hc3 => ?_)
    · rw [if_pos hc3] at h
      refine zz_fg C [true, true, false, false, true] rfl rfl ?_
      exact zf_Tally_addCold_J56 C a1 a4 h
    · rw [if_neg hc3] at h
      refine zz_aload_n (i := 0) (pc := 37) C rfl rfl d_Tally_addCold_37 ?_
      refine zz_iload_n (i := 1) (pc := 38) C rfl rfl d_Tally_addCold_38 ?_
      refine zz_iload_n (i := 3) (pc := 39) C rfl rfl d_Tally_addCold_39 ?_
      refine zz_bipush (pc := 40) C zkb_10 d_Tally_addCold_40 ?_
      refine zz_iadd (pc := 42) C d_Tally_addCold_42 ?_
      refine zz_iconst (pc := 43) C zki_1 d_Tally_addCold_43 ?_
      refine zz_isub (pc := 44) C d_Tally_addCold_44 ?_
      refine zz_aload_n (i := 0) (pc := 45) C rfl rfl d_Tally_addCold_45 ?_
      refine zz_getR (pc := 46) C zl_7_27 zsh_21 rfl d_Tally_addCold_46 ?_
      refine zz_iload_n (i := 1) (pc := 49) C rfl rfl d_Tally_addCold_49 ?_
      refine zz_ialdv (v := (s.1 27 (a1.toNatClampNeg))) (pc := 50) C rfl zsh_27 hi2 rfl d_Tally_addCold_50 ?_
      refine zz_isub (pc := 51) C d_Tally_addCold_51 ?_
      refine zz_iconst (pc := 52) C zki_m1 d_Tally_addCold_52 ?_
      obtain ⟨q5, hq5, h⟩ := zz_bdE h
      refine zz_cVv (as := [.int a1, .int (((a3 + (10 : Int32)) - (1 : Int32)) - (s.1 27 (a1.toNatClampNeg))), .int (-1 : Int32)]) (st := []) (pc := 53) C (zm_Tally_wake hq5) zcv_Tally_wake zsh_21 zl_7_36 (by omega) (Nat.le_of_ble_eq_true rfl) d_Tally_addCold_53 rfl rfl ?_
      refine zz_fg C [true, true, false, false, true] rfl rfl ?_
      exact zf_Tally_addCold_J56 C a1 a4 h
  · rw [if_pos hc1] at h
    refine zz_aload_n (i := 0) (pc := 4) C rfl rfl d_Tally_addCold_4 ?_
    refine zz_getR (pc := 5) C zl_7_27 zsh_21 rfl d_Tally_addCold_5 ?_
    refine zz_iload_n (i := 1) (pc := 8) C rfl rfl d_Tally_addCold_8 ?_
    refine zz_iconst (pc := 9) C zki_0 d_Tally_addCold_9 ?_
    obtain ⟨hi6, h⟩ := zz_ckE h
    refine zz_iast (pc := 10) C rfl zsh_27 hi6 d_Tally_addCold_10 ?_
    replace h := Option.some.inj h
    subst h
    exact zz_ret (pc := 11) C (v := none) d_Tally_addCold_11 (Or.inr (Or.inr (Or.inr ⟨rfl, rfl, rfl⟩))) rfl
theorem zm_Tally_addCold {G : zz_G} {l : Launch} {s : zz_S} {q : zz_S} {a1 : Int32} {a2 : Int32} {a3 : Int32} {a4 : Int32} (h : f_Tally_addCold a1 a2 a3 a4 s = some q) : zz_M G l 3 y_Tally_addCold prog_9_method_4_code 5 (none) [.ref 21, .int a1, .int a2, .int a3, .int a4] zsh s (none, zsh, q) :=
  zz_M.intro (by decide) (Nat.le_of_ble_eq_true rfl) (Nat.le_refl _) (Nat.le_refl _) (fun Z C => zf_Tally_addCold C a1 a2 a3 a4 h)
theorem d_Night_countIn_0 : decode prog_6_method_12_code 0 = .ok (.aload_n 0, 1) := by decide +kernel
theorem d_Night_countIn_1 : decode prog_6_method_12_code 1 = .ok (.iload_n 1, 1) := by decide +kernel
theorem d_Night_countIn_2 : decode prog_6_method_12_code 2 = .ok (.iload_n 2, 1) := by decide +kernel
theorem d_Night_countIn_3 : decode prog_6_method_12_code 3 = .ok (.invokevirtual 219, 3) := by decide +kernel
theorem d_Night_countIn_6 : decode prog_6_method_12_code 6 = .ok (.istore 4, 2) := by decide +kernel
theorem d_Night_countIn_8 : decode prog_6_method_12_code 8 = .ok (.aload_n 0, 1) := by decide +kernel
theorem d_Night_countIn_9 : decode prog_6_method_12_code 9 = .ok (.getfield 41, 3) := by decide +kernel
theorem d_Night_countIn_12 : decode prog_6_method_12_code 12 = .ok (.iload_n 1, 1) := by decide +kernel
theorem d_Night_countIn_13 : decode prog_6_method_12_code 13 = .ok (.iload 4, 2) := by decide +kernel
theorem d_Night_countIn_15 : decode prog_6_method_12_code 15 = .ok (.invokevirtual 222, 3) := by decide +kernel
theorem d_Night_countIn_18 : decode prog_6_method_12_code 18 = .ok (.ifCond .eq (16), 3) := by decide +kernel
theorem d_Night_countIn_21 : decode prog_6_method_12_code 21 = .ok (.aload_n 0, 1) := by decide +kernel
theorem d_Night_countIn_22 : decode prog_6_method_12_code 22 = .ok (.getfield 12, 3) := by decide +kernel
theorem d_Night_countIn_25 : decode prog_6_method_12_code 25 = .ok (.getfield 226, 3) := by decide +kernel
theorem d_Night_countIn_28 : decode prog_6_method_12_code 28 = .ok (.iload_n 1, 1) := by decide +kernel
theorem d_Night_countIn_29 : decode prog_6_method_12_code 29 = .ok (.dup2, 1) := by decide +kernel
theorem d_Night_countIn_30 : decode prog_6_method_12_code 30 = .ok (.iaload, 1) := by decide +kernel
theorem d_Night_countIn_31 : decode prog_6_method_12_code 31 = .ok (.iload_n 3, 1) := by decide +kernel
theorem d_Night_countIn_32 : decode prog_6_method_12_code 32 = .ok (.iadd, 1) := by decide +kernel
theorem d_Night_countIn_33 : decode prog_6_method_12_code 33 = .ok (.iastore, 1) := by decide +kernel
theorem d_Night_countIn_34 : decode prog_6_method_12_code 34 = .ok (.aload_n 0, 1) := by decide +kernel
theorem d_Night_countIn_35 : decode prog_6_method_12_code 35 = .ok (.getfield 62, 3) := by decide +kernel
theorem d_Night_countIn_38 : decode prog_6_method_12_code 38 = .ok (.iload_n 1, 1) := by decide +kernel
theorem d_Night_countIn_39 : decode prog_6_method_12_code 39 = .ok (.invokevirtual 229, 3) := by decide +kernel
theorem d_Night_countIn_42 : decode prog_6_method_12_code 42 = .ok (.ifCond .eq (16), 3) := by decide +kernel
theorem d_Night_countIn_45 : decode prog_6_method_12_code 45 = .ok (.aload_n 0, 1) := by decide +kernel
theorem d_Night_countIn_46 : decode prog_6_method_12_code 46 = .ok (.getfield 12, 3) := by decide +kernel
theorem d_Night_countIn_49 : decode prog_6_method_12_code 49 = .ok (.getfield 232, 3) := by decide +kernel
theorem d_Night_countIn_52 : decode prog_6_method_12_code 52 = .ok (.iload_n 1, 1) := by decide +kernel
theorem d_Night_countIn_53 : decode prog_6_method_12_code 53 = .ok (.dup2, 1) := by decide +kernel
theorem d_Night_countIn_54 : decode prog_6_method_12_code 54 = .ok (.iaload, 1) := by decide +kernel
theorem d_Night_countIn_55 : decode prog_6_method_12_code 55 = .ok (.iload_n 3, 1) := by decide +kernel
theorem d_Night_countIn_56 : decode prog_6_method_12_code 56 = .ok (.iadd, 1) := by decide +kernel
theorem d_Night_countIn_57 : decode prog_6_method_12_code 57 = .ok (.iastore, 1) := by decide +kernel
theorem d_Night_countIn_58 : decode prog_6_method_12_code 58 = .ok (.aload_n 0, 1) := by decide +kernel
theorem d_Night_countIn_59 : decode prog_6_method_12_code 59 = .ok (.getfield 12, 3) := by decide +kernel
theorem d_Night_countIn_62 : decode prog_6_method_12_code 62 = .ok (.iload_n 1, 1) := by decide +kernel
theorem d_Night_countIn_63 : decode prog_6_method_12_code 63 = .ok (.aload_n 0, 1) := by decide +kernel
theorem d_Night_countIn_64 : decode prog_6_method_12_code 64 = .ok (.getfield 41, 3) := by decide +kernel
theorem d_Night_countIn_67 : decode prog_6_method_12_code 67 = .ok (.iload_n 1, 1) := by decide +kernel
theorem d_Night_countIn_68 : decode prog_6_method_12_code 68 = .ok (.iload 4, 2) := by decide +kernel
theorem d_Night_countIn_70 : decode prog_6_method_12_code 70 = .ok (.invokevirtual 235, 3) := by decide +kernel
theorem d_Night_countIn_73 : decode prog_6_method_12_code 73 = .ok (.iload_n 2, 1) := by decide +kernel
theorem d_Night_countIn_74 : decode prog_6_method_12_code 74 = .ok (.iload_n 3, 1) := by decide +kernel
theorem d_Night_countIn_75 : decode prog_6_method_12_code 75 = .ok (.invokevirtual 238, 3) := by decide +kernel
theorem d_Night_countIn_78 : decode prog_6_method_12_code 78 = .ok (.return_, 1) := by decide +kernel
set_option maxHeartbeats 4000000 in
set_option maxRecDepth 100000 in
theorem zf_Night_countIn_J58 {G : zz_G} {l : Launch} {Z : zz_Z} {q : zz_S} {s : zz_S} (C : zz_Cx G l "OneBlanket$Night" "countIn" prog_6_method_12_code 5 (none) 4 (none, zsh, q) Z) (v1 : Int32) (v2 : Int32) (v3 : Int32) (v4 : Int32) (h : f_Night_countIn_J58 v1 v2 v3 v4 s = some q) : Z 58 [some (.ref 20), some (.int v1), some (.int v2), some (.int v3), some (.int v4)] [] zsh s := by
  unfold f_Night_countIn_J58 at h
  refine zz_aload_n (i := 0) (pc := 58) C rfl rfl d_Night_countIn_58 ?_
  refine zz_getR (pc := 59) C zl_4_12 zsh_20 rfl d_Night_countIn_59 ?_
  refine zz_iload_n (i := 1) (pc := 62) C rfl rfl d_Night_countIn_62 ?_
  refine zz_aload_n (i := 0) (pc := 63) C rfl rfl d_Night_countIn_63 ?_
  refine zz_getR (pc := 64) C zl_4_41 zsh_20 rfl d_Night_countIn_64 ?_
  refine zz_iload_n (i := 1) (pc := 67) C rfl rfl d_Night_countIn_67 ?_
  refine zz_iload (i := 4) (pc := 68) C rfl d_Night_countIn_68 ?_
  obtain ⟨q6, hq6, h⟩ := zz_bdE h
  refine zz_cVi (as := [.int v1, .int v4]) (st := [.int v1, .ref 21]) (pc := 70) C (zm_Bed_isCold hq6) zcv_Bed_isCold zsh_1 zl_4_235 (by omega) (Nat.le_of_ble_eq_true rfl) d_Night_countIn_70 rfl rfl ?_
  refine zz_iload_n (i := 2) (pc := 73) C rfl rfl d_Night_countIn_73 ?_
  refine zz_iload_n (i := 3) (pc := 74) C rfl rfl d_Night_countIn_74 ?_
  obtain ⟨q7, hq7, h⟩ := zz_bdE h
  refine zz_cVv (as := [.int v1, .int q6, .int v2, .int v3]) (st := []) (pc := 75) C (zm_Tally_addCold hq7) zcv_Tally_addCold zsh_21 zl_4_238 (by omega) (Nat.le_of_ble_eq_true rfl) d_Night_countIn_75 rfl rfl ?_
  replace h := Option.some.inj h
  subst h
  exact zz_ret (pc := 78) C (v := none) d_Night_countIn_78 (Or.inr (Or.inr (Or.inr ⟨rfl, rfl, rfl⟩))) rfl
set_option maxHeartbeats 4000000 in
set_option maxRecDepth 100000 in
theorem zf_Night_countIn_J34 {G : zz_G} {l : Launch} {Z : zz_Z} {q : zz_S} {s : zz_S} (C : zz_Cx G l "OneBlanket$Night" "countIn" prog_6_method_12_code 5 (none) 4 (none, zsh, q) Z) (v1 : Int32) (v2 : Int32) (v3 : Int32) (v4 : Int32) (h : f_Night_countIn_J34 v1 v2 v3 v4 s = some q) : Z 34 [some (.ref 20), some (.int v1), some (.int v2), some (.int v3), some (.int v4)] [] zsh s := by
  unfold f_Night_countIn_J34 at h
  refine zz_aload_n (i := 0) (pc := 34) C rfl rfl d_Night_countIn_34 ?_
  refine zz_getR (pc := 35) C zl_4_62 zsh_20 rfl d_Night_countIn_35 ?_
  refine zz_iload_n (i := 1) (pc := 38) C rfl rfl d_Night_countIn_38 ?_
  obtain ⟨q4, hq4, h⟩ := zz_bdE h
  refine zz_cVi (as := [.int v1]) (st := []) (pc := 39) C (zm_Lie_isBare hq4) zcv_Lie_isBare zsh_32 zl_4_229 (by omega) (Nat.le_of_ble_eq_true rfl) d_Night_countIn_39 rfl rfl ?_
  refine zz_if_eq (tgt := 58) (pc := 42) C (by decide) d_Night_countIn_42 (fun hc5 => ?_) (fun hc5 => ?_)
  · rw [if_pos hc5] at h
    exact zf_Night_countIn_J58 C v1 v2 v3 v4 h
  · rw [if_neg hc5] at h
    refine zz_aload_n (i := 0) (pc := 45) C rfl rfl d_Night_countIn_45 ?_
    refine zz_getR (pc := 46) C zl_4_12 zsh_20 rfl d_Night_countIn_46 ?_
    refine zz_getR (pc := 49) C zl_4_232 zsh_21 rfl d_Night_countIn_49 ?_
    refine zz_iload_n (i := 1) (pc := 52) C rfl rfl d_Night_countIn_52 ?_
    refine zz_dup2 (pc := 53) C rfl rfl d_Night_countIn_53 ?_
    obtain ⟨hi8, h⟩ := zz_ckE h
    refine zz_iald (pc := 54) C rfl zsh_24 hi8 d_Night_countIn_54 ?_
    refine zz_iload_n (i := 3) (pc := 55) C rfl rfl d_Night_countIn_55 ?_
    refine zz_iadd (pc := 56) C d_Night_countIn_56 ?_
    refine zz_iast (pc := 57) C rfl zsh_24 hi8 d_Night_countIn_57 ?_
    exact zf_Night_countIn_J58 C v1 v2 v3 v4 h
set_option maxHeartbeats 4000000 in
set_option maxRecDepth 100000 in
theorem zf_Night_countIn {G : zz_G} {l : Launch} {Z : zz_Z} {q : zz_S} {s : zz_S} (C : zz_Cx G l "OneBlanket$Night" "countIn" prog_6_method_12_code 5 (none) 4 (none, zsh, q) Z) (a1 : Int32) (a2 : Int32) (a3 : Int32) (h : f_Night_countIn a1 a2 a3 s = some q) : Z 0 [some (.ref 20), some (.int a1), some (.int a2), some (.int a3), none] [] zsh s := by
  unfold f_Night_countIn at h
  refine zz_aload_n (i := 0) (pc := 0) C rfl rfl d_Night_countIn_0 ?_
  refine zz_iload_n (i := 1) (pc := 1) C rfl rfl d_Night_countIn_1 ?_
  refine zz_iload_n (i := 2) (pc := 2) C rfl rfl d_Night_countIn_2 ?_
  obtain ⟨q1, hq1, h⟩ := zz_bdE h
  refine zz_cVi (as := [.int a1, .int a2]) (st := []) (pc := 3) C (zm_Night_warmOf hq1) zcv_Night_warmOf zsh_20 zl_4_219 (by omega) (Nat.le_of_ble_eq_true rfl) d_Night_countIn_3 rfl rfl ?_
  refine zz_istore (i := 4) (lo' := [some (.ref 20), some (.int a1), some (.int a2), some (.int a3), some (.int q1)]) (pc := 6) C (Nat.le_of_ble_eq_true rfl) rfl rfl d_Night_countIn_6 ?_
  refine zz_aload_n (i := 0) (pc := 8) C rfl rfl d_Night_countIn_8 ?_
  refine zz_getR (pc := 9) C zl_4_41 zsh_20 rfl d_Night_countIn_9 ?_
  refine zz_iload_n (i := 1) (pc := 12) C rfl rfl d_Night_countIn_12 ?_
  refine zz_iload (i := 4) (pc := 13) C rfl d_Night_countIn_13 ?_
  obtain ⟨q2, hq2, h⟩ := zz_bdE h
  refine zz_cVi (as := [.int a1, .int q1]) (st := []) (pc := 15) C (zm_Bed_isEasy hq2) zcv_Bed_isEasy zsh_1 zl_4_222 (by omega) (Nat.le_of_ble_eq_true rfl) d_Night_countIn_15 rfl rfl ?_
  refine zz_if_eq (tgt := 34) (pc := 18) C (by decide) d_Night_countIn_18 (fun hc3 => ?_) (fun hc3 => ?_)
  · rw [if_pos hc3] at h
    exact zf_Night_countIn_J34 C a1 a2 a3 q1 h
  · rw [if_neg hc3] at h
    refine zz_aload_n (i := 0) (pc := 21) C rfl rfl d_Night_countIn_21 ?_
    refine zz_getR (pc := 22) C zl_4_12 zsh_20 rfl d_Night_countIn_22 ?_
    refine zz_getR (pc := 25) C zl_4_226 zsh_21 rfl d_Night_countIn_25 ?_
    refine zz_iload_n (i := 1) (pc := 28) C rfl rfl d_Night_countIn_28 ?_
    refine zz_dup2 (pc := 29) C rfl rfl d_Night_countIn_29 ?_
    obtain ⟨hi9, h⟩ := zz_ckE h
    refine zz_iald (pc := 30) C rfl zsh_22 hi9 d_Night_countIn_30 ?_
    refine zz_iload_n (i := 3) (pc := 31) C rfl rfl d_Night_countIn_31 ?_
    refine zz_iadd (pc := 32) C d_Night_countIn_32 ?_
    refine zz_iast (pc := 33) C rfl zsh_22 hi9 d_Night_countIn_33 ?_
    exact zf_Night_countIn_J34 C a1 a2 a3 q1 h
theorem zm_Night_countIn {G : zz_G} {l : Launch} {s : zz_S} {q : zz_S} {a1 : Int32} {a2 : Int32} {a3 : Int32} (h : f_Night_countIn a1 a2 a3 s = some q) : zz_M G l 4 y_Night_countIn prog_6_method_12_code 5 (none) [.ref 20, .int a1, .int a2, .int a3] zsh s (none, zsh, q) :=
  zz_M.intro (by decide) (Nat.le_of_ble_eq_true rfl) (Nat.le_refl _) (Nat.le_refl _) (fun Z C => zf_Night_countIn C a1 a2 a3 h)
theorem d_Night_roll_0 : decode prog_6_method_8_code 0 = .ok (.aload_n 0, 1) := by decide +kernel
theorem d_Night_roll_1 : decode prog_6_method_8_code 1 = .ok (.aload_n 0, 1) := by decide +kernel
theorem d_Night_roll_2 : decode prog_6_method_8_code 2 = .ok (.getfield 97, 3) := by decide +kernel
theorem d_Night_roll_5 : decode prog_6_method_8_code 5 = .ok (.ldc 161, 2) := by decide +kernel
theorem d_Night_roll_7 : decode prog_6_method_8_code 7 = .ok (.imul, 1) := by decide +kernel
theorem d_Night_roll_8 : decode prog_6_method_8_code 8 = .ok (.sipush (12345), 3) := by decide +kernel
theorem d_Night_roll_11 : decode prog_6_method_8_code 11 = .ok (.iadd, 1) := by decide +kernel
theorem d_Night_roll_12 : decode prog_6_method_8_code 12 = .ok (.putfield 97, 3) := by decide +kernel
theorem d_Night_roll_15 : decode prog_6_method_8_code 15 = .ok (.aload_n 0, 1) := by decide +kernel
theorem d_Night_roll_16 : decode prog_6_method_8_code 16 = .ok (.getfield 97, 3) := by decide +kernel
theorem d_Night_roll_19 : decode prog_6_method_8_code 19 = .ok (.bipush (8), 2) := by decide +kernel
theorem d_Night_roll_21 : decode prog_6_method_8_code 21 = .ok (.iushr, 1) := by decide +kernel
theorem d_Night_roll_22 : decode prog_6_method_8_code 22 = .ok (.ireturn, 1) := by decide +kernel
set_option maxHeartbeats 4000000 in
set_option maxRecDepth 100000 in
theorem zf_Night_roll {G : zz_G} {l : Launch} {Z : zz_Z} {q : Int32 × zz_S} {s : zz_S} (C : zz_Cx G l "OneBlanket$Night" "roll" prog_6_method_8_code 1 (some .int) 2 (some (.int q.1), zsh, q.2) Z) (h : f_Night_roll s = some q) : Z 0 [some (.ref 20)] [] zsh s := by
  unfold f_Night_roll at h
  refine zz_aload_n (i := 0) (pc := 0) C rfl rfl d_Night_roll_0 ?_
  refine zz_aload_n (i := 0) (pc := 1) C rfl rfl d_Night_roll_1 ?_
  refine zz_getI (pc := 2) C zl_4_97 zsh_20 rfl d_Night_roll_2 ?_
  refine zz_ldc (pc := 5) C zl_4_161 d_Night_roll_5 ?_
  refine zz_imul (pc := 7) C d_Night_roll_7 ?_
  refine zz_sipush (pc := 8) C zks_12345 d_Night_roll_8 ?_
  refine zz_iadd (pc := 11) C d_Night_roll_11 ?_
  refine zz_putI' (pc := 12) C zl_4_97 zpf_4_15 zsh_20 rfl d_Night_roll_12 ?_
  refine zz_aload_n (i := 0) (pc := 15) C rfl rfl d_Night_roll_15 ?_
  refine zz_getIv (v := (((s.1 20 15) * (1103515245 : Int32)) + (12345 : Int32))) (pc := 16) C zl_4_97 zsh_20 rfl rfl d_Night_roll_16 ?_
  refine zz_bipush (pc := 19) C zkb_8 d_Night_roll_19 ?_
  refine zz_iushr (pc := 21) C d_Night_roll_21 ?_
  replace h := Option.some.inj h
  subst h
  exact zz_ret (pc := 22) C (v := some (.int (((((s.1 20 15) * (1103515245 : Int32)) + (12345 : Int32)).toUInt32 >>> ((8 : Int32).toUInt32 &&& Int32.toUInt32 31)).toInt32))) d_Night_roll_22 (Or.inl ⟨_, _, rfl, rfl, rfl, rfl⟩) rfl
theorem zm_Night_roll {G : zz_G} {l : Launch} {s : zz_S} {q : Int32 × zz_S} (h : f_Night_roll s = some q) : zz_M G l 2 y_Night_roll prog_6_method_8_code 1 (some .int) [.ref 20] zsh s (some (.int q.1), zsh, q.2) :=
  zz_M.intro (by decide) (Nat.le_of_ble_eq_true rfl) (Nat.le_refl _) (Nat.le_refl _) (fun Z C => zf_Night_roll C h)
theorem d_Text_worthOfTwo_0 : decode prog_11_method_6_code 0 = .ok (.iload_n 0, 1) := by decide +kernel
theorem d_Text_worthOfTwo_1 : decode prog_11_method_6_code 1 = .ok (.lookupswitch (168) #[(38, 97), (42, 152), (43, 144), (45, 148), (47, 156), (60, 111), (61, 122), (62, 133), (124, 83)], 83) := by decide +kernel
theorem d_Text_worthOfTwo_84 : decode prog_11_method_6_code 84 = .ok (.iload_n 1, 1) := by decide +kernel
theorem d_Text_worthOfTwo_85 : decode prog_11_method_6_code 85 = .ok (.ifCond .ne (7), 3) := by decide +kernel
theorem d_Text_worthOfTwo_88 : decode prog_11_method_6_code 88 = .ok (.iload_n 2, 1) := by decide +kernel
theorem d_Text_worthOfTwo_89 : decode prog_11_method_6_code 89 = .ok (.ifCond .eq (7), 3) := by decide +kernel
theorem d_Text_worthOfTwo_92 : decode prog_11_method_6_code 92 = .ok (.iconst 1, 1) := by decide +kernel
theorem d_Text_worthOfTwo_93 : decode prog_11_method_6_code 93 = .ok (.goto (4), 3) := by decide +kernel
theorem d_Text_worthOfTwo_96 : decode prog_11_method_6_code 96 = .ok (.iconst 0, 1) := by decide +kernel
theorem d_Text_worthOfTwo_97 : decode prog_11_method_6_code 97 = .ok (.ireturn, 1) := by decide +kernel
theorem d_Text_worthOfTwo_98 : decode prog_11_method_6_code 98 = .ok (.iload_n 1, 1) := by decide +kernel
theorem d_Text_worthOfTwo_99 : decode prog_11_method_6_code 99 = .ok (.ifCond .eq (11), 3) := by decide +kernel
theorem d_Text_worthOfTwo_102 : decode prog_11_method_6_code 102 = .ok (.iload_n 2, 1) := by decide +kernel
theorem d_Text_worthOfTwo_103 : decode prog_11_method_6_code 103 = .ok (.ifCond .eq (7), 3) := by decide +kernel
theorem d_Text_worthOfTwo_106 : decode prog_11_method_6_code 106 = .ok (.iconst 1, 1) := by decide +kernel
theorem d_Text_worthOfTwo_107 : decode prog_11_method_6_code 107 = .ok (.goto (4), 3) := by decide +kernel
theorem d_Text_worthOfTwo_110 : decode prog_11_method_6_code 110 = .ok (.iconst 0, 1) := by decide +kernel
theorem d_Text_worthOfTwo_111 : decode prog_11_method_6_code 111 = .ok (.ireturn, 1) := by decide +kernel
theorem d_Text_worthOfTwo_112 : decode prog_11_method_6_code 112 = .ok (.iload_n 1, 1) := by decide +kernel
theorem d_Text_worthOfTwo_113 : decode prog_11_method_6_code 113 = .ok (.iload_n 2, 1) := by decide +kernel
theorem d_Text_worthOfTwo_114 : decode prog_11_method_6_code 114 = .ok (.if_icmp .ge (7), 3) := by decide +kernel
theorem d_Text_worthOfTwo_117 : decode prog_11_method_6_code 117 = .ok (.iconst 1, 1) := by decide +kernel
theorem d_Text_worthOfTwo_118 : decode prog_11_method_6_code 118 = .ok (.goto (4), 3) := by decide +kernel
theorem d_Text_worthOfTwo_121 : decode prog_11_method_6_code 121 = .ok (.iconst 0, 1) := by decide +kernel
theorem d_Text_worthOfTwo_122 : decode prog_11_method_6_code 122 = .ok (.ireturn, 1) := by decide +kernel
theorem d_Text_worthOfTwo_123 : decode prog_11_method_6_code 123 = .ok (.iload_n 1, 1) := by decide +kernel
theorem d_Text_worthOfTwo_124 : decode prog_11_method_6_code 124 = .ok (.iload_n 2, 1) := by decide +kernel
theorem d_Text_worthOfTwo_125 : decode prog_11_method_6_code 125 = .ok (.if_icmp .ne (7), 3) := by decide +kernel
theorem d_Text_worthOfTwo_128 : decode prog_11_method_6_code 128 = .ok (.iconst 1, 1) := by decide +kernel
theorem d_Text_worthOfTwo_129 : decode prog_11_method_6_code 129 = .ok (.goto (4), 3) := by decide +kernel
theorem d_Text_worthOfTwo_132 : decode prog_11_method_6_code 132 = .ok (.iconst 0, 1) := by decide +kernel
theorem d_Text_worthOfTwo_133 : decode prog_11_method_6_code 133 = .ok (.ireturn, 1) := by decide +kernel
theorem d_Text_worthOfTwo_134 : decode prog_11_method_6_code 134 = .ok (.iload_n 1, 1) := by decide +kernel
theorem d_Text_worthOfTwo_135 : decode prog_11_method_6_code 135 = .ok (.iload_n 2, 1) := by decide +kernel
theorem d_Text_worthOfTwo_136 : decode prog_11_method_6_code 136 = .ok (.if_icmp .le (7), 3) := by decide +kernel
theorem d_Text_worthOfTwo_139 : decode prog_11_method_6_code 139 = .ok (.iconst 1, 1) := by decide +kernel
theorem d_Text_worthOfTwo_140 : decode prog_11_method_6_code 140 = .ok (.goto (4), 3) := by decide +kernel
theorem d_Text_worthOfTwo_143 : decode prog_11_method_6_code 143 = .ok (.iconst 0, 1) := by decide +kernel
theorem d_Text_worthOfTwo_144 : decode prog_11_method_6_code 144 = .ok (.ireturn, 1) := by decide +kernel
theorem d_Text_worthOfTwo_145 : decode prog_11_method_6_code 145 = .ok (.iload_n 1, 1) := by decide +kernel
theorem d_Text_worthOfTwo_146 : decode prog_11_method_6_code 146 = .ok (.iload_n 2, 1) := by decide +kernel
theorem d_Text_worthOfTwo_147 : decode prog_11_method_6_code 147 = .ok (.iadd, 1) := by decide +kernel
theorem d_Text_worthOfTwo_148 : decode prog_11_method_6_code 148 = .ok (.ireturn, 1) := by decide +kernel
theorem d_Text_worthOfTwo_149 : decode prog_11_method_6_code 149 = .ok (.iload_n 1, 1) := by decide +kernel
theorem d_Text_worthOfTwo_150 : decode prog_11_method_6_code 150 = .ok (.iload_n 2, 1) := by decide +kernel
theorem d_Text_worthOfTwo_151 : decode prog_11_method_6_code 151 = .ok (.isub, 1) := by decide +kernel
theorem d_Text_worthOfTwo_152 : decode prog_11_method_6_code 152 = .ok (.ireturn, 1) := by decide +kernel
theorem d_Text_worthOfTwo_153 : decode prog_11_method_6_code 153 = .ok (.iload_n 1, 1) := by decide +kernel
theorem d_Text_worthOfTwo_154 : decode prog_11_method_6_code 154 = .ok (.iload_n 2, 1) := by decide +kernel
theorem d_Text_worthOfTwo_155 : decode prog_11_method_6_code 155 = .ok (.imul, 1) := by decide +kernel
theorem d_Text_worthOfTwo_156 : decode prog_11_method_6_code 156 = .ok (.ireturn, 1) := by decide +kernel
theorem d_Text_worthOfTwo_157 : decode prog_11_method_6_code 157 = .ok (.iload_n 2, 1) := by decide +kernel
theorem d_Text_worthOfTwo_158 : decode prog_11_method_6_code 158 = .ok (.ifCond .ne (7), 3) := by decide +kernel
theorem d_Text_worthOfTwo_161 : decode prog_11_method_6_code 161 = .ok (.iconst 0, 1) := by decide +kernel
theorem d_Text_worthOfTwo_162 : decode prog_11_method_6_code 162 = .ok (.goto (6), 3) := by decide +kernel
theorem d_Text_worthOfTwo_165 : decode prog_11_method_6_code 165 = .ok (.iload_n 1, 1) := by decide +kernel
theorem d_Text_worthOfTwo_166 : decode prog_11_method_6_code 166 = .ok (.iload_n 2, 1) := by decide +kernel
theorem d_Text_worthOfTwo_167 : decode prog_11_method_6_code 167 = .ok (.idiv, 1) := by decide +kernel
theorem d_Text_worthOfTwo_168 : decode prog_11_method_6_code 168 = .ok (.ireturn, 1) := by decide +kernel
theorem d_Text_worthOfTwo_169 : decode prog_11_method_6_code 169 = .ok (.iload_n 2, 1) := by decide +kernel
theorem d_Text_worthOfTwo_170 : decode prog_11_method_6_code 170 = .ok (.ifCond .ne (7), 3) := by decide +kernel
theorem d_Text_worthOfTwo_173 : decode prog_11_method_6_code 173 = .ok (.iconst 0, 1) := by decide +kernel
theorem d_Text_worthOfTwo_174 : decode prog_11_method_6_code 174 = .ok (.goto (6), 3) := by decide +kernel
theorem d_Text_worthOfTwo_177 : decode prog_11_method_6_code 177 = .ok (.iload_n 1, 1) := by decide +kernel
theorem d_Text_worthOfTwo_178 : decode prog_11_method_6_code 178 = .ok (.iload_n 2, 1) := by decide +kernel
theorem d_Text_worthOfTwo_179 : decode prog_11_method_6_code 179 = .ok (.irem, 1) := by decide +kernel
theorem d_Text_worthOfTwo_180 : decode prog_11_method_6_code 180 = .ok (.ireturn, 1) := by decide +kernel
set_option maxHeartbeats 4000000 in
set_option maxRecDepth 100000 in
theorem zf_Text_worthOfTwo_J92 {G : zz_G} {l : Launch} {Z : zz_Z} {sh : List zz_Sh} {q : Int32} {s : zz_S} (C : zz_Cx G l "OneBlanket$Text" "worthOfTwo" prog_11_method_6_code 3 (some .int) 2 (some (.int q), sh, s) Z) (h : f_Text_worthOfTwo_J92 = some q) : Z 92 [none, none, none] [] sh s := by
  unfold f_Text_worthOfTwo_J92 at h
  refine zz_iconst (pc := 92) C zki_1 d_Text_worthOfTwo_92 ?_
  refine zz_goto (tgt := 97) (pc := 93) C (by decide) d_Text_worthOfTwo_93 ?_
  replace h := Option.some.inj h
  subst h
  exact zz_ret (pc := 97) C (v := some (.int (1 : Int32))) d_Text_worthOfTwo_97 (Or.inl ⟨_, _, rfl, rfl, rfl, rfl⟩) rfl
set_option maxHeartbeats 4000000 in
set_option maxRecDepth 100000 in
theorem zf_Text_worthOfTwo {G : zz_G} {l : Launch} {Z : zz_Z} {sh : List zz_Sh} {q : Int32} {s : zz_S} (C : zz_Cx G l "OneBlanket$Text" "worthOfTwo" prog_11_method_6_code 3 (some .int) 2 (some (.int q), sh, s) Z) (a0 : Int32) (a1 : Int32) (a2 : Int32) (h : f_Text_worthOfTwo a0 a1 a2 = some q) : Z 0 [some (.int a0), some (.int a1), some (.int a2)] [] sh s := by
  unfold f_Text_worthOfTwo at h
  refine zz_iload_n (i := 0) (pc := 0) C rfl rfl d_Text_worthOfTwo_0 ?_
  by_cases hc1 : a0 = (38 : Int32)
  · rw [if_pos hc1] at h
    refine zz_lookup (tgt := 98) (off := 97) (pc := 1) C (by decide) (by rw [hc1]; decide) (by decide) d_Text_worthOfTwo_1 ?_
    refine zz_iload_n (i := 1) (pc := 98) C rfl rfl d_Text_worthOfTwo_98 ?_
    refine zz_if_eq (tgt := 110) (pc := 99) C (by decide) d_Text_worthOfTwo_99 (fun hc2 => ?_) (fun hc2 => ?_)
    · rw [if_pos hc2] at h
      refine zz_iconst (pc := 110) C zki_0 d_Text_worthOfTwo_110 ?_
      replace h := Option.some.inj h
      subst h
      exact zz_ret (pc := 111) C (v := some (.int (0 : Int32))) d_Text_worthOfTwo_111 (Or.inl ⟨_, _, rfl, rfl, rfl, rfl⟩) rfl
    · rw [if_neg hc2] at h
      refine zz_iload_n (i := 2) (pc := 102) C rfl rfl d_Text_worthOfTwo_102 ?_
      refine zz_if_eq (tgt := 110) (pc := 103) C (by decide) d_Text_worthOfTwo_103 (fun hc3 => ?_) (fun hc3 => ?_)
      · rw [if_pos hc3] at h
        refine zz_iconst (pc := 110) C zki_0 d_Text_worthOfTwo_110 ?_
        replace h := Option.some.inj h
        subst h
        exact zz_ret (pc := 111) C (v := some (.int (0 : Int32))) d_Text_worthOfTwo_111 (Or.inl ⟨_, _, rfl, rfl, rfl, rfl⟩) rfl
      · rw [if_neg hc3] at h
        refine zz_iconst (pc := 106) C zki_1 d_Text_worthOfTwo_106 ?_
        refine zz_goto (tgt := 111) (pc := 107) C (by decide) d_Text_worthOfTwo_107 ?_
        replace h := Option.some.inj h
        subst h
        exact zz_ret (pc := 111) C (v := some (.int (1 : Int32))) d_Text_worthOfTwo_111 (Or.inl ⟨_, _, rfl, rfl, rfl, rfl⟩) rfl
  · rw [if_neg hc1] at h
    by_cases hc4 : a0 = (42 : Int32)
    · rw [if_pos hc4] at h
      refine zz_lookup (tgt := 153) (off := 152) (pc := 1) C (by decide) (by rw [hc4]; decide) (by decide) d_Text_worthOfTwo_1 ?_
      refine zz_iload_n (i := 1) (pc := 153) C rfl rfl d_Text_worthOfTwo_153 ?_
      refine zz_iload_n (i := 2) (pc := 154) C rfl rfl d_Text_worthOfTwo_154 ?_
      refine zz_imul (pc := 155) C d_Text_worthOfTwo_155 ?_
      replace h := Option.some.inj h
      subst h
      exact zz_ret (pc := 156) C (v := some (.int (a1 * a2))) d_Text_worthOfTwo_156 (Or.inl ⟨_, _, rfl, rfl, rfl, rfl⟩) rfl
    · rw [if_neg hc4] at h
      by_cases hc5 : a0 = (43 : Int32)
      · rw [if_pos hc5] at h
        refine zz_lookup (tgt := 145) (off := 144) (pc := 1) C (by decide) (by rw [hc5]; decide) (by decide) d_Text_worthOfTwo_1 ?_
        refine zz_iload_n (i := 1) (pc := 145) C rfl rfl d_Text_worthOfTwo_145 ?_
        refine zz_iload_n (i := 2) (pc := 146) C rfl rfl d_Text_worthOfTwo_146 ?_
        refine zz_iadd (pc := 147) C d_Text_worthOfTwo_147 ?_
        replace h := Option.some.inj h
        subst h
        exact zz_ret (pc := 148) C (v := some (.int (a1 + a2))) d_Text_worthOfTwo_148 (Or.inl ⟨_, _, rfl, rfl, rfl, rfl⟩) rfl
      · rw [if_neg hc5] at h
        by_cases hc6 : a0 = (45 : Int32)
        · rw [if_pos hc6] at h
          refine zz_lookup (tgt := 149) (off := 148) (pc := 1) C (by decide) (by rw [hc6]; decide) (by decide) d_Text_worthOfTwo_1 ?_
          refine zz_iload_n (i := 1) (pc := 149) C rfl rfl d_Text_worthOfTwo_149 ?_
          refine zz_iload_n (i := 2) (pc := 150) C rfl rfl d_Text_worthOfTwo_150 ?_
          refine zz_isub (pc := 151) C d_Text_worthOfTwo_151 ?_
          replace h := Option.some.inj h
          subst h
          exact zz_ret (pc := 152) C (v := some (.int (a1 - a2))) d_Text_worthOfTwo_152 (Or.inl ⟨_, _, rfl, rfl, rfl, rfl⟩) rfl
        · rw [if_neg hc6] at h
          by_cases hc7 : a0 = (47 : Int32)
          · rw [if_pos hc7] at h
            refine zz_lookup (tgt := 157) (off := 156) (pc := 1) C (by decide) (by rw [hc7]; decide) (by decide) d_Text_worthOfTwo_1 ?_
            refine zz_iload_n (i := 2) (pc := 157) C rfl rfl d_Text_worthOfTwo_157 ?_
            refine zz_if_ne (tgt := 165) (pc := 158) C (by decide) d_Text_worthOfTwo_158 (fun hc8 => ?_) (fun hc8 => ?_)
            · rw [if_neg hc8] at h
              refine zz_iload_n (i := 1) (pc := 165) C rfl rfl d_Text_worthOfTwo_165 ?_
              refine zz_iload_n (i := 2) (pc := 166) C rfl rfl d_Text_worthOfTwo_166 ?_
              obtain ⟨hy9, h⟩ := zz_ckN h
              refine zz_idiv (pc := 167) C hy9 d_Text_worthOfTwo_167 ?_
              replace h := Option.some.inj h
              subst h
              exact zz_ret (pc := 168) C (v := some (.int (a1 / a2))) d_Text_worthOfTwo_168 (Or.inl ⟨_, _, rfl, rfl, rfl, rfl⟩) rfl
            · rw [if_pos hc8] at h
              refine zz_iconst (pc := 161) C zki_0 d_Text_worthOfTwo_161 ?_
              refine zz_goto (tgt := 168) (pc := 162) C (by decide) d_Text_worthOfTwo_162 ?_
              replace h := Option.some.inj h
              subst h
              exact zz_ret (pc := 168) C (v := some (.int (0 : Int32))) d_Text_worthOfTwo_168 (Or.inl ⟨_, _, rfl, rfl, rfl, rfl⟩) rfl
          · rw [if_neg hc7] at h
            by_cases hc10 : a0 = (60 : Int32)
            · rw [if_pos hc10] at h
              refine zz_lookup (tgt := 112) (off := 111) (pc := 1) C (by decide) (by rw [hc10]; decide) (by decide) d_Text_worthOfTwo_1 ?_
              refine zz_iload_n (i := 1) (pc := 112) C rfl rfl d_Text_worthOfTwo_112 ?_
              refine zz_iload_n (i := 2) (pc := 113) C rfl rfl d_Text_worthOfTwo_113 ?_
              refine zz_icmp_ge (tgt := 121) (pc := 114) C (by decide) d_Text_worthOfTwo_114 (fun hc11 => ?_) (fun hc11 => ?_)
              · rw [if_pos hc11] at h
                refine zz_iconst (pc := 121) C zki_0 d_Text_worthOfTwo_121 ?_
                replace h := Option.some.inj h
                subst h
                exact zz_ret (pc := 122) C (v := some (.int (0 : Int32))) d_Text_worthOfTwo_122 (Or.inl ⟨_, _, rfl, rfl, rfl, rfl⟩) rfl
              · rw [if_neg hc11] at h
                refine zz_iconst (pc := 117) C zki_1 d_Text_worthOfTwo_117 ?_
                refine zz_goto (tgt := 122) (pc := 118) C (by decide) d_Text_worthOfTwo_118 ?_
                replace h := Option.some.inj h
                subst h
                exact zz_ret (pc := 122) C (v := some (.int (1 : Int32))) d_Text_worthOfTwo_122 (Or.inl ⟨_, _, rfl, rfl, rfl, rfl⟩) rfl
            · rw [if_neg hc10] at h
              by_cases hc12 : a0 = (61 : Int32)
              · rw [if_pos hc12] at h
                refine zz_lookup (tgt := 123) (off := 122) (pc := 1) C (by decide) (by rw [hc12]; decide) (by decide) d_Text_worthOfTwo_1 ?_
                refine zz_iload_n (i := 1) (pc := 123) C rfl rfl d_Text_worthOfTwo_123 ?_
                refine zz_iload_n (i := 2) (pc := 124) C rfl rfl d_Text_worthOfTwo_124 ?_
                refine zz_icmp_ne (tgt := 132) (pc := 125) C (by decide) d_Text_worthOfTwo_125 (fun hc13 => ?_) (fun hc13 => ?_)
                · rw [if_neg hc13] at h
                  refine zz_iconst (pc := 132) C zki_0 d_Text_worthOfTwo_132 ?_
                  replace h := Option.some.inj h
                  subst h
                  exact zz_ret (pc := 133) C (v := some (.int (0 : Int32))) d_Text_worthOfTwo_133 (Or.inl ⟨_, _, rfl, rfl, rfl, rfl⟩) rfl
                · rw [if_pos hc13] at h
                  refine zz_iconst (pc := 128) C zki_1 d_Text_worthOfTwo_128 ?_
                  refine zz_goto (tgt := 133) (pc := 129) C (by decide) d_Text_worthOfTwo_129 ?_
                  replace h := Option.some.inj h
                  subst h
                  exact zz_ret (pc := 133) C (v := some (.int (1 : Int32))) d_Text_worthOfTwo_133 (Or.inl ⟨_, _, rfl, rfl, rfl, rfl⟩) rfl
              · rw [if_neg hc12] at h
                by_cases hc14 : a0 = (62 : Int32)
                · rw [if_pos hc14] at h
                  refine zz_lookup (tgt := 134) (off := 133) (pc := 1) C (by decide) (by rw [hc14]; decide) (by decide) d_Text_worthOfTwo_1 ?_
                  refine zz_iload_n (i := 1) (pc := 134) C rfl rfl d_Text_worthOfTwo_134 ?_
                  refine zz_iload_n (i := 2) (pc := 135) C rfl rfl d_Text_worthOfTwo_135 ?_
                  refine zz_icmp_le (tgt := 143) (pc := 136) C (by decide) d_Text_worthOfTwo_136 (fun hc15 => ?_) (fun hc15 => ?_)
                  · rw [if_pos hc15] at h
                    refine zz_iconst (pc := 143) C zki_0 d_Text_worthOfTwo_143 ?_
                    replace h := Option.some.inj h
                    subst h
                    exact zz_ret (pc := 144) C (v := some (.int (0 : Int32))) d_Text_worthOfTwo_144 (Or.inl ⟨_, _, rfl, rfl, rfl, rfl⟩) rfl
                  · rw [if_neg hc15] at h
                    refine zz_iconst (pc := 139) C zki_1 d_Text_worthOfTwo_139 ?_
                    refine zz_goto (tgt := 144) (pc := 140) C (by decide) d_Text_worthOfTwo_140 ?_
                    replace h := Option.some.inj h
                    subst h
                    exact zz_ret (pc := 144) C (v := some (.int (1 : Int32))) d_Text_worthOfTwo_144 (Or.inl ⟨_, _, rfl, rfl, rfl, rfl⟩) rfl
                · rw [if_neg hc14] at h
                  by_cases hc16 : a0 = (124 : Int32)
                  · rw [if_pos hc16] at h
                    refine zz_lookup (tgt := 84) (off := 83) (pc := 1) C (by decide) (by rw [hc16]; decide) (by decide) d_Text_worthOfTwo_1 ?_
                    refine zz_iload_n (i := 1) (pc := 84) C rfl rfl d_Text_worthOfTwo_84 ?_
                    refine zz_if_ne (tgt := 92) (pc := 85) C (by decide) d_Text_worthOfTwo_85 (fun hc17 => ?_) (fun hc17 => ?_)
                    · rw [if_neg hc17] at h
                      refine zz_fg C [false, false, false] rfl rfl ?_
                      exact zf_Text_worthOfTwo_J92 C h
                    · rw [if_pos hc17] at h
                      refine zz_iload_n (i := 2) (pc := 88) C rfl rfl d_Text_worthOfTwo_88 ?_
                      refine zz_if_eq (tgt := 96) (pc := 89) C (by decide) d_Text_worthOfTwo_89 (fun hc18 => ?_) (fun hc18 => ?_)
                      · rw [if_pos hc18] at h
                        refine zz_iconst (pc := 96) C zki_0 d_Text_worthOfTwo_96 ?_
                        replace h := Option.some.inj h
                        subst h
                        exact zz_ret (pc := 97) C (v := some (.int (0 : Int32))) d_Text_worthOfTwo_97 (Or.inl ⟨_, _, rfl, rfl, rfl, rfl⟩) rfl
                      · rw [if_neg hc18] at h
                        refine zz_fg C [false, false, false] rfl rfl ?_
                        exact zf_Text_worthOfTwo_J92 C h
                  · rw [if_neg hc16] at h
                    have hc1i : a0.toInt ≠ 38 := fun e => hc1 (Int32.toInt_inj.mp e)
                    have hc4i : a0.toInt ≠ 42 := fun e => hc4 (Int32.toInt_inj.mp e)
                    have hc5i : a0.toInt ≠ 43 := fun e => hc5 (Int32.toInt_inj.mp e)
                    have hc6i : a0.toInt ≠ 45 := fun e => hc6 (Int32.toInt_inj.mp e)
                    have hc7i : a0.toInt ≠ 47 := fun e => hc7 (Int32.toInt_inj.mp e)
                    have hc10i : a0.toInt ≠ 60 := fun e => hc10 (Int32.toInt_inj.mp e)
                    have hc12i : a0.toInt ≠ 61 := fun e => hc12 (Int32.toInt_inj.mp e)
                    have hc14i : a0.toInt ≠ 62 := fun e => hc14 (Int32.toInt_inj.mp e)
                    have hc16i : a0.toInt ≠ 124 := fun e => hc16 (Int32.toInt_inj.mp e)
                    refine zz_lookup (tgt := 169) (off := 168) (pc := 1) C (by decide) (zlk_Text_worthOfTwo_1 hc1i hc4i hc5i hc6i hc7i hc10i hc12i hc14i hc16i) (by decide) d_Text_worthOfTwo_1 ?_
                    refine zz_iload_n (i := 2) (pc := 169) C rfl rfl d_Text_worthOfTwo_169 ?_
                    refine zz_if_ne (tgt := 177) (pc := 170) C (by decide) d_Text_worthOfTwo_170 (fun hc19 => ?_) (fun hc19 => ?_)
                    · rw [if_neg hc19] at h
                      refine zz_iload_n (i := 1) (pc := 177) C rfl rfl d_Text_worthOfTwo_177 ?_
                      refine zz_iload_n (i := 2) (pc := 178) C rfl rfl d_Text_worthOfTwo_178 ?_
                      obtain ⟨hy20, h⟩ := zz_ckN h
                      refine zz_irem (pc := 179) C hy20 d_Text_worthOfTwo_179 ?_
                      replace h := Option.some.inj h
                      subst h
                      exact zz_ret (pc := 180) C (v := some (.int (a1 % a2))) d_Text_worthOfTwo_180 (Or.inl ⟨_, _, rfl, rfl, rfl, rfl⟩) rfl
                    · rw [if_pos hc19] at h
                      refine zz_iconst (pc := 173) C zki_0 d_Text_worthOfTwo_173 ?_
                      refine zz_goto (tgt := 180) (pc := 174) C (by decide) d_Text_worthOfTwo_174 ?_
                      replace h := Option.some.inj h
                      subst h
                      exact zz_ret (pc := 180) C (v := some (.int (0 : Int32))) d_Text_worthOfTwo_180 (Or.inl ⟨_, _, rfl, rfl, rfl, rfl⟩) rfl
theorem zm_Text_worthOfTwo {G : zz_G} {l : Launch} {sh : List zz_Sh} {s : zz_S} {q : Int32} {a0 : Int32} {a1 : Int32} {a2 : Int32} (h : f_Text_worthOfTwo a0 a1 a2 = some q) : zz_M G l 2 y_Text_worthOfTwo prog_11_method_6_code 3 (some .int) [.int a0, .int a1, .int a2] sh s (some (.int q), sh, s) :=
  zz_M.intro (by decide) (Nat.le_of_ble_eq_true rfl) (Nat.le_refl _) (Nat.le_refl _) (fun Z C => zf_Text_worthOfTwo C a0 a1 a2 h)
theorem d_Text_worth_0 : decode prog_11_method_5_code 0 = .ok (.iconst 0, 1) := by decide +kernel
theorem d_Text_worth_1 : decode prog_11_method_5_code 1 = .ok (.istore_n 2, 1) := by decide +kernel
theorem d_Text_worth_2 : decode prog_11_method_5_code 2 = .ok (.iconst 0, 1) := by decide +kernel
theorem d_Text_worth_3 : decode prog_11_method_5_code 3 = .ok (.istore_n 3, 1) := by decide +kernel
theorem d_Text_worth_4 : decode prog_11_method_5_code 4 = .ok (.iconst 0, 1) := by decide +kernel
theorem d_Text_worth_5 : decode prog_11_method_5_code 5 = .ok (.istore 4, 2) := by decide +kernel
theorem d_Text_worth_7 : decode prog_11_method_5_code 7 = .ok (.iload 4, 2) := by decide +kernel
theorem d_Text_worth_9 : decode prog_11_method_5_code 9 = .ok (.aload_n 0, 1) := by decide +kernel
theorem d_Text_worth_10 : decode prog_11_method_5_code 10 = .ok (.getfield 18, 3) := by decide +kernel
theorem d_Text_worth_13 : decode prog_11_method_5_code 13 = .ok (.if_icmp .ge (223), 3) := by decide +kernel
theorem d_Text_worth_16 : decode prog_11_method_5_code 16 = .ok (.aload_n 0, 1) := by decide +kernel
theorem d_Text_worth_17 : decode prog_11_method_5_code 17 = .ok (.getfield 11, 3) := by decide +kernel
theorem d_Text_worth_20 : decode prog_11_method_5_code 20 = .ok (.iload 4, 2) := by decide +kernel
theorem d_Text_worth_22 : decode prog_11_method_5_code 22 = .ok (.iaload, 1) := by decide +kernel
theorem d_Text_worth_23 : decode prog_11_method_5_code 23 = .ok (.istore 5, 2) := by decide +kernel
theorem d_Text_worth_25 : decode prog_11_method_5_code 25 = .ok (.iload 4, 2) := by decide +kernel
theorem d_Text_worth_27 : decode prog_11_method_5_code 27 = .ok (.iload_n 3, 1) := by decide +kernel
theorem d_Text_worth_28 : decode prog_11_method_5_code 28 = .ok (.if_icmp .ge (6), 3) := by decide +kernel
theorem d_Text_worth_31 : decode prog_11_method_5_code 31 = .ok (.goto (199), 3) := by decide +kernel
theorem d_Text_worth_34 : decode prog_11_method_5_code 34 = .ok (.iload 5, 2) := by decide +kernel
theorem d_Text_worth_36 : decode prog_11_method_5_code 36 = .ok (.sipush (20000), 3) := by decide +kernel
theorem d_Text_worth_39 : decode prog_11_method_5_code 39 = .ok (.if_icmp .lt (23), 3) := by decide +kernel
theorem d_Text_worth_42 : decode prog_11_method_5_code 42 = .ok (.aload_n 0, 1) := by decide +kernel
theorem d_Text_worth_43 : decode prog_11_method_5_code 43 = .ok (.getfield 15, 3) := by decide +kernel
theorem d_Text_worth_46 : decode prog_11_method_5_code 46 = .ok (.iload_n 2, 1) := by decide +kernel
theorem d_Text_worth_47 : decode prog_11_method_5_code 47 = .ok (.aload_n 1, 1) := by decide +kernel
theorem d_Text_worth_48 : decode prog_11_method_5_code 48 = .ok (.iload 5, 2) := by decide +kernel
theorem d_Text_worth_50 : decode prog_11_method_5_code 50 = .ok (.sipush (20000), 3) := by decide +kernel
theorem d_Text_worth_53 : decode prog_11_method_5_code 53 = .ok (.isub, 1) := by decide +kernel
theorem d_Text_worth_54 : decode prog_11_method_5_code 54 = .ok (.iaload, 1) := by decide +kernel
theorem d_Text_worth_55 : decode prog_11_method_5_code 55 = .ok (.iastore, 1) := by decide +kernel
theorem d_Text_worth_56 : decode prog_11_method_5_code 56 = .ok (.iinc 2 (1), 3) := by decide +kernel
theorem d_Text_worth_59 : decode prog_11_method_5_code 59 = .ok (.goto (171), 3) := by decide +kernel
theorem d_Text_worth_62 : decode prog_11_method_5_code 62 = .ok (.iload 5, 2) := by decide +kernel
theorem d_Text_worth_64 : decode prog_11_method_5_code 64 = .ok (.sipush (10000), 3) := by decide +kernel
theorem d_Text_worth_67 : decode prog_11_method_5_code 67 = .ok (.if_icmp .lt (28), 3) := by decide +kernel
theorem d_Text_worth_70 : decode prog_11_method_5_code 70 = .ok (.iconst 0, 1) := by decide +kernel
theorem d_Text_worth_71 : decode prog_11_method_5_code 71 = .ok (.istore_n 2, 1) := by decide +kernel
theorem d_Text_worth_72 : decode prog_11_method_5_code 72 = .ok (.aload_n 0, 1) := by decide +kernel
theorem d_Text_worth_73 : decode prog_11_method_5_code 73 = .ok (.getfield 15, 3) := by decide +kernel
theorem d_Text_worth_76 : decode prog_11_method_5_code 76 = .ok (.iconst 0, 1) := by decide +kernel
theorem d_Text_worth_77 : decode prog_11_method_5_code 77 = .ok (.iaload, 1) := by decide +kernel
theorem d_Text_worth_78 : decode prog_11_method_5_code 78 = .ok (.ifCond .ne (12), 3) := by decide +kernel
theorem d_Text_worth_81 : decode prog_11_method_5_code 81 = .ok (.iload 5, 2) := by decide +kernel
theorem d_Text_worth_83 : decode prog_11_method_5_code 83 = .ok (.sipush (10000), 3) := by decide +kernel
theorem d_Text_worth_86 : decode prog_11_method_5_code 86 = .ok (.isub, 1) := by decide +kernel
theorem d_Text_worth_87 : decode prog_11_method_5_code 87 = .ok (.goto (4), 3) := by decide +kernel
theorem d_Text_worth_90 : decode prog_11_method_5_code 90 = .ok (.iconst 0, 1) := by decide +kernel
theorem d_Text_worth_91 : decode prog_11_method_5_code 91 = .ok (.istore_n 3, 1) := by decide +kernel
theorem d_Text_worth_92 : decode prog_11_method_5_code 92 = .ok (.goto (138), 3) := by decide +kernel
theorem d_Text_worth_95 : decode prog_11_method_5_code 95 = .ok (.iload 5, 2) := by decide +kernel
theorem d_Text_worth_97 : decode prog_11_method_5_code 97 = .ok (.ifCond .lt (17), 3) := by decide +kernel
theorem d_Text_worth_100 : decode prog_11_method_5_code 100 = .ok (.aload_n 0, 1) := by decide +kernel
theorem d_Text_worth_101 : decode prog_11_method_5_code 101 = .ok (.getfield 15, 3) := by decide +kernel
theorem d_Text_worth_104 : decode prog_11_method_5_code 104 = .ok (.iload_n 2, 1) := by decide +kernel
theorem d_Text_worth_105 : decode prog_11_method_5_code 105 = .ok (.iload 5, 2) := by decide +kernel
theorem d_Text_worth_107 : decode prog_11_method_5_code 107 = .ok (.iastore, 1) := by decide +kernel
theorem d_Text_worth_108 : decode prog_11_method_5_code 108 = .ok (.iinc 2 (1), 3) := by decide +kernel
theorem d_Text_worth_111 : decode prog_11_method_5_code 111 = .ok (.goto (119), 3) := by decide +kernel
theorem d_Text_worth_114 : decode prog_11_method_5_code 114 = .ok (.iload 5, 2) := by decide +kernel
theorem d_Text_worth_116 : decode prog_11_method_5_code 116 = .ok (.bipush (-59), 2) := by decide +kernel
theorem d_Text_worth_118 : decode prog_11_method_5_code 118 = .ok (.if_icmp .ne (10), 3) := by decide +kernel
theorem d_Text_worth_121 : decode prog_11_method_5_code 121 = .ok (.aload_n 0, 1) := by decide +kernel
theorem d_Text_worth_122 : decode prog_11_method_5_code 122 = .ok (.getfield 15, 3) := by decide +kernel
theorem d_Text_worth_125 : decode prog_11_method_5_code 125 = .ok (.iconst 0, 1) := by decide +kernel
theorem d_Text_worth_126 : decode prog_11_method_5_code 126 = .ok (.iaload, 1) := by decide +kernel
theorem d_Text_worth_127 : decode prog_11_method_5_code 127 = .ok (.ireturn, 1) := by decide +kernel
theorem d_Text_worth_128 : decode prog_11_method_5_code 128 = .ok (.iload 5, 2) := by decide +kernel
theorem d_Text_worth_130 : decode prog_11_method_5_code 130 = .ok (.bipush (-126), 2) := by decide +kernel
theorem d_Text_worth_132 : decode prog_11_method_5_code 132 = .ok (.if_icmp .eq (10), 3) := by decide +kernel
theorem d_Text_worth_135 : decode prog_11_method_5_code 135 = .ok (.iload 5, 2) := by decide +kernel
theorem d_Text_worth_137 : decode prog_11_method_5_code 137 = .ok (.bipush (-33), 2) := by decide +kernel
theorem d_Text_worth_139 : decode prog_11_method_5_code 139 = .ok (.if_icmp .ne (55), 3) := by decide +kernel
theorem d_Text_worth_142 : decode prog_11_method_5_code 142 = .ok (.iconst 0, 1) := by decide +kernel
theorem d_Text_worth_143 : decode prog_11_method_5_code 143 = .ok (.iload_n 2, 1) := by decide +kernel
theorem d_Text_worth_144 : decode prog_11_method_5_code 144 = .ok (.iconst 1, 1) := by decide +kernel
theorem d_Text_worth_145 : decode prog_11_method_5_code 145 = .ok (.isub, 1) := by decide +kernel
theorem d_Text_worth_146 : decode prog_11_method_5_code 146 = .ok (.invokestatic 28, 3) := by decide +kernel
theorem d_Text_worth_149 : decode prog_11_method_5_code 149 = .ok (.istore 6, 2) := by decide +kernel
theorem d_Text_worth_151 : decode prog_11_method_5_code 151 = .ok (.aload_n 0, 1) := by decide +kernel
theorem d_Text_worth_152 : decode prog_11_method_5_code 152 = .ok (.getfield 15, 3) := by decide +kernel
theorem d_Text_worth_155 : decode prog_11_method_5_code 155 = .ok (.iload 6, 2) := by decide +kernel
theorem d_Text_worth_157 : decode prog_11_method_5_code 157 = .ok (.iload 5, 2) := by decide +kernel
theorem d_Text_worth_159 : decode prog_11_method_5_code 159 = .ok (.bipush (-126), 2) := by decide +kernel
theorem d_Text_worth_161 : decode prog_11_method_5_code 161 = .ok (.if_icmp .ne (14), 3) := by decide +kernel
theorem d_Text_worth_164 : decode prog_11_method_5_code 164 = .ok (.aload_n 0, 1) := by decide +kernel
theorem d_Text_worth_165 : decode prog_11_method_5_code 165 = .ok (.getfield 15, 3) := by decide +kernel
theorem d_Text_worth_168 : decode prog_11_method_5_code 168 = .ok (.iload 6, 2) := by decide +kernel
theorem d_Text_worth_170 : decode prog_11_method_5_code 170 = .ok (.iaload, 1) := by decide +kernel
theorem d_Text_worth_171 : decode prog_11_method_5_code 171 = .ok (.ineg, 1) := by decide +kernel
theorem d_Text_worth_172 : decode prog_11_method_5_code 172 = .ok (.goto (18), 3) := by decide +kernel
theorem d_Text_worth_175 : decode prog_11_method_5_code 175 = .ok (.aload_n 0, 1) := by decide +kernel
theorem d_Text_worth_176 : decode prog_11_method_5_code 176 = .ok (.getfield 15, 3) := by decide +kernel
theorem d_Text_worth_179 : decode prog_11_method_5_code 179 = .ok (.iload 6, 2) := by decide +kernel
theorem d_Text_worth_181 : decode prog_11_method_5_code 181 = .ok (.iaload, 1) := by decide +kernel
theorem d_Text_worth_182 : decode prog_11_method_5_code 182 = .ok (.ifCond .ne (7), 3) := by decide +kernel
theorem d_Text_worth_185 : decode prog_11_method_5_code 185 = .ok (.iconst 1, 1) := by decide +kernel
theorem d_Text_worth_186 : decode prog_11_method_5_code 186 = .ok (.goto (4), 3) := by decide +kernel
theorem d_Text_worth_189 : decode prog_11_method_5_code 189 = .ok (.iconst 0, 1) := by decide +kernel
theorem d_Text_worth_190 : decode prog_11_method_5_code 190 = .ok (.iastore, 1) := by decide +kernel
theorem d_Text_worth_191 : decode prog_11_method_5_code 191 = .ok (.goto (39), 3) := by decide +kernel
theorem d_Text_worth_194 : decode prog_11_method_5_code 194 = .ok (.iconst 1, 1) := by decide +kernel
theorem d_Text_worth_195 : decode prog_11_method_5_code 195 = .ok (.iload_n 2, 1) := by decide +kernel
theorem d_Text_worth_196 : decode prog_11_method_5_code 196 = .ok (.iconst 1, 1) := by decide +kernel
theorem d_Text_worth_197 : decode prog_11_method_5_code 197 = .ok (.isub, 1) := by decide +kernel
theorem d_Text_worth_198 : decode prog_11_method_5_code 198 = .ok (.invokestatic 28, 3) := by decide +kernel
theorem d_Text_worth_201 : decode prog_11_method_5_code 201 = .ok (.istore_n 2, 1) := by decide +kernel
theorem d_Text_worth_202 : decode prog_11_method_5_code 202 = .ok (.aload_n 0, 1) := by decide +kernel
theorem d_Text_worth_203 : decode prog_11_method_5_code 203 = .ok (.getfield 15, 3) := by decide +kernel
theorem d_Text_worth_206 : decode prog_11_method_5_code 206 = .ok (.iload_n 2, 1) := by decide +kernel
theorem d_Text_worth_207 : decode prog_11_method_5_code 207 = .ok (.iconst 1, 1) := by decide +kernel
theorem d_Text_worth_208 : decode prog_11_method_5_code 208 = .ok (.isub, 1) := by decide +kernel
theorem d_Text_worth_209 : decode prog_11_method_5_code 209 = .ok (.iload 5, 2) := by decide +kernel
theorem d_Text_worth_211 : decode prog_11_method_5_code 211 = .ok (.ineg, 1) := by decide +kernel
theorem d_Text_worth_212 : decode prog_11_method_5_code 212 = .ok (.aload_n 0, 1) := by decide +kernel
theorem d_Text_worth_213 : decode prog_11_method_5_code 213 = .ok (.getfield 15, 3) := by decide +kernel
theorem d_Text_worth_216 : decode prog_11_method_5_code 216 = .ok (.iload_n 2, 1) := by decide +kernel
theorem d_Text_worth_217 : decode prog_11_method_5_code 217 = .ok (.iconst 1, 1) := by decide +kernel
theorem d_Text_worth_218 : decode prog_11_method_5_code 218 = .ok (.isub, 1) := by decide +kernel
theorem d_Text_worth_219 : decode prog_11_method_5_code 219 = .ok (.iaload, 1) := by decide +kernel
theorem d_Text_worth_220 : decode prog_11_method_5_code 220 = .ok (.aload_n 0, 1) := by decide +kernel
theorem d_Text_worth_221 : decode prog_11_method_5_code 221 = .ok (.getfield 15, 3) := by decide +kernel
theorem d_Text_worth_224 : decode prog_11_method_5_code 224 = .ok (.iload_n 2, 1) := by decide +kernel
theorem d_Text_worth_225 : decode prog_11_method_5_code 225 = .ok (.iaload, 1) := by decide +kernel
theorem d_Text_worth_226 : decode prog_11_method_5_code 226 = .ok (.invokestatic 34, 3) := by decide +kernel
theorem d_Text_worth_229 : decode prog_11_method_5_code 229 = .ok (.iastore, 1) := by decide +kernel
theorem d_Text_worth_230 : decode prog_11_method_5_code 230 = .ok (.iinc 4 (1), 3) := by decide +kernel
theorem d_Text_worth_233 : decode prog_11_method_5_code 233 = .ok (.goto (-226), 3) := by decide +kernel
theorem d_Text_worth_236 : decode prog_11_method_5_code 236 = .ok (.iconst 0, 1) := by decide +kernel
theorem d_Text_worth_237 : decode prog_11_method_5_code 237 = .ok (.ireturn, 1) := by decide +kernel
set_option maxHeartbeats 4000000 in
set_option maxRecDepth 100000 in
theorem zf_Text_worth_J190 {G : zz_G} {l : Launch} {Z : zz_Z} {q : Int32 × zz_S} {s : zz_S} (C : zz_Cx G l "OneBlanket$Text" "worth" prog_11_method_5_code 7 (some .int) 3 (some (.int q.1), zsh, q.2) Z) (K7 : Nat → Nat → Int32 → Int32 → Int32 → zz_S → Option (Int32 × zz_S)) (hK7 : ∀ (v0 : Nat) (v1 : Nat) (v2 : Int32) (v3 : Int32) (v4 : Int32) (s : zz_S) (hv0 : v0 ∈ zS2) (hv1 : v1 ∈ zS3), K7 v0 v1 v2 v3 v4 s = some q → Z 7 [some (.ref v0), some (.ref v1), some (.int v2), some (.int v3), some (.int v4), none, none] [] zsh s) (v0 : Nat) (v1 : Nat) (v2 : Int32) (v3 : Int32) (v4 : Int32) (t0 : Nat) (t1 : Int32) (t2 : Int32) (hv0 : v0 ∈ zS2) (hv1 : v1 ∈ zS3) (ht0 : t0 ∈ zS5) (h : f_Text_worth_J190 K7 v0 v1 v2 v3 v4 t0 t1 t2 s = some q) : Z 190 [some (.ref v0), some (.ref v1), some (.int v2), some (.int v3), some (.int v4), none, none] [.int t2, .int t1, .ref t0] zsh s := by
  unfold f_Text_worth_J190 at h
  obtain ⟨hi12, h⟩ := zz_ckE h
  refine zz_iast (pc := 190) C rfl (zS5_sh ht0) hi12 d_Text_worth_190 ?_
  refine zz_goto (tgt := 230) (pc := 191) C (by decide) d_Text_worth_191 ?_
  refine zz_iinc (lo' := [some (.ref v0), some (.ref v1), some (.int v2), some (.int v3), some (.int (v4 + (1 : Int32))), none, none]) (pc := 230) C rfl (zz_inc zki_1) rfl rfl d_Text_worth_230 ?_
  refine zz_goto (tgt := 7) (pc := 233) C (by decide) d_Text_worth_233 ?_
  exact hK7 v0 v1 v2 v3 (v4 + (1 : Int32)) (zz_w s t0 (t1.toNatClampNeg) t2) hv0 hv1 h
set_option maxHeartbeats 4000000 in
set_option maxRecDepth 100000 in
theorem zf_Text_worth_J142 {G : zz_G} {l : Launch} {Z : zz_Z} {q : Int32 × zz_S} {s : zz_S} (C : zz_Cx G l "OneBlanket$Text" "worth" prog_11_method_5_code 7 (some .int) 3 (some (.int q.1), zsh, q.2) Z) (K7 : Nat → Nat → Int32 → Int32 → Int32 → zz_S → Option (Int32 × zz_S)) (hK7 : ∀ (v0 : Nat) (v1 : Nat) (v2 : Int32) (v3 : Int32) (v4 : Int32) (s : zz_S) (hv0 : v0 ∈ zS2) (hv1 : v1 ∈ zS3), K7 v0 v1 v2 v3 v4 s = some q → Z 7 [some (.ref v0), some (.ref v1), some (.int v2), some (.int v3), some (.int v4), none, none] [] zsh s) (v0 : Nat) (v1 : Nat) (v2 : Int32) (v3 : Int32) (v4 : Int32) (v5 : Int32) (hv0 : v0 ∈ zS2) (hv1 : v1 ∈ zS3) (h : f_Text_worth_J142 K7 v0 v1 v2 v3 v4 v5 s = some q) : Z 142 [some (.ref v0), some (.ref v1), some (.int v2), some (.int v3), some (.int v4), some (.int v5), none] [] zsh s := by
  unfold f_Text_worth_J142 at h
  refine zz_iconst (pc := 142) C zki_0 d_Text_worth_142 ?_
  refine zz_iload_n (i := 2) (pc := 143) C rfl rfl d_Text_worth_143 ?_
  refine zz_iconst (pc := 144) C zki_1 d_Text_worth_144 ?_
  refine zz_isub (pc := 145) C d_Text_worth_145 ?_
  refine zz_mmax (st := []) (pc := 146) C zl_9_28 (by omega) (Nat.le_of_ble_eq_true rfl) d_Text_worth_146 rfl ?_
  refine zz_istore (i := 6) (lo' := [some (.ref v0), some (.ref v1), some (.int v2), some (.int v3), some (.int v4), some (.int v5), some (.int (zz_max (0 : Int32) (v2 - (1 : Int32))))]) (pc := 149) C (Nat.le_of_ble_eq_true rfl) rfl rfl d_Text_worth_149 ?_
  refine zz_aload_n (i := 0) (pc := 151) C rfl rfl d_Text_worth_151 ?_
  refine zz_getR (pc := 152) C zl_9_15 (zS2_sh hv0) rfl d_Text_worth_152 ?_
  refine zz_iload (i := 6) (pc := 155) C rfl d_Text_worth_155 ?_
  refine zz_iload (i := 5) (pc := 157) C rfl d_Text_worth_157 ?_
  refine zz_bipush (pc := 159) C zkb_m126 d_Text_worth_159 ?_
  refine zz_icmp_ne (tgt := 175) (pc := 161) C (by decide) d_Text_worth_161 (fun hc9 => ?_) (fun hc9 => ?_)
  · rw [if_neg hc9] at h
    refine zz_aload_n (i := 0) (pc := 175) C rfl rfl d_Text_worth_175 ?_
    refine zz_getR (pc := 176) C zl_9_15 (zS2_sh hv0) rfl d_Text_worth_176 ?_
    refine zz_iload (i := 6) (pc := 179) C rfl d_Text_worth_179 ?_
    obtain ⟨hi10, h⟩ := zz_ckE h
    refine zz_iald (pc := 181) C rfl (zS5_sh (zder_S2_2 hv0)) hi10 d_Text_worth_181 ?_
    refine zz_if_ne (tgt := 189) (pc := 182) C (by decide) d_Text_worth_182 (fun hc11 => ?_) (fun hc11 => ?_)
    · rw [if_neg hc11] at h
      refine zz_iconst (pc := 189) C zki_0 d_Text_worth_189 ?_
      refine zz_fg C [true, true, true, true, true, false, false] rfl rfl ?_
      exact zf_Text_worth_J190 C K7 hK7 v0 v1 v2 v3 v4 (v0 + 2) (zz_max (0 : Int32) (v2 - (1 : Int32))) (0 : Int32) hv0 hv1 (zder_S2_2 hv0) h
    · rw [if_pos hc11] at h
      refine zz_iconst (pc := 185) C zki_1 d_Text_worth_185 ?_
      refine zz_goto (tgt := 190) (pc := 186) C (by decide) d_Text_worth_186 ?_
      refine zz_fg C [true, true, true, true, true, false, false] rfl rfl ?_
      exact zf_Text_worth_J190 C K7 hK7 v0 v1 v2 v3 v4 (v0 + 2) (zz_max (0 : Int32) (v2 - (1 : Int32))) (1 : Int32) hv0 hv1 (zder_S2_2 hv0) h
  · rw [if_pos hc9] at h
    refine zz_aload_n (i := 0) (pc := 164) C rfl rfl d_Text_worth_164 ?_
    refine zz_getR (pc := 165) C zl_9_15 (zS2_sh hv0) rfl d_Text_worth_165 ?_
    refine zz_iload (i := 6) (pc := 168) C rfl d_Text_worth_168 ?_
    obtain ⟨hi13, h⟩ := zz_ckE h
    refine zz_iald (pc := 170) C rfl (zS5_sh (zder_S2_2 hv0)) hi13 d_Text_worth_170 ?_
    refine zz_ineg (pc := 171) C d_Text_worth_171 ?_
    refine zz_goto (tgt := 190) (pc := 172) C (by decide) d_Text_worth_172 ?_
    refine zz_fg C [true, true, true, true, true, false, false] rfl rfl ?_
    exact zf_Text_worth_J190 C K7 hK7 v0 v1 v2 v3 v4 (v0 + 2) (zz_max (0 : Int32) (v2 - (1 : Int32))) (-(s.1 (v0 + 2) ((zz_max (0 : Int32) (v2 - (1 : Int32))).toNatClampNeg))) hv0 hv1 (zder_S2_2 hv0) h
set_option maxHeartbeats 4000000 in
set_option maxRecDepth 100000 in
theorem zf_Text_worth_J91 {G : zz_G} {l : Launch} {Z : zz_Z} {q : Int32 × zz_S} {s : zz_S} (C : zz_Cx G l "OneBlanket$Text" "worth" prog_11_method_5_code 7 (some .int) 3 (some (.int q.1), zsh, q.2) Z) (K7 : Nat → Nat → Int32 → Int32 → Int32 → zz_S → Option (Int32 × zz_S)) (hK7 : ∀ (v0 : Nat) (v1 : Nat) (v2 : Int32) (v3 : Int32) (v4 : Int32) (s : zz_S) (hv0 : v0 ∈ zS2) (hv1 : v1 ∈ zS3), K7 v0 v1 v2 v3 v4 s = some q → Z 7 [some (.ref v0), some (.ref v1), some (.int v2), some (.int v3), some (.int v4), none, none] [] zsh s) (v0 : Nat) (v1 : Nat) (v2 : Int32) (v4 : Int32) (t0 : Int32) (hv0 : v0 ∈ zS2) (hv1 : v1 ∈ zS3) (h : f_Text_worth_J91 K7 v0 v1 v2 v4 t0 s = some q) : Z 91 [some (.ref v0), some (.ref v1), some (.int v2), none, some (.int v4), none, none] [.int t0] zsh s := by
  unfold f_Text_worth_J91 at h
  refine zz_istore_n (i := 3) (lo' := [some (.ref v0), some (.ref v1), some (.int v2), some (.int t0), some (.int v4), none, none]) (pc := 91) C rfl (Nat.le_of_ble_eq_true rfl) rfl rfl d_Text_worth_91 ?_
  refine zz_goto (tgt := 230) (pc := 92) C (by decide) d_Text_worth_92 ?_
  refine zz_iinc (lo' := [some (.ref v0), some (.ref v1), some (.int v2), some (.int t0), some (.int (v4 + (1 : Int32))), none, none]) (pc := 230) C rfl (zz_inc zki_1) rfl rfl d_Text_worth_230 ?_
  refine zz_goto (tgt := 7) (pc := 233) C (by decide) d_Text_worth_233 ?_
  exact hK7 v0 v1 v2 t0 (v4 + (1 : Int32)) s hv0 hv1 h
set_option maxHeartbeats 4000000 in
set_option maxRecDepth 100000 in
theorem zf_Text_worth_L7 {G : zz_G} {l : Launch} {Z : zz_Z} {q : Int32 × zz_S} (C : zz_Cx G l "OneBlanket$Text" "worth" prog_11_method_5_code 7 (some .int) 3 (some (.int q.1), zsh, q.2) Z) : ∀ (n : Nat) (v0 : Nat) (v1 : Nat) (v2 : Int32) (v3 : Int32) (v4 : Int32) (s : zz_S) (hv0 : v0 ∈ zS2) (hv1 : v1 ∈ zS3), f_Text_worth_L7 n v0 v1 v2 v3 v4 s = some q → Z 7 [some (.ref v0), some (.ref v1), some (.int v2), some (.int v3), some (.int v4), none, none] [] zsh s := by
  intro n
  induction n with
  | zero => intro v0 v1 v2 v3 v4 s hv0 hv1 h; rw [f_Text_worth_L7] at h; cases h
  | succ n ih =>
  intro v0 v1 v2 v3 v4 s hv0 hv1 h
  rw [f_Text_worth_L7] at h
  refine zz_iload (i := 4) (pc := 7) C rfl d_Text_worth_7 ?_
  refine zz_aload_n (i := 0) (pc := 9) C rfl rfl d_Text_worth_9 ?_
  refine zz_getI (pc := 10) C zl_9_18 (zS2_sh hv0) rfl d_Text_worth_10 ?_
  refine zz_icmp_ge (tgt := 236) (pc := 13) C (by decide) d_Text_worth_13 (fun hc1 => ?_) (fun hc1 => ?_)
  · rw [if_pos hc1] at h
    refine zz_iconst (pc := 236) C zki_0 d_Text_worth_236 ?_
    replace h := Option.some.inj h
    subst h
    exact zz_ret (pc := 237) C (v := some (.int (0 : Int32))) d_Text_worth_237 (Or.inl ⟨_, _, rfl, rfl, rfl, rfl⟩) rfl
  · rw [if_neg hc1] at h
    refine zz_aload_n (i := 0) (pc := 16) C rfl rfl d_Text_worth_16 ?_
    refine zz_getR (pc := 17) C zl_9_11 (zS2_sh hv0) rfl d_Text_worth_17 ?_
    refine zz_iload (i := 4) (pc := 20) C rfl d_Text_worth_20 ?_
    obtain ⟨hi2, h⟩ := zz_ckE h
    refine zz_iald (pc := 22) C rfl (zS4_sh (zder_S2_1 hv0)) hi2 d_Text_worth_22 ?_
    refine zz_istore (i := 5) (lo' := [some (.ref v0), some (.ref v1), some (.int v2), some (.int v3), some (.int v4), some (.int (s.1 (v0 + 1) (v4.toNatClampNeg))), none]) (pc := 23) C (Nat.le_of_ble_eq_true rfl) rfl rfl d_Text_worth_23 ?_
    refine zz_iload (i := 4) (pc := 25) C rfl d_Text_worth_25 ?_
    refine zz_iload_n (i := 3) (pc := 27) C rfl rfl d_Text_worth_27 ?_
    refine zz_icmp_ge (tgt := 34) (pc := 28) C (by decide) d_Text_worth_28 (fun hc3 => ?_) (fun hc3 => ?_)
    · rw [if_pos hc3] at h
      refine zz_iload (i := 5) (pc := 34) C rfl d_Text_worth_34 ?_
      refine zz_sipush (pc := 36) C zks_20000 d_Text_worth_36 ?_
      refine zz_icmp_lt (tgt := 62) (pc := 39) C (by decide) d_Text_worth_39 (fun hc4 => ?_) (fun hc4 => ?_)
      · rw [if_pos hc4] at h
        refine zz_iload (i := 5) (pc := 62) C rfl d_Text_worth_62 ?_
        refine zz_sipush (pc := 64) C zks_10000 d_Text_worth_64 ?_
        refine zz_icmp_lt (tgt := 95) (pc := 67) C (by decide) d_Text_worth_67 (fun hc5 => ?_) (fun hc5 => ?_)
        · rw [if_pos hc5] at h
          refine zz_iload (i := 5) (pc := 95) C rfl d_Text_worth_95 ?_
          refine zz_if_lt (tgt := 114) (pc := 97) C (by decide) d_Text_worth_97 (fun hc6 => ?_) (fun hc6 => ?_)
          · rw [if_pos hc6] at h
            refine zz_iload (i := 5) (pc := 114) C rfl d_Text_worth_114 ?_
            refine zz_bipush (pc := 116) C zkb_m59 d_Text_worth_116 ?_
            refine zz_icmp_ne (tgt := 128) (pc := 118) C (by decide) d_Text_worth_118 (fun hc7 => ?_) (fun hc7 => ?_)
            · rw [if_neg hc7] at h
              refine zz_iload (i := 5) (pc := 128) C rfl d_Text_worth_128 ?_
              refine zz_bipush (pc := 130) C zkb_m126 d_Text_worth_130 ?_
              refine zz_icmp_eq (tgt := 142) (pc := 132) C (by decide) d_Text_worth_132 (fun hc8 => ?_) (fun hc8 => ?_)
              · rw [if_pos hc8] at h
                exact zf_Text_worth_J142 C (f_Text_worth_L7 n) ih v0 v1 v2 v3 v4 (s.1 (v0 + 1) (v4.toNatClampNeg)) hv0 hv1 h
              · rw [if_neg hc8] at h
                refine zz_iload (i := 5) (pc := 135) C rfl d_Text_worth_135 ?_
                refine zz_bipush (pc := 137) C zkb_m33 d_Text_worth_137 ?_
                refine zz_icmp_ne (tgt := 194) (pc := 139) C (by decide) d_Text_worth_139 (fun hc14 => ?_) (fun hc14 => ?_)
                · rw [if_neg hc14] at h
                  refine zz_iconst (pc := 194) C zki_1 d_Text_worth_194 ?_
                  refine zz_iload_n (i := 2) (pc := 195) C rfl rfl d_Text_worth_195 ?_
                  refine zz_iconst (pc := 196) C zki_1 d_Text_worth_196 ?_
                  refine zz_isub (pc := 197) C d_Text_worth_197 ?_
                  refine zz_mmax (st := []) (pc := 198) C zl_9_28 (by omega) (Nat.le_of_ble_eq_true rfl) d_Text_worth_198 rfl ?_
                  refine zz_istore_n (i := 2) (lo' := [some (.ref v0), some (.ref v1), some (.int (zz_max (1 : Int32) (v2 - (1 : Int32)))), some (.int v3), some (.int v4), some (.int (s.1 (v0 + 1) (v4.toNatClampNeg))), none]) (pc := 201) C rfl (Nat.le_of_ble_eq_true rfl) rfl rfl d_Text_worth_201 ?_
                  refine zz_aload_n (i := 0) (pc := 202) C rfl rfl d_Text_worth_202 ?_
                  refine zz_getR (pc := 203) C zl_9_15 (zS2_sh hv0) rfl d_Text_worth_203 ?_
                  refine zz_iload_n (i := 2) (pc := 206) C rfl rfl d_Text_worth_206 ?_
                  refine zz_iconst (pc := 207) C zki_1 d_Text_worth_207 ?_
                  refine zz_isub (pc := 208) C d_Text_worth_208 ?_
                  refine zz_iload (i := 5) (pc := 209) C rfl d_Text_worth_209 ?_
                  refine zz_ineg (pc := 211) C d_Text_worth_211 ?_
                  refine zz_aload_n (i := 0) (pc := 212) C rfl rfl d_Text_worth_212 ?_
                  refine zz_getR (pc := 213) C zl_9_15 (zS2_sh hv0) rfl d_Text_worth_213 ?_
                  refine zz_iload_n (i := 2) (pc := 216) C rfl rfl d_Text_worth_216 ?_
                  refine zz_iconst (pc := 217) C zki_1 d_Text_worth_217 ?_
                  refine zz_isub (pc := 218) C d_Text_worth_218 ?_
                  obtain ⟨hi15, h⟩ := zz_ckE h
                  refine zz_iald (pc := 219) C rfl (zS5_sh (zder_S2_2 hv0)) hi15 d_Text_worth_219 ?_
                  refine zz_aload_n (i := 0) (pc := 220) C rfl rfl d_Text_worth_220 ?_
                  refine zz_getR (pc := 221) C zl_9_15 (zS2_sh hv0) rfl d_Text_worth_221 ?_
                  refine zz_iload_n (i := 2) (pc := 224) C rfl rfl d_Text_worth_224 ?_
                  obtain ⟨hi16, h⟩ := zz_ckE h
                  refine zz_iald (pc := 225) C rfl (zS5_sh (zder_S2_2 hv0)) hi16 d_Text_worth_225 ?_
                  obtain ⟨q17, hq17, h⟩ := zz_bdE h
                  refine zz_cSi (as := [.int (-(s.1 (v0 + 1) (v4.toNatClampNeg))), .int (s.1 (v0 + 2) (((zz_max (1 : Int32) (v2 - (1 : Int32))) - (1 : Int32)).toNatClampNeg)), .int (s.1 (v0 + 2) ((zz_max (1 : Int32) (v2 - (1 : Int32))).toNatClampNeg))]) (st := [.int ((zz_max (1 : Int32) (v2 - (1 : Int32))) - (1 : Int32)), .ref (v0 + 2)]) (pc := 226) C (zm_Text_worthOfTwo hq17) zcs_Text_worthOfTwo zl_9_34 (by omega) (Nat.le_of_ble_eq_true rfl) d_Text_worth_226 rfl rfl ?_
                  refine zz_iast (pc := 229) C rfl (zS5_sh (zder_S2_2 hv0)) hi15 d_Text_worth_229 ?_
                  refine zz_iinc (lo' := [some (.ref v0), some (.ref v1), some (.int (zz_max (1 : Int32) (v2 - (1 : Int32)))), some (.int v3), some (.int (v4 + (1 : Int32))), some (.int (s.1 (v0 + 1) (v4.toNatClampNeg))), none]) (pc := 230) C rfl (zz_inc zki_1) rfl rfl d_Text_worth_230 ?_
                  refine zz_goto (tgt := 7) (pc := 233) C (by decide) d_Text_worth_233 ?_
                  refine zz_fg C [true, true, true, true, true, false, false] rfl rfl ?_
                  exact ih v0 v1 (zz_max (1 : Int32) (v2 - (1 : Int32))) v3 (v4 + (1 : Int32)) (zz_w s (v0 + 2) (((zz_max (1 : Int32) (v2 - (1 : Int32))) - (1 : Int32)).toNatClampNeg) q17) hv0 hv1 h
                · rw [if_pos hc14] at h
                  exact zf_Text_worth_J142 C (f_Text_worth_L7 n) ih v0 v1 v2 v3 v4 (s.1 (v0 + 1) (v4.toNatClampNeg)) hv0 hv1 h
            · rw [if_pos hc7] at h
              refine zz_aload_n (i := 0) (pc := 121) C rfl rfl d_Text_worth_121 ?_
              refine zz_getR (pc := 122) C zl_9_15 (zS2_sh hv0) rfl d_Text_worth_122 ?_
              refine zz_iconst (pc := 125) C zki_0 d_Text_worth_125 ?_
              refine zz_iald (pc := 126) C zkx_0 (zS5_sh (zder_S2_2 hv0)) (by decide) d_Text_worth_126 ?_
              replace h := Option.some.inj h
              subst h
              exact zz_ret (pc := 127) C (v := some (.int (s.1 (v0 + 2) 0))) d_Text_worth_127 (Or.inl ⟨_, _, rfl, rfl, rfl, rfl⟩) rfl
          · rw [if_neg hc6] at h
            refine zz_aload_n (i := 0) (pc := 100) C rfl rfl d_Text_worth_100 ?_
            refine zz_getR (pc := 101) C zl_9_15 (zS2_sh hv0) rfl d_Text_worth_101 ?_
            refine zz_iload_n (i := 2) (pc := 104) C rfl rfl d_Text_worth_104 ?_
            refine zz_iload (i := 5) (pc := 105) C rfl d_Text_worth_105 ?_
            obtain ⟨hi18, h⟩ := zz_ckE h
            refine zz_iast (pc := 107) C rfl (zS5_sh (zder_S2_2 hv0)) hi18 d_Text_worth_107 ?_
            refine zz_iinc (lo' := [some (.ref v0), some (.ref v1), some (.int (v2 + (1 : Int32))), some (.int v3), some (.int v4), some (.int (s.1 (v0 + 1) (v4.toNatClampNeg))), none]) (pc := 108) C rfl (zz_inc zki_1) rfl rfl d_Text_worth_108 ?_
            refine zz_goto (tgt := 230) (pc := 111) C (by decide) d_Text_worth_111 ?_
            refine zz_iinc (lo' := [some (.ref v0), some (.ref v1), some (.int (v2 + (1 : Int32))), some (.int v3), some (.int (v4 + (1 : Int32))), some (.int (s.1 (v0 + 1) (v4.toNatClampNeg))), none]) (pc := 230) C rfl (zz_inc zki_1) rfl rfl d_Text_worth_230 ?_
            refine zz_goto (tgt := 7) (pc := 233) C (by decide) d_Text_worth_233 ?_
            refine zz_fg C [true, true, true, true, true, false, false] rfl rfl ?_
            exact ih v0 v1 (v2 + (1 : Int32)) v3 (v4 + (1 : Int32)) (zz_w s (v0 + 2) (v2.toNatClampNeg) (s.1 (v0 + 1) (v4.toNatClampNeg))) hv0 hv1 h
        · rw [if_neg hc5] at h
          refine zz_iconst (pc := 70) C zki_0 d_Text_worth_70 ?_
          refine zz_istore_n (i := 2) (lo' := [some (.ref v0), some (.ref v1), some (.int (0 : Int32)), some (.int v3), some (.int v4), some (.int (s.1 (v0 + 1) (v4.toNatClampNeg))), none]) (pc := 71) C rfl (Nat.le_of_ble_eq_true rfl) rfl rfl d_Text_worth_71 ?_
          refine zz_aload_n (i := 0) (pc := 72) C rfl rfl d_Text_worth_72 ?_
          refine zz_getR (pc := 73) C zl_9_15 (zS2_sh hv0) rfl d_Text_worth_73 ?_
          refine zz_iconst (pc := 76) C zki_0 d_Text_worth_76 ?_
          refine zz_iald (pc := 77) C zkx_0 (zS5_sh (zder_S2_2 hv0)) (by decide) d_Text_worth_77 ?_
          refine zz_if_ne (tgt := 90) (pc := 78) C (by decide) d_Text_worth_78 (fun hc19 => ?_) (fun hc19 => ?_)
          · rw [if_neg hc19] at h
            refine zz_iconst (pc := 90) C zki_0 d_Text_worth_90 ?_
            refine zz_fg C [true, true, true, false, true, false, false] rfl rfl ?_
            exact zf_Text_worth_J91 C (f_Text_worth_L7 n) ih v0 v1 (0 : Int32) v4 (0 : Int32) hv0 hv1 h
          · rw [if_pos hc19] at h
            refine zz_iload (i := 5) (pc := 81) C rfl d_Text_worth_81 ?_
            refine zz_sipush (pc := 83) C zks_10000 d_Text_worth_83 ?_
            refine zz_isub (pc := 86) C d_Text_worth_86 ?_
            refine zz_goto (tgt := 91) (pc := 87) C (by decide) d_Text_worth_87 ?_
            refine zz_fg C [true, true, true, false, true, false, false] rfl rfl ?_
            exact zf_Text_worth_J91 C (f_Text_worth_L7 n) ih v0 v1 (0 : Int32) v4 ((s.1 (v0 + 1) (v4.toNatClampNeg)) - (10000 : Int32)) hv0 hv1 h
      · rw [if_neg hc4] at h
        refine zz_aload_n (i := 0) (pc := 42) C rfl rfl d_Text_worth_42 ?_
        refine zz_getR (pc := 43) C zl_9_15 (zS2_sh hv0) rfl d_Text_worth_43 ?_
        refine zz_iload_n (i := 2) (pc := 46) C rfl rfl d_Text_worth_46 ?_
        refine zz_aload_n (i := 1) (pc := 47) C rfl rfl d_Text_worth_47 ?_
        refine zz_iload (i := 5) (pc := 48) C rfl d_Text_worth_48 ?_
        refine zz_sipush (pc := 50) C zks_20000 d_Text_worth_50 ?_
        refine zz_isub (pc := 53) C d_Text_worth_53 ?_
        obtain ⟨hi20, h⟩ := zz_ckE h
        refine zz_iald (pc := 54) C rfl (zS3_sh hv1) hi20 d_Text_worth_54 ?_
        obtain ⟨hi21, h⟩ := zz_ckE h
        refine zz_iast (pc := 55) C rfl (zS5_sh (zder_S2_2 hv0)) hi21 d_Text_worth_55 ?_
        refine zz_iinc (lo' := [some (.ref v0), some (.ref v1), some (.int (v2 + (1 : Int32))), some (.int v3), some (.int v4), some (.int (s.1 (v0 + 1) (v4.toNatClampNeg))), none]) (pc := 56) C rfl (zz_inc zki_1) rfl rfl d_Text_worth_56 ?_
        refine zz_goto (tgt := 230) (pc := 59) C (by decide) d_Text_worth_59 ?_
        refine zz_iinc (lo' := [some (.ref v0), some (.ref v1), some (.int (v2 + (1 : Int32))), some (.int v3), some (.int (v4 + (1 : Int32))), some (.int (s.1 (v0 + 1) (v4.toNatClampNeg))), none]) (pc := 230) C rfl (zz_inc zki_1) rfl rfl d_Text_worth_230 ?_
        refine zz_goto (tgt := 7) (pc := 233) C (by decide) d_Text_worth_233 ?_
        refine zz_fg C [true, true, true, true, true, false, false] rfl rfl ?_
        exact ih v0 v1 (v2 + (1 : Int32)) v3 (v4 + (1 : Int32)) (zz_w s (v0 + 2) (v2.toNatClampNeg) (s.1 v1 (((s.1 (v0 + 1) (v4.toNatClampNeg)) - (20000 : Int32)).toNatClampNeg))) hv0 hv1 h
    · rw [if_neg hc3] at h
      refine zz_goto (tgt := 230) (pc := 31) C (by decide) d_Text_worth_31 ?_
      refine zz_iinc (lo' := [some (.ref v0), some (.ref v1), some (.int v2), some (.int v3), some (.int (v4 + (1 : Int32))), some (.int (s.1 (v0 + 1) (v4.toNatClampNeg))), none]) (pc := 230) C rfl (zz_inc zki_1) rfl rfl d_Text_worth_230 ?_
      refine zz_goto (tgt := 7) (pc := 233) C (by decide) d_Text_worth_233 ?_
      refine zz_fg C [true, true, true, true, true, false, false] rfl rfl ?_
      exact ih v0 v1 v2 v3 (v4 + (1 : Int32)) s hv0 hv1 h
set_option maxHeartbeats 4000000 in
set_option maxRecDepth 100000 in
theorem zf_Text_worth {G : zz_G} {l : Launch} {Z : zz_Z} {q : Int32 × zz_S} {s : zz_S} (C : zz_Cx G l "OneBlanket$Text" "worth" prog_11_method_5_code 7 (some .int) 3 (some (.int q.1), zsh, q.2) Z) (a0 : Nat) (a1 : Nat) (ha0 : a0 ∈ zS2) (ha1 : a1 ∈ zS3) (h : f_Text_worth a0 a1 s = some q) : Z 0 [some (.ref a0), some (.ref a1), none, none, none, none, none] [] zsh s := by
  unfold f_Text_worth at h
  refine zz_iconst (pc := 0) C zki_0 d_Text_worth_0 ?_
  refine zz_istore_n (i := 2) (lo' := [some (.ref a0), some (.ref a1), some (.int (0 : Int32)), none, none, none, none]) (pc := 1) C rfl (Nat.le_of_ble_eq_true rfl) rfl rfl d_Text_worth_1 ?_
  refine zz_iconst (pc := 2) C zki_0 d_Text_worth_2 ?_
  refine zz_istore_n (i := 3) (lo' := [some (.ref a0), some (.ref a1), some (.int (0 : Int32)), some (.int (0 : Int32)), none, none, none]) (pc := 3) C rfl (Nat.le_of_ble_eq_true rfl) rfl rfl d_Text_worth_3 ?_
  refine zz_iconst (pc := 4) C zki_0 d_Text_worth_4 ?_
  refine zz_istore (i := 4) (lo' := [some (.ref a0), some (.ref a1), some (.int (0 : Int32)), some (.int (0 : Int32)), some (.int (0 : Int32)), none, none]) (pc := 5) C (Nat.le_of_ble_eq_true rfl) rfl rfl d_Text_worth_5 ?_
  exact zf_Text_worth_L7 C zF a0 a1 (0 : Int32) (0 : Int32) (0 : Int32) s ha0 ha1 h
theorem zm_Text_worth {G : zz_G} {l : Launch} {s : zz_S} {q : Int32 × zz_S} {a0 : Nat} {a1 : Nat} (ha0 : a0 ∈ zS2) (ha1 : a1 ∈ zS3) (h : f_Text_worth a0 a1 s = some q) : zz_M G l 3 y_Text_worth prog_11_method_5_code 7 (some .int) [.ref a0, .ref a1] zsh s (some (.int q.1), zsh, q.2) :=
  zz_M.intro (by decide) (Nat.le_of_ble_eq_true rfl) (Nat.le_refl _) (Nat.le_refl _) (fun Z C => zf_Text_worth C a0 a1 ha0 ha1 h)
theorem d_Night_pullOf_0 : decode prog_6_method_10_code 0 = .ok (.aload_n 0, 1) := by decide +kernel
theorem d_Night_pullOf_1 : decode prog_6_method_10_code 1 = .ok (.getfield 62, 3) := by decide +kernel
theorem d_Night_pullOf_4 : decode prog_6_method_10_code 4 = .ok (.iload_n 1, 1) := by decide +kernel
theorem d_Night_pullOf_5 : decode prog_6_method_10_code 5 = .ok (.iload_n 2, 1) := by decide +kernel
theorem d_Night_pullOf_6 : decode prog_6_method_10_code 6 = .ok (.invokevirtual 190, 3) := by decide +kernel
theorem d_Night_pullOf_9 : decode prog_6_method_10_code 9 = .ok (.istore 5, 2) := by decide +kernel
theorem d_Night_pullOf_11 : decode prog_6_method_10_code 11 = .ok (.iload 5, 2) := by decide +kernel
theorem d_Night_pullOf_13 : decode prog_6_method_10_code 13 = .ok (.ifCond .ne (5), 3) := by decide +kernel
theorem d_Night_pullOf_16 : decode prog_6_method_10_code 16 = .ok (.iconst 0, 1) := by decide +kernel
theorem d_Night_pullOf_17 : decode prog_6_method_10_code 17 = .ok (.ireturn, 1) := by decide +kernel
theorem d_Night_pullOf_18 : decode prog_6_method_10_code 18 = .ok (.iload_n 3, 1) := by decide +kernel
theorem d_Night_pullOf_19 : decode prog_6_method_10_code 19 = .ok (.invokestatic 193, 3) := by decide +kernel
theorem d_Night_pullOf_22 : decode prog_6_method_10_code 22 = .ok (.istore 6, 2) := by decide +kernel
theorem d_Night_pullOf_24 : decode prog_6_method_10_code 24 = .ok (.aload_n 0, 1) := by decide +kernel
theorem d_Night_pullOf_25 : decode prog_6_method_10_code 25 = .ok (.getfield 22, 3) := by decide +kernel
theorem d_Night_pullOf_28 : decode prog_6_method_10_code 28 = .ok (.iload_n 1, 1) := by decide +kernel
theorem d_Night_pullOf_29 : decode prog_6_method_10_code 29 = .ok (.iaload, 1) := by decide +kernel
theorem d_Night_pullOf_30 : decode prog_6_method_10_code 30 = .ok (.iload_n 3, 1) := by decide +kernel
theorem d_Night_pullOf_31 : decode prog_6_method_10_code 31 = .ok (.imul, 1) := by decide +kernel
theorem d_Night_pullOf_32 : decode prog_6_method_10_code 32 = .ok (.ifCond .ge (7), 3) := by decide +kernel
theorem d_Night_pullOf_35 : decode prog_6_method_10_code 35 = .ok (.iconst 1, 1) := by decide +kernel
theorem d_Night_pullOf_36 : decode prog_6_method_10_code 36 = .ok (.goto (4), 3) := by decide +kernel
theorem d_Night_pullOf_39 : decode prog_6_method_10_code 39 = .ok (.iconst 0, 1) := by decide +kernel
theorem d_Night_pullOf_40 : decode prog_6_method_10_code 40 = .ok (.istore 7, 2) := by decide +kernel
theorem d_Night_pullOf_42 : decode prog_6_method_10_code 42 = .ok (.aload_n 0, 1) := by decide +kernel
theorem d_Night_pullOf_43 : decode prog_6_method_10_code 43 = .ok (.getfield 78, 3) := by decide +kernel
theorem d_Night_pullOf_46 : decode prog_6_method_10_code 46 = .ok (.ifCond .lt (11), 3) := by decide +kernel
theorem d_Night_pullOf_49 : decode prog_6_method_10_code 49 = .ok (.aload_n 0, 1) := by decide +kernel
theorem d_Night_pullOf_50 : decode prog_6_method_10_code 50 = .ok (.getfield 78, 3) := by decide +kernel
theorem d_Night_pullOf_53 : decode prog_6_method_10_code 53 = .ok (.iconst 4, 1) := by decide +kernel
theorem d_Night_pullOf_54 : decode prog_6_method_10_code 54 = .ok (.if_icmp .lt (40), 3) := by decide +kernel
theorem d_Night_pullOf_57 : decode prog_6_method_10_code 57 = .ok (.iload 7, 2) := by decide +kernel
theorem d_Night_pullOf_59 : decode prog_6_method_10_code 59 = .ok (.iconst 1, 1) := by decide +kernel
theorem d_Night_pullOf_60 : decode prog_6_method_10_code 60 = .ok (.if_icmp .ne (7), 3) := by decide +kernel
theorem d_Night_pullOf_63 : decode prog_6_method_10_code 63 = .ok (.iconst 0, 1) := by decide +kernel
theorem d_Night_pullOf_64 : decode prog_6_method_10_code 64 = .ok (.goto (29), 3) := by decide +kernel
theorem d_Night_pullOf_67 : decode prog_6_method_10_code 67 = .ok (.iconst 0, 1) := by decide +kernel
theorem d_Night_pullOf_68 : decode prog_6_method_10_code 68 = .ok (.aload_n 0, 1) := by decide +kernel
theorem d_Night_pullOf_69 : decode prog_6_method_10_code 69 = .ok (.getfield 41, 3) := by decide +kernel
theorem d_Night_pullOf_72 : decode prog_6_method_10_code 72 = .ok (.iload_n 1, 1) := by decide +kernel
theorem d_Night_pullOf_73 : decode prog_6_method_10_code 73 = .ok (.iload 6, 2) := by decide +kernel
theorem d_Night_pullOf_75 : decode prog_6_method_10_code 75 = .ok (.iload 5, 2) := by decide +kernel
theorem d_Night_pullOf_77 : decode prog_6_method_10_code 77 = .ok (.invokevirtual 196, 3) := by decide +kernel
theorem d_Night_pullOf_80 : decode prog_6_method_10_code 80 = .ok (.aload_n 0, 1) := by decide +kernel
theorem d_Night_pullOf_81 : decode prog_6_method_10_code 81 = .ok (.getfield 41, 3) := by decide +kernel
theorem d_Night_pullOf_84 : decode prog_6_method_10_code 84 = .ok (.getfield 200, 3) := by decide +kernel
theorem d_Night_pullOf_87 : decode prog_6_method_10_code 87 = .ok (.iload_n 2, 1) := by decide +kernel
theorem d_Night_pullOf_88 : decode prog_6_method_10_code 88 = .ok (.iaload, 1) := by decide +kernel
theorem d_Night_pullOf_89 : decode prog_6_method_10_code 89 = .ok (.isub, 1) := by decide +kernel
theorem d_Night_pullOf_90 : decode prog_6_method_10_code 90 = .ok (.invokestatic 203, 3) := by decide +kernel
theorem d_Night_pullOf_93 : decode prog_6_method_10_code 93 = .ok (.ireturn, 1) := by decide +kernel
theorem d_Night_pullOf_94 : decode prog_6_method_10_code 94 = .ok (.aload_n 0, 1) := by decide +kernel
theorem d_Night_pullOf_95 : decode prog_6_method_10_code 95 = .ok (.getfield 38, 3) := by decide +kernel
theorem d_Night_pullOf_98 : decode prog_6_method_10_code 98 = .ok (.iconst 0, 1) := by decide +kernel
theorem d_Night_pullOf_99 : decode prog_6_method_10_code 99 = .ok (.iload 6, 2) := by decide +kernel
theorem d_Night_pullOf_101 : decode prog_6_method_10_code 101 = .ok (.iastore, 1) := by decide +kernel
theorem d_Night_pullOf_102 : decode prog_6_method_10_code 102 = .ok (.aload_n 0, 1) := by decide +kernel
theorem d_Night_pullOf_103 : decode prog_6_method_10_code 103 = .ok (.getfield 38, 3) := by decide +kernel
theorem d_Night_pullOf_106 : decode prog_6_method_10_code 106 = .ok (.iconst 1, 1) := by decide +kernel
theorem d_Night_pullOf_107 : decode prog_6_method_10_code 107 = .ok (.iload 5, 2) := by decide +kernel
theorem d_Night_pullOf_109 : decode prog_6_method_10_code 109 = .ok (.iastore, 1) := by decide +kernel
theorem d_Night_pullOf_110 : decode prog_6_method_10_code 110 = .ok (.aload_n 0, 1) := by decide +kernel
theorem d_Night_pullOf_111 : decode prog_6_method_10_code 111 = .ok (.getfield 38, 3) := by decide +kernel
theorem d_Night_pullOf_114 : decode prog_6_method_10_code 114 = .ok (.iconst 2, 1) := by decide +kernel
theorem d_Night_pullOf_115 : decode prog_6_method_10_code 115 = .ok (.aload_n 0, 1) := by decide +kernel
theorem d_Night_pullOf_116 : decode prog_6_method_10_code 116 = .ok (.getfield 41, 3) := by decide +kernel
theorem d_Night_pullOf_119 : decode prog_6_method_10_code 119 = .ok (.getfield 206, 3) := by decide +kernel
theorem d_Night_pullOf_122 : decode prog_6_method_10_code 122 = .ok (.iload_n 2, 1) := by decide +kernel
theorem d_Night_pullOf_123 : decode prog_6_method_10_code 123 = .ok (.iaload, 1) := by decide +kernel
theorem d_Night_pullOf_124 : decode prog_6_method_10_code 124 = .ok (.iastore, 1) := by decide +kernel
theorem d_Night_pullOf_125 : decode prog_6_method_10_code 125 = .ok (.aload_n 0, 1) := by decide +kernel
theorem d_Night_pullOf_126 : decode prog_6_method_10_code 126 = .ok (.getfield 38, 3) := by decide +kernel
theorem d_Night_pullOf_129 : decode prog_6_method_10_code 129 = .ok (.iconst 3, 1) := by decide +kernel
theorem d_Night_pullOf_130 : decode prog_6_method_10_code 130 = .ok (.aload_n 0, 1) := by decide +kernel
theorem d_Night_pullOf_131 : decode prog_6_method_10_code 131 = .ok (.getfield 41, 3) := by decide +kernel
theorem d_Night_pullOf_134 : decode prog_6_method_10_code 134 = .ok (.getfield 200, 3) := by decide +kernel
theorem d_Night_pullOf_137 : decode prog_6_method_10_code 137 = .ok (.iload_n 2, 1) := by decide +kernel
theorem d_Night_pullOf_138 : decode prog_6_method_10_code 138 = .ok (.iaload, 1) := by decide +kernel
theorem d_Night_pullOf_139 : decode prog_6_method_10_code 139 = .ok (.iastore, 1) := by decide +kernel
theorem d_Night_pullOf_140 : decode prog_6_method_10_code 140 = .ok (.aload_n 0, 1) := by decide +kernel
theorem d_Night_pullOf_141 : decode prog_6_method_10_code 141 = .ok (.getfield 38, 3) := by decide +kernel
theorem d_Night_pullOf_144 : decode prog_6_method_10_code 144 = .ok (.iconst 4, 1) := by decide +kernel
theorem d_Night_pullOf_145 : decode prog_6_method_10_code 145 = .ok (.iload_n 1, 1) := by decide +kernel
theorem d_Night_pullOf_146 : decode prog_6_method_10_code 146 = .ok (.iastore, 1) := by decide +kernel
theorem d_Night_pullOf_147 : decode prog_6_method_10_code 147 = .ok (.aload_n 0, 1) := by decide +kernel
theorem d_Night_pullOf_148 : decode prog_6_method_10_code 148 = .ok (.getfield 38, 3) := by decide +kernel
theorem d_Night_pullOf_151 : decode prog_6_method_10_code 151 = .ok (.iconst 5, 1) := by decide +kernel
theorem d_Night_pullOf_152 : decode prog_6_method_10_code 152 = .ok (.iload 7, 2) := by decide +kernel
theorem d_Night_pullOf_154 : decode prog_6_method_10_code 154 = .ok (.iastore, 1) := by decide +kernel
theorem d_Night_pullOf_155 : decode prog_6_method_10_code 155 = .ok (.aload_n 0, 1) := by decide +kernel
theorem d_Night_pullOf_156 : decode prog_6_method_10_code 156 = .ok (.getfield 38, 3) := by decide +kernel
theorem d_Night_pullOf_159 : decode prog_6_method_10_code 159 = .ok (.bipush (6), 2) := by decide +kernel
theorem d_Night_pullOf_161 : decode prog_6_method_10_code 161 = .ok (.iload 4, 2) := by decide +kernel
theorem d_Night_pullOf_163 : decode prog_6_method_10_code 163 = .ok (.iastore, 1) := by decide +kernel
theorem d_Night_pullOf_164 : decode prog_6_method_10_code 164 = .ok (.aload_n 0, 1) := by decide +kernel
theorem d_Night_pullOf_165 : decode prog_6_method_10_code 165 = .ok (.getfield 38, 3) := by decide +kernel
theorem d_Night_pullOf_168 : decode prog_6_method_10_code 168 = .ok (.bipush (7), 2) := by decide +kernel
theorem d_Night_pullOf_170 : decode prog_6_method_10_code 170 = .ok (.iload 4, 2) := by decide +kernel
theorem d_Night_pullOf_172 : decode prog_6_method_10_code 172 = .ok (.bipush (60), 2) := by decide +kernel
theorem d_Night_pullOf_174 : decode prog_6_method_10_code 174 = .ok (.idiv, 1) := by decide +kernel
theorem d_Night_pullOf_175 : decode prog_6_method_10_code 175 = .ok (.iastore, 1) := by decide +kernel
theorem d_Night_pullOf_176 : decode prog_6_method_10_code 176 = .ok (.iconst 0, 1) := by decide +kernel
theorem d_Night_pullOf_177 : decode prog_6_method_10_code 177 = .ok (.iload 6, 2) := by decide +kernel
theorem d_Night_pullOf_179 : decode prog_6_method_10_code 179 = .ok (.aload_n 0, 1) := by decide +kernel
theorem d_Night_pullOf_180 : decode prog_6_method_10_code 180 = .ok (.getfield 53, 3) := by decide +kernel
theorem d_Night_pullOf_183 : decode prog_6_method_10_code 183 = .ok (.aload_n 0, 1) := by decide +kernel
theorem d_Night_pullOf_184 : decode prog_6_method_10_code 184 = .ok (.getfield 78, 3) := by decide +kernel
theorem d_Night_pullOf_187 : decode prog_6_method_10_code 187 = .ok (.aaload, 1) := by decide +kernel
theorem d_Night_pullOf_188 : decode prog_6_method_10_code 188 = .ok (.aload_n 0, 1) := by decide +kernel
theorem d_Night_pullOf_189 : decode prog_6_method_10_code 189 = .ok (.getfield 38, 3) := by decide +kernel
theorem d_Night_pullOf_192 : decode prog_6_method_10_code 192 = .ok (.invokevirtual 209, 3) := by decide +kernel
theorem d_Night_pullOf_195 : decode prog_6_method_10_code 195 = .ok (.invokestatic 116, 3) := by decide +kernel
theorem d_Night_pullOf_198 : decode prog_6_method_10_code 198 = .ok (.invokestatic 203, 3) := by decide +kernel
theorem d_Night_pullOf_201 : decode prog_6_method_10_code 201 = .ok (.ireturn, 1) := by decide +kernel
set_option maxHeartbeats 4000000 in
set_option maxRecDepth 100000 in
theorem zf_Night_pullOf_J57 {G : zz_G} {l : Launch} {Z : zz_Z} {q : Int32 × zz_S} {s : zz_S} (C : zz_Cx G l "OneBlanket$Night" "pullOf" prog_6_method_10_code 8 (some .int) 4 (some (.int q.1), zsh, q.2) Z) (v1 : Int32) (v2 : Int32) (v5 : Int32) (v6 : Int32) (v7 : Int32) (h : f_Night_pullOf_J57 v1 v2 v5 v6 v7 s = some q) : Z 57 [some (.ref 20), some (.int v1), some (.int v2), none, none, some (.int v5), some (.int v6), some (.int v7)] [] zsh s := by
  unfold f_Night_pullOf_J57 at h
  refine zz_iload (i := 7) (pc := 57) C rfl d_Night_pullOf_57 ?_
  refine zz_iconst (pc := 59) C zki_1 d_Night_pullOf_59 ?_
  refine zz_icmp_ne (tgt := 67) (pc := 60) C (by decide) d_Night_pullOf_60 (fun hc6 => ?_) (fun hc6 => ?_)
  · rw [if_neg hc6] at h
    refine zz_iconst (pc := 67) C zki_0 d_Night_pullOf_67 ?_
    refine zz_aload_n (i := 0) (pc := 68) C rfl rfl d_Night_pullOf_68 ?_
    refine zz_getR (pc := 69) C zl_4_41 zsh_20 rfl d_Night_pullOf_69 ?_
    refine zz_iload_n (i := 1) (pc := 72) C rfl rfl d_Night_pullOf_72 ?_
    refine zz_iload (i := 6) (pc := 73) C rfl d_Night_pullOf_73 ?_
    refine zz_iload (i := 5) (pc := 75) C rfl d_Night_pullOf_75 ?_
    obtain ⟨q7, hq7, h⟩ := zz_bdE h
    refine zz_cVi (as := [.int v1, .int v6, .int v5]) (st := [.int (0 : Int32)]) (pc := 77) C (zm_Bed_partOf hq7) zcv_Bed_partOf zsh_1 zl_4_196 (by omega) (Nat.le_of_ble_eq_true rfl) d_Night_pullOf_77 rfl rfl ?_
    refine zz_aload_n (i := 0) (pc := 80) C rfl rfl d_Night_pullOf_80 ?_
    refine zz_getR (pc := 81) C zl_4_41 zsh_20 rfl d_Night_pullOf_81 ?_
    refine zz_getR (pc := 84) C zl_4_200 zsh_1 rfl d_Night_pullOf_84 ?_
    refine zz_iload_n (i := 2) (pc := 87) C rfl rfl d_Night_pullOf_87 ?_
    obtain ⟨hi8, h⟩ := zz_ckE h
    refine zz_iald (pc := 88) C rfl zsh_9 hi8 d_Night_pullOf_88 ?_
    refine zz_isub (pc := 89) C d_Night_pullOf_89 ?_
    refine zz_mmax (st := []) (pc := 90) C zl_4_203 (by omega) (Nat.le_of_ble_eq_true rfl) d_Night_pullOf_90 rfl ?_
    replace h := Option.some.inj h
    subst h
    exact zz_ret (pc := 93) C (v := some (.int (zz_max (0 : Int32) (q7 - (s.1 9 (v2.toNatClampNeg)))))) d_Night_pullOf_93 (Or.inl ⟨_, _, rfl, rfl, rfl, rfl⟩) rfl
  · rw [if_pos hc6] at h
    refine zz_iconst (pc := 63) C zki_0 d_Night_pullOf_63 ?_
    refine zz_goto (tgt := 93) (pc := 64) C (by decide) d_Night_pullOf_64 ?_
    replace h := Option.some.inj h
    subst h
    exact zz_ret (pc := 93) C (v := some (.int (0 : Int32))) d_Night_pullOf_93 (Or.inl ⟨_, _, rfl, rfl, rfl, rfl⟩) rfl
set_option maxHeartbeats 4000000 in
set_option maxRecDepth 100000 in
theorem zf_Night_pullOf_J40 {G : zz_G} {l : Launch} {Z : zz_Z} {q : Int32 × zz_S} {s : zz_S} (C : zz_Cx G l "OneBlanket$Night" "pullOf" prog_6_method_10_code 8 (some .int) 4 (some (.int q.1), zsh, q.2) Z) (v1 : Int32) (v2 : Int32) (v4 : Int32) (v5 : Int32) (v6 : Int32) (t0 : Int32) (h : f_Night_pullOf_J40 v1 v2 v4 v5 v6 t0 s = some q) : Z 40 [some (.ref 20), some (.int v1), some (.int v2), none, some (.int v4), some (.int v5), some (.int v6), none] [.int t0] zsh s := by
  unfold f_Night_pullOf_J40 at h
  refine zz_istore (i := 7) (lo' := [some (.ref 20), some (.int v1), some (.int v2), none, some (.int v4), some (.int v5), some (.int v6), some (.int t0)]) (pc := 40) C (Nat.le_of_ble_eq_true rfl) rfl rfl d_Night_pullOf_40 ?_
  refine zz_aload_n (i := 0) (pc := 42) C rfl rfl d_Night_pullOf_42 ?_
  refine zz_getI (pc := 43) C zl_4_78 zsh_20 rfl d_Night_pullOf_43 ?_
  refine zz_if_lt (tgt := 57) (pc := 46) C (by decide) d_Night_pullOf_46 (fun hc5 => ?_) (fun hc5 => ?_)
  · rw [if_pos hc5] at h
    refine zz_fg C [true, true, true, false, false, true, true, true] rfl rfl ?_
    exact zf_Night_pullOf_J57 C v1 v2 v5 v6 t0 h
  · rw [if_neg hc5] at h
    refine zz_aload_n (i := 0) (pc := 49) C rfl rfl d_Night_pullOf_49 ?_
    refine zz_getI (pc := 50) C zl_4_78 zsh_20 rfl d_Night_pullOf_50 ?_
    refine zz_iconst (pc := 53) C zki_4 d_Night_pullOf_53 ?_
    refine zz_icmp_lt (tgt := 94) (pc := 54) C (by decide) d_Night_pullOf_54 (fun hc9 => ?_) (fun hc9 => ?_)
    · rw [if_pos hc9] at h
      refine zz_aload_n (i := 0) (pc := 94) C rfl rfl d_Night_pullOf_94 ?_
      refine zz_getR (pc := 95) C zl_4_38 zsh_20 rfl d_Night_pullOf_95 ?_
      refine zz_iconst (pc := 98) C zki_0 d_Night_pullOf_98 ?_
      refine zz_iload (i := 6) (pc := 99) C rfl d_Night_pullOf_99 ?_
      refine zz_iast (pc := 101) C zkx_0 zsh_31 (by decide) d_Night_pullOf_101 ?_
      refine zz_aload_n (i := 0) (pc := 102) C rfl rfl d_Night_pullOf_102 ?_
      refine zz_getR (pc := 103) C zl_4_38 zsh_20 rfl d_Night_pullOf_103 ?_
      refine zz_iconst (pc := 106) C zki_1 d_Night_pullOf_106 ?_
      refine zz_iload (i := 5) (pc := 107) C rfl d_Night_pullOf_107 ?_
      refine zz_iast (pc := 109) C zkx_1 zsh_31 (by decide) d_Night_pullOf_109 ?_
      refine zz_aload_n (i := 0) (pc := 110) C rfl rfl d_Night_pullOf_110 ?_
      refine zz_getR (pc := 111) C zl_4_38 zsh_20 rfl d_Night_pullOf_111 ?_
      refine zz_iconst (pc := 114) C zki_2 d_Night_pullOf_114 ?_
      refine zz_aload_n (i := 0) (pc := 115) C rfl rfl d_Night_pullOf_115 ?_
      refine zz_getR (pc := 116) C zl_4_41 zsh_20 rfl d_Night_pullOf_116 ?_
      refine zz_getR (pc := 119) C zl_4_206 zsh_1 rfl d_Night_pullOf_119 ?_
      refine zz_iload_n (i := 2) (pc := 122) C rfl rfl d_Night_pullOf_122 ?_
      obtain ⟨hi10, h⟩ := zz_ckE h
      refine zz_ialdv (v := (s.1 7 (v2.toNatClampNeg))) (pc := 123) C rfl zsh_7 hi10 rfl d_Night_pullOf_123 ?_
      refine zz_iast (pc := 124) C zkx_2 zsh_31 (by decide) d_Night_pullOf_124 ?_
      refine zz_aload_n (i := 0) (pc := 125) C rfl rfl d_Night_pullOf_125 ?_
      refine zz_getR (pc := 126) C zl_4_38 zsh_20 rfl d_Night_pullOf_126 ?_
      refine zz_iconst (pc := 129) C zki_3 d_Night_pullOf_129 ?_
      refine zz_aload_n (i := 0) (pc := 130) C rfl rfl d_Night_pullOf_130 ?_
      refine zz_getR (pc := 131) C zl_4_41 zsh_20 rfl d_Night_pullOf_131 ?_
      refine zz_getR (pc := 134) C zl_4_200 zsh_1 rfl d_Night_pullOf_134 ?_
      refine zz_iload_n (i := 2) (pc := 137) C rfl rfl d_Night_pullOf_137 ?_
      refine zz_ialdv (v := (s.1 9 (v2.toNatClampNeg))) (pc := 138) C rfl zsh_9 hi10 rfl d_Night_pullOf_138 ?_
      refine zz_iast (pc := 139) C zkx_3 zsh_31 (by decide) d_Night_pullOf_139 ?_
      refine zz_aload_n (i := 0) (pc := 140) C rfl rfl d_Night_pullOf_140 ?_
      refine zz_getR (pc := 141) C zl_4_38 zsh_20 rfl d_Night_pullOf_141 ?_
      refine zz_iconst (pc := 144) C zki_4 d_Night_pullOf_144 ?_
      refine zz_iload_n (i := 1) (pc := 145) C rfl rfl d_Night_pullOf_145 ?_
      refine zz_iast (pc := 146) C zkx_4 zsh_31 (by decide) d_Night_pullOf_146 ?_
      refine zz_aload_n (i := 0) (pc := 147) C rfl rfl d_Night_pullOf_147 ?_
      refine zz_getR (pc := 148) C zl_4_38 zsh_20 rfl d_Night_pullOf_148 ?_
      refine zz_iconst (pc := 151) C zki_5 d_Night_pullOf_151 ?_
      refine zz_iload (i := 7) (pc := 152) C rfl d_Night_pullOf_152 ?_
      refine zz_iast (pc := 154) C zkx_5 zsh_31 (by decide) d_Night_pullOf_154 ?_
      refine zz_aload_n (i := 0) (pc := 155) C rfl rfl d_Night_pullOf_155 ?_
      refine zz_getR (pc := 156) C zl_4_38 zsh_20 rfl d_Night_pullOf_156 ?_
      refine zz_bipush (pc := 159) C zkb_6 d_Night_pullOf_159 ?_
      refine zz_iload (i := 4) (pc := 161) C rfl d_Night_pullOf_161 ?_
      refine zz_iast (pc := 163) C zkx_6 zsh_31 (by decide) d_Night_pullOf_163 ?_
      refine zz_aload_n (i := 0) (pc := 164) C rfl rfl d_Night_pullOf_164 ?_
      refine zz_getR (pc := 165) C zl_4_38 zsh_20 rfl d_Night_pullOf_165 ?_
      refine zz_bipush (pc := 168) C zkb_7 d_Night_pullOf_168 ?_
      refine zz_iload (i := 4) (pc := 170) C rfl d_Night_pullOf_170 ?_
      refine zz_bipush (pc := 172) C zkb_60 d_Night_pullOf_172 ?_
      refine zz_idiv (pc := 174) C (by decide) d_Night_pullOf_174 ?_
      refine zz_iast (pc := 175) C zkx_7 zsh_31 (by decide) d_Night_pullOf_175 ?_
      refine zz_iconst (pc := 176) C zki_0 d_Night_pullOf_176 ?_
      refine zz_iload (i := 6) (pc := 177) C rfl d_Night_pullOf_177 ?_
      refine zz_aload_n (i := 0) (pc := 179) C rfl rfl d_Night_pullOf_179 ?_
      refine zz_getR (pc := 180) C zl_4_53 zsh_20 rfl d_Night_pullOf_180 ?_
      refine zz_aload_n (i := 0) (pc := 183) C rfl rfl d_Night_pullOf_183 ?_
      refine zz_getIv (v := (s.1 20 10)) (pc := 184) C zl_4_78 zsh_20 rfl rfl d_Night_pullOf_184 ?_
      obtain ⟨hi11, h⟩ := zz_ckE h
      refine zz_aald (pc := 187) C rfl zsh_19 (Cn := "OneBlanket$Text") ⟨by decide, by decide, rfl⟩ zra_19 hi11 d_Night_pullOf_187 ?_
      refine zz_aload_n (i := 0) (pc := 188) C rfl rfl d_Night_pullOf_188 ?_
      refine zz_getR (pc := 189) C zl_4_38 zsh_20 rfl d_Night_pullOf_189 ?_
      obtain ⟨q12, hq12, h⟩ := zz_bdE h
      refine zz_cVi (as := [.ref 31]) (st := [.int v6, .int (0 : Int32)]) (pc := 192) C (zm_Text_worth (zsub_S6_S2 (zrm_19 hi11)) (by decide) hq12) zcv_Text_worth (zS6_sh (zrm_19 hi11)) zl_4_209 (by omega) (Nat.le_of_ble_eq_true rfl) d_Night_pullOf_192 rfl rfl ?_
      refine zz_mmin (st := [.int (0 : Int32)]) (pc := 195) C zl_4_116 (by omega) (Nat.le_of_ble_eq_true rfl) d_Night_pullOf_195 rfl ?_
      refine zz_mmax (st := []) (pc := 198) C zl_4_203 (by omega) (Nat.le_of_ble_eq_true rfl) d_Night_pullOf_198 rfl ?_
      replace h := Option.some.inj h
      subst h
      exact zz_ret (pc := 201) C (v := some (.int (zz_max (0 : Int32) (zz_min v6 q12.1)))) d_Night_pullOf_201 (Or.inl ⟨_, _, rfl, rfl, rfl, rfl⟩) rfl
    · rw [if_neg hc9] at h
      refine zz_fg C [true, true, true, false, false, true, true, true] rfl rfl ?_
      exact zf_Night_pullOf_J57 C v1 v2 v5 v6 t0 h
set_option maxHeartbeats 4000000 in
set_option maxRecDepth 100000 in
theorem zf_Night_pullOf {G : zz_G} {l : Launch} {Z : zz_Z} {q : Int32 × zz_S} {s : zz_S} (C : zz_Cx G l "OneBlanket$Night" "pullOf" prog_6_method_10_code 8 (some .int) 4 (some (.int q.1), zsh, q.2) Z) (a1 : Int32) (a2 : Int32) (a3 : Int32) (a4 : Int32) (h : f_Night_pullOf a1 a2 a3 a4 s = some q) : Z 0 [some (.ref 20), some (.int a1), some (.int a2), some (.int a3), some (.int a4), none, none, none] [] zsh s := by
  unfold f_Night_pullOf at h
  refine zz_aload_n (i := 0) (pc := 0) C rfl rfl d_Night_pullOf_0 ?_
  refine zz_getR (pc := 1) C zl_4_62 zsh_20 rfl d_Night_pullOf_1 ?_
  refine zz_iload_n (i := 1) (pc := 4) C rfl rfl d_Night_pullOf_4 ?_
  refine zz_iload_n (i := 2) (pc := 5) C rfl rfl d_Night_pullOf_5 ?_
  obtain ⟨q1, hq1, h⟩ := zz_bdE h
  refine zz_cVi (as := [.int a1, .int a2]) (st := []) (pc := 6) C (zm_Lie_underOf hq1) zcv_Lie_underOf zsh_32 zl_4_190 (by omega) (Nat.le_of_ble_eq_true rfl) d_Night_pullOf_6 rfl rfl ?_
  refine zz_istore (i := 5) (lo' := [some (.ref 20), some (.int a1), some (.int a2), some (.int a3), some (.int a4), some (.int q1), none, none]) (pc := 9) C (Nat.le_of_ble_eq_true rfl) rfl rfl d_Night_pullOf_9 ?_
  refine zz_iload (i := 5) (pc := 11) C rfl d_Night_pullOf_11 ?_
  refine zz_if_ne (tgt := 18) (pc := 13) C (by decide) d_Night_pullOf_13 (fun hc2 => ?_) (fun hc2 => ?_)
  · rw [if_neg hc2] at h
    refine zz_iload_n (i := 3) (pc := 18) C rfl rfl d_Night_pullOf_18 ?_
    refine zz_mabs (st := []) (pc := 19) C zl_4_193 (by omega) (Nat.le_of_ble_eq_true rfl) d_Night_pullOf_19 rfl ?_
    refine zz_istore (i := 6) (lo' := [some (.ref 20), some (.int a1), some (.int a2), some (.int a3), some (.int a4), some (.int q1), some (.int (zz_abs a3)), none]) (pc := 22) C (Nat.le_of_ble_eq_true rfl) rfl rfl d_Night_pullOf_22 ?_
    refine zz_aload_n (i := 0) (pc := 24) C rfl rfl d_Night_pullOf_24 ?_
    refine zz_getR (pc := 25) C zl_4_22 zsh_20 rfl d_Night_pullOf_25 ?_
    refine zz_iload_n (i := 1) (pc := 28) C rfl rfl d_Night_pullOf_28 ?_
    obtain ⟨hi3, h⟩ := zz_ckE h
    refine zz_iald (pc := 29) C rfl zsh_29 hi3 d_Night_pullOf_29 ?_
    refine zz_iload_n (i := 3) (pc := 30) C rfl rfl d_Night_pullOf_30 ?_
    refine zz_imul (pc := 31) C d_Night_pullOf_31 ?_
    refine zz_if_ge (tgt := 39) (pc := 32) C (by decide) d_Night_pullOf_32 (fun hc4 => ?_) (fun hc4 => ?_)
    · rw [if_pos hc4] at h
      refine zz_iconst (pc := 39) C zki_0 d_Night_pullOf_39 ?_
      refine zz_fg C [true, true, true, false, true, true, true, false] rfl rfl ?_
      exact zf_Night_pullOf_J40 C a1 a2 a4 q1 (zz_abs a3) (0 : Int32) h
    · rw [if_neg hc4] at h
      refine zz_iconst (pc := 35) C zki_1 d_Night_pullOf_35 ?_
      refine zz_goto (tgt := 40) (pc := 36) C (by decide) d_Night_pullOf_36 ?_
      refine zz_fg C [true, true, true, false, true, true, true, false] rfl rfl ?_
      exact zf_Night_pullOf_J40 C a1 a2 a4 q1 (zz_abs a3) (1 : Int32) h
  · rw [if_pos hc2] at h
    refine zz_iconst (pc := 16) C zki_0 d_Night_pullOf_16 ?_
    replace h := Option.some.inj h
    subst h
    exact zz_ret (pc := 17) C (v := some (.int (0 : Int32))) d_Night_pullOf_17 (Or.inl ⟨_, _, rfl, rfl, rfl, rfl⟩) rfl
theorem zm_Night_pullOf {G : zz_G} {l : Launch} {s : zz_S} {q : Int32 × zz_S} {a1 : Int32} {a2 : Int32} {a3 : Int32} {a4 : Int32} (h : f_Night_pullOf a1 a2 a3 a4 s = some q) : zz_M G l 4 y_Night_pullOf prog_6_method_10_code 8 (some .int) [.ref 20, .int a1, .int a2, .int a3, .int a4] zsh s (some (.int q.1), zsh, q.2) :=
  zz_M.intro (by decide) (Nat.le_of_ble_eq_true rfl) (Nat.le_refl _) (Nat.le_refl _) (fun Z C => zf_Night_pullOf C a1 a2 a3 a4 h)
