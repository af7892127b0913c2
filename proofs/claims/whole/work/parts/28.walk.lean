theorem d_M_act_0 : decode prog_14_method_90_code 0 = .ok (.aload_n 0, 1) := by decide +kernel
theorem d_M_act_1 : decode prog_14_method_90_code 1 = .ok (.iconst 0, 1) := by decide +kernel
theorem d_M_act_2 : decode prog_14_method_90_code 2 = .ok (.putfield 354, 3) := by decide +kernel
theorem d_M_act_5 : decode prog_14_method_90_code 5 = .ok (.aload_n 0, 1) := by decide +kernel
theorem d_M_act_6 : decode prog_14_method_90_code 6 = .ok (.iload_n 1, 1) := by decide +kernel
theorem d_M_act_7 : decode prog_14_method_90_code 7 = .ok (.invokevirtual 394, 3) := by decide +kernel
theorem d_M_act_10 : decode prog_14_method_90_code 10 = .ok (.ifCond .eq (12), 3) := by decide +kernel
theorem d_M_act_13 : decode prog_14_method_90_code 13 = .ok (.iload_n 2, 1) := by decide +kernel
theorem d_M_act_14 : decode prog_14_method_90_code 14 = .ok (.iconst 0, 1) := by decide +kernel
theorem d_M_act_15 : decode prog_14_method_90_code 15 = .ok (.iconst 3, 1) := by decide +kernel
theorem d_M_act_16 : decode prog_14_method_90_code 16 = .ok (.invokestatic 158, 3) := by decide +kernel
theorem d_M_act_19 : decode prog_14_method_90_code 19 = .ok (.ifCond .ne (5), 3) := by decide +kernel
theorem d_M_act_22 : decode prog_14_method_90_code 22 = .ok (.iconst 0, 1) := by decide +kernel
theorem d_M_act_23 : decode prog_14_method_90_code 23 = .ok (.ireturn, 1) := by decide +kernel
theorem d_M_act_24 : decode prog_14_method_90_code 24 = .ok (.iload_n 2, 1) := by decide +kernel
theorem d_M_act_25 : decode prog_14_method_90_code 25 = .ok (.ifCond .ne (12), 3) := by decide +kernel
theorem d_M_act_28 : decode prog_14_method_90_code 28 = .ok (.aload_n 0, 1) := by decide +kernel
theorem d_M_act_29 : decode prog_14_method_90_code 29 = .ok (.iload_n 1, 1) := by decide +kernel
theorem d_M_act_30 : decode prog_14_method_90_code 30 = .ok (.iload_n 3, 1) := by decide +kernel
theorem d_M_act_31 : decode prog_14_method_90_code 31 = .ok (.invokevirtual 370, 3) := by decide +kernel
theorem d_M_act_34 : decode prog_14_method_90_code 34 = .ok (.goto (37), 3) := by decide +kernel
theorem d_M_act_37 : decode prog_14_method_90_code 37 = .ok (.iload_n 2, 1) := by decide +kernel
theorem d_M_act_38 : decode prog_14_method_90_code 38 = .ok (.iconst 1, 1) := by decide +kernel
theorem d_M_act_39 : decode prog_14_method_90_code 39 = .ok (.if_icmp .ne (12), 3) := by decide +kernel
theorem d_M_act_42 : decode prog_14_method_90_code 42 = .ok (.aload_n 0, 1) := by decide +kernel
theorem d_M_act_43 : decode prog_14_method_90_code 43 = .ok (.iload_n 1, 1) := by decide +kernel
theorem d_M_act_44 : decode prog_14_method_90_code 44 = .ok (.iload_n 3, 1) := by decide +kernel
theorem d_M_act_45 : decode prog_14_method_90_code 45 = .ok (.invokevirtual 385, 3) := by decide +kernel
theorem d_M_act_48 : decode prog_14_method_90_code 48 = .ok (.goto (23), 3) := by decide +kernel
theorem d_M_act_51 : decode prog_14_method_90_code 51 = .ok (.iload_n 2, 1) := by decide +kernel
theorem d_M_act_52 : decode prog_14_method_90_code 52 = .ok (.iconst 2, 1) := by decide +kernel
theorem d_M_act_53 : decode prog_14_method_90_code 53 = .ok (.if_icmp .ne (12), 3) := by decide +kernel
theorem d_M_act_56 : decode prog_14_method_90_code 56 = .ok (.aload_n 0, 1) := by decide +kernel
theorem d_M_act_57 : decode prog_14_method_90_code 57 = .ok (.iload_n 1, 1) := by decide +kernel
theorem d_M_act_58 : decode prog_14_method_90_code 58 = .ok (.iload_n 3, 1) := by decide +kernel
theorem d_M_act_59 : decode prog_14_method_90_code 59 = .ok (.invokevirtual 379, 3) := by decide +kernel
theorem d_M_act_62 : decode prog_14_method_90_code 62 = .ok (.goto (9), 3) := by decide +kernel
theorem d_M_act_65 : decode prog_14_method_90_code 65 = .ok (.aload_n 0, 1) := by decide +kernel
theorem d_M_act_66 : decode prog_14_method_90_code 66 = .ok (.iload_n 1, 1) := by decide +kernel
theorem d_M_act_67 : decode prog_14_method_90_code 67 = .ok (.iload_n 3, 1) := by decide +kernel
theorem d_M_act_68 : decode prog_14_method_90_code 68 = .ok (.invokevirtual 397, 3) := by decide +kernel
theorem d_M_act_71 : decode prog_14_method_90_code 71 = .ok (.ireturn, 1) := by decide +kernel
set_option maxHeartbeats 4000000 in
set_option maxRecDepth 100000 in
theorem zf_M_act {G : zz_G} {l : Launch} {Z : zz_Z} {q : Int32 × zz_S} {s : zz_S} (C : zz_Cx G l "OneBlanketModel" "act" prog_14_method_90_code 4 (some .int) 12 (some (.int q.1), zsh, q.2) Z) (a1 : Int32) (a2 : Int32) (a3 : Int32) (h : f_M_act a1 a2 a3 s = some q) : Z 0 [some (.ref 79), some (.int a1), some (.int a2), some (.int a3)] [] zsh s := by
  unfold f_M_act at h
  refine zz_aload_n (i := 0) (pc := 0) C rfl rfl d_M_act_0 ?_
  refine zz_iconst (pc := 1) C zki_0 d_M_act_1 ?_
  refine zz_putI' (pc := 2) C zl_12_354 zpf_12_57 zsh_79 rfl d_M_act_2 ?_
  refine zz_aload_n (i := 0) (pc := 5) C rfl rfl d_M_act_5 ?_
  refine zz_iload_n (i := 1) (pc := 6) C rfl rfl d_M_act_6 ?_
  refine zz_cVi (as := [.int a1]) (st := []) (pc := 7) C (zm_M_isBody rfl) zcv_M_isBody zsh_79 zl_12_394 (by omega) (Nat.le_of_ble_eq_true rfl) d_M_act_7 rfl rfl ?_
  refine zz_if_eq (tgt := 22) (pc := 10) C (by decide) d_M_act_10 (fun hc1 => ?_) (fun hc1 => ?_)
  · rw [if_pos hc1] at h
    refine zz_iconst (pc := 22) C zki_0 d_M_act_22 ?_
    replace h := Option.some.inj h
    subst h
    exact zz_ret (pc := 23) C (v := some (.int (0 : Int32))) d_M_act_23 (Or.inl ⟨_, _, rfl, rfl, rfl, rfl⟩) rfl
  · rw [if_neg hc1] at h
    refine zz_iload_n (i := 2) (pc := 13) C rfl rfl d_M_act_13 ?_
    refine zz_iconst (pc := 14) C zki_0 d_M_act_14 ?_
    refine zz_iconst (pc := 15) C zki_3 d_M_act_15 ?_
    refine zz_cSi (as := [.int a2, .int (0 : Int32), .int (3 : Int32)]) (st := []) (pc := 16) C (zm_M_in rfl) zcs_M_in zl_12_158 (by omega) (Nat.le_of_ble_eq_true rfl) d_M_act_16 rfl rfl ?_
    refine zz_if_ne (tgt := 24) (pc := 19) C (by decide) d_M_act_19 (fun hc2 => ?_) (fun hc2 => ?_)
    · rw [if_neg hc2] at h
      refine zz_iload_n (i := 2) (pc := 24) C rfl rfl d_M_act_24 ?_
      refine zz_if_ne (tgt := 37) (pc := 25) C (by decide) d_M_act_25 (fun hc3 => ?_) (fun hc3 => ?_)
      · rw [if_neg hc3] at h
        refine zz_iload_n (i := 2) (pc := 37) C rfl rfl d_M_act_37 ?_
        refine zz_iconst (pc := 38) C zki_1 d_M_act_38 ?_
        refine zz_icmp_ne (tgt := 51) (pc := 39) C (by decide) d_M_act_39 (fun hc4 => ?_) (fun hc4 => ?_)
        · rw [if_neg hc4] at h
          refine zz_iload_n (i := 2) (pc := 51) C rfl rfl d_M_act_51 ?_
          refine zz_iconst (pc := 52) C zki_2 d_M_act_52 ?_
          refine zz_icmp_ne (tgt := 65) (pc := 53) C (by decide) d_M_act_53 (fun hc5 => ?_) (fun hc5 => ?_)
          · rw [if_neg hc5] at h
            refine zz_aload_n (i := 0) (pc := 65) C rfl rfl d_M_act_65 ?_
            refine zz_iload_n (i := 1) (pc := 66) C rfl rfl d_M_act_66 ?_
            refine zz_iload_n (i := 3) (pc := 67) C rfl rfl d_M_act_67 ?_
            obtain ⟨q6, hq6, h⟩ := zz_bdE h
            refine zz_cVi (as := [.int a1, .int a3]) (st := []) (pc := 68) C (zm_M_waking hq6) zcv_M_waking zsh_79 zl_12_397 (by omega) (Nat.le_of_ble_eq_true rfl) d_M_act_68 rfl rfl ?_
            replace h := Option.some.inj h
            subst h
            exact zz_ret (pc := 71) C (v := some (.int q6.1)) d_M_act_71 (Or.inl ⟨_, _, rfl, rfl, rfl, rfl⟩) rfl
          · rw [if_pos hc5] at h
            refine zz_aload_n (i := 0) (pc := 56) C rfl rfl d_M_act_56 ?_
            refine zz_iload_n (i := 1) (pc := 57) C rfl rfl d_M_act_57 ?_
            refine zz_iload_n (i := 3) (pc := 58) C rfl rfl d_M_act_58 ?_
            obtain ⟨q7, hq7, h⟩ := zz_bdE h
            refine zz_cVi (as := [.int a1, .int a3]) (st := []) (pc := 59) C (zm_M_warming hq7) zcv_M_warming zsh_79 zl_12_379 (by omega) (Nat.le_of_ble_eq_true rfl) d_M_act_59 rfl rfl ?_
            refine zz_goto (tgt := 71) (pc := 62) C (by decide) d_M_act_62 ?_
            replace h := Option.some.inj h
            subst h
            exact zz_ret (pc := 71) C (v := some (.int q7.1)) d_M_act_71 (Or.inl ⟨_, _, rfl, rfl, rfl, rfl⟩) rfl
        · rw [if_pos hc4] at h
          refine zz_aload_n (i := 0) (pc := 42) C rfl rfl d_M_act_42 ?_
          refine zz_iload_n (i := 1) (pc := 43) C rfl rfl d_M_act_43 ?_
          refine zz_iload_n (i := 3) (pc := 44) C rfl rfl d_M_act_44 ?_
          obtain ⟨q8, hq8, h⟩ := zz_bdE h
          refine zz_cVi (as := [.int a1, .int a3]) (st := []) (pc := 45) C (zm_M_drawing hq8) zcv_M_drawing zsh_79 zl_12_385 (by omega) (Nat.le_of_ble_eq_true rfl) d_M_act_45 rfl rfl ?_
          refine zz_goto (tgt := 71) (pc := 48) C (by decide) d_M_act_48 ?_
          replace h := Option.some.inj h
          subst h
          exact zz_ret (pc := 71) C (v := some (.int q8.1)) d_M_act_71 (Or.inl ⟨_, _, rfl, rfl, rfl, rfl⟩) rfl
      · rw [if_pos hc3] at h
        refine zz_aload_n (i := 0) (pc := 28) C rfl rfl d_M_act_28 ?_
        refine zz_iload_n (i := 1) (pc := 29) C rfl rfl d_M_act_29 ?_
        refine zz_iload_n (i := 3) (pc := 30) C rfl rfl d_M_act_30 ?_
        obtain ⟨q9, hq9, h⟩ := zz_bdE h
        refine zz_cVi (as := [.int a1, .int a3]) (st := []) (pc := 31) C (zm_M_turning hq9) zcv_M_turning zsh_79 zl_12_370 (by omega) (Nat.le_of_ble_eq_true rfl) d_M_act_31 rfl rfl ?_
        refine zz_goto (tgt := 71) (pc := 34) C (by decide) d_M_act_34 ?_
        replace h := Option.some.inj h
        subst h
        exact zz_ret (pc := 71) C (v := some (.int q9.1)) d_M_act_71 (Or.inl ⟨_, _, rfl, rfl, rfl, rfl⟩) rfl
    · rw [if_pos hc2] at h
      refine zz_iconst (pc := 22) C zki_0 d_M_act_22 ?_
      replace h := Option.some.inj h
      subst h
      exact zz_ret (pc := 23) C (v := some (.int (0 : Int32))) d_M_act_23 (Or.inl ⟨_, _, rfl, rfl, rfl, rfl⟩) rfl
theorem zm_M_act {G : zz_G} {l : Launch} {s : zz_S} {q : Int32 × zz_S} {a1 : Int32} {a2 : Int32} {a3 : Int32} (h : f_M_act a1 a2 a3 s = some q) : zz_M G l 12 y_M_act prog_14_method_90_code 4 (some .int) [.ref 79, .int a1, .int a2, .int a3] zsh s (some (.int q.1), zsh, q.2) :=
  zz_M.intro (by decide) (Nat.le_of_ble_eq_true rfl) (Nat.le_refl _) (Nat.le_refl _) (fun Z C => zf_M_act C a1 a2 a3 h)
theorem d_M_addStep_0 : decode prog_14_method_22_code 0 = .ok (.aload_n 0, 1) := by decide +kernel
theorem d_M_addStep_1 : decode prog_14_method_22_code 1 = .ok (.getfield 63, 3) := by decide +kernel
theorem d_M_addStep_4 : decode prog_14_method_22_code 4 = .ok (.sipush (650), 3) := by decide +kernel
theorem d_M_addStep_7 : decode prog_14_method_22_code 7 = .ok (.aload_n 0, 1) := by decide +kernel
theorem d_M_addStep_8 : decode prog_14_method_22_code 8 = .ok (.getfield 203, 3) := by decide +kernel
theorem d_M_addStep_11 : decode prog_14_method_22_code 11 = .ok (.iadd, 1) := by decide +kernel
theorem d_M_addStep_12 : decode prog_14_method_22_code 12 = .ok (.iload_n 1, 1) := by decide +kernel
theorem d_M_addStep_13 : decode prog_14_method_22_code 13 = .ok (.i2b, 1) := by decide +kernel
theorem d_M_addStep_14 : decode prog_14_method_22_code 14 = .ok (.bastore, 1) := by decide +kernel
theorem d_M_addStep_15 : decode prog_14_method_22_code 15 = .ok (.aload_n 0, 1) := by decide +kernel
theorem d_M_addStep_16 : decode prog_14_method_22_code 16 = .ok (.getfield 66, 3) := by decide +kernel
theorem d_M_addStep_19 : decode prog_14_method_22_code 19 = .ok (.sipush (650), 3) := by decide +kernel
theorem d_M_addStep_22 : decode prog_14_method_22_code 22 = .ok (.aload_n 0, 1) := by decide +kernel
theorem d_M_addStep_23 : decode prog_14_method_22_code 23 = .ok (.getfield 203, 3) := by decide +kernel
theorem d_M_addStep_26 : decode prog_14_method_22_code 26 = .ok (.iadd, 1) := by decide +kernel
theorem d_M_addStep_27 : decode prog_14_method_22_code 27 = .ok (.iload_n 2, 1) := by decide +kernel
theorem d_M_addStep_28 : decode prog_14_method_22_code 28 = .ok (.iastore, 1) := by decide +kernel
theorem d_M_addStep_29 : decode prog_14_method_22_code 29 = .ok (.aload_n 0, 1) := by decide +kernel
theorem d_M_addStep_30 : decode prog_14_method_22_code 30 = .ok (.dup, 1) := by decide +kernel
theorem d_M_addStep_31 : decode prog_14_method_22_code 31 = .ok (.getfield 203, 3) := by decide +kernel
theorem d_M_addStep_34 : decode prog_14_method_22_code 34 = .ok (.iconst 1, 1) := by decide +kernel
theorem d_M_addStep_35 : decode prog_14_method_22_code 35 = .ok (.iadd, 1) := by decide +kernel
theorem d_M_addStep_36 : decode prog_14_method_22_code 36 = .ok (.putfield 203, 3) := by decide +kernel
theorem d_M_addStep_39 : decode prog_14_method_22_code 39 = .ok (.return_, 1) := by decide +kernel
set_option maxHeartbeats 4000000 in
set_option maxRecDepth 100000 in
theorem zf_M_addStep {G : zz_G} {l : Launch} {Z : zz_Z} {q : zz_S} {s : zz_S} (C : zz_Cx G l "OneBlanketModel" "addStep" prog_14_method_22_code 3 (none) 2 (none, zsh, q) Z) (a1 : Int32) (a2 : Int32) (h : f_M_addStep a1 a2 s = some q) : Z 0 [some (.ref 79), some (.int a1), some (.int a2)] [] zsh s := by
  unfold f_M_addStep at h
  refine zz_aload_n (i := 0) (pc := 0) C rfl rfl d_M_addStep_0 ?_
  refine zz_getR (pc := 1) C zl_12_63 zsh_79 rfl d_M_addStep_1 ?_
  refine zz_sipush (pc := 4) C zks_650 d_M_addStep_4 ?_
  refine zz_aload_n (i := 0) (pc := 7) C rfl rfl d_M_addStep_7 ?_
  refine zz_getI (pc := 8) C zl_12_203 zsh_79 rfl d_M_addStep_8 ?_
  refine zz_iadd (pc := 11) C d_M_addStep_11 ?_
  refine zz_iload_n (i := 1) (pc := 12) C rfl rfl d_M_addStep_12 ?_
  refine zz_i2b (pc := 13) C d_M_addStep_13 ?_
  obtain ⟨hi1, h⟩ := zz_ckE h
  refine zz_bast (pc := 14) C rfl zsh_96 hi1 d_M_addStep_14 ?_
  refine zz_aload_n (i := 0) (pc := 15) C rfl rfl d_M_addStep_15 ?_
  refine zz_getR (pc := 16) C zl_12_66 zsh_79 rfl d_M_addStep_16 ?_
  refine zz_sipush (pc := 19) C zks_650 d_M_addStep_19 ?_
  refine zz_aload_n (i := 0) (pc := 22) C rfl rfl d_M_addStep_22 ?_
  refine zz_getIv (v := (s.1 79 27)) (pc := 23) C zl_12_203 zsh_79 rfl rfl d_M_addStep_23 ?_
  refine zz_iadd (pc := 26) C d_M_addStep_26 ?_
  refine zz_iload_n (i := 2) (pc := 27) C rfl rfl d_M_addStep_27 ?_
  refine zz_iast (pc := 28) C rfl zsh_97 hi1 d_M_addStep_28 ?_
  refine zz_aload_n (i := 0) (pc := 29) C rfl rfl d_M_addStep_29 ?_
  refine zz_dup (pc := 30) C rfl d_M_addStep_30 ?_
  refine zz_getIv (v := (s.1 79 27)) (pc := 31) C zl_12_203 zsh_79 rfl rfl d_M_addStep_31 ?_
  refine zz_iconst (pc := 34) C zki_1 d_M_addStep_34 ?_
  refine zz_iadd (pc := 35) C d_M_addStep_35 ?_
  refine zz_putI' (pc := 36) C zl_12_203 zpf_12_27 zsh_79 rfl d_M_addStep_36 ?_
  replace h := Option.some.inj h
  subst h
  exact zz_ret (pc := 39) C (v := none) d_M_addStep_39 (Or.inr (Or.inr (Or.inr ⟨rfl, rfl, rfl⟩))) rfl
theorem zm_M_addStep {G : zz_G} {l : Launch} {s : zz_S} {q : zz_S} {a1 : Int32} {a2 : Int32} (h : f_M_addStep a1 a2 s = some q) : zz_M G l 2 y_M_addStep prog_14_method_22_code 3 (none) [.ref 79, .int a1, .int a2] zsh s (none, zsh, q) :=
  zz_M.intro (by decide) (Nat.le_of_ble_eq_true rfl) (Nat.le_refl _) (Nat.le_refl _) (fun Z C => zf_M_addStep C a1 a2 h)
theorem d_M_addTurn_0 : decode prog_14_method_42_code 0 = .ok (.aload_n 0, 1) := by decide +kernel
theorem d_M_addTurn_1 : decode prog_14_method_42_code 1 = .ok (.getfield 38, 3) := by decide +kernel
theorem d_M_addTurn_4 : decode prog_14_method_42_code 4 = .ok (.aload_n 0, 1) := by decide +kernel
theorem d_M_addTurn_5 : decode prog_14_method_42_code 5 = .ok (.getfield 191, 3) := by decide +kernel
theorem d_M_addTurn_8 : decode prog_14_method_42_code 8 = .ok (.iload_n 1, 1) := by decide +kernel
theorem d_M_addTurn_9 : decode prog_14_method_42_code 9 = .ok (.iastore, 1) := by decide +kernel
theorem d_M_addTurn_10 : decode prog_14_method_42_code 10 = .ok (.aload_n 0, 1) := by decide +kernel
theorem d_M_addTurn_11 : decode prog_14_method_42_code 11 = .ok (.getfield 41, 3) := by decide +kernel
theorem d_M_addTurn_14 : decode prog_14_method_42_code 14 = .ok (.aload_n 0, 1) := by decide +kernel
theorem d_M_addTurn_15 : decode prog_14_method_42_code 15 = .ok (.getfield 191, 3) := by decide +kernel
theorem d_M_addTurn_18 : decode prog_14_method_42_code 18 = .ok (.iload_n 2, 1) := by decide +kernel
theorem d_M_addTurn_19 : decode prog_14_method_42_code 19 = .ok (.iastore, 1) := by decide +kernel
theorem d_M_addTurn_20 : decode prog_14_method_42_code 20 = .ok (.aload_n 0, 1) := by decide +kernel
theorem d_M_addTurn_21 : decode prog_14_method_42_code 21 = .ok (.getfield 44, 3) := by decide +kernel
theorem d_M_addTurn_24 : decode prog_14_method_42_code 24 = .ok (.aload_n 0, 1) := by decide +kernel
theorem d_M_addTurn_25 : decode prog_14_method_42_code 25 = .ok (.getfield 191, 3) := by decide +kernel
theorem d_M_addTurn_28 : decode prog_14_method_42_code 28 = .ok (.iload_n 3, 1) := by decide +kernel
theorem d_M_addTurn_29 : decode prog_14_method_42_code 29 = .ok (.iastore, 1) := by decide +kernel
theorem d_M_addTurn_30 : decode prog_14_method_42_code 30 = .ok (.aload_n 0, 1) := by decide +kernel
theorem d_M_addTurn_31 : decode prog_14_method_42_code 31 = .ok (.dup, 1) := by decide +kernel
theorem d_M_addTurn_32 : decode prog_14_method_42_code 32 = .ok (.getfield 191, 3) := by decide +kernel
theorem d_M_addTurn_35 : decode prog_14_method_42_code 35 = .ok (.iconst 1, 1) := by decide +kernel
theorem d_M_addTurn_36 : decode prog_14_method_42_code 36 = .ok (.iadd, 1) := by decide +kernel
theorem d_M_addTurn_37 : decode prog_14_method_42_code 37 = .ok (.putfield 191, 3) := by decide +kernel
theorem d_M_addTurn_40 : decode prog_14_method_42_code 40 = .ok (.aload_n 0, 1) := by decide +kernel
theorem d_M_addTurn_41 : decode prog_14_method_42_code 41 = .ok (.getfield 191, 3) := by decide +kernel
theorem d_M_addTurn_44 : decode prog_14_method_42_code 44 = .ok (.iconst 1, 1) := by decide +kernel
theorem d_M_addTurn_45 : decode prog_14_method_42_code 45 = .ok (.isub, 1) := by decide +kernel
theorem d_M_addTurn_46 : decode prog_14_method_42_code 46 = .ok (.ireturn, 1) := by decide +kernel
set_option maxHeartbeats 4000000 in
set_option maxRecDepth 100000 in
theorem zf_M_addTurn {G : zz_G} {l : Launch} {Z : zz_Z} {q : Int32 × zz_S} {s : zz_S} (C : zz_Cx G l "OneBlanketModel" "addTurn" prog_14_method_42_code 4 (some .int) 2 (some (.int q.1), zsh, q.2) Z) (a1 : Int32) (a2 : Int32) (a3 : Int32) (h : f_M_addTurn a1 a2 a3 s = some q) : Z 0 [some (.ref 79), some (.int a1), some (.int a2), some (.int a3)] [] zsh s := by
  unfold f_M_addTurn at h
  refine zz_aload_n (i := 0) (pc := 0) C rfl rfl d_M_addTurn_0 ?_
  refine zz_getR (pc := 1) C zl_12_38 zsh_79 rfl d_M_addTurn_1 ?_
  refine zz_aload_n (i := 0) (pc := 4) C rfl rfl d_M_addTurn_4 ?_
  refine zz_getI (pc := 5) C zl_12_191 zsh_79 rfl d_M_addTurn_5 ?_
  refine zz_iload_n (i := 1) (pc := 8) C rfl rfl d_M_addTurn_8 ?_
  obtain ⟨hi1, h⟩ := zz_ckE h
  refine zz_iast (pc := 9) C rfl zsh_88 hi1 d_M_addTurn_9 ?_
  refine zz_aload_n (i := 0) (pc := 10) C rfl rfl d_M_addTurn_10 ?_
  refine zz_getR (pc := 11) C zl_12_41 zsh_79 rfl d_M_addTurn_11 ?_
  refine zz_aload_n (i := 0) (pc := 14) C rfl rfl d_M_addTurn_14 ?_
  refine zz_getIv (v := (s.1 79 12)) (pc := 15) C zl_12_191 zsh_79 rfl rfl d_M_addTurn_15 ?_
  refine zz_iload_n (i := 2) (pc := 18) C rfl rfl d_M_addTurn_18 ?_
  refine zz_iast (pc := 19) C rfl zsh_89 hi1 d_M_addTurn_19 ?_
  refine zz_aload_n (i := 0) (pc := 20) C rfl rfl d_M_addTurn_20 ?_
  refine zz_getR (pc := 21) C zl_12_44 zsh_79 rfl d_M_addTurn_21 ?_
  refine zz_aload_n (i := 0) (pc := 24) C rfl rfl d_M_addTurn_24 ?_
  refine zz_getIv (v := (s.1 79 12)) (pc := 25) C zl_12_191 zsh_79 rfl rfl d_M_addTurn_25 ?_
  refine zz_iload_n (i := 3) (pc := 28) C rfl rfl d_M_addTurn_28 ?_
  refine zz_iast (pc := 29) C rfl zsh_90 hi1 d_M_addTurn_29 ?_
  refine zz_aload_n (i := 0) (pc := 30) C rfl rfl d_M_addTurn_30 ?_
  refine zz_dup (pc := 31) C rfl d_M_addTurn_31 ?_
  refine zz_getIv (v := (s.1 79 12)) (pc := 32) C zl_12_191 zsh_79 rfl rfl d_M_addTurn_32 ?_
  refine zz_iconst (pc := 35) C zki_1 d_M_addTurn_35 ?_
  refine zz_iadd (pc := 36) C d_M_addTurn_36 ?_
  refine zz_putI' (pc := 37) C zl_12_191 zpf_12_12 zsh_79 rfl d_M_addTurn_37 ?_
  refine zz_aload_n (i := 0) (pc := 40) C rfl rfl d_M_addTurn_40 ?_
  refine zz_getIv (v := ((s.1 79 12) + (1 : Int32))) (pc := 41) C zl_12_191 zsh_79 rfl rfl d_M_addTurn_41 ?_
  refine zz_iconst (pc := 44) C zki_1 d_M_addTurn_44 ?_
  refine zz_isub (pc := 45) C d_M_addTurn_45 ?_
  replace h := Option.some.inj h
  subst h
  exact zz_ret (pc := 46) C (v := some (.int (((s.1 79 12) + (1 : Int32)) - (1 : Int32)))) d_M_addTurn_46 (Or.inl ⟨_, _, rfl, rfl, rfl, rfl⟩) rfl
theorem zm_M_addTurn {G : zz_G} {l : Launch} {s : zz_S} {q : Int32 × zz_S} {a1 : Int32} {a2 : Int32} {a3 : Int32} (h : f_M_addTurn a1 a2 a3 s = some q) : zz_M G l 2 y_M_addTurn prog_14_method_42_code 4 (some .int) [.ref 79, .int a1, .int a2, .int a3] zsh s (some (.int q.1), zsh, q.2) :=
  zz_M.intro (by decide) (Nat.le_of_ble_eq_true rfl) (Nat.le_refl _) (Nat.le_refl _) (fun Z C => zf_M_addTurn C a1 a2 a3 h)
theorem d_M_body_0 : decode prog_14_method_77_code 0 = .ok (.iload_n 1, 1) := by decide +kernel
theorem d_M_body_1 : decode prog_14_method_77_code 1 = .ok (.iconst 0, 1) := by decide +kernel
theorem d_M_body_2 : decode prog_14_method_77_code 2 = .ok (.bipush (7), 2) := by decide +kernel
theorem d_M_body_4 : decode prog_14_method_77_code 4 = .ok (.invokestatic 158, 3) := by decide +kernel
theorem d_M_body_7 : decode prog_14_method_77_code 7 = .ok (.ifCond .ne (5), 3) := by decide +kernel
theorem d_M_body_10 : decode prog_14_method_77_code 10 = .ok (.iconst (-1), 1) := by decide +kernel
theorem d_M_body_11 : decode prog_14_method_77_code 11 = .ok (.ireturn, 1) := by decide +kernel
theorem d_M_body_12 : decode prog_14_method_77_code 12 = .ok (.aload_n 0, 1) := by decide +kernel
theorem d_M_body_13 : decode prog_14_method_77_code 13 = .ok (.getfield 351, 3) := by decide +kernel
theorem d_M_body_16 : decode prog_14_method_77_code 16 = .ok (.bipush (50), 2) := by decide +kernel
theorem d_M_body_18 : decode prog_14_method_77_code 18 = .ok (.if_icmp .ne (6), 3) := by decide +kernel
theorem d_M_body_21 : decode prog_14_method_77_code 21 = .ok (.bipush (-3), 2) := by decide +kernel
theorem d_M_body_23 : decode prog_14_method_77_code 23 = .ok (.ireturn, 1) := by decide +kernel
theorem d_M_body_24 : decode prog_14_method_77_code 24 = .ok (.aload_n 0, 1) := by decide +kernel
theorem d_M_body_25 : decode prog_14_method_77_code 25 = .ok (.getfield 133, 3) := by decide +kernel
theorem d_M_body_28 : decode prog_14_method_77_code 28 = .ok (.aload_n 0, 1) := by decide +kernel
theorem d_M_body_29 : decode prog_14_method_77_code 29 = .ok (.getfield 351, 3) := by decide +kernel
theorem d_M_body_32 : decode prog_14_method_77_code 32 = .ok (.iload_n 1, 1) := by decide +kernel
theorem d_M_body_33 : decode prog_14_method_77_code 33 = .ok (.iastore, 1) := by decide +kernel
theorem d_M_body_34 : decode prog_14_method_77_code 34 = .ok (.aload_n 0, 1) := by decide +kernel
theorem d_M_body_35 : decode prog_14_method_77_code 35 = .ok (.dup, 1) := by decide +kernel
theorem d_M_body_36 : decode prog_14_method_77_code 36 = .ok (.getfield 351, 3) := by decide +kernel
theorem d_M_body_39 : decode prog_14_method_77_code 39 = .ok (.iconst 1, 1) := by decide +kernel
theorem d_M_body_40 : decode prog_14_method_77_code 40 = .ok (.iadd, 1) := by decide +kernel
theorem d_M_body_41 : decode prog_14_method_77_code 41 = .ok (.putfield 351, 3) := by decide +kernel
theorem d_M_body_44 : decode prog_14_method_77_code 44 = .ok (.aload_n 0, 1) := by decide +kernel
theorem d_M_body_45 : decode prog_14_method_77_code 45 = .ok (.getfield 351, 3) := by decide +kernel
theorem d_M_body_48 : decode prog_14_method_77_code 48 = .ok (.iconst 1, 1) := by decide +kernel
theorem d_M_body_49 : decode prog_14_method_77_code 49 = .ok (.isub, 1) := by decide +kernel
theorem d_M_body_50 : decode prog_14_method_77_code 50 = .ok (.ireturn, 1) := by decide +kernel
set_option maxHeartbeats 4000000 in
set_option maxRecDepth 100000 in
theorem zf_M_body {G : zz_G} {l : Launch} {Z : zz_Z} {q : Int32 × zz_S} {s : zz_S} (C : zz_Cx G l "OneBlanketModel" "body" prog_14_method_77_code 2 (some .int) 3 (some (.int q.1), zsh, q.2) Z) (a1 : Int32) (h : f_M_body a1 s = some q) : Z 0 [some (.ref 79), some (.int a1)] [] zsh s := by
  unfold f_M_body at h
  refine zz_iload_n (i := 1) (pc := 0) C rfl rfl d_M_body_0 ?_
  refine zz_iconst (pc := 1) C zki_0 d_M_body_1 ?_
  refine zz_bipush (pc := 2) C zkb_7 d_M_body_2 ?_
  refine zz_cSi (as := [.int a1, .int (0 : Int32), .int (7 : Int32)]) (st := []) (pc := 4) C (zm_M_in rfl) zcs_M_in zl_12_158 (by omega) (Nat.le_of_ble_eq_true rfl) d_M_body_4 rfl rfl ?_
  refine zz_if_ne (tgt := 12) (pc := 7) C (by decide) d_M_body_7 (fun hc1 => ?_) (fun hc1 => ?_)
  · rw [if_neg hc1] at h
    refine zz_aload_n (i := 0) (pc := 12) C rfl rfl d_M_body_12 ?_
    refine zz_getI (pc := 13) C zl_12_351 zsh_79 rfl d_M_body_13 ?_
    refine zz_bipush (pc := 16) C zkb_50 d_M_body_16 ?_
    refine zz_icmp_ne (tgt := 24) (pc := 18) C (by decide) d_M_body_18 (fun hc2 => ?_) (fun hc2 => ?_)
    · rw [if_neg hc2] at h
      refine zz_aload_n (i := 0) (pc := 24) C rfl rfl d_M_body_24 ?_
      refine zz_getR (pc := 25) C zl_12_133 zsh_79 rfl d_M_body_25 ?_
      refine zz_aload_n (i := 0) (pc := 28) C rfl rfl d_M_body_28 ?_
      refine zz_getI (pc := 29) C zl_12_351 zsh_79 rfl d_M_body_29 ?_
      refine zz_iload_n (i := 1) (pc := 32) C rfl rfl d_M_body_32 ?_
      obtain ⟨hi3, h⟩ := zz_ckE h
      refine zz_iast (pc := 33) C rfl zsh_117 hi3 d_M_body_33 ?_
      refine zz_aload_n (i := 0) (pc := 34) C rfl rfl d_M_body_34 ?_
      refine zz_dup (pc := 35) C rfl d_M_body_35 ?_
      refine zz_getIv (v := (s.1 79 55)) (pc := 36) C zl_12_351 zsh_79 rfl rfl d_M_body_36 ?_
      refine zz_iconst (pc := 39) C zki_1 d_M_body_39 ?_
      refine zz_iadd (pc := 40) C d_M_body_40 ?_
      refine zz_putI' (pc := 41) C zl_12_351 zpf_12_55 zsh_79 rfl d_M_body_41 ?_
      refine zz_aload_n (i := 0) (pc := 44) C rfl rfl d_M_body_44 ?_
      refine zz_getIv (v := ((s.1 79 55) + (1 : Int32))) (pc := 45) C zl_12_351 zsh_79 rfl rfl d_M_body_45 ?_
      refine zz_iconst (pc := 48) C zki_1 d_M_body_48 ?_
      refine zz_isub (pc := 49) C d_M_body_49 ?_
      replace h := Option.some.inj h
      subst h
      exact zz_ret (pc := 50) C (v := some (.int (((s.1 79 55) + (1 : Int32)) - (1 : Int32)))) d_M_body_50 (Or.inl ⟨_, _, rfl, rfl, rfl, rfl⟩) rfl
    · rw [if_pos hc2] at h
      refine zz_bipush (pc := 21) C zkb_m3 d_M_body_21 ?_
      replace h := Option.some.inj h
      subst h
      exact zz_ret (pc := 23) C (v := some (.int (-3 : Int32))) d_M_body_23 (Or.inl ⟨_, _, rfl, rfl, rfl, rfl⟩) rfl
  · rw [if_pos hc1] at h
    refine zz_iconst (pc := 10) C zki_m1 d_M_body_10 ?_
    replace h := Option.some.inj h
    subst h
    exact zz_ret (pc := 11) C (v := some (.int (-1 : Int32))) d_M_body_11 (Or.inl ⟨_, _, rfl, rfl, rfl, rfl⟩) rfl
theorem zm_M_body {G : zz_G} {l : Launch} {s : zz_S} {q : Int32 × zz_S} {a1 : Int32} (h : f_M_body a1 s = some q) : zz_M G l 3 y_M_body prog_14_method_77_code 2 (some .int) [.ref 79, .int a1] zsh s (some (.int q.1), zsh, q.2) :=
  zz_M.intro (by decide) (Nat.le_of_ble_eq_true rfl) (Nat.le_refl _) (Nat.le_refl _) (fun Z C => zf_M_body C a1 h)
theorem d_M_look_0 : decode prog_14_method_20_code 0 = .ok (.aload_n 0, 1) := by decide +kernel
theorem d_M_look_1 : decode prog_14_method_20_code 1 = .ok (.getfield 197, 3) := by decide +kernel
theorem d_M_look_4 : decode prog_14_method_20_code 4 = .ok (.aload_n 0, 1) := by decide +kernel
theorem d_M_look_5 : decode prog_14_method_20_code 5 = .ok (.getfield 194, 3) := by decide +kernel
theorem d_M_look_8 : decode prog_14_method_20_code 8 = .ok (.if_icmp .ge (15), 3) := by decide +kernel
theorem d_M_look_11 : decode prog_14_method_20_code 11 = .ok (.aload_n 0, 1) := by decide +kernel
theorem d_M_look_12 : decode prog_14_method_20_code 12 = .ok (.getfield 59, 3) := by decide +kernel
theorem d_M_look_15 : decode prog_14_method_20_code 15 = .ok (.aload_n 0, 1) := by decide +kernel
theorem d_M_look_16 : decode prog_14_method_20_code 16 = .ok (.getfield 197, 3) := by decide +kernel
theorem d_M_look_19 : decode prog_14_method_20_code 19 = .ok (.baload, 1) := by decide +kernel
theorem d_M_look_20 : decode prog_14_method_20_code 20 = .ok (.goto (4), 3) := by decide +kernel
theorem d_M_look_23 : decode prog_14_method_20_code 23 = .ok (.iconst (-1), 1) := by decide +kernel
theorem d_M_look_24 : decode prog_14_method_20_code 24 = .ok (.ireturn, 1) := by decide +kernel
set_option maxHeartbeats 4000000 in
set_option maxRecDepth 100000 in
theorem zf_M_look {G : zz_G} {l : Launch} {Z : zz_Z} {q : Int32} {s : zz_S} (C : zz_Cx G l "OneBlanketModel" "look" prog_14_method_20_code 1 (some .int) 2 (some (.int q), zsh, s) Z) (h : f_M_look s = some q) : Z 0 [some (.ref 79)] [] zsh s := by
  unfold f_M_look at h
  refine zz_aload_n (i := 0) (pc := 0) C rfl rfl d_M_look_0 ?_
  refine zz_getI (pc := 1) C zl_12_197 zsh_79 rfl d_M_look_1 ?_
  refine zz_aload_n (i := 0) (pc := 4) C rfl rfl d_M_look_4 ?_
  refine zz_getI (pc := 5) C zl_12_194 zsh_79 rfl d_M_look_5 ?_
  refine zz_icmp_ge (tgt := 23) (pc := 8) C (by decide) d_M_look_8 (fun hc1 => ?_) (fun hc1 => ?_)
  · rw [if_pos hc1] at h
    refine zz_iconst (pc := 23) C zki_m1 d_M_look_23 ?_
    replace h := Option.some.inj h
    subst h
    exact zz_ret (pc := 24) C (v := some (.int (-1 : Int32))) d_M_look_24 (Or.inl ⟨_, _, rfl, rfl, rfl, rfl⟩) rfl
  · rw [if_neg hc1] at h
    refine zz_aload_n (i := 0) (pc := 11) C rfl rfl d_M_look_11 ?_
    refine zz_getR (pc := 12) C zl_12_59 zsh_79 rfl d_M_look_12 ?_
    refine zz_aload_n (i := 0) (pc := 15) C rfl rfl d_M_look_15 ?_
    refine zz_getI (pc := 16) C zl_12_197 zsh_79 rfl d_M_look_16 ?_
    obtain ⟨hi2, h⟩ := zz_ckE h
    refine zz_bald (pc := 19) C rfl zsh_95 hi2 d_M_look_19 ?_
    refine zz_goto (tgt := 24) (pc := 20) C (by decide) d_M_look_20 ?_
    replace h := Option.some.inj h
    subst h
    exact zz_ret (pc := 24) C (v := some (.int (s.1 95 ((s.1 79 24).toNatClampNeg)))) d_M_look_24 (Or.inl ⟨_, _, rfl, rfl, rfl, rfl⟩) rfl
theorem zm_M_look {G : zz_G} {l : Launch} {s : zz_S} {q : Int32} (h : f_M_look s = some q) : zz_M G l 2 y_M_look prog_14_method_20_code 1 (some .int) [.ref 79] zsh s (some (.int q), zsh, s) :=
  zz_M.intro (by decide) (Nat.le_of_ble_eq_true rfl) (Nat.le_refl _) (Nat.le_refl _) (fun Z C => zf_M_look C h)
theorem d_M_either_0 : decode prog_14_method_31_code 0 = .ok (.aload_n 0, 1) := by decide +kernel
theorem d_M_either_1 : decode prog_14_method_31_code 1 = .ok (.invokevirtual 246, 3) := by decide +kernel
theorem d_M_either_4 : decode prog_14_method_31_code 4 = .ok (.aload_n 0, 1) := by decide +kernel
theorem d_M_either_5 : decode prog_14_method_31_code 5 = .ok (.getfield 200, 3) := by decide +kernel
theorem d_M_either_8 : decode prog_14_method_31_code 8 = .ok (.ifCond .ge (36), 3) := by decide +kernel
theorem d_M_either_11 : decode prog_14_method_31_code 11 = .ok (.aload_n 0, 1) := by decide +kernel
theorem d_M_either_12 : decode prog_14_method_31_code 12 = .ok (.invokevirtual 212, 3) := by decide +kernel
theorem d_M_either_15 : decode prog_14_method_31_code 15 = .ok (.bipush (124), 2) := by decide +kernel
theorem d_M_either_17 : decode prog_14_method_31_code 17 = .ok (.if_icmp .ne (27), 3) := by decide +kernel
theorem d_M_either_20 : decode prog_14_method_31_code 20 = .ok (.aload_n 0, 1) := by decide +kernel
theorem d_M_either_21 : decode prog_14_method_31_code 21 = .ok (.dup, 1) := by decide +kernel
theorem d_M_either_22 : decode prog_14_method_31_code 22 = .ok (.getfield 197, 3) := by decide +kernel
theorem d_M_either_25 : decode prog_14_method_31_code 25 = .ok (.iconst 1, 1) := by decide +kernel
theorem d_M_either_26 : decode prog_14_method_31_code 26 = .ok (.iadd, 1) := by decide +kernel
theorem d_M_either_27 : decode prog_14_method_31_code 27 = .ok (.putfield 197, 3) := by decide +kernel
theorem d_M_either_30 : decode prog_14_method_31_code 30 = .ok (.aload_n 0, 1) := by decide +kernel
theorem d_M_either_31 : decode prog_14_method_31_code 31 = .ok (.invokevirtual 246, 3) := by decide +kernel
theorem d_M_either_34 : decode prog_14_method_31_code 34 = .ok (.aload_n 0, 1) := by decide +kernel
theorem d_M_either_35 : decode prog_14_method_31_code 35 = .ok (.bipush (124), 2) := by decide +kernel
theorem d_M_either_37 : decode prog_14_method_31_code 37 = .ok (.iconst 0, 1) := by decide +kernel
theorem d_M_either_38 : decode prog_14_method_31_code 38 = .ok (.invokevirtual 216, 3) := by decide +kernel
theorem d_M_either_41 : decode prog_14_method_31_code 41 = .ok (.goto (-37), 3) := by decide +kernel
theorem d_M_either_44 : decode prog_14_method_31_code 44 = .ok (.return_, 1) := by decide +kernel
set_option maxHeartbeats 4000000 in
set_option maxRecDepth 100000 in
theorem zf_M_either_L4 {G : zz_G} {l : Launch} {Z : zz_Z} {dR : Nat} (hdR : 3 ≤ dR) {q : zz_S} (C : zz_Cx G l "OneBlanketModel" "either" prog_14_method_31_code 1 (none) (dR + 1) (none, zsh, q) Z) (R_M_both : zz_S → Option (zz_S)) (R_M_compared : zz_S → Option (zz_S)) (R_M_either : zz_S → Option (zz_S)) (R_M_operand : zz_S → Option (zz_S)) (R_M_product : zz_S → Option (zz_S)) (R_M_sum : zz_S → Option (zz_S)) (hR_M_both : ∀ (s : zz_S) (q : zz_S), R_M_both s = some q → zz_M G l dR y_M_both prog_14_method_30_code 1 (none) [.ref 79] zsh s (none, zsh, q)) (hR_M_compared : ∀ (s : zz_S) (q : zz_S), R_M_compared s = some q → zz_M G l dR y_M_compared prog_14_method_29_code 2 (none) [.ref 79] zsh s (none, zsh, q)) (hR_M_either : ∀ (s : zz_S) (q : zz_S), R_M_either s = some q → zz_M G l dR y_M_either prog_14_method_31_code 1 (none) [.ref 79] zsh s (none, zsh, q)) (hR_M_operand : ∀ (s : zz_S) (q : zz_S), R_M_operand s = some q → zz_M G l dR y_M_operand prog_14_method_26_code 2 (none) [.ref 79] zsh s (none, zsh, q)) (hR_M_product : ∀ (s : zz_S) (q : zz_S), R_M_product s = some q → zz_M G l dR y_M_product prog_14_method_27_code 2 (none) [.ref 79] zsh s (none, zsh, q)) (hR_M_sum : ∀ (s : zz_S) (q : zz_S), R_M_sum s = some q → zz_M G l dR y_M_sum prog_14_method_28_code 2 (none) [.ref 79] zsh s (none, zsh, q)) : ∀ (n : Nat) (s : zz_S), f_M_either_L4 R_M_both R_M_compared R_M_either R_M_operand R_M_product R_M_sum n s = some q → Z 4 [some (.ref 79)] [] zsh s := by
  intro n
  induction n with
  | zero => intro s h; rw [f_M_either_L4] at h; cases h
  | succ n ih =>
  intro s h
  rw [f_M_either_L4] at h
  refine zz_aload_n (i := 0) (pc := 4) C rfl rfl d_M_either_4 ?_
  refine zz_getI (pc := 5) C zl_12_200 zsh_79 rfl d_M_either_5 ?_
  refine zz_if_ge (tgt := 44) (pc := 8) C (by decide) d_M_either_8 (fun hc2 => ?_) (fun hc2 => ?_)
  · rw [if_pos hc2] at h
    replace h := Option.some.inj h
    subst h
    exact zz_ret (pc := 44) C (v := none) d_M_either_44 (Or.inr (Or.inr (Or.inr ⟨rfl, rfl, rfl⟩))) rfl
  · rw [if_neg hc2] at h
    refine zz_aload_n (i := 0) (pc := 11) C rfl rfl d_M_either_11 ?_
    obtain ⟨q3, hq3, h⟩ := zz_bdE h
    refine zz_cVi (as := []) (st := []) (pc := 12) C (zm_M_look hq3) zcv_M_look zsh_79 zl_12_212 (by omega) (Nat.le_of_ble_eq_true rfl) d_M_either_12 rfl rfl ?_
    refine zz_bipush (pc := 15) C zkb_124 d_M_either_15 ?_
    refine zz_icmp_ne (tgt := 44) (pc := 17) C (by decide) d_M_either_17 (fun hc4 => ?_) (fun hc4 => ?_)
    · rw [if_neg hc4] at h
      replace h := Option.some.inj h
      subst h
      exact zz_ret (pc := 44) C (v := none) d_M_either_44 (Or.inr (Or.inr (Or.inr ⟨rfl, rfl, rfl⟩))) rfl
    · rw [if_pos hc4] at h
      refine zz_aload_n (i := 0) (pc := 20) C rfl rfl d_M_either_20 ?_
      refine zz_dup (pc := 21) C rfl d_M_either_21 ?_
      refine zz_getI (pc := 22) C zl_12_197 zsh_79 rfl d_M_either_22 ?_
      refine zz_iconst (pc := 25) C zki_1 d_M_either_25 ?_
      refine zz_iadd (pc := 26) C d_M_either_26 ?_
      refine zz_putI' (pc := 27) C zl_12_197 zpf_12_24 zsh_79 rfl d_M_either_27 ?_
      refine zz_aload_n (i := 0) (pc := 30) C rfl rfl d_M_either_30 ?_
      obtain ⟨q5, hq5, h⟩ := zz_bdE h
      refine zz_cVv (as := []) (st := []) (pc := 31) C (hR_M_both (zz_w s 79 24 ((s.1 79 24) + (1 : Int32))) q5 hq5) zcv_M_both zsh_79 zl_12_246 (by omega) (Nat.le_of_ble_eq_true rfl) d_M_either_31 rfl rfl ?_
      refine zz_aload_n (i := 0) (pc := 34) C rfl rfl d_M_either_34 ?_
      refine zz_bipush (pc := 35) C zkb_124 d_M_either_35 ?_
      refine zz_iconst (pc := 37) C zki_0 d_M_either_37 ?_
      obtain ⟨q6, hq6, h⟩ := zz_bdE h
      refine zz_cVv (as := [.int (124 : Int32), .int (0 : Int32)]) (st := []) (pc := 38) C (zm_M_addStep hq6) zcv_M_addStep zsh_79 zl_12_216 (by omega) (Nat.le_of_ble_eq_true rfl) d_M_either_38 rfl rfl ?_
      refine zz_goto (tgt := 4) (pc := 41) C (by decide) d_M_either_41 ?_
      exact ih q6 h
set_option maxHeartbeats 4000000 in
set_option maxRecDepth 100000 in
theorem zf_M_either {G : zz_G} {l : Launch} {Z : zz_Z} {dR : Nat} (hdR : 3 ≤ dR) {q : zz_S} {s : zz_S} (C : zz_Cx G l "OneBlanketModel" "either" prog_14_method_31_code 1 (none) (dR + 1) (none, zsh, q) Z) (R_M_both : zz_S → Option (zz_S)) (R_M_compared : zz_S → Option (zz_S)) (R_M_either : zz_S → Option (zz_S)) (R_M_operand : zz_S → Option (zz_S)) (R_M_product : zz_S → Option (zz_S)) (R_M_sum : zz_S → Option (zz_S)) (hR_M_both : ∀ (s : zz_S) (q : zz_S), R_M_both s = some q → zz_M G l dR y_M_both prog_14_method_30_code 1 (none) [.ref 79] zsh s (none, zsh, q)) (hR_M_compared : ∀ (s : zz_S) (q : zz_S), R_M_compared s = some q → zz_M G l dR y_M_compared prog_14_method_29_code 2 (none) [.ref 79] zsh s (none, zsh, q)) (hR_M_either : ∀ (s : zz_S) (q : zz_S), R_M_either s = some q → zz_M G l dR y_M_either prog_14_method_31_code 1 (none) [.ref 79] zsh s (none, zsh, q)) (hR_M_operand : ∀ (s : zz_S) (q : zz_S), R_M_operand s = some q → zz_M G l dR y_M_operand prog_14_method_26_code 2 (none) [.ref 79] zsh s (none, zsh, q)) (hR_M_product : ∀ (s : zz_S) (q : zz_S), R_M_product s = some q → zz_M G l dR y_M_product prog_14_method_27_code 2 (none) [.ref 79] zsh s (none, zsh, q)) (hR_M_sum : ∀ (s : zz_S) (q : zz_S), R_M_sum s = some q → zz_M G l dR y_M_sum prog_14_method_28_code 2 (none) [.ref 79] zsh s (none, zsh, q)) (h : f_M_either R_M_both R_M_compared R_M_either R_M_operand R_M_product R_M_sum s = some q) : Z 0 [some (.ref 79)] [] zsh s := by
  unfold f_M_either at h
  refine zz_aload_n (i := 0) (pc := 0) C rfl rfl d_M_either_0 ?_
  obtain ⟨q1, hq1, h⟩ := zz_bdE h
  refine zz_cVv (as := []) (st := []) (pc := 1) C (hR_M_both s q1 hq1) zcv_M_both zsh_79 zl_12_246 (by omega) (Nat.le_of_ble_eq_true rfl) d_M_either_1 rfl rfl ?_
  exact zf_M_either_L4 hdR C R_M_both R_M_compared R_M_either R_M_operand R_M_product R_M_sum hR_M_both hR_M_compared hR_M_either hR_M_operand hR_M_product hR_M_sum zF q1 h
theorem d_M_faulty_0 : decode prog_14_method_21_code 0 = .ok (.aload_n 0, 1) := by decide +kernel
theorem d_M_faulty_1 : decode prog_14_method_21_code 1 = .ok (.getfield 200, 3) := by decide +kernel
theorem d_M_faulty_4 : decode prog_14_method_21_code 4 = .ok (.ifCond .ge (11), 3) := by decide +kernel
theorem d_M_faulty_7 : decode prog_14_method_21_code 7 = .ok (.aload_n 0, 1) := by decide +kernel
theorem d_M_faulty_8 : decode prog_14_method_21_code 8 = .ok (.aload_n 0, 1) := by decide +kernel
theorem d_M_faulty_9 : decode prog_14_method_21_code 9 = .ok (.getfield 197, 3) := by decide +kernel
theorem d_M_faulty_12 : decode prog_14_method_21_code 12 = .ok (.putfield 200, 3) := by decide +kernel
theorem d_M_faulty_15 : decode prog_14_method_21_code 15 = .ok (.return_, 1) := by decide +kernel
set_option maxHeartbeats 4000000 in
set_option maxRecDepth 100000 in
theorem zf_M_faulty {G : zz_G} {l : Launch} {Z : zz_Z} {q : zz_S} {s : zz_S} (C : zz_Cx G l "OneBlanketModel" "faulty" prog_14_method_21_code 1 (none) 2 (none, zsh, q) Z) (h : f_M_faulty s = q) : Z 0 [some (.ref 79)] [] zsh s := by
  unfold f_M_faulty at h
  refine zz_aload_n (i := 0) (pc := 0) C rfl rfl d_M_faulty_0 ?_
  refine zz_getI (pc := 1) C zl_12_200 zsh_79 rfl d_M_faulty_1 ?_
  refine zz_if_ge (tgt := 15) (pc := 4) C (by decide) d_M_faulty_4 (fun hc1 => ?_) (fun hc1 => ?_)
  · rw [if_pos hc1] at h
    subst h
    exact zz_ret (pc := 15) C (v := none) d_M_faulty_15 (Or.inr (Or.inr (Or.inr ⟨rfl, rfl, rfl⟩))) rfl
  · rw [if_neg hc1] at h
    refine zz_aload_n (i := 0) (pc := 7) C rfl rfl d_M_faulty_7 ?_
    refine zz_aload_n (i := 0) (pc := 8) C rfl rfl d_M_faulty_8 ?_
    refine zz_getI (pc := 9) C zl_12_197 zsh_79 rfl d_M_faulty_9 ?_
    refine zz_putI' (pc := 12) C zl_12_200 zpf_12_25 zsh_79 rfl d_M_faulty_12 ?_
    subst h
    exact zz_ret (pc := 15) C (v := none) d_M_faulty_15 (Or.inr (Or.inr (Or.inr ⟨rfl, rfl, rfl⟩))) rfl
theorem zm_M_faulty {G : zz_G} {l : Launch} {s : zz_S} {q : zz_S} (h : f_M_faulty s = q) : zz_M G l 2 y_M_faulty prog_14_method_21_code 1 (none) [.ref 79] zsh s (none, zsh, q) :=
  zz_M.intro (by decide) (Nat.le_of_ble_eq_true rfl) (Nat.le_refl _) (Nat.le_refl _) (fun Z C => zf_M_faulty C h)
theorem d_M_nameOf_0 : decode prog_14_method_23_code 0 = .ok (.iload_n 0, 1) := by decide +kernel
theorem d_M_nameOf_1 : decode prog_14_method_23_code 1 = .ok (.tableswitch (121) (98) (119) #[113, 121, 121, 121, 121, 121, 118, 121, 121, 109, 121, 115, 121, 121, 121, 121, 121, 111, 103, 105, 121, 107], 103) := by decide +kernel
theorem d_M_nameOf_104 : decode prog_14_method_23_code 104 = .ok (.iconst 0, 1) := by decide +kernel
theorem d_M_nameOf_105 : decode prog_14_method_23_code 105 = .ok (.ireturn, 1) := by decide +kernel
theorem d_M_nameOf_106 : decode prog_14_method_23_code 106 = .ok (.iconst 1, 1) := by decide +kernel
theorem d_M_nameOf_107 : decode prog_14_method_23_code 107 = .ok (.ireturn, 1) := by decide +kernel
theorem d_M_nameOf_108 : decode prog_14_method_23_code 108 = .ok (.iconst 2, 1) := by decide +kernel
theorem d_M_nameOf_109 : decode prog_14_method_23_code 109 = .ok (.ireturn, 1) := by decide +kernel
theorem d_M_nameOf_110 : decode prog_14_method_23_code 110 = .ok (.iconst 3, 1) := by decide +kernel
theorem d_M_nameOf_111 : decode prog_14_method_23_code 111 = .ok (.ireturn, 1) := by decide +kernel
theorem d_M_nameOf_112 : decode prog_14_method_23_code 112 = .ok (.iconst 4, 1) := by decide +kernel
theorem d_M_nameOf_113 : decode prog_14_method_23_code 113 = .ok (.ireturn, 1) := by decide +kernel
theorem d_M_nameOf_114 : decode prog_14_method_23_code 114 = .ok (.iconst 5, 1) := by decide +kernel
theorem d_M_nameOf_115 : decode prog_14_method_23_code 115 = .ok (.ireturn, 1) := by decide +kernel
theorem d_M_nameOf_116 : decode prog_14_method_23_code 116 = .ok (.bipush (6), 2) := by decide +kernel
theorem d_M_nameOf_118 : decode prog_14_method_23_code 118 = .ok (.ireturn, 1) := by decide +kernel
theorem d_M_nameOf_119 : decode prog_14_method_23_code 119 = .ok (.bipush (7), 2) := by decide +kernel
theorem d_M_nameOf_121 : decode prog_14_method_23_code 121 = .ok (.ireturn, 1) := by decide +kernel
theorem d_M_nameOf_122 : decode prog_14_method_23_code 122 = .ok (.iconst (-1), 1) := by decide +kernel
theorem d_M_nameOf_123 : decode prog_14_method_23_code 123 = .ok (.ireturn, 1) := by decide +kernel
set_option maxHeartbeats 4000000 in
set_option maxRecDepth 100000 in
theorem zf_M_nameOf {G : zz_G} {l : Launch} {Z : zz_Z} {sh : List zz_Sh} {q : Int32} {s : zz_S} (C : zz_Cx G l "OneBlanketModel" "nameOf" prog_14_method_23_code 1 (some .int) 2 (some (.int q), sh, s) Z) (a0 : Int32) (h : f_M_nameOf a0 = q) : Z 0 [some (.int a0)] [] sh s := by
  unfold f_M_nameOf at h
  refine zz_iload_n (i := 0) (pc := 0) C rfl rfl d_M_nameOf_0 ?_
  by_cases hc1 : a0 = (98 : Int32)
  · rw [if_pos hc1] at h
    refine zz_tableIn (tgt := 114) (off := 113) (pc := 1) C (by rw [hc1]; decide) (by rw [hc1]; decide) (by rw [hc1]; decide) (by decide) d_M_nameOf_1 ?_
    refine zz_iconst (pc := 114) C zki_5 d_M_nameOf_114 ?_
    subst h
    exact zz_ret (pc := 115) C (v := some (.int (5 : Int32))) d_M_nameOf_115 (Or.inl ⟨_, _, rfl, rfl, rfl, rfl⟩) rfl
  · rw [if_neg hc1] at h
    by_cases hc2 : a0 = (104 : Int32)
    · rw [if_pos hc2] at h
      refine zz_tableIn (tgt := 119) (off := 118) (pc := 1) C (by rw [hc2]; decide) (by rw [hc2]; decide) (by rw [hc2]; decide) (by decide) d_M_nameOf_1 ?_
      refine zz_bipush (pc := 119) C zkb_7 d_M_nameOf_119 ?_
      subst h
      exact zz_ret (pc := 121) C (v := some (.int (7 : Int32))) d_M_nameOf_121 (Or.inl ⟨_, _, rfl, rfl, rfl, rfl⟩) rfl
    · rw [if_neg hc2] at h
      by_cases hc3 : a0 = (107 : Int32)
      · rw [if_pos hc3] at h
        refine zz_tableIn (tgt := 110) (off := 109) (pc := 1) C (by rw [hc3]; decide) (by rw [hc3]; decide) (by rw [hc3]; decide) (by decide) d_M_nameOf_1 ?_
        refine zz_iconst (pc := 110) C zki_3 d_M_nameOf_110 ?_
        subst h
        exact zz_ret (pc := 111) C (v := some (.int (3 : Int32))) d_M_nameOf_111 (Or.inl ⟨_, _, rfl, rfl, rfl, rfl⟩) rfl
      · rw [if_neg hc3] at h
        by_cases hc4 : a0 = (109 : Int32)
        · rw [if_pos hc4] at h
          refine zz_tableIn (tgt := 116) (off := 115) (pc := 1) C (by rw [hc4]; decide) (by rw [hc4]; decide) (by rw [hc4]; decide) (by decide) d_M_nameOf_1 ?_
          refine zz_bipush (pc := 116) C zkb_6 d_M_nameOf_116 ?_
          subst h
          exact zz_ret (pc := 118) C (v := some (.int (6 : Int32))) d_M_nameOf_118 (Or.inl ⟨_, _, rfl, rfl, rfl, rfl⟩) rfl
        · rw [if_neg hc4] at h
          by_cases hc5 : a0 = (115 : Int32)
          · rw [if_pos hc5] at h
            refine zz_tableIn (tgt := 112) (off := 111) (pc := 1) C (by rw [hc5]; decide) (by rw [hc5]; decide) (by rw [hc5]; decide) (by decide) d_M_nameOf_1 ?_
            refine zz_iconst (pc := 112) C zki_4 d_M_nameOf_112 ?_
            subst h
            exact zz_ret (pc := 113) C (v := some (.int (4 : Int32))) d_M_nameOf_113 (Or.inl ⟨_, _, rfl, rfl, rfl, rfl⟩) rfl
          · rw [if_neg hc5] at h
            by_cases hc6 : a0 = (116 : Int32)
            · rw [if_pos hc6] at h
              refine zz_tableIn (tgt := 104) (off := 103) (pc := 1) C (by rw [hc6]; decide) (by rw [hc6]; decide) (by rw [hc6]; decide) (by decide) d_M_nameOf_1 ?_
              refine zz_iconst (pc := 104) C zki_0 d_M_nameOf_104 ?_
              subst h
              exact zz_ret (pc := 105) C (v := some (.int (0 : Int32))) d_M_nameOf_105 (Or.inl ⟨_, _, rfl, rfl, rfl, rfl⟩) rfl
            · rw [if_neg hc6] at h
              by_cases hc7 : a0 = (117 : Int32)
              · rw [if_pos hc7] at h
                refine zz_tableIn (tgt := 106) (off := 105) (pc := 1) C (by rw [hc7]; decide) (by rw [hc7]; decide) (by rw [hc7]; decide) (by decide) d_M_nameOf_1 ?_
                refine zz_iconst (pc := 106) C zki_1 d_M_nameOf_106 ?_
                subst h
                exact zz_ret (pc := 107) C (v := some (.int (1 : Int32))) d_M_nameOf_107 (Or.inl ⟨_, _, rfl, rfl, rfl, rfl⟩) rfl
              · rw [if_neg hc7] at h
                by_cases hc8 : a0 = (119 : Int32)
                · rw [if_pos hc8] at h
                  refine zz_tableIn (tgt := 108) (off := 107) (pc := 1) C (by rw [hc8]; decide) (by rw [hc8]; decide) (by rw [hc8]; decide) (by decide) d_M_nameOf_1 ?_
                  refine zz_iconst (pc := 108) C zki_2 d_M_nameOf_108 ?_
                  subst h
                  exact zz_ret (pc := 109) C (v := some (.int (2 : Int32))) d_M_nameOf_109 (Or.inl ⟨_, _, rfl, rfl, rfl, rfl⟩) rfl
                · rw [if_neg hc8] at h
                  have hc1i : a0.toInt ≠ 98 := fun e => hc1 (Int32.toInt_inj.mp e)
                  have hc2i : a0.toInt ≠ 104 := fun e => hc2 (Int32.toInt_inj.mp e)
                  have hc3i : a0.toInt ≠ 107 := fun e => hc3 (Int32.toInt_inj.mp e)
                  have hc4i : a0.toInt ≠ 109 := fun e => hc4 (Int32.toInt_inj.mp e)
                  have hc5i : a0.toInt ≠ 115 := fun e => hc5 (Int32.toInt_inj.mp e)
                  have hc6i : a0.toInt ≠ 116 := fun e => hc6 (Int32.toInt_inj.mp e)
                  have hc7i : a0.toInt ≠ 117 := fun e => hc7 (Int32.toInt_inj.mp e)
                  have hc8i : a0.toInt ≠ 119 := fun e => hc8 (Int32.toInt_inj.mp e)
                  have hdef : Z 122 [some (.int a0)] [] sh s := by
                    refine zz_iconst (pc := 122) C zki_m1 d_M_nameOf_122 ?_
                    subst h
                    exact zz_ret (pc := 123) C (v := some (.int (-1 : Int32))) d_M_nameOf_123 (Or.inl ⟨_, _, rfl, rfl, rfl, rfl⟩) rfl
                  by_cases hlo : a0.toInt < 98 ∨ 119 < a0.toInt
                  · exact zz_tableOut (tgt := 122) (pc := 1) C hlo (by decide) d_M_nameOf_1 hdef
                  by_cases hk99 : a0.toInt = 99
                  · exact zz_tableIn (tgt := 122) (off := 121) (pc := 1) C (by omega) (by omega) (by rw [hk99]; decide) (by decide) d_M_nameOf_1 hdef
                  by_cases hk100 : a0.toInt = 100
                  · exact zz_tableIn (tgt := 122) (off := 121) (pc := 1) C (by omega) (by omega) (by rw [hk100]; decide) (by decide) d_M_nameOf_1 hdef
                  by_cases hk101 : a0.toInt = 101
                  · exact zz_tableIn (tgt := 122) (off := 121) (pc := 1) C (by omega) (by omega) (by rw [hk101]; decide) (by decide) d_M_nameOf_1 hdef
                  by_cases hk102 : a0.toInt = 102
                  · exact zz_tableIn (tgt := 122) (off := 121) (pc := 1) C (by omega) (by omega) (by rw [hk102]; decide) (by decide) d_M_nameOf_1 hdef
                  by_cases hk103 : a0.toInt = 103
                  · exact zz_tableIn (tgt := 122) (off := 121) (pc := 1) C (by omega) (by omega) (by rw [hk103]; decide) (by decide) d_M_nameOf_1 hdef
                  by_cases hk105 : a0.toInt = 105
                  · exact zz_tableIn (tgt := 122) (off := 121) (pc := 1) C (by omega) (by omega) (by rw [hk105]; decide) (by decide) d_M_nameOf_1 hdef
                  by_cases hk106 : a0.toInt = 106
                  · exact zz_tableIn (tgt := 122) (off := 121) (pc := 1) C (by omega) (by omega) (by rw [hk106]; decide) (by decide) d_M_nameOf_1 hdef
                  by_cases hk108 : a0.toInt = 108
                  · exact zz_tableIn (tgt := 122) (off := 121) (pc := 1) C (by omega) (by omega) (by rw [hk108]; decide) (by decide) d_M_nameOf_1 hdef
                  by_cases hk110 : a0.toInt = 110
                  · exact zz_tableIn (tgt := 122) (off := 121) (pc := 1) C (by omega) (by omega) (by rw [hk110]; decide) (by decide) d_M_nameOf_1 hdef
                  by_cases hk111 : a0.toInt = 111
                  · exact zz_tableIn (tgt := 122) (off := 121) (pc := 1) C (by omega) (by omega) (by rw [hk111]; decide) (by decide) d_M_nameOf_1 hdef
                  by_cases hk112 : a0.toInt = 112
                  · exact zz_tableIn (tgt := 122) (off := 121) (pc := 1) C (by omega) (by omega) (by rw [hk112]; decide) (by decide) d_M_nameOf_1 hdef
                  by_cases hk113 : a0.toInt = 113
                  · exact zz_tableIn (tgt := 122) (off := 121) (pc := 1) C (by omega) (by omega) (by rw [hk113]; decide) (by decide) d_M_nameOf_1 hdef
                  by_cases hk114 : a0.toInt = 114
                  · exact zz_tableIn (tgt := 122) (off := 121) (pc := 1) C (by omega) (by omega) (by rw [hk114]; decide) (by decide) d_M_nameOf_1 hdef
                  by_cases hk118 : a0.toInt = 118
                  · exact zz_tableIn (tgt := 122) (off := 121) (pc := 1) C (by omega) (by omega) (by rw [hk118]; decide) (by decide) d_M_nameOf_1 hdef
                  exact absurd hlo (by omega)
theorem zm_M_nameOf {G : zz_G} {l : Launch} {sh : List zz_Sh} {s : zz_S} {q : Int32} {a0 : Int32} (h : f_M_nameOf a0 = q) : zz_M G l 2 y_M_nameOf prog_14_method_23_code 1 (some .int) [.int a0] sh s (some (.int q), sh, s) :=
  zz_M.intro (by decide) (Nat.le_of_ble_eq_true rfl) (Nat.le_refl _) (Nat.le_refl _) (fun Z C => zf_M_nameOf C a0 h)
theorem d_M_figure_0 : decode prog_14_method_25_code 0 = .ok (.iconst 0, 1) := by decide +kernel
theorem d_M_figure_1 : decode prog_14_method_25_code 1 = .ok (.istore_n 1, 1) := by decide +kernel
theorem d_M_figure_2 : decode prog_14_method_25_code 2 = .ok (.iconst 0, 1) := by decide +kernel
theorem d_M_figure_3 : decode prog_14_method_25_code 3 = .ok (.istore_n 2, 1) := by decide +kernel
theorem d_M_figure_4 : decode prog_14_method_25_code 4 = .ok (.iload_n 2, 1) := by decide +kernel
theorem d_M_figure_5 : decode prog_14_method_25_code 5 = .ok (.iconst 4, 1) := by decide +kernel
theorem d_M_figure_6 : decode prog_14_method_25_code 6 = .ok (.if_icmp .ge (46), 3) := by decide +kernel
theorem d_M_figure_9 : decode prog_14_method_25_code 9 = .ok (.aload_n 0, 1) := by decide +kernel
theorem d_M_figure_10 : decode prog_14_method_25_code 10 = .ok (.invokevirtual 212, 3) := by decide +kernel
theorem d_M_figure_13 : decode prog_14_method_25_code 13 = .ok (.bipush (48), 2) := by decide +kernel
theorem d_M_figure_15 : decode prog_14_method_25_code 15 = .ok (.bipush (57), 2) := by decide +kernel
theorem d_M_figure_17 : decode prog_14_method_25_code 17 = .ok (.invokestatic 158, 3) := by decide +kernel
theorem d_M_figure_20 : decode prog_14_method_25_code 20 = .ok (.ifCond .eq (32), 3) := by decide +kernel
theorem d_M_figure_23 : decode prog_14_method_25_code 23 = .ok (.bipush (10), 2) := by decide +kernel
theorem d_M_figure_25 : decode prog_14_method_25_code 25 = .ok (.iload_n 1, 1) := by decide +kernel
theorem d_M_figure_26 : decode prog_14_method_25_code 26 = .ok (.imul, 1) := by decide +kernel
theorem d_M_figure_27 : decode prog_14_method_25_code 27 = .ok (.aload_n 0, 1) := by decide +kernel
theorem d_M_figure_28 : decode prog_14_method_25_code 28 = .ok (.invokevirtual 212, 3) := by decide +kernel
theorem d_M_figure_31 : decode prog_14_method_25_code 31 = .ok (.iadd, 1) := by decide +kernel
theorem d_M_figure_32 : decode prog_14_method_25_code 32 = .ok (.bipush (48), 2) := by decide +kernel
theorem d_M_figure_34 : decode prog_14_method_25_code 34 = .ok (.isub, 1) := by decide +kernel
theorem d_M_figure_35 : decode prog_14_method_25_code 35 = .ok (.istore_n 1, 1) := by decide +kernel
theorem d_M_figure_36 : decode prog_14_method_25_code 36 = .ok (.iinc 2 (1), 3) := by decide +kernel
theorem d_M_figure_39 : decode prog_14_method_25_code 39 = .ok (.aload_n 0, 1) := by decide +kernel
theorem d_M_figure_40 : decode prog_14_method_25_code 40 = .ok (.dup, 1) := by decide +kernel
theorem d_M_figure_41 : decode prog_14_method_25_code 41 = .ok (.getfield 197, 3) := by decide +kernel
theorem d_M_figure_44 : decode prog_14_method_25_code 44 = .ok (.iconst 1, 1) := by decide +kernel
theorem d_M_figure_45 : decode prog_14_method_25_code 45 = .ok (.iadd, 1) := by decide +kernel
theorem d_M_figure_46 : decode prog_14_method_25_code 46 = .ok (.putfield 197, 3) := by decide +kernel
theorem d_M_figure_49 : decode prog_14_method_25_code 49 = .ok (.goto (-45), 3) := by decide +kernel
theorem d_M_figure_52 : decode prog_14_method_25_code 52 = .ok (.iload_n 2, 1) := by decide +kernel
theorem d_M_figure_53 : decode prog_14_method_25_code 53 = .ok (.ifCond .eq (17), 3) := by decide +kernel
theorem d_M_figure_56 : decode prog_14_method_25_code 56 = .ok (.aload_n 0, 1) := by decide +kernel
theorem d_M_figure_57 : decode prog_14_method_25_code 57 = .ok (.invokevirtual 212, 3) := by decide +kernel
theorem d_M_figure_60 : decode prog_14_method_25_code 60 = .ok (.bipush (48), 2) := by decide +kernel
theorem d_M_figure_62 : decode prog_14_method_25_code 62 = .ok (.bipush (57), 2) := by decide +kernel
theorem d_M_figure_64 : decode prog_14_method_25_code 64 = .ok (.invokestatic 158, 3) := by decide +kernel
theorem d_M_figure_67 : decode prog_14_method_25_code 67 = .ok (.ifCond .eq (7), 3) := by decide +kernel
theorem d_M_figure_70 : decode prog_14_method_25_code 70 = .ok (.aload_n 0, 1) := by decide +kernel
theorem d_M_figure_71 : decode prog_14_method_25_code 71 = .ok (.invokevirtual 209, 3) := by decide +kernel
theorem d_M_figure_74 : decode prog_14_method_25_code 74 = .ok (.aload_n 0, 1) := by decide +kernel
theorem d_M_figure_75 : decode prog_14_method_25_code 75 = .ok (.iconst 1, 1) := by decide +kernel
theorem d_M_figure_76 : decode prog_14_method_25_code 76 = .ok (.iload_n 1, 1) := by decide +kernel
theorem d_M_figure_77 : decode prog_14_method_25_code 77 = .ok (.invokevirtual 216, 3) := by decide +kernel
theorem d_M_figure_80 : decode prog_14_method_25_code 80 = .ok (.return_, 1) := by decide +kernel
set_option maxHeartbeats 4000000 in
set_option maxRecDepth 100000 in
theorem zf_M_figure_J74 {G : zz_G} {l : Launch} {Z : zz_Z} {q : zz_S} {s : zz_S} (C : zz_Cx G l "OneBlanketModel" "figure" prog_14_method_25_code 3 (none) 3 (none, zsh, q) Z) (v1 : Int32) (h : f_M_figure_J74 v1 s = some q) : Z 74 [some (.ref 79), some (.int v1), none] [] zsh s := by
  unfold f_M_figure_J74 at h
  refine zz_aload_n (i := 0) (pc := 74) C rfl rfl d_M_figure_74 ?_
  refine zz_iconst (pc := 75) C zki_1 d_M_figure_75 ?_
  refine zz_iload_n (i := 1) (pc := 76) C rfl rfl d_M_figure_76 ?_
  obtain ⟨q3, hq3, h⟩ := zz_bdE h
  refine zz_cVv (as := [.int (1 : Int32), .int v1]) (st := []) (pc := 77) C (zm_M_addStep hq3) zcv_M_addStep zsh_79 zl_12_216 (by omega) (Nat.le_of_ble_eq_true rfl) d_M_figure_77 rfl rfl ?_
  replace h := Option.some.inj h
  subst h
  exact zz_ret (pc := 80) C (v := none) d_M_figure_80 (Or.inr (Or.inr (Or.inr ⟨rfl, rfl, rfl⟩))) rfl
set_option maxHeartbeats 4000000 in
set_option maxRecDepth 100000 in
theorem zf_M_figure_J70 {G : zz_G} {l : Launch} {Z : zz_Z} {q : zz_S} {s : zz_S} (C : zz_Cx G l "OneBlanketModel" "figure" prog_14_method_25_code 3 (none) 3 (none, zsh, q) Z) (v1 : Int32) (h : f_M_figure_J70 v1 s = some q) : Z 70 [some (.ref 79), some (.int v1), none] [] zsh s := by
  unfold f_M_figure_J70 at h
  refine zz_aload_n (i := 0) (pc := 70) C rfl rfl d_M_figure_70 ?_
  refine zz_cVv (as := []) (st := []) (pc := 71) C (zm_M_faulty rfl) zcv_M_faulty zsh_79 zl_12_209 (by omega) (Nat.le_of_ble_eq_true rfl) d_M_figure_71 rfl rfl ?_
  exact zf_M_figure_J74 C v1 h
set_option maxHeartbeats 4000000 in
set_option maxRecDepth 100000 in
theorem zf_M_figure_J52 {G : zz_G} {l : Launch} {Z : zz_Z} {q : zz_S} {s : zz_S} (C : zz_Cx G l "OneBlanketModel" "figure" prog_14_method_25_code 3 (none) 3 (none, zsh, q) Z) (v1 : Int32) (v2 : Int32) (h : f_M_figure_J52 v1 v2 s = some q) : Z 52 [some (.ref 79), some (.int v1), some (.int v2)] [] zsh s := by
  unfold f_M_figure_J52 at h
  refine zz_iload_n (i := 2) (pc := 52) C rfl rfl d_M_figure_52 ?_
  refine zz_if_eq (tgt := 70) (pc := 53) C (by decide) d_M_figure_53 (fun hc2 => ?_) (fun hc2 => ?_)
  · rw [if_pos hc2] at h
    refine zz_fg C [true, true, false] rfl rfl ?_
    exact zf_M_figure_J70 C v1 h
  · rw [if_neg hc2] at h
    refine zz_aload_n (i := 0) (pc := 56) C rfl rfl d_M_figure_56 ?_
    obtain ⟨q4, hq4, h⟩ := zz_bdE h
    refine zz_cVi (as := []) (st := []) (pc := 57) C (zm_M_look hq4) zcv_M_look zsh_79 zl_12_212 (by omega) (Nat.le_of_ble_eq_true rfl) d_M_figure_57 rfl rfl ?_
    refine zz_bipush (pc := 60) C zkb_48 d_M_figure_60 ?_
    refine zz_bipush (pc := 62) C zkb_57 d_M_figure_62 ?_
    refine zz_cSi (as := [.int q4, .int (48 : Int32), .int (57 : Int32)]) (st := []) (pc := 64) C (zm_M_in rfl) zcs_M_in zl_12_158 (by omega) (Nat.le_of_ble_eq_true rfl) d_M_figure_64 rfl rfl ?_
    refine zz_if_eq (tgt := 74) (pc := 67) C (by decide) d_M_figure_67 (fun hc5 => ?_) (fun hc5 => ?_)
    · rw [if_pos hc5] at h
      refine zz_fg C [true, true, false] rfl rfl ?_
      exact zf_M_figure_J74 C v1 h
    · rw [if_neg hc5] at h
      refine zz_fg C [true, true, false] rfl rfl ?_
      exact zf_M_figure_J70 C v1 h
set_option maxHeartbeats 4000000 in
set_option maxRecDepth 100000 in
theorem zf_M_figure_L4 {G : zz_G} {l : Launch} {Z : zz_Z} {q : zz_S} (C : zz_Cx G l "OneBlanketModel" "figure" prog_14_method_25_code 3 (none) 3 (none, zsh, q) Z) : ∀ (n : Nat) (v1 : Int32) (v2 : Int32) (s : zz_S), f_M_figure_L4 n v1 v2 s = some q → Z 4 [some (.ref 79), some (.int v1), some (.int v2)] [] zsh s := by
  intro n
  induction n with
  | zero => intro v1 v2 s h; rw [f_M_figure_L4] at h; cases h
  | succ n ih =>
  intro v1 v2 s h
  rw [f_M_figure_L4] at h
  refine zz_iload_n (i := 2) (pc := 4) C rfl rfl d_M_figure_4 ?_
  refine zz_iconst (pc := 5) C zki_4 d_M_figure_5 ?_
  refine zz_icmp_ge (tgt := 52) (pc := 6) C (by decide) d_M_figure_6 (fun hc1 => ?_) (fun hc1 => ?_)
  · rw [if_pos hc1] at h
    exact zf_M_figure_J52 C v1 v2 h
  · rw [if_neg hc1] at h
    refine zz_aload_n (i := 0) (pc := 9) C rfl rfl d_M_figure_9 ?_
    obtain ⟨q6, hq6, h⟩ := zz_bdE h
    refine zz_cVi (as := []) (st := []) (pc := 10) C (zm_M_look hq6) zcv_M_look zsh_79 zl_12_212 (by omega) (Nat.le_of_ble_eq_true rfl) d_M_figure_10 rfl rfl ?_
    refine zz_bipush (pc := 13) C zkb_48 d_M_figure_13 ?_
    refine zz_bipush (pc := 15) C zkb_57 d_M_figure_15 ?_
    refine zz_cSi (as := [.int q6, .int (48 : Int32), .int (57 : Int32)]) (st := []) (pc := 17) C (zm_M_in rfl) zcs_M_in zl_12_158 (by omega) (Nat.le_of_ble_eq_true rfl) d_M_figure_17 rfl rfl ?_
    refine zz_if_eq (tgt := 52) (pc := 20) C (by decide) d_M_figure_20 (fun hc7 => ?_) (fun hc7 => ?_)
    · rw [if_pos hc7] at h
      exact zf_M_figure_J52 C v1 v2 h
    · rw [if_neg hc7] at h
      refine zz_bipush (pc := 23) C zkb_10 d_M_figure_23 ?_
      refine zz_iload_n (i := 1) (pc := 25) C rfl rfl d_M_figure_25 ?_
      refine zz_imul (pc := 26) C d_M_figure_26 ?_
      refine zz_aload_n (i := 0) (pc := 27) C rfl rfl d_M_figure_27 ?_
      obtain ⟨q8, hq8, h⟩ := zz_bdE h
      refine zz_cVi (as := []) (st := [.int ((10 : Int32) * v1)]) (pc := 28) C (zm_M_look hq8) zcv_M_look zsh_79 zl_12_212 (by omega) (Nat.le_of_ble_eq_true rfl) d_M_figure_28 rfl rfl ?_
      refine zz_iadd (pc := 31) C d_M_figure_31 ?_
      refine zz_bipush (pc := 32) C zkb_48 d_M_figure_32 ?_
      refine zz_isub (pc := 34) C d_M_figure_34 ?_
      refine zz_istore_n (i := 1) (lo' := [some (.ref 79), some (.int ((((10 : Int32) * v1) + q8) - (48 : Int32))), some (.int v2)]) (pc := 35) C rfl (Nat.le_of_ble_eq_true rfl) rfl rfl d_M_figure_35 ?_
      refine zz_iinc (lo' := [some (.ref 79), some (.int ((((10 : Int32) * v1) + q8) - (48 : Int32))), some (.int (v2 + (1 : Int32)))]) (pc := 36) C rfl (zz_inc zki_1) rfl rfl d_M_figure_36 ?_
      refine zz_aload_n (i := 0) (pc := 39) C rfl rfl d_M_figure_39 ?_
      refine zz_dup (pc := 40) C rfl d_M_figure_40 ?_
      refine zz_getI (pc := 41) C zl_12_197 zsh_79 rfl d_M_figure_41 ?_
      refine zz_iconst (pc := 44) C zki_1 d_M_figure_44 ?_
      refine zz_iadd (pc := 45) C d_M_figure_45 ?_
      refine zz_putI' (pc := 46) C zl_12_197 zpf_12_24 zsh_79 rfl d_M_figure_46 ?_
      refine zz_goto (tgt := 4) (pc := 49) C (by decide) d_M_figure_49 ?_
      exact ih ((((10 : Int32) * v1) + q8) - (48 : Int32)) (v2 + (1 : Int32)) (zz_w s 79 24 ((s.1 79 24) + (1 : Int32))) h
set_option maxHeartbeats 4000000 in
set_option maxRecDepth 100000 in
theorem zf_M_figure {G : zz_G} {l : Launch} {Z : zz_Z} {q : zz_S} {s : zz_S} (C : zz_Cx G l "OneBlanketModel" "figure" prog_14_method_25_code 3 (none) 3 (none, zsh, q) Z) (h : f_M_figure s = some q) : Z 0 [some (.ref 79), none, none] [] zsh s := by
  unfold f_M_figure at h
  refine zz_iconst (pc := 0) C zki_0 d_M_figure_0 ?_
  refine zz_istore_n (i := 1) (lo' := [some (.ref 79), some (.int (0 : Int32)), none]) (pc := 1) C rfl (Nat.le_of_ble_eq_true rfl) rfl rfl d_M_figure_1 ?_
  refine zz_iconst (pc := 2) C zki_0 d_M_figure_2 ?_
  refine zz_istore_n (i := 2) (lo' := [some (.ref 79), some (.int (0 : Int32)), some (.int (0 : Int32))]) (pc := 3) C rfl (Nat.le_of_ble_eq_true rfl) rfl rfl d_M_figure_3 ?_
  exact zf_M_figure_L4 C zF (0 : Int32) (0 : Int32) s h
theorem zm_M_figure {G : zz_G} {l : Launch} {s : zz_S} {q : zz_S} (h : f_M_figure s = some q) : zz_M G l 3 y_M_figure prog_14_method_25_code 3 (none) [.ref 79] zsh s (none, zsh, q) :=
  zz_M.intro (by decide) (Nat.le_of_ble_eq_true rfl) (Nat.le_refl _) (Nat.le_refl _) (fun Z C => zf_M_figure C h)
theorem d_M_opens_0 : decode prog_14_method_24_code 0 = .ok (.aload_n 0, 1) := by decide +kernel
theorem d_M_opens_1 : decode prog_14_method_24_code 1 = .ok (.getfield 206, 3) := by decide +kernel
theorem d_M_opens_4 : decode prog_14_method_24_code 4 = .ok (.bipush (6), 2) := by decide +kernel
theorem d_M_opens_6 : decode prog_14_method_24_code 6 = .ok (.if_icmp .ne (9), 3) := by decide +kernel
theorem d_M_opens_9 : decode prog_14_method_24_code 9 = .ok (.aload_n 0, 1) := by decide +kernel
theorem d_M_opens_10 : decode prog_14_method_24_code 10 = .ok (.invokevirtual 209, 3) := by decide +kernel
theorem d_M_opens_13 : decode prog_14_method_24_code 13 = .ok (.iconst 0, 1) := by decide +kernel
theorem d_M_opens_14 : decode prog_14_method_24_code 14 = .ok (.ireturn, 1) := by decide +kernel
theorem d_M_opens_15 : decode prog_14_method_24_code 15 = .ok (.aload_n 0, 1) := by decide +kernel
theorem d_M_opens_16 : decode prog_14_method_24_code 16 = .ok (.dup, 1) := by decide +kernel
theorem d_M_opens_17 : decode prog_14_method_24_code 17 = .ok (.getfield 206, 3) := by decide +kernel
theorem d_M_opens_20 : decode prog_14_method_24_code 20 = .ok (.iconst 1, 1) := by decide +kernel
theorem d_M_opens_21 : decode prog_14_method_24_code 21 = .ok (.iadd, 1) := by decide +kernel
theorem d_M_opens_22 : decode prog_14_method_24_code 22 = .ok (.putfield 206, 3) := by decide +kernel
theorem d_M_opens_25 : decode prog_14_method_24_code 25 = .ok (.aload_n 0, 1) := by decide +kernel
theorem d_M_opens_26 : decode prog_14_method_24_code 26 = .ok (.dup, 1) := by decide +kernel
theorem d_M_opens_27 : decode prog_14_method_24_code 27 = .ok (.getfield 197, 3) := by decide +kernel
theorem d_M_opens_30 : decode prog_14_method_24_code 30 = .ok (.iconst 1, 1) := by decide +kernel
theorem d_M_opens_31 : decode prog_14_method_24_code 31 = .ok (.iadd, 1) := by decide +kernel
theorem d_M_opens_32 : decode prog_14_method_24_code 32 = .ok (.putfield 197, 3) := by decide +kernel
theorem d_M_opens_35 : decode prog_14_method_24_code 35 = .ok (.iconst 1, 1) := by decide +kernel
theorem d_M_opens_36 : decode prog_14_method_24_code 36 = .ok (.ireturn, 1) := by decide +kernel
set_option maxHeartbeats 4000000 in
set_option maxRecDepth 100000 in
theorem zf_M_opens {G : zz_G} {l : Launch} {Z : zz_Z} {q : Int32 × zz_S} {s : zz_S} (C : zz_Cx G l "OneBlanketModel" "opens" prog_14_method_24_code 1 (some .boolean) 3 (some (.int q.1), zsh, q.2) Z) (h : f_M_opens s = some q) : Z 0 [some (.ref 79)] [] zsh s := by
  unfold f_M_opens at h
  refine zz_aload_n (i := 0) (pc := 0) C rfl rfl d_M_opens_0 ?_
  refine zz_getI (pc := 1) C zl_12_206 zsh_79 rfl d_M_opens_1 ?_
  refine zz_bipush (pc := 4) C zkb_6 d_M_opens_4 ?_
  refine zz_icmp_ne (tgt := 15) (pc := 6) C (by decide) d_M_opens_6 (fun hc1 => ?_) (fun hc1 => ?_)
  · rw [if_neg hc1] at h
    refine zz_aload_n (i := 0) (pc := 15) C rfl rfl d_M_opens_15 ?_
    refine zz_dup (pc := 16) C rfl d_M_opens_16 ?_
    refine zz_getI (pc := 17) C zl_12_206 zsh_79 rfl d_M_opens_17 ?_
    refine zz_iconst (pc := 20) C zki_1 d_M_opens_20 ?_
    refine zz_iadd (pc := 21) C d_M_opens_21 ?_
    refine zz_putI' (pc := 22) C zl_12_206 zpf_12_26 zsh_79 rfl d_M_opens_22 ?_
    refine zz_aload_n (i := 0) (pc := 25) C rfl rfl d_M_opens_25 ?_
    refine zz_dup (pc := 26) C rfl d_M_opens_26 ?_
    refine zz_getIv (v := (s.1 79 24)) (pc := 27) C zl_12_197 zsh_79 rfl rfl d_M_opens_27 ?_
    refine zz_iconst (pc := 30) C zki_1 d_M_opens_30 ?_
    refine zz_iadd (pc := 31) C d_M_opens_31 ?_
    refine zz_putI' (pc := 32) C zl_12_197 zpf_12_24 zsh_79 rfl d_M_opens_32 ?_
    refine zz_iconst (pc := 35) C zki_1 d_M_opens_35 ?_
    replace h := Option.some.inj h
    subst h
    exact zz_ret (pc := 36) C (v := some (.int (1 : Int32))) d_M_opens_36 (Or.inl ⟨_, _, rfl, rfl, rfl, (by decide)⟩) rfl
  · rw [if_pos hc1] at h
    refine zz_aload_n (i := 0) (pc := 9) C rfl rfl d_M_opens_9 ?_
    refine zz_cVv (as := []) (st := []) (pc := 10) C (zm_M_faulty rfl) zcv_M_faulty zsh_79 zl_12_209 (by omega) (Nat.le_of_ble_eq_true rfl) d_M_opens_10 rfl rfl ?_
    refine zz_iconst (pc := 13) C zki_0 d_M_opens_13 ?_
    replace h := Option.some.inj h
    subst h
    exact zz_ret (pc := 14) C (v := some (.int (0 : Int32))) d_M_opens_14 (Or.inl ⟨_, _, rfl, rfl, rfl, (by decide)⟩) rfl
theorem zm_M_opens {G : zz_G} {l : Launch} {s : zz_S} {q : Int32 × zz_S} (h : f_M_opens s = some q) : zz_M G l 3 y_M_opens prog_14_method_24_code 1 (some .boolean) [.ref 79] zsh s (some (.int q.1), zsh, q.2) :=
  zz_M.intro (by decide) (Nat.le_of_ble_eq_true rfl) (Nat.le_refl _) (Nat.le_refl _) (fun Z C => zf_M_opens C h)
theorem d_M_operand_0 : decode prog_14_method_26_code 0 = .ok (.aload_n 0, 1) := by decide +kernel
theorem d_M_operand_1 : decode prog_14_method_26_code 1 = .ok (.invokevirtual 212, 3) := by decide +kernel
theorem d_M_operand_4 : decode prog_14_method_26_code 4 = .ok (.istore_n 1, 1) := by decide +kernel
theorem d_M_operand_5 : decode prog_14_method_26_code 5 = .ok (.iload_n 1, 1) := by decide +kernel
theorem d_M_operand_6 : decode prog_14_method_26_code 6 = .ok (.invokestatic 220, 3) := by decide +kernel
theorem d_M_operand_9 : decode prog_14_method_26_code 9 = .ok (.ifCond .lt (25), 3) := by decide +kernel
theorem d_M_operand_12 : decode prog_14_method_26_code 12 = .ok (.aload_n 0, 1) := by decide +kernel
theorem d_M_operand_13 : decode prog_14_method_26_code 13 = .ok (.iconst 2, 1) := by decide +kernel
theorem d_M_operand_14 : decode prog_14_method_26_code 14 = .ok (.iload_n 1, 1) := by decide +kernel
theorem d_M_operand_15 : decode prog_14_method_26_code 15 = .ok (.invokestatic 220, 3) := by decide +kernel
theorem d_M_operand_18 : decode prog_14_method_26_code 18 = .ok (.invokevirtual 216, 3) := by decide +kernel
theorem d_M_operand_21 : decode prog_14_method_26_code 21 = .ok (.aload_n 0, 1) := by decide +kernel
theorem d_M_operand_22 : decode prog_14_method_26_code 22 = .ok (.dup, 1) := by decide +kernel
theorem d_M_operand_23 : decode prog_14_method_26_code 23 = .ok (.getfield 197, 3) := by decide +kernel
theorem d_M_operand_26 : decode prog_14_method_26_code 26 = .ok (.iconst 1, 1) := by decide +kernel
theorem d_M_operand_27 : decode prog_14_method_26_code 27 = .ok (.iadd, 1) := by decide +kernel
theorem d_M_operand_28 : decode prog_14_method_26_code 28 = .ok (.putfield 197, 3) := by decide +kernel
theorem d_M_operand_31 : decode prog_14_method_26_code 31 = .ok (.goto (123), 3) := by decide +kernel
theorem d_M_operand_34 : decode prog_14_method_26_code 34 = .ok (.iload_n 1, 1) := by decide +kernel
theorem d_M_operand_35 : decode prog_14_method_26_code 35 = .ok (.bipush (33), 2) := by decide +kernel
theorem d_M_operand_37 : decode prog_14_method_26_code 37 = .ok (.if_icmp .eq (9), 3) := by decide +kernel
theorem d_M_operand_40 : decode prog_14_method_26_code 40 = .ok (.iload_n 1, 1) := by decide +kernel
theorem d_M_operand_41 : decode prog_14_method_26_code 41 = .ok (.bipush (45), 2) := by decide +kernel
theorem d_M_operand_43 : decode prog_14_method_26_code 43 = .ok (.if_icmp .ne (44), 3) := by decide +kernel
theorem d_M_operand_46 : decode prog_14_method_26_code 46 = .ok (.aload_n 0, 1) := by decide +kernel
theorem d_M_operand_47 : decode prog_14_method_26_code 47 = .ok (.invokevirtual 224, 3) := by decide +kernel
theorem d_M_operand_50 : decode prog_14_method_26_code 50 = .ok (.ifCond .ne (4), 3) := by decide +kernel
theorem d_M_operand_53 : decode prog_14_method_26_code 53 = .ok (.return_, 1) := by decide +kernel
theorem d_M_operand_54 : decode prog_14_method_26_code 54 = .ok (.aload_n 0, 1) := by decide +kernel
theorem d_M_operand_55 : decode prog_14_method_26_code 55 = .ok (.invokevirtual 228, 3) := by decide +kernel
theorem d_M_operand_58 : decode prog_14_method_26_code 58 = .ok (.aload_n 0, 1) := by decide +kernel
theorem d_M_operand_59 : decode prog_14_method_26_code 59 = .ok (.dup, 1) := by decide +kernel
theorem d_M_operand_60 : decode prog_14_method_26_code 60 = .ok (.getfield 206, 3) := by decide +kernel
theorem d_M_operand_63 : decode prog_14_method_26_code 63 = .ok (.iconst 1, 1) := by decide +kernel
theorem d_M_operand_64 : decode prog_14_method_26_code 64 = .ok (.isub, 1) := by decide +kernel
theorem d_M_operand_65 : decode prog_14_method_26_code 65 = .ok (.putfield 206, 3) := by decide +kernel
theorem d_M_operand_68 : decode prog_14_method_26_code 68 = .ok (.aload_n 0, 1) := by decide +kernel
theorem d_M_operand_69 : decode prog_14_method_26_code 69 = .ok (.iload_n 1, 1) := by decide +kernel
theorem d_M_operand_70 : decode prog_14_method_26_code 70 = .ok (.bipush (33), 2) := by decide +kernel
theorem d_M_operand_72 : decode prog_14_method_26_code 72 = .ok (.if_icmp .ne (7), 3) := by decide +kernel
theorem d_M_operand_75 : decode prog_14_method_26_code 75 = .ok (.iconst 3, 1) := by decide +kernel
theorem d_M_operand_76 : decode prog_14_method_26_code 76 = .ok (.goto (4), 3) := by decide +kernel
theorem d_M_operand_79 : decode prog_14_method_26_code 79 = .ok (.iconst 4, 1) := by decide +kernel
theorem d_M_operand_80 : decode prog_14_method_26_code 80 = .ok (.iconst 0, 1) := by decide +kernel
theorem d_M_operand_81 : decode prog_14_method_26_code 81 = .ok (.invokevirtual 216, 3) := by decide +kernel
theorem d_M_operand_84 : decode prog_14_method_26_code 84 = .ok (.goto (70), 3) := by decide +kernel
theorem d_M_operand_87 : decode prog_14_method_26_code 87 = .ok (.iload_n 1, 1) := by decide +kernel
theorem d_M_operand_88 : decode prog_14_method_26_code 88 = .ok (.bipush (40), 2) := by decide +kernel
theorem d_M_operand_90 : decode prog_14_method_26_code 90 = .ok (.if_icmp .ne (60), 3) := by decide +kernel
theorem d_M_operand_93 : decode prog_14_method_26_code 93 = .ok (.aload_n 0, 1) := by decide +kernel
theorem d_M_operand_94 : decode prog_14_method_26_code 94 = .ok (.invokevirtual 224, 3) := by decide +kernel
theorem d_M_operand_97 : decode prog_14_method_26_code 97 = .ok (.ifCond .ne (4), 3) := by decide +kernel
theorem d_M_operand_100 : decode prog_14_method_26_code 100 = .ok (.return_, 1) := by decide +kernel
theorem d_M_operand_101 : decode prog_14_method_26_code 101 = .ok (.aload_n 0, 1) := by decide +kernel
theorem d_M_operand_102 : decode prog_14_method_26_code 102 = .ok (.invokevirtual 231, 3) := by decide +kernel
theorem d_M_operand_105 : decode prog_14_method_26_code 105 = .ok (.aload_n 0, 1) := by decide +kernel
theorem d_M_operand_106 : decode prog_14_method_26_code 106 = .ok (.getfield 200, 3) := by decide +kernel
theorem d_M_operand_109 : decode prog_14_method_26_code 109 = .ok (.ifCond .lt (4), 3) := by decide +kernel
theorem d_M_operand_112 : decode prog_14_method_26_code 112 = .ok (.return_, 1) := by decide +kernel
theorem d_M_operand_113 : decode prog_14_method_26_code 113 = .ok (.aload_n 0, 1) := by decide +kernel
theorem d_M_operand_114 : decode prog_14_method_26_code 114 = .ok (.invokevirtual 212, 3) := by decide +kernel
theorem d_M_operand_117 : decode prog_14_method_26_code 117 = .ok (.bipush (41), 2) := by decide +kernel
theorem d_M_operand_119 : decode prog_14_method_26_code 119 = .ok (.if_icmp .eq (8), 3) := by decide +kernel
theorem d_M_operand_122 : decode prog_14_method_26_code 122 = .ok (.aload_n 0, 1) := by decide +kernel
theorem d_M_operand_123 : decode prog_14_method_26_code 123 = .ok (.invokevirtual 209, 3) := by decide +kernel
theorem d_M_operand_126 : decode prog_14_method_26_code 126 = .ok (.return_, 1) := by decide +kernel
theorem d_M_operand_127 : decode prog_14_method_26_code 127 = .ok (.aload_n 0, 1) := by decide +kernel
theorem d_M_operand_128 : decode prog_14_method_26_code 128 = .ok (.dup, 1) := by decide +kernel
theorem d_M_operand_129 : decode prog_14_method_26_code 129 = .ok (.getfield 197, 3) := by decide +kernel
theorem d_M_operand_132 : decode prog_14_method_26_code 132 = .ok (.iconst 1, 1) := by decide +kernel
theorem d_M_operand_133 : decode prog_14_method_26_code 133 = .ok (.iadd, 1) := by decide +kernel
theorem d_M_operand_134 : decode prog_14_method_26_code 134 = .ok (.putfield 197, 3) := by decide +kernel
theorem d_M_operand_137 : decode prog_14_method_26_code 137 = .ok (.aload_n 0, 1) := by decide +kernel
theorem d_M_operand_138 : decode prog_14_method_26_code 138 = .ok (.dup, 1) := by decide +kernel
theorem d_M_operand_139 : decode prog_14_method_26_code 139 = .ok (.getfield 206, 3) := by decide +kernel
theorem d_M_operand_142 : decode prog_14_method_26_code 142 = .ok (.iconst 1, 1) := by decide +kernel
theorem d_M_operand_143 : decode prog_14_method_26_code 143 = .ok (.isub, 1) := by decide +kernel
theorem d_M_operand_144 : decode prog_14_method_26_code 144 = .ok (.putfield 206, 3) := by decide +kernel
theorem d_M_operand_147 : decode prog_14_method_26_code 147 = .ok (.goto (7), 3) := by decide +kernel
theorem d_M_operand_150 : decode prog_14_method_26_code 150 = .ok (.aload_n 0, 1) := by decide +kernel
theorem d_M_operand_151 : decode prog_14_method_26_code 151 = .ok (.invokevirtual 234, 3) := by decide +kernel
theorem d_M_operand_154 : decode prog_14_method_26_code 154 = .ok (.return_, 1) := by decide +kernel
set_option maxHeartbeats 4000000 in
set_option maxRecDepth 100000 in
theorem zf_M_operand_J80 {G : zz_G} {l : Launch} {Z : zz_Z} {dR : Nat} (hdR : 3 ≤ dR) {q : zz_S} {s : zz_S} (C : zz_Cx G l "OneBlanketModel" "operand" prog_14_method_26_code 2 (none) (dR + 1) (none, zsh, q) Z) (R_M_both : zz_S → Option (zz_S)) (R_M_compared : zz_S → Option (zz_S)) (R_M_either : zz_S → Option (zz_S)) (R_M_operand : zz_S → Option (zz_S)) (R_M_product : zz_S → Option (zz_S)) (R_M_sum : zz_S → Option (zz_S)) (hR_M_both : ∀ (s : zz_S) (q : zz_S), R_M_both s = some q → zz_M G l dR y_M_both prog_14_method_30_code 1 (none) [.ref 79] zsh s (none, zsh, q)) (hR_M_compared : ∀ (s : zz_S) (q : zz_S), R_M_compared s = some q → zz_M G l dR y_M_compared prog_14_method_29_code 2 (none) [.ref 79] zsh s (none, zsh, q)) (hR_M_either : ∀ (s : zz_S) (q : zz_S), R_M_either s = some q → zz_M G l dR y_M_either prog_14_method_31_code 1 (none) [.ref 79] zsh s (none, zsh, q)) (hR_M_operand : ∀ (s : zz_S) (q : zz_S), R_M_operand s = some q → zz_M G l dR y_M_operand prog_14_method_26_code 2 (none) [.ref 79] zsh s (none, zsh, q)) (hR_M_product : ∀ (s : zz_S) (q : zz_S), R_M_product s = some q → zz_M G l dR y_M_product prog_14_method_27_code 2 (none) [.ref 79] zsh s (none, zsh, q)) (hR_M_sum : ∀ (s : zz_S) (q : zz_S), R_M_sum s = some q → zz_M G l dR y_M_sum prog_14_method_28_code 2 (none) [.ref 79] zsh s (none, zsh, q)) (t1 : Int32) (h : f_M_operand_J80 R_M_both R_M_compared R_M_either R_M_operand R_M_product R_M_sum t1 s = some q) : Z 80 [none, none] [.int t1, .ref 79] zsh s := by
  unfold f_M_operand_J80 at h
  refine zz_iconst (pc := 80) C zki_0 d_M_operand_80 ?_
  obtain ⟨q8, hq8, h⟩ := zz_bdE h
  refine zz_cVv (as := [.int t1, .int (0 : Int32)]) (st := []) (pc := 81) C (zm_M_addStep hq8) zcv_M_addStep zsh_79 zl_12_216 (by omega) (Nat.le_of_ble_eq_true rfl) d_M_operand_81 rfl rfl ?_
  refine zz_goto (tgt := 154) (pc := 84) C (by decide) d_M_operand_84 ?_
  replace h := Option.some.inj h
  subst h
  exact zz_ret (pc := 154) C (v := none) d_M_operand_154 (Or.inr (Or.inr (Or.inr ⟨rfl, rfl, rfl⟩))) rfl
set_option maxHeartbeats 4000000 in
set_option maxRecDepth 100000 in
theorem zf_M_operand_J46 {G : zz_G} {l : Launch} {Z : zz_Z} {dR : Nat} (hdR : 3 ≤ dR) {q : zz_S} {s : zz_S} (C : zz_Cx G l "OneBlanketModel" "operand" prog_14_method_26_code 2 (none) (dR + 1) (none, zsh, q) Z) (R_M_both : zz_S → Option (zz_S)) (R_M_compared : zz_S → Option (zz_S)) (R_M_either : zz_S → Option (zz_S)) (R_M_operand : zz_S → Option (zz_S)) (R_M_product : zz_S → Option (zz_S)) (R_M_sum : zz_S → Option (zz_S)) (hR_M_both : ∀ (s : zz_S) (q : zz_S), R_M_both s = some q → zz_M G l dR y_M_both prog_14_method_30_code 1 (none) [.ref 79] zsh s (none, zsh, q)) (hR_M_compared : ∀ (s : zz_S) (q : zz_S), R_M_compared s = some q → zz_M G l dR y_M_compared prog_14_method_29_code 2 (none) [.ref 79] zsh s (none, zsh, q)) (hR_M_either : ∀ (s : zz_S) (q : zz_S), R_M_either s = some q → zz_M G l dR y_M_either prog_14_method_31_code 1 (none) [.ref 79] zsh s (none, zsh, q)) (hR_M_operand : ∀ (s : zz_S) (q : zz_S), R_M_operand s = some q → zz_M G l dR y_M_operand prog_14_method_26_code 2 (none) [.ref 79] zsh s (none, zsh, q)) (hR_M_product : ∀ (s : zz_S) (q : zz_S), R_M_product s = some q → zz_M G l dR y_M_product prog_14_method_27_code 2 (none) [.ref 79] zsh s (none, zsh, q)) (hR_M_sum : ∀ (s : zz_S) (q : zz_S), R_M_sum s = some q → zz_M G l dR y_M_sum prog_14_method_28_code 2 (none) [.ref 79] zsh s (none, zsh, q)) (v1 : Int32) (h : f_M_operand_J46 R_M_both R_M_compared R_M_either R_M_operand R_M_product R_M_sum v1 s = some q) : Z 46 [some (.ref 79), some (.int v1)] [] zsh s := by
  unfold f_M_operand_J46 at h
  refine zz_aload_n (i := 0) (pc := 46) C rfl rfl d_M_operand_46 ?_
  obtain ⟨q4, hq4, h⟩ := zz_bdE h
  refine zz_cVi (as := []) (st := []) (pc := 47) C (zm_M_opens hq4) zcv_M_opens zsh_79 zl_12_224 (by omega) (Nat.le_of_ble_eq_true rfl) d_M_operand_47 rfl rfl ?_
  refine zz_if_ne (tgt := 54) (pc := 50) C (by decide) d_M_operand_50 (fun hc5 => ?_) (fun hc5 => ?_)
  · rw [if_neg hc5] at h
    refine zz_aload_n (i := 0) (pc := 54) C rfl rfl d_M_operand_54 ?_
    obtain ⟨q6, hq6, h⟩ := zz_bdE h
    refine zz_cVv (as := []) (st := []) (pc := 55) C (hR_M_operand q4.2 q6 hq6) zcv_M_operand zsh_79 zl_12_228 (by omega) (Nat.le_of_ble_eq_true rfl) d_M_operand_55 rfl rfl ?_
    refine zz_aload_n (i := 0) (pc := 58) C rfl rfl d_M_operand_58 ?_
    refine zz_dup (pc := 59) C rfl d_M_operand_59 ?_
    refine zz_getI (pc := 60) C zl_12_206 zsh_79 rfl d_M_operand_60 ?_
    refine zz_iconst (pc := 63) C zki_1 d_M_operand_63 ?_
    refine zz_isub (pc := 64) C d_M_operand_64 ?_
    refine zz_putI' (pc := 65) C zl_12_206 zpf_12_26 zsh_79 rfl d_M_operand_65 ?_
    refine zz_aload_n (i := 0) (pc := 68) C rfl rfl d_M_operand_68 ?_
    refine zz_iload_n (i := 1) (pc := 69) C rfl rfl d_M_operand_69 ?_
    refine zz_bipush (pc := 70) C zkb_33 d_M_operand_70 ?_
    refine zz_icmp_ne (tgt := 79) (pc := 72) C (by decide) d_M_operand_72 (fun hc7 => ?_) (fun hc7 => ?_)
    · rw [if_neg hc7] at h
      refine zz_iconst (pc := 79) C zki_4 d_M_operand_79 ?_
      refine zz_fg C [false, false] rfl rfl ?_
      exact zf_M_operand_J80 hdR C R_M_both R_M_compared R_M_either R_M_operand R_M_product R_M_sum hR_M_both hR_M_compared hR_M_either hR_M_operand hR_M_product hR_M_sum (4 : Int32) h
    · rw [if_pos hc7] at h
      refine zz_iconst (pc := 75) C zki_3 d_M_operand_75 ?_
      refine zz_goto (tgt := 80) (pc := 76) C (by decide) d_M_operand_76 ?_
      refine zz_fg C [false, false] rfl rfl ?_
      exact zf_M_operand_J80 hdR C R_M_both R_M_compared R_M_either R_M_operand R_M_product R_M_sum hR_M_both hR_M_compared hR_M_either hR_M_operand hR_M_product hR_M_sum (3 : Int32) h
  · rw [if_pos hc5] at h
    replace h := Option.some.inj h
    subst h
    exact zz_ret (pc := 53) C (v := none) d_M_operand_53 (Or.inr (Or.inr (Or.inr ⟨rfl, rfl, rfl⟩))) rfl
set_option maxHeartbeats 4000000 in
set_option maxRecDepth 100000 in
theorem zf_M_operand {G : zz_G} {l : Launch} {Z : zz_Z} {dR : Nat} (hdR : 3 ≤ dR) {q : zz_S} {s : zz_S} (C : zz_Cx G l "OneBlanketModel" "operand" prog_14_method_26_code 2 (none) (dR + 1) (none, zsh, q) Z) (R_M_both : zz_S → Option (zz_S)) (R_M_compared : zz_S → Option (zz_S)) (R_M_either : zz_S → Option (zz_S)) (R_M_operand : zz_S → Option (zz_S)) (R_M_product : zz_S → Option (zz_S)) (R_M_sum : zz_S → Option (zz_S)) (hR_M_both : ∀ (s : zz_S) (q : zz_S), R_M_both s = some q → zz_M G l dR y_M_both prog_14_method_30_code 1 (none) [.ref 79] zsh s (none, zsh, q)) (hR_M_compared : ∀ (s : zz_S) (q : zz_S), R_M_compared s = some q → zz_M G l dR y_M_compared prog_14_method_29_code 2 (none) [.ref 79] zsh s (none, zsh, q)) (hR_M_either : ∀ (s : zz_S) (q : zz_S), R_M_either s = some q → zz_M G l dR y_M_either prog_14_method_31_code 1 (none) [.ref 79] zsh s (none, zsh, q)) (hR_M_operand : ∀ (s : zz_S) (q : zz_S), R_M_operand s = some q → zz_M G l dR y_M_operand prog_14_method_26_code 2 (none) [.ref 79] zsh s (none, zsh, q)) (hR_M_product : ∀ (s : zz_S) (q : zz_S), R_M_product s = some q → zz_M G l dR y_M_product prog_14_method_27_code 2 (none) [.ref 79] zsh s (none, zsh, q)) (hR_M_sum : ∀ (s : zz_S) (q : zz_S), R_M_sum s = some q → zz_M G l dR y_M_sum prog_14_method_28_code 2 (none) [.ref 79] zsh s (none, zsh, q)) (h : f_M_operand R_M_both R_M_compared R_M_either R_M_operand R_M_product R_M_sum s = some q) : Z 0 [some (.ref 79), none] [] zsh s := by
  unfold f_M_operand at h
  refine zz_aload_n (i := 0) (pc := 0) C rfl rfl d_M_operand_0 ?_
  obtain ⟨q1, hq1, h⟩ := zz_bdE h
  refine zz_cVi (as := []) (st := []) (pc := 1) C (zm_M_look hq1) zcv_M_look zsh_79 zl_12_212 (by omega) (Nat.le_of_ble_eq_true rfl) d_M_operand_1 rfl rfl ?_
  refine zz_istore_n (i := 1) (lo' := [some (.ref 79), some (.int q1)]) (pc := 4) C rfl (Nat.le_of_ble_eq_true rfl) rfl rfl d_M_operand_4 ?_
  refine zz_iload_n (i := 1) (pc := 5) C rfl rfl d_M_operand_5 ?_
  refine zz_cSi (as := [.int q1]) (st := []) (pc := 6) C (zm_M_nameOf rfl) zcs_M_nameOf zl_12_220 (by omega) (Nat.le_of_ble_eq_true rfl) d_M_operand_6 rfl rfl ?_
  refine zz_if_lt (tgt := 34) (pc := 9) C (by decide) d_M_operand_9 (fun hc2 => ?_) (fun hc2 => ?_)
  · rw [if_pos hc2] at h
    refine zz_iload_n (i := 1) (pc := 34) C rfl rfl d_M_operand_34 ?_
    refine zz_bipush (pc := 35) C zkb_33 d_M_operand_35 ?_
    refine zz_icmp_eq (tgt := 46) (pc := 37) C (by decide) d_M_operand_37 (fun hc3 => ?_) (fun hc3 => ?_)
    · rw [if_pos hc3] at h
      exact zf_M_operand_J46 hdR C R_M_both R_M_compared R_M_either R_M_operand R_M_product R_M_sum hR_M_both hR_M_compared hR_M_either hR_M_operand hR_M_product hR_M_sum q1 h
    · rw [if_neg hc3] at h
      refine zz_iload_n (i := 1) (pc := 40) C rfl rfl d_M_operand_40 ?_
      refine zz_bipush (pc := 41) C zkb_45 d_M_operand_41 ?_
      refine zz_icmp_ne (tgt := 87) (pc := 43) C (by decide) d_M_operand_43 (fun hc9 => ?_) (fun hc9 => ?_)
      · rw [if_neg hc9] at h
        refine zz_iload_n (i := 1) (pc := 87) C rfl rfl d_M_operand_87 ?_
        refine zz_bipush (pc := 88) C zkb_40 d_M_operand_88 ?_
        refine zz_icmp_ne (tgt := 150) (pc := 90) C (by decide) d_M_operand_90 (fun hc10 => ?_) (fun hc10 => ?_)
        · rw [if_neg hc10] at h
          refine zz_aload_n (i := 0) (pc := 150) C rfl rfl d_M_operand_150 ?_
          obtain ⟨q11, hq11, h⟩ := zz_bdE h
          refine zz_cVv (as := []) (st := []) (pc := 151) C (zm_M_figure hq11) zcv_M_figure zsh_79 zl_12_234 (by omega) (Nat.le_of_ble_eq_true rfl) d_M_operand_151 rfl rfl ?_
          replace h := Option.some.inj h
          subst h
          exact zz_ret (pc := 154) C (v := none) d_M_operand_154 (Or.inr (Or.inr (Or.inr ⟨rfl, rfl, rfl⟩))) rfl
        · rw [if_pos hc10] at h
          refine zz_aload_n (i := 0) (pc := 93) C rfl rfl d_M_operand_93 ?_
          obtain ⟨q12, hq12, h⟩ := zz_bdE h
          refine zz_cVi (as := []) (st := []) (pc := 94) C (zm_M_opens hq12) zcv_M_opens zsh_79 zl_12_224 (by omega) (Nat.le_of_ble_eq_true rfl) d_M_operand_94 rfl rfl ?_
          refine zz_if_ne (tgt := 101) (pc := 97) C (by decide) d_M_operand_97 (fun hc13 => ?_) (fun hc13 => ?_)
          · rw [if_neg hc13] at h
            refine zz_aload_n (i := 0) (pc := 101) C rfl rfl d_M_operand_101 ?_
            obtain ⟨q14, hq14, h⟩ := zz_bdE h
            refine zz_cVv (as := []) (st := []) (pc := 102) C (hR_M_either q12.2 q14 hq14) zcv_M_either zsh_79 zl_12_231 (by omega) (Nat.le_of_ble_eq_true rfl) d_M_operand_102 rfl rfl ?_
            refine zz_aload_n (i := 0) (pc := 105) C rfl rfl d_M_operand_105 ?_
            refine zz_getI (pc := 106) C zl_12_200 zsh_79 rfl d_M_operand_106 ?_
            refine zz_if_lt (tgt := 113) (pc := 109) C (by decide) d_M_operand_109 (fun hc15 => ?_) (fun hc15 => ?_)
            · rw [if_pos hc15] at h
              refine zz_aload_n (i := 0) (pc := 113) C rfl rfl d_M_operand_113 ?_
              obtain ⟨q16, hq16, h⟩ := zz_bdE h
              refine zz_cVi (as := []) (st := []) (pc := 114) C (zm_M_look hq16) zcv_M_look zsh_79 zl_12_212 (by omega) (Nat.le_of_ble_eq_true rfl) d_M_operand_114 rfl rfl ?_
              refine zz_bipush (pc := 117) C zkb_41 d_M_operand_117 ?_
              refine zz_icmp_eq (tgt := 127) (pc := 119) C (by decide) d_M_operand_119 (fun hc17 => ?_) (fun hc17 => ?_)
              · rw [if_pos hc17] at h
                refine zz_aload_n (i := 0) (pc := 127) C rfl rfl d_M_operand_127 ?_
                refine zz_dup (pc := 128) C rfl d_M_operand_128 ?_
                refine zz_getI (pc := 129) C zl_12_197 zsh_79 rfl d_M_operand_129 ?_
                refine zz_iconst (pc := 132) C zki_1 d_M_operand_132 ?_
                refine zz_iadd (pc := 133) C d_M_operand_133 ?_
                refine zz_putI' (pc := 134) C zl_12_197 zpf_12_24 zsh_79 rfl d_M_operand_134 ?_
                refine zz_aload_n (i := 0) (pc := 137) C rfl rfl d_M_operand_137 ?_
                refine zz_dup (pc := 138) C rfl d_M_operand_138 ?_
                refine zz_getIv (v := (q14.1 79 26)) (pc := 139) C zl_12_206 zsh_79 rfl rfl d_M_operand_139 ?_
                refine zz_iconst (pc := 142) C zki_1 d_M_operand_142 ?_
                refine zz_isub (pc := 143) C d_M_operand_143 ?_
                refine zz_putI' (pc := 144) C zl_12_206 zpf_12_26 zsh_79 rfl d_M_operand_144 ?_
                refine zz_goto (tgt := 154) (pc := 147) C (by decide) d_M_operand_147 ?_
                replace h := Option.some.inj h
                subst h
                exact zz_ret (pc := 154) C (v := none) d_M_operand_154 (Or.inr (Or.inr (Or.inr ⟨rfl, rfl, rfl⟩))) rfl
              · rw [if_neg hc17] at h
                refine zz_aload_n (i := 0) (pc := 122) C rfl rfl d_M_operand_122 ?_
                refine zz_cVv (as := []) (st := []) (pc := 123) C (zm_M_faulty rfl) zcv_M_faulty zsh_79 zl_12_209 (by omega) (Nat.le_of_ble_eq_true rfl) d_M_operand_123 rfl rfl ?_
                replace h := Option.some.inj h
                subst h
                exact zz_ret (pc := 126) C (v := none) d_M_operand_126 (Or.inr (Or.inr (Or.inr ⟨rfl, rfl, rfl⟩))) rfl
            · rw [if_neg hc15] at h
              replace h := Option.some.inj h
              subst h
              exact zz_ret (pc := 112) C (v := none) d_M_operand_112 (Or.inr (Or.inr (Or.inr ⟨rfl, rfl, rfl⟩))) rfl
          · rw [if_pos hc13] at h
            replace h := Option.some.inj h
            subst h
            exact zz_ret (pc := 100) C (v := none) d_M_operand_100 (Or.inr (Or.inr (Or.inr ⟨rfl, rfl, rfl⟩))) rfl
      · rw [if_pos hc9] at h
        exact zf_M_operand_J46 hdR C R_M_both R_M_compared R_M_either R_M_operand R_M_product R_M_sum hR_M_both hR_M_compared hR_M_either hR_M_operand hR_M_product hR_M_sum q1 h
  · rw [if_neg hc2] at h
    refine zz_aload_n (i := 0) (pc := 12) C rfl rfl d_M_operand_12 ?_
    refine zz_iconst (pc := 13) C zki_2 d_M_operand_13 ?_
    refine zz_iload_n (i := 1) (pc := 14) C rfl rfl d_M_operand_14 ?_
    refine zz_cSi (as := [.int q1]) (st := [.int (2 : Int32), .ref 79]) (pc := 15) C (zm_M_nameOf rfl) zcs_M_nameOf zl_12_220 (by omega) (Nat.le_of_ble_eq_true rfl) d_M_operand_15 rfl rfl ?_
    obtain ⟨q18, hq18, h⟩ := zz_bdE h
    refine zz_cVv (as := [.int (2 : Int32), .int (f_M_nameOf q1)]) (st := []) (pc := 18) C (zm_M_addStep hq18) zcv_M_addStep zsh_79 zl_12_216 (by omega) (Nat.le_of_ble_eq_true rfl) d_M_operand_18 rfl rfl ?_
    refine zz_aload_n (i := 0) (pc := 21) C rfl rfl d_M_operand_21 ?_
    refine zz_dup (pc := 22) C rfl d_M_operand_22 ?_
    refine zz_getI (pc := 23) C zl_12_197 zsh_79 rfl d_M_operand_23 ?_
    refine zz_iconst (pc := 26) C zki_1 d_M_operand_26 ?_
    refine zz_iadd (pc := 27) C d_M_operand_27 ?_
    refine zz_putI' (pc := 28) C zl_12_197 zpf_12_24 zsh_79 rfl d_M_operand_28 ?_
    refine zz_goto (tgt := 154) (pc := 31) C (by decide) d_M_operand_31 ?_
    replace h := Option.some.inj h
    subst h
    exact zz_ret (pc := 154) C (v := none) d_M_operand_154 (Or.inr (Or.inr (Or.inr ⟨rfl, rfl, rfl⟩))) rfl
theorem d_M_product_0 : decode prog_14_method_27_code 0 = .ok (.aload_n 0, 1) := by decide +kernel
theorem d_M_product_1 : decode prog_14_method_27_code 1 = .ok (.invokevirtual 228, 3) := by decide +kernel
theorem d_M_product_4 : decode prog_14_method_27_code 4 = .ok (.aload_n 0, 1) := by decide +kernel
theorem d_M_product_5 : decode prog_14_method_27_code 5 = .ok (.getfield 200, 3) := by decide +kernel
theorem d_M_product_8 : decode prog_14_method_27_code 8 = .ok (.ifCond .ge (58), 3) := by decide +kernel
theorem d_M_product_11 : decode prog_14_method_27_code 11 = .ok (.aload_n 0, 1) := by decide +kernel
theorem d_M_product_12 : decode prog_14_method_27_code 12 = .ok (.invokevirtual 212, 3) := by decide +kernel
theorem d_M_product_15 : decode prog_14_method_27_code 15 = .ok (.bipush (42), 2) := by decide +kernel
theorem d_M_product_17 : decode prog_14_method_27_code 17 = .ok (.if_icmp .eq (21), 3) := by decide +kernel
theorem d_M_product_20 : decode prog_14_method_27_code 20 = .ok (.aload_n 0, 1) := by decide +kernel
theorem d_M_product_21 : decode prog_14_method_27_code 21 = .ok (.invokevirtual 212, 3) := by decide +kernel
theorem d_M_product_24 : decode prog_14_method_27_code 24 = .ok (.bipush (47), 2) := by decide +kernel
theorem d_M_product_26 : decode prog_14_method_27_code 26 = .ok (.if_icmp .eq (12), 3) := by decide +kernel
theorem d_M_product_29 : decode prog_14_method_27_code 29 = .ok (.aload_n 0, 1) := by decide +kernel
theorem d_M_product_30 : decode prog_14_method_27_code 30 = .ok (.invokevirtual 212, 3) := by decide +kernel
theorem d_M_product_33 : decode prog_14_method_27_code 33 = .ok (.bipush (37), 2) := by decide +kernel
theorem d_M_product_35 : decode prog_14_method_27_code 35 = .ok (.if_icmp .ne (31), 3) := by decide +kernel
theorem d_M_product_38 : decode prog_14_method_27_code 38 = .ok (.aload_n 0, 1) := by decide +kernel
theorem d_M_product_39 : decode prog_14_method_27_code 39 = .ok (.invokevirtual 212, 3) := by decide +kernel
theorem d_M_product_42 : decode prog_14_method_27_code 42 = .ok (.istore_n 1, 1) := by decide +kernel
theorem d_M_product_43 : decode prog_14_method_27_code 43 = .ok (.aload_n 0, 1) := by decide +kernel
theorem d_M_product_44 : decode prog_14_method_27_code 44 = .ok (.dup, 1) := by decide +kernel
theorem d_M_product_45 : decode prog_14_method_27_code 45 = .ok (.getfield 197, 3) := by decide +kernel
theorem d_M_product_48 : decode prog_14_method_27_code 48 = .ok (.iconst 1, 1) := by decide +kernel
theorem d_M_product_49 : decode prog_14_method_27_code 49 = .ok (.iadd, 1) := by decide +kernel
theorem d_M_product_50 : decode prog_14_method_27_code 50 = .ok (.putfield 197, 3) := by decide +kernel
theorem d_M_product_53 : decode prog_14_method_27_code 53 = .ok (.aload_n 0, 1) := by decide +kernel
theorem d_M_product_54 : decode prog_14_method_27_code 54 = .ok (.invokevirtual 228, 3) := by decide +kernel
theorem d_M_product_57 : decode prog_14_method_27_code 57 = .ok (.aload_n 0, 1) := by decide +kernel
theorem d_M_product_58 : decode prog_14_method_27_code 58 = .ok (.iload_n 1, 1) := by decide +kernel
theorem d_M_product_59 : decode prog_14_method_27_code 59 = .ok (.iconst 0, 1) := by decide +kernel
theorem d_M_product_60 : decode prog_14_method_27_code 60 = .ok (.invokevirtual 216, 3) := by decide +kernel
theorem d_M_product_63 : decode prog_14_method_27_code 63 = .ok (.goto (-59), 3) := by decide +kernel
theorem d_M_product_66 : decode prog_14_method_27_code 66 = .ok (.return_, 1) := by decide +kernel
set_option maxHeartbeats 4000000 in
set_option maxRecDepth 100000 in
theorem zf_M_product_J38 {G : zz_G} {l : Launch} {Z : zz_Z} {dR : Nat} (hdR : 3 ≤ dR) {q : zz_S} {s : zz_S} (C : zz_Cx G l "OneBlanketModel" "product" prog_14_method_27_code 2 (none) (dR + 1) (none, zsh, q) Z) (R_M_both : zz_S → Option (zz_S)) (R_M_compared : zz_S → Option (zz_S)) (R_M_either : zz_S → Option (zz_S)) (R_M_operand : zz_S → Option (zz_S)) (R_M_product : zz_S → Option (zz_S)) (R_M_sum : zz_S → Option (zz_S)) (hR_M_both : ∀ (s : zz_S) (q : zz_S), R_M_both s = some q → zz_M G l dR y_M_both prog_14_method_30_code 1 (none) [.ref 79] zsh s (none, zsh, q)) (hR_M_compared : ∀ (s : zz_S) (q : zz_S), R_M_compared s = some q → zz_M G l dR y_M_compared prog_14_method_29_code 2 (none) [.ref 79] zsh s (none, zsh, q)) (hR_M_either : ∀ (s : zz_S) (q : zz_S), R_M_either s = some q → zz_M G l dR y_M_either prog_14_method_31_code 1 (none) [.ref 79] zsh s (none, zsh, q)) (hR_M_operand : ∀ (s : zz_S) (q : zz_S), R_M_operand s = some q → zz_M G l dR y_M_operand prog_14_method_26_code 2 (none) [.ref 79] zsh s (none, zsh, q)) (hR_M_product : ∀ (s : zz_S) (q : zz_S), R_M_product s = some q → zz_M G l dR y_M_product prog_14_method_27_code 2 (none) [.ref 79] zsh s (none, zsh, q)) (hR_M_sum : ∀ (s : zz_S) (q : zz_S), R_M_sum s = some q → zz_M G l dR y_M_sum prog_14_method_28_code 2 (none) [.ref 79] zsh s (none, zsh, q)) (K4 : zz_S → Option (zz_S)) (hK4 : ∀ (s : zz_S), K4 s = some q → Z 4 [some (.ref 79), none] [] zsh s) (h : f_M_product_J38 R_M_both R_M_compared R_M_either R_M_operand R_M_product R_M_sum K4 s = some q) : Z 38 [some (.ref 79), none] [] zsh s := by
  unfold f_M_product_J38 at h
  refine zz_aload_n (i := 0) (pc := 38) C rfl rfl d_M_product_38 ?_
  obtain ⟨q5, hq5, h⟩ := zz_bdE h
  refine zz_cVi (as := []) (st := []) (pc := 39) C (zm_M_look hq5) zcv_M_look zsh_79 zl_12_212 (by omega) (Nat.le_of_ble_eq_true rfl) d_M_product_39 rfl rfl ?_
  refine zz_istore_n (i := 1) (lo' := [some (.ref 79), some (.int q5)]) (pc := 42) C rfl (Nat.le_of_ble_eq_true rfl) rfl rfl d_M_product_42 ?_
  refine zz_aload_n (i := 0) (pc := 43) C rfl rfl d_M_product_43 ?_
  refine zz_dup (pc := 44) C rfl d_M_product_44 ?_
  refine zz_getI (pc := 45) C zl_12_197 zsh_79 rfl d_M_product_45 ?_
  refine zz_iconst (pc := 48) C zki_1 d_M_product_48 ?_
  refine zz_iadd (pc := 49) C d_M_product_49 ?_
  refine zz_putI' (pc := 50) C zl_12_197 zpf_12_24 zsh_79 rfl d_M_product_50 ?_
  refine zz_aload_n (i := 0) (pc := 53) C rfl rfl d_M_product_53 ?_
  obtain ⟨q6, hq6, h⟩ := zz_bdE h
  refine zz_cVv (as := []) (st := []) (pc := 54) C (hR_M_operand (zz_w s 79 24 ((s.1 79 24) + (1 : Int32))) q6 hq6) zcv_M_operand zsh_79 zl_12_228 (by omega) (Nat.le_of_ble_eq_true rfl) d_M_product_54 rfl rfl ?_
  refine zz_aload_n (i := 0) (pc := 57) C rfl rfl d_M_product_57 ?_
  refine zz_iload_n (i := 1) (pc := 58) C rfl rfl d_M_product_58 ?_
  refine zz_iconst (pc := 59) C zki_0 d_M_product_59 ?_
  obtain ⟨q7, hq7, h⟩ := zz_bdE h
  refine zz_cVv (as := [.int q5, .int (0 : Int32)]) (st := []) (pc := 60) C (zm_M_addStep hq7) zcv_M_addStep zsh_79 zl_12_216 (by omega) (Nat.le_of_ble_eq_true rfl) d_M_product_60 rfl rfl ?_
  refine zz_goto (tgt := 4) (pc := 63) C (by decide) d_M_product_63 ?_
  refine zz_fg C [true, false] rfl rfl ?_
  exact hK4 q7 h
set_option maxHeartbeats 4000000 in
set_option maxRecDepth 100000 in
theorem zf_M_product_L4 {G : zz_G} {l : Launch} {Z : zz_Z} {dR : Nat} (hdR : 3 ≤ dR) {q : zz_S} (C : zz_Cx G l "OneBlanketModel" "product" prog_14_method_27_code 2 (none) (dR + 1) (none, zsh, q) Z) (R_M_both : zz_S → Option (zz_S)) (R_M_compared : zz_S → Option (zz_S)) (R_M_either : zz_S → Option (zz_S)) (R_M_operand : zz_S → Option (zz_S)) (R_M_product : zz_S → Option (zz_S)) (R_M_sum : zz_S → Option (zz_S)) (hR_M_both : ∀ (s : zz_S) (q : zz_S), R_M_both s = some q → zz_M G l dR y_M_both prog_14_method_30_code 1 (none) [.ref 79] zsh s (none, zsh, q)) (hR_M_compared : ∀ (s : zz_S) (q : zz_S), R_M_compared s = some q → zz_M G l dR y_M_compared prog_14_method_29_code 2 (none) [.ref 79] zsh s (none, zsh, q)) (hR_M_either : ∀ (s : zz_S) (q : zz_S), R_M_either s = some q → zz_M G l dR y_M_either prog_14_method_31_code 1 (none) [.ref 79] zsh s (none, zsh, q)) (hR_M_operand : ∀ (s : zz_S) (q : zz_S), R_M_operand s = some q → zz_M G l dR y_M_operand prog_14_method_26_code 2 (none) [.ref 79] zsh s (none, zsh, q)) (hR_M_product : ∀ (s : zz_S) (q : zz_S), R_M_product s = some q → zz_M G l dR y_M_product prog_14_method_27_code 2 (none) [.ref 79] zsh s (none, zsh, q)) (hR_M_sum : ∀ (s : zz_S) (q : zz_S), R_M_sum s = some q → zz_M G l dR y_M_sum prog_14_method_28_code 2 (none) [.ref 79] zsh s (none, zsh, q)) : ∀ (n : Nat) (s : zz_S), f_M_product_L4 R_M_both R_M_compared R_M_either R_M_operand R_M_product R_M_sum n s = some q → Z 4 [some (.ref 79), none] [] zsh s := by
  intro n
  induction n with
  | zero => intro s h; rw [f_M_product_L4] at h; cases h
  | succ n ih =>
  intro s h
  rw [f_M_product_L4] at h
  refine zz_aload_n (i := 0) (pc := 4) C rfl rfl d_M_product_4 ?_
  refine zz_getI (pc := 5) C zl_12_200 zsh_79 rfl d_M_product_5 ?_
  refine zz_if_ge (tgt := 66) (pc := 8) C (by decide) d_M_product_8 (fun hc2 => ?_) (fun hc2 => ?_)
  · rw [if_pos hc2] at h
    replace h := Option.some.inj h
    subst h
    exact zz_ret (pc := 66) C (v := none) d_M_product_66 (Or.inr (Or.inr (Or.inr ⟨rfl, rfl, rfl⟩))) rfl
  · rw [if_neg hc2] at h
    refine zz_aload_n (i := 0) (pc := 11) C rfl rfl d_M_product_11 ?_
    obtain ⟨q3, hq3, h⟩ := zz_bdE h
    refine zz_cVi (as := []) (st := []) (pc := 12) C (zm_M_look hq3) zcv_M_look zsh_79 zl_12_212 (by omega) (Nat.le_of_ble_eq_true rfl) d_M_product_12 rfl rfl ?_
    refine zz_bipush (pc := 15) C zkb_42 d_M_product_15 ?_
    refine zz_icmp_eq (tgt := 38) (pc := 17) C (by decide) d_M_product_17 (fun hc4 => ?_) (fun hc4 => ?_)
    · rw [if_pos hc4] at h
      exact zf_M_product_J38 hdR C R_M_both R_M_compared R_M_either R_M_operand R_M_product R_M_sum hR_M_both hR_M_compared hR_M_either hR_M_operand hR_M_product hR_M_sum (f_M_product_L4 R_M_both R_M_compared R_M_either R_M_operand R_M_product R_M_sum n) ih h
    · rw [if_neg hc4] at h
      refine zz_aload_n (i := 0) (pc := 20) C rfl rfl d_M_product_20 ?_
      obtain ⟨q8, hq8, h⟩ := zz_bdE h
      refine zz_cVi (as := []) (st := []) (pc := 21) C (zm_M_look hq8) zcv_M_look zsh_79 zl_12_212 (by omega) (Nat.le_of_ble_eq_true rfl) d_M_product_21 rfl rfl ?_
      refine zz_bipush (pc := 24) C zkb_47 d_M_product_24 ?_
      refine zz_icmp_eq (tgt := 38) (pc := 26) C (by decide) d_M_product_26 (fun hc9 => ?_) (fun hc9 => ?_)
      · rw [if_pos hc9] at h
        exact zf_M_product_J38 hdR C R_M_both R_M_compared R_M_either R_M_operand R_M_product R_M_sum hR_M_both hR_M_compared hR_M_either hR_M_operand hR_M_product hR_M_sum (f_M_product_L4 R_M_both R_M_compared R_M_either R_M_operand R_M_product R_M_sum n) ih h
      · rw [if_neg hc9] at h
        refine zz_aload_n (i := 0) (pc := 29) C rfl rfl d_M_product_29 ?_
        obtain ⟨q10, hq10, h⟩ := zz_bdE h
        refine zz_cVi (as := []) (st := []) (pc := 30) C (zm_M_look hq10) zcv_M_look zsh_79 zl_12_212 (by omega) (Nat.le_of_ble_eq_true rfl) d_M_product_30 rfl rfl ?_
        refine zz_bipush (pc := 33) C zkb_37 d_M_product_33 ?_
        refine zz_icmp_ne (tgt := 66) (pc := 35) C (by decide) d_M_product_35 (fun hc11 => ?_) (fun hc11 => ?_)
        · rw [if_neg hc11] at h
          replace h := Option.some.inj h
          subst h
          exact zz_ret (pc := 66) C (v := none) d_M_product_66 (Or.inr (Or.inr (Or.inr ⟨rfl, rfl, rfl⟩))) rfl
        · rw [if_pos hc11] at h
          exact zf_M_product_J38 hdR C R_M_both R_M_compared R_M_either R_M_operand R_M_product R_M_sum hR_M_both hR_M_compared hR_M_either hR_M_operand hR_M_product hR_M_sum (f_M_product_L4 R_M_both R_M_compared R_M_either R_M_operand R_M_product R_M_sum n) ih h
set_option maxHeartbeats 4000000 in
set_option maxRecDepth 100000 in
theorem zf_M_product {G : zz_G} {l : Launch} {Z : zz_Z} {dR : Nat} (hdR : 3 ≤ dR) {q : zz_S} {s : zz_S} (C : zz_Cx G l "OneBlanketModel" "product" prog_14_method_27_code 2 (none) (dR + 1) (none, zsh, q) Z) (R_M_both : zz_S → Option (zz_S)) (R_M_compared : zz_S → Option (zz_S)) (R_M_either : zz_S → Option (zz_S)) (R_M_operand : zz_S → Option (zz_S)) (R_M_product : zz_S → Option (zz_S)) (R_M_sum : zz_S → Option (zz_S)) (hR_M_both : ∀ (s : zz_S) (q : zz_S), R_M_both s = some q → zz_M G l dR y_M_both prog_14_method_30_code 1 (none) [.ref 79] zsh s (none, zsh, q)) (hR_M_compared : ∀ (s : zz_S) (q : zz_S), R_M_compared s = some q → zz_M G l dR y_M_compared prog_14_method_29_code 2 (none) [.ref 79] zsh s (none, zsh, q)) (hR_M_either : ∀ (s : zz_S) (q : zz_S), R_M_either s = some q → zz_M G l dR y_M_either prog_14_method_31_code 1 (none) [.ref 79] zsh s (none, zsh, q)) (hR_M_operand : ∀ (s : zz_S) (q : zz_S), R_M_operand s = some q → zz_M G l dR y_M_operand prog_14_method_26_code 2 (none) [.ref 79] zsh s (none, zsh, q)) (hR_M_product : ∀ (s : zz_S) (q : zz_S), R_M_product s = some q → zz_M G l dR y_M_product prog_14_method_27_code 2 (none) [.ref 79] zsh s (none, zsh, q)) (hR_M_sum : ∀ (s : zz_S) (q : zz_S), R_M_sum s = some q → zz_M G l dR y_M_sum prog_14_method_28_code 2 (none) [.ref 79] zsh s (none, zsh, q)) (h : f_M_product R_M_both R_M_compared R_M_either R_M_operand R_M_product R_M_sum s = some q) : Z 0 [some (.ref 79), none] [] zsh s := by
  unfold f_M_product at h
  refine zz_aload_n (i := 0) (pc := 0) C rfl rfl d_M_product_0 ?_
  obtain ⟨q1, hq1, h⟩ := zz_bdE h
  refine zz_cVv (as := []) (st := []) (pc := 1) C (hR_M_operand s q1 hq1) zcv_M_operand zsh_79 zl_12_228 (by omega) (Nat.le_of_ble_eq_true rfl) d_M_product_1 rfl rfl ?_
  exact zf_M_product_L4 hdR C R_M_both R_M_compared R_M_either R_M_operand R_M_product R_M_sum hR_M_both hR_M_compared hR_M_either hR_M_operand hR_M_product hR_M_sum zF q1 h
theorem d_M_sum_0 : decode prog_14_method_28_code 0 = .ok (.aload_n 0, 1) := by decide +kernel
theorem d_M_sum_1 : decode prog_14_method_28_code 1 = .ok (.invokevirtual 237, 3) := by decide +kernel
theorem d_M_sum_4 : decode prog_14_method_28_code 4 = .ok (.aload_n 0, 1) := by decide +kernel
theorem d_M_sum_5 : decode prog_14_method_28_code 5 = .ok (.getfield 200, 3) := by decide +kernel
theorem d_M_sum_8 : decode prog_14_method_28_code 8 = .ok (.ifCond .ge (49), 3) := by decide +kernel
theorem d_M_sum_11 : decode prog_14_method_28_code 11 = .ok (.aload_n 0, 1) := by decide +kernel
theorem d_M_sum_12 : decode prog_14_method_28_code 12 = .ok (.invokevirtual 212, 3) := by decide +kernel
theorem d_M_sum_15 : decode prog_14_method_28_code 15 = .ok (.bipush (43), 2) := by decide +kernel
theorem d_M_sum_17 : decode prog_14_method_28_code 17 = .ok (.if_icmp .eq (12), 3) := by decide +kernel
theorem d_M_sum_20 : decode prog_14_method_28_code 20 = .ok (.aload_n 0, 1) := by decide +kernel
theorem d_M_sum_21 : decode prog_14_method_28_code 21 = .ok (.invokevirtual 212, 3) := by decide +kernel
theorem d_M_sum_24 : decode prog_14_method_28_code 24 = .ok (.bipush (45), 2) := by decide +kernel
theorem d_M_sum_26 : decode prog_14_method_28_code 26 = .ok (.if_icmp .ne (31), 3) := by decide +kernel
theorem d_M_sum_29 : decode prog_14_method_28_code 29 = .ok (.aload_n 0, 1) := by decide +kernel
theorem d_M_sum_30 : decode prog_14_method_28_code 30 = .ok (.invokevirtual 212, 3) := by decide +kernel
theorem d_M_sum_33 : decode prog_14_method_28_code 33 = .ok (.istore_n 1, 1) := by decide +kernel
theorem d_M_sum_34 : decode prog_14_method_28_code 34 = .ok (.aload_n 0, 1) := by decide +kernel
theorem d_M_sum_35 : decode prog_14_method_28_code 35 = .ok (.dup, 1) := by decide +kernel
theorem d_M_sum_36 : decode prog_14_method_28_code 36 = .ok (.getfield 197, 3) := by decide +kernel
theorem d_M_sum_39 : decode prog_14_method_28_code 39 = .ok (.iconst 1, 1) := by decide +kernel
theorem d_M_sum_40 : decode prog_14_method_28_code 40 = .ok (.iadd, 1) := by decide +kernel
theorem d_M_sum_41 : decode prog_14_method_28_code 41 = .ok (.putfield 197, 3) := by decide +kernel
theorem d_M_sum_44 : decode prog_14_method_28_code 44 = .ok (.aload_n 0, 1) := by decide +kernel
theorem d_M_sum_45 : decode prog_14_method_28_code 45 = .ok (.invokevirtual 237, 3) := by decide +kernel
theorem d_M_sum_48 : decode prog_14_method_28_code 48 = .ok (.aload_n 0, 1) := by decide +kernel
theorem d_M_sum_49 : decode prog_14_method_28_code 49 = .ok (.iload_n 1, 1) := by decide +kernel
theorem d_M_sum_50 : decode prog_14_method_28_code 50 = .ok (.iconst 0, 1) := by decide +kernel
theorem d_M_sum_51 : decode prog_14_method_28_code 51 = .ok (.invokevirtual 216, 3) := by decide +kernel
theorem d_M_sum_54 : decode prog_14_method_28_code 54 = .ok (.goto (-50), 3) := by decide +kernel
theorem d_M_sum_57 : decode prog_14_method_28_code 57 = .ok (.return_, 1) := by decide +kernel
set_option maxHeartbeats 4000000 in
set_option maxRecDepth 100000 in
theorem zf_M_sum_J29 {G : zz_G} {l : Launch} {Z : zz_Z} {dR : Nat} (hdR : 3 ≤ dR) {q : zz_S} {s : zz_S} (C : zz_Cx G l "OneBlanketModel" "sum" prog_14_method_28_code 2 (none) (dR + 1) (none, zsh, q) Z) (R_M_both : zz_S → Option (zz_S)) (R_M_compared : zz_S → Option (zz_S)) (R_M_either : zz_S → Option (zz_S)) (R_M_operand : zz_S → Option (zz_S)) (R_M_product : zz_S → Option (zz_S)) (R_M_sum : zz_S → Option (zz_S)) (hR_M_both : ∀ (s : zz_S) (q : zz_S), R_M_both s = some q → zz_M G l dR y_M_both prog_14_method_30_code 1 (none) [.ref 79] zsh s (none, zsh, q)) (hR_M_compared : ∀ (s : zz_S) (q : zz_S), R_M_compared s = some q → zz_M G l dR y_M_compared prog_14_method_29_code 2 (none) [.ref 79] zsh s (none, zsh, q)) (hR_M_either : ∀ (s : zz_S) (q : zz_S), R_M_either s = some q → zz_M G l dR y_M_either prog_14_method_31_code 1 (none) [.ref 79] zsh s (none, zsh, q)) (hR_M_operand : ∀ (s : zz_S) (q : zz_S), R_M_operand s = some q → zz_M G l dR y_M_operand prog_14_method_26_code 2 (none) [.ref 79] zsh s (none, zsh, q)) (hR_M_product : ∀ (s : zz_S) (q : zz_S), R_M_product s = some q → zz_M G l dR y_M_product prog_14_method_27_code 2 (none) [.ref 79] zsh s (none, zsh, q)) (hR_M_sum : ∀ (s : zz_S) (q : zz_S), R_M_sum s = some q → zz_M G l dR y_M_sum prog_14_method_28_code 2 (none) [.ref 79] zsh s (none, zsh, q)) (K4 : zz_S → Option (zz_S)) (hK4 : ∀ (s : zz_S), K4 s = some q → Z 4 [some (.ref 79), none] [] zsh s) (h : f_M_sum_J29 R_M_both R_M_compared R_M_either R_M_operand R_M_product R_M_sum K4 s = some q) : Z 29 [some (.ref 79), none] [] zsh s := by
  unfold f_M_sum_J29 at h
  refine zz_aload_n (i := 0) (pc := 29) C rfl rfl d_M_sum_29 ?_
  obtain ⟨q5, hq5, h⟩ := zz_bdE h
  refine zz_cVi (as := []) (st := []) (pc := 30) C (zm_M_look hq5) zcv_M_look zsh_79 zl_12_212 (by omega) (Nat.le_of_ble_eq_true rfl) d_M_sum_30 rfl rfl ?_
  refine zz_istore_n (i := 1) (lo' := [some (.ref 79), some (.int q5)]) (pc := 33) C rfl (Nat.le_of_ble_eq_true rfl) rfl rfl d_M_sum_33 ?_
  refine zz_aload_n (i := 0) (pc := 34) C rfl rfl d_M_sum_34 ?_
  refine zz_dup (pc := 35) C rfl d_M_sum_35 ?_
  refine zz_getI (pc := 36) C zl_12_197 zsh_79 rfl d_M_sum_36 ?_
  refine zz_iconst (pc := 39) C zki_1 d_M_sum_39 ?_
  refine zz_iadd (pc := 40) C d_M_sum_40 ?_
  refine zz_putI' (pc := 41) C zl_12_197 zpf_12_24 zsh_79 rfl d_M_sum_41 ?_
  refine zz_aload_n (i := 0) (pc := 44) C rfl rfl d_M_sum_44 ?_
  obtain ⟨q6, hq6, h⟩ := zz_bdE h
  refine zz_cVv (as := []) (st := []) (pc := 45) C (hR_M_product (zz_w s 79 24 ((s.1 79 24) + (1 : Int32))) q6 hq6) zcv_M_product zsh_79 zl_12_237 (by omega) (Nat.le_of_ble_eq_true rfl) d_M_sum_45 rfl rfl ?_
  refine zz_aload_n (i := 0) (pc := 48) C rfl rfl d_M_sum_48 ?_
  refine zz_iload_n (i := 1) (pc := 49) C rfl rfl d_M_sum_49 ?_
  refine zz_iconst (pc := 50) C zki_0 d_M_sum_50 ?_
  obtain ⟨q7, hq7, h⟩ := zz_bdE h
  refine zz_cVv (as := [.int q5, .int (0 : Int32)]) (st := []) (pc := 51) C (zm_M_addStep hq7) zcv_M_addStep zsh_79 zl_12_216 (by omega) (Nat.le_of_ble_eq_true rfl) d_M_sum_51 rfl rfl ?_
  refine zz_goto (tgt := 4) (pc := 54) C (by decide) d_M_sum_54 ?_
  refine zz_fg C [true, false] rfl rfl ?_
  exact hK4 q7 h
set_option maxHeartbeats 4000000 in
set_option maxRecDepth 100000 in
theorem zf_M_sum_L4 {G : zz_G} {l : Launch} {Z : zz_Z} {dR : Nat} (hdR : 3 ≤ dR) {q : zz_S} (C : zz_Cx G l "OneBlanketModel" "sum" prog_14_method_28_code 2 (none) (dR + 1) (none, zsh, q) Z) (R_M_both : zz_S → Option (zz_S)) (R_M_compared : zz_S → Option (zz_S)) (R_M_either : zz_S → Option (zz_S)) (R_M_operand : zz_S → Option (zz_S)) (R_M_product : zz_S → Option (zz_S)) (R_M_sum : zz_S → Option (zz_S)) (hR_M_both : ∀ (s : zz_S) (q : zz_S), R_M_both s = some q → zz_M G l dR y_M_both prog_14_method_30_code 1 (none) [.ref 79] zsh s (none, zsh, q)) (hR_M_compared : ∀ (s : zz_S) (q : zz_S), R_M_compared s = some q → zz_M G l dR y_M_compared prog_14_method_29_code 2 (none) [.ref 79] zsh s (none, zsh, q)) (hR_M_either : ∀ (s : zz_S) (q : zz_S), R_M_either s = some q → zz_M G l dR y_M_either prog_14_method_31_code 1 (none) [.ref 79] zsh s (none, zsh, q)) (hR_M_operand : ∀ (s : zz_S) (q : zz_S), R_M_operand s = some q → zz_M G l dR y_M_operand prog_14_method_26_code 2 (none) [.ref 79] zsh s (none, zsh, q)) (hR_M_product : ∀ (s : zz_S) (q : zz_S), R_M_product s = some q → zz_M G l dR y_M_product prog_14_method_27_code 2 (none) [.ref 79] zsh s (none, zsh, q)) (hR_M_sum : ∀ (s : zz_S) (q : zz_S), R_M_sum s = some q → zz_M G l dR y_M_sum prog_14_method_28_code 2 (none) [.ref 79] zsh s (none, zsh, q)) : ∀ (n : Nat) (s : zz_S), f_M_sum_L4 R_M_both R_M_compared R_M_either R_M_operand R_M_product R_M_sum n s = some q → Z 4 [some (.ref 79), none] [] zsh s := by
  intro n
  induction n with
  | zero => intro s h; rw [f_M_sum_L4] at h; cases h
  | succ n ih =>
  intro s h
  rw [f_M_sum_L4] at h
  refine zz_aload_n (i := 0) (pc := 4) C rfl rfl d_M_sum_4 ?_
  refine zz_getI (pc := 5) C zl_12_200 zsh_79 rfl d_M_sum_5 ?_
  refine zz_if_ge (tgt := 57) (pc := 8) C (by decide) d_M_sum_8 (fun hc2 => ?_) (fun hc2 => ?_)
  · rw [if_pos hc2] at h
    replace h := Option.some.inj h
    subst h
    exact zz_ret (pc := 57) C (v := none) d_M_sum_57 (Or.inr (Or.inr (Or.inr ⟨rfl, rfl, rfl⟩))) rfl
  · rw [if_neg hc2] at h
    refine zz_aload_n (i := 0) (pc := 11) C rfl rfl d_M_sum_11 ?_
    obtain ⟨q3, hq3, h⟩ := zz_bdE h
    refine zz_cVi (as := []) (st := []) (pc := 12) C (zm_M_look hq3) zcv_M_look zsh_79 zl_12_212 (by omega) (Nat.le_of_ble_eq_true rfl) d_M_sum_12 rfl rfl ?_
    refine zz_bipush (pc := 15) C zkb_43 d_M_sum_15 ?_
    refine zz_icmp_eq (tgt := 29) (pc := 17) C (by decide) d_M_sum_17 (fun hc4 => ?_) (fun hc4 => ?_)
    · rw [if_pos hc4] at h
      exact zf_M_sum_J29 hdR C R_M_both R_M_compared R_M_either R_M_operand R_M_product R_M_sum hR_M_both hR_M_compared hR_M_either hR_M_operand hR_M_product hR_M_sum (f_M_sum_L4 R_M_both R_M_compared R_M_either R_M_operand R_M_product R_M_sum n) ih h
    · rw [if_neg hc4] at h
      refine zz_aload_n (i := 0) (pc := 20) C rfl rfl d_M_sum_20 ?_
      obtain ⟨q8, hq8, h⟩ := zz_bdE h
      refine zz_cVi (as := []) (st := []) (pc := 21) C (zm_M_look hq8) zcv_M_look zsh_79 zl_12_212 (by omega) (Nat.le_of_ble_eq_true rfl) d_M_sum_21 rfl rfl ?_
      refine zz_bipush (pc := 24) C zkb_45 d_M_sum_24 ?_
      refine zz_icmp_ne (tgt := 57) (pc := 26) C (by decide) d_M_sum_26 (fun hc9 => ?_) (fun hc9 => ?_)
      · rw [if_neg hc9] at h
        replace h := Option.some.inj h
        subst h
        exact zz_ret (pc := 57) C (v := none) d_M_sum_57 (Or.inr (Or.inr (Or.inr ⟨rfl, rfl, rfl⟩))) rfl
      · rw [if_pos hc9] at h
        exact zf_M_sum_J29 hdR C R_M_both R_M_compared R_M_either R_M_operand R_M_product R_M_sum hR_M_both hR_M_compared hR_M_either hR_M_operand hR_M_product hR_M_sum (f_M_sum_L4 R_M_both R_M_compared R_M_either R_M_operand R_M_product R_M_sum n) ih h
set_option maxHeartbeats 4000000 in
set_option maxRecDepth 100000 in
theorem zf_M_sum {G : zz_G} {l : Launch} {Z : zz_Z} {dR : Nat} (hdR : 3 ≤ dR) {q : zz_S} {s : zz_S} (C : zz_Cx G l "OneBlanketModel" "sum" prog_14_method_28_code 2 (none) (dR + 1) (none, zsh, q) Z) (R_M_both : zz_S → Option (zz_S)) (R_M_compared : zz_S → Option (zz_S)) (R_M_either : zz_S → Option (zz_S)) (R_M_operand : zz_S → Option (zz_S)) (R_M_product : zz_S → Option (zz_S)) (R_M_sum : zz_S → Option (zz_S)) (hR_M_both : ∀ (s : zz_S) (q : zz_S), R_M_both s = some q → zz_M G l dR y_M_both prog_14_method_30_code 1 (none) [.ref 79] zsh s (none, zsh, q)) (hR_M_compared : ∀ (s : zz_S) (q : zz_S), R_M_compared s = some q → zz_M G l dR y_M_compared prog_14_method_29_code 2 (none) [.ref 79] zsh s (none, zsh, q)) (hR_M_either : ∀ (s : zz_S) (q : zz_S), R_M_either s = some q → zz_M G l dR y_M_either prog_14_method_31_code 1 (none) [.ref 79] zsh s (none, zsh, q)) (hR_M_operand : ∀ (s : zz_S) (q : zz_S), R_M_operand s = some q → zz_M G l dR y_M_operand prog_14_method_26_code 2 (none) [.ref 79] zsh s (none, zsh, q)) (hR_M_product : ∀ (s : zz_S) (q : zz_S), R_M_product s = some q → zz_M G l dR y_M_product prog_14_method_27_code 2 (none) [.ref 79] zsh s (none, zsh, q)) (hR_M_sum : ∀ (s : zz_S) (q : zz_S), R_M_sum s = some q → zz_M G l dR y_M_sum prog_14_method_28_code 2 (none) [.ref 79] zsh s (none, zsh, q)) (h : f_M_sum R_M_both R_M_compared R_M_either R_M_operand R_M_product R_M_sum s = some q) : Z 0 [some (.ref 79), none] [] zsh s := by
  unfold f_M_sum at h
  refine zz_aload_n (i := 0) (pc := 0) C rfl rfl d_M_sum_0 ?_
  obtain ⟨q1, hq1, h⟩ := zz_bdE h
  refine zz_cVv (as := []) (st := []) (pc := 1) C (hR_M_product s q1 hq1) zcv_M_product zsh_79 zl_12_237 (by omega) (Nat.le_of_ble_eq_true rfl) d_M_sum_1 rfl rfl ?_
  exact zf_M_sum_L4 hdR C R_M_both R_M_compared R_M_either R_M_operand R_M_product R_M_sum hR_M_both hR_M_compared hR_M_either hR_M_operand hR_M_product hR_M_sum zF q1 h
theorem d_M_compared_0 : decode prog_14_method_29_code 0 = .ok (.aload_n 0, 1) := by decide +kernel
theorem d_M_compared_1 : decode prog_14_method_29_code 1 = .ok (.invokevirtual 240, 3) := by decide +kernel
theorem d_M_compared_4 : decode prog_14_method_29_code 4 = .ok (.aload_n 0, 1) := by decide +kernel
theorem d_M_compared_5 : decode prog_14_method_29_code 5 = .ok (.invokevirtual 212, 3) := by decide +kernel
theorem d_M_compared_8 : decode prog_14_method_29_code 8 = .ok (.istore_n 1, 1) := by decide +kernel
theorem d_M_compared_9 : decode prog_14_method_29_code 9 = .ok (.aload_n 0, 1) := by decide +kernel
theorem d_M_compared_10 : decode prog_14_method_29_code 10 = .ok (.getfield 200, 3) := by decide +kernel
theorem d_M_compared_13 : decode prog_14_method_29_code 13 = .ok (.ifCond .ge (21), 3) := by decide +kernel
theorem d_M_compared_16 : decode prog_14_method_29_code 16 = .ok (.iload_n 1, 1) := by decide +kernel
theorem d_M_compared_17 : decode prog_14_method_29_code 17 = .ok (.bipush (60), 2) := by decide +kernel
theorem d_M_compared_19 : decode prog_14_method_29_code 19 = .ok (.if_icmp .eq (16), 3) := by decide +kernel
theorem d_M_compared_22 : decode prog_14_method_29_code 22 = .ok (.iload_n 1, 1) := by decide +kernel
theorem d_M_compared_23 : decode prog_14_method_29_code 23 = .ok (.bipush (61), 2) := by decide +kernel
theorem d_M_compared_25 : decode prog_14_method_29_code 25 = .ok (.if_icmp .eq (10), 3) := by decide +kernel
theorem d_M_compared_28 : decode prog_14_method_29_code 28 = .ok (.iload_n 1, 1) := by decide +kernel
theorem d_M_compared_29 : decode prog_14_method_29_code 29 = .ok (.bipush (62), 2) := by decide +kernel
theorem d_M_compared_31 : decode prog_14_method_29_code 31 = .ok (.if_icmp .eq (4), 3) := by decide +kernel
theorem d_M_compared_34 : decode prog_14_method_29_code 34 = .ok (.return_, 1) := by decide +kernel
theorem d_M_compared_35 : decode prog_14_method_29_code 35 = .ok (.aload_n 0, 1) := by decide +kernel
theorem d_M_compared_36 : decode prog_14_method_29_code 36 = .ok (.dup, 1) := by decide +kernel
theorem d_M_compared_37 : decode prog_14_method_29_code 37 = .ok (.getfield 197, 3) := by decide +kernel
theorem d_M_compared_40 : decode prog_14_method_29_code 40 = .ok (.iconst 1, 1) := by decide +kernel
theorem d_M_compared_41 : decode prog_14_method_29_code 41 = .ok (.iadd, 1) := by decide +kernel
theorem d_M_compared_42 : decode prog_14_method_29_code 42 = .ok (.putfield 197, 3) := by decide +kernel
theorem d_M_compared_45 : decode prog_14_method_29_code 45 = .ok (.aload_n 0, 1) := by decide +kernel
theorem d_M_compared_46 : decode prog_14_method_29_code 46 = .ok (.invokevirtual 240, 3) := by decide +kernel
theorem d_M_compared_49 : decode prog_14_method_29_code 49 = .ok (.aload_n 0, 1) := by decide +kernel
theorem d_M_compared_50 : decode prog_14_method_29_code 50 = .ok (.iload_n 1, 1) := by decide +kernel
theorem d_M_compared_51 : decode prog_14_method_29_code 51 = .ok (.iconst 0, 1) := by decide +kernel
theorem d_M_compared_52 : decode prog_14_method_29_code 52 = .ok (.invokevirtual 216, 3) := by decide +kernel
theorem d_M_compared_55 : decode prog_14_method_29_code 55 = .ok (.return_, 1) := by decide +kernel
set_option maxHeartbeats 4000000 in
set_option maxRecDepth 100000 in
theorem zf_M_compared_J35 {G : zz_G} {l : Launch} {Z : zz_Z} {dR : Nat} (hdR : 3 ≤ dR) {q : zz_S} {s : zz_S} (C : zz_Cx G l "OneBlanketModel" "compared" prog_14_method_29_code 2 (none) (dR + 1) (none, zsh, q) Z) (R_M_both : zz_S → Option (zz_S)) (R_M_compared : zz_S → Option (zz_S)) (R_M_either : zz_S → Option (zz_S)) (R_M_operand : zz_S → Option (zz_S)) (R_M_product : zz_S → Option (zz_S)) (R_M_sum : zz_S → Option (zz_S)) (hR_M_both : ∀ (s : zz_S) (q : zz_S), R_M_both s = some q → zz_M G l dR y_M_both prog_14_method_30_code 1 (none) [.ref 79] zsh s (none, zsh, q)) (hR_M_compared : ∀ (s : zz_S) (q : zz_S), R_M_compared s = some q → zz_M G l dR y_M_compared prog_14_method_29_code 2 (none) [.ref 79] zsh s (none, zsh, q)) (hR_M_either : ∀ (s : zz_S) (q : zz_S), R_M_either s = some q → zz_M G l dR y_M_either prog_14_method_31_code 1 (none) [.ref 79] zsh s (none, zsh, q)) (hR_M_operand : ∀ (s : zz_S) (q : zz_S), R_M_operand s = some q → zz_M G l dR y_M_operand prog_14_method_26_code 2 (none) [.ref 79] zsh s (none, zsh, q)) (hR_M_product : ∀ (s : zz_S) (q : zz_S), R_M_product s = some q → zz_M G l dR y_M_product prog_14_method_27_code 2 (none) [.ref 79] zsh s (none, zsh, q)) (hR_M_sum : ∀ (s : zz_S) (q : zz_S), R_M_sum s = some q → zz_M G l dR y_M_sum prog_14_method_28_code 2 (none) [.ref 79] zsh s (none, zsh, q)) (v1 : Int32) (h : f_M_compared_J35 R_M_both R_M_compared R_M_either R_M_operand R_M_product R_M_sum v1 s = some q) : Z 35 [some (.ref 79), some (.int v1)] [] zsh s := by
  unfold f_M_compared_J35 at h
  refine zz_aload_n (i := 0) (pc := 35) C rfl rfl d_M_compared_35 ?_
  refine zz_dup (pc := 36) C rfl d_M_compared_36 ?_
  refine zz_getI (pc := 37) C zl_12_197 zsh_79 rfl d_M_compared_37 ?_
  refine zz_iconst (pc := 40) C zki_1 d_M_compared_40 ?_
  refine zz_iadd (pc := 41) C d_M_compared_41 ?_
  refine zz_putI' (pc := 42) C zl_12_197 zpf_12_24 zsh_79 rfl d_M_compared_42 ?_
  refine zz_aload_n (i := 0) (pc := 45) C rfl rfl d_M_compared_45 ?_
  obtain ⟨q5, hq5, h⟩ := zz_bdE h
  refine zz_cVv (as := []) (st := []) (pc := 46) C (hR_M_sum (zz_w s 79 24 ((s.1 79 24) + (1 : Int32))) q5 hq5) zcv_M_sum zsh_79 zl_12_240 (by omega) (Nat.le_of_ble_eq_true rfl) d_M_compared_46 rfl rfl ?_
  refine zz_aload_n (i := 0) (pc := 49) C rfl rfl d_M_compared_49 ?_
  refine zz_iload_n (i := 1) (pc := 50) C rfl rfl d_M_compared_50 ?_
  refine zz_iconst (pc := 51) C zki_0 d_M_compared_51 ?_
  obtain ⟨q6, hq6, h⟩ := zz_bdE h
  refine zz_cVv (as := [.int v1, .int (0 : Int32)]) (st := []) (pc := 52) C (zm_M_addStep hq6) zcv_M_addStep zsh_79 zl_12_216 (by omega) (Nat.le_of_ble_eq_true rfl) d_M_compared_52 rfl rfl ?_
  replace h := Option.some.inj h
  subst h
  exact zz_ret (pc := 55) C (v := none) d_M_compared_55 (Or.inr (Or.inr (Or.inr ⟨rfl, rfl, rfl⟩))) rfl
set_option maxHeartbeats 4000000 in
set_option maxRecDepth 100000 in
theorem zf_M_compared {G : zz_G} {l : Launch} {Z : zz_Z} {dR : Nat} (hdR : 3 ≤ dR) {q : zz_S} {s : zz_S} (C : zz_Cx G l "OneBlanketModel" "compared" prog_14_method_29_code 2 (none) (dR + 1) (none, zsh, q) Z) (R_M_both : zz_S → Option (zz_S)) (R_M_compared : zz_S → Option (zz_S)) (R_M_either : zz_S → Option (zz_S)) (R_M_operand : zz_S → Option (zz_S)) (R_M_product : zz_S → Option (zz_S)) (R_M_sum : zz_S → Option (zz_S)) (hR_M_both : ∀ (s : zz_S) (q : zz_S), R_M_both s = some q → zz_M G l dR y_M_both prog_14_method_30_code 1 (none) [.ref 79] zsh s (none, zsh, q)) (hR_M_compared : ∀ (s : zz_S) (q : zz_S), R_M_compared s = some q → zz_M G l dR y_M_compared prog_14_method_29_code 2 (none) [.ref 79] zsh s (none, zsh, q)) (hR_M_either : ∀ (s : zz_S) (q : zz_S), R_M_either s = some q → zz_M G l dR y_M_either prog_14_method_31_code 1 (none) [.ref 79] zsh s (none, zsh, q)) (hR_M_operand : ∀ (s : zz_S) (q : zz_S), R_M_operand s = some q → zz_M G l dR y_M_operand prog_14_method_26_code 2 (none) [.ref 79] zsh s (none, zsh, q)) (hR_M_product : ∀ (s : zz_S) (q : zz_S), R_M_product s = some q → zz_M G l dR y_M_product prog_14_method_27_code 2 (none) [.ref 79] zsh s (none, zsh, q)) (hR_M_sum : ∀ (s : zz_S) (q : zz_S), R_M_sum s = some q → zz_M G l dR y_M_sum prog_14_method_28_code 2 (none) [.ref 79] zsh s (none, zsh, q)) (h : f_M_compared R_M_both R_M_compared R_M_either R_M_operand R_M_product R_M_sum s = some q) : Z 0 [some (.ref 79), none] [] zsh s := by
  unfold f_M_compared at h
  refine zz_aload_n (i := 0) (pc := 0) C rfl rfl d_M_compared_0 ?_
  obtain ⟨q1, hq1, h⟩ := zz_bdE h
  refine zz_cVv (as := []) (st := []) (pc := 1) C (hR_M_sum s q1 hq1) zcv_M_sum zsh_79 zl_12_240 (by omega) (Nat.le_of_ble_eq_true rfl) d_M_compared_1 rfl rfl ?_
  refine zz_aload_n (i := 0) (pc := 4) C rfl rfl d_M_compared_4 ?_
  obtain ⟨q2, hq2, h⟩ := zz_bdE h
  refine zz_cVi (as := []) (st := []) (pc := 5) C (zm_M_look hq2) zcv_M_look zsh_79 zl_12_212 (by omega) (Nat.le_of_ble_eq_true rfl) d_M_compared_5 rfl rfl ?_
  refine zz_istore_n (i := 1) (lo' := [some (.ref 79), some (.int q2)]) (pc := 8) C rfl (Nat.le_of_ble_eq_true rfl) rfl rfl d_M_compared_8 ?_
  refine zz_aload_n (i := 0) (pc := 9) C rfl rfl d_M_compared_9 ?_
  refine zz_getI (pc := 10) C zl_12_200 zsh_79 rfl d_M_compared_10 ?_
  refine zz_if_ge (tgt := 34) (pc := 13) C (by decide) d_M_compared_13 (fun hc3 => ?_) (fun hc3 => ?_)
  · rw [if_pos hc3] at h
    replace h := Option.some.inj h
    subst h
    exact zz_ret (pc := 34) C (v := none) d_M_compared_34 (Or.inr (Or.inr (Or.inr ⟨rfl, rfl, rfl⟩))) rfl
  · rw [if_neg hc3] at h
    refine zz_iload_n (i := 1) (pc := 16) C rfl rfl d_M_compared_16 ?_
    refine zz_bipush (pc := 17) C zkb_60 d_M_compared_17 ?_
    refine zz_icmp_eq (tgt := 35) (pc := 19) C (by decide) d_M_compared_19 (fun hc4 => ?_) (fun hc4 => ?_)
    · rw [if_pos hc4] at h
      exact zf_M_compared_J35 hdR C R_M_both R_M_compared R_M_either R_M_operand R_M_product R_M_sum hR_M_both hR_M_compared hR_M_either hR_M_operand hR_M_product hR_M_sum q2 h
    · rw [if_neg hc4] at h
      refine zz_iload_n (i := 1) (pc := 22) C rfl rfl d_M_compared_22 ?_
      refine zz_bipush (pc := 23) C zkb_61 d_M_compared_23 ?_
      refine zz_icmp_eq (tgt := 35) (pc := 25) C (by decide) d_M_compared_25 (fun hc7 => ?_) (fun hc7 => ?_)
      · rw [if_pos hc7] at h
        exact zf_M_compared_J35 hdR C R_M_both R_M_compared R_M_either R_M_operand R_M_product R_M_sum hR_M_both hR_M_compared hR_M_either hR_M_operand hR_M_product hR_M_sum q2 h
      · rw [if_neg hc7] at h
        refine zz_iload_n (i := 1) (pc := 28) C rfl rfl d_M_compared_28 ?_
        refine zz_bipush (pc := 29) C zkb_62 d_M_compared_29 ?_
        refine zz_icmp_eq (tgt := 35) (pc := 31) C (by decide) d_M_compared_31 (fun hc8 => ?_) (fun hc8 => ?_)
        · rw [if_pos hc8] at h
          exact zf_M_compared_J35 hdR C R_M_both R_M_compared R_M_either R_M_operand R_M_product R_M_sum hR_M_both hR_M_compared hR_M_either hR_M_operand hR_M_product hR_M_sum q2 h
        · rw [if_neg hc8] at h
          replace h := Option.some.inj h
          subst h
          exact zz_ret (pc := 34) C (v := none) d_M_compared_34 (Or.inr (Or.inr (Or.inr ⟨rfl, rfl, rfl⟩))) rfl
theorem d_M_both_0 : decode prog_14_method_30_code 0 = .ok (.aload_n 0, 1) := by decide +kernel
theorem d_M_both_1 : decode prog_14_method_30_code 1 = .ok (.invokevirtual 243, 3) := by decide +kernel
theorem d_M_both_4 : decode prog_14_method_30_code 4 = .ok (.aload_n 0, 1) := by decide +kernel
theorem d_M_both_5 : decode prog_14_method_30_code 5 = .ok (.getfield 200, 3) := by decide +kernel
theorem d_M_both_8 : decode prog_14_method_30_code 8 = .ok (.ifCond .ge (36), 3) := by decide +kernel
theorem d_M_both_11 : decode prog_14_method_30_code 11 = .ok (.aload_n 0, 1) := by decide +kernel
theorem d_M_both_12 : decode prog_14_method_30_code 12 = .ok (.invokevirtual 212, 3) := by decide +kernel
theorem d_M_both_15 : decode prog_14_method_30_code 15 = .ok (.bipush (38), 2) := by decide +kernel
theorem d_M_both_17 : decode prog_14_method_30_code 17 = .ok (.if_icmp .ne (27), 3) := by decide +kernel
theorem d_M_both_20 : decode prog_14_method_30_code 20 = .ok (.aload_n 0, 1) := by decide +kernel
theorem d_M_both_21 : decode prog_14_method_30_code 21 = .ok (.dup, 1) := by decide +kernel
theorem d_M_both_22 : decode prog_14_method_30_code 22 = .ok (.getfield 197, 3) := by decide +kernel
theorem d_M_both_25 : decode prog_14_method_30_code 25 = .ok (.iconst 1, 1) := by decide +kernel
theorem d_M_both_26 : decode prog_14_method_30_code 26 = .ok (.iadd, 1) := by decide +kernel
theorem d_M_both_27 : decode prog_14_method_30_code 27 = .ok (.putfield 197, 3) := by decide +kernel
theorem d_M_both_30 : decode prog_14_method_30_code 30 = .ok (.aload_n 0, 1) := by decide +kernel
theorem d_M_both_31 : decode prog_14_method_30_code 31 = .ok (.invokevirtual 243, 3) := by decide +kernel
theorem d_M_both_34 : decode prog_14_method_30_code 34 = .ok (.aload_n 0, 1) := by decide +kernel
theorem d_M_both_35 : decode prog_14_method_30_code 35 = .ok (.bipush (38), 2) := by decide +kernel
theorem d_M_both_37 : decode prog_14_method_30_code 37 = .ok (.iconst 0, 1) := by decide +kernel
theorem d_M_both_38 : decode prog_14_method_30_code 38 = .ok (.invokevirtual 216, 3) := by decide +kernel
theorem d_M_both_41 : decode prog_14_method_30_code 41 = .ok (.goto (-37), 3) := by decide +kernel
theorem d_M_both_44 : decode prog_14_method_30_code 44 = .ok (.return_, 1) := by decide +kernel
set_option maxHeartbeats 4000000 in
set_option maxRecDepth 100000 in
theorem zf_M_both_L4 {G : zz_G} {l : Launch} {Z : zz_Z} {dR : Nat} (hdR : 3 ≤ dR) {q : zz_S} (C : zz_Cx G l "OneBlanketModel" "both" prog_14_method_30_code 1 (none) (dR + 1) (none, zsh, q) Z) (R_M_both : zz_S → Option (zz_S)) (R_M_compared : zz_S → Option (zz_S)) (R_M_either : zz_S → Option (zz_S)) (R_M_operand : zz_S → Option (zz_S)) (R_M_product : zz_S → Option (zz_S)) (R_M_sum : zz_S → Option (zz_S)) (hR_M_both : ∀ (s : zz_S) (q : zz_S), R_M_both s = some q → zz_M G l dR y_M_both prog_14_method_30_code 1 (none) [.ref 79] zsh s (none, zsh, q)) (hR_M_compared : ∀ (s : zz_S) (q : zz_S), R_M_compared s = some q → zz_M G l dR y_M_compared prog_14_method_29_code 2 (none) [.ref 79] zsh s (none, zsh, q)) (hR_M_either : ∀ (s : zz_S) (q : zz_S), R_M_either s = some q → zz_M G l dR y_M_either prog_14_method_31_code 1 (none) [.ref 79] zsh s (none, zsh, q)) (hR_M_operand : ∀ (s : zz_S) (q : zz_S), R_M_operand s = some q → zz_M G l dR y_M_operand prog_14_method_26_code 2 (none) [.ref 79] zsh s (none, zsh, q)) (hR_M_product : ∀ (s : zz_S) (q : zz_S), R_M_product s = some q → zz_M G l dR y_M_product prog_14_method_27_code 2 (none) [.ref 79] zsh s (none, zsh, q)) (hR_M_sum : ∀ (s : zz_S) (q : zz_S), R_M_sum s = some q → zz_M G l dR y_M_sum prog_14_method_28_code 2 (none) [.ref 79] zsh s (none, zsh, q)) : ∀ (n : Nat) (s : zz_S), f_M_both_L4 R_M_both R_M_compared R_M_either R_M_operand R_M_product R_M_sum n s = some q → Z 4 [some (.ref 79)] [] zsh s := by
  intro n
  induction n with
  | zero => intro s h; rw [f_M_both_L4] at h; cases h
  | succ n ih =>
  intro s h
  rw [f_M_both_L4] at h
  refine zz_aload_n (i := 0) (pc := 4) C rfl rfl d_M_both_4 ?_
  refine zz_getI (pc := 5) C zl_12_200 zsh_79 rfl d_M_both_5 ?_
  refine zz_if_ge (tgt := 44) (pc := 8) C (by decide) d_M_both_8 (fun hc2 => ?_) (fun hc2 => ?_)
  · rw [if_pos hc2] at h
    replace h := Option.some.inj h
    subst h
    exact zz_ret (pc := 44) C (v := none) d_M_both_44 (Or.inr (Or.inr (Or.inr ⟨rfl, rfl, rfl⟩))) rfl
  · rw [if_neg hc2] at h
    refine zz_aload_n (i := 0) (pc := 11) C rfl rfl d_M_both_11 ?_
    obtain ⟨q3, hq3, h⟩ := zz_bdE h
    refine zz_cVi (as := []) (st := []) (pc := 12) C (zm_M_look hq3) zcv_M_look zsh_79 zl_12_212 (by omega) (Nat.le_of_ble_eq_true rfl) d_M_both_12 rfl rfl ?_
    refine zz_bipush (pc := 15) C zkb_38 d_M_both_15 ?_
    refine zz_icmp_ne (tgt := 44) (pc := 17) C (by decide) d_M_both_17 (fun hc4 => ?_) (fun hc4 => ?_)
    · rw [if_neg hc4] at h
      replace h := Option.some.inj h
      subst h
      exact zz_ret (pc := 44) C (v := none) d_M_both_44 (Or.inr (Or.inr (Or.inr ⟨rfl, rfl, rfl⟩))) rfl
    · rw [if_pos hc4] at h
      refine zz_aload_n (i := 0) (pc := 20) C rfl rfl d_M_both_20 ?_
      refine zz_dup (pc := 21) C rfl d_M_both_21 ?_
      refine zz_getI (pc := 22) C zl_12_197 zsh_79 rfl d_M_both_22 ?_
      refine zz_iconst (pc := 25) C zki_1 d_M_both_25 ?_
      refine zz_iadd (pc := 26) C d_M_both_26 ?_
      refine zz_putI' (pc := 27) C zl_12_197 zpf_12_24 zsh_79 rfl d_M_both_27 ?_
      refine zz_aload_n (i := 0) (pc := 30) C rfl rfl d_M_both_30 ?_
      obtain ⟨q5, hq5, h⟩ := zz_bdE h
      refine zz_cVv (as := []) (st := []) (pc := 31) C (hR_M_compared (zz_w s 79 24 ((s.1 79 24) + (1 : Int32))) q5 hq5) zcv_M_compared zsh_79 zl_12_243 (by omega) (Nat.le_of_ble_eq_true rfl) d_M_both_31 rfl rfl ?_
      refine zz_aload_n (i := 0) (pc := 34) C rfl rfl d_M_both_34 ?_
      refine zz_bipush (pc := 35) C zkb_38 d_M_both_35 ?_
      refine zz_iconst (pc := 37) C zki_0 d_M_both_37 ?_
      obtain ⟨q6, hq6, h⟩ := zz_bdE h
      refine zz_cVv (as := [.int (38 : Int32), .int (0 : Int32)]) (st := []) (pc := 38) C (zm_M_addStep hq6) zcv_M_addStep zsh_79 zl_12_216 (by omega) (Nat.le_of_ble_eq_true rfl) d_M_both_38 rfl rfl ?_
      refine zz_goto (tgt := 4) (pc := 41) C (by decide) d_M_both_41 ?_
      exact ih q6 h
set_option maxHeartbeats 4000000 in
set_option maxRecDepth 100000 in
theorem zf_M_both {G : zz_G} {l : Launch} {Z : zz_Z} {dR : Nat} (hdR : 3 ≤ dR) {q : zz_S} {s : zz_S} (C : zz_Cx G l "OneBlanketModel" "both" prog_14_method_30_code 1 (none) (dR + 1) (none, zsh, q) Z) (R_M_both : zz_S → Option (zz_S)) (R_M_compared : zz_S → Option (zz_S)) (R_M_either : zz_S → Option (zz_S)) (R_M_operand : zz_S → Option (zz_S)) (R_M_product : zz_S → Option (zz_S)) (R_M_sum : zz_S → Option (zz_S)) (hR_M_both : ∀ (s : zz_S) (q : zz_S), R_M_both s = some q → zz_M G l dR y_M_both prog_14_method_30_code 1 (none) [.ref 79] zsh s (none, zsh, q)) (hR_M_compared : ∀ (s : zz_S) (q : zz_S), R_M_compared s = some q → zz_M G l dR y_M_compared prog_14_method_29_code 2 (none) [.ref 79] zsh s (none, zsh, q)) (hR_M_either : ∀ (s : zz_S) (q : zz_S), R_M_either s = some q → zz_M G l dR y_M_either prog_14_method_31_code 1 (none) [.ref 79] zsh s (none, zsh, q)) (hR_M_operand : ∀ (s : zz_S) (q : zz_S), R_M_operand s = some q → zz_M G l dR y_M_operand prog_14_method_26_code 2 (none) [.ref 79] zsh s (none, zsh, q)) (hR_M_product : ∀ (s : zz_S) (q : zz_S), R_M_product s = some q → zz_M G l dR y_M_product prog_14_method_27_code 2 (none) [.ref 79] zsh s (none, zsh, q)) (hR_M_sum : ∀ (s : zz_S) (q : zz_S), R_M_sum s = some q → zz_M G l dR y_M_sum prog_14_method_28_code 2 (none) [.ref 79] zsh s (none, zsh, q)) (h : f_M_both R_M_both R_M_compared R_M_either R_M_operand R_M_product R_M_sum s = some q) : Z 0 [some (.ref 79)] [] zsh s := by
  unfold f_M_both at h
  refine zz_aload_n (i := 0) (pc := 0) C rfl rfl d_M_both_0 ?_
  obtain ⟨q1, hq1, h⟩ := zz_bdE h
  refine zz_cVv (as := []) (st := []) (pc := 1) C (hR_M_compared s q1 hq1) zcv_M_compared zsh_79 zl_12_243 (by omega) (Nat.le_of_ble_eq_true rfl) d_M_both_1 rfl rfl ?_
  exact zf_M_both_L4 hdR C R_M_both R_M_compared R_M_either R_M_operand R_M_product R_M_sum hR_M_both hR_M_compared hR_M_either hR_M_operand hR_M_product hR_M_sum zF q1 h
theorem zg_M_both {G : zz_G} {l : Launch} : ∀ n : Nat, (∀ (s : zz_S) (q : zz_S), g_M_both n s = some q → zz_M G l (3 + n) y_M_both prog_14_method_30_code 1 (none) [.ref 79] zsh s (none, zsh, q)) ∧ (∀ (s : zz_S) (q : zz_S), g_M_compared n s = some q → zz_M G l (3 + n) y_M_compared prog_14_method_29_code 2 (none) [.ref 79] zsh s (none, zsh, q)) ∧ (∀ (s : zz_S) (q : zz_S), g_M_either n s = some q → zz_M G l (3 + n) y_M_either prog_14_method_31_code 1 (none) [.ref 79] zsh s (none, zsh, q)) ∧ (∀ (s : zz_S) (q : zz_S), g_M_operand n s = some q → zz_M G l (3 + n) y_M_operand prog_14_method_26_code 2 (none) [.ref 79] zsh s (none, zsh, q)) ∧ (∀ (s : zz_S) (q : zz_S), g_M_product n s = some q → zz_M G l (3 + n) y_M_product prog_14_method_27_code 2 (none) [.ref 79] zsh s (none, zsh, q)) ∧ (∀ (s : zz_S) (q : zz_S), g_M_sum n s = some q → zz_M G l (3 + n) y_M_sum prog_14_method_28_code 2 (none) [.ref 79] zsh s (none, zsh, q)) := by
  intro n
  induction n with
  | zero =>
    refine ⟨?_, ?_, ?_, ?_, ?_, ?_⟩
    · intro  s q h; cases h
    · intro  s q h; cases h
    · intro  s q h; cases h
    · intro  s q h; cases h
    · intro  s q h; cases h
    · intro  s q h; cases h
  | succ n ih =>
    obtain ⟨ih0, ih1, ih2, ih3, ih4, ih5⟩ := ih
    refine ⟨?_, ?_, ?_, ?_, ?_, ?_⟩
    · intro  s q h
      exact zz_M.intro (by decide) (Nat.le_of_ble_eq_true rfl) (Nat.le_refl _) (Nat.le_refl _) (fun Z C => zf_M_both (dR := 3 + n) (by omega) C (g_M_both n) (g_M_compared n) (g_M_either n) (g_M_operand n) (g_M_product n) (g_M_sum n) ih0 ih1 ih2 ih3 ih4 ih5 h)
    · intro  s q h
      exact zz_M.intro (by decide) (Nat.le_of_ble_eq_true rfl) (Nat.le_refl _) (Nat.le_refl _) (fun Z C => zf_M_compared (dR := 3 + n) (by omega) C (g_M_both n) (g_M_compared n) (g_M_either n) (g_M_operand n) (g_M_product n) (g_M_sum n) ih0 ih1 ih2 ih3 ih4 ih5 h)
    · intro  s q h
      exact zz_M.intro (by decide) (Nat.le_of_ble_eq_true rfl) (Nat.le_refl _) (Nat.le_refl _) (fun Z C => zf_M_either (dR := 3 + n) (by omega) C (g_M_both n) (g_M_compared n) (g_M_either n) (g_M_operand n) (g_M_product n) (g_M_sum n) ih0 ih1 ih2 ih3 ih4 ih5 h)
    · intro  s q h
      exact zz_M.intro (by decide) (Nat.le_of_ble_eq_true rfl) (Nat.le_refl _) (Nat.le_refl _) (fun Z C => zf_M_operand (dR := 3 + n) (by omega) C (g_M_both n) (g_M_compared n) (g_M_either n) (g_M_operand n) (g_M_product n) (g_M_sum n) ih0 ih1 ih2 ih3 ih4 ih5 h)
    · intro  s q h
      exact zz_M.intro (by decide) (Nat.le_of_ble_eq_true rfl) (Nat.le_refl _) (Nat.le_refl _) (fun Z C => zf_M_product (dR := 3 + n) (by omega) C (g_M_both n) (g_M_compared n) (g_M_either n) (g_M_operand n) (g_M_product n) (g_M_sum n) ih0 ih1 ih2 ih3 ih4 ih5 h)
    · intro  s q h
      exact zz_M.intro (by decide) (Nat.le_of_ble_eq_true rfl) (Nat.le_refl _) (Nat.le_refl _) (fun Z C => zf_M_sum (dR := 3 + n) (by omega) C (g_M_both n) (g_M_compared n) (g_M_either n) (g_M_operand n) (g_M_product n) (g_M_sum n) ih0 ih1 ih2 ih3 ih4 ih5 h)
theorem zm_M_both {G : zz_G} {l : Launch} {s : zz_S} {q : zz_S} (h : g_M_both zR s = some q) : zz_M G l 203 y_M_both prog_14_method_30_code 1 (none) [.ref 79] zsh s (none, zsh, q) := (zg_M_both zR).1 s q h
theorem zm_M_compared {G : zz_G} {l : Launch} {s : zz_S} {q : zz_S} (h : g_M_compared zR s = some q) : zz_M G l 203 y_M_compared prog_14_method_29_code 2 (none) [.ref 79] zsh s (none, zsh, q) := (zg_M_both zR).2.1 s q h
theorem zm_M_either {G : zz_G} {l : Launch} {s : zz_S} {q : zz_S} (h : g_M_either zR s = some q) : zz_M G l 203 y_M_either prog_14_method_31_code 1 (none) [.ref 79] zsh s (none, zsh, q) := (zg_M_both zR).2.2.1 s q h
theorem zm_M_operand {G : zz_G} {l : Launch} {s : zz_S} {q : zz_S} (h : g_M_operand zR s = some q) : zz_M G l 203 y_M_operand prog_14_method_26_code 2 (none) [.ref 79] zsh s (none, zsh, q) := (zg_M_both zR).2.2.2.1 s q h
theorem zm_M_product {G : zz_G} {l : Launch} {s : zz_S} {q : zz_S} (h : g_M_product zR s = some q) : zz_M G l 203 y_M_product prog_14_method_27_code 2 (none) [.ref 79] zsh s (none, zsh, q) := (zg_M_both zR).2.2.2.2.1 s q h
theorem zm_M_sum {G : zz_G} {l : Launch} {s : zz_S} {q : zz_S} (h : g_M_sum zR s = some q) : zz_M G l 203 y_M_sum prog_14_method_28_code 2 (none) [.ref 79] zsh s (none, zsh, q) := (zg_M_both zR).2.2.2.2.2 s q h
theorem d_M_isCover_0 : decode prog_14_method_7_code 0 = .ok (.iload_n 1, 1) := by decide +kernel
theorem d_M_isCover_1 : decode prog_14_method_7_code 1 = .ok (.iconst 0, 1) := by decide +kernel
theorem d_M_isCover_2 : decode prog_14_method_7_code 2 = .ok (.aload_n 0, 1) := by decide +kernel
theorem d_M_isCover_3 : decode prog_14_method_7_code 3 = .ok (.getfield 162, 3) := by decide +kernel
theorem d_M_isCover_6 : decode prog_14_method_7_code 6 = .ok (.iconst 1, 1) := by decide +kernel
theorem d_M_isCover_7 : decode prog_14_method_7_code 7 = .ok (.isub, 1) := by decide +kernel
theorem d_M_isCover_8 : decode prog_14_method_7_code 8 = .ok (.invokestatic 158, 3) := by decide +kernel
theorem d_M_isCover_11 : decode prog_14_method_7_code 11 = .ok (.ireturn, 1) := by decide +kernel
set_option maxHeartbeats 4000000 in
set_option maxRecDepth 100000 in
theorem zf_M_isCover {G : zz_G} {l : Launch} {Z : zz_Z} {q : Int32} {s : zz_S} (C : zz_Cx G l "OneBlanketModel" "isCover" prog_14_method_7_code 2 (some .boolean) 3 (some (.int q), zsh, s) Z) (a1 : Int32) (h : f_M_isCover a1 s = q) : Z 0 [some (.ref 79), some (.int a1)] [] zsh s := by
  unfold f_M_isCover at h
  refine zz_iload_n (i := 1) (pc := 0) C rfl rfl d_M_isCover_0 ?_
  refine zz_iconst (pc := 1) C zki_0 d_M_isCover_1 ?_
  refine zz_aload_n (i := 0) (pc := 2) C rfl rfl d_M_isCover_2 ?_
  refine zz_getI (pc := 3) C zl_12_162 zsh_79 rfl d_M_isCover_3 ?_
  refine zz_iconst (pc := 6) C zki_1 d_M_isCover_6 ?_
  refine zz_isub (pc := 7) C d_M_isCover_7 ?_
  refine zz_cSi (as := [.int a1, .int (0 : Int32), .int ((s.1 79 7) - (1 : Int32))]) (st := []) (pc := 8) C (zm_M_in rfl) zcs_M_in zl_12_158 (by omega) (Nat.le_of_ble_eq_true rfl) d_M_isCover_8 rfl rfl ?_
  subst h
  -- boolean of (f_M_in a1 (0 : Int32) ((s.1 79 7) - (1 : Int32)))
  exact zz_ret (pc := 11) C (v := some (.int (f_M_in a1 (0 : Int32) ((s.1 79 7) - (1 : Int32))))) d_M_isCover_11 (Or.inl ⟨_, _, rfl, rfl, rfl, (zz_nb (zbool_M_in _ _ _))⟩) rfl
theorem zm_M_isCover {G : zz_G} {l : Launch} {s : zz_S} {q : Int32} {a1 : Int32} (h : f_M_isCover a1 s = q) : zz_M G l 3 y_M_isCover prog_14_method_7_code 2 (some .boolean) [.ref 79, .int a1] zsh s (some (.int q), zsh, s) :=
  zz_M.intro (by decide) (Nat.le_of_ble_eq_true rfl) (Nat.le_refl _) (Nat.le_refl _) (fun Z C => zf_M_isCover C a1 h)
theorem d_M_isSomeBare_0 : decode prog_14_method_60_code 0 = .ok (.iconst 0, 1) := by decide +kernel
theorem d_M_isSomeBare_1 : decode prog_14_method_60_code 1 = .ok (.istore_n 1, 1) := by decide +kernel
theorem d_M_isSomeBare_2 : decode prog_14_method_60_code 2 = .ok (.iload_n 1, 1) := by decide +kernel
theorem d_M_isSomeBare_3 : decode prog_14_method_60_code 3 = .ok (.aload_n 0, 1) := by decide +kernel
theorem d_M_isSomeBare_4 : decode prog_14_method_60_code 4 = .ok (.getfield 155, 3) := by decide +kernel
theorem d_M_isSomeBare_7 : decode prog_14_method_60_code 7 = .ok (.if_icmp .ge (25), 3) := by decide +kernel
theorem d_M_isSomeBare_10 : decode prog_14_method_60_code 10 = .ok (.aload_n 0, 1) := by decide +kernel
theorem d_M_isSomeBare_11 : decode prog_14_method_60_code 11 = .ok (.iload_n 1, 1) := by decide +kernel
theorem d_M_isSomeBare_12 : decode prog_14_method_60_code 12 = .ok (.invokevirtual 297, 3) := by decide +kernel
theorem d_M_isSomeBare_15 : decode prog_14_method_60_code 15 = .ok (.aload_n 0, 1) := by decide +kernel
theorem d_M_isSomeBare_16 : decode prog_14_method_60_code 16 = .ok (.getfield 17, 3) := by decide +kernel
theorem d_M_isSomeBare_19 : decode prog_14_method_60_code 19 = .ok (.iload_n 1, 1) := by decide +kernel
theorem d_M_isSomeBare_20 : decode prog_14_method_60_code 20 = .ok (.iaload, 1) := by decide +kernel
theorem d_M_isSomeBare_21 : decode prog_14_method_60_code 21 = .ok (.if_icmp .ge (5), 3) := by decide +kernel
theorem d_M_isSomeBare_24 : decode prog_14_method_60_code 24 = .ok (.iconst 1, 1) := by decide +kernel
theorem d_M_isSomeBare_25 : decode prog_14_method_60_code 25 = .ok (.ireturn, 1) := by decide +kernel
theorem d_M_isSomeBare_26 : decode prog_14_method_60_code 26 = .ok (.iinc 1 (1), 3) := by decide +kernel
theorem d_M_isSomeBare_29 : decode prog_14_method_60_code 29 = .ok (.goto (-27), 3) := by decide +kernel
theorem d_M_isSomeBare_32 : decode prog_14_method_60_code 32 = .ok (.iconst 0, 1) := by decide +kernel
theorem d_M_isSomeBare_33 : decode prog_14_method_60_code 33 = .ok (.ireturn, 1) := by decide +kernel
set_option maxHeartbeats 4000000 in
set_option maxRecDepth 100000 in
theorem zf_M_isSomeBare_L2 {G : zz_G} {l : Launch} {Z : zz_Z} {q : Int32} {s : zz_S} (C : zz_Cx G l "OneBlanketModel" "isSomeBare" prog_14_method_60_code 2 (some .boolean) 3 (some (.int q), zsh, s) Z) : ∀ (n : Nat) (v1 : Int32), f_M_isSomeBare_L2 s n v1 = some q → Z 2 [some (.ref 79), some (.int v1)] [] zsh s := by
  intro n
  induction n with
  | zero => intro v1 h; rw [f_M_isSomeBare_L2] at h; cases h
  | succ n ih =>
  intro v1 h
  rw [f_M_isSomeBare_L2] at h
  refine zz_iload_n (i := 1) (pc := 2) C rfl rfl d_M_isSomeBare_2 ?_
  refine zz_aload_n (i := 0) (pc := 3) C rfl rfl d_M_isSomeBare_3 ?_
  refine zz_getI (pc := 4) C zl_12_155 zsh_79 rfl d_M_isSomeBare_4 ?_
  refine zz_icmp_ge (tgt := 32) (pc := 7) C (by decide) d_M_isSomeBare_7 (fun hc1 => ?_) (fun hc1 => ?_)
  · rw [if_pos hc1] at h
    refine zz_iconst (pc := 32) C zki_0 d_M_isSomeBare_32 ?_
    replace h := Option.some.inj h
    subst h
    exact zz_ret (pc := 33) C (v := some (.int (0 : Int32))) d_M_isSomeBare_33 (Or.inl ⟨_, _, rfl, rfl, rfl, (by decide)⟩) rfl
  · rw [if_neg hc1] at h
    refine zz_aload_n (i := 0) (pc := 10) C rfl rfl d_M_isSomeBare_10 ?_
    refine zz_iload_n (i := 1) (pc := 11) C rfl rfl d_M_isSomeBare_11 ?_
    obtain ⟨q2, hq2, h⟩ := zz_bdE h
    refine zz_cVi (as := [.int v1]) (st := []) (pc := 12) C (zm_M_coveredOf hq2) zcv_M_coveredOf zsh_79 zl_12_297 (by omega) (Nat.le_of_ble_eq_true rfl) d_M_isSomeBare_12 rfl rfl ?_
    refine zz_aload_n (i := 0) (pc := 15) C rfl rfl d_M_isSomeBare_15 ?_
    refine zz_getR (pc := 16) C zl_12_17 zsh_79 rfl d_M_isSomeBare_16 ?_
    refine zz_iload_n (i := 1) (pc := 19) C rfl rfl d_M_isSomeBare_19 ?_
    obtain ⟨hi3, h⟩ := zz_ckE h
    refine zz_iald (pc := 20) C rfl zsh_81 hi3 d_M_isSomeBare_20 ?_
    refine zz_icmp_ge (tgt := 26) (pc := 21) C (by decide) d_M_isSomeBare_21 (fun hc4 => ?_) (fun hc4 => ?_)
    · rw [if_pos hc4] at h
      refine zz_iinc (lo' := [some (.ref 79), some (.int (v1 + (1 : Int32)))]) (pc := 26) C rfl (zz_inc zki_1) rfl rfl d_M_isSomeBare_26 ?_
      refine zz_goto (tgt := 2) (pc := 29) C (by decide) d_M_isSomeBare_29 ?_
      exact ih (v1 + (1 : Int32)) h
    · rw [if_neg hc4] at h
      refine zz_iconst (pc := 24) C zki_1 d_M_isSomeBare_24 ?_
      replace h := Option.some.inj h
      subst h
      exact zz_ret (pc := 25) C (v := some (.int (1 : Int32))) d_M_isSomeBare_25 (Or.inl ⟨_, _, rfl, rfl, rfl, (by decide)⟩) rfl
set_option maxHeartbeats 4000000 in
set_option maxRecDepth 100000 in
theorem zf_M_isSomeBare {G : zz_G} {l : Launch} {Z : zz_Z} {q : Int32} {s : zz_S} (C : zz_Cx G l "OneBlanketModel" "isSomeBare" prog_14_method_60_code 2 (some .boolean) 3 (some (.int q), zsh, s) Z) (h : f_M_isSomeBare s = some q) : Z 0 [some (.ref 79), none] [] zsh s := by
  unfold f_M_isSomeBare at h
  refine zz_iconst (pc := 0) C zki_0 d_M_isSomeBare_0 ?_
  refine zz_istore_n (i := 1) (lo' := [some (.ref 79), some (.int (0 : Int32))]) (pc := 1) C rfl (Nat.le_of_ble_eq_true rfl) rfl rfl d_M_isSomeBare_1 ?_
  exact zf_M_isSomeBare_L2 C zF (0 : Int32) h
theorem zm_M_isSomeBare {G : zz_G} {l : Launch} {s : zz_S} {q : Int32} (h : f_M_isSomeBare s = some q) : zz_M G l 3 y_M_isSomeBare prog_14_method_60_code 2 (some .boolean) [.ref 79] zsh s (some (.int q), zsh, s) :=
  zz_M.intro (by decide) (Nat.le_of_ble_eq_true rfl) (Nat.le_refl _) (Nat.le_refl _) (fun Z C => zf_M_isSomeBare C h)
theorem d_M_isMinute_0 : decode prog_14_method_8_code 0 = .ok (.iload_n 0, 1) := by decide +kernel
theorem d_M_isMinute_1 : decode prog_14_method_8_code 1 = .ok (.iconst 0, 1) := by decide +kernel
theorem d_M_isMinute_2 : decode prog_14_method_8_code 2 = .ok (.sipush (479), 3) := by decide +kernel
theorem d_M_isMinute_5 : decode prog_14_method_8_code 5 = .ok (.invokestatic 158, 3) := by decide +kernel
theorem d_M_isMinute_8 : decode prog_14_method_8_code 8 = .ok (.ireturn, 1) := by decide +kernel
set_option maxHeartbeats 4000000 in
set_option maxRecDepth 100000 in
theorem zf_M_isMinute {G : zz_G} {l : Launch} {Z : zz_Z} {sh : List zz_Sh} {q : Int32} {s : zz_S} (C : zz_Cx G l "OneBlanketModel" "isMinute" prog_14_method_8_code 1 (some .boolean) 3 (some (.int q), sh, s) Z) (a0 : Int32) (h : f_M_isMinute a0 = q) : Z 0 [some (.int a0)] [] sh s := by
  unfold f_M_isMinute at h
  refine zz_iload_n (i := 0) (pc := 0) C rfl rfl d_M_isMinute_0 ?_
  refine zz_iconst (pc := 1) C zki_0 d_M_isMinute_1 ?_
  refine zz_sipush (pc := 2) C zks_479 d_M_isMinute_2 ?_
  refine zz_cSi (as := [.int a0, .int (0 : Int32), .int (479 : Int32)]) (st := []) (pc := 5) C (zm_M_in rfl) zcs_M_in zl_12_158 (by omega) (Nat.le_of_ble_eq_true rfl) d_M_isMinute_5 rfl rfl ?_
  subst h
  -- boolean of (f_M_in a0 (0 : Int32) (479 : Int32))
  exact zz_ret (pc := 8) C (v := some (.int (f_M_in a0 (0 : Int32) (479 : Int32)))) d_M_isMinute_8 (Or.inl ⟨_, _, rfl, rfl, rfl, (zz_nb (zbool_M_in _ _ _))⟩) rfl
theorem zm_M_isMinute {G : zz_G} {l : Launch} {sh : List zz_Sh} {s : zz_S} {q : Int32} {a0 : Int32} (h : f_M_isMinute a0 = q) : zz_M G l 3 y_M_isMinute prog_14_method_8_code 1 (some .boolean) [.int a0] sh s (some (.int q), sh, s) :=
  zz_M.intro (by decide) (Nat.le_of_ble_eq_true rfl) (Nat.le_refl _) (Nat.le_refl _) (fun Z C => zf_M_isMinute C a0 h)
theorem d_M_broad_0 : decode prog_14_method_61_code 0 = .ok (.aload_n 0, 1) := by decide +kernel
theorem d_M_broad_1 : decode prog_14_method_61_code 1 = .ok (.iload_n 1, 1) := by decide +kernel
theorem d_M_broad_2 : decode prog_14_method_61_code 2 = .ok (.invokevirtual 187, 3) := by decide +kernel
theorem d_M_broad_5 : decode prog_14_method_61_code 5 = .ok (.ifCond .eq (10), 3) := by decide +kernel
theorem d_M_broad_8 : decode prog_14_method_61_code 8 = .ok (.iload_n 2, 1) := by decide +kernel
theorem d_M_broad_9 : decode prog_14_method_61_code 9 = .ok (.invokestatic 277, 3) := by decide +kernel
theorem d_M_broad_12 : decode prog_14_method_61_code 12 = .ok (.ifCond .ne (5), 3) := by decide +kernel
theorem d_M_broad_15 : decode prog_14_method_61_code 15 = .ok (.iconst (-1), 1) := by decide +kernel
theorem d_M_broad_16 : decode prog_14_method_61_code 16 = .ok (.ireturn, 1) := by decide +kernel
theorem d_M_broad_17 : decode prog_14_method_61_code 17 = .ok (.aload_n 0, 1) := by decide +kernel
theorem d_M_broad_18 : decode prog_14_method_61_code 18 = .ok (.getfield 29, 3) := by decide +kernel
theorem d_M_broad_21 : decode prog_14_method_61_code 21 = .ok (.iload_n 1, 1) := by decide +kernel
theorem d_M_broad_22 : decode prog_14_method_61_code 22 = .ok (.iaload, 1) := by decide +kernel
theorem d_M_broad_23 : decode prog_14_method_61_code 23 = .ok (.istore_n 3, 1) := by decide +kernel
theorem d_M_broad_24 : decode prog_14_method_61_code 24 = .ok (.bipush (-2), 2) := by decide +kernel
theorem d_M_broad_26 : decode prog_14_method_61_code 26 = .ok (.istore 4, 2) := by decide +kernel
theorem d_M_broad_28 : decode prog_14_method_61_code 28 = .ok (.iconst 5, 1) := by decide +kernel
theorem d_M_broad_29 : decode prog_14_method_61_code 29 = .ok (.istore 5, 2) := by decide +kernel
theorem d_M_broad_31 : decode prog_14_method_61_code 31 = .ok (.iload 5, 2) := by decide +kernel
theorem d_M_broad_33 : decode prog_14_method_61_code 33 = .ok (.bipush (80), 2) := by decide +kernel
theorem d_M_broad_35 : decode prog_14_method_61_code 35 = .ok (.if_icmp .gt (38), 3) := by decide +kernel
theorem d_M_broad_38 : decode prog_14_method_61_code 38 = .ok (.iload 4, 2) := by decide +kernel
theorem d_M_broad_40 : decode prog_14_method_61_code 40 = .ok (.ifCond .ge (33), 3) := by decide +kernel
theorem d_M_broad_43 : decode prog_14_method_61_code 43 = .ok (.aload_n 0, 1) := by decide +kernel
theorem d_M_broad_44 : decode prog_14_method_61_code 44 = .ok (.getfield 29, 3) := by decide +kernel
theorem d_M_broad_47 : decode prog_14_method_61_code 47 = .ok (.iload_n 1, 1) := by decide +kernel
theorem d_M_broad_48 : decode prog_14_method_61_code 48 = .ok (.iload 5, 2) := by decide +kernel
theorem d_M_broad_50 : decode prog_14_method_61_code 50 = .ok (.iastore, 1) := by decide +kernel
theorem d_M_broad_51 : decode prog_14_method_61_code 51 = .ok (.aload_n 0, 1) := by decide +kernel
theorem d_M_broad_52 : decode prog_14_method_61_code 52 = .ok (.iload_n 2, 1) := by decide +kernel
theorem d_M_broad_53 : decode prog_14_method_61_code 53 = .ok (.invokevirtual 323, 3) := by decide +kernel
theorem d_M_broad_56 : decode prog_14_method_61_code 56 = .ok (.aload_n 0, 1) := by decide +kernel
theorem d_M_broad_57 : decode prog_14_method_61_code 57 = .ok (.invokevirtual 326, 3) := by decide +kernel
theorem d_M_broad_60 : decode prog_14_method_61_code 60 = .ok (.ifCond .ne (7), 3) := by decide +kernel
theorem d_M_broad_63 : decode prog_14_method_61_code 63 = .ok (.iload 5, 2) := by decide +kernel
theorem d_M_broad_65 : decode prog_14_method_61_code 65 = .ok (.istore 4, 2) := by decide +kernel
theorem d_M_broad_67 : decode prog_14_method_61_code 67 = .ok (.iinc 5 (1), 3) := by decide +kernel
theorem d_M_broad_70 : decode prog_14_method_61_code 70 = .ok (.goto (-39), 3) := by decide +kernel
theorem d_M_broad_73 : decode prog_14_method_61_code 73 = .ok (.aload_n 0, 1) := by decide +kernel
theorem d_M_broad_74 : decode prog_14_method_61_code 74 = .ok (.getfield 29, 3) := by decide +kernel
theorem d_M_broad_77 : decode prog_14_method_61_code 77 = .ok (.iload_n 1, 1) := by decide +kernel
theorem d_M_broad_78 : decode prog_14_method_61_code 78 = .ok (.iload_n 3, 1) := by decide +kernel
theorem d_M_broad_79 : decode prog_14_method_61_code 79 = .ok (.iastore, 1) := by decide +kernel
theorem d_M_broad_80 : decode prog_14_method_61_code 80 = .ok (.iload 4, 2) := by decide +kernel
theorem d_M_broad_82 : decode prog_14_method_61_code 82 = .ok (.ireturn, 1) := by decide +kernel
set_option maxHeartbeats 4000000 in
set_option maxRecDepth 100000 in
theorem zf_M_broad_J73 {G : zz_G} {l : Launch} {Z : zz_Z} {q : Int32 × zz_S} {s : zz_S} (C : zz_Cx G l "OneBlanketModel" "broad" prog_14_method_61_code 6 (some .int) 9 (some (.int q.1), zsh, q.2) Z) (v1 : Int32) (v3 : Int32) (v4 : Int32) (h : f_M_broad_J73 v1 v3 v4 s = some q) : Z 73 [some (.ref 79), some (.int v1), none, some (.int v3), some (.int v4), none] [] zsh s := by
  unfold f_M_broad_J73 at h
  refine zz_aload_n (i := 0) (pc := 73) C rfl rfl d_M_broad_73 ?_
  refine zz_getR (pc := 74) C zl_12_29 zsh_79 rfl d_M_broad_74 ?_
  refine zz_iload_n (i := 1) (pc := 77) C rfl rfl d_M_broad_77 ?_
  refine zz_iload_n (i := 3) (pc := 78) C rfl rfl d_M_broad_78 ?_
  obtain ⟨hi5, h⟩ := zz_ckE h
  refine zz_iast (pc := 79) C rfl zsh_85 hi5 d_M_broad_79 ?_
  refine zz_iload (i := 4) (pc := 80) C rfl d_M_broad_80 ?_
  replace h := Option.some.inj h
  subst h
  exact zz_ret (pc := 82) C (v := some (.int v4)) d_M_broad_82 (Or.inl ⟨_, _, rfl, rfl, rfl, rfl⟩) rfl
set_option maxHeartbeats 4000000 in
set_option maxRecDepth 100000 in
theorem zf_M_broad_L31 {G : zz_G} {l : Launch} {Z : zz_Z} {q : Int32 × zz_S} (C : zz_Cx G l "OneBlanketModel" "broad" prog_14_method_61_code 6 (some .int) 9 (some (.int q.1), zsh, q.2) Z) : ∀ (n : Nat) (v1 : Int32) (v2 : Int32) (v3 : Int32) (v4 : Int32) (v5 : Int32) (s : zz_S), f_M_broad_L31 n v1 v2 v3 v4 v5 s = some q → Z 31 [some (.ref 79), some (.int v1), some (.int v2), some (.int v3), some (.int v4), some (.int v5)] [] zsh s := by
  intro n
  induction n with
  | zero => intro v1 v2 v3 v4 v5 s h; rw [f_M_broad_L31] at h; cases h
  | succ n ih =>
  intro v1 v2 v3 v4 v5 s h
  rw [f_M_broad_L31] at h
  refine zz_iload (i := 5) (pc := 31) C rfl d_M_broad_31 ?_
  refine zz_bipush (pc := 33) C zkb_80 d_M_broad_33 ?_
  refine zz_icmp_gt (tgt := 73) (pc := 35) C (by decide) d_M_broad_35 (fun hc4 => ?_) (fun hc4 => ?_)
  · rw [if_pos hc4] at h
    refine zz_fg C [true, true, false, true, true, false] rfl rfl ?_
    exact zf_M_broad_J73 C v1 v3 v4 h
  · rw [if_neg hc4] at h
    refine zz_iload (i := 4) (pc := 38) C rfl d_M_broad_38 ?_
    refine zz_if_ge (tgt := 73) (pc := 40) C (by decide) d_M_broad_40 (fun hc6 => ?_) (fun hc6 => ?_)
    · rw [if_pos hc6] at h
      refine zz_fg C [true, true, false, true, true, false] rfl rfl ?_
      exact zf_M_broad_J73 C v1 v3 v4 h
    · rw [if_neg hc6] at h
      refine zz_aload_n (i := 0) (pc := 43) C rfl rfl d_M_broad_43 ?_
      refine zz_getR (pc := 44) C zl_12_29 zsh_79 rfl d_M_broad_44 ?_
      refine zz_iload_n (i := 1) (pc := 47) C rfl rfl d_M_broad_47 ?_
      refine zz_iload (i := 5) (pc := 48) C rfl d_M_broad_48 ?_
      obtain ⟨hi7, h⟩ := zz_ckE h
      refine zz_iast (pc := 50) C rfl zsh_85 hi7 d_M_broad_50 ?_
      refine zz_aload_n (i := 0) (pc := 51) C rfl rfl d_M_broad_51 ?_
      refine zz_iload_n (i := 2) (pc := 52) C rfl rfl d_M_broad_52 ?_
      obtain ⟨q8, hq8, h⟩ := zz_bdE h
      refine zz_cVv (as := [.int v2]) (st := []) (pc := 53) C (zm_M_night hq8) zcv_M_night zsh_79 zl_12_323 (by omega) (Nat.le_of_ble_eq_true rfl) d_M_broad_53 rfl rfl ?_
      refine zz_aload_n (i := 0) (pc := 56) C rfl rfl d_M_broad_56 ?_
      obtain ⟨q9, hq9, h⟩ := zz_bdE h
      refine zz_cVi (as := []) (st := []) (pc := 57) C (zm_M_isSomeBare hq9) zcv_M_isSomeBare zsh_79 zl_12_326 (by omega) (Nat.le_of_ble_eq_true rfl) d_M_broad_57 rfl rfl ?_
      refine zz_if_ne (tgt := 67) (pc := 60) C (by decide) d_M_broad_60 (fun hc10 => ?_) (fun hc10 => ?_)
      · rw [if_neg hc10] at h
        refine zz_iinc (lo' := [some (.ref 79), some (.int v1), some (.int v2), some (.int v3), some (.int v4), some (.int (v5 + (1 : Int32)))]) (pc := 67) C rfl (zz_inc zki_1) rfl rfl d_M_broad_67 ?_
        refine zz_goto (tgt := 31) (pc := 70) C (by decide) d_M_broad_70 ?_
        exact ih v1 v2 v3 v4 (v5 + (1 : Int32)) q8 h
      · rw [if_pos hc10] at h
        refine zz_iload (i := 5) (pc := 63) C rfl d_M_broad_63 ?_
        refine zz_istore (i := 4) (lo' := [some (.ref 79), some (.int v1), some (.int v2), some (.int v3), some (.int v5), some (.int v5)]) (pc := 65) C (Nat.le_of_ble_eq_true rfl) rfl rfl d_M_broad_65 ?_
        refine zz_iinc (lo' := [some (.ref 79), some (.int v1), some (.int v2), some (.int v3), some (.int v5), some (.int (v5 + (1 : Int32)))]) (pc := 67) C rfl (zz_inc zki_1) rfl rfl d_M_broad_67 ?_
        refine zz_goto (tgt := 31) (pc := 70) C (by decide) d_M_broad_70 ?_
        exact ih v1 v2 v3 v5 (v5 + (1 : Int32)) q8 h
set_option maxHeartbeats 4000000 in
set_option maxRecDepth 100000 in
theorem zf_M_broad {G : zz_G} {l : Launch} {Z : zz_Z} {q : Int32 × zz_S} {s : zz_S} (C : zz_Cx G l "OneBlanketModel" "broad" prog_14_method_61_code 6 (some .int) 9 (some (.int q.1), zsh, q.2) Z) (a1 : Int32) (a2 : Int32) (h : f_M_broad a1 a2 s = some q) : Z 0 [some (.ref 79), some (.int a1), some (.int a2), none, none, none] [] zsh s := by
  unfold f_M_broad at h
  refine zz_aload_n (i := 0) (pc := 0) C rfl rfl d_M_broad_0 ?_
  refine zz_iload_n (i := 1) (pc := 1) C rfl rfl d_M_broad_1 ?_
  refine zz_cVi (as := [.int a1]) (st := []) (pc := 2) C (zm_M_isCover rfl) zcv_M_isCover zsh_79 zl_12_187 (by omega) (Nat.le_of_ble_eq_true rfl) d_M_broad_2 rfl rfl ?_
  refine zz_if_eq (tgt := 15) (pc := 5) C (by decide) d_M_broad_5 (fun hc1 => ?_) (fun hc1 => ?_)
  · rw [if_pos hc1] at h
    refine zz_iconst (pc := 15) C zki_m1 d_M_broad_15 ?_
    replace h := Option.some.inj h
    subst h
    exact zz_ret (pc := 16) C (v := some (.int (-1 : Int32))) d_M_broad_16 (Or.inl ⟨_, _, rfl, rfl, rfl, rfl⟩) rfl
  · rw [if_neg hc1] at h
    refine zz_iload_n (i := 2) (pc := 8) C rfl rfl d_M_broad_8 ?_
    refine zz_cSi (as := [.int a2]) (st := []) (pc := 9) C (zm_M_isMinute rfl) zcs_M_isMinute zl_12_277 (by omega) (Nat.le_of_ble_eq_true rfl) d_M_broad_9 rfl rfl ?_
    refine zz_if_ne (tgt := 17) (pc := 12) C (by decide) d_M_broad_12 (fun hc2 => ?_) (fun hc2 => ?_)
    · rw [if_neg hc2] at h
      refine zz_aload_n (i := 0) (pc := 17) C rfl rfl d_M_broad_17 ?_
      refine zz_getR (pc := 18) C zl_12_29 zsh_79 rfl d_M_broad_18 ?_
      refine zz_iload_n (i := 1) (pc := 21) C rfl rfl d_M_broad_21 ?_
      obtain ⟨hi3, h⟩ := zz_ckE h
      refine zz_iald (pc := 22) C rfl zsh_85 hi3 d_M_broad_22 ?_
      refine zz_istore_n (i := 3) (lo' := [some (.ref 79), some (.int a1), some (.int a2), some (.int (s.1 85 (a1.toNatClampNeg))), none, none]) (pc := 23) C rfl (Nat.le_of_ble_eq_true rfl) rfl rfl d_M_broad_23 ?_
      refine zz_bipush (pc := 24) C zkb_m2 d_M_broad_24 ?_
      refine zz_istore (i := 4) (lo' := [some (.ref 79), some (.int a1), some (.int a2), some (.int (s.1 85 (a1.toNatClampNeg))), some (.int (-2 : Int32)), none]) (pc := 26) C (Nat.le_of_ble_eq_true rfl) rfl rfl d_M_broad_26 ?_
      refine zz_iconst (pc := 28) C zki_5 d_M_broad_28 ?_
      refine zz_istore (i := 5) (lo' := [some (.ref 79), some (.int a1), some (.int a2), some (.int (s.1 85 (a1.toNatClampNeg))), some (.int (-2 : Int32)), some (.int (5 : Int32))]) (pc := 29) C (Nat.le_of_ble_eq_true rfl) rfl rfl d_M_broad_29 ?_
      exact zf_M_broad_L31 C zF a1 a2 (s.1 85 (a1.toNatClampNeg)) (-2 : Int32) (5 : Int32) s h
    · rw [if_pos hc2] at h
      refine zz_iconst (pc := 15) C zki_m1 d_M_broad_15 ?_
      replace h := Option.some.inj h
      subst h
      exact zz_ret (pc := 16) C (v := some (.int (-1 : Int32))) d_M_broad_16 (Or.inl ⟨_, _, rfl, rfl, rfl, rfl⟩) rfl
theorem zm_M_broad {G : zz_G} {l : Launch} {s : zz_S} {q : Int32 × zz_S} {a1 : Int32} {a2 : Int32} (h : f_M_broad a1 a2 s = some q) : zz_M G l 9 y_M_broad prog_14_method_61_code 6 (some .int) [.ref 79, .int a1, .int a2] zsh s (some (.int q.1), zsh, q.2) :=
  zz_M.intro (by decide) (Nat.le_of_ble_eq_true rfl) (Nat.le_refl _) (Nat.le_refl _) (fun Z C => zf_M_broad C a1 a2 h)
theorem d_M_lays_0 : decode prog_14_method_13_code 0 = .ok (.iload_n 1, 1) := by decide +kernel
theorem d_M_lays_1 : decode prog_14_method_13_code 1 = .ok (.tableswitch (57) (0) (2) #[27, 37, 47], 27) := by decide +kernel
theorem d_M_lays_28 : decode prog_14_method_13_code 28 = .ok (.aload_n 0, 1) := by decide +kernel
theorem d_M_lays_29 : decode prog_14_method_13_code 29 = .ok (.getfield 20, 3) := by decide +kernel
theorem d_M_lays_32 : decode prog_14_method_13_code 32 = .ok (.iload_n 2, 1) := by decide +kernel
theorem d_M_lays_33 : decode prog_14_method_13_code 33 = .ok (.iload_n 3, 1) := by decide +kernel
theorem d_M_lays_34 : decode prog_14_method_13_code 34 = .ok (.iastore, 1) := by decide +kernel
theorem d_M_lays_35 : decode prog_14_method_13_code 35 = .ok (.goto (30), 3) := by decide +kernel
theorem d_M_lays_38 : decode prog_14_method_13_code 38 = .ok (.aload_n 0, 1) := by decide +kernel
theorem d_M_lays_39 : decode prog_14_method_13_code 39 = .ok (.getfield 23, 3) := by decide +kernel
theorem d_M_lays_42 : decode prog_14_method_13_code 42 = .ok (.iload_n 2, 1) := by decide +kernel
theorem d_M_lays_43 : decode prog_14_method_13_code 43 = .ok (.iload_n 3, 1) := by decide +kernel
theorem d_M_lays_44 : decode prog_14_method_13_code 44 = .ok (.iastore, 1) := by decide +kernel
theorem d_M_lays_45 : decode prog_14_method_13_code 45 = .ok (.goto (20), 3) := by decide +kernel
theorem d_M_lays_48 : decode prog_14_method_13_code 48 = .ok (.aload_n 0, 1) := by decide +kernel
theorem d_M_lays_49 : decode prog_14_method_13_code 49 = .ok (.getfield 29, 3) := by decide +kernel
theorem d_M_lays_52 : decode prog_14_method_13_code 52 = .ok (.iload_n 2, 1) := by decide +kernel
theorem d_M_lays_53 : decode prog_14_method_13_code 53 = .ok (.iload_n 3, 1) := by decide +kernel
theorem d_M_lays_54 : decode prog_14_method_13_code 54 = .ok (.iastore, 1) := by decide +kernel
theorem d_M_lays_55 : decode prog_14_method_13_code 55 = .ok (.goto (10), 3) := by decide +kernel
theorem d_M_lays_58 : decode prog_14_method_13_code 58 = .ok (.aload_n 0, 1) := by decide +kernel
theorem d_M_lays_59 : decode prog_14_method_13_code 59 = .ok (.getfield 35, 3) := by decide +kernel
theorem d_M_lays_62 : decode prog_14_method_13_code 62 = .ok (.iload_n 2, 1) := by decide +kernel
theorem d_M_lays_63 : decode prog_14_method_13_code 63 = .ok (.iload_n 3, 1) := by decide +kernel
theorem d_M_lays_64 : decode prog_14_method_13_code 64 = .ok (.iastore, 1) := by decide +kernel
theorem d_M_lays_65 : decode prog_14_method_13_code 65 = .ok (.return_, 1) := by decide +kernel
set_option maxHeartbeats 4000000 in
set_option maxRecDepth 100000 in
theorem zf_M_lays {G : zz_G} {l : Launch} {Z : zz_Z} {q : zz_S} {s : zz_S} (C : zz_Cx G l "OneBlanketModel" "lays" prog_14_method_13_code 4 (none) 2 (none, zsh, q) Z) (a1 : Int32) (a2 : Int32) (a3 : Int32) (h : f_M_lays a1 a2 a3 s = some q) : Z 0 [some (.ref 79), some (.int a1), some (.int a2), some (.int a3)] [] zsh s := by
  unfold f_M_lays at h
  refine zz_iload_n (i := 1) (pc := 0) C rfl rfl d_M_lays_0 ?_
  by_cases hc1 : a1 = (0 : Int32)
  · rw [if_pos hc1] at h
    refine zz_tableIn (tgt := 28) (off := 27) (pc := 1) C (by rw [hc1]; decide) (by rw [hc1]; decide) (by rw [hc1]; decide) (by decide) d_M_lays_1 ?_
    refine zz_aload_n (i := 0) (pc := 28) C rfl rfl d_M_lays_28 ?_
    refine zz_getR (pc := 29) C zl_12_20 zsh_79 rfl d_M_lays_29 ?_
    refine zz_iload_n (i := 2) (pc := 32) C rfl rfl d_M_lays_32 ?_
    refine zz_iload_n (i := 3) (pc := 33) C rfl rfl d_M_lays_33 ?_
    obtain ⟨hi2, h⟩ := zz_ckE h
    refine zz_iast (pc := 34) C rfl zsh_82 hi2 d_M_lays_34 ?_
    refine zz_goto (tgt := 65) (pc := 35) C (by decide) d_M_lays_35 ?_
    replace h := Option.some.inj h
    subst h
    exact zz_ret (pc := 65) C (v := none) d_M_lays_65 (Or.inr (Or.inr (Or.inr ⟨rfl, rfl, rfl⟩))) rfl
  · rw [if_neg hc1] at h
    by_cases hc3 : a1 = (1 : Int32)
    · rw [if_pos hc3] at h
      refine zz_tableIn (tgt := 38) (off := 37) (pc := 1) C (by rw [hc3]; decide) (by rw [hc3]; decide) (by rw [hc3]; decide) (by decide) d_M_lays_1 ?_
      refine zz_aload_n (i := 0) (pc := 38) C rfl rfl d_M_lays_38 ?_
      refine zz_getR (pc := 39) C zl_12_23 zsh_79 rfl d_M_lays_39 ?_
      refine zz_iload_n (i := 2) (pc := 42) C rfl rfl d_M_lays_42 ?_
      refine zz_iload_n (i := 3) (pc := 43) C rfl rfl d_M_lays_43 ?_
      obtain ⟨hi4, h⟩ := zz_ckE h
      refine zz_iast (pc := 44) C rfl zsh_83 hi4 d_M_lays_44 ?_
      refine zz_goto (tgt := 65) (pc := 45) C (by decide) d_M_lays_45 ?_
      replace h := Option.some.inj h
      subst h
      exact zz_ret (pc := 65) C (v := none) d_M_lays_65 (Or.inr (Or.inr (Or.inr ⟨rfl, rfl, rfl⟩))) rfl
    · rw [if_neg hc3] at h
      by_cases hc5 : a1 = (2 : Int32)
      · rw [if_pos hc5] at h
        refine zz_tableIn (tgt := 48) (off := 47) (pc := 1) C (by rw [hc5]; decide) (by rw [hc5]; decide) (by rw [hc5]; decide) (by decide) d_M_lays_1 ?_
        refine zz_aload_n (i := 0) (pc := 48) C rfl rfl d_M_lays_48 ?_
        refine zz_getR (pc := 49) C zl_12_29 zsh_79 rfl d_M_lays_49 ?_
        refine zz_iload_n (i := 2) (pc := 52) C rfl rfl d_M_lays_52 ?_
        refine zz_iload_n (i := 3) (pc := 53) C rfl rfl d_M_lays_53 ?_
        obtain ⟨hi6, h⟩ := zz_ckE h
        refine zz_iast (pc := 54) C rfl zsh_85 hi6 d_M_lays_54 ?_
        refine zz_goto (tgt := 65) (pc := 55) C (by decide) d_M_lays_55 ?_
        replace h := Option.some.inj h
        subst h
        exact zz_ret (pc := 65) C (v := none) d_M_lays_65 (Or.inr (Or.inr (Or.inr ⟨rfl, rfl, rfl⟩))) rfl
      · rw [if_neg hc5] at h
        have hc1i : a1.toInt ≠ 0 := fun e => hc1 (Int32.toInt_inj.mp e)
        have hc3i : a1.toInt ≠ 1 := fun e => hc3 (Int32.toInt_inj.mp e)
        have hc5i : a1.toInt ≠ 2 := fun e => hc5 (Int32.toInt_inj.mp e)
        refine zz_tableOut (tgt := 58) (pc := 1) C (by omega) (by decide) d_M_lays_1 ?_
        refine zz_aload_n (i := 0) (pc := 58) C rfl rfl d_M_lays_58 ?_
        refine zz_getR (pc := 59) C zl_12_35 zsh_79 rfl d_M_lays_59 ?_
        refine zz_iload_n (i := 2) (pc := 62) C rfl rfl d_M_lays_62 ?_
        refine zz_iload_n (i := 3) (pc := 63) C rfl rfl d_M_lays_63 ?_
        obtain ⟨hi7, h⟩ := zz_ckE h
        refine zz_iast (pc := 64) C rfl zsh_87 hi7 d_M_lays_64 ?_
        replace h := Option.some.inj h
        subst h
        exact zz_ret (pc := 65) C (v := none) d_M_lays_65 (Or.inr (Or.inr (Or.inr ⟨rfl, rfl, rfl⟩))) rfl
theorem zm_M_lays {G : zz_G} {l : Launch} {s : zz_S} {q : zz_S} {a1 : Int32} {a2 : Int32} {a3 : Int32} (h : f_M_lays a1 a2 a3 s = some q) : zz_M G l 2 y_M_lays prog_14_method_13_code 4 (none) [.ref 79, .int a1, .int a2, .int a3] zsh s (none, zsh, q) :=
  zz_M.intro (by decide) (Nat.le_of_ble_eq_true rfl) (Nat.le_refl _) (Nat.le_refl _) (fun Z C => zf_M_lays C a1 a2 a3 h)
theorem d_M_valueAt_0 : decode prog_14_method_12_code 0 = .ok (.iload_n 1, 1) := by decide +kernel
theorem d_M_valueAt_1 : decode prog_14_method_12_code 1 = .ok (.ifCond .ne (12), 3) := by decide +kernel
theorem d_M_valueAt_4 : decode prog_14_method_12_code 4 = .ok (.aload_n 0, 1) := by decide +kernel
theorem d_M_valueAt_5 : decode prog_14_method_12_code 5 = .ok (.getfield 20, 3) := by decide +kernel
theorem d_M_valueAt_8 : decode prog_14_method_12_code 8 = .ok (.iload_n 2, 1) := by decide +kernel
theorem d_M_valueAt_9 : decode prog_14_method_12_code 9 = .ok (.iaload, 1) := by decide +kernel
theorem d_M_valueAt_10 : decode prog_14_method_12_code 10 = .ok (.goto (37), 3) := by decide +kernel
theorem d_M_valueAt_13 : decode prog_14_method_12_code 13 = .ok (.iload_n 1, 1) := by decide +kernel
theorem d_M_valueAt_14 : decode prog_14_method_12_code 14 = .ok (.iconst 1, 1) := by decide +kernel
theorem d_M_valueAt_15 : decode prog_14_method_12_code 15 = .ok (.if_icmp .ne (12), 3) := by decide +kernel
theorem d_M_valueAt_18 : decode prog_14_method_12_code 18 = .ok (.aload_n 0, 1) := by decide +kernel
theorem d_M_valueAt_19 : decode prog_14_method_12_code 19 = .ok (.getfield 23, 3) := by decide +kernel
theorem d_M_valueAt_22 : decode prog_14_method_12_code 22 = .ok (.iload_n 2, 1) := by decide +kernel
theorem d_M_valueAt_23 : decode prog_14_method_12_code 23 = .ok (.iaload, 1) := by decide +kernel
theorem d_M_valueAt_24 : decode prog_14_method_12_code 24 = .ok (.goto (23), 3) := by decide +kernel
theorem d_M_valueAt_27 : decode prog_14_method_12_code 27 = .ok (.iload_n 1, 1) := by decide +kernel
theorem d_M_valueAt_28 : decode prog_14_method_12_code 28 = .ok (.iconst 2, 1) := by decide +kernel
theorem d_M_valueAt_29 : decode prog_14_method_12_code 29 = .ok (.if_icmp .ne (12), 3) := by decide +kernel
theorem d_M_valueAt_32 : decode prog_14_method_12_code 32 = .ok (.aload_n 0, 1) := by decide +kernel
theorem d_M_valueAt_33 : decode prog_14_method_12_code 33 = .ok (.getfield 29, 3) := by decide +kernel
theorem d_M_valueAt_36 : decode prog_14_method_12_code 36 = .ok (.iload_n 2, 1) := by decide +kernel
theorem d_M_valueAt_37 : decode prog_14_method_12_code 37 = .ok (.iaload, 1) := by decide +kernel
theorem d_M_valueAt_38 : decode prog_14_method_12_code 38 = .ok (.goto (9), 3) := by decide +kernel
theorem d_M_valueAt_41 : decode prog_14_method_12_code 41 = .ok (.aload_n 0, 1) := by decide +kernel
theorem d_M_valueAt_42 : decode prog_14_method_12_code 42 = .ok (.getfield 35, 3) := by decide +kernel
theorem d_M_valueAt_45 : decode prog_14_method_12_code 45 = .ok (.iload_n 2, 1) := by decide +kernel
theorem d_M_valueAt_46 : decode prog_14_method_12_code 46 = .ok (.iaload, 1) := by decide +kernel
theorem d_M_valueAt_47 : decode prog_14_method_12_code 47 = .ok (.ireturn, 1) := by decide +kernel
set_option maxHeartbeats 4000000 in
set_option maxRecDepth 100000 in
theorem zf_M_valueAt {G : zz_G} {l : Launch} {Z : zz_Z} {q : Int32} {s : zz_S} (C : zz_Cx G l "OneBlanketModel" "valueAt" prog_14_method_12_code 3 (some .int) 2 (some (.int q), zsh, s) Z) (a1 : Int32) (a2 : Int32) (h : f_M_valueAt a1 a2 s = some q) : Z 0 [some (.ref 79), some (.int a1), some (.int a2)] [] zsh s := by
  unfold f_M_valueAt at h
  refine zz_iload_n (i := 1) (pc := 0) C rfl rfl d_M_valueAt_0 ?_
  refine zz_if_ne (tgt := 13) (pc := 1) C (by decide) d_M_valueAt_1 (fun hc1 => ?_) (fun hc1 => ?_)
  · rw [if_neg hc1] at h
    refine zz_iload_n (i := 1) (pc := 13) C rfl rfl d_M_valueAt_13 ?_
    refine zz_iconst (pc := 14) C zki_1 d_M_valueAt_14 ?_
    refine zz_icmp_ne (tgt := 27) (pc := 15) C (by decide) d_M_valueAt_15 (fun hc2 => ?_) (fun hc2 => ?_)
    · rw [if_neg hc2] at h
      refine zz_iload_n (i := 1) (pc := 27) C rfl rfl d_M_valueAt_27 ?_
      refine zz_iconst (pc := 28) C zki_2 d_M_valueAt_28 ?_
      refine zz_icmp_ne (tgt := 41) (pc := 29) C (by decide) d_M_valueAt_29 (fun hc3 => ?_) (fun hc3 => ?_)
      · rw [if_neg hc3] at h
        refine zz_aload_n (i := 0) (pc := 41) C rfl rfl d_M_valueAt_41 ?_
        refine zz_getR (pc := 42) C zl_12_35 zsh_79 rfl d_M_valueAt_42 ?_
        refine zz_iload_n (i := 2) (pc := 45) C rfl rfl d_M_valueAt_45 ?_
        obtain ⟨hi4, h⟩ := zz_ckE h
        refine zz_iald (pc := 46) C rfl zsh_87 hi4 d_M_valueAt_46 ?_
        replace h := Option.some.inj h
        subst h
        exact zz_ret (pc := 47) C (v := some (.int (s.1 87 (a2.toNatClampNeg)))) d_M_valueAt_47 (Or.inl ⟨_, _, rfl, rfl, rfl, rfl⟩) rfl
      · rw [if_pos hc3] at h
        refine zz_aload_n (i := 0) (pc := 32) C rfl rfl d_M_valueAt_32 ?_
        refine zz_getR (pc := 33) C zl_12_29 zsh_79 rfl d_M_valueAt_33 ?_
        refine zz_iload_n (i := 2) (pc := 36) C rfl rfl d_M_valueAt_36 ?_
        obtain ⟨hi5, h⟩ := zz_ckE h
        refine zz_iald (pc := 37) C rfl zsh_85 hi5 d_M_valueAt_37 ?_
        refine zz_goto (tgt := 47) (pc := 38) C (by decide) d_M_valueAt_38 ?_
        replace h := Option.some.inj h
        subst h
        exact zz_ret (pc := 47) C (v := some (.int (s.1 85 (a2.toNatClampNeg)))) d_M_valueAt_47 (Or.inl ⟨_, _, rfl, rfl, rfl, rfl⟩) rfl
    · rw [if_pos hc2] at h
      refine zz_aload_n (i := 0) (pc := 18) C rfl rfl d_M_valueAt_18 ?_
      refine zz_getR (pc := 19) C zl_12_23 zsh_79 rfl d_M_valueAt_19 ?_
      refine zz_iload_n (i := 2) (pc := 22) C rfl rfl d_M_valueAt_22 ?_
      obtain ⟨hi6, h⟩ := zz_ckE h
      refine zz_iald (pc := 23) C rfl zsh_83 hi6 d_M_valueAt_23 ?_
      refine zz_goto (tgt := 47) (pc := 24) C (by decide) d_M_valueAt_24 ?_
      replace h := Option.some.inj h
      subst h
      exact zz_ret (pc := 47) C (v := some (.int (s.1 83 (a2.toNatClampNeg)))) d_M_valueAt_47 (Or.inl ⟨_, _, rfl, rfl, rfl, rfl⟩) rfl
  · rw [if_pos hc1] at h
    refine zz_aload_n (i := 0) (pc := 4) C rfl rfl d_M_valueAt_4 ?_
    refine zz_getR (pc := 5) C zl_12_20 zsh_79 rfl d_M_valueAt_5 ?_
    refine zz_iload_n (i := 2) (pc := 8) C rfl rfl d_M_valueAt_8 ?_
    obtain ⟨hi7, h⟩ := zz_ckE h
    refine zz_iald (pc := 9) C rfl zsh_82 hi7 d_M_valueAt_9 ?_
    refine zz_goto (tgt := 47) (pc := 10) C (by decide) d_M_valueAt_10 ?_
    replace h := Option.some.inj h
    subst h
    exact zz_ret (pc := 47) C (v := some (.int (s.1 82 (a2.toNatClampNeg)))) d_M_valueAt_47 (Or.inl ⟨_, _, rfl, rfl, rfl, rfl⟩) rfl
theorem zm_M_valueAt {G : zz_G} {l : Launch} {s : zz_S} {q : Int32} {a1 : Int32} {a2 : Int32} (h : f_M_valueAt a1 a2 s = some q) : zz_M G l 2 y_M_valueAt prog_14_method_12_code 3 (some .int) [.ref 79, .int a1, .int a2] zsh s (some (.int q), zsh, s) :=
  zz_M.intro (by decide) (Nat.le_of_ble_eq_true rfl) (Nat.le_refl _) (Nat.le_refl _) (fun Z C => zf_M_valueAt C a1 a2 h)
theorem d_M_changes_0 : decode prog_14_method_14_code 0 = .ok (.aload_n 0, 1) := by decide +kernel
theorem d_M_changes_1 : decode prog_14_method_14_code 1 = .ok (.iload_n 1, 1) := by decide +kernel
theorem d_M_changes_2 : decode prog_14_method_14_code 2 = .ok (.iload_n 2, 1) := by decide +kernel
theorem d_M_changes_3 : decode prog_14_method_14_code 3 = .ok (.invokevirtual 165, 3) := by decide +kernel
theorem d_M_changes_6 : decode prog_14_method_14_code 6 = .ok (.istore 4, 2) := by decide +kernel
theorem d_M_changes_8 : decode prog_14_method_14_code 8 = .ok (.iload 4, 2) := by decide +kernel
theorem d_M_changes_10 : decode prog_14_method_14_code 10 = .ok (.iload_n 3, 1) := by decide +kernel
theorem d_M_changes_11 : decode prog_14_method_14_code 11 = .ok (.if_icmp .ne (6), 3) := by decide +kernel
theorem d_M_changes_14 : decode prog_14_method_14_code 14 = .ok (.iload 4, 2) := by decide +kernel
theorem d_M_changes_16 : decode prog_14_method_14_code 16 = .ok (.ireturn, 1) := by decide +kernel
theorem d_M_changes_17 : decode prog_14_method_14_code 17 = .ok (.aload_n 0, 1) := by decide +kernel
theorem d_M_changes_18 : decode prog_14_method_14_code 18 = .ok (.iconst 0, 1) := by decide +kernel
theorem d_M_changes_19 : decode prog_14_method_14_code 19 = .ok (.putfield 169, 3) := by decide +kernel
theorem d_M_changes_22 : decode prog_14_method_14_code 22 = .ok (.aload_n 0, 1) := by decide +kernel
theorem d_M_changes_23 : decode prog_14_method_14_code 23 = .ok (.getfield 172, 3) := by decide +kernel
theorem d_M_changes_26 : decode prog_14_method_14_code 26 = .ok (.bipush (40), 2) := by decide +kernel
theorem d_M_changes_28 : decode prog_14_method_14_code 28 = .ok (.if_icmp .ne (93), 3) := by decide +kernel
theorem d_M_changes_31 : decode prog_14_method_14_code 31 = .ok (.iconst 1, 1) := by decide +kernel
theorem d_M_changes_32 : decode prog_14_method_14_code 32 = .ok (.istore 5, 2) := by decide +kernel
theorem d_M_changes_34 : decode prog_14_method_14_code 34 = .ok (.iload 5, 2) := by decide +kernel
theorem d_M_changes_36 : decode prog_14_method_14_code 36 = .ok (.bipush (40), 2) := by decide +kernel
theorem d_M_changes_38 : decode prog_14_method_14_code 38 = .ok (.if_icmp .ge (73), 3) := by decide +kernel
theorem d_M_changes_41 : decode prog_14_method_14_code 41 = .ok (.aload_n 0, 1) := by decide +kernel
theorem d_M_changes_42 : decode prog_14_method_14_code 42 = .ok (.getfield 47, 3) := by decide +kernel
theorem d_M_changes_45 : decode prog_14_method_14_code 45 = .ok (.iload 5, 2) := by decide +kernel
theorem d_M_changes_47 : decode prog_14_method_14_code 47 = .ok (.iconst 1, 1) := by decide +kernel
theorem d_M_changes_48 : decode prog_14_method_14_code 48 = .ok (.isub, 1) := by decide +kernel
theorem d_M_changes_49 : decode prog_14_method_14_code 49 = .ok (.aload_n 0, 1) := by decide +kernel
theorem d_M_changes_50 : decode prog_14_method_14_code 50 = .ok (.getfield 47, 3) := by decide +kernel
theorem d_M_changes_53 : decode prog_14_method_14_code 53 = .ok (.iload 5, 2) := by decide +kernel
theorem d_M_changes_55 : decode prog_14_method_14_code 55 = .ok (.iaload, 1) := by decide +kernel
theorem d_M_changes_56 : decode prog_14_method_14_code 56 = .ok (.iastore, 1) := by decide +kernel
theorem d_M_changes_57 : decode prog_14_method_14_code 57 = .ok (.aload_n 0, 1) := by decide +kernel
theorem d_M_changes_58 : decode prog_14_method_14_code 58 = .ok (.getfield 50, 3) := by decide +kernel
theorem d_M_changes_61 : decode prog_14_method_14_code 61 = .ok (.iload 5, 2) := by decide +kernel
theorem d_M_changes_63 : decode prog_14_method_14_code 63 = .ok (.iconst 1, 1) := by decide +kernel
theorem d_M_changes_64 : decode prog_14_method_14_code 64 = .ok (.isub, 1) := by decide +kernel
theorem d_M_changes_65 : decode prog_14_method_14_code 65 = .ok (.aload_n 0, 1) := by decide +kernel
theorem d_M_changes_66 : decode prog_14_method_14_code 66 = .ok (.getfield 50, 3) := by decide +kernel
theorem d_M_changes_69 : decode prog_14_method_14_code 69 = .ok (.iload 5, 2) := by decide +kernel
theorem d_M_changes_71 : decode prog_14_method_14_code 71 = .ok (.iaload, 1) := by decide +kernel
theorem d_M_changes_72 : decode prog_14_method_14_code 72 = .ok (.iastore, 1) := by decide +kernel
theorem d_M_changes_73 : decode prog_14_method_14_code 73 = .ok (.aload_n 0, 1) := by decide +kernel
theorem d_M_changes_74 : decode prog_14_method_14_code 74 = .ok (.getfield 53, 3) := by decide +kernel
theorem d_M_changes_77 : decode prog_14_method_14_code 77 = .ok (.iload 5, 2) := by decide +kernel
theorem d_M_changes_79 : decode prog_14_method_14_code 79 = .ok (.iconst 1, 1) := by decide +kernel
theorem d_M_changes_80 : decode prog_14_method_14_code 80 = .ok (.isub, 1) := by decide +kernel
theorem d_M_changes_81 : decode prog_14_method_14_code 81 = .ok (.aload_n 0, 1) := by decide +kernel
theorem d_M_changes_82 : decode prog_14_method_14_code 82 = .ok (.getfield 53, 3) := by decide +kernel
theorem d_M_changes_85 : decode prog_14_method_14_code 85 = .ok (.iload 5, 2) := by decide +kernel
theorem d_M_changes_87 : decode prog_14_method_14_code 87 = .ok (.iaload, 1) := by decide +kernel
theorem d_M_changes_88 : decode prog_14_method_14_code 88 = .ok (.iastore, 1) := by decide +kernel
theorem d_M_changes_89 : decode prog_14_method_14_code 89 = .ok (.aload_n 0, 1) := by decide +kernel
theorem d_M_changes_90 : decode prog_14_method_14_code 90 = .ok (.getfield 56, 3) := by decide +kernel
theorem d_M_changes_93 : decode prog_14_method_14_code 93 = .ok (.iload 5, 2) := by decide +kernel
theorem d_M_changes_95 : decode prog_14_method_14_code 95 = .ok (.iconst 1, 1) := by decide +kernel
theorem d_M_changes_96 : decode prog_14_method_14_code 96 = .ok (.isub, 1) := by decide +kernel
theorem d_M_changes_97 : decode prog_14_method_14_code 97 = .ok (.aload_n 0, 1) := by decide +kernel
theorem d_M_changes_98 : decode prog_14_method_14_code 98 = .ok (.getfield 56, 3) := by decide +kernel
theorem d_M_changes_101 : decode prog_14_method_14_code 101 = .ok (.iload 5, 2) := by decide +kernel
theorem d_M_changes_103 : decode prog_14_method_14_code 103 = .ok (.iaload, 1) := by decide +kernel
theorem d_M_changes_104 : decode prog_14_method_14_code 104 = .ok (.iastore, 1) := by decide +kernel
theorem d_M_changes_105 : decode prog_14_method_14_code 105 = .ok (.iinc 5 (1), 3) := by decide +kernel
theorem d_M_changes_108 : decode prog_14_method_14_code 108 = .ok (.goto (-74), 3) := by decide +kernel
theorem d_M_changes_111 : decode prog_14_method_14_code 111 = .ok (.aload_n 0, 1) := by decide +kernel
theorem d_M_changes_112 : decode prog_14_method_14_code 112 = .ok (.dup, 1) := by decide +kernel
theorem d_M_changes_113 : decode prog_14_method_14_code 113 = .ok (.getfield 172, 3) := by decide +kernel
theorem d_M_changes_116 : decode prog_14_method_14_code 116 = .ok (.iconst 1, 1) := by decide +kernel
theorem d_M_changes_117 : decode prog_14_method_14_code 117 = .ok (.isub, 1) := by decide +kernel
theorem d_M_changes_118 : decode prog_14_method_14_code 118 = .ok (.putfield 172, 3) := by decide +kernel
theorem d_M_changes_121 : decode prog_14_method_14_code 121 = .ok (.aload_n 0, 1) := by decide +kernel
theorem d_M_changes_122 : decode prog_14_method_14_code 122 = .ok (.getfield 47, 3) := by decide +kernel
theorem d_M_changes_125 : decode prog_14_method_14_code 125 = .ok (.aload_n 0, 1) := by decide +kernel
theorem d_M_changes_126 : decode prog_14_method_14_code 126 = .ok (.getfield 172, 3) := by decide +kernel
theorem d_M_changes_129 : decode prog_14_method_14_code 129 = .ok (.iload_n 1, 1) := by decide +kernel
theorem d_M_changes_130 : decode prog_14_method_14_code 130 = .ok (.iastore, 1) := by decide +kernel
theorem d_M_changes_131 : decode prog_14_method_14_code 131 = .ok (.aload_n 0, 1) := by decide +kernel
theorem d_M_changes_132 : decode prog_14_method_14_code 132 = .ok (.getfield 50, 3) := by decide +kernel
theorem d_M_changes_135 : decode prog_14_method_14_code 135 = .ok (.aload_n 0, 1) := by decide +kernel
theorem d_M_changes_136 : decode prog_14_method_14_code 136 = .ok (.getfield 172, 3) := by decide +kernel
theorem d_M_changes_139 : decode prog_14_method_14_code 139 = .ok (.iload_n 2, 1) := by decide +kernel
theorem d_M_changes_140 : decode prog_14_method_14_code 140 = .ok (.iastore, 1) := by decide +kernel
theorem d_M_changes_141 : decode prog_14_method_14_code 141 = .ok (.aload_n 0, 1) := by decide +kernel
theorem d_M_changes_142 : decode prog_14_method_14_code 142 = .ok (.getfield 53, 3) := by decide +kernel
theorem d_M_changes_145 : decode prog_14_method_14_code 145 = .ok (.aload_n 0, 1) := by decide +kernel
theorem d_M_changes_146 : decode prog_14_method_14_code 146 = .ok (.getfield 172, 3) := by decide +kernel
theorem d_M_changes_149 : decode prog_14_method_14_code 149 = .ok (.iload 4, 2) := by decide +kernel
theorem d_M_changes_151 : decode prog_14_method_14_code 151 = .ok (.iastore, 1) := by decide +kernel
theorem d_M_changes_152 : decode prog_14_method_14_code 152 = .ok (.aload_n 0, 1) := by decide +kernel
theorem d_M_changes_153 : decode prog_14_method_14_code 153 = .ok (.getfield 56, 3) := by decide +kernel
theorem d_M_changes_156 : decode prog_14_method_14_code 156 = .ok (.aload_n 0, 1) := by decide +kernel
theorem d_M_changes_157 : decode prog_14_method_14_code 157 = .ok (.getfield 172, 3) := by decide +kernel
theorem d_M_changes_160 : decode prog_14_method_14_code 160 = .ok (.iload_n 3, 1) := by decide +kernel
theorem d_M_changes_161 : decode prog_14_method_14_code 161 = .ok (.iastore, 1) := by decide +kernel
theorem d_M_changes_162 : decode prog_14_method_14_code 162 = .ok (.aload_n 0, 1) := by decide +kernel
theorem d_M_changes_163 : decode prog_14_method_14_code 163 = .ok (.dup, 1) := by decide +kernel
theorem d_M_changes_164 : decode prog_14_method_14_code 164 = .ok (.getfield 172, 3) := by decide +kernel
theorem d_M_changes_167 : decode prog_14_method_14_code 167 = .ok (.iconst 1, 1) := by decide +kernel
theorem d_M_changes_168 : decode prog_14_method_14_code 168 = .ok (.iadd, 1) := by decide +kernel
theorem d_M_changes_169 : decode prog_14_method_14_code 169 = .ok (.putfield 172, 3) := by decide +kernel
theorem d_M_changes_172 : decode prog_14_method_14_code 172 = .ok (.aload_n 0, 1) := by decide +kernel
theorem d_M_changes_173 : decode prog_14_method_14_code 173 = .ok (.iload_n 1, 1) := by decide +kernel
theorem d_M_changes_174 : decode prog_14_method_14_code 174 = .ok (.iload_n 2, 1) := by decide +kernel
theorem d_M_changes_175 : decode prog_14_method_14_code 175 = .ok (.iload_n 3, 1) := by decide +kernel
theorem d_M_changes_176 : decode prog_14_method_14_code 176 = .ok (.invokevirtual 175, 3) := by decide +kernel
theorem d_M_changes_179 : decode prog_14_method_14_code 179 = .ok (.iload 4, 2) := by decide +kernel
theorem d_M_changes_181 : decode prog_14_method_14_code 181 = .ok (.ireturn, 1) := by decide +kernel
set_option maxHeartbeats 4000000 in
set_option maxRecDepth 100000 in
theorem zf_M_changes_J121 {G : zz_G} {l : Launch} {Z : zz_Z} {q : Int32 × zz_S} {s : zz_S} (C : zz_Cx G l "OneBlanketModel" "changes" prog_14_method_14_code 6 (some .int) 3 (some (.int q.1), zsh, q.2) Z) (v1 : Int32) (v2 : Int32) (v3 : Int32) (v4 : Int32) (h : f_M_changes_J121 v1 v2 v3 v4 s = some q) : Z 121 [some (.ref 79), some (.int v1), some (.int v2), some (.int v3), some (.int v4), none] [] zsh s := by
  unfold f_M_changes_J121 at h
  refine zz_aload_n (i := 0) (pc := 121) C rfl rfl d_M_changes_121 ?_
  refine zz_getR (pc := 122) C zl_12_47 zsh_79 rfl d_M_changes_122 ?_
  refine zz_aload_n (i := 0) (pc := 125) C rfl rfl d_M_changes_125 ?_
  refine zz_getI (pc := 126) C zl_12_172 zsh_79 rfl d_M_changes_126 ?_
  refine zz_iload_n (i := 1) (pc := 129) C rfl rfl d_M_changes_129 ?_
  obtain ⟨hi4, h⟩ := zz_ckE h
  refine zz_iast (pc := 130) C rfl zsh_91 hi4 d_M_changes_130 ?_
  refine zz_aload_n (i := 0) (pc := 131) C rfl rfl d_M_changes_131 ?_
  refine zz_getR (pc := 132) C zl_12_50 zsh_79 rfl d_M_changes_132 ?_
  refine zz_aload_n (i := 0) (pc := 135) C rfl rfl d_M_changes_135 ?_
  refine zz_getIv (v := (s.1 79 16)) (pc := 136) C zl_12_172 zsh_79 rfl rfl d_M_changes_136 ?_
  refine zz_iload_n (i := 2) (pc := 139) C rfl rfl d_M_changes_139 ?_
  refine zz_iast (pc := 140) C rfl zsh_92 hi4 d_M_changes_140 ?_
  refine zz_aload_n (i := 0) (pc := 141) C rfl rfl d_M_changes_141 ?_
  refine zz_getR (pc := 142) C zl_12_53 zsh_79 rfl d_M_changes_142 ?_
  refine zz_aload_n (i := 0) (pc := 145) C rfl rfl d_M_changes_145 ?_
  refine zz_getIv (v := (s.1 79 16)) (pc := 146) C zl_12_172 zsh_79 rfl rfl d_M_changes_146 ?_
  refine zz_iload (i := 4) (pc := 149) C rfl d_M_changes_149 ?_
  refine zz_iast (pc := 151) C rfl zsh_93 hi4 d_M_changes_151 ?_
  refine zz_aload_n (i := 0) (pc := 152) C rfl rfl d_M_changes_152 ?_
  refine zz_getR (pc := 153) C zl_12_56 zsh_79 rfl d_M_changes_153 ?_
  refine zz_aload_n (i := 0) (pc := 156) C rfl rfl d_M_changes_156 ?_
  refine zz_getIv (v := (s.1 79 16)) (pc := 157) C zl_12_172 zsh_79 rfl rfl d_M_changes_157 ?_
  refine zz_iload_n (i := 3) (pc := 160) C rfl rfl d_M_changes_160 ?_
  refine zz_iast (pc := 161) C rfl zsh_94 hi4 d_M_changes_161 ?_
  refine zz_aload_n (i := 0) (pc := 162) C rfl rfl d_M_changes_162 ?_
  refine zz_dup (pc := 163) C rfl d_M_changes_163 ?_
  refine zz_getIv (v := (s.1 79 16)) (pc := 164) C zl_12_172 zsh_79 rfl rfl d_M_changes_164 ?_
  refine zz_iconst (pc := 167) C zki_1 d_M_changes_167 ?_
  refine zz_iadd (pc := 168) C d_M_changes_168 ?_
  refine zz_putI' (pc := 169) C zl_12_172 zpf_12_16 zsh_79 rfl d_M_changes_169 ?_
  refine zz_aload_n (i := 0) (pc := 172) C rfl rfl d_M_changes_172 ?_
  refine zz_iload_n (i := 1) (pc := 173) C rfl rfl d_M_changes_173 ?_
  refine zz_iload_n (i := 2) (pc := 174) C rfl rfl d_M_changes_174 ?_
  refine zz_iload_n (i := 3) (pc := 175) C rfl rfl d_M_changes_175 ?_
  obtain ⟨q5, hq5, h⟩ := zz_bdE h
  refine zz_cVv (as := [.int v1, .int v2, .int v3]) (st := []) (pc := 176) C (zm_M_lays hq5) zcv_M_lays zsh_79 zl_12_175 (by omega) (Nat.le_of_ble_eq_true rfl) d_M_changes_176 rfl rfl ?_
  refine zz_iload (i := 4) (pc := 179) C rfl d_M_changes_179 ?_
  replace h := Option.some.inj h
  subst h
  exact zz_ret (pc := 181) C (v := some (.int v4)) d_M_changes_181 (Or.inl ⟨_, _, rfl, rfl, rfl, rfl⟩) rfl
set_option maxHeartbeats 4000000 in
set_option maxRecDepth 100000 in
theorem zf_M_changes_L34 {G : zz_G} {l : Launch} {Z : zz_Z} {q : Int32 × zz_S} (C : zz_Cx G l "OneBlanketModel" "changes" prog_14_method_14_code 6 (some .int) 3 (some (.int q.1), zsh, q.2) Z) : ∀ (n : Nat) (v1 : Int32) (v2 : Int32) (v3 : Int32) (v4 : Int32) (v5 : Int32) (s : zz_S), f_M_changes_L34 n v1 v2 v3 v4 v5 s = some q → Z 34 [some (.ref 79), some (.int v1), some (.int v2), some (.int v3), some (.int v4), some (.int v5)] [] zsh s := by
  intro n
  induction n with
  | zero => intro v1 v2 v3 v4 v5 s h; rw [f_M_changes_L34] at h; cases h
  | succ n ih =>
  intro v1 v2 v3 v4 v5 s h
  rw [f_M_changes_L34] at h
  refine zz_iload (i := 5) (pc := 34) C rfl d_M_changes_34 ?_
  refine zz_bipush (pc := 36) C zkb_40 d_M_changes_36 ?_
  refine zz_icmp_ge (tgt := 111) (pc := 38) C (by decide) d_M_changes_38 (fun hc6 => ?_) (fun hc6 => ?_)
  · rw [if_pos hc6] at h
    refine zz_aload_n (i := 0) (pc := 111) C rfl rfl d_M_changes_111 ?_
    refine zz_dup (pc := 112) C rfl d_M_changes_112 ?_
    refine zz_getI (pc := 113) C zl_12_172 zsh_79 rfl d_M_changes_113 ?_
    refine zz_iconst (pc := 116) C zki_1 d_M_changes_116 ?_
    refine zz_isub (pc := 117) C d_M_changes_117 ?_
    refine zz_putI' (pc := 118) C zl_12_172 zpf_12_16 zsh_79 rfl d_M_changes_118 ?_
    refine zz_fg C [true, true, true, true, true, false] rfl rfl ?_
    exact zf_M_changes_J121 C v1 v2 v3 v4 h
  · rw [if_neg hc6] at h
    refine zz_aload_n (i := 0) (pc := 41) C rfl rfl d_M_changes_41 ?_
    refine zz_getR (pc := 42) C zl_12_47 zsh_79 rfl d_M_changes_42 ?_
    refine zz_iload (i := 5) (pc := 45) C rfl d_M_changes_45 ?_
    refine zz_iconst (pc := 47) C zki_1 d_M_changes_47 ?_
    refine zz_isub (pc := 48) C d_M_changes_48 ?_
    refine zz_aload_n (i := 0) (pc := 49) C rfl rfl d_M_changes_49 ?_
    refine zz_getR (pc := 50) C zl_12_47 zsh_79 rfl d_M_changes_50 ?_
    refine zz_iload (i := 5) (pc := 53) C rfl d_M_changes_53 ?_
    obtain ⟨hi7, h⟩ := zz_ckE h
    refine zz_iald (pc := 55) C rfl zsh_91 hi7 d_M_changes_55 ?_
    obtain ⟨hi8, h⟩ := zz_ckE h
    refine zz_iast (pc := 56) C rfl zsh_91 hi8 d_M_changes_56 ?_
    refine zz_aload_n (i := 0) (pc := 57) C rfl rfl d_M_changes_57 ?_
    refine zz_getR (pc := 58) C zl_12_50 zsh_79 rfl d_M_changes_58 ?_
    refine zz_iload (i := 5) (pc := 61) C rfl d_M_changes_61 ?_
    refine zz_iconst (pc := 63) C zki_1 d_M_changes_63 ?_
    refine zz_isub (pc := 64) C d_M_changes_64 ?_
    refine zz_aload_n (i := 0) (pc := 65) C rfl rfl d_M_changes_65 ?_
    refine zz_getR (pc := 66) C zl_12_50 zsh_79 rfl d_M_changes_66 ?_
    refine zz_iload (i := 5) (pc := 69) C rfl d_M_changes_69 ?_
    refine zz_ialdv (v := (s.1 92 (v5.toNatClampNeg))) (pc := 71) C rfl zsh_92 hi7 rfl d_M_changes_71 ?_
    refine zz_iast (pc := 72) C rfl zsh_92 hi8 d_M_changes_72 ?_
    refine zz_aload_n (i := 0) (pc := 73) C rfl rfl d_M_changes_73 ?_
    refine zz_getR (pc := 74) C zl_12_53 zsh_79 rfl d_M_changes_74 ?_
    refine zz_iload (i := 5) (pc := 77) C rfl d_M_changes_77 ?_
    refine zz_iconst (pc := 79) C zki_1 d_M_changes_79 ?_
    refine zz_isub (pc := 80) C d_M_changes_80 ?_
    refine zz_aload_n (i := 0) (pc := 81) C rfl rfl d_M_changes_81 ?_
    refine zz_getR (pc := 82) C zl_12_53 zsh_79 rfl d_M_changes_82 ?_
    refine zz_iload (i := 5) (pc := 85) C rfl d_M_changes_85 ?_
    refine zz_ialdv (v := (s.1 93 (v5.toNatClampNeg))) (pc := 87) C rfl zsh_93 hi7 rfl d_M_changes_87 ?_
    refine zz_iast (pc := 88) C rfl zsh_93 hi8 d_M_changes_88 ?_
    refine zz_aload_n (i := 0) (pc := 89) C rfl rfl d_M_changes_89 ?_
    refine zz_getR (pc := 90) C zl_12_56 zsh_79 rfl d_M_changes_90 ?_
    refine zz_iload (i := 5) (pc := 93) C rfl d_M_changes_93 ?_
    refine zz_iconst (pc := 95) C zki_1 d_M_changes_95 ?_
    refine zz_isub (pc := 96) C d_M_changes_96 ?_
    refine zz_aload_n (i := 0) (pc := 97) C rfl rfl d_M_changes_97 ?_
    refine zz_getR (pc := 98) C zl_12_56 zsh_79 rfl d_M_changes_98 ?_
    refine zz_iload (i := 5) (pc := 101) C rfl d_M_changes_101 ?_
    refine zz_ialdv (v := (s.1 94 (v5.toNatClampNeg))) (pc := 103) C rfl zsh_94 hi7 rfl d_M_changes_103 ?_
    refine zz_iast (pc := 104) C rfl zsh_94 hi8 d_M_changes_104 ?_
    refine zz_iinc (lo' := [some (.ref 79), some (.int v1), some (.int v2), some (.int v3), some (.int v4), some (.int (v5 + (1 : Int32)))]) (pc := 105) C rfl (zz_inc zki_1) rfl rfl d_M_changes_105 ?_
    refine zz_goto (tgt := 34) (pc := 108) C (by decide) d_M_changes_108 ?_
    exact ih v1 v2 v3 v4 (v5 + (1 : Int32)) (zz_w (zz_w (zz_w (zz_w s 91 ((v5 - (1 : Int32)).toNatClampNeg) (s.1 91 (v5.toNatClampNeg))) 92 ((v5 - (1 : Int32)).toNatClampNeg) (s.1 92 (v5.toNatClampNeg))) 93 ((v5 - (1 : Int32)).toNatClampNeg) (s.1 93 (v5.toNatClampNeg))) 94 ((v5 - (1 : Int32)).toNatClampNeg) (s.1 94 (v5.toNatClampNeg))) h
set_option maxHeartbeats 4000000 in
set_option maxRecDepth 100000 in
theorem zf_M_changes {G : zz_G} {l : Launch} {Z : zz_Z} {q : Int32 × zz_S} {s : zz_S} (C : zz_Cx G l "OneBlanketModel" "changes" prog_14_method_14_code 6 (some .int) 3 (some (.int q.1), zsh, q.2) Z) (a1 : Int32) (a2 : Int32) (a3 : Int32) (h : f_M_changes a1 a2 a3 s = some q) : Z 0 [some (.ref 79), some (.int a1), some (.int a2), some (.int a3), none, none] [] zsh s := by
  unfold f_M_changes at h
  refine zz_aload_n (i := 0) (pc := 0) C rfl rfl d_M_changes_0 ?_
  refine zz_iload_n (i := 1) (pc := 1) C rfl rfl d_M_changes_1 ?_
  refine zz_iload_n (i := 2) (pc := 2) C rfl rfl d_M_changes_2 ?_
  obtain ⟨q1, hq1, h⟩ := zz_bdE h
  refine zz_cVi (as := [.int a1, .int a2]) (st := []) (pc := 3) C (zm_M_valueAt hq1) zcv_M_valueAt zsh_79 zl_12_165 (by omega) (Nat.le_of_ble_eq_true rfl) d_M_changes_3 rfl rfl ?_
  refine zz_istore (i := 4) (lo' := [some (.ref 79), some (.int a1), some (.int a2), some (.int a3), some (.int q1), none]) (pc := 6) C (Nat.le_of_ble_eq_true rfl) rfl rfl d_M_changes_6 ?_
  refine zz_iload (i := 4) (pc := 8) C rfl d_M_changes_8 ?_
  refine zz_iload_n (i := 3) (pc := 10) C rfl rfl d_M_changes_10 ?_
  refine zz_icmp_ne (tgt := 17) (pc := 11) C (by decide) d_M_changes_11 (fun hc2 => ?_) (fun hc2 => ?_)
  · rw [if_neg hc2] at h
    refine zz_aload_n (i := 0) (pc := 17) C rfl rfl d_M_changes_17 ?_
    refine zz_iconst (pc := 18) C zki_0 d_M_changes_18 ?_
    refine zz_putI' (pc := 19) C zl_12_169 zpf_12_17 zsh_79 rfl d_M_changes_19 ?_
    refine zz_aload_n (i := 0) (pc := 22) C rfl rfl d_M_changes_22 ?_
    refine zz_getIv (v := (s.1 79 16)) (pc := 23) C zl_12_172 zsh_79 rfl rfl d_M_changes_23 ?_
    refine zz_bipush (pc := 26) C zkb_40 d_M_changes_26 ?_
    refine zz_icmp_ne (tgt := 121) (pc := 28) C (by decide) d_M_changes_28 (fun hc3 => ?_) (fun hc3 => ?_)
    · rw [if_neg hc3] at h
      exact zf_M_changes_J121 C a1 a2 a3 q1 h
    · rw [if_pos hc3] at h
      refine zz_iconst (pc := 31) C zki_1 d_M_changes_31 ?_
      refine zz_istore (i := 5) (lo' := [some (.ref 79), some (.int a1), some (.int a2), some (.int a3), some (.int q1), some (.int (1 : Int32))]) (pc := 32) C (Nat.le_of_ble_eq_true rfl) rfl rfl d_M_changes_32 ?_
      exact zf_M_changes_L34 C zF a1 a2 a3 q1 (1 : Int32) (zz_w s 79 17 (0 : Int32)) h
  · rw [if_pos hc2] at h
    refine zz_iload (i := 4) (pc := 14) C rfl d_M_changes_14 ?_
    replace h := Option.some.inj h
    subst h
    exact zz_ret (pc := 16) C (v := some (.int q1)) d_M_changes_16 (Or.inl ⟨_, _, rfl, rfl, rfl, rfl⟩) rfl
theorem zm_M_changes {G : zz_G} {l : Launch} {s : zz_S} {q : Int32 × zz_S} {a1 : Int32} {a2 : Int32} {a3 : Int32} (h : f_M_changes a1 a2 a3 s = some q) : zz_M G l 3 y_M_changes prog_14_method_14_code 6 (some .int) [.ref 79, .int a1, .int a2, .int a3] zsh s (some (.int q.1), zsh, q.2) :=
  zz_M.intro (by decide) (Nat.le_of_ble_eq_true rfl) (Nat.le_refl _) (Nat.le_refl _) (fun Z C => zf_M_changes C a1 a2 a3 h)
theorem d_M_clear_0 : decode prog_14_method_45_code 0 = .ok (.aload_n 0, 1) := by decide +kernel
theorem d_M_clear_1 : decode prog_14_method_45_code 1 = .ok (.getfield 191, 3) := by decide +kernel
theorem d_M_clear_4 : decode prog_14_method_45_code 4 = .ok (.istore_n 1, 1) := by decide +kernel
theorem d_M_clear_5 : decode prog_14_method_45_code 5 = .ok (.aload_n 0, 1) := by decide +kernel
theorem d_M_clear_6 : decode prog_14_method_45_code 6 = .ok (.iconst 0, 1) := by decide +kernel
theorem d_M_clear_7 : decode prog_14_method_45_code 7 = .ok (.putfield 191, 3) := by decide +kernel
theorem d_M_clear_10 : decode prog_14_method_45_code 10 = .ok (.iload_n 1, 1) := by decide +kernel
theorem d_M_clear_11 : decode prog_14_method_45_code 11 = .ok (.ireturn, 1) := by decide +kernel
set_option maxHeartbeats 4000000 in
set_option maxRecDepth 100000 in
theorem zf_M_clear {G : zz_G} {l : Launch} {Z : zz_Z} {q : Int32 × zz_S} {s : zz_S} (C : zz_Cx G l "OneBlanketModel" "clear" prog_14_method_45_code 2 (some .int) 2 (some (.int q.1), zsh, q.2) Z) (h : f_M_clear s = some q) : Z 0 [some (.ref 79), none] [] zsh s := by
  unfold f_M_clear at h
  refine zz_aload_n (i := 0) (pc := 0) C rfl rfl d_M_clear_0 ?_
  refine zz_getI (pc := 1) C zl_12_191 zsh_79 rfl d_M_clear_1 ?_
  refine zz_istore_n (i := 1) (lo' := [some (.ref 79), some (.int (s.1 79 12))]) (pc := 4) C rfl (Nat.le_of_ble_eq_true rfl) rfl rfl d_M_clear_4 ?_
  refine zz_aload_n (i := 0) (pc := 5) C rfl rfl d_M_clear_5 ?_
  refine zz_iconst (pc := 6) C zki_0 d_M_clear_6 ?_
  refine zz_putI' (pc := 7) C zl_12_191 zpf_12_12 zsh_79 rfl d_M_clear_7 ?_
  refine zz_iload_n (i := 1) (pc := 10) C rfl rfl d_M_clear_10 ?_
  replace h := Option.some.inj h
  subst h
  exact zz_ret (pc := 11) C (v := some (.int (s.1 79 12))) d_M_clear_11 (Or.inl ⟨_, _, rfl, rfl, rfl, rfl⟩) rfl
theorem zm_M_clear {G : zz_G} {l : Launch} {s : zz_S} {q : Int32 × zz_S} (h : f_M_clear s = some q) : zz_M G l 2 y_M_clear prog_14_method_45_code 2 (some .int) [.ref 79] zsh s (some (.int q.1), zsh, q.2) :=
  zz_M.intro (by decide) (Nat.le_of_ble_eq_true rfl) (Nat.le_refl _) (Nat.le_refl _) (fun Z C => zf_M_clear C h)
