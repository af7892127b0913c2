theorem d_M_law_0 : decode prog_14_method_37_code 0 = .ok (.aload_n 0, 1) := by decide +kernel
theorem d_M_law_1 : decode prog_14_method_37_code 1 = .ok (.getfield 258, 3) := by decide +kernel
theorem d_M_law_4 : decode prog_14_method_37_code 4 = .ok (.iconst 4, 1) := by decide +kernel
theorem d_M_law_5 : decode prog_14_method_37_code 5 = .ok (.if_icmp .ne (6), 3) := by decide +kernel
theorem d_M_law_8 : decode prog_14_method_37_code 8 = .ok (.bipush (-3), 2) := by decide +kernel
theorem d_M_law_10 : decode prog_14_method_37_code 10 = .ok (.ireturn, 1) := by decide +kernel
theorem d_M_law_11 : decode prog_14_method_37_code 11 = .ok (.aload_n 0, 1) := by decide +kernel
theorem d_M_law_12 : decode prog_14_method_37_code 12 = .ok (.aload_n 0, 1) := by decide +kernel
theorem d_M_law_13 : decode prog_14_method_37_code 13 = .ok (.getfield 258, 3) := by decide +kernel
theorem d_M_law_16 : decode prog_14_method_37_code 16 = .ok (.invokevirtual 261, 3) := by decide +kernel
theorem d_M_law_19 : decode prog_14_method_37_code 19 = .ok (.istore_n 1, 1) := by decide +kernel
theorem d_M_law_20 : decode prog_14_method_37_code 20 = .ok (.iload_n 1, 1) := by decide +kernel
theorem d_M_law_21 : decode prog_14_method_37_code 21 = .ok (.ifCond .lt (8), 3) := by decide +kernel
theorem d_M_law_24 : decode prog_14_method_37_code 24 = .ok (.bipush (-100), 2) := by decide +kernel
theorem d_M_law_26 : decode prog_14_method_37_code 26 = .ok (.iload_n 1, 1) := by decide +kernel
theorem d_M_law_27 : decode prog_14_method_37_code 27 = .ok (.isub, 1) := by decide +kernel
theorem d_M_law_28 : decode prog_14_method_37_code 28 = .ok (.ireturn, 1) := by decide +kernel
theorem d_M_law_29 : decode prog_14_method_37_code 29 = .ok (.aload_n 0, 1) := by decide +kernel
theorem d_M_law_30 : decode prog_14_method_37_code 30 = .ok (.dup, 1) := by decide +kernel
theorem d_M_law_31 : decode prog_14_method_37_code 31 = .ok (.getfield 258, 3) := by decide +kernel
theorem d_M_law_34 : decode prog_14_method_37_code 34 = .ok (.iconst 1, 1) := by decide +kernel
theorem d_M_law_35 : decode prog_14_method_37_code 35 = .ok (.iadd, 1) := by decide +kernel
theorem d_M_law_36 : decode prog_14_method_37_code 36 = .ok (.putfield 258, 3) := by decide +kernel
theorem d_M_law_39 : decode prog_14_method_37_code 39 = .ok (.aload_n 0, 1) := by decide +kernel
theorem d_M_law_40 : decode prog_14_method_37_code 40 = .ok (.getfield 258, 3) := by decide +kernel
theorem d_M_law_43 : decode prog_14_method_37_code 43 = .ok (.iconst 1, 1) := by decide +kernel
theorem d_M_law_44 : decode prog_14_method_37_code 44 = .ok (.isub, 1) := by decide +kernel
theorem d_M_law_45 : decode prog_14_method_37_code 45 = .ok (.ireturn, 1) := by decide +kernel
set_option maxHeartbeats 4000000 in
set_option maxRecDepth 100000 in
theorem zf_M_law {G : zz_G} {l : Launch} {Z : zz_Z} {q : Int32 × zz_S} {s : zz_S} (C : zz_Cx G l "OneBlanketModel" "law" prog_14_method_37_code 2 (some .int) 206 (some (.int q.1), zsh, q.2) Z) (h : f_M_law s = some q) : Z 0 [some (.ref 79), none] [] zsh s := by
  unfold f_M_law at h
  refine zz_aload_n (i := 0) (pc := 0) C rfl rfl d_M_law_0 ?_
  refine zz_getI (pc := 1) C zl_12_258 zsh_79 rfl d_M_law_1 ?_
  refine zz_iconst (pc := 4) C zki_4 d_M_law_4 ?_
  refine zz_icmp_ne (tgt := 11) (pc := 5) C (by decide) d_M_law_5 (fun hc1 => ?_) (fun hc1 => ?_)
  · rw [if_neg hc1] at h
    refine zz_aload_n (i := 0) (pc := 11) C rfl rfl d_M_law_11 ?_
    refine zz_aload_n (i := 0) (pc := 12) C rfl rfl d_M_law_12 ?_
    refine zz_getI (pc := 13) C zl_12_258 zsh_79 rfl d_M_law_13 ?_
    obtain ⟨q2, hq2, h⟩ := zz_bdE h
    refine zz_cVi (as := [.int (s.1 79 35)]) (st := []) (pc := 16) C (zm_M_readText hq2) zcv_M_readText zsh_79 zl_12_261 (by omega) (Nat.le_of_ble_eq_true rfl) d_M_law_16 rfl rfl ?_
    refine zz_istore_n (i := 1) (lo' := [some (.ref 79), some (.int q2.1)]) (pc := 19) C rfl (Nat.le_of_ble_eq_true rfl) rfl rfl d_M_law_19 ?_
    refine zz_iload_n (i := 1) (pc := 20) C rfl rfl d_M_law_20 ?_
    refine zz_if_lt (tgt := 29) (pc := 21) C (by decide) d_M_law_21 (fun hc3 => ?_) (fun hc3 => ?_)
    · rw [if_pos hc3] at h
      refine zz_aload_n (i := 0) (pc := 29) C rfl rfl d_M_law_29 ?_
      refine zz_dup (pc := 30) C rfl d_M_law_30 ?_
      refine zz_getI (pc := 31) C zl_12_258 zsh_79 rfl d_M_law_31 ?_
      refine zz_iconst (pc := 34) C zki_1 d_M_law_34 ?_
      refine zz_iadd (pc := 35) C d_M_law_35 ?_
      refine zz_putI' (pc := 36) C zl_12_258 zpf_12_35 zsh_79 rfl d_M_law_36 ?_
      refine zz_aload_n (i := 0) (pc := 39) C rfl rfl d_M_law_39 ?_
      refine zz_getIv (v := ((q2.2.1 79 35) + (1 : Int32))) (pc := 40) C zl_12_258 zsh_79 rfl rfl d_M_law_40 ?_
      refine zz_iconst (pc := 43) C zki_1 d_M_law_43 ?_
      refine zz_isub (pc := 44) C d_M_law_44 ?_
      replace h := Option.some.inj h
      subst h
      exact zz_ret (pc := 45) C (v := some (.int (((q2.2.1 79 35) + (1 : Int32)) - (1 : Int32)))) d_M_law_45 (Or.inl ⟨_, _, rfl, rfl, rfl, rfl⟩) rfl
    · rw [if_neg hc3] at h
      refine zz_bipush (pc := 24) C zkb_m100 d_M_law_24 ?_
      refine zz_iload_n (i := 1) (pc := 26) C rfl rfl d_M_law_26 ?_
      refine zz_isub (pc := 27) C d_M_law_27 ?_
      replace h := Option.some.inj h
      subst h
      exact zz_ret (pc := 28) C (v := some (.int ((-100 : Int32) - q2.1))) d_M_law_28 (Or.inl ⟨_, _, rfl, rfl, rfl, rfl⟩) rfl
  · rw [if_pos hc1] at h
    refine zz_bipush (pc := 8) C zkb_m3 d_M_law_8 ?_
    replace h := Option.some.inj h
    subst h
    exact zz_ret (pc := 10) C (v := some (.int (-3 : Int32))) d_M_law_10 (Or.inl ⟨_, _, rfl, rfl, rfl, rfl⟩) rfl
theorem zm_M_law {G : zz_G} {l : Launch} {s : zz_S} {q : Int32 × zz_S} (h : f_M_law s = some q) : zz_M G l 206 y_M_law prog_14_method_37_code 2 (some .int) [.ref 79] zsh s (some (.int q.1), zsh, q.2) :=
  zz_M.intro (by decide) (Nat.le_of_ble_eq_true rfl) (Nat.le_refl _) (Nat.le_refl _) (fun Z C => zf_M_law C h)
theorem d_M_lies_0 : decode prog_14_method_55_code 0 = .ok (.aload_n 0, 1) := by decide +kernel
theorem d_M_lies_1 : decode prog_14_method_55_code 1 = .ok (.iload_n 1, 1) := by decide +kernel
theorem d_M_lies_2 : decode prog_14_method_55_code 2 = .ok (.invokevirtual 187, 3) := by decide +kernel
theorem d_M_lies_5 : decode prog_14_method_55_code 5 = .ok (.ifCond .eq (10), 3) := by decide +kernel
theorem d_M_lies_8 : decode prog_14_method_55_code 8 = .ok (.iload_n 2, 1) := by decide +kernel
theorem d_M_lies_9 : decode prog_14_method_55_code 9 = .ok (.invokestatic 277, 3) := by decide +kernel
theorem d_M_lies_12 : decode prog_14_method_55_code 12 = .ok (.ifCond .ne (6), 3) := by decide +kernel
theorem d_M_lies_15 : decode prog_14_method_55_code 15 = .ok (.ldc 190, 2) := by decide +kernel
theorem d_M_lies_17 : decode prog_14_method_55_code 17 = .ok (.ireturn, 1) := by decide +kernel
theorem d_M_lies_18 : decode prog_14_method_55_code 18 = .ok (.aload_n 0, 1) := by decide +kernel
theorem d_M_lies_19 : decode prog_14_method_55_code 19 = .ok (.iload_n 2, 1) := by decide +kernel
theorem d_M_lies_20 : decode prog_14_method_55_code 20 = .ok (.invokevirtual 323, 3) := by decide +kernel
theorem d_M_lies_23 : decode prog_14_method_55_code 23 = .ok (.aload_n 0, 1) := by decide +kernel
theorem d_M_lies_24 : decode prog_14_method_55_code 24 = .ok (.getfield 91, 3) := by decide +kernel
theorem d_M_lies_27 : decode prog_14_method_55_code 27 = .ok (.iload_n 1, 1) := by decide +kernel
theorem d_M_lies_28 : decode prog_14_method_55_code 28 = .ok (.iaload, 1) := by decide +kernel
theorem d_M_lies_29 : decode prog_14_method_55_code 29 = .ok (.ireturn, 1) := by decide +kernel
set_option maxHeartbeats 4000000 in
set_option maxRecDepth 100000 in
theorem zf_M_lies {G : zz_G} {l : Launch} {Z : zz_Z} {q : Int32 × zz_S} {s : zz_S} (C : zz_Cx G l "OneBlanketModel" "lies" prog_14_method_55_code 3 (some .int) 9 (some (.int q.1), zsh, q.2) Z) (a1 : Int32) (a2 : Int32) (h : f_M_lies a1 a2 s = some q) : Z 0 [some (.ref 79), some (.int a1), some (.int a2)] [] zsh s := by
  unfold f_M_lies at h
  refine zz_aload_n (i := 0) (pc := 0) C rfl rfl d_M_lies_0 ?_
  refine zz_iload_n (i := 1) (pc := 1) C rfl rfl d_M_lies_1 ?_
  refine zz_cVi (as := [.int a1]) (st := []) (pc := 2) C (zm_M_isCover rfl) zcv_M_isCover zsh_79 zl_12_187 (by omega) (Nat.le_of_ble_eq_true rfl) d_M_lies_2 rfl rfl ?_
  refine zz_if_eq (tgt := 15) (pc := 5) C (by decide) d_M_lies_5 (fun hc1 => ?_) (fun hc1 => ?_)
  · rw [if_pos hc1] at h
    refine zz_ldc (pc := 15) C zl_12_190 d_M_lies_15 ?_
    replace h := Option.some.inj h
    subst h
    exact zz_ret (pc := 17) C (v := some (.int (-2000000000 : Int32))) d_M_lies_17 (Or.inl ⟨_, _, rfl, rfl, rfl, rfl⟩) rfl
  · rw [if_neg hc1] at h
    refine zz_iload_n (i := 2) (pc := 8) C rfl rfl d_M_lies_8 ?_
    refine zz_cSi (as := [.int a2]) (st := []) (pc := 9) C (zm_M_isMinute rfl) zcs_M_isMinute zl_12_277 (by omega) (Nat.le_of_ble_eq_true rfl) d_M_lies_9 rfl rfl ?_
    refine zz_if_ne (tgt := 18) (pc := 12) C (by decide) d_M_lies_12 (fun hc2 => ?_) (fun hc2 => ?_)
    · rw [if_neg hc2] at h
      refine zz_aload_n (i := 0) (pc := 18) C rfl rfl d_M_lies_18 ?_
      refine zz_iload_n (i := 2) (pc := 19) C rfl rfl d_M_lies_19 ?_
      obtain ⟨q3, hq3, h⟩ := zz_bdE h
      refine zz_cVv (as := [.int a2]) (st := []) (pc := 20) C (zm_M_night hq3) zcv_M_night zsh_79 zl_12_323 (by omega) (Nat.le_of_ble_eq_true rfl) d_M_lies_20 rfl rfl ?_
      refine zz_aload_n (i := 0) (pc := 23) C rfl rfl d_M_lies_23 ?_
      refine zz_getR (pc := 24) C zl_12_91 zsh_79 rfl d_M_lies_24 ?_
      refine zz_iload_n (i := 1) (pc := 27) C rfl rfl d_M_lies_27 ?_
      obtain ⟨hi4, h⟩ := zz_ckE h
      refine zz_iald (pc := 28) C rfl zsh_104 hi4 d_M_lies_28 ?_
      replace h := Option.some.inj h
      subst h
      exact zz_ret (pc := 29) C (v := some (.int (q3.1 104 (a1.toNatClampNeg)))) d_M_lies_29 (Or.inl ⟨_, _, rfl, rfl, rfl, rfl⟩) rfl
    · rw [if_pos hc2] at h
      refine zz_ldc (pc := 15) C zl_12_190 d_M_lies_15 ?_
      replace h := Option.some.inj h
      subst h
      exact zz_ret (pc := 17) C (v := some (.int (-2000000000 : Int32))) d_M_lies_17 (Or.inl ⟨_, _, rfl, rfl, rfl, rfl⟩) rfl
theorem zm_M_lies {G : zz_G} {l : Launch} {s : zz_S} {q : Int32 × zz_S} {a1 : Int32} {a2 : Int32} (h : f_M_lies a1 a2 s = some q) : zz_M G l 9 y_M_lies prog_14_method_55_code 3 (some .int) [.ref 79, .int a1, .int a2] zsh s (some (.int q.1), zsh, q.2) :=
  zz_M.intro (by decide) (Nat.le_of_ble_eq_true rfl) (Nat.le_refl _) (Nat.le_refl _) (fun Z C => zf_M_lies C a1 a2 h)
theorem d_M_mend_0 : decode prog_14_method_17_code 0 = .ok (.iload_n 2, 1) := by decide +kernel
theorem d_M_mend_1 : decode prog_14_method_17_code 1 = .ok (.tableswitch (151) (0) (3) #[31, 61, 91, 121], 31) := by decide +kernel
theorem d_M_mend_32 : decode prog_14_method_17_code 32 = .ok (.aload_n 0, 1) := by decide +kernel
theorem d_M_mend_33 : decode prog_14_method_17_code 33 = .ok (.iload_n 1, 1) := by decide +kernel
theorem d_M_mend_34 : decode prog_14_method_17_code 34 = .ok (.invokevirtual 179, 3) := by decide +kernel
theorem d_M_mend_37 : decode prog_14_method_17_code 37 = .ok (.ifCond .eq (23), 3) := by decide +kernel
theorem d_M_mend_40 : decode prog_14_method_17_code 40 = .ok (.iload_n 3, 1) := by decide +kernel
theorem d_M_mend_41 : decode prog_14_method_17_code 41 = .ok (.iconst 0, 1) := by decide +kernel
theorem d_M_mend_42 : decode prog_14_method_17_code 42 = .ok (.bipush (99), 2) := by decide +kernel
theorem d_M_mend_44 : decode prog_14_method_17_code 44 = .ok (.invokestatic 158, 3) := by decide +kernel
theorem d_M_mend_47 : decode prog_14_method_17_code 47 = .ok (.ifCond .eq (13), 3) := by decide +kernel
theorem d_M_mend_50 : decode prog_14_method_17_code 50 = .ok (.aload_n 0, 1) := by decide +kernel
theorem d_M_mend_51 : decode prog_14_method_17_code 51 = .ok (.iconst 0, 1) := by decide +kernel
theorem d_M_mend_52 : decode prog_14_method_17_code 52 = .ok (.iload_n 1, 1) := by decide +kernel
theorem d_M_mend_53 : decode prog_14_method_17_code 53 = .ok (.iload_n 3, 1) := by decide +kernel
theorem d_M_mend_54 : decode prog_14_method_17_code 54 = .ok (.invokevirtual 183, 3) := by decide +kernel
theorem d_M_mend_57 : decode prog_14_method_17_code 57 = .ok (.goto (4), 3) := by decide +kernel
theorem d_M_mend_60 : decode prog_14_method_17_code 60 = .ok (.iconst (-1), 1) := by decide +kernel
theorem d_M_mend_61 : decode prog_14_method_17_code 61 = .ok (.ireturn, 1) := by decide +kernel
theorem d_M_mend_62 : decode prog_14_method_17_code 62 = .ok (.aload_n 0, 1) := by decide +kernel
theorem d_M_mend_63 : decode prog_14_method_17_code 63 = .ok (.iload_n 1, 1) := by decide +kernel
theorem d_M_mend_64 : decode prog_14_method_17_code 64 = .ok (.invokevirtual 179, 3) := by decide +kernel
theorem d_M_mend_67 : decode prog_14_method_17_code 67 = .ok (.ifCond .eq (23), 3) := by decide +kernel
theorem d_M_mend_70 : decode prog_14_method_17_code 70 = .ok (.iload_n 3, 1) := by decide +kernel
theorem d_M_mend_71 : decode prog_14_method_17_code 71 = .ok (.iconst 0, 1) := by decide +kernel
theorem d_M_mend_72 : decode prog_14_method_17_code 72 = .ok (.bipush (99), 2) := by decide +kernel
theorem d_M_mend_74 : decode prog_14_method_17_code 74 = .ok (.invokestatic 158, 3) := by decide +kernel
theorem d_M_mend_77 : decode prog_14_method_17_code 77 = .ok (.ifCond .eq (13), 3) := by decide +kernel
theorem d_M_mend_80 : decode prog_14_method_17_code 80 = .ok (.aload_n 0, 1) := by decide +kernel
theorem d_M_mend_81 : decode prog_14_method_17_code 81 = .ok (.iconst 1, 1) := by decide +kernel
theorem d_M_mend_82 : decode prog_14_method_17_code 82 = .ok (.iload_n 1, 1) := by decide +kernel
theorem d_M_mend_83 : decode prog_14_method_17_code 83 = .ok (.iload_n 3, 1) := by decide +kernel
theorem d_M_mend_84 : decode prog_14_method_17_code 84 = .ok (.invokevirtual 183, 3) := by decide +kernel
theorem d_M_mend_87 : decode prog_14_method_17_code 87 = .ok (.goto (4), 3) := by decide +kernel
theorem d_M_mend_90 : decode prog_14_method_17_code 90 = .ok (.iconst (-1), 1) := by decide +kernel
theorem d_M_mend_91 : decode prog_14_method_17_code 91 = .ok (.ireturn, 1) := by decide +kernel
theorem d_M_mend_92 : decode prog_14_method_17_code 92 = .ok (.aload_n 0, 1) := by decide +kernel
theorem d_M_mend_93 : decode prog_14_method_17_code 93 = .ok (.iload_n 1, 1) := by decide +kernel
theorem d_M_mend_94 : decode prog_14_method_17_code 94 = .ok (.invokevirtual 187, 3) := by decide +kernel
theorem d_M_mend_97 : decode prog_14_method_17_code 97 = .ok (.ifCond .eq (23), 3) := by decide +kernel
theorem d_M_mend_100 : decode prog_14_method_17_code 100 = .ok (.iload_n 3, 1) := by decide +kernel
theorem d_M_mend_101 : decode prog_14_method_17_code 101 = .ok (.iconst 5, 1) := by decide +kernel
theorem d_M_mend_102 : decode prog_14_method_17_code 102 = .ok (.bipush (80), 2) := by decide +kernel
theorem d_M_mend_104 : decode prog_14_method_17_code 104 = .ok (.invokestatic 158, 3) := by decide +kernel
theorem d_M_mend_107 : decode prog_14_method_17_code 107 = .ok (.ifCond .eq (13), 3) := by decide +kernel
theorem d_M_mend_110 : decode prog_14_method_17_code 110 = .ok (.aload_n 0, 1) := by decide +kernel
theorem d_M_mend_111 : decode prog_14_method_17_code 111 = .ok (.iconst 2, 1) := by decide +kernel
theorem d_M_mend_112 : decode prog_14_method_17_code 112 = .ok (.iload_n 1, 1) := by decide +kernel
theorem d_M_mend_113 : decode prog_14_method_17_code 113 = .ok (.iload_n 3, 1) := by decide +kernel
theorem d_M_mend_114 : decode prog_14_method_17_code 114 = .ok (.invokevirtual 183, 3) := by decide +kernel
theorem d_M_mend_117 : decode prog_14_method_17_code 117 = .ok (.goto (4), 3) := by decide +kernel
theorem d_M_mend_120 : decode prog_14_method_17_code 120 = .ok (.iconst (-1), 1) := by decide +kernel
theorem d_M_mend_121 : decode prog_14_method_17_code 121 = .ok (.ireturn, 1) := by decide +kernel
theorem d_M_mend_122 : decode prog_14_method_17_code 122 = .ok (.aload_n 0, 1) := by decide +kernel
theorem d_M_mend_123 : decode prog_14_method_17_code 123 = .ok (.iload_n 1, 1) := by decide +kernel
theorem d_M_mend_124 : decode prog_14_method_17_code 124 = .ok (.invokevirtual 187, 3) := by decide +kernel
theorem d_M_mend_127 : decode prog_14_method_17_code 127 = .ok (.ifCond .eq (23), 3) := by decide +kernel
theorem d_M_mend_130 : decode prog_14_method_17_code 130 = .ok (.iload_n 3, 1) := by decide +kernel
theorem d_M_mend_131 : decode prog_14_method_17_code 131 = .ok (.iconst 0, 1) := by decide +kernel
theorem d_M_mend_132 : decode prog_14_method_17_code 132 = .ok (.bipush (9), 2) := by decide +kernel
theorem d_M_mend_134 : decode prog_14_method_17_code 134 = .ok (.invokestatic 158, 3) := by decide +kernel
theorem d_M_mend_137 : decode prog_14_method_17_code 137 = .ok (.ifCond .eq (13), 3) := by decide +kernel
theorem d_M_mend_140 : decode prog_14_method_17_code 140 = .ok (.aload_n 0, 1) := by decide +kernel
theorem d_M_mend_141 : decode prog_14_method_17_code 141 = .ok (.iconst 3, 1) := by decide +kernel
theorem d_M_mend_142 : decode prog_14_method_17_code 142 = .ok (.iload_n 1, 1) := by decide +kernel
theorem d_M_mend_143 : decode prog_14_method_17_code 143 = .ok (.iload_n 3, 1) := by decide +kernel
theorem d_M_mend_144 : decode prog_14_method_17_code 144 = .ok (.invokevirtual 183, 3) := by decide +kernel
theorem d_M_mend_147 : decode prog_14_method_17_code 147 = .ok (.goto (4), 3) := by decide +kernel
theorem d_M_mend_150 : decode prog_14_method_17_code 150 = .ok (.iconst (-1), 1) := by decide +kernel
theorem d_M_mend_151 : decode prog_14_method_17_code 151 = .ok (.ireturn, 1) := by decide +kernel
theorem d_M_mend_152 : decode prog_14_method_17_code 152 = .ok (.iconst (-1), 1) := by decide +kernel
theorem d_M_mend_153 : decode prog_14_method_17_code 153 = .ok (.ireturn, 1) := by decide +kernel
set_option maxHeartbeats 4000000 in
set_option maxRecDepth 100000 in
theorem zf_M_mend {G : zz_G} {l : Launch} {Z : zz_Z} {q : Int32 × zz_S} {s : zz_S} (C : zz_Cx G l "OneBlanketModel" "mend" prog_14_method_17_code 4 (some .int) 4 (some (.int q.1), zsh, q.2) Z) (a1 : Int32) (a2 : Int32) (a3 : Int32) (h : f_M_mend a1 a2 a3 s = some q) : Z 0 [some (.ref 79), some (.int a1), some (.int a2), some (.int a3)] [] zsh s := by
  unfold f_M_mend at h
  refine zz_iload_n (i := 2) (pc := 0) C rfl rfl d_M_mend_0 ?_
  by_cases hc1 : a2 = (0 : Int32)
  · rw [if_pos hc1] at h
    refine zz_tableIn (tgt := 32) (off := 31) (pc := 1) C (by rw [hc1]; decide) (by rw [hc1]; decide) (by rw [hc1]; decide) (by decide) d_M_mend_1 ?_
    refine zz_aload_n (i := 0) (pc := 32) C rfl rfl d_M_mend_32 ?_
    refine zz_iload_n (i := 1) (pc := 33) C rfl rfl d_M_mend_33 ?_
    refine zz_cVi (as := [.int a1]) (st := []) (pc := 34) C (zm_M_isSleeper rfl) zcv_M_isSleeper zsh_79 zl_12_179 (by omega) (Nat.le_of_ble_eq_true rfl) d_M_mend_34 rfl rfl ?_
    refine zz_if_eq (tgt := 60) (pc := 37) C (by decide) d_M_mend_37 (fun hc2 => ?_) (fun hc2 => ?_)
    · rw [if_pos hc2] at h
      refine zz_iconst (pc := 60) C zki_m1 d_M_mend_60 ?_
      replace h := Option.some.inj h
      subst h
      exact zz_ret (pc := 61) C (v := some (.int (-1 : Int32))) d_M_mend_61 (Or.inl ⟨_, _, rfl, rfl, rfl, rfl⟩) rfl
    · rw [if_neg hc2] at h
      refine zz_iload_n (i := 3) (pc := 40) C rfl rfl d_M_mend_40 ?_
      refine zz_iconst (pc := 41) C zki_0 d_M_mend_41 ?_
      refine zz_bipush (pc := 42) C zkb_99 d_M_mend_42 ?_
      refine zz_cSi (as := [.int a3, .int (0 : Int32), .int (99 : Int32)]) (st := []) (pc := 44) C (zm_M_in rfl) zcs_M_in zl_12_158 (by omega) (Nat.le_of_ble_eq_true rfl) d_M_mend_44 rfl rfl ?_
      refine zz_if_eq (tgt := 60) (pc := 47) C (by decide) d_M_mend_47 (fun hc3 => ?_) (fun hc3 => ?_)
      · rw [if_pos hc3] at h
        refine zz_iconst (pc := 60) C zki_m1 d_M_mend_60 ?_
        replace h := Option.some.inj h
        subst h
        exact zz_ret (pc := 61) C (v := some (.int (-1 : Int32))) d_M_mend_61 (Or.inl ⟨_, _, rfl, rfl, rfl, rfl⟩) rfl
      · rw [if_neg hc3] at h
        refine zz_aload_n (i := 0) (pc := 50) C rfl rfl d_M_mend_50 ?_
        refine zz_iconst (pc := 51) C zki_0 d_M_mend_51 ?_
        refine zz_iload_n (i := 1) (pc := 52) C rfl rfl d_M_mend_52 ?_
        refine zz_iload_n (i := 3) (pc := 53) C rfl rfl d_M_mend_53 ?_
        obtain ⟨q4, hq4, h⟩ := zz_bdE h
        refine zz_cVi (as := [.int (0 : Int32), .int a1, .int a3]) (st := []) (pc := 54) C (zm_M_changes hq4) zcv_M_changes zsh_79 zl_12_183 (by omega) (Nat.le_of_ble_eq_true rfl) d_M_mend_54 rfl rfl ?_
        refine zz_goto (tgt := 61) (pc := 57) C (by decide) d_M_mend_57 ?_
        replace h := Option.some.inj h
        subst h
        exact zz_ret (pc := 61) C (v := some (.int q4.1)) d_M_mend_61 (Or.inl ⟨_, _, rfl, rfl, rfl, rfl⟩) rfl
  · rw [if_neg hc1] at h
    by_cases hc5 : a2 = (1 : Int32)
    · rw [if_pos hc5] at h
      refine zz_tableIn (tgt := 62) (off := 61) (pc := 1) C (by rw [hc5]; decide) (by rw [hc5]; decide) (by rw [hc5]; decide) (by decide) d_M_mend_1 ?_
      refine zz_aload_n (i := 0) (pc := 62) C rfl rfl d_M_mend_62 ?_
      refine zz_iload_n (i := 1) (pc := 63) C rfl rfl d_M_mend_63 ?_
      refine zz_cVi (as := [.int a1]) (st := []) (pc := 64) C (zm_M_isSleeper rfl) zcv_M_isSleeper zsh_79 zl_12_179 (by omega) (Nat.le_of_ble_eq_true rfl) d_M_mend_64 rfl rfl ?_
      refine zz_if_eq (tgt := 90) (pc := 67) C (by decide) d_M_mend_67 (fun hc6 => ?_) (fun hc6 => ?_)
      · rw [if_pos hc6] at h
        refine zz_iconst (pc := 90) C zki_m1 d_M_mend_90 ?_
        replace h := Option.some.inj h
        subst h
        exact zz_ret (pc := 91) C (v := some (.int (-1 : Int32))) d_M_mend_91 (Or.inl ⟨_, _, rfl, rfl, rfl, rfl⟩) rfl
      · rw [if_neg hc6] at h
        refine zz_iload_n (i := 3) (pc := 70) C rfl rfl d_M_mend_70 ?_
        refine zz_iconst (pc := 71) C zki_0 d_M_mend_71 ?_
        refine zz_bipush (pc := 72) C zkb_99 d_M_mend_72 ?_
        refine zz_cSi (as := [.int a3, .int (0 : Int32), .int (99 : Int32)]) (st := []) (pc := 74) C (zm_M_in rfl) zcs_M_in zl_12_158 (by omega) (Nat.le_of_ble_eq_true rfl) d_M_mend_74 rfl rfl ?_
        refine zz_if_eq (tgt := 90) (pc := 77) C (by decide) d_M_mend_77 (fun hc7 => ?_) (fun hc7 => ?_)
        · rw [if_pos hc7] at h
          refine zz_iconst (pc := 90) C zki_m1 d_M_mend_90 ?_
          replace h := Option.some.inj h
          subst h
          exact zz_ret (pc := 91) C (v := some (.int (-1 : Int32))) d_M_mend_91 (Or.inl ⟨_, _, rfl, rfl, rfl, rfl⟩) rfl
        · rw [if_neg hc7] at h
          refine zz_aload_n (i := 0) (pc := 80) C rfl rfl d_M_mend_80 ?_
          refine zz_iconst (pc := 81) C zki_1 d_M_mend_81 ?_
          refine zz_iload_n (i := 1) (pc := 82) C rfl rfl d_M_mend_82 ?_
          refine zz_iload_n (i := 3) (pc := 83) C rfl rfl d_M_mend_83 ?_
          obtain ⟨q8, hq8, h⟩ := zz_bdE h
          refine zz_cVi (as := [.int (1 : Int32), .int a1, .int a3]) (st := []) (pc := 84) C (zm_M_changes hq8) zcv_M_changes zsh_79 zl_12_183 (by omega) (Nat.le_of_ble_eq_true rfl) d_M_mend_84 rfl rfl ?_
          refine zz_goto (tgt := 91) (pc := 87) C (by decide) d_M_mend_87 ?_
          replace h := Option.some.inj h
          subst h
          exact zz_ret (pc := 91) C (v := some (.int q8.1)) d_M_mend_91 (Or.inl ⟨_, _, rfl, rfl, rfl, rfl⟩) rfl
    · rw [if_neg hc5] at h
      by_cases hc9 : a2 = (2 : Int32)
      · rw [if_pos hc9] at h
        refine zz_tableIn (tgt := 92) (off := 91) (pc := 1) C (by rw [hc9]; decide) (by rw [hc9]; decide) (by rw [hc9]; decide) (by decide) d_M_mend_1 ?_
        refine zz_aload_n (i := 0) (pc := 92) C rfl rfl d_M_mend_92 ?_
        refine zz_iload_n (i := 1) (pc := 93) C rfl rfl d_M_mend_93 ?_
        refine zz_cVi (as := [.int a1]) (st := []) (pc := 94) C (zm_M_isCover rfl) zcv_M_isCover zsh_79 zl_12_187 (by omega) (Nat.le_of_ble_eq_true rfl) d_M_mend_94 rfl rfl ?_
        refine zz_if_eq (tgt := 120) (pc := 97) C (by decide) d_M_mend_97 (fun hc10 => ?_) (fun hc10 => ?_)
        · rw [if_pos hc10] at h
          refine zz_iconst (pc := 120) C zki_m1 d_M_mend_120 ?_
          replace h := Option.some.inj h
          subst h
          exact zz_ret (pc := 121) C (v := some (.int (-1 : Int32))) d_M_mend_121 (Or.inl ⟨_, _, rfl, rfl, rfl, rfl⟩) rfl
        · rw [if_neg hc10] at h
          refine zz_iload_n (i := 3) (pc := 100) C rfl rfl d_M_mend_100 ?_
          refine zz_iconst (pc := 101) C zki_5 d_M_mend_101 ?_
          refine zz_bipush (pc := 102) C zkb_80 d_M_mend_102 ?_
          refine zz_cSi (as := [.int a3, .int (5 : Int32), .int (80 : Int32)]) (st := []) (pc := 104) C (zm_M_in rfl) zcs_M_in zl_12_158 (by omega) (Nat.le_of_ble_eq_true rfl) d_M_mend_104 rfl rfl ?_
          refine zz_if_eq (tgt := 120) (pc := 107) C (by decide) d_M_mend_107 (fun hc11 => ?_) (fun hc11 => ?_)
          · rw [if_pos hc11] at h
            refine zz_iconst (pc := 120) C zki_m1 d_M_mend_120 ?_
            replace h := Option.some.inj h
            subst h
            exact zz_ret (pc := 121) C (v := some (.int (-1 : Int32))) d_M_mend_121 (Or.inl ⟨_, _, rfl, rfl, rfl, rfl⟩) rfl
          · rw [if_neg hc11] at h
            refine zz_aload_n (i := 0) (pc := 110) C rfl rfl d_M_mend_110 ?_
            refine zz_iconst (pc := 111) C zki_2 d_M_mend_111 ?_
            refine zz_iload_n (i := 1) (pc := 112) C rfl rfl d_M_mend_112 ?_
            refine zz_iload_n (i := 3) (pc := 113) C rfl rfl d_M_mend_113 ?_
            obtain ⟨q12, hq12, h⟩ := zz_bdE h
            refine zz_cVi (as := [.int (2 : Int32), .int a1, .int a3]) (st := []) (pc := 114) C (zm_M_changes hq12) zcv_M_changes zsh_79 zl_12_183 (by omega) (Nat.le_of_ble_eq_true rfl) d_M_mend_114 rfl rfl ?_
            refine zz_goto (tgt := 121) (pc := 117) C (by decide) d_M_mend_117 ?_
            replace h := Option.some.inj h
            subst h
            exact zz_ret (pc := 121) C (v := some (.int q12.1)) d_M_mend_121 (Or.inl ⟨_, _, rfl, rfl, rfl, rfl⟩) rfl
      · rw [if_neg hc9] at h
        by_cases hc13 : a2 = (3 : Int32)
        · rw [if_pos hc13] at h
          refine zz_tableIn (tgt := 122) (off := 121) (pc := 1) C (by rw [hc13]; decide) (by rw [hc13]; decide) (by rw [hc13]; decide) (by decide) d_M_mend_1 ?_
          refine zz_aload_n (i := 0) (pc := 122) C rfl rfl d_M_mend_122 ?_
          refine zz_iload_n (i := 1) (pc := 123) C rfl rfl d_M_mend_123 ?_
          refine zz_cVi (as := [.int a1]) (st := []) (pc := 124) C (zm_M_isCover rfl) zcv_M_isCover zsh_79 zl_12_187 (by omega) (Nat.le_of_ble_eq_true rfl) d_M_mend_124 rfl rfl ?_
          refine zz_if_eq (tgt := 150) (pc := 127) C (by decide) d_M_mend_127 (fun hc14 => ?_) (fun hc14 => ?_)
          · rw [if_pos hc14] at h
            refine zz_iconst (pc := 150) C zki_m1 d_M_mend_150 ?_
            replace h := Option.some.inj h
            subst h
            exact zz_ret (pc := 151) C (v := some (.int (-1 : Int32))) d_M_mend_151 (Or.inl ⟨_, _, rfl, rfl, rfl, rfl⟩) rfl
          · rw [if_neg hc14] at h
            refine zz_iload_n (i := 3) (pc := 130) C rfl rfl d_M_mend_130 ?_
            refine zz_iconst (pc := 131) C zki_0 d_M_mend_131 ?_
            refine zz_bipush (pc := 132) C zkb_9 d_M_mend_132 ?_
            refine zz_cSi (as := [.int a3, .int (0 : Int32), .int (9 : Int32)]) (st := []) (pc := 134) C (zm_M_in rfl) zcs_M_in zl_12_158 (by omega) (Nat.le_of_ble_eq_true rfl) d_M_mend_134 rfl rfl ?_
            refine zz_if_eq (tgt := 150) (pc := 137) C (by decide) d_M_mend_137 (fun hc15 => ?_) (fun hc15 => ?_)
            · rw [if_pos hc15] at h
              refine zz_iconst (pc := 150) C zki_m1 d_M_mend_150 ?_
              replace h := Option.some.inj h
              subst h
              exact zz_ret (pc := 151) C (v := some (.int (-1 : Int32))) d_M_mend_151 (Or.inl ⟨_, _, rfl, rfl, rfl, rfl⟩) rfl
            · rw [if_neg hc15] at h
              refine zz_aload_n (i := 0) (pc := 140) C rfl rfl d_M_mend_140 ?_
              refine zz_iconst (pc := 141) C zki_3 d_M_mend_141 ?_
              refine zz_iload_n (i := 1) (pc := 142) C rfl rfl d_M_mend_142 ?_
              refine zz_iload_n (i := 3) (pc := 143) C rfl rfl d_M_mend_143 ?_
              obtain ⟨q16, hq16, h⟩ := zz_bdE h
              refine zz_cVi (as := [.int (3 : Int32), .int a1, .int a3]) (st := []) (pc := 144) C (zm_M_changes hq16) zcv_M_changes zsh_79 zl_12_183 (by omega) (Nat.le_of_ble_eq_true rfl) d_M_mend_144 rfl rfl ?_
              refine zz_goto (tgt := 151) (pc := 147) C (by decide) d_M_mend_147 ?_
              replace h := Option.some.inj h
              subst h
              exact zz_ret (pc := 151) C (v := some (.int q16.1)) d_M_mend_151 (Or.inl ⟨_, _, rfl, rfl, rfl, rfl⟩) rfl
        · rw [if_neg hc13] at h
          have hc1i : a2.toInt ≠ 0 := fun e => hc1 (Int32.toInt_inj.mp e)
          have hc5i : a2.toInt ≠ 1 := fun e => hc5 (Int32.toInt_inj.mp e)
          have hc9i : a2.toInt ≠ 2 := fun e => hc9 (Int32.toInt_inj.mp e)
          have hc13i : a2.toInt ≠ 3 := fun e => hc13 (Int32.toInt_inj.mp e)
          refine zz_tableOut (tgt := 152) (pc := 1) C (by omega) (by decide) d_M_mend_1 ?_
          refine zz_iconst (pc := 152) C zki_m1 d_M_mend_152 ?_
          replace h := Option.some.inj h
          subst h
          exact zz_ret (pc := 153) C (v := some (.int (-1 : Int32))) d_M_mend_153 (Or.inl ⟨_, _, rfl, rfl, rfl, rfl⟩) rfl
theorem zm_M_mend {G : zz_G} {l : Launch} {s : zz_S} {q : Int32 × zz_S} {a1 : Int32} {a2 : Int32} {a3 : Int32} (h : f_M_mend a1 a2 a3 s = some q) : zz_M G l 4 y_M_mend prog_14_method_17_code 4 (some .int) [.ref 79, .int a1, .int a2, .int a3] zsh s (some (.int q.1), zsh, q.2) :=
  zz_M.intro (by decide) (Nat.le_of_ble_eq_true rfl) (Nat.le_refl _) (Nat.le_refl _) (fun Z C => zf_M_mend C a1 a2 a3 h)
theorem d_M_minutes_0 : decode prog_14_method_57_code 0 = .ok (.aload_n 0, 1) := by decide +kernel
theorem d_M_minutes_1 : decode prog_14_method_57_code 1 = .ok (.iload_n 1, 1) := by decide +kernel
theorem d_M_minutes_2 : decode prog_14_method_57_code 2 = .ok (.invokevirtual 179, 3) := by decide +kernel
theorem d_M_minutes_5 : decode prog_14_method_57_code 5 = .ok (.ifCond .eq (12), 3) := by decide +kernel
theorem d_M_minutes_8 : decode prog_14_method_57_code 8 = .ok (.iload_n 2, 1) := by decide +kernel
theorem d_M_minutes_9 : decode prog_14_method_57_code 9 = .ok (.iconst 0, 1) := by decide +kernel
theorem d_M_minutes_10 : decode prog_14_method_57_code 10 = .ok (.iconst 2, 1) := by decide +kernel
theorem d_M_minutes_11 : decode prog_14_method_57_code 11 = .ok (.invokestatic 158, 3) := by decide +kernel
theorem d_M_minutes_14 : decode prog_14_method_57_code 14 = .ok (.ifCond .ne (5), 3) := by decide +kernel
theorem d_M_minutes_17 : decode prog_14_method_57_code 17 = .ok (.iconst (-1), 1) := by decide +kernel
theorem d_M_minutes_18 : decode prog_14_method_57_code 18 = .ok (.ireturn, 1) := by decide +kernel
theorem d_M_minutes_19 : decode prog_14_method_57_code 19 = .ok (.aload_n 0, 1) := by decide +kernel
theorem d_M_minutes_20 : decode prog_14_method_57_code 20 = .ok (.sipush (479), 3) := by decide +kernel
theorem d_M_minutes_23 : decode prog_14_method_57_code 23 = .ok (.invokevirtual 323, 3) := by decide +kernel
theorem d_M_minutes_26 : decode prog_14_method_57_code 26 = .ok (.iload_n 2, 1) := by decide +kernel
theorem d_M_minutes_27 : decode prog_14_method_57_code 27 = .ok (.ifCond .ne (12), 3) := by decide +kernel
theorem d_M_minutes_30 : decode prog_14_method_57_code 30 = .ok (.aload_n 0, 1) := by decide +kernel
theorem d_M_minutes_31 : decode prog_14_method_57_code 31 = .ok (.getfield 100, 3) := by decide +kernel
theorem d_M_minutes_34 : decode prog_14_method_57_code 34 = .ok (.iload_n 1, 1) := by decide +kernel
theorem d_M_minutes_35 : decode prog_14_method_57_code 35 = .ok (.iaload, 1) := by decide +kernel
theorem d_M_minutes_36 : decode prog_14_method_57_code 36 = .ok (.goto (23), 3) := by decide +kernel
theorem d_M_minutes_39 : decode prog_14_method_57_code 39 = .ok (.iload_n 2, 1) := by decide +kernel
theorem d_M_minutes_40 : decode prog_14_method_57_code 40 = .ok (.iconst 1, 1) := by decide +kernel
theorem d_M_minutes_41 : decode prog_14_method_57_code 41 = .ok (.if_icmp .ne (12), 3) := by decide +kernel
theorem d_M_minutes_44 : decode prog_14_method_57_code 44 = .ok (.aload_n 0, 1) := by decide +kernel
theorem d_M_minutes_45 : decode prog_14_method_57_code 45 = .ok (.getfield 103, 3) := by decide +kernel
theorem d_M_minutes_48 : decode prog_14_method_57_code 48 = .ok (.iload_n 1, 1) := by decide +kernel
theorem d_M_minutes_49 : decode prog_14_method_57_code 49 = .ok (.iaload, 1) := by decide +kernel
theorem d_M_minutes_50 : decode prog_14_method_57_code 50 = .ok (.goto (9), 3) := by decide +kernel
theorem d_M_minutes_53 : decode prog_14_method_57_code 53 = .ok (.aload_n 0, 1) := by decide +kernel
theorem d_M_minutes_54 : decode prog_14_method_57_code 54 = .ok (.getfield 106, 3) := by decide +kernel
theorem d_M_minutes_57 : decode prog_14_method_57_code 57 = .ok (.iload_n 1, 1) := by decide +kernel
theorem d_M_minutes_58 : decode prog_14_method_57_code 58 = .ok (.iaload, 1) := by decide +kernel
theorem d_M_minutes_59 : decode prog_14_method_57_code 59 = .ok (.ireturn, 1) := by decide +kernel
set_option maxHeartbeats 4000000 in
set_option maxRecDepth 100000 in
theorem zf_M_minutes {G : zz_G} {l : Launch} {Z : zz_Z} {q : Int32 × zz_S} {s : zz_S} (C : zz_Cx G l "OneBlanketModel" "minutes" prog_14_method_57_code 3 (some .int) 9 (some (.int q.1), zsh, q.2) Z) (a1 : Int32) (a2 : Int32) (h : f_M_minutes a1 a2 s = some q) : Z 0 [some (.ref 79), some (.int a1), some (.int a2)] [] zsh s := by
  unfold f_M_minutes at h
  refine zz_aload_n (i := 0) (pc := 0) C rfl rfl d_M_minutes_0 ?_
  refine zz_iload_n (i := 1) (pc := 1) C rfl rfl d_M_minutes_1 ?_
  refine zz_cVi (as := [.int a1]) (st := []) (pc := 2) C (zm_M_isSleeper rfl) zcv_M_isSleeper zsh_79 zl_12_179 (by omega) (Nat.le_of_ble_eq_true rfl) d_M_minutes_2 rfl rfl ?_
  refine zz_if_eq (tgt := 17) (pc := 5) C (by decide) d_M_minutes_5 (fun hc1 => ?_) (fun hc1 => ?_)
  · rw [if_pos hc1] at h
    refine zz_iconst (pc := 17) C zki_m1 d_M_minutes_17 ?_
    replace h := Option.some.inj h
    subst h
    exact zz_ret (pc := 18) C (v := some (.int (-1 : Int32))) d_M_minutes_18 (Or.inl ⟨_, _, rfl, rfl, rfl, rfl⟩) rfl
  · rw [if_neg hc1] at h
    refine zz_iload_n (i := 2) (pc := 8) C rfl rfl d_M_minutes_8 ?_
    refine zz_iconst (pc := 9) C zki_0 d_M_minutes_9 ?_
    refine zz_iconst (pc := 10) C zki_2 d_M_minutes_10 ?_
    refine zz_cSi (as := [.int a2, .int (0 : Int32), .int (2 : Int32)]) (st := []) (pc := 11) C (zm_M_in rfl) zcs_M_in zl_12_158 (by omega) (Nat.le_of_ble_eq_true rfl) d_M_minutes_11 rfl rfl ?_
    refine zz_if_ne (tgt := 19) (pc := 14) C (by decide) d_M_minutes_14 (fun hc2 => ?_) (fun hc2 => ?_)
    · rw [if_neg hc2] at h
      refine zz_aload_n (i := 0) (pc := 19) C rfl rfl d_M_minutes_19 ?_
      refine zz_sipush (pc := 20) C zks_479 d_M_minutes_20 ?_
      obtain ⟨q3, hq3, h⟩ := zz_bdE h
      refine zz_cVv (as := [.int (479 : Int32)]) (st := []) (pc := 23) C (zm_M_night hq3) zcv_M_night zsh_79 zl_12_323 (by omega) (Nat.le_of_ble_eq_true rfl) d_M_minutes_23 rfl rfl ?_
      refine zz_iload_n (i := 2) (pc := 26) C rfl rfl d_M_minutes_26 ?_
      refine zz_if_ne (tgt := 39) (pc := 27) C (by decide) d_M_minutes_27 (fun hc4 => ?_) (fun hc4 => ?_)
      · rw [if_neg hc4] at h
        refine zz_iload_n (i := 2) (pc := 39) C rfl rfl d_M_minutes_39 ?_
        refine zz_iconst (pc := 40) C zki_1 d_M_minutes_40 ?_
        refine zz_icmp_ne (tgt := 53) (pc := 41) C (by decide) d_M_minutes_41 (fun hc5 => ?_) (fun hc5 => ?_)
        · rw [if_neg hc5] at h
          refine zz_aload_n (i := 0) (pc := 53) C rfl rfl d_M_minutes_53 ?_
          refine zz_getR (pc := 54) C zl_12_106 zsh_79 rfl d_M_minutes_54 ?_
          refine zz_iload_n (i := 1) (pc := 57) C rfl rfl d_M_minutes_57 ?_
          obtain ⟨hi6, h⟩ := zz_ckE h
          refine zz_iald (pc := 58) C rfl zsh_109 hi6 d_M_minutes_58 ?_
          replace h := Option.some.inj h
          subst h
          exact zz_ret (pc := 59) C (v := some (.int (q3.1 109 (a1.toNatClampNeg)))) d_M_minutes_59 (Or.inl ⟨_, _, rfl, rfl, rfl, rfl⟩) rfl
        · rw [if_pos hc5] at h
          refine zz_aload_n (i := 0) (pc := 44) C rfl rfl d_M_minutes_44 ?_
          refine zz_getR (pc := 45) C zl_12_103 zsh_79 rfl d_M_minutes_45 ?_
          refine zz_iload_n (i := 1) (pc := 48) C rfl rfl d_M_minutes_48 ?_
          obtain ⟨hi7, h⟩ := zz_ckE h
          refine zz_iald (pc := 49) C rfl zsh_108 hi7 d_M_minutes_49 ?_
          refine zz_goto (tgt := 59) (pc := 50) C (by decide) d_M_minutes_50 ?_
          replace h := Option.some.inj h
          subst h
          exact zz_ret (pc := 59) C (v := some (.int (q3.1 108 (a1.toNatClampNeg)))) d_M_minutes_59 (Or.inl ⟨_, _, rfl, rfl, rfl, rfl⟩) rfl
      · rw [if_pos hc4] at h
        refine zz_aload_n (i := 0) (pc := 30) C rfl rfl d_M_minutes_30 ?_
        refine zz_getR (pc := 31) C zl_12_100 zsh_79 rfl d_M_minutes_31 ?_
        refine zz_iload_n (i := 1) (pc := 34) C rfl rfl d_M_minutes_34 ?_
        obtain ⟨hi8, h⟩ := zz_ckE h
        refine zz_iald (pc := 35) C rfl zsh_107 hi8 d_M_minutes_35 ?_
        refine zz_goto (tgt := 59) (pc := 36) C (by decide) d_M_minutes_36 ?_
        replace h := Option.some.inj h
        subst h
        exact zz_ret (pc := 59) C (v := some (.int (q3.1 107 (a1.toNatClampNeg)))) d_M_minutes_59 (Or.inl ⟨_, _, rfl, rfl, rfl, rfl⟩) rfl
    · rw [if_pos hc2] at h
      refine zz_iconst (pc := 17) C zki_m1 d_M_minutes_17 ?_
      replace h := Option.some.inj h
      subst h
      exact zz_ret (pc := 18) C (v := some (.int (-1 : Int32))) d_M_minutes_18 (Or.inl ⟨_, _, rfl, rfl, rfl, rfl⟩) rfl
theorem zm_M_minutes {G : zz_G} {l : Launch} {s : zz_S} {q : Int32 × zz_S} {a1 : Int32} {a2 : Int32} (h : f_M_minutes a1 a2 s = some q) : zz_M G l 9 y_M_minutes prog_14_method_57_code 3 (some .int) [.ref 79, .int a1, .int a2] zsh s (some (.int q.1), zsh, q.2) :=
  zz_M.intro (by decide) (Nat.le_of_ble_eq_true rfl) (Nat.le_refl _) (Nat.le_refl _) (fun Z C => zf_M_minutes C a1 a2 h)
theorem d_M_morning_0 : decode prog_14_method_71_code 0 = .ok (.aload_n 0, 1) := by decide +kernel
theorem d_M_morning_1 : decode prog_14_method_71_code 1 = .ok (.iload_n 1, 1) := by decide +kernel
theorem d_M_morning_2 : decode prog_14_method_71_code 2 = .ok (.invokevirtual 187, 3) := by decide +kernel
theorem d_M_morning_5 : decode prog_14_method_71_code 5 = .ok (.ifCond .eq (23), 3) := by decide +kernel
theorem d_M_morning_8 : decode prog_14_method_71_code 8 = .ok (.iload_n 2, 1) := by decide +kernel
theorem d_M_morning_9 : decode prog_14_method_71_code 9 = .ok (.bipush (-99), 2) := by decide +kernel
theorem d_M_morning_11 : decode prog_14_method_71_code 11 = .ok (.bipush (99), 2) := by decide +kernel
theorem d_M_morning_13 : decode prog_14_method_71_code 13 = .ok (.invokestatic 158, 3) := by decide +kernel
theorem d_M_morning_16 : decode prog_14_method_71_code 16 = .ok (.ifCond .eq (12), 3) := by decide +kernel
theorem d_M_morning_19 : decode prog_14_method_71_code 19 = .ok (.iload_n 3, 1) := by decide +kernel
theorem d_M_morning_20 : decode prog_14_method_71_code 20 = .ok (.iconst 0, 1) := by decide +kernel
theorem d_M_morning_21 : decode prog_14_method_71_code 21 = .ok (.iconst 1, 1) := by decide +kernel
theorem d_M_morning_22 : decode prog_14_method_71_code 22 = .ok (.invokestatic 158, 3) := by decide +kernel
theorem d_M_morning_25 : decode prog_14_method_71_code 25 = .ok (.ifCond .ne (5), 3) := by decide +kernel
theorem d_M_morning_28 : decode prog_14_method_71_code 28 = .ok (.iconst (-1), 1) := by decide +kernel
theorem d_M_morning_29 : decode prog_14_method_71_code 29 = .ok (.ireturn, 1) := by decide +kernel
theorem d_M_morning_30 : decode prog_14_method_71_code 30 = .ok (.aload_n 0, 1) := by decide +kernel
theorem d_M_morning_31 : decode prog_14_method_71_code 31 = .ok (.getfield 155, 3) := by decide +kernel
theorem d_M_morning_34 : decode prog_14_method_71_code 34 = .ok (.ifCond .ne (6), 3) := by decide +kernel
theorem d_M_morning_37 : decode prog_14_method_71_code 37 = .ok (.bipush (-5), 2) := by decide +kernel
theorem d_M_morning_39 : decode prog_14_method_71_code 39 = .ok (.ireturn, 1) := by decide +kernel
theorem d_M_morning_40 : decode prog_14_method_71_code 40 = .ok (.iconst (-1), 1) := by decide +kernel
theorem d_M_morning_41 : decode prog_14_method_71_code 41 = .ok (.istore 4, 2) := by decide +kernel
theorem d_M_morning_43 : decode prog_14_method_71_code 43 = .ok (.iconst 0, 1) := by decide +kernel
theorem d_M_morning_44 : decode prog_14_method_71_code 44 = .ok (.istore 5, 2) := by decide +kernel
theorem d_M_morning_46 : decode prog_14_method_71_code 46 = .ok (.iconst 0, 1) := by decide +kernel
theorem d_M_morning_47 : decode prog_14_method_71_code 47 = .ok (.istore 6, 2) := by decide +kernel
theorem d_M_morning_49 : decode prog_14_method_71_code 49 = .ok (.iload 6, 2) := by decide +kernel
theorem d_M_morning_51 : decode prog_14_method_71_code 51 = .ok (.aload_n 0, 1) := by decide +kernel
theorem d_M_morning_52 : decode prog_14_method_71_code 52 = .ok (.getfield 155, 3) := by decide +kernel
theorem d_M_morning_55 : decode prog_14_method_71_code 55 = .ok (.if_icmp .ge (58), 3) := by decide +kernel
theorem d_M_morning_58 : decode prog_14_method_71_code 58 = .ok (.aload_n 0, 1) := by decide +kernel
theorem d_M_morning_59 : decode prog_14_method_71_code 59 = .ok (.iload 6, 2) := by decide +kernel
theorem d_M_morning_61 : decode prog_14_method_71_code 61 = .ok (.putfield 124, 3) := by decide +kernel
theorem d_M_morning_64 : decode prog_14_method_71_code 64 = .ok (.aload_n 0, 1) := by decide +kernel
theorem d_M_morning_65 : decode prog_14_method_71_code 65 = .ok (.sipush (479), 3) := by decide +kernel
theorem d_M_morning_68 : decode prog_14_method_71_code 68 = .ok (.invokevirtual 323, 3) := by decide +kernel
theorem d_M_morning_71 : decode prog_14_method_71_code 71 = .ok (.aload_n 0, 1) := by decide +kernel
theorem d_M_morning_72 : decode prog_14_method_71_code 72 = .ok (.getfield 91, 3) := by decide +kernel
theorem d_M_morning_75 : decode prog_14_method_71_code 75 = .ok (.iload_n 1, 1) := by decide +kernel
theorem d_M_morning_76 : decode prog_14_method_71_code 76 = .ok (.iaload, 1) := by decide +kernel
theorem d_M_morning_77 : decode prog_14_method_71_code 77 = .ok (.iload_n 2, 1) := by decide +kernel
theorem d_M_morning_78 : decode prog_14_method_71_code 78 = .ok (.isub, 1) := by decide +kernel
theorem d_M_morning_79 : decode prog_14_method_71_code 79 = .ok (.invokestatic 294, 3) := by decide +kernel
theorem d_M_morning_82 : decode prog_14_method_71_code 82 = .ok (.istore 7, 2) := by decide +kernel
theorem d_M_morning_84 : decode prog_14_method_71_code 84 = .ok (.iload 4, 2) := by decide +kernel
theorem d_M_morning_86 : decode prog_14_method_71_code 86 = .ok (.ifCond .lt (13), 3) := by decide +kernel
theorem d_M_morning_89 : decode prog_14_method_71_code 89 = .ok (.iload 7, 2) := by decide +kernel
theorem d_M_morning_91 : decode prog_14_method_71_code 91 = .ok (.iload 5, 2) := by decide +kernel
theorem d_M_morning_93 : decode prog_14_method_71_code 93 = .ok (.if_icmp .lt (6), 3) := by decide +kernel
theorem d_M_morning_96 : decode prog_14_method_71_code 96 = .ok (.goto (11), 3) := by decide +kernel
theorem d_M_morning_99 : decode prog_14_method_71_code 99 = .ok (.iload 6, 2) := by decide +kernel
theorem d_M_morning_101 : decode prog_14_method_71_code 101 = .ok (.istore 4, 2) := by decide +kernel
theorem d_M_morning_103 : decode prog_14_method_71_code 103 = .ok (.iload 7, 2) := by decide +kernel
theorem d_M_morning_105 : decode prog_14_method_71_code 105 = .ok (.istore 5, 2) := by decide +kernel
theorem d_M_morning_107 : decode prog_14_method_71_code 107 = .ok (.iinc 6 (1), 3) := by decide +kernel
theorem d_M_morning_110 : decode prog_14_method_71_code 110 = .ok (.goto (-61), 3) := by decide +kernel
theorem d_M_morning_113 : decode prog_14_method_71_code 113 = .ok (.aload_n 0, 1) := by decide +kernel
theorem d_M_morning_114 : decode prog_14_method_71_code 114 = .ok (.iconst (-1), 1) := by decide +kernel
theorem d_M_morning_115 : decode prog_14_method_71_code 115 = .ok (.putfield 124, 3) := by decide +kernel
theorem d_M_morning_118 : decode prog_14_method_71_code 118 = .ok (.iload_n 3, 1) := by decide +kernel
theorem d_M_morning_119 : decode prog_14_method_71_code 119 = .ok (.ifCond .ne (8), 3) := by decide +kernel
theorem d_M_morning_122 : decode prog_14_method_71_code 122 = .ok (.iload 4, 2) := by decide +kernel
theorem d_M_morning_124 : decode prog_14_method_71_code 124 = .ok (.goto (5), 3) := by decide +kernel
theorem d_M_morning_127 : decode prog_14_method_71_code 127 = .ok (.iload 5, 2) := by decide +kernel
theorem d_M_morning_129 : decode prog_14_method_71_code 129 = .ok (.ireturn, 1) := by decide +kernel
set_option maxHeartbeats 4000000 in
set_option maxRecDepth 100000 in
theorem zf_M_morning_J99 {G : zz_G} {l : Launch} {Z : zz_Z} {q : Int32 × zz_S} {s : zz_S} (C : zz_Cx G l "OneBlanketModel" "morning" prog_14_method_71_code 8 (some .int) 9 (some (.int q.1), zsh, q.2) Z) (K49 : Int32 → Int32 → Int32 → Int32 → Int32 → Int32 → zz_S → Option (Int32 × zz_S)) (hK49 : ∀ (v1 : Int32) (v2 : Int32) (v3 : Int32) (v4 : Int32) (v5 : Int32) (v6 : Int32) (s : zz_S), K49 v1 v2 v3 v4 v5 v6 s = some q → Z 49 [some (.ref 79), some (.int v1), some (.int v2), some (.int v3), some (.int v4), some (.int v5), some (.int v6), none] [] zsh s) (v1 : Int32) (v2 : Int32) (v3 : Int32) (v6 : Int32) (v7 : Int32) (h : f_M_morning_J99 K49 v1 v2 v3 v6 v7 s = some q) : Z 99 [some (.ref 79), some (.int v1), some (.int v2), some (.int v3), none, none, some (.int v6), some (.int v7)] [] zsh s := by
  unfold f_M_morning_J99 at h
  refine zz_iload (i := 6) (pc := 99) C rfl d_M_morning_99 ?_
  refine zz_istore (i := 4) (lo' := [some (.ref 79), some (.int v1), some (.int v2), some (.int v3), some (.int v6), none, some (.int v6), some (.int v7)]) (pc := 101) C (Nat.le_of_ble_eq_true rfl) rfl rfl d_M_morning_101 ?_
  refine zz_iload (i := 7) (pc := 103) C rfl d_M_morning_103 ?_
  refine zz_istore (i := 5) (lo' := [some (.ref 79), some (.int v1), some (.int v2), some (.int v3), some (.int v6), some (.int v7), some (.int v6), some (.int v7)]) (pc := 105) C (Nat.le_of_ble_eq_true rfl) rfl rfl d_M_morning_105 ?_
  refine zz_iinc (lo' := [some (.ref 79), some (.int v1), some (.int v2), some (.int v3), some (.int v6), some (.int v7), some (.int (v6 + (1 : Int32))), some (.int v7)]) (pc := 107) C rfl (zz_inc zki_1) rfl rfl d_M_morning_107 ?_
  refine zz_goto (tgt := 49) (pc := 110) C (by decide) d_M_morning_110 ?_
  refine zz_fg C [true, true, true, true, true, true, true, false] rfl rfl ?_
  exact hK49 v1 v2 v3 v6 v7 (v6 + (1 : Int32)) s h
set_option maxHeartbeats 4000000 in
set_option maxRecDepth 100000 in
theorem zf_M_morning_L49 {G : zz_G} {l : Launch} {Z : zz_Z} {q : Int32 × zz_S} (C : zz_Cx G l "OneBlanketModel" "morning" prog_14_method_71_code 8 (some .int) 9 (some (.int q.1), zsh, q.2) Z) : ∀ (n : Nat) (v1 : Int32) (v2 : Int32) (v3 : Int32) (v4 : Int32) (v5 : Int32) (v6 : Int32) (s : zz_S), f_M_morning_L49 n v1 v2 v3 v4 v5 v6 s = some q → Z 49 [some (.ref 79), some (.int v1), some (.int v2), some (.int v3), some (.int v4), some (.int v5), some (.int v6), none] [] zsh s := by
  intro n
  induction n with
  | zero => intro v1 v2 v3 v4 v5 v6 s h; rw [f_M_morning_L49] at h; cases h
  | succ n ih =>
  intro v1 v2 v3 v4 v5 v6 s h
  rw [f_M_morning_L49] at h
  refine zz_iload (i := 6) (pc := 49) C rfl d_M_morning_49 ?_
  refine zz_aload_n (i := 0) (pc := 51) C rfl rfl d_M_morning_51 ?_
  refine zz_getI (pc := 52) C zl_12_155 zsh_79 rfl d_M_morning_52 ?_
  refine zz_icmp_ge (tgt := 113) (pc := 55) C (by decide) d_M_morning_55 (fun hc5 => ?_) (fun hc5 => ?_)
  · rw [if_pos hc5] at h
    refine zz_aload_n (i := 0) (pc := 113) C rfl rfl d_M_morning_113 ?_
    refine zz_iconst (pc := 114) C zki_m1 d_M_morning_114 ?_
    refine zz_putI' (pc := 115) C zl_12_124 zpf_12_51 zsh_79 rfl d_M_morning_115 ?_
    refine zz_iload_n (i := 3) (pc := 118) C rfl rfl d_M_morning_118 ?_
    refine zz_if_ne (tgt := 127) (pc := 119) C (by decide) d_M_morning_119 (fun hc6 => ?_) (fun hc6 => ?_)
    · rw [if_neg hc6] at h
      refine zz_iload (i := 5) (pc := 127) C rfl d_M_morning_127 ?_
      replace h := Option.some.inj h
      subst h
      exact zz_ret (pc := 129) C (v := some (.int v5)) d_M_morning_129 (Or.inl ⟨_, _, rfl, rfl, rfl, rfl⟩) rfl
    · rw [if_pos hc6] at h
      refine zz_iload (i := 4) (pc := 122) C rfl d_M_morning_122 ?_
      refine zz_goto (tgt := 129) (pc := 124) C (by decide) d_M_morning_124 ?_
      replace h := Option.some.inj h
      subst h
      exact zz_ret (pc := 129) C (v := some (.int v4)) d_M_morning_129 (Or.inl ⟨_, _, rfl, rfl, rfl, rfl⟩) rfl
  · rw [if_neg hc5] at h
    refine zz_aload_n (i := 0) (pc := 58) C rfl rfl d_M_morning_58 ?_
    refine zz_iload (i := 6) (pc := 59) C rfl d_M_morning_59 ?_
    refine zz_putI' (pc := 61) C zl_12_124 zpf_12_51 zsh_79 rfl d_M_morning_61 ?_
    refine zz_aload_n (i := 0) (pc := 64) C rfl rfl d_M_morning_64 ?_
    refine zz_sipush (pc := 65) C zks_479 d_M_morning_65 ?_
    obtain ⟨q7, hq7, h⟩ := zz_bdE h
    refine zz_cVv (as := [.int (479 : Int32)]) (st := []) (pc := 68) C (zm_M_night hq7) zcv_M_night zsh_79 zl_12_323 (by omega) (Nat.le_of_ble_eq_true rfl) d_M_morning_68 rfl rfl ?_
    refine zz_aload_n (i := 0) (pc := 71) C rfl rfl d_M_morning_71 ?_
    refine zz_getR (pc := 72) C zl_12_91 zsh_79 rfl d_M_morning_72 ?_
    refine zz_iload_n (i := 1) (pc := 75) C rfl rfl d_M_morning_75 ?_
    obtain ⟨hi8, h⟩ := zz_ckE h
    refine zz_iald (pc := 76) C rfl zsh_104 hi8 d_M_morning_76 ?_
    refine zz_iload_n (i := 2) (pc := 77) C rfl rfl d_M_morning_77 ?_
    refine zz_isub (pc := 78) C d_M_morning_78 ?_
    refine zz_cSi (as := [.int ((q7.1 104 (v1.toNatClampNeg)) - v2)]) (st := []) (pc := 79) C (zm_M_sizeOf rfl) zcs_M_sizeOf zl_12_294 (by omega) (Nat.le_of_ble_eq_true rfl) d_M_morning_79 rfl rfl ?_
    refine zz_istore (i := 7) (lo' := [some (.ref 79), some (.int v1), some (.int v2), some (.int v3), some (.int v4), some (.int v5), some (.int v6), some (.int (f_M_sizeOf ((q7.1 104 (v1.toNatClampNeg)) - v2)))]) (pc := 82) C (Nat.le_of_ble_eq_true rfl) rfl rfl d_M_morning_82 ?_
    refine zz_iload (i := 4) (pc := 84) C rfl d_M_morning_84 ?_
    refine zz_if_lt (tgt := 99) (pc := 86) C (by decide) d_M_morning_86 (fun hc9 => ?_) (fun hc9 => ?_)
    · rw [if_pos hc9] at h
      refine zz_fg C [true, true, true, true, false, false, true, true] rfl rfl ?_
      exact zf_M_morning_J99 C (f_M_morning_L49 n) ih v1 v2 v3 v6 (f_M_sizeOf ((q7.1 104 (v1.toNatClampNeg)) - v2)) h
    · rw [if_neg hc9] at h
      refine zz_iload (i := 7) (pc := 89) C rfl d_M_morning_89 ?_
      refine zz_iload (i := 5) (pc := 91) C rfl d_M_morning_91 ?_
      refine zz_icmp_lt (tgt := 99) (pc := 93) C (by decide) d_M_morning_93 (fun hc10 => ?_) (fun hc10 => ?_)
      · rw [if_pos hc10] at h
        refine zz_fg C [true, true, true, true, false, false, true, true] rfl rfl ?_
        exact zf_M_morning_J99 C (f_M_morning_L49 n) ih v1 v2 v3 v6 (f_M_sizeOf ((q7.1 104 (v1.toNatClampNeg)) - v2)) h
      · rw [if_neg hc10] at h
        refine zz_goto (tgt := 107) (pc := 96) C (by decide) d_M_morning_96 ?_
        refine zz_iinc (lo' := [some (.ref 79), some (.int v1), some (.int v2), some (.int v3), some (.int v4), some (.int v5), some (.int (v6 + (1 : Int32))), some (.int (f_M_sizeOf ((q7.1 104 (v1.toNatClampNeg)) - v2)))]) (pc := 107) C rfl (zz_inc zki_1) rfl rfl d_M_morning_107 ?_
        refine zz_goto (tgt := 49) (pc := 110) C (by decide) d_M_morning_110 ?_
        refine zz_fg C [true, true, true, true, true, true, true, false] rfl rfl ?_
        exact ih v1 v2 v3 v4 v5 (v6 + (1 : Int32)) q7 h
set_option maxHeartbeats 4000000 in
set_option maxRecDepth 100000 in
theorem zf_M_morning {G : zz_G} {l : Launch} {Z : zz_Z} {q : Int32 × zz_S} {s : zz_S} (C : zz_Cx G l "OneBlanketModel" "morning" prog_14_method_71_code 8 (some .int) 9 (some (.int q.1), zsh, q.2) Z) (a1 : Int32) (a2 : Int32) (a3 : Int32) (h : f_M_morning a1 a2 a3 s = some q) : Z 0 [some (.ref 79), some (.int a1), some (.int a2), some (.int a3), none, none, none, none] [] zsh s := by
  unfold f_M_morning at h
  refine zz_aload_n (i := 0) (pc := 0) C rfl rfl d_M_morning_0 ?_
  refine zz_iload_n (i := 1) (pc := 1) C rfl rfl d_M_morning_1 ?_
  refine zz_cVi (as := [.int a1]) (st := []) (pc := 2) C (zm_M_isCover rfl) zcv_M_isCover zsh_79 zl_12_187 (by omega) (Nat.le_of_ble_eq_true rfl) d_M_morning_2 rfl rfl ?_
  refine zz_if_eq (tgt := 28) (pc := 5) C (by decide) d_M_morning_5 (fun hc1 => ?_) (fun hc1 => ?_)
  · rw [if_pos hc1] at h
    refine zz_iconst (pc := 28) C zki_m1 d_M_morning_28 ?_
    replace h := Option.some.inj h
    subst h
    exact zz_ret (pc := 29) C (v := some (.int (-1 : Int32))) d_M_morning_29 (Or.inl ⟨_, _, rfl, rfl, rfl, rfl⟩) rfl
  · rw [if_neg hc1] at h
    refine zz_iload_n (i := 2) (pc := 8) C rfl rfl d_M_morning_8 ?_
    refine zz_bipush (pc := 9) C zkb_m99 d_M_morning_9 ?_
    refine zz_bipush (pc := 11) C zkb_99 d_M_morning_11 ?_
    refine zz_cSi (as := [.int a2, .int (-99 : Int32), .int (99 : Int32)]) (st := []) (pc := 13) C (zm_M_in rfl) zcs_M_in zl_12_158 (by omega) (Nat.le_of_ble_eq_true rfl) d_M_morning_13 rfl rfl ?_
    refine zz_if_eq (tgt := 28) (pc := 16) C (by decide) d_M_morning_16 (fun hc2 => ?_) (fun hc2 => ?_)
    · rw [if_pos hc2] at h
      refine zz_iconst (pc := 28) C zki_m1 d_M_morning_28 ?_
      replace h := Option.some.inj h
      subst h
      exact zz_ret (pc := 29) C (v := some (.int (-1 : Int32))) d_M_morning_29 (Or.inl ⟨_, _, rfl, rfl, rfl, rfl⟩) rfl
    · rw [if_neg hc2] at h
      refine zz_iload_n (i := 3) (pc := 19) C rfl rfl d_M_morning_19 ?_
      refine zz_iconst (pc := 20) C zki_0 d_M_morning_20 ?_
      refine zz_iconst (pc := 21) C zki_1 d_M_morning_21 ?_
      refine zz_cSi (as := [.int a3, .int (0 : Int32), .int (1 : Int32)]) (st := []) (pc := 22) C (zm_M_in rfl) zcs_M_in zl_12_158 (by omega) (Nat.le_of_ble_eq_true rfl) d_M_morning_22 rfl rfl ?_
      refine zz_if_ne (tgt := 30) (pc := 25) C (by decide) d_M_morning_25 (fun hc3 => ?_) (fun hc3 => ?_)
      · rw [if_neg hc3] at h
        refine zz_aload_n (i := 0) (pc := 30) C rfl rfl d_M_morning_30 ?_
        refine zz_getI (pc := 31) C zl_12_155 zsh_79 rfl d_M_morning_31 ?_
        refine zz_if_ne (tgt := 40) (pc := 34) C (by decide) d_M_morning_34 (fun hc4 => ?_) (fun hc4 => ?_)
        · rw [if_neg hc4] at h
          refine zz_iconst (pc := 40) C zki_m1 d_M_morning_40 ?_
          refine zz_istore (i := 4) (lo' := [some (.ref 79), some (.int a1), some (.int a2), some (.int a3), some (.int (-1 : Int32)), none, none, none]) (pc := 41) C (Nat.le_of_ble_eq_true rfl) rfl rfl d_M_morning_41 ?_
          refine zz_iconst (pc := 43) C zki_0 d_M_morning_43 ?_
          refine zz_istore (i := 5) (lo' := [some (.ref 79), some (.int a1), some (.int a2), some (.int a3), some (.int (-1 : Int32)), some (.int (0 : Int32)), none, none]) (pc := 44) C (Nat.le_of_ble_eq_true rfl) rfl rfl d_M_morning_44 ?_
          refine zz_iconst (pc := 46) C zki_0 d_M_morning_46 ?_
          refine zz_istore (i := 6) (lo' := [some (.ref 79), some (.int a1), some (.int a2), some (.int a3), some (.int (-1 : Int32)), some (.int (0 : Int32)), some (.int (0 : Int32)), none]) (pc := 47) C (Nat.le_of_ble_eq_true rfl) rfl rfl d_M_morning_47 ?_
          exact zf_M_morning_L49 C zF a1 a2 a3 (-1 : Int32) (0 : Int32) (0 : Int32) s h
        · rw [if_pos hc4] at h
          refine zz_bipush (pc := 37) C zkb_m5 d_M_morning_37 ?_
          replace h := Option.some.inj h
          subst h
          exact zz_ret (pc := 39) C (v := some (.int (-5 : Int32))) d_M_morning_39 (Or.inl ⟨_, _, rfl, rfl, rfl, rfl⟩) rfl
      · rw [if_pos hc3] at h
        refine zz_iconst (pc := 28) C zki_m1 d_M_morning_28 ?_
        replace h := Option.some.inj h
        subst h
        exact zz_ret (pc := 29) C (v := some (.int (-1 : Int32))) d_M_morning_29 (Or.inl ⟨_, _, rfl, rfl, rfl, rfl⟩) rfl
theorem zm_M_morning {G : zz_G} {l : Launch} {s : zz_S} {q : Int32 × zz_S} {a1 : Int32} {a2 : Int32} {a3 : Int32} (h : f_M_morning a1 a2 a3 s = some q) : zz_M G l 9 y_M_morning prog_14_method_71_code 8 (some .int) [.ref 79, .int a1, .int a2, .int a3] zsh s (some (.int q.1), zsh, q.2) :=
  zz_M.intro (by decide) (Nat.le_of_ble_eq_true rfl) (Nat.le_refl _) (Nat.le_refl _) (fun Z C => zf_M_morning C a1 a2 a3 h)
theorem d_M_of_0 : decode prog_14_method_18_code 0 = .ok (.iload_n 2, 1) := by decide +kernel
theorem d_M_of_1 : decode prog_14_method_18_code 1 = .ok (.iconst 0, 1) := by decide +kernel
theorem d_M_of_2 : decode prog_14_method_18_code 2 = .ok (.iconst 3, 1) := by decide +kernel
theorem d_M_of_3 : decode prog_14_method_18_code 3 = .ok (.invokestatic 158, 3) := by decide +kernel
theorem d_M_of_6 : decode prog_14_method_18_code 6 = .ok (.ifCond .eq (64), 3) := by decide +kernel
theorem d_M_of_9 : decode prog_14_method_18_code 9 = .ok (.aload_n 0, 1) := by decide +kernel
theorem d_M_of_10 : decode prog_14_method_18_code 10 = .ok (.iload_n 1, 1) := by decide +kernel
theorem d_M_of_11 : decode prog_14_method_18_code 11 = .ok (.invokevirtual 179, 3) := by decide +kernel
theorem d_M_of_14 : decode prog_14_method_18_code 14 = .ok (.ifCond .ne (8), 3) := by decide +kernel
theorem d_M_of_17 : decode prog_14_method_18_code 17 = .ok (.ldc 190, 2) := by decide +kernel
theorem d_M_of_19 : decode prog_14_method_18_code 19 = .ok (.goto (50), 3) := by decide +kernel
theorem d_M_of_22 : decode prog_14_method_18_code 22 = .ok (.iload_n 2, 1) := by decide +kernel
theorem d_M_of_23 : decode prog_14_method_18_code 23 = .ok (.ifCond .ne (12), 3) := by decide +kernel
theorem d_M_of_26 : decode prog_14_method_18_code 26 = .ok (.aload_n 0, 1) := by decide +kernel
theorem d_M_of_27 : decode prog_14_method_18_code 27 = .ok (.getfield 13, 3) := by decide +kernel
theorem d_M_of_30 : decode prog_14_method_18_code 30 = .ok (.iload_n 1, 1) := by decide +kernel
theorem d_M_of_31 : decode prog_14_method_18_code 31 = .ok (.iaload, 1) := by decide +kernel
theorem d_M_of_32 : decode prog_14_method_18_code 32 = .ok (.goto (37), 3) := by decide +kernel
theorem d_M_of_35 : decode prog_14_method_18_code 35 = .ok (.iload_n 2, 1) := by decide +kernel
theorem d_M_of_36 : decode prog_14_method_18_code 36 = .ok (.iconst 1, 1) := by decide +kernel
theorem d_M_of_37 : decode prog_14_method_18_code 37 = .ok (.if_icmp .ne (12), 3) := by decide +kernel
theorem d_M_of_40 : decode prog_14_method_18_code 40 = .ok (.aload_n 0, 1) := by decide +kernel
theorem d_M_of_41 : decode prog_14_method_18_code 41 = .ok (.getfield 17, 3) := by decide +kernel
theorem d_M_of_44 : decode prog_14_method_18_code 44 = .ok (.iload_n 1, 1) := by decide +kernel
theorem d_M_of_45 : decode prog_14_method_18_code 45 = .ok (.iaload, 1) := by decide +kernel
theorem d_M_of_46 : decode prog_14_method_18_code 46 = .ok (.goto (23), 3) := by decide +kernel
theorem d_M_of_49 : decode prog_14_method_18_code 49 = .ok (.iload_n 2, 1) := by decide +kernel
theorem d_M_of_50 : decode prog_14_method_18_code 50 = .ok (.iconst 2, 1) := by decide +kernel
theorem d_M_of_51 : decode prog_14_method_18_code 51 = .ok (.if_icmp .ne (12), 3) := by decide +kernel
theorem d_M_of_54 : decode prog_14_method_18_code 54 = .ok (.aload_n 0, 1) := by decide +kernel
theorem d_M_of_55 : decode prog_14_method_18_code 55 = .ok (.getfield 20, 3) := by decide +kernel
theorem d_M_of_58 : decode prog_14_method_18_code 58 = .ok (.iload_n 1, 1) := by decide +kernel
theorem d_M_of_59 : decode prog_14_method_18_code 59 = .ok (.iaload, 1) := by decide +kernel
theorem d_M_of_60 : decode prog_14_method_18_code 60 = .ok (.goto (9), 3) := by decide +kernel
theorem d_M_of_63 : decode prog_14_method_18_code 63 = .ok (.aload_n 0, 1) := by decide +kernel
theorem d_M_of_64 : decode prog_14_method_18_code 64 = .ok (.getfield 23, 3) := by decide +kernel
theorem d_M_of_67 : decode prog_14_method_18_code 67 = .ok (.iload_n 1, 1) := by decide +kernel
theorem d_M_of_68 : decode prog_14_method_18_code 68 = .ok (.iaload, 1) := by decide +kernel
theorem d_M_of_69 : decode prog_14_method_18_code 69 = .ok (.ireturn, 1) := by decide +kernel
theorem d_M_of_70 : decode prog_14_method_18_code 70 = .ok (.iload_n 2, 1) := by decide +kernel
theorem d_M_of_71 : decode prog_14_method_18_code 71 = .ok (.bipush (10), 2) := by decide +kernel
theorem d_M_of_73 : decode prog_14_method_18_code 73 = .ok (.bipush (13), 2) := by decide +kernel
theorem d_M_of_75 : decode prog_14_method_18_code 75 = .ok (.invokestatic 158, 3) := by decide +kernel
theorem d_M_of_78 : decode prog_14_method_18_code 78 = .ok (.ifCond .eq (68), 3) := by decide +kernel
theorem d_M_of_81 : decode prog_14_method_18_code 81 = .ok (.aload_n 0, 1) := by decide +kernel
theorem d_M_of_82 : decode prog_14_method_18_code 82 = .ok (.iload_n 1, 1) := by decide +kernel
theorem d_M_of_83 : decode prog_14_method_18_code 83 = .ok (.invokevirtual 187, 3) := by decide +kernel
theorem d_M_of_86 : decode prog_14_method_18_code 86 = .ok (.ifCond .ne (8), 3) := by decide +kernel
theorem d_M_of_89 : decode prog_14_method_18_code 89 = .ok (.ldc 190, 2) := by decide +kernel
theorem d_M_of_91 : decode prog_14_method_18_code 91 = .ok (.goto (54), 3) := by decide +kernel
theorem d_M_of_94 : decode prog_14_method_18_code 94 = .ok (.iload_n 2, 1) := by decide +kernel
theorem d_M_of_95 : decode prog_14_method_18_code 95 = .ok (.bipush (10), 2) := by decide +kernel
theorem d_M_of_97 : decode prog_14_method_18_code 97 = .ok (.if_icmp .ne (12), 3) := by decide +kernel
theorem d_M_of_100 : decode prog_14_method_18_code 100 = .ok (.aload_n 0, 1) := by decide +kernel
theorem d_M_of_101 : decode prog_14_method_18_code 101 = .ok (.getfield 26, 3) := by decide +kernel
theorem d_M_of_104 : decode prog_14_method_18_code 104 = .ok (.iload_n 1, 1) := by decide +kernel
theorem d_M_of_105 : decode prog_14_method_18_code 105 = .ok (.iaload, 1) := by decide +kernel
theorem d_M_of_106 : decode prog_14_method_18_code 106 = .ok (.goto (39), 3) := by decide +kernel
theorem d_M_of_109 : decode prog_14_method_18_code 109 = .ok (.iload_n 2, 1) := by decide +kernel
theorem d_M_of_110 : decode prog_14_method_18_code 110 = .ok (.bipush (11), 2) := by decide +kernel
theorem d_M_of_112 : decode prog_14_method_18_code 112 = .ok (.if_icmp .ne (12), 3) := by decide +kernel
theorem d_M_of_115 : decode prog_14_method_18_code 115 = .ok (.aload_n 0, 1) := by decide +kernel
theorem d_M_of_116 : decode prog_14_method_18_code 116 = .ok (.getfield 29, 3) := by decide +kernel
theorem d_M_of_119 : decode prog_14_method_18_code 119 = .ok (.iload_n 1, 1) := by decide +kernel
theorem d_M_of_120 : decode prog_14_method_18_code 120 = .ok (.iaload, 1) := by decide +kernel
theorem d_M_of_121 : decode prog_14_method_18_code 121 = .ok (.goto (24), 3) := by decide +kernel
theorem d_M_of_124 : decode prog_14_method_18_code 124 = .ok (.iload_n 2, 1) := by decide +kernel
theorem d_M_of_125 : decode prog_14_method_18_code 125 = .ok (.bipush (12), 2) := by decide +kernel
theorem d_M_of_127 : decode prog_14_method_18_code 127 = .ok (.if_icmp .ne (12), 3) := by decide +kernel
theorem d_M_of_130 : decode prog_14_method_18_code 130 = .ok (.aload_n 0, 1) := by decide +kernel
theorem d_M_of_131 : decode prog_14_method_18_code 131 = .ok (.getfield 32, 3) := by decide +kernel
theorem d_M_of_134 : decode prog_14_method_18_code 134 = .ok (.iload_n 1, 1) := by decide +kernel
theorem d_M_of_135 : decode prog_14_method_18_code 135 = .ok (.iaload, 1) := by decide +kernel
theorem d_M_of_136 : decode prog_14_method_18_code 136 = .ok (.goto (9), 3) := by decide +kernel
theorem d_M_of_139 : decode prog_14_method_18_code 139 = .ok (.aload_n 0, 1) := by decide +kernel
theorem d_M_of_140 : decode prog_14_method_18_code 140 = .ok (.getfield 35, 3) := by decide +kernel
theorem d_M_of_143 : decode prog_14_method_18_code 143 = .ok (.iload_n 1, 1) := by decide +kernel
theorem d_M_of_144 : decode prog_14_method_18_code 144 = .ok (.iaload, 1) := by decide +kernel
theorem d_M_of_145 : decode prog_14_method_18_code 145 = .ok (.ireturn, 1) := by decide +kernel
theorem d_M_of_146 : decode prog_14_method_18_code 146 = .ok (.iload_n 2, 1) := by decide +kernel
theorem d_M_of_147 : decode prog_14_method_18_code 147 = .ok (.bipush (20), 2) := by decide +kernel
theorem d_M_of_149 : decode prog_14_method_18_code 149 = .ok (.bipush (22), 2) := by decide +kernel
theorem d_M_of_151 : decode prog_14_method_18_code 151 = .ok (.invokestatic 158, 3) := by decide +kernel
theorem d_M_of_154 : decode prog_14_method_18_code 154 = .ok (.ifCond .eq (17), 3) := by decide +kernel
theorem d_M_of_157 : decode prog_14_method_18_code 157 = .ok (.iload_n 1, 1) := by decide +kernel
theorem d_M_of_158 : decode prog_14_method_18_code 158 = .ok (.iconst 0, 1) := by decide +kernel
theorem d_M_of_159 : decode prog_14_method_18_code 159 = .ok (.aload_n 0, 1) := by decide +kernel
theorem d_M_of_160 : decode prog_14_method_18_code 160 = .ok (.getfield 191, 3) := by decide +kernel
theorem d_M_of_163 : decode prog_14_method_18_code 163 = .ok (.iconst 1, 1) := by decide +kernel
theorem d_M_of_164 : decode prog_14_method_18_code 164 = .ok (.isub, 1) := by decide +kernel
theorem d_M_of_165 : decode prog_14_method_18_code 165 = .ok (.invokestatic 158, 3) := by decide +kernel
theorem d_M_of_168 : decode prog_14_method_18_code 168 = .ok (.ifCond .ne (6), 3) := by decide +kernel
theorem d_M_of_171 : decode prog_14_method_18_code 171 = .ok (.ldc 190, 2) := by decide +kernel
theorem d_M_of_173 : decode prog_14_method_18_code 173 = .ok (.ireturn, 1) := by decide +kernel
theorem d_M_of_174 : decode prog_14_method_18_code 174 = .ok (.iload_n 2, 1) := by decide +kernel
theorem d_M_of_175 : decode prog_14_method_18_code 175 = .ok (.bipush (20), 2) := by decide +kernel
theorem d_M_of_177 : decode prog_14_method_18_code 177 = .ok (.if_icmp .ne (12), 3) := by decide +kernel
theorem d_M_of_180 : decode prog_14_method_18_code 180 = .ok (.aload_n 0, 1) := by decide +kernel
theorem d_M_of_181 : decode prog_14_method_18_code 181 = .ok (.getfield 38, 3) := by decide +kernel
theorem d_M_of_184 : decode prog_14_method_18_code 184 = .ok (.iload_n 1, 1) := by decide +kernel
theorem d_M_of_185 : decode prog_14_method_18_code 185 = .ok (.iaload, 1) := by decide +kernel
theorem d_M_of_186 : decode prog_14_method_18_code 186 = .ok (.goto (24), 3) := by decide +kernel
theorem d_M_of_189 : decode prog_14_method_18_code 189 = .ok (.iload_n 2, 1) := by decide +kernel
theorem d_M_of_190 : decode prog_14_method_18_code 190 = .ok (.bipush (21), 2) := by decide +kernel
theorem d_M_of_192 : decode prog_14_method_18_code 192 = .ok (.if_icmp .ne (12), 3) := by decide +kernel
theorem d_M_of_195 : decode prog_14_method_18_code 195 = .ok (.aload_n 0, 1) := by decide +kernel
theorem d_M_of_196 : decode prog_14_method_18_code 196 = .ok (.getfield 41, 3) := by decide +kernel
theorem d_M_of_199 : decode prog_14_method_18_code 199 = .ok (.iload_n 1, 1) := by decide +kernel
theorem d_M_of_200 : decode prog_14_method_18_code 200 = .ok (.iaload, 1) := by decide +kernel
theorem d_M_of_201 : decode prog_14_method_18_code 201 = .ok (.goto (9), 3) := by decide +kernel
theorem d_M_of_204 : decode prog_14_method_18_code 204 = .ok (.aload_n 0, 1) := by decide +kernel
theorem d_M_of_205 : decode prog_14_method_18_code 205 = .ok (.getfield 44, 3) := by decide +kernel
theorem d_M_of_208 : decode prog_14_method_18_code 208 = .ok (.iload_n 1, 1) := by decide +kernel
theorem d_M_of_209 : decode prog_14_method_18_code 209 = .ok (.iaload, 1) := by decide +kernel
theorem d_M_of_210 : decode prog_14_method_18_code 210 = .ok (.ireturn, 1) := by decide +kernel
set_option maxHeartbeats 4000000 in
set_option maxRecDepth 100000 in
theorem zf_M_of {G : zz_G} {l : Launch} {Z : zz_Z} {q : Int32} {s : zz_S} (C : zz_Cx G l "OneBlanketModel" "of" prog_14_method_18_code 3 (some .int) 4 (some (.int q), zsh, s) Z) (a1 : Int32) (a2 : Int32) (h : f_M_of a1 a2 s = some q) : Z 0 [some (.ref 79), some (.int a1), some (.int a2)] [] zsh s := by
  unfold f_M_of at h
  refine zz_iload_n (i := 2) (pc := 0) C rfl rfl d_M_of_0 ?_
  refine zz_iconst (pc := 1) C zki_0 d_M_of_1 ?_
  refine zz_iconst (pc := 2) C zki_3 d_M_of_2 ?_
  refine zz_cSi (as := [.int a2, .int (0 : Int32), .int (3 : Int32)]) (st := []) (pc := 3) C (zm_M_in rfl) zcs_M_in zl_12_158 (by omega) (Nat.le_of_ble_eq_true rfl) d_M_of_3 rfl rfl ?_
  refine zz_if_eq (tgt := 70) (pc := 6) C (by decide) d_M_of_6 (fun hc1 => ?_) (fun hc1 => ?_)
  · rw [if_pos hc1] at h
    refine zz_iload_n (i := 2) (pc := 70) C rfl rfl d_M_of_70 ?_
    refine zz_bipush (pc := 71) C zkb_10 d_M_of_71 ?_
    refine zz_bipush (pc := 73) C zkb_13 d_M_of_73 ?_
    refine zz_cSi (as := [.int a2, .int (10 : Int32), .int (13 : Int32)]) (st := []) (pc := 75) C (zm_M_in rfl) zcs_M_in zl_12_158 (by omega) (Nat.le_of_ble_eq_true rfl) d_M_of_75 rfl rfl ?_
    refine zz_if_eq (tgt := 146) (pc := 78) C (by decide) d_M_of_78 (fun hc2 => ?_) (fun hc2 => ?_)
    · rw [if_pos hc2] at h
      refine zz_iload_n (i := 2) (pc := 146) C rfl rfl d_M_of_146 ?_
      refine zz_bipush (pc := 147) C zkb_20 d_M_of_147 ?_
      refine zz_bipush (pc := 149) C zkb_22 d_M_of_149 ?_
      refine zz_cSi (as := [.int a2, .int (20 : Int32), .int (22 : Int32)]) (st := []) (pc := 151) C (zm_M_in rfl) zcs_M_in zl_12_158 (by omega) (Nat.le_of_ble_eq_true rfl) d_M_of_151 rfl rfl ?_
      refine zz_if_eq (tgt := 171) (pc := 154) C (by decide) d_M_of_154 (fun hc3 => ?_) (fun hc3 => ?_)
      · rw [if_pos hc3] at h
        refine zz_ldc (pc := 171) C zl_12_190 d_M_of_171 ?_
        replace h := Option.some.inj h
        subst h
        exact zz_ret (pc := 173) C (v := some (.int (-2000000000 : Int32))) d_M_of_173 (Or.inl ⟨_, _, rfl, rfl, rfl, rfl⟩) rfl
      · rw [if_neg hc3] at h
        refine zz_iload_n (i := 1) (pc := 157) C rfl rfl d_M_of_157 ?_
        refine zz_iconst (pc := 158) C zki_0 d_M_of_158 ?_
        refine zz_aload_n (i := 0) (pc := 159) C rfl rfl d_M_of_159 ?_
        refine zz_getI (pc := 160) C zl_12_191 zsh_79 rfl d_M_of_160 ?_
        refine zz_iconst (pc := 163) C zki_1 d_M_of_163 ?_
        refine zz_isub (pc := 164) C d_M_of_164 ?_
        refine zz_cSi (as := [.int a1, .int (0 : Int32), .int ((s.1 79 12) - (1 : Int32))]) (st := []) (pc := 165) C (zm_M_in rfl) zcs_M_in zl_12_158 (by omega) (Nat.le_of_ble_eq_true rfl) d_M_of_165 rfl rfl ?_
        refine zz_if_ne (tgt := 174) (pc := 168) C (by decide) d_M_of_168 (fun hc4 => ?_) (fun hc4 => ?_)
        · rw [if_neg hc4] at h
          refine zz_iload_n (i := 2) (pc := 174) C rfl rfl d_M_of_174 ?_
          refine zz_bipush (pc := 175) C zkb_20 d_M_of_175 ?_
          refine zz_icmp_ne (tgt := 189) (pc := 177) C (by decide) d_M_of_177 (fun hc5 => ?_) (fun hc5 => ?_)
          · rw [if_neg hc5] at h
            refine zz_iload_n (i := 2) (pc := 189) C rfl rfl d_M_of_189 ?_
            refine zz_bipush (pc := 190) C zkb_21 d_M_of_190 ?_
            refine zz_icmp_ne (tgt := 204) (pc := 192) C (by decide) d_M_of_192 (fun hc6 => ?_) (fun hc6 => ?_)
            · rw [if_neg hc6] at h
              refine zz_aload_n (i := 0) (pc := 204) C rfl rfl d_M_of_204 ?_
              refine zz_getR (pc := 205) C zl_12_44 zsh_79 rfl d_M_of_205 ?_
              refine zz_iload_n (i := 1) (pc := 208) C rfl rfl d_M_of_208 ?_
              obtain ⟨hi7, h⟩ := zz_ckE h
              refine zz_iald (pc := 209) C rfl zsh_90 hi7 d_M_of_209 ?_
              replace h := Option.some.inj h
              subst h
              exact zz_ret (pc := 210) C (v := some (.int (s.1 90 (a1.toNatClampNeg)))) d_M_of_210 (Or.inl ⟨_, _, rfl, rfl, rfl, rfl⟩) rfl
            · rw [if_pos hc6] at h
              refine zz_aload_n (i := 0) (pc := 195) C rfl rfl d_M_of_195 ?_
              refine zz_getR (pc := 196) C zl_12_41 zsh_79 rfl d_M_of_196 ?_
              refine zz_iload_n (i := 1) (pc := 199) C rfl rfl d_M_of_199 ?_
              obtain ⟨hi8, h⟩ := zz_ckE h
              refine zz_iald (pc := 200) C rfl zsh_89 hi8 d_M_of_200 ?_
              refine zz_goto (tgt := 210) (pc := 201) C (by decide) d_M_of_201 ?_
              replace h := Option.some.inj h
              subst h
              exact zz_ret (pc := 210) C (v := some (.int (s.1 89 (a1.toNatClampNeg)))) d_M_of_210 (Or.inl ⟨_, _, rfl, rfl, rfl, rfl⟩) rfl
          · rw [if_pos hc5] at h
            refine zz_aload_n (i := 0) (pc := 180) C rfl rfl d_M_of_180 ?_
            refine zz_getR (pc := 181) C zl_12_38 zsh_79 rfl d_M_of_181 ?_
            refine zz_iload_n (i := 1) (pc := 184) C rfl rfl d_M_of_184 ?_
            obtain ⟨hi9, h⟩ := zz_ckE h
            refine zz_iald (pc := 185) C rfl zsh_88 hi9 d_M_of_185 ?_
            refine zz_goto (tgt := 210) (pc := 186) C (by decide) d_M_of_186 ?_
            replace h := Option.some.inj h
            subst h
            exact zz_ret (pc := 210) C (v := some (.int (s.1 88 (a1.toNatClampNeg)))) d_M_of_210 (Or.inl ⟨_, _, rfl, rfl, rfl, rfl⟩) rfl
        · rw [if_pos hc4] at h
          refine zz_ldc (pc := 171) C zl_12_190 d_M_of_171 ?_
          replace h := Option.some.inj h
          subst h
          exact zz_ret (pc := 173) C (v := some (.int (-2000000000 : Int32))) d_M_of_173 (Or.inl ⟨_, _, rfl, rfl, rfl, rfl⟩) rfl
    · rw [if_neg hc2] at h
      refine zz_aload_n (i := 0) (pc := 81) C rfl rfl d_M_of_81 ?_
      refine zz_iload_n (i := 1) (pc := 82) C rfl rfl d_M_of_82 ?_
      refine zz_cVi (as := [.int a1]) (st := []) (pc := 83) C (zm_M_isCover rfl) zcv_M_isCover zsh_79 zl_12_187 (by omega) (Nat.le_of_ble_eq_true rfl) d_M_of_83 rfl rfl ?_
      refine zz_if_ne (tgt := 94) (pc := 86) C (by decide) d_M_of_86 (fun hc10 => ?_) (fun hc10 => ?_)
      · rw [if_neg hc10] at h
        refine zz_iload_n (i := 2) (pc := 94) C rfl rfl d_M_of_94 ?_
        refine zz_bipush (pc := 95) C zkb_10 d_M_of_95 ?_
        refine zz_icmp_ne (tgt := 109) (pc := 97) C (by decide) d_M_of_97 (fun hc11 => ?_) (fun hc11 => ?_)
        · rw [if_neg hc11] at h
          refine zz_iload_n (i := 2) (pc := 109) C rfl rfl d_M_of_109 ?_
          refine zz_bipush (pc := 110) C zkb_11 d_M_of_110 ?_
          refine zz_icmp_ne (tgt := 124) (pc := 112) C (by decide) d_M_of_112 (fun hc12 => ?_) (fun hc12 => ?_)
          · rw [if_neg hc12] at h
            refine zz_iload_n (i := 2) (pc := 124) C rfl rfl d_M_of_124 ?_
            refine zz_bipush (pc := 125) C zkb_12 d_M_of_125 ?_
            refine zz_icmp_ne (tgt := 139) (pc := 127) C (by decide) d_M_of_127 (fun hc13 => ?_) (fun hc13 => ?_)
            · rw [if_neg hc13] at h
              refine zz_aload_n (i := 0) (pc := 139) C rfl rfl d_M_of_139 ?_
              refine zz_getR (pc := 140) C zl_12_35 zsh_79 rfl d_M_of_140 ?_
              refine zz_iload_n (i := 1) (pc := 143) C rfl rfl d_M_of_143 ?_
              obtain ⟨hi14, h⟩ := zz_ckE h
              refine zz_iald (pc := 144) C rfl zsh_87 hi14 d_M_of_144 ?_
              replace h := Option.some.inj h
              subst h
              exact zz_ret (pc := 145) C (v := some (.int (s.1 87 (a1.toNatClampNeg)))) d_M_of_145 (Or.inl ⟨_, _, rfl, rfl, rfl, rfl⟩) rfl
            · rw [if_pos hc13] at h
              refine zz_aload_n (i := 0) (pc := 130) C rfl rfl d_M_of_130 ?_
              refine zz_getR (pc := 131) C zl_12_32 zsh_79 rfl d_M_of_131 ?_
              refine zz_iload_n (i := 1) (pc := 134) C rfl rfl d_M_of_134 ?_
              obtain ⟨hi15, h⟩ := zz_ckE h
              refine zz_iald (pc := 135) C rfl zsh_86 hi15 d_M_of_135 ?_
              refine zz_goto (tgt := 145) (pc := 136) C (by decide) d_M_of_136 ?_
              replace h := Option.some.inj h
              subst h
              exact zz_ret (pc := 145) C (v := some (.int (s.1 86 (a1.toNatClampNeg)))) d_M_of_145 (Or.inl ⟨_, _, rfl, rfl, rfl, rfl⟩) rfl
          · rw [if_pos hc12] at h
            refine zz_aload_n (i := 0) (pc := 115) C rfl rfl d_M_of_115 ?_
            refine zz_getR (pc := 116) C zl_12_29 zsh_79 rfl d_M_of_116 ?_
            refine zz_iload_n (i := 1) (pc := 119) C rfl rfl d_M_of_119 ?_
            obtain ⟨hi16, h⟩ := zz_ckE h
            refine zz_iald (pc := 120) C rfl zsh_85 hi16 d_M_of_120 ?_
            refine zz_goto (tgt := 145) (pc := 121) C (by decide) d_M_of_121 ?_
            replace h := Option.some.inj h
            subst h
            exact zz_ret (pc := 145) C (v := some (.int (s.1 85 (a1.toNatClampNeg)))) d_M_of_145 (Or.inl ⟨_, _, rfl, rfl, rfl, rfl⟩) rfl
        · rw [if_pos hc11] at h
          refine zz_aload_n (i := 0) (pc := 100) C rfl rfl d_M_of_100 ?_
          refine zz_getR (pc := 101) C zl_12_26 zsh_79 rfl d_M_of_101 ?_
          refine zz_iload_n (i := 1) (pc := 104) C rfl rfl d_M_of_104 ?_
          obtain ⟨hi17, h⟩ := zz_ckE h
          refine zz_iald (pc := 105) C rfl zsh_84 hi17 d_M_of_105 ?_
          refine zz_goto (tgt := 145) (pc := 106) C (by decide) d_M_of_106 ?_
          replace h := Option.some.inj h
          subst h
          exact zz_ret (pc := 145) C (v := some (.int (s.1 84 (a1.toNatClampNeg)))) d_M_of_145 (Or.inl ⟨_, _, rfl, rfl, rfl, rfl⟩) rfl
      · rw [if_pos hc10] at h
        refine zz_ldc (pc := 89) C zl_12_190 d_M_of_89 ?_
        refine zz_goto (tgt := 145) (pc := 91) C (by decide) d_M_of_91 ?_
        replace h := Option.some.inj h
        subst h
        exact zz_ret (pc := 145) C (v := some (.int (-2000000000 : Int32))) d_M_of_145 (Or.inl ⟨_, _, rfl, rfl, rfl, rfl⟩) rfl
  · rw [if_neg hc1] at h
    refine zz_aload_n (i := 0) (pc := 9) C rfl rfl d_M_of_9 ?_
    refine zz_iload_n (i := 1) (pc := 10) C rfl rfl d_M_of_10 ?_
    refine zz_cVi (as := [.int a1]) (st := []) (pc := 11) C (zm_M_isSleeper rfl) zcv_M_isSleeper zsh_79 zl_12_179 (by omega) (Nat.le_of_ble_eq_true rfl) d_M_of_11 rfl rfl ?_
    refine zz_if_ne (tgt := 22) (pc := 14) C (by decide) d_M_of_14 (fun hc18 => ?_) (fun hc18 => ?_)
    · rw [if_neg hc18] at h
      refine zz_iload_n (i := 2) (pc := 22) C rfl rfl d_M_of_22 ?_
      refine zz_if_ne (tgt := 35) (pc := 23) C (by decide) d_M_of_23 (fun hc19 => ?_) (fun hc19 => ?_)
      · rw [if_neg hc19] at h
        refine zz_iload_n (i := 2) (pc := 35) C rfl rfl d_M_of_35 ?_
        refine zz_iconst (pc := 36) C zki_1 d_M_of_36 ?_
        refine zz_icmp_ne (tgt := 49) (pc := 37) C (by decide) d_M_of_37 (fun hc20 => ?_) (fun hc20 => ?_)
        · rw [if_neg hc20] at h
          refine zz_iload_n (i := 2) (pc := 49) C rfl rfl d_M_of_49 ?_
          refine zz_iconst (pc := 50) C zki_2 d_M_of_50 ?_
          refine zz_icmp_ne (tgt := 63) (pc := 51) C (by decide) d_M_of_51 (fun hc21 => ?_) (fun hc21 => ?_)
          · rw [if_neg hc21] at h
            refine zz_aload_n (i := 0) (pc := 63) C rfl rfl d_M_of_63 ?_
            refine zz_getR (pc := 64) C zl_12_23 zsh_79 rfl d_M_of_64 ?_
            refine zz_iload_n (i := 1) (pc := 67) C rfl rfl d_M_of_67 ?_
            obtain ⟨hi22, h⟩ := zz_ckE h
            refine zz_iald (pc := 68) C rfl zsh_83 hi22 d_M_of_68 ?_
            replace h := Option.some.inj h
            subst h
            exact zz_ret (pc := 69) C (v := some (.int (s.1 83 (a1.toNatClampNeg)))) d_M_of_69 (Or.inl ⟨_, _, rfl, rfl, rfl, rfl⟩) rfl
          · rw [if_pos hc21] at h
            refine zz_aload_n (i := 0) (pc := 54) C rfl rfl d_M_of_54 ?_
            refine zz_getR (pc := 55) C zl_12_20 zsh_79 rfl d_M_of_55 ?_
            refine zz_iload_n (i := 1) (pc := 58) C rfl rfl d_M_of_58 ?_
            obtain ⟨hi23, h⟩ := zz_ckE h
            refine zz_iald (pc := 59) C rfl zsh_82 hi23 d_M_of_59 ?_
            refine zz_goto (tgt := 69) (pc := 60) C (by decide) d_M_of_60 ?_
            replace h := Option.some.inj h
            subst h
            exact zz_ret (pc := 69) C (v := some (.int (s.1 82 (a1.toNatClampNeg)))) d_M_of_69 (Or.inl ⟨_, _, rfl, rfl, rfl, rfl⟩) rfl
        · rw [if_pos hc20] at h
          refine zz_aload_n (i := 0) (pc := 40) C rfl rfl d_M_of_40 ?_
          refine zz_getR (pc := 41) C zl_12_17 zsh_79 rfl d_M_of_41 ?_
          refine zz_iload_n (i := 1) (pc := 44) C rfl rfl d_M_of_44 ?_
          obtain ⟨hi24, h⟩ := zz_ckE h
          refine zz_iald (pc := 45) C rfl zsh_81 hi24 d_M_of_45 ?_
          refine zz_goto (tgt := 69) (pc := 46) C (by decide) d_M_of_46 ?_
          replace h := Option.some.inj h
          subst h
          exact zz_ret (pc := 69) C (v := some (.int (s.1 81 (a1.toNatClampNeg)))) d_M_of_69 (Or.inl ⟨_, _, rfl, rfl, rfl, rfl⟩) rfl
      · rw [if_pos hc19] at h
        refine zz_aload_n (i := 0) (pc := 26) C rfl rfl d_M_of_26 ?_
        refine zz_getR (pc := 27) C zl_12_13 zsh_79 rfl d_M_of_27 ?_
        refine zz_iload_n (i := 1) (pc := 30) C rfl rfl d_M_of_30 ?_
        obtain ⟨hi25, h⟩ := zz_ckE h
        refine zz_iald (pc := 31) C rfl zsh_80 hi25 d_M_of_31 ?_
        refine zz_goto (tgt := 69) (pc := 32) C (by decide) d_M_of_32 ?_
        replace h := Option.some.inj h
        subst h
        exact zz_ret (pc := 69) C (v := some (.int (s.1 80 (a1.toNatClampNeg)))) d_M_of_69 (Or.inl ⟨_, _, rfl, rfl, rfl, rfl⟩) rfl
    · rw [if_pos hc18] at h
      refine zz_ldc (pc := 17) C zl_12_190 d_M_of_17 ?_
      refine zz_goto (tgt := 69) (pc := 19) C (by decide) d_M_of_19 ?_
      replace h := Option.some.inj h
      subst h
      exact zz_ret (pc := 69) C (v := some (.int (-2000000000 : Int32))) d_M_of_69 (Or.inl ⟨_, _, rfl, rfl, rfl, rfl⟩) rfl
theorem zm_M_of {G : zz_G} {l : Launch} {s : zz_S} {q : Int32} {a1 : Int32} {a2 : Int32} (h : f_M_of a1 a2 s = some q) : zz_M G l 4 y_M_of prog_14_method_18_code 3 (some .int) [.ref 79, .int a1, .int a2] zsh s (some (.int q), zsh, s) :=
  zz_M.intro (by decide) (Nat.le_of_ble_eq_true rfl) (Nat.le_refl _) (Nat.le_refl _) (fun Z C => zf_M_of C a1 a2 h)
theorem d_M_put_0 : decode prog_14_method_96_code 0 = .ok (.aload_n 0, 1) := by decide +kernel
theorem d_M_put_1 : decode prog_14_method_96_code 1 = .ok (.iload_n 1, 1) := by decide +kernel
theorem d_M_put_2 : decode prog_14_method_96_code 2 = .ok (.iload_n 2, 1) := by decide +kernel
theorem d_M_put_3 : decode prog_14_method_96_code 3 = .ok (.invokevirtual 400, 3) := by decide +kernel
theorem d_M_put_6 : decode prog_14_method_96_code 6 = .ok (.istore 5, 2) := by decide +kernel
theorem d_M_put_8 : decode prog_14_method_96_code 8 = .ok (.iload 5, 2) := by decide +kernel
theorem d_M_put_10 : decode prog_14_method_96_code 10 = .ok (.ifCond .ge (6), 3) := by decide +kernel
theorem d_M_put_13 : decode prog_14_method_96_code 13 = .ok (.iload 5, 2) := by decide +kernel
theorem d_M_put_15 : decode prog_14_method_96_code 15 = .ok (.ireturn, 1) := by decide +kernel
theorem d_M_put_16 : decode prog_14_method_96_code 16 = .ok (.bipush (-2), 2) := by decide +kernel
theorem d_M_put_18 : decode prog_14_method_96_code 18 = .ok (.aload_n 0, 1) := by decide +kernel
theorem d_M_put_19 : decode prog_14_method_96_code 19 = .ok (.getfield 139, 3) := by decide +kernel
theorem d_M_put_22 : decode prog_14_method_96_code 22 = .ok (.iload_n 1, 1) := by decide +kernel
theorem d_M_put_23 : decode prog_14_method_96_code 23 = .ok (.iaload, 1) := by decide +kernel
theorem d_M_put_24 : decode prog_14_method_96_code 24 = .ok (.isub, 1) := by decide +kernel
theorem d_M_put_25 : decode prog_14_method_96_code 25 = .ok (.istore 6, 2) := by decide +kernel
theorem d_M_put_27 : decode prog_14_method_96_code 27 = .ok (.aload_n 0, 1) := by decide +kernel
theorem d_M_put_28 : decode prog_14_method_96_code 28 = .ok (.getfield 145, 3) := by decide +kernel
theorem d_M_put_31 : decode prog_14_method_96_code 31 = .ok (.bipush (60), 2) := by decide +kernel
theorem d_M_put_33 : decode prog_14_method_96_code 33 = .ok (.iload_n 1, 1) := by decide +kernel
theorem d_M_put_34 : decode prog_14_method_96_code 34 = .ok (.imul, 1) := by decide +kernel
theorem d_M_put_35 : decode prog_14_method_96_code 35 = .ok (.iload_n 2, 1) := by decide +kernel
theorem d_M_put_36 : decode prog_14_method_96_code 36 = .ok (.iadd, 1) := by decide +kernel
theorem d_M_put_37 : decode prog_14_method_96_code 37 = .ok (.iload 6, 2) := by decide +kernel
theorem d_M_put_39 : decode prog_14_method_96_code 39 = .ok (.ifCond .ne (10), 3) := by decide +kernel
theorem d_M_put_42 : decode prog_14_method_96_code 42 = .ok (.lload_n 3, 1) := by decide +kernel
theorem d_M_put_43 : decode prog_14_method_96_code 43 = .ok (.l2i, 1) := by decide +kernel
theorem d_M_put_44 : decode prog_14_method_96_code 44 = .ok (.i2b, 1) := by decide +kernel
theorem d_M_put_45 : decode prog_14_method_96_code 45 = .ok (.i2l, 1) := by decide +kernel
theorem d_M_put_46 : decode prog_14_method_96_code 46 = .ok (.goto (49), 3) := by decide +kernel
theorem d_M_put_49 : decode prog_14_method_96_code 49 = .ok (.iload 6, 2) := by decide +kernel
theorem d_M_put_51 : decode prog_14_method_96_code 51 = .ok (.iconst 1, 1) := by decide +kernel
theorem d_M_put_52 : decode prog_14_method_96_code 52 = .ok (.if_icmp .ne (10), 3) := by decide +kernel
theorem d_M_put_55 : decode prog_14_method_96_code 55 = .ok (.lload_n 3, 1) := by decide +kernel
theorem d_M_put_56 : decode prog_14_method_96_code 56 = .ok (.l2i, 1) := by decide +kernel
theorem d_M_put_57 : decode prog_14_method_96_code 57 = .ok (.i2s, 1) := by decide +kernel
theorem d_M_put_58 : decode prog_14_method_96_code 58 = .ok (.i2l, 1) := by decide +kernel
theorem d_M_put_59 : decode prog_14_method_96_code 59 = .ok (.goto (36), 3) := by decide +kernel
theorem d_M_put_62 : decode prog_14_method_96_code 62 = .ok (.iload 6, 2) := by decide +kernel
theorem d_M_put_64 : decode prog_14_method_96_code 64 = .ok (.iconst 2, 1) := by decide +kernel
theorem d_M_put_65 : decode prog_14_method_96_code 65 = .ok (.if_icmp .ne (9), 3) := by decide +kernel
theorem d_M_put_68 : decode prog_14_method_96_code 68 = .ok (.lload_n 3, 1) := by decide +kernel
theorem d_M_put_69 : decode prog_14_method_96_code 69 = .ok (.l2i, 1) := by decide +kernel
theorem d_M_put_70 : decode prog_14_method_96_code 70 = .ok (.i2l, 1) := by decide +kernel
theorem d_M_put_71 : decode prog_14_method_96_code 71 = .ok (.goto (24), 3) := by decide +kernel
theorem d_M_put_74 : decode prog_14_method_96_code 74 = .ok (.iload 6, 2) := by decide +kernel
theorem d_M_put_76 : decode prog_14_method_96_code 76 = .ok (.iconst 3, 1) := by decide +kernel
theorem d_M_put_77 : decode prog_14_method_96_code 77 = .ok (.if_icmp .ne (7), 3) := by decide +kernel
theorem d_M_put_80 : decode prog_14_method_96_code 80 = .ok (.lload_n 3, 1) := by decide +kernel
theorem d_M_put_81 : decode prog_14_method_96_code 81 = .ok (.goto (14), 3) := by decide +kernel
theorem d_M_put_84 : decode prog_14_method_96_code 84 = .ok (.lload_n 3, 1) := by decide +kernel
theorem d_M_put_85 : decode prog_14_method_96_code 85 = .ok (.lconst 0, 1) := by decide +kernel
theorem d_M_put_86 : decode prog_14_method_96_code 86 = .ok (.lcmp, 1) := by decide +kernel
theorem d_M_put_87 : decode prog_14_method_96_code 87 = .ok (.ifCond .eq (7), 3) := by decide +kernel
theorem d_M_put_90 : decode prog_14_method_96_code 90 = .ok (.lconst 1, 1) := by decide +kernel
theorem d_M_put_91 : decode prog_14_method_96_code 91 = .ok (.goto (4), 3) := by decide +kernel
theorem d_M_put_94 : decode prog_14_method_96_code 94 = .ok (.lconst 0, 1) := by decide +kernel
theorem d_M_put_95 : decode prog_14_method_96_code 95 = .ok (.lastore, 1) := by decide +kernel
theorem d_M_put_96 : decode prog_14_method_96_code 96 = .ok (.iconst 1, 1) := by decide +kernel
theorem d_M_put_97 : decode prog_14_method_96_code 97 = .ok (.ireturn, 1) := by decide +kernel
set_option maxHeartbeats 4000000 in
set_option maxRecDepth 100000 in
theorem zf_M_put_J95 {G : zz_G} {l : Launch} {Z : zz_Z} {q : Int32 × zz_S} {s : zz_S} (C : zz_Cx G l "OneBlanketModel" "put" prog_14_method_96_code 7 (some .int) 5 (some (.int q.1), zsh, q.2) Z) (t1 : Int32) (t2 : Int64) (h : f_M_put_J95 t1 t2 s = some q) : Z 95 [none, none, none, none, none, none, none] [.long t2, .int t1, .ref 121] zsh s := by
  unfold f_M_put_J95 at h
  obtain ⟨hi9, h⟩ := zz_ckE h
  refine zz_last (pc := 95) C rfl zsh_121 hi9 d_M_put_95 ?_
  refine zz_iconst (pc := 96) C zki_1 d_M_put_96 ?_
  replace h := Option.some.inj h
  subst h
  exact zz_ret (pc := 97) C (v := some (.int (1 : Int32))) d_M_put_97 (Or.inl ⟨_, _, rfl, rfl, rfl, rfl⟩) rfl
set_option maxHeartbeats 4000000 in
set_option maxRecDepth 100000 in
theorem zf_M_put {G : zz_G} {l : Launch} {Z : zz_Z} {q : Int32 × zz_S} {s : zz_S} (C : zz_Cx G l "OneBlanketModel" "put" prog_14_method_96_code 7 (some .int) 5 (some (.int q.1), zsh, q.2) Z) (a1 : Int32) (a2 : Int32) (a3 : Int64) (h : f_M_put a1 a2 a3 s = some q) : Z 0 [some (.ref 79), some (.int a1), some (.int a2), some (.long a3), none, none, none] [] zsh s := by
  unfold f_M_put at h
  refine zz_aload_n (i := 0) (pc := 0) C rfl rfl d_M_put_0 ?_
  refine zz_iload_n (i := 1) (pc := 1) C rfl rfl d_M_put_1 ?_
  refine zz_iload_n (i := 2) (pc := 2) C rfl rfl d_M_put_2 ?_
  obtain ⟨q1, hq1, h⟩ := zz_bdE h
  refine zz_cVi (as := [.int a1, .int a2]) (st := []) (pc := 3) C (zm_M_whyNoPlace hq1) zcv_M_whyNoPlace zsh_79 zl_12_400 (by omega) (Nat.le_of_ble_eq_true rfl) d_M_put_3 rfl rfl ?_
  refine zz_istore (i := 5) (lo' := [some (.ref 79), some (.int a1), some (.int a2), some (.long a3), none, some (.int q1), none]) (pc := 6) C (Nat.le_of_ble_eq_true rfl) rfl rfl d_M_put_6 ?_
  refine zz_iload (i := 5) (pc := 8) C rfl d_M_put_8 ?_
  refine zz_if_ge (tgt := 16) (pc := 10) C (by decide) d_M_put_10 (fun hc2 => ?_) (fun hc2 => ?_)
  · rw [if_pos hc2] at h
    refine zz_bipush (pc := 16) C zkb_m2 d_M_put_16 ?_
    refine zz_aload_n (i := 0) (pc := 18) C rfl rfl d_M_put_18 ?_
    refine zz_getR (pc := 19) C zl_12_139 zsh_79 rfl d_M_put_19 ?_
    refine zz_iload_n (i := 1) (pc := 22) C rfl rfl d_M_put_22 ?_
    obtain ⟨hi3, h⟩ := zz_ckE h
    refine zz_iald (pc := 23) C rfl zsh_119 hi3 d_M_put_23 ?_
    refine zz_isub (pc := 24) C d_M_put_24 ?_
    refine zz_istore (i := 6) (lo' := [some (.ref 79), some (.int a1), some (.int a2), some (.long a3), none, some (.int q1), some (.int ((-2 : Int32) - (s.1 119 (a1.toNatClampNeg))))]) (pc := 25) C (Nat.le_of_ble_eq_true rfl) rfl rfl d_M_put_25 ?_
    refine zz_aload_n (i := 0) (pc := 27) C rfl rfl d_M_put_27 ?_
    refine zz_getR (pc := 28) C zl_12_145 zsh_79 rfl d_M_put_28 ?_
    refine zz_bipush (pc := 31) C zkb_60 d_M_put_31 ?_
    refine zz_iload_n (i := 1) (pc := 33) C rfl rfl d_M_put_33 ?_
    refine zz_imul (pc := 34) C d_M_put_34 ?_
    refine zz_iload_n (i := 2) (pc := 35) C rfl rfl d_M_put_35 ?_
    refine zz_iadd (pc := 36) C d_M_put_36 ?_
    refine zz_iload (i := 6) (pc := 37) C rfl d_M_put_37 ?_
    refine zz_if_ne (tgt := 49) (pc := 39) C (by decide) d_M_put_39 (fun hc4 => ?_) (fun hc4 => ?_)
    · rw [if_neg hc4] at h
      refine zz_iload (i := 6) (pc := 49) C rfl d_M_put_49 ?_
      refine zz_iconst (pc := 51) C zki_1 d_M_put_51 ?_
      refine zz_icmp_ne (tgt := 62) (pc := 52) C (by decide) d_M_put_52 (fun hc5 => ?_) (fun hc5 => ?_)
      · rw [if_neg hc5] at h
        refine zz_iload (i := 6) (pc := 62) C rfl d_M_put_62 ?_
        refine zz_iconst (pc := 64) C zki_2 d_M_put_64 ?_
        refine zz_icmp_ne (tgt := 74) (pc := 65) C (by decide) d_M_put_65 (fun hc6 => ?_) (fun hc6 => ?_)
        · rw [if_neg hc6] at h
          refine zz_iload (i := 6) (pc := 74) C rfl d_M_put_74 ?_
          refine zz_iconst (pc := 76) C zki_3 d_M_put_76 ?_
          refine zz_icmp_ne (tgt := 84) (pc := 77) C (by decide) d_M_put_77 (fun hc7 => ?_) (fun hc7 => ?_)
          · rw [if_neg hc7] at h
            refine zz_lload_n (i := 3) (pc := 84) C rfl rfl d_M_put_84 ?_
            refine zz_lconst (pc := 85) C zkl_0 d_M_put_85 ?_
            refine zz_lcmp (pc := 86) C d_M_put_86 ?_
            refine zz_if_eq (tgt := 94) (pc := 87) C (by decide) d_M_put_87 (fun hc8 => ?_) (fun hc8 => ?_)
            · rw [if_pos hc8] at h
              refine zz_lconst (pc := 94) C zkl_0 d_M_put_94 ?_
              refine zz_fg C [false, false, false, false, false, false, false] rfl rfl ?_
              exact zf_M_put_J95 C (((60 : Int32) * a1) + a2) (0 : Int64) h
            · rw [if_neg hc8] at h
              refine zz_lconst (pc := 90) C zkl_1 d_M_put_90 ?_
              refine zz_goto (tgt := 95) (pc := 91) C (by decide) d_M_put_91 ?_
              refine zz_fg C [false, false, false, false, false, false, false] rfl rfl ?_
              exact zf_M_put_J95 C (((60 : Int32) * a1) + a2) (1 : Int64) h
          · rw [if_pos hc7] at h
            refine zz_lload_n (i := 3) (pc := 80) C rfl rfl d_M_put_80 ?_
            refine zz_goto (tgt := 95) (pc := 81) C (by decide) d_M_put_81 ?_
            refine zz_fg C [false, false, false, false, false, false, false] rfl rfl ?_
            exact zf_M_put_J95 C (((60 : Int32) * a1) + a2) a3 h
        · rw [if_pos hc6] at h
          refine zz_lload_n (i := 3) (pc := 68) C rfl rfl d_M_put_68 ?_
          refine zz_l2i (pc := 69) C d_M_put_69 ?_
          refine zz_i2l (pc := 70) C d_M_put_70 ?_
          refine zz_goto (tgt := 95) (pc := 71) C (by decide) d_M_put_71 ?_
          refine zz_fg C [false, false, false, false, false, false, false] rfl rfl ?_
          exact zf_M_put_J95 C (((60 : Int32) * a1) + a2) a3.toInt32.toInt64 h
      · rw [if_pos hc5] at h
        refine zz_lload_n (i := 3) (pc := 55) C rfl rfl d_M_put_55 ?_
        refine zz_l2i (pc := 56) C d_M_put_56 ?_
        refine zz_i2s (pc := 57) C d_M_put_57 ?_
        refine zz_i2l (pc := 58) C d_M_put_58 ?_
        refine zz_goto (tgt := 95) (pc := 59) C (by decide) d_M_put_59 ?_
        refine zz_fg C [false, false, false, false, false, false, false] rfl rfl ?_
        exact zf_M_put_J95 C (((60 : Int32) * a1) + a2) a3.toInt32.toInt16.toInt32.toInt64 h
    · rw [if_pos hc4] at h
      refine zz_lload_n (i := 3) (pc := 42) C rfl rfl d_M_put_42 ?_
      refine zz_l2i (pc := 43) C d_M_put_43 ?_
      refine zz_i2b (pc := 44) C d_M_put_44 ?_
      refine zz_i2l (pc := 45) C d_M_put_45 ?_
      refine zz_goto (tgt := 95) (pc := 46) C (by decide) d_M_put_46 ?_
      refine zz_fg C [false, false, false, false, false, false, false] rfl rfl ?_
      exact zf_M_put_J95 C (((60 : Int32) * a1) + a2) a3.toInt32.toInt8.toInt32.toInt64 h
  · rw [if_neg hc2] at h
    refine zz_iload (i := 5) (pc := 13) C rfl d_M_put_13 ?_
    replace h := Option.some.inj h
    subst h
    exact zz_ret (pc := 15) C (v := some (.int q1)) d_M_put_15 (Or.inl ⟨_, _, rfl, rfl, rfl, rfl⟩) rfl
theorem zm_M_put {G : zz_G} {l : Launch} {s : zz_S} {q : Int32 × zz_S} {a1 : Int32} {a2 : Int32} {a3 : Int64} (h : f_M_put a1 a2 a3 s = some q) : zz_M G l 5 y_M_put prog_14_method_96_code 7 (some .int) [.ref 79, .int a1, .int a2, .long a3] zsh s (some (.int q.1), zsh, q.2) :=
  zz_M.intro (by decide) (Nat.le_of_ble_eq_true rfl) (Nat.le_refl _) (Nat.le_refl _) (fun Z C => zf_M_put C a1 a2 a3 h)
theorem d_M_redo_0 : decode prog_14_method_16_code 0 = .ok (.aload_n 0, 1) := by decide +kernel
theorem d_M_redo_1 : decode prog_14_method_16_code 1 = .ok (.getfield 169, 3) := by decide +kernel
theorem d_M_redo_4 : decode prog_14_method_16_code 4 = .ok (.ifCond .ne (6), 3) := by decide +kernel
theorem d_M_redo_7 : decode prog_14_method_16_code 7 = .ok (.bipush (-5), 2) := by decide +kernel
theorem d_M_redo_9 : decode prog_14_method_16_code 9 = .ok (.ireturn, 1) := by decide +kernel
theorem d_M_redo_10 : decode prog_14_method_16_code 10 = .ok (.aload_n 0, 1) := by decide +kernel
theorem d_M_redo_11 : decode prog_14_method_16_code 11 = .ok (.aload_n 0, 1) := by decide +kernel
theorem d_M_redo_12 : decode prog_14_method_16_code 12 = .ok (.getfield 47, 3) := by decide +kernel
theorem d_M_redo_15 : decode prog_14_method_16_code 15 = .ok (.aload_n 0, 1) := by decide +kernel
theorem d_M_redo_16 : decode prog_14_method_16_code 16 = .ok (.getfield 172, 3) := by decide +kernel
theorem d_M_redo_19 : decode prog_14_method_16_code 19 = .ok (.iaload, 1) := by decide +kernel
theorem d_M_redo_20 : decode prog_14_method_16_code 20 = .ok (.aload_n 0, 1) := by decide +kernel
theorem d_M_redo_21 : decode prog_14_method_16_code 21 = .ok (.getfield 50, 3) := by decide +kernel
theorem d_M_redo_24 : decode prog_14_method_16_code 24 = .ok (.aload_n 0, 1) := by decide +kernel
theorem d_M_redo_25 : decode prog_14_method_16_code 25 = .ok (.getfield 172, 3) := by decide +kernel
theorem d_M_redo_28 : decode prog_14_method_16_code 28 = .ok (.iaload, 1) := by decide +kernel
theorem d_M_redo_29 : decode prog_14_method_16_code 29 = .ok (.aload_n 0, 1) := by decide +kernel
theorem d_M_redo_30 : decode prog_14_method_16_code 30 = .ok (.getfield 56, 3) := by decide +kernel
theorem d_M_redo_33 : decode prog_14_method_16_code 33 = .ok (.aload_n 0, 1) := by decide +kernel
theorem d_M_redo_34 : decode prog_14_method_16_code 34 = .ok (.getfield 172, 3) := by decide +kernel
theorem d_M_redo_37 : decode prog_14_method_16_code 37 = .ok (.iaload, 1) := by decide +kernel
theorem d_M_redo_38 : decode prog_14_method_16_code 38 = .ok (.invokevirtual 175, 3) := by decide +kernel
theorem d_M_redo_41 : decode prog_14_method_16_code 41 = .ok (.aload_n 0, 1) := by decide +kernel
theorem d_M_redo_42 : decode prog_14_method_16_code 42 = .ok (.dup, 1) := by decide +kernel
theorem d_M_redo_43 : decode prog_14_method_16_code 43 = .ok (.getfield 172, 3) := by decide +kernel
theorem d_M_redo_46 : decode prog_14_method_16_code 46 = .ok (.iconst 1, 1) := by decide +kernel
theorem d_M_redo_47 : decode prog_14_method_16_code 47 = .ok (.iadd, 1) := by decide +kernel
theorem d_M_redo_48 : decode prog_14_method_16_code 48 = .ok (.putfield 172, 3) := by decide +kernel
theorem d_M_redo_51 : decode prog_14_method_16_code 51 = .ok (.aload_n 0, 1) := by decide +kernel
theorem d_M_redo_52 : decode prog_14_method_16_code 52 = .ok (.dup, 1) := by decide +kernel
theorem d_M_redo_53 : decode prog_14_method_16_code 53 = .ok (.getfield 169, 3) := by decide +kernel
theorem d_M_redo_56 : decode prog_14_method_16_code 56 = .ok (.iconst 1, 1) := by decide +kernel
theorem d_M_redo_57 : decode prog_14_method_16_code 57 = .ok (.isub, 1) := by decide +kernel
theorem d_M_redo_58 : decode prog_14_method_16_code 58 = .ok (.putfield 169, 3) := by decide +kernel
theorem d_M_redo_61 : decode prog_14_method_16_code 61 = .ok (.aload_n 0, 1) := by decide +kernel
theorem d_M_redo_62 : decode prog_14_method_16_code 62 = .ok (.getfield 169, 3) := by decide +kernel
theorem d_M_redo_65 : decode prog_14_method_16_code 65 = .ok (.ireturn, 1) := by decide +kernel
set_option maxHeartbeats 4000000 in
set_option maxRecDepth 100000 in
theorem zf_M_redo {G : zz_G} {l : Launch} {Z : zz_Z} {q : Int32 × zz_S} {s : zz_S} (C : zz_Cx G l "OneBlanketModel" "redo" prog_14_method_16_code 1 (some .int) 3 (some (.int q.1), zsh, q.2) Z) (h : f_M_redo s = some q) : Z 0 [some (.ref 79)] [] zsh s := by
  unfold f_M_redo at h
  refine zz_aload_n (i := 0) (pc := 0) C rfl rfl d_M_redo_0 ?_
  refine zz_getI (pc := 1) C zl_12_169 zsh_79 rfl d_M_redo_1 ?_
  refine zz_if_ne (tgt := 10) (pc := 4) C (by decide) d_M_redo_4 (fun hc1 => ?_) (fun hc1 => ?_)
  · rw [if_neg hc1] at h
    refine zz_aload_n (i := 0) (pc := 10) C rfl rfl d_M_redo_10 ?_
    refine zz_aload_n (i := 0) (pc := 11) C rfl rfl d_M_redo_11 ?_
    refine zz_getR (pc := 12) C zl_12_47 zsh_79 rfl d_M_redo_12 ?_
    refine zz_aload_n (i := 0) (pc := 15) C rfl rfl d_M_redo_15 ?_
    refine zz_getI (pc := 16) C zl_12_172 zsh_79 rfl d_M_redo_16 ?_
    obtain ⟨hi2, h⟩ := zz_ckE h
    refine zz_iald (pc := 19) C rfl zsh_91 hi2 d_M_redo_19 ?_
    refine zz_aload_n (i := 0) (pc := 20) C rfl rfl d_M_redo_20 ?_
    refine zz_getR (pc := 21) C zl_12_50 zsh_79 rfl d_M_redo_21 ?_
    refine zz_aload_n (i := 0) (pc := 24) C rfl rfl d_M_redo_24 ?_
    refine zz_getI (pc := 25) C zl_12_172 zsh_79 rfl d_M_redo_25 ?_
    refine zz_iald (pc := 28) C rfl zsh_92 hi2 d_M_redo_28 ?_
    refine zz_aload_n (i := 0) (pc := 29) C rfl rfl d_M_redo_29 ?_
    refine zz_getR (pc := 30) C zl_12_56 zsh_79 rfl d_M_redo_30 ?_
    refine zz_aload_n (i := 0) (pc := 33) C rfl rfl d_M_redo_33 ?_
    refine zz_getI (pc := 34) C zl_12_172 zsh_79 rfl d_M_redo_34 ?_
    refine zz_iald (pc := 37) C rfl zsh_94 hi2 d_M_redo_37 ?_
    obtain ⟨q3, hq3, h⟩ := zz_bdE h
    refine zz_cVv (as := [.int (s.1 91 ((s.1 79 16).toNatClampNeg)), .int (s.1 92 ((s.1 79 16).toNatClampNeg)), .int (s.1 94 ((s.1 79 16).toNatClampNeg))]) (st := []) (pc := 38) C (zm_M_lays hq3) zcv_M_lays zsh_79 zl_12_175 (by omega) (Nat.le_of_ble_eq_true rfl) d_M_redo_38 rfl rfl ?_
    refine zz_aload_n (i := 0) (pc := 41) C rfl rfl d_M_redo_41 ?_
    refine zz_dup (pc := 42) C rfl d_M_redo_42 ?_
    refine zz_getI (pc := 43) C zl_12_172 zsh_79 rfl d_M_redo_43 ?_
    refine zz_iconst (pc := 46) C zki_1 d_M_redo_46 ?_
    refine zz_iadd (pc := 47) C d_M_redo_47 ?_
    refine zz_putI' (pc := 48) C zl_12_172 zpf_12_16 zsh_79 rfl d_M_redo_48 ?_
    refine zz_aload_n (i := 0) (pc := 51) C rfl rfl d_M_redo_51 ?_
    refine zz_dup (pc := 52) C rfl d_M_redo_52 ?_
    refine zz_getIv (v := (q3.1 79 17)) (pc := 53) C zl_12_169 zsh_79 rfl rfl d_M_redo_53 ?_
    refine zz_iconst (pc := 56) C zki_1 d_M_redo_56 ?_
    refine zz_isub (pc := 57) C d_M_redo_57 ?_
    refine zz_putI' (pc := 58) C zl_12_169 zpf_12_17 zsh_79 rfl d_M_redo_58 ?_
    refine zz_aload_n (i := 0) (pc := 61) C rfl rfl d_M_redo_61 ?_
    refine zz_getIv (v := ((q3.1 79 17) - (1 : Int32))) (pc := 62) C zl_12_169 zsh_79 rfl rfl d_M_redo_62 ?_
    replace h := Option.some.inj h
    subst h
    exact zz_ret (pc := 65) C (v := some (.int ((q3.1 79 17) - (1 : Int32)))) d_M_redo_65 (Or.inl ⟨_, _, rfl, rfl, rfl, rfl⟩) rfl
  · rw [if_pos hc1] at h
    refine zz_bipush (pc := 7) C zkb_m5 d_M_redo_7 ?_
    replace h := Option.some.inj h
    subst h
    exact zz_ret (pc := 9) C (v := some (.int (-5 : Int32))) d_M_redo_9 (Or.inl ⟨_, _, rfl, rfl, rfl, rfl⟩) rfl
theorem zm_M_redo {G : zz_G} {l : Launch} {s : zz_S} {q : Int32 × zz_S} (h : f_M_redo s = some q) : zz_M G l 3 y_M_redo prog_14_method_16_code 1 (some .int) [.ref 79] zsh s (some (.int q.1), zsh, q.2) :=
  zz_M.intro (by decide) (Nat.le_of_ble_eq_true rfl) (Nat.le_refl _) (Nat.le_refl _) (fun Z C => zf_M_redo C h)
theorem d_M_room_0 : decode prog_14_method_38_code 0 = .ok (.aload_n 0, 1) := by decide +kernel
theorem d_M_room_1 : decode prog_14_method_38_code 1 = .ok (.iconst 4, 1) := by decide +kernel
theorem d_M_room_2 : decode prog_14_method_38_code 2 = .ok (.invokevirtual 261, 3) := by decide +kernel
theorem d_M_room_5 : decode prog_14_method_38_code 5 = .ok (.istore_n 1, 1) := by decide +kernel
theorem d_M_room_6 : decode prog_14_method_38_code 6 = .ok (.iload_n 1, 1) := by decide +kernel
theorem d_M_room_7 : decode prog_14_method_38_code 7 = .ok (.ifCond .lt (8), 3) := by decide +kernel
theorem d_M_room_10 : decode prog_14_method_38_code 10 = .ok (.bipush (-100), 2) := by decide +kernel
theorem d_M_room_12 : decode prog_14_method_38_code 12 = .ok (.iload_n 1, 1) := by decide +kernel
theorem d_M_room_13 : decode prog_14_method_38_code 13 = .ok (.isub, 1) := by decide +kernel
theorem d_M_room_14 : decode prog_14_method_38_code 14 = .ok (.ireturn, 1) := by decide +kernel
theorem d_M_room_15 : decode prog_14_method_38_code 15 = .ok (.aload_n 0, 1) := by decide +kernel
theorem d_M_room_16 : decode prog_14_method_38_code 16 = .ok (.iconst 1, 1) := by decide +kernel
theorem d_M_room_17 : decode prog_14_method_38_code 17 = .ok (.putfield 264, 3) := by decide +kernel
theorem d_M_room_20 : decode prog_14_method_38_code 20 = .ok (.iconst 1, 1) := by decide +kernel
theorem d_M_room_21 : decode prog_14_method_38_code 21 = .ok (.ireturn, 1) := by decide +kernel
set_option maxHeartbeats 4000000 in
set_option maxRecDepth 100000 in
theorem zf_M_room {G : zz_G} {l : Launch} {Z : zz_Z} {q : Int32 × zz_S} {s : zz_S} (C : zz_Cx G l "OneBlanketModel" "room" prog_14_method_38_code 2 (some .int) 206 (some (.int q.1), zsh, q.2) Z) (h : f_M_room s = some q) : Z 0 [some (.ref 79), none] [] zsh s := by
  unfold f_M_room at h
  refine zz_aload_n (i := 0) (pc := 0) C rfl rfl d_M_room_0 ?_
  refine zz_iconst (pc := 1) C zki_4 d_M_room_1 ?_
  obtain ⟨q1, hq1, h⟩ := zz_bdE h
  refine zz_cVi (as := [.int (4 : Int32)]) (st := []) (pc := 2) C (zm_M_readText hq1) zcv_M_readText zsh_79 zl_12_261 (by omega) (Nat.le_of_ble_eq_true rfl) d_M_room_2 rfl rfl ?_
  refine zz_istore_n (i := 1) (lo' := [some (.ref 79), some (.int q1.1)]) (pc := 5) C rfl (Nat.le_of_ble_eq_true rfl) rfl rfl d_M_room_5 ?_
  refine zz_iload_n (i := 1) (pc := 6) C rfl rfl d_M_room_6 ?_
  refine zz_if_lt (tgt := 15) (pc := 7) C (by decide) d_M_room_7 (fun hc2 => ?_) (fun hc2 => ?_)
  · rw [if_pos hc2] at h
    refine zz_aload_n (i := 0) (pc := 15) C rfl rfl d_M_room_15 ?_
    refine zz_iconst (pc := 16) C zki_1 d_M_room_16 ?_
    refine zz_putI (pc := 17) C zl_12_264 zsh_79 rfl (by decide +kernel) (by decide +kernel) (by decide +kernel) rfl d_M_room_17 ?_
    refine zz_iconst (pc := 20) C zki_1 d_M_room_20 ?_
    replace h := Option.some.inj h
    subst h
    exact zz_ret (pc := 21) C (v := some (.int (1 : Int32))) d_M_room_21 (Or.inl ⟨_, _, rfl, rfl, rfl, rfl⟩) rfl
  · rw [if_neg hc2] at h
    refine zz_bipush (pc := 10) C zkb_m100 d_M_room_10 ?_
    refine zz_iload_n (i := 1) (pc := 12) C rfl rfl d_M_room_12 ?_
    refine zz_isub (pc := 13) C d_M_room_13 ?_
    replace h := Option.some.inj h
    subst h
    exact zz_ret (pc := 14) C (v := some (.int ((-100 : Int32) - q1.1))) d_M_room_14 (Or.inl ⟨_, _, rfl, rfl, rfl, rfl⟩) rfl
theorem zm_M_room {G : zz_G} {l : Launch} {s : zz_S} {q : Int32 × zz_S} (h : f_M_room s = some q) : zz_M G l 206 y_M_room prog_14_method_38_code 2 (some .int) [.ref 79] zsh s (some (.int q.1), zsh, q.2) :=
  zz_M.intro (by decide) (Nat.le_of_ble_eq_true rfl) (Nat.le_refl _) (Nat.le_refl _) (fun Z C => zf_M_room C h)
theorem d_M_row_0 : decode prog_14_method_94_code 0 = .ok (.iload_n 1, 1) := by decide +kernel
theorem d_M_row_1 : decode prog_14_method_94_code 1 = .ok (.invokestatic 286, 3) := by decide +kernel
theorem d_M_row_4 : decode prog_14_method_94_code 4 = .ok (.ifCond .eq (18), 3) := by decide +kernel
theorem d_M_row_7 : decode prog_14_method_94_code 7 = .ok (.iload_n 2, 1) := by decide +kernel
theorem d_M_row_8 : decode prog_14_method_94_code 8 = .ok (.iconst 0, 1) := by decide +kernel
theorem d_M_row_9 : decode prog_14_method_94_code 9 = .ok (.iconst 4, 1) := by decide +kernel
theorem d_M_row_10 : decode prog_14_method_94_code 10 = .ok (.invokestatic 158, 3) := by decide +kernel
theorem d_M_row_13 : decode prog_14_method_94_code 13 = .ok (.ifCond .eq (9), 3) := by decide +kernel
theorem d_M_row_16 : decode prog_14_method_94_code 16 = .ok (.iload_n 3, 1) := by decide +kernel
theorem d_M_row_17 : decode prog_14_method_94_code 17 = .ok (.bipush (60), 2) := by decide +kernel
theorem d_M_row_19 : decode prog_14_method_94_code 19 = .ok (.if_icmp .le (5), 3) := by decide +kernel
theorem d_M_row_22 : decode prog_14_method_94_code 22 = .ok (.iconst (-1), 1) := by decide +kernel
theorem d_M_row_23 : decode prog_14_method_94_code 23 = .ok (.ireturn, 1) := by decide +kernel
theorem d_M_row_24 : decode prog_14_method_94_code 24 = .ok (.iload_n 3, 1) := by decide +kernel
theorem d_M_row_25 : decode prog_14_method_94_code 25 = .ok (.ifCond .ge (6), 3) := by decide +kernel
theorem d_M_row_28 : decode prog_14_method_94_code 28 = .ok (.bipush (-14), 2) := by decide +kernel
theorem d_M_row_30 : decode prog_14_method_94_code 30 = .ok (.ireturn, 1) := by decide +kernel
theorem d_M_row_31 : decode prog_14_method_94_code 31 = .ok (.aload_n 0, 1) := by decide +kernel
theorem d_M_row_32 : decode prog_14_method_94_code 32 = .ok (.getfield 139, 3) := by decide +kernel
theorem d_M_row_35 : decode prog_14_method_94_code 35 = .ok (.iload_n 1, 1) := by decide +kernel
theorem d_M_row_36 : decode prog_14_method_94_code 36 = .ok (.bipush (-2), 2) := by decide +kernel
theorem d_M_row_38 : decode prog_14_method_94_code 38 = .ok (.iload_n 2, 1) := by decide +kernel
theorem d_M_row_39 : decode prog_14_method_94_code 39 = .ok (.isub, 1) := by decide +kernel
theorem d_M_row_40 : decode prog_14_method_94_code 40 = .ok (.iastore, 1) := by decide +kernel
theorem d_M_row_41 : decode prog_14_method_94_code 41 = .ok (.aload_n 0, 1) := by decide +kernel
theorem d_M_row_42 : decode prog_14_method_94_code 42 = .ok (.getfield 142, 3) := by decide +kernel
theorem d_M_row_45 : decode prog_14_method_94_code 45 = .ok (.iload_n 1, 1) := by decide +kernel
theorem d_M_row_46 : decode prog_14_method_94_code 46 = .ok (.iload_n 3, 1) := by decide +kernel
theorem d_M_row_47 : decode prog_14_method_94_code 47 = .ok (.iastore, 1) := by decide +kernel
theorem d_M_row_48 : decode prog_14_method_94_code 48 = .ok (.bipush (60), 2) := by decide +kernel
theorem d_M_row_50 : decode prog_14_method_94_code 50 = .ok (.iload_n 1, 1) := by decide +kernel
theorem d_M_row_51 : decode prog_14_method_94_code 51 = .ok (.imul, 1) := by decide +kernel
theorem d_M_row_52 : decode prog_14_method_94_code 52 = .ok (.istore 4, 2) := by decide +kernel
theorem d_M_row_54 : decode prog_14_method_94_code 54 = .ok (.iload 4, 2) := by decide +kernel
theorem d_M_row_56 : decode prog_14_method_94_code 56 = .ok (.bipush (60), 2) := by decide +kernel
theorem d_M_row_58 : decode prog_14_method_94_code 58 = .ok (.iload_n 1, 1) := by decide +kernel
theorem d_M_row_59 : decode prog_14_method_94_code 59 = .ok (.imul, 1) := by decide +kernel
theorem d_M_row_60 : decode prog_14_method_94_code 60 = .ok (.bipush (60), 2) := by decide +kernel
theorem d_M_row_62 : decode prog_14_method_94_code 62 = .ok (.iadd, 1) := by decide +kernel
theorem d_M_row_63 : decode prog_14_method_94_code 63 = .ok (.if_icmp .ge (17), 3) := by decide +kernel
theorem d_M_row_66 : decode prog_14_method_94_code 66 = .ok (.aload_n 0, 1) := by decide +kernel
theorem d_M_row_67 : decode prog_14_method_94_code 67 = .ok (.getfield 145, 3) := by decide +kernel
theorem d_M_row_70 : decode prog_14_method_94_code 70 = .ok (.iload 4, 2) := by decide +kernel
theorem d_M_row_72 : decode prog_14_method_94_code 72 = .ok (.lconst 0, 1) := by decide +kernel
theorem d_M_row_73 : decode prog_14_method_94_code 73 = .ok (.lastore, 1) := by decide +kernel
theorem d_M_row_74 : decode prog_14_method_94_code 74 = .ok (.iinc 4 (1), 3) := by decide +kernel
theorem d_M_row_77 : decode prog_14_method_94_code 77 = .ok (.goto (-23), 3) := by decide +kernel
theorem d_M_row_80 : decode prog_14_method_94_code 80 = .ok (.iconst 1, 1) := by decide +kernel
theorem d_M_row_81 : decode prog_14_method_94_code 81 = .ok (.ireturn, 1) := by decide +kernel
set_option maxHeartbeats 4000000 in
set_option maxRecDepth 100000 in
theorem zf_M_row_L54 {G : zz_G} {l : Launch} {Z : zz_Z} {q : Int32 × zz_S} (C : zz_Cx G l "OneBlanketModel" "row" prog_14_method_94_code 5 (some .int) 4 (some (.int q.1), zsh, q.2) Z) : ∀ (n : Nat) (v1 : Int32) (v4 : Int32) (s : zz_S), f_M_row_L54 n v1 v4 s = some q → Z 54 [some (.ref 79), some (.int v1), none, none, some (.int v4)] [] zsh s := by
  intro n
  induction n with
  | zero => intro v1 v4 s h; rw [f_M_row_L54] at h; cases h
  | succ n ih =>
  intro v1 v4 s h
  rw [f_M_row_L54] at h
  refine zz_iload (i := 4) (pc := 54) C rfl d_M_row_54 ?_
  refine zz_bipush (pc := 56) C zkb_60 d_M_row_56 ?_
  refine zz_iload_n (i := 1) (pc := 58) C rfl rfl d_M_row_58 ?_
  refine zz_imul (pc := 59) C d_M_row_59 ?_
  refine zz_bipush (pc := 60) C zkb_60 d_M_row_60 ?_
  refine zz_iadd (pc := 62) C d_M_row_62 ?_
  refine zz_icmp_ge (tgt := 80) (pc := 63) C (by decide) d_M_row_63 (fun hc6 => ?_) (fun hc6 => ?_)
  · rw [if_pos hc6] at h
    refine zz_iconst (pc := 80) C zki_1 d_M_row_80 ?_
    replace h := Option.some.inj h
    subst h
    exact zz_ret (pc := 81) C (v := some (.int (1 : Int32))) d_M_row_81 (Or.inl ⟨_, _, rfl, rfl, rfl, rfl⟩) rfl
  · rw [if_neg hc6] at h
    refine zz_aload_n (i := 0) (pc := 66) C rfl rfl d_M_row_66 ?_
    refine zz_getR (pc := 67) C zl_12_145 zsh_79 rfl d_M_row_67 ?_
    refine zz_iload (i := 4) (pc := 70) C rfl d_M_row_70 ?_
    refine zz_lconst (pc := 72) C zkl_0 d_M_row_72 ?_
    obtain ⟨hi7, h⟩ := zz_ckE h
    refine zz_last (pc := 73) C rfl zsh_121 hi7 d_M_row_73 ?_
    refine zz_iinc (lo' := [some (.ref 79), some (.int v1), none, none, some (.int (v4 + (1 : Int32)))]) (pc := 74) C rfl (zz_inc zki_1) rfl rfl d_M_row_74 ?_
    refine zz_goto (tgt := 54) (pc := 77) C (by decide) d_M_row_77 ?_
    exact ih v1 (v4 + (1 : Int32)) (zz_wl s 121 (v4.toNatClampNeg) (0 : Int64)) h
set_option maxHeartbeats 4000000 in
set_option maxRecDepth 100000 in
theorem zf_M_row {G : zz_G} {l : Launch} {Z : zz_Z} {q : Int32 × zz_S} {s : zz_S} (C : zz_Cx G l "OneBlanketModel" "row" prog_14_method_94_code 5 (some .int) 4 (some (.int q.1), zsh, q.2) Z) (a1 : Int32) (a2 : Int32) (a3 : Int32) (h : f_M_row a1 a2 a3 s = some q) : Z 0 [some (.ref 79), some (.int a1), some (.int a2), some (.int a3), none] [] zsh s := by
  unfold f_M_row at h
  refine zz_iload_n (i := 1) (pc := 0) C rfl rfl d_M_row_0 ?_
  refine zz_cSi (as := [.int a1]) (st := []) (pc := 1) C (zm_M_isShelf rfl) zcs_M_isShelf zl_12_286 (by omega) (Nat.le_of_ble_eq_true rfl) d_M_row_1 rfl rfl ?_
  refine zz_if_eq (tgt := 22) (pc := 4) C (by decide) d_M_row_4 (fun hc1 => ?_) (fun hc1 => ?_)
  · rw [if_pos hc1] at h
    refine zz_iconst (pc := 22) C zki_m1 d_M_row_22 ?_
    replace h := Option.some.inj h
    subst h
    exact zz_ret (pc := 23) C (v := some (.int (-1 : Int32))) d_M_row_23 (Or.inl ⟨_, _, rfl, rfl, rfl, rfl⟩) rfl
  · rw [if_neg hc1] at h
    refine zz_iload_n (i := 2) (pc := 7) C rfl rfl d_M_row_7 ?_
    refine zz_iconst (pc := 8) C zki_0 d_M_row_8 ?_
    refine zz_iconst (pc := 9) C zki_4 d_M_row_9 ?_
    refine zz_cSi (as := [.int a2, .int (0 : Int32), .int (4 : Int32)]) (st := []) (pc := 10) C (zm_M_in rfl) zcs_M_in zl_12_158 (by omega) (Nat.le_of_ble_eq_true rfl) d_M_row_10 rfl rfl ?_
    refine zz_if_eq (tgt := 22) (pc := 13) C (by decide) d_M_row_13 (fun hc2 => ?_) (fun hc2 => ?_)
    · rw [if_pos hc2] at h
      refine zz_iconst (pc := 22) C zki_m1 d_M_row_22 ?_
      replace h := Option.some.inj h
      subst h
      exact zz_ret (pc := 23) C (v := some (.int (-1 : Int32))) d_M_row_23 (Or.inl ⟨_, _, rfl, rfl, rfl, rfl⟩) rfl
    · rw [if_neg hc2] at h
      refine zz_iload_n (i := 3) (pc := 16) C rfl rfl d_M_row_16 ?_
      refine zz_bipush (pc := 17) C zkb_60 d_M_row_17 ?_
      refine zz_icmp_le (tgt := 24) (pc := 19) C (by decide) d_M_row_19 (fun hc3 => ?_) (fun hc3 => ?_)
      · rw [if_pos hc3] at h
        refine zz_iload_n (i := 3) (pc := 24) C rfl rfl d_M_row_24 ?_
        refine zz_if_ge (tgt := 31) (pc := 25) C (by decide) d_M_row_25 (fun hc4 => ?_) (fun hc4 => ?_)
        · rw [if_pos hc4] at h
          refine zz_aload_n (i := 0) (pc := 31) C rfl rfl d_M_row_31 ?_
          refine zz_getR (pc := 32) C zl_12_139 zsh_79 rfl d_M_row_32 ?_
          refine zz_iload_n (i := 1) (pc := 35) C rfl rfl d_M_row_35 ?_
          refine zz_bipush (pc := 36) C zkb_m2 d_M_row_36 ?_
          refine zz_iload_n (i := 2) (pc := 38) C rfl rfl d_M_row_38 ?_
          refine zz_isub (pc := 39) C d_M_row_39 ?_
          obtain ⟨hi5, h⟩ := zz_ckE h
          refine zz_iast (pc := 40) C rfl zsh_119 hi5 d_M_row_40 ?_
          refine zz_aload_n (i := 0) (pc := 41) C rfl rfl d_M_row_41 ?_
          refine zz_getR (pc := 42) C zl_12_142 zsh_79 rfl d_M_row_42 ?_
          refine zz_iload_n (i := 1) (pc := 45) C rfl rfl d_M_row_45 ?_
          refine zz_iload_n (i := 3) (pc := 46) C rfl rfl d_M_row_46 ?_
          refine zz_iast (pc := 47) C rfl zsh_120 hi5 d_M_row_47 ?_
          refine zz_bipush (pc := 48) C zkb_60 d_M_row_48 ?_
          refine zz_iload_n (i := 1) (pc := 50) C rfl rfl d_M_row_50 ?_
          refine zz_imul (pc := 51) C d_M_row_51 ?_
          refine zz_istore (i := 4) (lo' := [some (.ref 79), some (.int a1), some (.int a2), some (.int a3), some (.int ((60 : Int32) * a1))]) (pc := 52) C (Nat.le_of_ble_eq_true rfl) rfl rfl d_M_row_52 ?_
          refine zz_fg C [true, true, false, false, true] rfl rfl ?_
          exact zf_M_row_L54 C zF a1 ((60 : Int32) * a1) (zz_w (zz_w s 119 (a1.toNatClampNeg) ((-2 : Int32) - a2)) 120 (a1.toNatClampNeg) a3) h
        · rw [if_neg hc4] at h
          refine zz_bipush (pc := 28) C zkb_m14 d_M_row_28 ?_
          replace h := Option.some.inj h
          subst h
          exact zz_ret (pc := 30) C (v := some (.int (-14 : Int32))) d_M_row_30 (Or.inl ⟨_, _, rfl, rfl, rfl, rfl⟩) rfl
      · rw [if_neg hc3] at h
        refine zz_iconst (pc := 22) C zki_m1 d_M_row_22 ?_
        replace h := Option.some.inj h
        subst h
        exact zz_ret (pc := 23) C (v := some (.int (-1 : Int32))) d_M_row_23 (Or.inl ⟨_, _, rfl, rfl, rfl, rfl⟩) rfl
theorem zm_M_row {G : zz_G} {l : Launch} {s : zz_S} {q : Int32 × zz_S} {a1 : Int32} {a2 : Int32} {a3 : Int32} (h : f_M_row a1 a2 a3 s = some q) : zz_M G l 4 y_M_row prog_14_method_94_code 5 (some .int) [.ref 79, .int a1, .int a2, .int a3] zsh s (some (.int q.1), zsh, q.2) :=
  zz_M.intro (by decide) (Nat.le_of_ble_eq_true rfl) (Nat.le_refl _) (Nat.le_refl _) (fun Z C => zf_M_row C a1 a2 a3 h)
theorem d_M_shift_0 : decode prog_14_method_98_code 0 = .ok (.iload_n 1, 1) := by decide +kernel
theorem d_M_shift_1 : decode prog_14_method_98_code 1 = .ok (.invokestatic 286, 3) := by decide +kernel
theorem d_M_shift_4 : decode prog_14_method_98_code 4 = .ok (.ifCond .eq (10), 3) := by decide +kernel
theorem d_M_shift_7 : decode prog_14_method_98_code 7 = .ok (.iload_n 3, 1) := by decide +kernel
theorem d_M_shift_8 : decode prog_14_method_98_code 8 = .ok (.invokestatic 286, 3) := by decide +kernel
theorem d_M_shift_11 : decode prog_14_method_98_code 11 = .ok (.ifCond .ne (5), 3) := by decide +kernel
theorem d_M_shift_14 : decode prog_14_method_98_code 14 = .ok (.iconst (-1), 1) := by decide +kernel
theorem d_M_shift_15 : decode prog_14_method_98_code 15 = .ok (.ireturn, 1) := by decide +kernel
theorem d_M_shift_16 : decode prog_14_method_98_code 16 = .ok (.aload_n 0, 1) := by decide +kernel
theorem d_M_shift_17 : decode prog_14_method_98_code 17 = .ok (.getfield 139, 3) := by decide +kernel
theorem d_M_shift_20 : decode prog_14_method_98_code 20 = .ok (.iload_n 1, 1) := by decide +kernel
theorem d_M_shift_21 : decode prog_14_method_98_code 21 = .ok (.iaload, 1) := by decide +kernel
theorem d_M_shift_22 : decode prog_14_method_98_code 22 = .ok (.iconst (-1), 1) := by decide +kernel
theorem d_M_shift_23 : decode prog_14_method_98_code 23 = .ok (.if_icmp .eq (13), 3) := by decide +kernel
theorem d_M_shift_26 : decode prog_14_method_98_code 26 = .ok (.aload_n 0, 1) := by decide +kernel
theorem d_M_shift_27 : decode prog_14_method_98_code 27 = .ok (.getfield 139, 3) := by decide +kernel
theorem d_M_shift_30 : decode prog_14_method_98_code 30 = .ok (.iload_n 3, 1) := by decide +kernel
theorem d_M_shift_31 : decode prog_14_method_98_code 31 = .ok (.iaload, 1) := by decide +kernel
theorem d_M_shift_32 : decode prog_14_method_98_code 32 = .ok (.iconst (-1), 1) := by decide +kernel
theorem d_M_shift_33 : decode prog_14_method_98_code 33 = .ok (.if_icmp .ne (6), 3) := by decide +kernel
theorem d_M_shift_36 : decode prog_14_method_98_code 36 = .ok (.bipush (-11), 2) := by decide +kernel
theorem d_M_shift_38 : decode prog_14_method_98_code 38 = .ok (.ireturn, 1) := by decide +kernel
theorem d_M_shift_39 : decode prog_14_method_98_code 39 = .ok (.aload_n 0, 1) := by decide +kernel
theorem d_M_shift_40 : decode prog_14_method_98_code 40 = .ok (.getfield 139, 3) := by decide +kernel
theorem d_M_shift_43 : decode prog_14_method_98_code 43 = .ok (.iload_n 1, 1) := by decide +kernel
theorem d_M_shift_44 : decode prog_14_method_98_code 44 = .ok (.iaload, 1) := by decide +kernel
theorem d_M_shift_45 : decode prog_14_method_98_code 45 = .ok (.ifCond .ge (18), 3) := by decide +kernel
theorem d_M_shift_48 : decode prog_14_method_98_code 48 = .ok (.aload_n 0, 1) := by decide +kernel
theorem d_M_shift_49 : decode prog_14_method_98_code 49 = .ok (.getfield 139, 3) := by decide +kernel
theorem d_M_shift_52 : decode prog_14_method_98_code 52 = .ok (.iload_n 1, 1) := by decide +kernel
theorem d_M_shift_53 : decode prog_14_method_98_code 53 = .ok (.iaload, 1) := by decide +kernel
theorem d_M_shift_54 : decode prog_14_method_98_code 54 = .ok (.aload_n 0, 1) := by decide +kernel
theorem d_M_shift_55 : decode prog_14_method_98_code 55 = .ok (.getfield 139, 3) := by decide +kernel
theorem d_M_shift_58 : decode prog_14_method_98_code 58 = .ok (.iload_n 3, 1) := by decide +kernel
theorem d_M_shift_59 : decode prog_14_method_98_code 59 = .ok (.iaload, 1) := by decide +kernel
theorem d_M_shift_60 : decode prog_14_method_98_code 60 = .ok (.if_icmp .eq (6), 3) := by decide +kernel
theorem d_M_shift_63 : decode prog_14_method_98_code 63 = .ok (.bipush (-12), 2) := by decide +kernel
theorem d_M_shift_65 : decode prog_14_method_98_code 65 = .ok (.ireturn, 1) := by decide +kernel
theorem d_M_shift_66 : decode prog_14_method_98_code 66 = .ok (.iload 5, 2) := by decide +kernel
theorem d_M_shift_68 : decode prog_14_method_98_code 68 = .ok (.ifCond .lt (39), 3) := by decide +kernel
theorem d_M_shift_71 : decode prog_14_method_98_code 71 = .ok (.iload_n 2, 1) := by decide +kernel
theorem d_M_shift_72 : decode prog_14_method_98_code 72 = .ok (.ifCond .lt (35), 3) := by decide +kernel
theorem d_M_shift_75 : decode prog_14_method_98_code 75 = .ok (.iload 4, 2) := by decide +kernel
theorem d_M_shift_77 : decode prog_14_method_98_code 77 = .ok (.ifCond .lt (30), 3) := by decide +kernel
theorem d_M_shift_80 : decode prog_14_method_98_code 80 = .ok (.iload_n 2, 1) := by decide +kernel
theorem d_M_shift_81 : decode prog_14_method_98_code 81 = .ok (.aload_n 0, 1) := by decide +kernel
theorem d_M_shift_82 : decode prog_14_method_98_code 82 = .ok (.getfield 142, 3) := by decide +kernel
theorem d_M_shift_85 : decode prog_14_method_98_code 85 = .ok (.iload_n 1, 1) := by decide +kernel
theorem d_M_shift_86 : decode prog_14_method_98_code 86 = .ok (.iaload, 1) := by decide +kernel
theorem d_M_shift_87 : decode prog_14_method_98_code 87 = .ok (.iload 5, 2) := by decide +kernel
theorem d_M_shift_89 : decode prog_14_method_98_code 89 = .ok (.isub, 1) := by decide +kernel
theorem d_M_shift_90 : decode prog_14_method_98_code 90 = .ok (.if_icmp .gt (17), 3) := by decide +kernel
theorem d_M_shift_93 : decode prog_14_method_98_code 93 = .ok (.iload 4, 2) := by decide +kernel
theorem d_M_shift_95 : decode prog_14_method_98_code 95 = .ok (.aload_n 0, 1) := by decide +kernel
theorem d_M_shift_96 : decode prog_14_method_98_code 96 = .ok (.getfield 142, 3) := by decide +kernel
theorem d_M_shift_99 : decode prog_14_method_98_code 99 = .ok (.iload_n 3, 1) := by decide +kernel
theorem d_M_shift_100 : decode prog_14_method_98_code 100 = .ok (.iaload, 1) := by decide +kernel
theorem d_M_shift_101 : decode prog_14_method_98_code 101 = .ok (.iload 5, 2) := by decide +kernel
theorem d_M_shift_103 : decode prog_14_method_98_code 103 = .ok (.isub, 1) := by decide +kernel
theorem d_M_shift_104 : decode prog_14_method_98_code 104 = .ok (.if_icmp .le (6), 3) := by decide +kernel
theorem d_M_shift_107 : decode prog_14_method_98_code 107 = .ok (.bipush (-13), 2) := by decide +kernel
theorem d_M_shift_109 : decode prog_14_method_98_code 109 = .ok (.ireturn, 1) := by decide +kernel
theorem d_M_shift_110 : decode prog_14_method_98_code 110 = .ok (.iconst 0, 1) := by decide +kernel
theorem d_M_shift_111 : decode prog_14_method_98_code 111 = .ok (.istore 6, 2) := by decide +kernel
theorem d_M_shift_113 : decode prog_14_method_98_code 113 = .ok (.iload 6, 2) := by decide +kernel
theorem d_M_shift_115 : decode prog_14_method_98_code 115 = .ok (.iload 5, 2) := by decide +kernel
theorem d_M_shift_117 : decode prog_14_method_98_code 117 = .ok (.if_icmp .ge (30), 3) := by decide +kernel
theorem d_M_shift_120 : decode prog_14_method_98_code 120 = .ok (.aload_n 0, 1) := by decide +kernel
theorem d_M_shift_121 : decode prog_14_method_98_code 121 = .ok (.getfield 149, 3) := by decide +kernel
theorem d_M_shift_124 : decode prog_14_method_98_code 124 = .ok (.iload 6, 2) := by decide +kernel
theorem d_M_shift_126 : decode prog_14_method_98_code 126 = .ok (.aload_n 0, 1) := by decide +kernel
theorem d_M_shift_127 : decode prog_14_method_98_code 127 = .ok (.getfield 145, 3) := by decide +kernel
theorem d_M_shift_130 : decode prog_14_method_98_code 130 = .ok (.bipush (60), 2) := by decide +kernel
theorem d_M_shift_132 : decode prog_14_method_98_code 132 = .ok (.iload_n 1, 1) := by decide +kernel
theorem d_M_shift_133 : decode prog_14_method_98_code 133 = .ok (.imul, 1) := by decide +kernel
theorem d_M_shift_134 : decode prog_14_method_98_code 134 = .ok (.iload_n 2, 1) := by decide +kernel
theorem d_M_shift_135 : decode prog_14_method_98_code 135 = .ok (.iadd, 1) := by decide +kernel
theorem d_M_shift_136 : decode prog_14_method_98_code 136 = .ok (.iload 6, 2) := by decide +kernel
theorem d_M_shift_138 : decode prog_14_method_98_code 138 = .ok (.iadd, 1) := by decide +kernel
theorem d_M_shift_139 : decode prog_14_method_98_code 139 = .ok (.laload, 1) := by decide +kernel
theorem d_M_shift_140 : decode prog_14_method_98_code 140 = .ok (.lastore, 1) := by decide +kernel
theorem d_M_shift_141 : decode prog_14_method_98_code 141 = .ok (.iinc 6 (1), 3) := by decide +kernel
theorem d_M_shift_144 : decode prog_14_method_98_code 144 = .ok (.goto (-31), 3) := by decide +kernel
theorem d_M_shift_147 : decode prog_14_method_98_code 147 = .ok (.iconst 0, 1) := by decide +kernel
theorem d_M_shift_148 : decode prog_14_method_98_code 148 = .ok (.istore 6, 2) := by decide +kernel
theorem d_M_shift_150 : decode prog_14_method_98_code 150 = .ok (.iload 6, 2) := by decide +kernel
theorem d_M_shift_152 : decode prog_14_method_98_code 152 = .ok (.iload 5, 2) := by decide +kernel
theorem d_M_shift_154 : decode prog_14_method_98_code 154 = .ok (.if_icmp .ge (31), 3) := by decide +kernel
theorem d_M_shift_157 : decode prog_14_method_98_code 157 = .ok (.aload_n 0, 1) := by decide +kernel
theorem d_M_shift_158 : decode prog_14_method_98_code 158 = .ok (.getfield 145, 3) := by decide +kernel
theorem d_M_shift_161 : decode prog_14_method_98_code 161 = .ok (.bipush (60), 2) := by decide +kernel
theorem d_M_shift_163 : decode prog_14_method_98_code 163 = .ok (.iload_n 3, 1) := by decide +kernel
theorem d_M_shift_164 : decode prog_14_method_98_code 164 = .ok (.imul, 1) := by decide +kernel
theorem d_M_shift_165 : decode prog_14_method_98_code 165 = .ok (.iload 4, 2) := by decide +kernel
theorem d_M_shift_167 : decode prog_14_method_98_code 167 = .ok (.iadd, 1) := by decide +kernel
theorem d_M_shift_168 : decode prog_14_method_98_code 168 = .ok (.iload 6, 2) := by decide +kernel
theorem d_M_shift_170 : decode prog_14_method_98_code 170 = .ok (.iadd, 1) := by decide +kernel
theorem d_M_shift_171 : decode prog_14_method_98_code 171 = .ok (.aload_n 0, 1) := by decide +kernel
theorem d_M_shift_172 : decode prog_14_method_98_code 172 = .ok (.getfield 149, 3) := by decide +kernel
theorem d_M_shift_175 : decode prog_14_method_98_code 175 = .ok (.iload 6, 2) := by decide +kernel
theorem d_M_shift_177 : decode prog_14_method_98_code 177 = .ok (.laload, 1) := by decide +kernel
theorem d_M_shift_178 : decode prog_14_method_98_code 178 = .ok (.lastore, 1) := by decide +kernel
theorem d_M_shift_179 : decode prog_14_method_98_code 179 = .ok (.iinc 6 (1), 3) := by decide +kernel
theorem d_M_shift_182 : decode prog_14_method_98_code 182 = .ok (.goto (-32), 3) := by decide +kernel
theorem d_M_shift_185 : decode prog_14_method_98_code 185 = .ok (.iload 5, 2) := by decide +kernel
theorem d_M_shift_187 : decode prog_14_method_98_code 187 = .ok (.ireturn, 1) := by decide +kernel
set_option maxHeartbeats 4000000 in
set_option maxRecDepth 100000 in
theorem zf_M_shift_L150 {G : zz_G} {l : Launch} {Z : zz_Z} {q : Int32 × zz_S} (C : zz_Cx G l "OneBlanketModel" "shift" prog_14_method_98_code 7 (some .int) 4 (some (.int q.1), zsh, q.2) Z) : ∀ (n : Nat) (v3 : Int32) (v4 : Int32) (v5 : Int32) (v6 : Int32) (s : zz_S), f_M_shift_L150 n v3 v4 v5 v6 s = some q → Z 150 [some (.ref 79), none, none, some (.int v3), some (.int v4), some (.int v5), some (.int v6)] [] zsh s := by
  intro n
  induction n with
  | zero => intro v3 v4 v5 v6 s h; rw [f_M_shift_L150] at h; cases h
  | succ n ih =>
  intro v3 v4 v5 v6 s h
  rw [f_M_shift_L150] at h
  refine zz_iload (i := 6) (pc := 150) C rfl d_M_shift_150 ?_
  refine zz_iload (i := 5) (pc := 152) C rfl d_M_shift_152 ?_
  refine zz_icmp_ge (tgt := 185) (pc := 154) C (by decide) d_M_shift_154 (fun hc15 => ?_) (fun hc15 => ?_)
  · rw [if_pos hc15] at h
    refine zz_iload (i := 5) (pc := 185) C rfl d_M_shift_185 ?_
    replace h := Option.some.inj h
    subst h
    exact zz_ret (pc := 187) C (v := some (.int v5)) d_M_shift_187 (Or.inl ⟨_, _, rfl, rfl, rfl, rfl⟩) rfl
  · rw [if_neg hc15] at h
    refine zz_aload_n (i := 0) (pc := 157) C rfl rfl d_M_shift_157 ?_
    refine zz_getR (pc := 158) C zl_12_145 zsh_79 rfl d_M_shift_158 ?_
    refine zz_bipush (pc := 161) C zkb_60 d_M_shift_161 ?_
    refine zz_iload_n (i := 3) (pc := 163) C rfl rfl d_M_shift_163 ?_
    refine zz_imul (pc := 164) C d_M_shift_164 ?_
    refine zz_iload (i := 4) (pc := 165) C rfl d_M_shift_165 ?_
    refine zz_iadd (pc := 167) C d_M_shift_167 ?_
    refine zz_iload (i := 6) (pc := 168) C rfl d_M_shift_168 ?_
    refine zz_iadd (pc := 170) C d_M_shift_170 ?_
    refine zz_aload_n (i := 0) (pc := 171) C rfl rfl d_M_shift_171 ?_
    refine zz_getR (pc := 172) C zl_12_149 zsh_79 rfl d_M_shift_172 ?_
    refine zz_iload (i := 6) (pc := 175) C rfl d_M_shift_175 ?_
    obtain ⟨hi16, h⟩ := zz_ckE h
    refine zz_lald (pc := 177) C rfl zsh_122 hi16 d_M_shift_177 ?_
    obtain ⟨hi17, h⟩ := zz_ckE h
    refine zz_last (pc := 178) C rfl zsh_121 hi17 d_M_shift_178 ?_
    refine zz_iinc (lo' := [some (.ref 79), none, none, some (.int v3), some (.int v4), some (.int v5), some (.int (v6 + (1 : Int32)))]) (pc := 179) C rfl (zz_inc zki_1) rfl rfl d_M_shift_179 ?_
    refine zz_goto (tgt := 150) (pc := 182) C (by decide) d_M_shift_182 ?_
    exact ih v3 v4 v5 (v6 + (1 : Int32)) (zz_wl s 121 (((((60 : Int32) * v3) + v4) + v6).toNatClampNeg) (s.2 122 (v6.toNatClampNeg))) h
set_option maxHeartbeats 4000000 in
set_option maxRecDepth 100000 in
theorem zf_M_shift_L113 {G : zz_G} {l : Launch} {Z : zz_Z} {q : Int32 × zz_S} (C : zz_Cx G l "OneBlanketModel" "shift" prog_14_method_98_code 7 (some .int) 4 (some (.int q.1), zsh, q.2) Z) : ∀ (n : Nat) (v1 : Int32) (v2 : Int32) (v3 : Int32) (v4 : Int32) (v5 : Int32) (v6 : Int32) (s : zz_S), f_M_shift_L113 n v1 v2 v3 v4 v5 v6 s = some q → Z 113 [some (.ref 79), some (.int v1), some (.int v2), some (.int v3), some (.int v4), some (.int v5), some (.int v6)] [] zsh s := by
  intro n
  induction n with
  | zero => intro v1 v2 v3 v4 v5 v6 s h; rw [f_M_shift_L113] at h; cases h
  | succ n ih =>
  intro v1 v2 v3 v4 v5 v6 s h
  rw [f_M_shift_L113] at h
  refine zz_iload (i := 6) (pc := 113) C rfl d_M_shift_113 ?_
  refine zz_iload (i := 5) (pc := 115) C rfl d_M_shift_115 ?_
  refine zz_icmp_ge (tgt := 147) (pc := 117) C (by decide) d_M_shift_117 (fun hc14 => ?_) (fun hc14 => ?_)
  · rw [if_pos hc14] at h
    refine zz_iconst (pc := 147) C zki_0 d_M_shift_147 ?_
    refine zz_istore (i := 6) (lo' := [some (.ref 79), some (.int v1), some (.int v2), some (.int v3), some (.int v4), some (.int v5), some (.int (0 : Int32))]) (pc := 148) C (Nat.le_of_ble_eq_true rfl) rfl rfl d_M_shift_148 ?_
    refine zz_fg C [true, false, false, true, true, true, true] rfl rfl ?_
    exact zf_M_shift_L150 C zF v3 v4 v5 (0 : Int32) s h
  · rw [if_neg hc14] at h
    refine zz_aload_n (i := 0) (pc := 120) C rfl rfl d_M_shift_120 ?_
    refine zz_getR (pc := 121) C zl_12_149 zsh_79 rfl d_M_shift_121 ?_
    refine zz_iload (i := 6) (pc := 124) C rfl d_M_shift_124 ?_
    refine zz_aload_n (i := 0) (pc := 126) C rfl rfl d_M_shift_126 ?_
    refine zz_getR (pc := 127) C zl_12_145 zsh_79 rfl d_M_shift_127 ?_
    refine zz_bipush (pc := 130) C zkb_60 d_M_shift_130 ?_
    refine zz_iload_n (i := 1) (pc := 132) C rfl rfl d_M_shift_132 ?_
    refine zz_imul (pc := 133) C d_M_shift_133 ?_
    refine zz_iload_n (i := 2) (pc := 134) C rfl rfl d_M_shift_134 ?_
    refine zz_iadd (pc := 135) C d_M_shift_135 ?_
    refine zz_iload (i := 6) (pc := 136) C rfl d_M_shift_136 ?_
    refine zz_iadd (pc := 138) C d_M_shift_138 ?_
    obtain ⟨hi18, h⟩ := zz_ckE h
    refine zz_lald (pc := 139) C rfl zsh_121 hi18 d_M_shift_139 ?_
    obtain ⟨hi19, h⟩ := zz_ckE h
    refine zz_last (pc := 140) C rfl zsh_122 hi19 d_M_shift_140 ?_
    refine zz_iinc (lo' := [some (.ref 79), some (.int v1), some (.int v2), some (.int v3), some (.int v4), some (.int v5), some (.int (v6 + (1 : Int32)))]) (pc := 141) C rfl (zz_inc zki_1) rfl rfl d_M_shift_141 ?_
    refine zz_goto (tgt := 113) (pc := 144) C (by decide) d_M_shift_144 ?_
    exact ih v1 v2 v3 v4 v5 (v6 + (1 : Int32)) (zz_wl s 122 (v6.toNatClampNeg) (s.2 121 (((((60 : Int32) * v1) + v2) + v6).toNatClampNeg))) h
set_option maxHeartbeats 4000000 in
set_option maxRecDepth 100000 in
theorem zf_M_shift {G : zz_G} {l : Launch} {Z : zz_Z} {q : Int32 × zz_S} {s : zz_S} (C : zz_Cx G l "OneBlanketModel" "shift" prog_14_method_98_code 7 (some .int) 4 (some (.int q.1), zsh, q.2) Z) (a1 : Int32) (a2 : Int32) (a3 : Int32) (a4 : Int32) (a5 : Int32) (h : f_M_shift a1 a2 a3 a4 a5 s = some q) : Z 0 [some (.ref 79), some (.int a1), some (.int a2), some (.int a3), some (.int a4), some (.int a5), none] [] zsh s := by
  unfold f_M_shift at h
  refine zz_iload_n (i := 1) (pc := 0) C rfl rfl d_M_shift_0 ?_
  refine zz_cSi (as := [.int a1]) (st := []) (pc := 1) C (zm_M_isShelf rfl) zcs_M_isShelf zl_12_286 (by omega) (Nat.le_of_ble_eq_true rfl) d_M_shift_1 rfl rfl ?_
  refine zz_if_eq (tgt := 14) (pc := 4) C (by decide) d_M_shift_4 (fun hc1 => ?_) (fun hc1 => ?_)
  · rw [if_pos hc1] at h
    refine zz_iconst (pc := 14) C zki_m1 d_M_shift_14 ?_
    replace h := Option.some.inj h
    subst h
    exact zz_ret (pc := 15) C (v := some (.int (-1 : Int32))) d_M_shift_15 (Or.inl ⟨_, _, rfl, rfl, rfl, rfl⟩) rfl
  · rw [if_neg hc1] at h
    refine zz_iload_n (i := 3) (pc := 7) C rfl rfl d_M_shift_7 ?_
    refine zz_cSi (as := [.int a3]) (st := []) (pc := 8) C (zm_M_isShelf rfl) zcs_M_isShelf zl_12_286 (by omega) (Nat.le_of_ble_eq_true rfl) d_M_shift_8 rfl rfl ?_
    refine zz_if_ne (tgt := 16) (pc := 11) C (by decide) d_M_shift_11 (fun hc2 => ?_) (fun hc2 => ?_)
    · rw [if_neg hc2] at h
      refine zz_aload_n (i := 0) (pc := 16) C rfl rfl d_M_shift_16 ?_
      refine zz_getR (pc := 17) C zl_12_139 zsh_79 rfl d_M_shift_17 ?_
      refine zz_iload_n (i := 1) (pc := 20) C rfl rfl d_M_shift_20 ?_
      obtain ⟨hi3, h⟩ := zz_ckE h
      refine zz_iald (pc := 21) C rfl zsh_119 hi3 d_M_shift_21 ?_
      refine zz_iconst (pc := 22) C zki_m1 d_M_shift_22 ?_
      refine zz_icmp_eq (tgt := 36) (pc := 23) C (by decide) d_M_shift_23 (fun hc4 => ?_) (fun hc4 => ?_)
      · rw [if_pos hc4] at h
        refine zz_bipush (pc := 36) C zkb_m11 d_M_shift_36 ?_
        replace h := Option.some.inj h
        subst h
        exact zz_ret (pc := 38) C (v := some (.int (-11 : Int32))) d_M_shift_38 (Or.inl ⟨_, _, rfl, rfl, rfl, rfl⟩) rfl
      · rw [if_neg hc4] at h
        refine zz_aload_n (i := 0) (pc := 26) C rfl rfl d_M_shift_26 ?_
        refine zz_getR (pc := 27) C zl_12_139 zsh_79 rfl d_M_shift_27 ?_
        refine zz_iload_n (i := 3) (pc := 30) C rfl rfl d_M_shift_30 ?_
        obtain ⟨hi5, h⟩ := zz_ckE h
        refine zz_iald (pc := 31) C rfl zsh_119 hi5 d_M_shift_31 ?_
        refine zz_iconst (pc := 32) C zki_m1 d_M_shift_32 ?_
        refine zz_icmp_ne (tgt := 39) (pc := 33) C (by decide) d_M_shift_33 (fun hc6 => ?_) (fun hc6 => ?_)
        · rw [if_neg hc6] at h
          refine zz_aload_n (i := 0) (pc := 39) C rfl rfl d_M_shift_39 ?_
          refine zz_getR (pc := 40) C zl_12_139 zsh_79 rfl d_M_shift_40 ?_
          refine zz_iload_n (i := 1) (pc := 43) C rfl rfl d_M_shift_43 ?_
          refine zz_iald (pc := 44) C rfl zsh_119 hi3 d_M_shift_44 ?_
          refine zz_if_ge (tgt := 63) (pc := 45) C (by decide) d_M_shift_45 (fun hc7 => ?_) (fun hc7 => ?_)
          · rw [if_pos hc7] at h
            refine zz_bipush (pc := 63) C zkb_m12 d_M_shift_63 ?_
            replace h := Option.some.inj h
            subst h
            exact zz_ret (pc := 65) C (v := some (.int (-12 : Int32))) d_M_shift_65 (Or.inl ⟨_, _, rfl, rfl, rfl, rfl⟩) rfl
          · rw [if_neg hc7] at h
            refine zz_aload_n (i := 0) (pc := 48) C rfl rfl d_M_shift_48 ?_
            refine zz_getR (pc := 49) C zl_12_139 zsh_79 rfl d_M_shift_49 ?_
            refine zz_iload_n (i := 1) (pc := 52) C rfl rfl d_M_shift_52 ?_
            refine zz_iald (pc := 53) C rfl zsh_119 hi3 d_M_shift_53 ?_
            refine zz_aload_n (i := 0) (pc := 54) C rfl rfl d_M_shift_54 ?_
            refine zz_getR (pc := 55) C zl_12_139 zsh_79 rfl d_M_shift_55 ?_
            refine zz_iload_n (i := 3) (pc := 58) C rfl rfl d_M_shift_58 ?_
            refine zz_iald (pc := 59) C rfl zsh_119 hi5 d_M_shift_59 ?_
            refine zz_icmp_eq (tgt := 66) (pc := 60) C (by decide) d_M_shift_60 (fun hc8 => ?_) (fun hc8 => ?_)
            · rw [if_pos hc8] at h
              refine zz_iload (i := 5) (pc := 66) C rfl d_M_shift_66 ?_
              refine zz_if_lt (tgt := 107) (pc := 68) C (by decide) d_M_shift_68 (fun hc9 => ?_) (fun hc9 => ?_)
              · rw [if_pos hc9] at h
                refine zz_bipush (pc := 107) C zkb_m13 d_M_shift_107 ?_
                replace h := Option.some.inj h
                subst h
                exact zz_ret (pc := 109) C (v := some (.int (-13 : Int32))) d_M_shift_109 (Or.inl ⟨_, _, rfl, rfl, rfl, rfl⟩) rfl
              · rw [if_neg hc9] at h
                refine zz_iload_n (i := 2) (pc := 71) C rfl rfl d_M_shift_71 ?_
                refine zz_if_lt (tgt := 107) (pc := 72) C (by decide) d_M_shift_72 (fun hc10 => ?_) (fun hc10 => ?_)
                · rw [if_pos hc10] at h
                  refine zz_bipush (pc := 107) C zkb_m13 d_M_shift_107 ?_
                  replace h := Option.some.inj h
                  subst h
                  exact zz_ret (pc := 109) C (v := some (.int (-13 : Int32))) d_M_shift_109 (Or.inl ⟨_, _, rfl, rfl, rfl, rfl⟩) rfl
                · rw [if_neg hc10] at h
                  refine zz_iload (i := 4) (pc := 75) C rfl d_M_shift_75 ?_
                  refine zz_if_lt (tgt := 107) (pc := 77) C (by decide) d_M_shift_77 (fun hc11 => ?_) (fun hc11 => ?_)
                  · rw [if_pos hc11] at h
                    refine zz_bipush (pc := 107) C zkb_m13 d_M_shift_107 ?_
                    replace h := Option.some.inj h
                    subst h
                    exact zz_ret (pc := 109) C (v := some (.int (-13 : Int32))) d_M_shift_109 (Or.inl ⟨_, _, rfl, rfl, rfl, rfl⟩) rfl
                  · rw [if_neg hc11] at h
                    refine zz_iload_n (i := 2) (pc := 80) C rfl rfl d_M_shift_80 ?_
                    refine zz_aload_n (i := 0) (pc := 81) C rfl rfl d_M_shift_81 ?_
                    refine zz_getR (pc := 82) C zl_12_142 zsh_79 rfl d_M_shift_82 ?_
                    refine zz_iload_n (i := 1) (pc := 85) C rfl rfl d_M_shift_85 ?_
                    refine zz_iald (pc := 86) C rfl zsh_120 hi3 d_M_shift_86 ?_
                    refine zz_iload (i := 5) (pc := 87) C rfl d_M_shift_87 ?_
                    refine zz_isub (pc := 89) C d_M_shift_89 ?_
                    refine zz_icmp_gt (tgt := 107) (pc := 90) C (by decide) d_M_shift_90 (fun hc12 => ?_) (fun hc12 => ?_)
                    · rw [if_pos hc12] at h
                      refine zz_bipush (pc := 107) C zkb_m13 d_M_shift_107 ?_
                      replace h := Option.some.inj h
                      subst h
                      exact zz_ret (pc := 109) C (v := some (.int (-13 : Int32))) d_M_shift_109 (Or.inl ⟨_, _, rfl, rfl, rfl, rfl⟩) rfl
                    · rw [if_neg hc12] at h
                      refine zz_iload (i := 4) (pc := 93) C rfl d_M_shift_93 ?_
                      refine zz_aload_n (i := 0) (pc := 95) C rfl rfl d_M_shift_95 ?_
                      refine zz_getR (pc := 96) C zl_12_142 zsh_79 rfl d_M_shift_96 ?_
                      refine zz_iload_n (i := 3) (pc := 99) C rfl rfl d_M_shift_99 ?_
                      refine zz_iald (pc := 100) C rfl zsh_120 hi5 d_M_shift_100 ?_
                      refine zz_iload (i := 5) (pc := 101) C rfl d_M_shift_101 ?_
                      refine zz_isub (pc := 103) C d_M_shift_103 ?_
                      refine zz_icmp_le (tgt := 110) (pc := 104) C (by decide) d_M_shift_104 (fun hc13 => ?_) (fun hc13 => ?_)
                      · rw [if_pos hc13] at h
                        refine zz_iconst (pc := 110) C zki_0 d_M_shift_110 ?_
                        refine zz_istore (i := 6) (lo' := [some (.ref 79), some (.int a1), some (.int a2), some (.int a3), some (.int a4), some (.int a5), some (.int (0 : Int32))]) (pc := 111) C (Nat.le_of_ble_eq_true rfl) rfl rfl d_M_shift_111 ?_
                        exact zf_M_shift_L113 C zF a1 a2 a3 a4 a5 (0 : Int32) s h
                      · rw [if_neg hc13] at h
                        refine zz_bipush (pc := 107) C zkb_m13 d_M_shift_107 ?_
                        replace h := Option.some.inj h
                        subst h
                        exact zz_ret (pc := 109) C (v := some (.int (-13 : Int32))) d_M_shift_109 (Or.inl ⟨_, _, rfl, rfl, rfl, rfl⟩) rfl
            · rw [if_neg hc8] at h
              refine zz_bipush (pc := 63) C zkb_m12 d_M_shift_63 ?_
              replace h := Option.some.inj h
              subst h
              exact zz_ret (pc := 65) C (v := some (.int (-12 : Int32))) d_M_shift_65 (Or.inl ⟨_, _, rfl, rfl, rfl, rfl⟩) rfl
        · rw [if_pos hc6] at h
          refine zz_bipush (pc := 36) C zkb_m11 d_M_shift_36 ?_
          replace h := Option.some.inj h
          subst h
          exact zz_ret (pc := 38) C (v := some (.int (-11 : Int32))) d_M_shift_38 (Or.inl ⟨_, _, rfl, rfl, rfl, rfl⟩) rfl
    · rw [if_pos hc2] at h
      refine zz_iconst (pc := 14) C zki_m1 d_M_shift_14 ?_
      replace h := Option.some.inj h
      subst h
      exact zz_ret (pc := 15) C (v := some (.int (-1 : Int32))) d_M_shift_15 (Or.inl ⟨_, _, rfl, rfl, rfl, rfl⟩) rfl
theorem zm_M_shift {G : zz_G} {l : Launch} {s : zz_S} {q : Int32 × zz_S} {a1 : Int32} {a2 : Int32} {a3 : Int32} {a4 : Int32} {a5 : Int32} (h : f_M_shift a1 a2 a3 a4 a5 s = some q) : zz_M G l 4 y_M_shift prog_14_method_98_code 7 (some .int) [.ref 79, .int a1, .int a2, .int a3, .int a4, .int a5] zsh s (some (.int q.1), zsh, q.2) :=
  zz_M.intro (by decide) (Nat.le_of_ble_eq_true rfl) (Nat.le_refl _) (Nat.le_refl _) (fun Z C => zf_M_shift C a1 a2 a3 a4 a5 h)
theorem d_M_sleeper_0 : decode prog_14_method_10_code 0 = .ok (.iload_n 1, 1) := by decide +kernel
theorem d_M_sleeper_1 : decode prog_14_method_10_code 1 = .ok (.ifCond .lt (56), 3) := by decide +kernel
theorem d_M_sleeper_4 : decode prog_14_method_10_code 4 = .ok (.iload_n 1, 1) := by decide +kernel
theorem d_M_sleeper_5 : decode prog_14_method_10_code 5 = .ok (.bipush (100), 2) := by decide +kernel
theorem d_M_sleeper_7 : decode prog_14_method_10_code 7 = .ok (.idiv, 1) := by decide +kernel
theorem d_M_sleeper_8 : decode prog_14_method_10_code 8 = .ok (.iconst 0, 1) := by decide +kernel
theorem d_M_sleeper_9 : decode prog_14_method_10_code 9 = .ok (.bipush (59), 2) := by decide +kernel
theorem d_M_sleeper_11 : decode prog_14_method_10_code 11 = .ok (.invokestatic 158, 3) := by decide +kernel
theorem d_M_sleeper_14 : decode prog_14_method_10_code 14 = .ok (.ifCond .eq (43), 3) := by decide +kernel
theorem d_M_sleeper_17 : decode prog_14_method_10_code 17 = .ok (.iload_n 1, 1) := by decide +kernel
theorem d_M_sleeper_18 : decode prog_14_method_10_code 18 = .ok (.bipush (100), 2) := by decide +kernel
theorem d_M_sleeper_20 : decode prog_14_method_10_code 20 = .ok (.irem, 1) := by decide +kernel
theorem d_M_sleeper_21 : decode prog_14_method_10_code 21 = .ok (.iconst 4, 1) := by decide +kernel
theorem d_M_sleeper_22 : decode prog_14_method_10_code 22 = .ok (.bipush (20), 2) := by decide +kernel
theorem d_M_sleeper_24 : decode prog_14_method_10_code 24 = .ok (.invokestatic 158, 3) := by decide +kernel
theorem d_M_sleeper_27 : decode prog_14_method_10_code 27 = .ok (.ifCond .eq (30), 3) := by decide +kernel
theorem d_M_sleeper_30 : decode prog_14_method_10_code 30 = .ok (.iload_n 1, 1) := by decide +kernel
theorem d_M_sleeper_31 : decode prog_14_method_10_code 31 = .ok (.bipush (100), 2) := by decide +kernel
theorem d_M_sleeper_33 : decode prog_14_method_10_code 33 = .ok (.idiv, 1) := by decide +kernel
theorem d_M_sleeper_34 : decode prog_14_method_10_code 34 = .ok (.iload_n 1, 1) := by decide +kernel
theorem d_M_sleeper_35 : decode prog_14_method_10_code 35 = .ok (.bipush (100), 2) := by decide +kernel
theorem d_M_sleeper_37 : decode prog_14_method_10_code 37 = .ok (.irem, 1) := by decide +kernel
theorem d_M_sleeper_38 : decode prog_14_method_10_code 38 = .ok (.iadd, 1) := by decide +kernel
theorem d_M_sleeper_39 : decode prog_14_method_10_code 39 = .ok (.aload_n 0, 1) := by decide +kernel
theorem d_M_sleeper_40 : decode prog_14_method_10_code 40 = .ok (.getfield 7, 3) := by decide +kernel
theorem d_M_sleeper_43 : decode prog_14_method_10_code 43 = .ok (.if_icmp .gt (14), 3) := by decide +kernel
theorem d_M_sleeper_46 : decode prog_14_method_10_code 46 = .ok (.iload_n 2, 1) := by decide +kernel
theorem d_M_sleeper_47 : decode prog_14_method_10_code 47 = .ok (.iconst 0, 1) := by decide +kernel
theorem d_M_sleeper_48 : decode prog_14_method_10_code 48 = .ok (.sipush (9999), 3) := by decide +kernel
theorem d_M_sleeper_51 : decode prog_14_method_10_code 51 = .ok (.invokestatic 158, 3) := by decide +kernel
theorem d_M_sleeper_54 : decode prog_14_method_10_code 54 = .ok (.ifCond .ne (5), 3) := by decide +kernel
theorem d_M_sleeper_57 : decode prog_14_method_10_code 57 = .ok (.iconst (-1), 1) := by decide +kernel
theorem d_M_sleeper_58 : decode prog_14_method_10_code 58 = .ok (.ireturn, 1) := by decide +kernel
theorem d_M_sleeper_59 : decode prog_14_method_10_code 59 = .ok (.aload_n 0, 1) := by decide +kernel
theorem d_M_sleeper_60 : decode prog_14_method_10_code 60 = .ok (.getfield 155, 3) := by decide +kernel
theorem d_M_sleeper_63 : decode prog_14_method_10_code 63 = .ok (.bipush (6), 2) := by decide +kernel
theorem d_M_sleeper_65 : decode prog_14_method_10_code 65 = .ok (.if_icmp .ne (6), 3) := by decide +kernel
theorem d_M_sleeper_68 : decode prog_14_method_10_code 68 = .ok (.bipush (-3), 2) := by decide +kernel
theorem d_M_sleeper_70 : decode prog_14_method_10_code 70 = .ok (.ireturn, 1) := by decide +kernel
theorem d_M_sleeper_71 : decode prog_14_method_10_code 71 = .ok (.aload_n 0, 1) := by decide +kernel
theorem d_M_sleeper_72 : decode prog_14_method_10_code 72 = .ok (.getfield 13, 3) := by decide +kernel
theorem d_M_sleeper_75 : decode prog_14_method_10_code 75 = .ok (.aload_n 0, 1) := by decide +kernel
theorem d_M_sleeper_76 : decode prog_14_method_10_code 76 = .ok (.getfield 155, 3) := by decide +kernel
theorem d_M_sleeper_79 : decode prog_14_method_10_code 79 = .ok (.iload_n 1, 1) := by decide +kernel
theorem d_M_sleeper_80 : decode prog_14_method_10_code 80 = .ok (.bipush (100), 2) := by decide +kernel
theorem d_M_sleeper_82 : decode prog_14_method_10_code 82 = .ok (.idiv, 1) := by decide +kernel
theorem d_M_sleeper_83 : decode prog_14_method_10_code 83 = .ok (.iastore, 1) := by decide +kernel
theorem d_M_sleeper_84 : decode prog_14_method_10_code 84 = .ok (.aload_n 0, 1) := by decide +kernel
theorem d_M_sleeper_85 : decode prog_14_method_10_code 85 = .ok (.getfield 17, 3) := by decide +kernel
theorem d_M_sleeper_88 : decode prog_14_method_10_code 88 = .ok (.aload_n 0, 1) := by decide +kernel
theorem d_M_sleeper_89 : decode prog_14_method_10_code 89 = .ok (.getfield 155, 3) := by decide +kernel
theorem d_M_sleeper_92 : decode prog_14_method_10_code 92 = .ok (.iload_n 1, 1) := by decide +kernel
theorem d_M_sleeper_93 : decode prog_14_method_10_code 93 = .ok (.bipush (100), 2) := by decide +kernel
theorem d_M_sleeper_95 : decode prog_14_method_10_code 95 = .ok (.irem, 1) := by decide +kernel
theorem d_M_sleeper_96 : decode prog_14_method_10_code 96 = .ok (.iastore, 1) := by decide +kernel
theorem d_M_sleeper_97 : decode prog_14_method_10_code 97 = .ok (.aload_n 0, 1) := by decide +kernel
theorem d_M_sleeper_98 : decode prog_14_method_10_code 98 = .ok (.getfield 20, 3) := by decide +kernel
theorem d_M_sleeper_101 : decode prog_14_method_10_code 101 = .ok (.aload_n 0, 1) := by decide +kernel
theorem d_M_sleeper_102 : decode prog_14_method_10_code 102 = .ok (.getfield 155, 3) := by decide +kernel
theorem d_M_sleeper_105 : decode prog_14_method_10_code 105 = .ok (.iload_n 2, 1) := by decide +kernel
theorem d_M_sleeper_106 : decode prog_14_method_10_code 106 = .ok (.bipush (100), 2) := by decide +kernel
theorem d_M_sleeper_108 : decode prog_14_method_10_code 108 = .ok (.idiv, 1) := by decide +kernel
theorem d_M_sleeper_109 : decode prog_14_method_10_code 109 = .ok (.iastore, 1) := by decide +kernel
theorem d_M_sleeper_110 : decode prog_14_method_10_code 110 = .ok (.aload_n 0, 1) := by decide +kernel
theorem d_M_sleeper_111 : decode prog_14_method_10_code 111 = .ok (.getfield 23, 3) := by decide +kernel
theorem d_M_sleeper_114 : decode prog_14_method_10_code 114 = .ok (.aload_n 0, 1) := by decide +kernel
theorem d_M_sleeper_115 : decode prog_14_method_10_code 115 = .ok (.getfield 155, 3) := by decide +kernel
theorem d_M_sleeper_118 : decode prog_14_method_10_code 118 = .ok (.iload_n 2, 1) := by decide +kernel
theorem d_M_sleeper_119 : decode prog_14_method_10_code 119 = .ok (.bipush (100), 2) := by decide +kernel
theorem d_M_sleeper_121 : decode prog_14_method_10_code 121 = .ok (.irem, 1) := by decide +kernel
theorem d_M_sleeper_122 : decode prog_14_method_10_code 122 = .ok (.iastore, 1) := by decide +kernel
theorem d_M_sleeper_123 : decode prog_14_method_10_code 123 = .ok (.aload_n 0, 1) := by decide +kernel
theorem d_M_sleeper_124 : decode prog_14_method_10_code 124 = .ok (.dup, 1) := by decide +kernel
theorem d_M_sleeper_125 : decode prog_14_method_10_code 125 = .ok (.getfield 155, 3) := by decide +kernel
theorem d_M_sleeper_128 : decode prog_14_method_10_code 128 = .ok (.iconst 1, 1) := by decide +kernel
theorem d_M_sleeper_129 : decode prog_14_method_10_code 129 = .ok (.iadd, 1) := by decide +kernel
theorem d_M_sleeper_130 : decode prog_14_method_10_code 130 = .ok (.putfield 155, 3) := by decide +kernel
theorem d_M_sleeper_133 : decode prog_14_method_10_code 133 = .ok (.aload_n 0, 1) := by decide +kernel
theorem d_M_sleeper_134 : decode prog_14_method_10_code 134 = .ok (.getfield 155, 3) := by decide +kernel
theorem d_M_sleeper_137 : decode prog_14_method_10_code 137 = .ok (.iconst 1, 1) := by decide +kernel
theorem d_M_sleeper_138 : decode prog_14_method_10_code 138 = .ok (.isub, 1) := by decide +kernel
theorem d_M_sleeper_139 : decode prog_14_method_10_code 139 = .ok (.ireturn, 1) := by decide +kernel
set_option maxHeartbeats 4000000 in
set_option maxRecDepth 100000 in
theorem zf_M_sleeper {G : zz_G} {l : Launch} {Z : zz_Z} {q : Int32 × zz_S} {s : zz_S} (C : zz_Cx G l "OneBlanketModel" "sleeper" prog_14_method_10_code 3 (some .int) 3 (some (.int q.1), zsh, q.2) Z) (a1 : Int32) (a2 : Int32) (h : f_M_sleeper a1 a2 s = some q) : Z 0 [some (.ref 79), some (.int a1), some (.int a2)] [] zsh s := by
  unfold f_M_sleeper at h
  refine zz_iload_n (i := 1) (pc := 0) C rfl rfl d_M_sleeper_0 ?_
  refine zz_if_lt (tgt := 57) (pc := 1) C (by decide) d_M_sleeper_1 (fun hc1 => ?_) (fun hc1 => ?_)
  · rw [if_pos hc1] at h
    refine zz_iconst (pc := 57) C zki_m1 d_M_sleeper_57 ?_
    replace h := Option.some.inj h
    subst h
    exact zz_ret (pc := 58) C (v := some (.int (-1 : Int32))) d_M_sleeper_58 (Or.inl ⟨_, _, rfl, rfl, rfl, rfl⟩) rfl
  · rw [if_neg hc1] at h
    refine zz_iload_n (i := 1) (pc := 4) C rfl rfl d_M_sleeper_4 ?_
    refine zz_bipush (pc := 5) C zkb_100 d_M_sleeper_5 ?_
    refine zz_idiv (pc := 7) C (by decide) d_M_sleeper_7 ?_
    refine zz_iconst (pc := 8) C zki_0 d_M_sleeper_8 ?_
    refine zz_bipush (pc := 9) C zkb_59 d_M_sleeper_9 ?_
    refine zz_cSi (as := [.int (a1 / (100 : Int32)), .int (0 : Int32), .int (59 : Int32)]) (st := []) (pc := 11) C (zm_M_in rfl) zcs_M_in zl_12_158 (by omega) (Nat.le_of_ble_eq_true rfl) d_M_sleeper_11 rfl rfl ?_
    refine zz_if_eq (tgt := 57) (pc := 14) C (by decide) d_M_sleeper_14 (fun hc2 => ?_) (fun hc2 => ?_)
    · rw [if_pos hc2] at h
      refine zz_iconst (pc := 57) C zki_m1 d_M_sleeper_57 ?_
      replace h := Option.some.inj h
      subst h
      exact zz_ret (pc := 58) C (v := some (.int (-1 : Int32))) d_M_sleeper_58 (Or.inl ⟨_, _, rfl, rfl, rfl, rfl⟩) rfl
    · rw [if_neg hc2] at h
      refine zz_iload_n (i := 1) (pc := 17) C rfl rfl d_M_sleeper_17 ?_
      refine zz_bipush (pc := 18) C zkb_100 d_M_sleeper_18 ?_
      refine zz_irem (pc := 20) C (by decide) d_M_sleeper_20 ?_
      refine zz_iconst (pc := 21) C zki_4 d_M_sleeper_21 ?_
      refine zz_bipush (pc := 22) C zkb_20 d_M_sleeper_22 ?_
      refine zz_cSi (as := [.int (a1 % (100 : Int32)), .int (4 : Int32), .int (20 : Int32)]) (st := []) (pc := 24) C (zm_M_in rfl) zcs_M_in zl_12_158 (by omega) (Nat.le_of_ble_eq_true rfl) d_M_sleeper_24 rfl rfl ?_
      refine zz_if_eq (tgt := 57) (pc := 27) C (by decide) d_M_sleeper_27 (fun hc3 => ?_) (fun hc3 => ?_)
      · rw [if_pos hc3] at h
        refine zz_iconst (pc := 57) C zki_m1 d_M_sleeper_57 ?_
        replace h := Option.some.inj h
        subst h
        exact zz_ret (pc := 58) C (v := some (.int (-1 : Int32))) d_M_sleeper_58 (Or.inl ⟨_, _, rfl, rfl, rfl, rfl⟩) rfl
      · rw [if_neg hc3] at h
        refine zz_iload_n (i := 1) (pc := 30) C rfl rfl d_M_sleeper_30 ?_
        refine zz_bipush (pc := 31) C zkb_100 d_M_sleeper_31 ?_
        refine zz_idiv (pc := 33) C (by decide) d_M_sleeper_33 ?_
        refine zz_iload_n (i := 1) (pc := 34) C rfl rfl d_M_sleeper_34 ?_
        refine zz_bipush (pc := 35) C zkb_100 d_M_sleeper_35 ?_
        refine zz_irem (pc := 37) C (by decide) d_M_sleeper_37 ?_
        refine zz_iadd (pc := 38) C d_M_sleeper_38 ?_
        refine zz_aload_n (i := 0) (pc := 39) C rfl rfl d_M_sleeper_39 ?_
        refine zz_getI (pc := 40) C zl_12_7 zsh_79 rfl d_M_sleeper_40 ?_
        refine zz_icmp_gt (tgt := 57) (pc := 43) C (by decide) d_M_sleeper_43 (fun hc4 => ?_) (fun hc4 => ?_)
        · rw [if_pos hc4] at h
          refine zz_iconst (pc := 57) C zki_m1 d_M_sleeper_57 ?_
          replace h := Option.some.inj h
          subst h
          exact zz_ret (pc := 58) C (v := some (.int (-1 : Int32))) d_M_sleeper_58 (Or.inl ⟨_, _, rfl, rfl, rfl, rfl⟩) rfl
        · rw [if_neg hc4] at h
          refine zz_iload_n (i := 2) (pc := 46) C rfl rfl d_M_sleeper_46 ?_
          refine zz_iconst (pc := 47) C zki_0 d_M_sleeper_47 ?_
          refine zz_sipush (pc := 48) C zks_9999 d_M_sleeper_48 ?_
          refine zz_cSi (as := [.int a2, .int (0 : Int32), .int (9999 : Int32)]) (st := []) (pc := 51) C (zm_M_in rfl) zcs_M_in zl_12_158 (by omega) (Nat.le_of_ble_eq_true rfl) d_M_sleeper_51 rfl rfl ?_
          refine zz_if_ne (tgt := 59) (pc := 54) C (by decide) d_M_sleeper_54 (fun hc5 => ?_) (fun hc5 => ?_)
          · rw [if_neg hc5] at h
            refine zz_aload_n (i := 0) (pc := 59) C rfl rfl d_M_sleeper_59 ?_
            refine zz_getI (pc := 60) C zl_12_155 zsh_79 rfl d_M_sleeper_60 ?_
            refine zz_bipush (pc := 63) C zkb_6 d_M_sleeper_63 ?_
            refine zz_icmp_ne (tgt := 71) (pc := 65) C (by decide) d_M_sleeper_65 (fun hc6 => ?_) (fun hc6 => ?_)
            · rw [if_neg hc6] at h
              refine zz_aload_n (i := 0) (pc := 71) C rfl rfl d_M_sleeper_71 ?_
              refine zz_getR (pc := 72) C zl_12_13 zsh_79 rfl d_M_sleeper_72 ?_
              refine zz_aload_n (i := 0) (pc := 75) C rfl rfl d_M_sleeper_75 ?_
              refine zz_getI (pc := 76) C zl_12_155 zsh_79 rfl d_M_sleeper_76 ?_
              refine zz_iload_n (i := 1) (pc := 79) C rfl rfl d_M_sleeper_79 ?_
              refine zz_bipush (pc := 80) C zkb_100 d_M_sleeper_80 ?_
              refine zz_idiv (pc := 82) C (by decide) d_M_sleeper_82 ?_
              obtain ⟨hi7, h⟩ := zz_ckE h
              refine zz_iast (pc := 83) C rfl zsh_80 hi7 d_M_sleeper_83 ?_
              refine zz_aload_n (i := 0) (pc := 84) C rfl rfl d_M_sleeper_84 ?_
              refine zz_getR (pc := 85) C zl_12_17 zsh_79 rfl d_M_sleeper_85 ?_
              refine zz_aload_n (i := 0) (pc := 88) C rfl rfl d_M_sleeper_88 ?_
              refine zz_getIv (v := (s.1 79 2)) (pc := 89) C zl_12_155 zsh_79 rfl rfl d_M_sleeper_89 ?_
              refine zz_iload_n (i := 1) (pc := 92) C rfl rfl d_M_sleeper_92 ?_
              refine zz_bipush (pc := 93) C zkb_100 d_M_sleeper_93 ?_
              refine zz_irem (pc := 95) C (by decide) d_M_sleeper_95 ?_
              refine zz_iast (pc := 96) C rfl zsh_81 hi7 d_M_sleeper_96 ?_
              refine zz_aload_n (i := 0) (pc := 97) C rfl rfl d_M_sleeper_97 ?_
              refine zz_getR (pc := 98) C zl_12_20 zsh_79 rfl d_M_sleeper_98 ?_
              refine zz_aload_n (i := 0) (pc := 101) C rfl rfl d_M_sleeper_101 ?_
              refine zz_getIv (v := (s.1 79 2)) (pc := 102) C zl_12_155 zsh_79 rfl rfl d_M_sleeper_102 ?_
              refine zz_iload_n (i := 2) (pc := 105) C rfl rfl d_M_sleeper_105 ?_
              refine zz_bipush (pc := 106) C zkb_100 d_M_sleeper_106 ?_
              refine zz_idiv (pc := 108) C (by decide) d_M_sleeper_108 ?_
              refine zz_iast (pc := 109) C rfl zsh_82 hi7 d_M_sleeper_109 ?_
              refine zz_aload_n (i := 0) (pc := 110) C rfl rfl d_M_sleeper_110 ?_
              refine zz_getR (pc := 111) C zl_12_23 zsh_79 rfl d_M_sleeper_111 ?_
              refine zz_aload_n (i := 0) (pc := 114) C rfl rfl d_M_sleeper_114 ?_
              refine zz_getIv (v := (s.1 79 2)) (pc := 115) C zl_12_155 zsh_79 rfl rfl d_M_sleeper_115 ?_
              refine zz_iload_n (i := 2) (pc := 118) C rfl rfl d_M_sleeper_118 ?_
              refine zz_bipush (pc := 119) C zkb_100 d_M_sleeper_119 ?_
              refine zz_irem (pc := 121) C (by decide) d_M_sleeper_121 ?_
              refine zz_iast (pc := 122) C rfl zsh_83 hi7 d_M_sleeper_122 ?_
              refine zz_aload_n (i := 0) (pc := 123) C rfl rfl d_M_sleeper_123 ?_
              refine zz_dup (pc := 124) C rfl d_M_sleeper_124 ?_
              refine zz_getIv (v := (s.1 79 2)) (pc := 125) C zl_12_155 zsh_79 rfl rfl d_M_sleeper_125 ?_
              refine zz_iconst (pc := 128) C zki_1 d_M_sleeper_128 ?_
              refine zz_iadd (pc := 129) C d_M_sleeper_129 ?_
              refine zz_putI' (pc := 130) C zl_12_155 zpf_12_2 zsh_79 rfl d_M_sleeper_130 ?_
              refine zz_aload_n (i := 0) (pc := 133) C rfl rfl d_M_sleeper_133 ?_
              refine zz_getIv (v := ((s.1 79 2) + (1 : Int32))) (pc := 134) C zl_12_155 zsh_79 rfl rfl d_M_sleeper_134 ?_
              refine zz_iconst (pc := 137) C zki_1 d_M_sleeper_137 ?_
              refine zz_isub (pc := 138) C d_M_sleeper_138 ?_
              replace h := Option.some.inj h
              subst h
              exact zz_ret (pc := 139) C (v := some (.int (((s.1 79 2) + (1 : Int32)) - (1 : Int32)))) d_M_sleeper_139 (Or.inl ⟨_, _, rfl, rfl, rfl, rfl⟩) rfl
            · rw [if_pos hc6] at h
              refine zz_bipush (pc := 68) C zkb_m3 d_M_sleeper_68 ?_
              replace h := Option.some.inj h
              subst h
              exact zz_ret (pc := 70) C (v := some (.int (-3 : Int32))) d_M_sleeper_70 (Or.inl ⟨_, _, rfl, rfl, rfl, rfl⟩) rfl
          · rw [if_pos hc5] at h
            refine zz_iconst (pc := 57) C zki_m1 d_M_sleeper_57 ?_
            replace h := Option.some.inj h
            subst h
            exact zz_ret (pc := 58) C (v := some (.int (-1 : Int32))) d_M_sleeper_58 (Or.inl ⟨_, _, rfl, rfl, rfl, rfl⟩) rfl
theorem zm_M_sleeper {G : zz_G} {l : Launch} {s : zz_S} {q : Int32 × zz_S} {a1 : Int32} {a2 : Int32} (h : f_M_sleeper a1 a2 s = some q) : zz_M G l 3 y_M_sleeper prog_14_method_10_code 3 (some .int) [.ref 79, .int a1, .int a2] zsh s (some (.int q.1), zsh, q.2) :=
  zz_M.intro (by decide) (Nat.le_of_ble_eq_true rfl) (Nat.le_refl _) (Nat.le_refl _) (fun Z C => zf_M_sleeper C a1 a2 h)
theorem d_M_sleeps_0 : decode prog_14_method_56_code 0 = .ok (.aload_n 0, 1) := by decide +kernel
theorem d_M_sleeps_1 : decode prog_14_method_56_code 1 = .ok (.iload_n 1, 1) := by decide +kernel
theorem d_M_sleeps_2 : decode prog_14_method_56_code 2 = .ok (.invokevirtual 179, 3) := by decide +kernel
theorem d_M_sleeps_5 : decode prog_14_method_56_code 5 = .ok (.ifCond .eq (19), 3) := by decide +kernel
theorem d_M_sleeps_8 : decode prog_14_method_56_code 8 = .ok (.iload_n 2, 1) := by decide +kernel
theorem d_M_sleeps_9 : decode prog_14_method_56_code 9 = .ok (.invokestatic 277, 3) := by decide +kernel
theorem d_M_sleeps_12 : decode prog_14_method_56_code 12 = .ok (.ifCond .eq (12), 3) := by decide +kernel
theorem d_M_sleeps_15 : decode prog_14_method_56_code 15 = .ok (.iload_n 3, 1) := by decide +kernel
theorem d_M_sleeps_16 : decode prog_14_method_56_code 16 = .ok (.iconst 0, 1) := by decide +kernel
theorem d_M_sleeps_17 : decode prog_14_method_56_code 17 = .ok (.iconst 3, 1) := by decide +kernel
theorem d_M_sleeps_18 : decode prog_14_method_56_code 18 = .ok (.invokestatic 158, 3) := by decide +kernel
theorem d_M_sleeps_21 : decode prog_14_method_56_code 21 = .ok (.ifCond .ne (6), 3) := by decide +kernel
theorem d_M_sleeps_24 : decode prog_14_method_56_code 24 = .ok (.ldc 190, 2) := by decide +kernel
theorem d_M_sleeps_26 : decode prog_14_method_56_code 26 = .ok (.ireturn, 1) := by decide +kernel
theorem d_M_sleeps_27 : decode prog_14_method_56_code 27 = .ok (.aload_n 0, 1) := by decide +kernel
theorem d_M_sleeps_28 : decode prog_14_method_56_code 28 = .ok (.iload_n 2, 1) := by decide +kernel
theorem d_M_sleeps_29 : decode prog_14_method_56_code 29 = .ok (.invokevirtual 323, 3) := by decide +kernel
theorem d_M_sleeps_32 : decode prog_14_method_56_code 32 = .ok (.aload_n 0, 1) := by decide +kernel
theorem d_M_sleeps_33 : decode prog_14_method_56_code 33 = .ok (.iload_n 1, 1) := by decide +kernel
theorem d_M_sleeps_34 : decode prog_14_method_56_code 34 = .ok (.aload_n 0, 1) := by decide +kernel
theorem d_M_sleeps_35 : decode prog_14_method_56_code 35 = .ok (.iload_n 2, 1) := by decide +kernel
theorem d_M_sleeps_36 : decode prog_14_method_56_code 36 = .ok (.invokevirtual 304, 3) := by decide +kernel
theorem d_M_sleeps_39 : decode prog_14_method_56_code 39 = .ok (.invokevirtual 307, 3) := by decide +kernel
theorem d_M_sleeps_42 : decode prog_14_method_56_code 42 = .ok (.istore 4, 2) := by decide +kernel
theorem d_M_sleeps_44 : decode prog_14_method_56_code 44 = .ok (.iload_n 3, 1) := by decide +kernel
theorem d_M_sleeps_45 : decode prog_14_method_56_code 45 = .ok (.ifCond .ne (12), 3) := by decide +kernel
theorem d_M_sleeps_48 : decode prog_14_method_56_code 48 = .ok (.aload_n 0, 1) := by decide +kernel
theorem d_M_sleeps_49 : decode prog_14_method_56_code 49 = .ok (.getfield 88, 3) := by decide +kernel
theorem d_M_sleeps_52 : decode prog_14_method_56_code 52 = .ok (.iload_n 1, 1) := by decide +kernel
theorem d_M_sleeps_53 : decode prog_14_method_56_code 53 = .ok (.iaload, 1) := by decide +kernel
theorem d_M_sleeps_54 : decode prog_14_method_56_code 54 = .ok (.goto (47), 3) := by decide +kernel
theorem d_M_sleeps_57 : decode prog_14_method_56_code 57 = .ok (.iload_n 3, 1) := by decide +kernel
theorem d_M_sleeps_58 : decode prog_14_method_56_code 58 = .ok (.iconst 1, 1) := by decide +kernel
theorem d_M_sleeps_59 : decode prog_14_method_56_code 59 = .ok (.if_icmp .ne (11), 3) := by decide +kernel
theorem d_M_sleeps_62 : decode prog_14_method_56_code 62 = .ok (.aload_n 0, 1) := by decide +kernel
theorem d_M_sleeps_63 : decode prog_14_method_56_code 63 = .ok (.iload_n 1, 1) := by decide +kernel
theorem d_M_sleeps_64 : decode prog_14_method_56_code 64 = .ok (.invokevirtual 297, 3) := by decide +kernel
theorem d_M_sleeps_67 : decode prog_14_method_56_code 67 = .ok (.goto (34), 3) := by decide +kernel
theorem d_M_sleeps_70 : decode prog_14_method_56_code 70 = .ok (.iload_n 3, 1) := by decide +kernel
theorem d_M_sleeps_71 : decode prog_14_method_56_code 71 = .ok (.iconst 2, 1) := by decide +kernel
theorem d_M_sleeps_72 : decode prog_14_method_56_code 72 = .ok (.if_icmp .ne (8), 3) := by decide +kernel
theorem d_M_sleeps_75 : decode prog_14_method_56_code 75 = .ok (.iload 4, 2) := by decide +kernel
theorem d_M_sleeps_77 : decode prog_14_method_56_code 77 = .ok (.goto (24), 3) := by decide +kernel
theorem d_M_sleeps_80 : decode prog_14_method_56_code 80 = .ok (.iload 4, 2) := by decide +kernel
theorem d_M_sleeps_82 : decode prog_14_method_56_code 82 = .ok (.aload_n 0, 1) := by decide +kernel
theorem d_M_sleeps_83 : decode prog_14_method_56_code 83 = .ok (.getfield 20, 3) := by decide +kernel
theorem d_M_sleeps_86 : decode prog_14_method_56_code 86 = .ok (.iload_n 1, 1) := by decide +kernel
theorem d_M_sleeps_87 : decode prog_14_method_56_code 87 = .ok (.iaload, 1) := by decide +kernel
theorem d_M_sleeps_88 : decode prog_14_method_56_code 88 = .ok (.isub, 1) := by decide +kernel
theorem d_M_sleeps_89 : decode prog_14_method_56_code 89 = .ok (.invokestatic 294, 3) := by decide +kernel
theorem d_M_sleeps_92 : decode prog_14_method_56_code 92 = .ok (.iconst 5, 1) := by decide +kernel
theorem d_M_sleeps_93 : decode prog_14_method_56_code 93 = .ok (.if_icmp .gt (7), 3) := by decide +kernel
theorem d_M_sleeps_96 : decode prog_14_method_56_code 96 = .ok (.iconst 1, 1) := by decide +kernel
theorem d_M_sleeps_97 : decode prog_14_method_56_code 97 = .ok (.goto (4), 3) := by decide +kernel
theorem d_M_sleeps_100 : decode prog_14_method_56_code 100 = .ok (.iconst 0, 1) := by decide +kernel
theorem d_M_sleeps_101 : decode prog_14_method_56_code 101 = .ok (.ireturn, 1) := by decide +kernel
set_option maxHeartbeats 4000000 in
set_option maxRecDepth 100000 in
theorem zf_M_sleeps {G : zz_G} {l : Launch} {Z : zz_Z} {q : Int32 × zz_S} {s : zz_S} (C : zz_Cx G l "OneBlanketModel" "sleeps" prog_14_method_56_code 5 (some .int) 9 (some (.int q.1), zsh, q.2) Z) (a1 : Int32) (a2 : Int32) (a3 : Int32) (h : f_M_sleeps a1 a2 a3 s = some q) : Z 0 [some (.ref 79), some (.int a1), some (.int a2), some (.int a3), none] [] zsh s := by
  unfold f_M_sleeps at h
  refine zz_aload_n (i := 0) (pc := 0) C rfl rfl d_M_sleeps_0 ?_
  refine zz_iload_n (i := 1) (pc := 1) C rfl rfl d_M_sleeps_1 ?_
  refine zz_cVi (as := [.int a1]) (st := []) (pc := 2) C (zm_M_isSleeper rfl) zcv_M_isSleeper zsh_79 zl_12_179 (by omega) (Nat.le_of_ble_eq_true rfl) d_M_sleeps_2 rfl rfl ?_
  refine zz_if_eq (tgt := 24) (pc := 5) C (by decide) d_M_sleeps_5 (fun hc1 => ?_) (fun hc1 => ?_)
  · rw [if_pos hc1] at h
    refine zz_ldc (pc := 24) C zl_12_190 d_M_sleeps_24 ?_
    replace h := Option.some.inj h
    subst h
    exact zz_ret (pc := 26) C (v := some (.int (-2000000000 : Int32))) d_M_sleeps_26 (Or.inl ⟨_, _, rfl, rfl, rfl, rfl⟩) rfl
  · rw [if_neg hc1] at h
    refine zz_iload_n (i := 2) (pc := 8) C rfl rfl d_M_sleeps_8 ?_
    refine zz_cSi (as := [.int a2]) (st := []) (pc := 9) C (zm_M_isMinute rfl) zcs_M_isMinute zl_12_277 (by omega) (Nat.le_of_ble_eq_true rfl) d_M_sleeps_9 rfl rfl ?_
    refine zz_if_eq (tgt := 24) (pc := 12) C (by decide) d_M_sleeps_12 (fun hc2 => ?_) (fun hc2 => ?_)
    · rw [if_pos hc2] at h
      refine zz_ldc (pc := 24) C zl_12_190 d_M_sleeps_24 ?_
      replace h := Option.some.inj h
      subst h
      exact zz_ret (pc := 26) C (v := some (.int (-2000000000 : Int32))) d_M_sleeps_26 (Or.inl ⟨_, _, rfl, rfl, rfl, rfl⟩) rfl
    · rw [if_neg hc2] at h
      refine zz_iload_n (i := 3) (pc := 15) C rfl rfl d_M_sleeps_15 ?_
      refine zz_iconst (pc := 16) C zki_0 d_M_sleeps_16 ?_
      refine zz_iconst (pc := 17) C zki_3 d_M_sleeps_17 ?_
      refine zz_cSi (as := [.int a3, .int (0 : Int32), .int (3 : Int32)]) (st := []) (pc := 18) C (zm_M_in rfl) zcs_M_in zl_12_158 (by omega) (Nat.le_of_ble_eq_true rfl) d_M_sleeps_18 rfl rfl ?_
      refine zz_if_ne (tgt := 27) (pc := 21) C (by decide) d_M_sleeps_21 (fun hc3 => ?_) (fun hc3 => ?_)
      · rw [if_neg hc3] at h
        refine zz_aload_n (i := 0) (pc := 27) C rfl rfl d_M_sleeps_27 ?_
        refine zz_iload_n (i := 2) (pc := 28) C rfl rfl d_M_sleeps_28 ?_
        obtain ⟨q4, hq4, h⟩ := zz_bdE h
        refine zz_cVv (as := [.int a2]) (st := []) (pc := 29) C (zm_M_night hq4) zcv_M_night zsh_79 zl_12_323 (by omega) (Nat.le_of_ble_eq_true rfl) d_M_sleeps_29 rfl rfl ?_
        refine zz_aload_n (i := 0) (pc := 32) C rfl rfl d_M_sleeps_32 ?_
        refine zz_iload_n (i := 1) (pc := 33) C rfl rfl d_M_sleeps_33 ?_
        refine zz_aload_n (i := 0) (pc := 34) C rfl rfl d_M_sleeps_34 ?_
        refine zz_iload_n (i := 2) (pc := 35) C rfl rfl d_M_sleeps_35 ?_
        obtain ⟨q5, hq5, h⟩ := zz_bdE h
        refine zz_cVi (as := [.int a2]) (st := [.int a1, .ref 79]) (pc := 36) C (zm_M_degrees hq5) zcv_M_degrees zsh_79 zl_12_304 (by omega) (Nat.le_of_ble_eq_true rfl) d_M_sleeps_36 rfl rfl ?_
        obtain ⟨q6, hq6, h⟩ := zz_bdE h
        refine zz_cVi (as := [.int a1, .int q5.1]) (st := []) (pc := 39) C (zm_M_warmOf hq6) zcv_M_warmOf zsh_79 zl_12_307 (by omega) (Nat.le_of_ble_eq_true rfl) d_M_sleeps_39 rfl rfl ?_
        refine zz_istore (i := 4) (lo' := [some (.ref 79), some (.int a1), some (.int a2), some (.int a3), some (.int q6)]) (pc := 42) C (Nat.le_of_ble_eq_true rfl) rfl rfl d_M_sleeps_42 ?_
        refine zz_iload_n (i := 3) (pc := 44) C rfl rfl d_M_sleeps_44 ?_
        refine zz_if_ne (tgt := 57) (pc := 45) C (by decide) d_M_sleeps_45 (fun hc7 => ?_) (fun hc7 => ?_)
        · rw [if_neg hc7] at h
          refine zz_iload_n (i := 3) (pc := 57) C rfl rfl d_M_sleeps_57 ?_
          refine zz_iconst (pc := 58) C zki_1 d_M_sleeps_58 ?_
          refine zz_icmp_ne (tgt := 70) (pc := 59) C (by decide) d_M_sleeps_59 (fun hc8 => ?_) (fun hc8 => ?_)
          · rw [if_neg hc8] at h
            refine zz_iload_n (i := 3) (pc := 70) C rfl rfl d_M_sleeps_70 ?_
            refine zz_iconst (pc := 71) C zki_2 d_M_sleeps_71 ?_
            refine zz_icmp_ne (tgt := 80) (pc := 72) C (by decide) d_M_sleeps_72 (fun hc9 => ?_) (fun hc9 => ?_)
            · rw [if_neg hc9] at h
              refine zz_iload (i := 4) (pc := 80) C rfl d_M_sleeps_80 ?_
              refine zz_aload_n (i := 0) (pc := 82) C rfl rfl d_M_sleeps_82 ?_
              refine zz_getR (pc := 83) C zl_12_20 zsh_79 rfl d_M_sleeps_83 ?_
              refine zz_iload_n (i := 1) (pc := 86) C rfl rfl d_M_sleeps_86 ?_
              obtain ⟨hi10, h⟩ := zz_ckE h
              refine zz_iald (pc := 87) C rfl zsh_82 hi10 d_M_sleeps_87 ?_
              refine zz_isub (pc := 88) C d_M_sleeps_88 ?_
              refine zz_cSi (as := [.int (q6 - (q5.2.1 82 (a1.toNatClampNeg)))]) (st := []) (pc := 89) C (zm_M_sizeOf rfl) zcs_M_sizeOf zl_12_294 (by omega) (Nat.le_of_ble_eq_true rfl) d_M_sleeps_89 rfl rfl ?_
              refine zz_iconst (pc := 92) C zki_5 d_M_sleeps_92 ?_
              refine zz_icmp_gt (tgt := 100) (pc := 93) C (by decide) d_M_sleeps_93 (fun hc11 => ?_) (fun hc11 => ?_)
              · rw [if_pos hc11] at h
                refine zz_iconst (pc := 100) C zki_0 d_M_sleeps_100 ?_
                replace h := Option.some.inj h
                subst h
                exact zz_ret (pc := 101) C (v := some (.int (0 : Int32))) d_M_sleeps_101 (Or.inl ⟨_, _, rfl, rfl, rfl, rfl⟩) rfl
              · rw [if_neg hc11] at h
                refine zz_iconst (pc := 96) C zki_1 d_M_sleeps_96 ?_
                refine zz_goto (tgt := 101) (pc := 97) C (by decide) d_M_sleeps_97 ?_
                replace h := Option.some.inj h
                subst h
                exact zz_ret (pc := 101) C (v := some (.int (1 : Int32))) d_M_sleeps_101 (Or.inl ⟨_, _, rfl, rfl, rfl, rfl⟩) rfl
            · rw [if_pos hc9] at h
              refine zz_iload (i := 4) (pc := 75) C rfl d_M_sleeps_75 ?_
              refine zz_goto (tgt := 101) (pc := 77) C (by decide) d_M_sleeps_77 ?_
              replace h := Option.some.inj h
              subst h
              exact zz_ret (pc := 101) C (v := some (.int q6)) d_M_sleeps_101 (Or.inl ⟨_, _, rfl, rfl, rfl, rfl⟩) rfl
          · rw [if_pos hc8] at h
            refine zz_aload_n (i := 0) (pc := 62) C rfl rfl d_M_sleeps_62 ?_
            refine zz_iload_n (i := 1) (pc := 63) C rfl rfl d_M_sleeps_63 ?_
            obtain ⟨q12, hq12, h⟩ := zz_bdE h
            refine zz_cVi (as := [.int a1]) (st := []) (pc := 64) C (zm_M_coveredOf hq12) zcv_M_coveredOf zsh_79 zl_12_297 (by omega) (Nat.le_of_ble_eq_true rfl) d_M_sleeps_64 rfl rfl ?_
            refine zz_goto (tgt := 101) (pc := 67) C (by decide) d_M_sleeps_67 ?_
            replace h := Option.some.inj h
            subst h
            exact zz_ret (pc := 101) C (v := some (.int q12)) d_M_sleeps_101 (Or.inl ⟨_, _, rfl, rfl, rfl, rfl⟩) rfl
        · rw [if_pos hc7] at h
          refine zz_aload_n (i := 0) (pc := 48) C rfl rfl d_M_sleeps_48 ?_
          refine zz_getR (pc := 49) C zl_12_88 zsh_79 rfl d_M_sleeps_49 ?_
          refine zz_iload_n (i := 1) (pc := 52) C rfl rfl d_M_sleeps_52 ?_
          obtain ⟨hi13, h⟩ := zz_ckE h
          refine zz_iald (pc := 53) C rfl zsh_103 hi13 d_M_sleeps_53 ?_
          refine zz_goto (tgt := 101) (pc := 54) C (by decide) d_M_sleeps_54 ?_
          replace h := Option.some.inj h
          subst h
          exact zz_ret (pc := 101) C (v := some (.int (q5.2.1 103 (a1.toNatClampNeg)))) d_M_sleeps_101 (Or.inl ⟨_, _, rfl, rfl, rfl, rfl⟩) rfl
      · rw [if_pos hc3] at h
        refine zz_ldc (pc := 24) C zl_12_190 d_M_sleeps_24 ?_
        replace h := Option.some.inj h
        subst h
        exact zz_ret (pc := 26) C (v := some (.int (-2000000000 : Int32))) d_M_sleeps_26 (Or.inl ⟨_, _, rfl, rfl, rfl, rfl⟩) rfl
theorem zm_M_sleeps {G : zz_G} {l : Launch} {s : zz_S} {q : Int32 × zz_S} {a1 : Int32} {a2 : Int32} {a3 : Int32} (h : f_M_sleeps a1 a2 a3 s = some q) : zz_M G l 9 y_M_sleeps prog_14_method_56_code 5 (some .int) [.ref 79, .int a1, .int a2, .int a3] zsh s (some (.int q.1), zsh, q.2) :=
  zz_M.intro (by decide) (Nat.le_of_ble_eq_true rfl) (Nat.le_refl _) (Nat.le_refl _) (fun Z C => zf_M_sleeps C a1 a2 a3 h)
