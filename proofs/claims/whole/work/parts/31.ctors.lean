theorem d_B_init_0 : decode prog_1_method_1_code 0 = .ok (.aload_n 0, 1) := by decide +kernel
theorem d_B_init_1 : decode prog_1_method_1_code 1 = .ok (.invokespecial 3, 3) := by decide +kernel
theorem d_B_init_4 : decode prog_1_method_1_code 4 = .ok (.aload_n 0, 1) := by decide +kernel
theorem d_B_init_5 : decode prog_1_method_1_code 5 = .ok (.new 9, 3) := by decide +kernel
theorem d_B_init_8 : decode prog_1_method_1_code 8 = .ok (.dup, 1) := by decide +kernel
theorem d_B_init_9 : decode prog_1_method_1_code 9 = .ok (.invokespecial 11, 3) := by decide +kernel
theorem d_B_init_12 : decode prog_1_method_1_code 12 = .ok (.putfield 12, 3) := by decide +kernel
theorem d_B_init_15 : decode prog_1_method_1_code 15 = .ok (.aload_n 0, 1) := by decide +kernel
theorem d_B_init_16 : decode prog_1_method_1_code 16 = .ok (.new 16, 3) := by decide +kernel
theorem d_B_init_19 : decode prog_1_method_1_code 19 = .ok (.dup, 1) := by decide +kernel
theorem d_B_init_20 : decode prog_1_method_1_code 20 = .ok (.invokespecial 18, 3) := by decide +kernel
theorem d_B_init_23 : decode prog_1_method_1_code 23 = .ok (.putfield 19, 3) := by decide +kernel
theorem d_B_init_26 : decode prog_1_method_1_code 26 = .ok (.aload_n 0, 1) := by decide +kernel
theorem d_B_init_27 : decode prog_1_method_1_code 27 = .ok (.new 23, 3) := by decide +kernel
theorem d_B_init_30 : decode prog_1_method_1_code 30 = .ok (.dup, 1) := by decide +kernel
theorem d_B_init_31 : decode prog_1_method_1_code 31 = .ok (.invokespecial 25, 3) := by decide +kernel
theorem d_B_init_34 : decode prog_1_method_1_code 34 = .ok (.putfield 26, 3) := by decide +kernel
theorem d_B_init_37 : decode prog_1_method_1_code 37 = .ok (.aload_n 0, 1) := by decide +kernel
theorem d_B_init_38 : decode prog_1_method_1_code 38 = .ok (.iconst 4, 1) := by decide +kernel
theorem d_B_init_39 : decode prog_1_method_1_code 39 = .ok (.anewarray 30, 3) := by decide +kernel
theorem d_B_init_42 : decode prog_1_method_1_code 42 = .ok (.putfield 32, 3) := by decide +kernel
theorem d_B_init_45 : decode prog_1_method_1_code 45 = .ok (.aload_n 0, 1) := by decide +kernel
theorem d_B_init_46 : decode prog_1_method_1_code 46 = .ok (.new 36, 3) := by decide +kernel
theorem d_B_init_49 : decode prog_1_method_1_code 49 = .ok (.dup, 1) := by decide +kernel
theorem d_B_init_50 : decode prog_1_method_1_code 50 = .ok (.aload_n 0, 1) := by decide +kernel
theorem d_B_init_51 : decode prog_1_method_1_code 51 = .ok (.getfield 12, 3) := by decide +kernel
theorem d_B_init_54 : decode prog_1_method_1_code 54 = .ok (.aload_n 0, 1) := by decide +kernel
theorem d_B_init_55 : decode prog_1_method_1_code 55 = .ok (.getfield 19, 3) := by decide +kernel
theorem d_B_init_58 : decode prog_1_method_1_code 58 = .ok (.aload_n 0, 1) := by decide +kernel
theorem d_B_init_59 : decode prog_1_method_1_code 59 = .ok (.getfield 26, 3) := by decide +kernel
theorem d_B_init_62 : decode prog_1_method_1_code 62 = .ok (.aload_n 0, 1) := by decide +kernel
theorem d_B_init_63 : decode prog_1_method_1_code 63 = .ok (.getfield 32, 3) := by decide +kernel
theorem d_B_init_66 : decode prog_1_method_1_code 66 = .ok (.invokespecial 38, 3) := by decide +kernel
theorem d_B_init_69 : decode prog_1_method_1_code 69 = .ok (.putfield 41, 3) := by decide +kernel
theorem d_B_init_72 : decode prog_1_method_1_code 72 = .ok (.aload_n 0, 1) := by decide +kernel
theorem d_B_init_73 : decode prog_1_method_1_code 73 = .ok (.new 45, 3) := by decide +kernel
theorem d_B_init_76 : decode prog_1_method_1_code 76 = .ok (.dup, 1) := by decide +kernel
theorem d_B_init_77 : decode prog_1_method_1_code 77 = .ok (.invokespecial 47, 3) := by decide +kernel
theorem d_B_init_80 : decode prog_1_method_1_code 80 = .ok (.putfield 48, 3) := by decide +kernel
theorem d_B_init_83 : decode prog_1_method_1_code 83 = .ok (.aload_n 0, 1) := by decide +kernel
theorem d_B_init_84 : decode prog_1_method_1_code 84 = .ok (.new 52, 3) := by decide +kernel
theorem d_B_init_87 : decode prog_1_method_1_code 87 = .ok (.dup, 1) := by decide +kernel
theorem d_B_init_88 : decode prog_1_method_1_code 88 = .ok (.invokespecial 54, 3) := by decide +kernel
theorem d_B_init_91 : decode prog_1_method_1_code 91 = .ok (.putfield 55, 3) := by decide +kernel
theorem d_B_init_94 : decode prog_1_method_1_code 94 = .ok (.aload_n 0, 1) := by decide +kernel
theorem d_B_init_95 : decode prog_1_method_1_code 95 = .ok (.new 59, 3) := by decide +kernel
theorem d_B_init_98 : decode prog_1_method_1_code 98 = .ok (.dup, 1) := by decide +kernel
theorem d_B_init_99 : decode prog_1_method_1_code 99 = .ok (.invokespecial 61, 3) := by decide +kernel
theorem d_B_init_102 : decode prog_1_method_1_code 102 = .ok (.putfield 62, 3) := by decide +kernel
theorem d_B_init_105 : decode prog_1_method_1_code 105 = .ok (.aload_n 0, 1) := by decide +kernel
theorem d_B_init_106 : decode prog_1_method_1_code 106 = .ok (.bipush (6), 2) := by decide +kernel
theorem d_B_init_108 : decode prog_1_method_1_code 108 = .ok (.anewarray 66, 3) := by decide +kernel
theorem d_B_init_111 : decode prog_1_method_1_code 111 = .ok (.putfield 68, 3) := by decide +kernel
theorem d_B_init_114 : decode prog_1_method_1_code 114 = .ok (.aload_n 0, 1) := by decide +kernel
theorem d_B_init_115 : decode prog_1_method_1_code 115 = .ok (.bipush (6), 2) := by decide +kernel
theorem d_B_init_117 : decode prog_1_method_1_code 117 = .ok (.newarray .int, 2) := by decide +kernel
theorem d_B_init_119 : decode prog_1_method_1_code 119 = .ok (.putfield 72, 3) := by decide +kernel
theorem d_B_init_122 : decode prog_1_method_1_code 122 = .ok (.aload_n 0, 1) := by decide +kernel
theorem d_B_init_123 : decode prog_1_method_1_code 123 = .ok (.bipush (6), 2) := by decide +kernel
theorem d_B_init_125 : decode prog_1_method_1_code 125 = .ok (.newarray .int, 2) := by decide +kernel
theorem d_B_init_127 : decode prog_1_method_1_code 127 = .ok (.putfield 76, 3) := by decide +kernel
theorem d_B_init_130 : decode prog_1_method_1_code 130 = .ok (.aload_n 0, 1) := by decide +kernel
theorem d_B_init_131 : decode prog_1_method_1_code 131 = .ok (.iconst (-1), 1) := by decide +kernel
theorem d_B_init_132 : decode prog_1_method_1_code 132 = .ok (.putfield 79, 3) := by decide +kernel
theorem d_B_init_135 : decode prog_1_method_1_code 135 = .ok (.iconst 0, 1) := by decide +kernel
theorem d_B_init_136 : decode prog_1_method_1_code 136 = .ok (.istore_n 1, 1) := by decide +kernel
theorem d_B_init_137 : decode prog_1_method_1_code 137 = .ok (.iload_n 1, 1) := by decide +kernel
theorem d_B_init_138 : decode prog_1_method_1_code 138 = .ok (.iconst 4, 1) := by decide +kernel
theorem d_B_init_139 : decode prog_1_method_1_code 139 = .ok (.if_icmp .ge (22), 3) := by decide +kernel
theorem d_B_init_142 : decode prog_1_method_1_code 142 = .ok (.aload_n 0, 1) := by decide +kernel
theorem d_B_init_143 : decode prog_1_method_1_code 143 = .ok (.getfield 32, 3) := by decide +kernel
theorem d_B_init_146 : decode prog_1_method_1_code 146 = .ok (.iload_n 1, 1) := by decide +kernel
theorem d_B_init_147 : decode prog_1_method_1_code 147 = .ok (.new 30, 3) := by decide +kernel
theorem d_B_init_150 : decode prog_1_method_1_code 150 = .ok (.dup, 1) := by decide +kernel
theorem d_B_init_151 : decode prog_1_method_1_code 151 = .ok (.invokespecial 83, 3) := by decide +kernel
theorem d_B_init_154 : decode prog_1_method_1_code 154 = .ok (.aastore, 1) := by decide +kernel
theorem d_B_init_155 : decode prog_1_method_1_code 155 = .ok (.iinc 1 (1), 3) := by decide +kernel
theorem d_B_init_158 : decode prog_1_method_1_code 158 = .ok (.goto (-21), 3) := by decide +kernel
theorem d_B_init_161 : decode prog_1_method_1_code 161 = .ok (.iconst 0, 1) := by decide +kernel
theorem d_B_init_162 : decode prog_1_method_1_code 162 = .ok (.istore_n 1, 1) := by decide +kernel
theorem d_B_init_163 : decode prog_1_method_1_code 163 = .ok (.iload_n 1, 1) := by decide +kernel
theorem d_B_init_164 : decode prog_1_method_1_code 164 = .ok (.bipush (6), 2) := by decide +kernel
theorem d_B_init_166 : decode prog_1_method_1_code 166 = .ok (.if_icmp .ge (22), 3) := by decide +kernel
theorem d_B_init_169 : decode prog_1_method_1_code 169 = .ok (.aload_n 0, 1) := by decide +kernel
theorem d_B_init_170 : decode prog_1_method_1_code 170 = .ok (.getfield 68, 3) := by decide +kernel
theorem d_B_init_173 : decode prog_1_method_1_code 173 = .ok (.iload_n 1, 1) := by decide +kernel
theorem d_B_init_174 : decode prog_1_method_1_code 174 = .ok (.new 66, 3) := by decide +kernel
theorem d_B_init_177 : decode prog_1_method_1_code 177 = .ok (.dup, 1) := by decide +kernel
theorem d_B_init_178 : decode prog_1_method_1_code 178 = .ok (.invokespecial 84, 3) := by decide +kernel
theorem d_B_init_181 : decode prog_1_method_1_code 181 = .ok (.aastore, 1) := by decide +kernel
theorem d_B_init_182 : decode prog_1_method_1_code 182 = .ok (.iinc 1 (1), 3) := by decide +kernel
theorem d_B_init_185 : decode prog_1_method_1_code 185 = .ok (.goto (-22), 3) := by decide +kernel
theorem d_B_init_188 : decode prog_1_method_1_code 188 = .ok (.return_, 1) := by decide +kernel
theorem d_Bed_init_0 : decode prog_2_method_1_code 0 = .ok (.aload_n 0, 1) := by decide +kernel
theorem d_Bed_init_1 : decode prog_2_method_1_code 1 = .ok (.invokespecial 3, 3) := by decide +kernel
theorem d_Bed_init_4 : decode prog_2_method_1_code 4 = .ok (.aload_n 0, 1) := by decide +kernel
theorem d_Bed_init_5 : decode prog_2_method_1_code 5 = .ok (.bipush (40), 2) := by decide +kernel
theorem d_Bed_init_7 : decode prog_2_method_1_code 7 = .ok (.putfield 9, 3) := by decide +kernel
theorem d_Bed_init_10 : decode prog_2_method_1_code 10 = .ok (.aload_n 0, 1) := by decide +kernel
theorem d_Bed_init_11 : decode prog_2_method_1_code 11 = .ok (.bipush (6), 2) := by decide +kernel
theorem d_Bed_init_13 : decode prog_2_method_1_code 13 = .ok (.newarray .int, 2) := by decide +kernel
theorem d_Bed_init_15 : decode prog_2_method_1_code 15 = .ok (.putfield 15, 3) := by decide +kernel
theorem d_Bed_init_18 : decode prog_2_method_1_code 18 = .ok (.aload_n 0, 1) := by decide +kernel
theorem d_Bed_init_19 : decode prog_2_method_1_code 19 = .ok (.bipush (6), 2) := by decide +kernel
theorem d_Bed_init_21 : decode prog_2_method_1_code 21 = .ok (.newarray .int, 2) := by decide +kernel
theorem d_Bed_init_23 : decode prog_2_method_1_code 23 = .ok (.putfield 19, 3) := by decide +kernel
theorem d_Bed_init_26 : decode prog_2_method_1_code 26 = .ok (.aload_n 0, 1) := by decide +kernel
theorem d_Bed_init_27 : decode prog_2_method_1_code 27 = .ok (.bipush (6), 2) := by decide +kernel
theorem d_Bed_init_29 : decode prog_2_method_1_code 29 = .ok (.newarray .int, 2) := by decide +kernel
theorem d_Bed_init_31 : decode prog_2_method_1_code 31 = .ok (.putfield 22, 3) := by decide +kernel
theorem d_Bed_init_34 : decode prog_2_method_1_code 34 = .ok (.aload_n 0, 1) := by decide +kernel
theorem d_Bed_init_35 : decode prog_2_method_1_code 35 = .ok (.bipush (6), 2) := by decide +kernel
theorem d_Bed_init_37 : decode prog_2_method_1_code 37 = .ok (.newarray .int, 2) := by decide +kernel
theorem d_Bed_init_39 : decode prog_2_method_1_code 39 = .ok (.putfield 25, 3) := by decide +kernel
theorem d_Bed_init_42 : decode prog_2_method_1_code 42 = .ok (.aload_n 0, 1) := by decide +kernel
theorem d_Bed_init_43 : decode prog_2_method_1_code 43 = .ok (.iconst 3, 1) := by decide +kernel
theorem d_Bed_init_44 : decode prog_2_method_1_code 44 = .ok (.newarray .int, 2) := by decide +kernel
theorem d_Bed_init_46 : decode prog_2_method_1_code 46 = .ok (.putfield 28, 3) := by decide +kernel
theorem d_Bed_init_49 : decode prog_2_method_1_code 49 = .ok (.aload_n 0, 1) := by decide +kernel
theorem d_Bed_init_50 : decode prog_2_method_1_code 50 = .ok (.iconst 3, 1) := by decide +kernel
theorem d_Bed_init_51 : decode prog_2_method_1_code 51 = .ok (.newarray .int, 2) := by decide +kernel
theorem d_Bed_init_53 : decode prog_2_method_1_code 53 = .ok (.putfield 31, 3) := by decide +kernel
theorem d_Bed_init_56 : decode prog_2_method_1_code 56 = .ok (.aload_n 0, 1) := by decide +kernel
theorem d_Bed_init_57 : decode prog_2_method_1_code 57 = .ok (.iconst 3, 1) := by decide +kernel
theorem d_Bed_init_58 : decode prog_2_method_1_code 58 = .ok (.newarray .int, 2) := by decide +kernel
theorem d_Bed_init_60 : decode prog_2_method_1_code 60 = .ok (.putfield 34, 3) := by decide +kernel
theorem d_Bed_init_63 : decode prog_2_method_1_code 63 = .ok (.aload_n 0, 1) := by decide +kernel
theorem d_Bed_init_64 : decode prog_2_method_1_code 64 = .ok (.iconst 3, 1) := by decide +kernel
theorem d_Bed_init_65 : decode prog_2_method_1_code 65 = .ok (.newarray .int, 2) := by decide +kernel
theorem d_Bed_init_67 : decode prog_2_method_1_code 67 = .ok (.putfield 37, 3) := by decide +kernel
theorem d_Bed_init_70 : decode prog_2_method_1_code 70 = .ok (.return_, 1) := by decide +kernel
set_option maxHeartbeats 4000000 in
set_option maxRecDepth 100000 in
theorem zk_1 {G : zz_G} {l : Launch} {s : zz_S} (hex : G.2.2.2.2 = true) : zz_M G l 20 y_Bed_init prog_2_method_1_code 1 none [.ref 1] zc_2 (zg_2 s) (none, zc_18, zg_11 s) :=
  zz_M.intro (by decide) (Nat.le_of_ble_eq_true rfl) (show zc_2.length ≤ zc_18.length by decide +kernel) (show zz_sl zc_2 ≤ zz_sl zc_18 by decide +kernel) (fun Z C => by
    change Z 0 [some (.ref 1)] [] zc_2 (zg_2 s)
    refine zz_aload_n (i := 0) (pc := 0) C rfl rfl d_Bed_init_0 ?_
    refine zz_obj (st := []) (pc := 1) C zl_0_3 zob_1 zob_2 (by omega) (Nat.le_of_ble_eq_true rfl) d_Bed_init_1 ?_
    refine zz_aload_n (i := 0) (pc := 4) C rfl rfl d_Bed_init_4 ?_
    refine zz_bipush (pc := 5) C zkb_40 d_Bed_init_5 ?_
    refine zz_putI' (σ := zg_2 s) (pc := 7) C zl_0_9 zpf_0_0 (fs := [none, none, none, some none, some none, some none, some none, some none, some none, some none, some none]) (by decide +kernel) rfl d_Bed_init_7 ?_
    change Z 10 [some (.ref 1)] [] zc_2 (zg_3 s)
    refine zz_aload_n (i := 0) (pc := 10) C rfl rfl d_Bed_init_10 ?_
    refine zz_bipush (pc := 11) C zkb_6 d_Bed_init_11 ?_
    refine zz_newaK (t := 0) (nn := 2) (n := 6) (sh' := zc_3) (σ' := zg_4 s) (pc := 13) C hex (by decide +kernel) rfl rfl rfl (by decide) (by decide +kernel) (by decide +kernel) (by decide) zac_0 (by decide +kernel) (show zc_2.length + 1 ≤ zc_18.length by decide +kernel) (show zz_sl zc_2 + 6 ≤ zz_sl zc_18 by decide +kernel) d_Bed_init_13 ?_
    refine zz_putFK (sh' := zc_4) (fs := [none, none, none, some none, some none, some none, some none, some none, some none, some none, some none]) (pc := 15) C zl_0_15 (by decide +kernel) rfl (by decide +kernel) (by decide +kernel) rfl (by decide +kernel) (zft_ref 0 3 (by decide +kernel)) (zft_ref2 0 3 (by decide +kernel)) rfl d_Bed_init_15 ?_
    refine zz_aload_n (i := 0) (pc := 18) C rfl rfl d_Bed_init_18 ?_
    refine zz_bipush (pc := 19) C zkb_6 d_Bed_init_19 ?_
    refine zz_newaK (t := 0) (nn := 3) (n := 6) (sh' := zc_5) (σ' := zg_5 s) (pc := 21) C hex (by decide +kernel) rfl rfl rfl (by decide) (by decide +kernel) (by decide +kernel) (by decide) zac_0 (by decide +kernel) (show zc_4.length + 1 ≤ zc_18.length by decide +kernel) (show zz_sl zc_4 + 6 ≤ zz_sl zc_18 by decide +kernel) d_Bed_init_21 ?_
    refine zz_putFK (sh' := zc_6) (fs := [none, none, none, some (some 2), some none, some none, some none, some none, some none, some none, some none]) (pc := 23) C zl_0_19 (by decide +kernel) rfl (by decide +kernel) (by decide +kernel) rfl (by decide +kernel) (zft_ref 0 4 (by decide +kernel)) (zft_ref2 0 4 (by decide +kernel)) rfl d_Bed_init_23 ?_
    refine zz_aload_n (i := 0) (pc := 26) C rfl rfl d_Bed_init_26 ?_
    refine zz_bipush (pc := 27) C zkb_6 d_Bed_init_27 ?_
    refine zz_newaK (t := 0) (nn := 4) (n := 6) (sh' := zc_7) (σ' := zg_6 s) (pc := 29) C hex (by decide +kernel) rfl rfl rfl (by decide) (by decide +kernel) (by decide +kernel) (by decide) zac_0 (by decide +kernel) (show zc_6.length + 1 ≤ zc_18.length by decide +kernel) (show zz_sl zc_6 + 6 ≤ zz_sl zc_18 by decide +kernel) d_Bed_init_29 ?_
    refine zz_putFK (sh' := zc_8) (fs := [none, none, none, some (some 2), some (some 3), some none, some none, some none, some none, some none, some none]) (pc := 31) C zl_0_22 (by decide +kernel) rfl (by decide +kernel) (by decide +kernel) rfl (by decide +kernel) (zft_ref 0 5 (by decide +kernel)) (zft_ref2 0 5 (by decide +kernel)) rfl d_Bed_init_31 ?_
    refine zz_aload_n (i := 0) (pc := 34) C rfl rfl d_Bed_init_34 ?_
    refine zz_bipush (pc := 35) C zkb_6 d_Bed_init_35 ?_
    refine zz_newaK (t := 0) (nn := 5) (n := 6) (sh' := zc_9) (σ' := zg_7 s) (pc := 37) C hex (by decide +kernel) rfl rfl rfl (by decide) (by decide +kernel) (by decide +kernel) (by decide) zac_0 (by decide +kernel) (show zc_8.length + 1 ≤ zc_18.length by decide +kernel) (show zz_sl zc_8 + 6 ≤ zz_sl zc_18 by decide +kernel) d_Bed_init_37 ?_
    refine zz_putFK (sh' := zc_10) (fs := [none, none, none, some (some 2), some (some 3), some (some 4), some none, some none, some none, some none, some none]) (pc := 39) C zl_0_25 (by decide +kernel) rfl (by decide +kernel) (by decide +kernel) rfl (by decide +kernel) (zft_ref 0 6 (by decide +kernel)) (zft_ref2 0 6 (by decide +kernel)) rfl d_Bed_init_39 ?_
    refine zz_aload_n (i := 0) (pc := 42) C rfl rfl d_Bed_init_42 ?_
    refine zz_iconst (pc := 43) C zki_3 d_Bed_init_43 ?_
    refine zz_newaK (t := 0) (nn := 6) (n := 3) (sh' := zc_11) (σ' := zg_8 s) (pc := 44) C hex (by decide +kernel) rfl rfl rfl (by decide) (by decide +kernel) (by decide +kernel) (by decide) zac_0 (by decide +kernel) (show zc_10.length + 1 ≤ zc_18.length by decide +kernel) (show zz_sl zc_10 + 3 ≤ zz_sl zc_18 by decide +kernel) d_Bed_init_44 ?_
    refine zz_putFK (sh' := zc_12) (fs := [none, none, none, some (some 2), some (some 3), some (some 4), some (some 5), some none, some none, some none, some none]) (pc := 46) C zl_0_28 (by decide +kernel) rfl (by decide +kernel) (by decide +kernel) rfl (by decide +kernel) (zft_ref 0 7 (by decide +kernel)) (zft_ref2 0 7 (by decide +kernel)) rfl d_Bed_init_46 ?_
    refine zz_aload_n (i := 0) (pc := 49) C rfl rfl d_Bed_init_49 ?_
    refine zz_iconst (pc := 50) C zki_3 d_Bed_init_50 ?_
    refine zz_newaK (t := 0) (nn := 7) (n := 3) (sh' := zc_13) (σ' := zg_9 s) (pc := 51) C hex (by decide +kernel) rfl rfl rfl (by decide) (by decide +kernel) (by decide +kernel) (by decide) zac_0 (by decide +kernel) (show zc_12.length + 1 ≤ zc_18.length by decide +kernel) (show zz_sl zc_12 + 3 ≤ zz_sl zc_18 by decide +kernel) d_Bed_init_51 ?_
    refine zz_putFK (sh' := zc_14) (fs := [none, none, none, some (some 2), some (some 3), some (some 4), some (some 5), some (some 6), some none, some none, some none]) (pc := 53) C zl_0_31 (by decide +kernel) rfl (by decide +kernel) (by decide +kernel) rfl (by decide +kernel) (zft_ref 0 8 (by decide +kernel)) (zft_ref2 0 8 (by decide +kernel)) rfl d_Bed_init_53 ?_
    refine zz_aload_n (i := 0) (pc := 56) C rfl rfl d_Bed_init_56 ?_
    refine zz_iconst (pc := 57) C zki_3 d_Bed_init_57 ?_
    refine zz_newaK (t := 0) (nn := 8) (n := 3) (sh' := zc_15) (σ' := zg_10 s) (pc := 58) C hex (by decide +kernel) rfl rfl rfl (by decide) (by decide +kernel) (by decide +kernel) (by decide) zac_0 (by decide +kernel) (show zc_14.length + 1 ≤ zc_18.length by decide +kernel) (show zz_sl zc_14 + 3 ≤ zz_sl zc_18 by decide +kernel) d_Bed_init_58 ?_
    refine zz_putFK (sh' := zc_16) (fs := [none, none, none, some (some 2), some (some 3), some (some 4), some (some 5), some (some 6), some (some 7), some none, some none]) (pc := 60) C zl_0_34 (by decide +kernel) rfl (by decide +kernel) (by decide +kernel) rfl (by decide +kernel) (zft_ref 0 9 (by decide +kernel)) (zft_ref2 0 9 (by decide +kernel)) rfl d_Bed_init_60 ?_
    refine zz_aload_n (i := 0) (pc := 63) C rfl rfl d_Bed_init_63 ?_
    refine zz_iconst (pc := 64) C zki_3 d_Bed_init_64 ?_
    refine zz_newaK (t := 0) (nn := 9) (n := 3) (sh' := zc_17) (σ' := zg_11 s) (pc := 65) C hex (by decide +kernel) rfl rfl rfl (by decide) (by decide +kernel) (by decide +kernel) (by decide) zac_0 (by decide +kernel) (show zc_16.length + 1 ≤ zc_18.length by decide +kernel) (show zz_sl zc_16 + 3 ≤ zz_sl zc_18 by decide +kernel) d_Bed_init_65 ?_
    refine zz_putFK (sh' := zc_18) (fs := [none, none, none, some (some 2), some (some 3), some (some 4), some (some 5), some (some 6), some (some 7), some (some 8), some none]) (pc := 67) C zl_0_37 (by decide +kernel) rfl (by decide +kernel) (by decide +kernel) rfl (by decide +kernel) (zft_ref 0 10 (by decide +kernel)) (zft_ref2 0 10 (by decide +kernel)) rfl d_Bed_init_67 ?_
    exact zz_ret (pc := 70) C (v := none) d_Bed_init_70 (Or.inr (Or.inr (Or.inr ⟨rfl, rfl, rfl⟩))) rfl)
theorem d_Turns_init_0 : decode prog_12_method_1_code 0 = .ok (.aload_n 0, 1) := by decide +kernel
theorem d_Turns_init_1 : decode prog_12_method_1_code 1 = .ok (.invokespecial 3, 3) := by decide +kernel
theorem d_Turns_init_4 : decode prog_12_method_1_code 4 = .ok (.aload_n 0, 1) := by decide +kernel
theorem d_Turns_init_5 : decode prog_12_method_1_code 5 = .ok (.bipush (60), 2) := by decide +kernel
theorem d_Turns_init_7 : decode prog_12_method_1_code 7 = .ok (.newarray .int, 2) := by decide +kernel
theorem d_Turns_init_9 : decode prog_12_method_1_code 9 = .ok (.putfield 9, 3) := by decide +kernel
theorem d_Turns_init_12 : decode prog_12_method_1_code 12 = .ok (.aload_n 0, 1) := by decide +kernel
theorem d_Turns_init_13 : decode prog_12_method_1_code 13 = .ok (.bipush (60), 2) := by decide +kernel
theorem d_Turns_init_15 : decode prog_12_method_1_code 15 = .ok (.newarray .int, 2) := by decide +kernel
theorem d_Turns_init_17 : decode prog_12_method_1_code 17 = .ok (.putfield 15, 3) := by decide +kernel
theorem d_Turns_init_20 : decode prog_12_method_1_code 20 = .ok (.aload_n 0, 1) := by decide +kernel
theorem d_Turns_init_21 : decode prog_12_method_1_code 21 = .ok (.bipush (60), 2) := by decide +kernel
theorem d_Turns_init_23 : decode prog_12_method_1_code 23 = .ok (.newarray .int, 2) := by decide +kernel
theorem d_Turns_init_25 : decode prog_12_method_1_code 25 = .ok (.putfield 18, 3) := by decide +kernel
theorem d_Turns_init_28 : decode prog_12_method_1_code 28 = .ok (.aload_n 0, 1) := by decide +kernel
theorem d_Turns_init_29 : decode prog_12_method_1_code 29 = .ok (.bipush (60), 2) := by decide +kernel
theorem d_Turns_init_31 : decode prog_12_method_1_code 31 = .ok (.newarray .int, 2) := by decide +kernel
theorem d_Turns_init_33 : decode prog_12_method_1_code 33 = .ok (.putfield 21, 3) := by decide +kernel
theorem d_Turns_init_36 : decode prog_12_method_1_code 36 = .ok (.return_, 1) := by decide +kernel
set_option maxHeartbeats 4000000 in
set_option maxRecDepth 100000 in
theorem zk_2 {G : zz_G} {l : Launch} {s : zz_S} (hex : G.2.2.2.2 = true) : zz_M G l 20 y_Turns_init prog_12_method_1_code 1 none [.ref 10] zc_20 (zg_12 s) (none, zc_28, zg_16 s) :=
  zz_M.intro (by decide) (Nat.le_of_ble_eq_true rfl) (show zc_20.length ≤ zc_28.length by decide +kernel) (show zz_sl zc_20 ≤ zz_sl zc_28 by decide +kernel) (fun Z C => by
    change Z 0 [some (.ref 10)] [] zc_20 (zg_12 s)
    refine zz_aload_n (i := 0) (pc := 0) C rfl rfl d_Turns_init_0 ?_
    refine zz_obj (st := []) (pc := 1) C zl_10_3 zob_1 zob_2 (by omega) (Nat.le_of_ble_eq_true rfl) d_Turns_init_1 ?_
    refine zz_aload_n (i := 0) (pc := 4) C rfl rfl d_Turns_init_4 ?_
    refine zz_bipush (pc := 5) C zkb_60 d_Turns_init_5 ?_
    refine zz_newaK (t := 0) (nn := 11) (n := 60) (sh' := zc_21) (σ' := zg_13 s) (pc := 7) C hex (by decide +kernel) rfl rfl rfl (by decide) (by decide +kernel) (by decide +kernel) (by decide) zac_0 (by decide +kernel) (show zc_20.length + 1 ≤ zc_28.length by decide +kernel) (show zz_sl zc_20 + 60 ≤ zz_sl zc_28 by decide +kernel) d_Turns_init_7 ?_
    refine zz_putFK (sh' := zc_22) (fs := [none, some none, some none, some none, some none]) (pc := 9) C zl_10_9 (by decide +kernel) rfl (by decide +kernel) (by decide +kernel) rfl (by decide +kernel) (zft_ref 10 1 (by decide +kernel)) (zft_ref2 10 1 (by decide +kernel)) rfl d_Turns_init_9 ?_
    refine zz_aload_n (i := 0) (pc := 12) C rfl rfl d_Turns_init_12 ?_
    refine zz_bipush (pc := 13) C zkb_60 d_Turns_init_13 ?_
    refine zz_newaK (t := 0) (nn := 12) (n := 60) (sh' := zc_23) (σ' := zg_14 s) (pc := 15) C hex (by decide +kernel) rfl rfl rfl (by decide) (by decide +kernel) (by decide +kernel) (by decide) zac_0 (by decide +kernel) (show zc_22.length + 1 ≤ zc_28.length by decide +kernel) (show zz_sl zc_22 + 60 ≤ zz_sl zc_28 by decide +kernel) d_Turns_init_15 ?_
    refine zz_putFK (sh' := zc_24) (fs := [none, some (some 11), some none, some none, some none]) (pc := 17) C zl_10_15 (by decide +kernel) rfl (by decide +kernel) (by decide +kernel) rfl (by decide +kernel) (zft_ref 10 2 (by decide +kernel)) (zft_ref2 10 2 (by decide +kernel)) rfl d_Turns_init_17 ?_
    refine zz_aload_n (i := 0) (pc := 20) C rfl rfl d_Turns_init_20 ?_
    refine zz_bipush (pc := 21) C zkb_60 d_Turns_init_21 ?_
    refine zz_newaK (t := 0) (nn := 13) (n := 60) (sh' := zc_25) (σ' := zg_15 s) (pc := 23) C hex (by decide +kernel) rfl rfl rfl (by decide) (by decide +kernel) (by decide +kernel) (by decide) zac_0 (by decide +kernel) (show zc_24.length + 1 ≤ zc_28.length by decide +kernel) (show zz_sl zc_24 + 60 ≤ zz_sl zc_28 by decide +kernel) d_Turns_init_23 ?_
    refine zz_putFK (sh' := zc_26) (fs := [none, some (some 11), some (some 12), some none, some none]) (pc := 25) C zl_10_18 (by decide +kernel) rfl (by decide +kernel) (by decide +kernel) rfl (by decide +kernel) (zft_ref 10 3 (by decide +kernel)) (zft_ref2 10 3 (by decide +kernel)) rfl d_Turns_init_25 ?_
    refine zz_aload_n (i := 0) (pc := 28) C rfl rfl d_Turns_init_28 ?_
    refine zz_bipush (pc := 29) C zkb_60 d_Turns_init_29 ?_
    refine zz_newaK (t := 0) (nn := 14) (n := 60) (sh' := zc_27) (σ' := zg_16 s) (pc := 31) C hex (by decide +kernel) rfl rfl rfl (by decide) (by decide +kernel) (by decide +kernel) (by decide) zac_0 (by decide +kernel) (show zc_26.length + 1 ≤ zc_28.length by decide +kernel) (show zz_sl zc_26 + 60 ≤ zz_sl zc_28 by decide +kernel) d_Turns_init_31 ?_
    refine zz_putFK (sh' := zc_28) (fs := [none, some (some 11), some (some 12), some (some 13), some none]) (pc := 33) C zl_10_21 (by decide +kernel) rfl (by decide +kernel) (by decide +kernel) rfl (by decide +kernel) (zft_ref 10 4 (by decide +kernel)) (zft_ref2 10 4 (by decide +kernel)) rfl d_Turns_init_33 ?_
    exact zz_ret (pc := 36) C (v := none) d_Turns_init_36 (Or.inr (Or.inr (Or.inr ⟨rfl, rfl, rfl⟩))) rfl)
theorem d_Room_init_0 : decode prog_7_method_1_code 0 = .ok (.aload_n 0, 1) := by decide +kernel
theorem d_Room_init_1 : decode prog_7_method_1_code 1 = .ok (.invokespecial 3, 3) := by decide +kernel
theorem d_Room_init_4 : decode prog_7_method_1_code 4 = .ok (.aload_n 0, 1) := by decide +kernel
theorem d_Room_init_5 : decode prog_7_method_1_code 5 = .ok (.sipush (480), 3) := by decide +kernel
theorem d_Room_init_8 : decode prog_7_method_1_code 8 = .ok (.newarray .int, 2) := by decide +kernel
theorem d_Room_init_10 : decode prog_7_method_1_code 10 = .ok (.putfield 9, 3) := by decide +kernel
theorem d_Room_init_13 : decode prog_7_method_1_code 13 = .ok (.aload_n 0, 1) := by decide +kernel
theorem d_Room_init_14 : decode prog_7_method_1_code 14 = .ok (.sipush (480), 3) := by decide +kernel
theorem d_Room_init_17 : decode prog_7_method_1_code 17 = .ok (.newarray .int, 2) := by decide +kernel
theorem d_Room_init_19 : decode prog_7_method_1_code 19 = .ok (.putfield 15, 3) := by decide +kernel
theorem d_Room_init_22 : decode prog_7_method_1_code 22 = .ok (.aload_n 0, 1) := by decide +kernel
theorem d_Room_init_23 : decode prog_7_method_1_code 23 = .ok (.ldc 20, 2) := by decide +kernel
theorem d_Room_init_25 : decode prog_7_method_1_code 25 = .ok (.invokevirtual 22, 3) := by decide +kernel
theorem d_Room_init_28 : decode prog_7_method_1_code 28 = .ok (.newarray .int, 2) := by decide +kernel
theorem d_Room_init_30 : decode prog_7_method_1_code 30 = .ok (.putfield 28, 3) := by decide +kernel
theorem d_Room_init_33 : decode prog_7_method_1_code 33 = .ok (.aload_n 0, 1) := by decide +kernel
theorem d_Room_init_34 : decode prog_7_method_1_code 34 = .ok (.getfield 9, 3) := by decide +kernel
theorem d_Room_init_37 : decode prog_7_method_1_code 37 = .ok (.bipush (10), 2) := by decide +kernel
theorem d_Room_init_39 : decode prog_7_method_1_code 39 = .ok (.invokestatic 31, 3) := by decide +kernel
theorem d_Room_init_42 : decode prog_7_method_1_code 42 = .ok (.aload_n 0, 1) := by decide +kernel
theorem d_Room_init_43 : decode prog_7_method_1_code 43 = .ok (.getfield 15, 3) := by decide +kernel
theorem d_Room_init_46 : decode prog_7_method_1_code 46 = .ok (.sipush (480), 3) := by decide +kernel
theorem d_Room_init_49 : decode prog_7_method_1_code 49 = .ok (.invokestatic 31, 3) := by decide +kernel
theorem d_Room_init_52 : decode prog_7_method_1_code 52 = .ok (.return_, 1) := by decide +kernel
set_option maxHeartbeats 4000000 in
set_option maxRecDepth 100000 in
theorem zk_3 {G : zz_G} {l : Launch} {s : zz_S} (hex : G.2.2.2.2 = true) : zz_M G l 30 y_Room_init prog_7_method_1_code 1 none [.ref 15] zc_30 (zg_17 s) (none, zc_36, zg_22 s) :=
  zz_M.intro (by decide) (Nat.le_of_ble_eq_true rfl) (show zc_30.length ≤ zc_36.length by decide +kernel) (show zz_sl zc_30 ≤ zz_sl zc_36 by decide +kernel) (fun Z C => by
    change Z 0 [some (.ref 15)] [] zc_30 (zg_17 s)
    refine zz_aload_n (i := 0) (pc := 0) C rfl rfl d_Room_init_0 ?_
    refine zz_obj (st := []) (pc := 1) C zl_5_3 zob_1 zob_2 (by omega) (Nat.le_of_ble_eq_true rfl) d_Room_init_1 ?_
    refine zz_aload_n (i := 0) (pc := 4) C rfl rfl d_Room_init_4 ?_
    refine zz_sipush (pc := 5) C zks_480 d_Room_init_5 ?_
    refine zz_newaK (t := 0) (nn := 16) (n := 480) (sh' := zc_31) (σ' := zg_18 s) (pc := 8) C hex (by decide +kernel) rfl rfl rfl (by decide) (by decide +kernel) (by decide +kernel) (by decide) zac_0 (by decide +kernel) (show zc_30.length + 1 ≤ zc_36.length by decide +kernel) (show zz_sl zc_30 + 480 ≤ zz_sl zc_36 by decide +kernel) d_Room_init_8 ?_
    refine zz_putFK (sh' := zc_32) (fs := [some none, some none, some none]) (pc := 10) C zl_5_9 (by decide +kernel) rfl (by decide +kernel) (by decide +kernel) rfl (by decide +kernel) (zft_ref 5 0 (by decide +kernel)) (zft_ref2 5 0 (by decide +kernel)) rfl d_Room_init_10 ?_
    refine zz_aload_n (i := 0) (pc := 13) C rfl rfl d_Room_init_13 ?_
    refine zz_sipush (pc := 14) C zks_480 d_Room_init_14 ?_
    refine zz_newaK (t := 0) (nn := 17) (n := 480) (sh' := zc_33) (σ' := zg_19 s) (pc := 17) C hex (by decide +kernel) rfl rfl rfl (by decide) (by decide +kernel) (by decide +kernel) (by decide) zac_0 (by decide +kernel) (show zc_32.length + 1 ≤ zc_36.length by decide +kernel) (show zz_sl zc_32 + 480 ≤ zz_sl zc_36 by decide +kernel) d_Room_init_17 ?_
    refine zz_putFK (sh' := zc_34) (fs := [some (some 16), some none, some none]) (pc := 19) C zl_5_15 (by decide +kernel) rfl (by decide +kernel) (by decide +kernel) rfl (by decide +kernel) (zft_ref 5 1 (by decide +kernel)) (zft_ref2 5 1 (by decide +kernel)) rfl d_Room_init_19 ?_
    refine zz_aload_n (i := 0) (pc := 22) C rfl rfl d_Room_init_22 ?_
    refine zz_ldcS (i := 0) (tx := "tuwksbmh") (pc := 23) C (by decide) d_Room_init_23 ?_
    refine zz_callX (st := [.ref 15]) (as := []) (i := 0) (fc := (some (.int (f_Str_length 0)), zc_34, zg_19 s)) (pc := 25) C (by decide) rfl zl_5_22 zcv_Str_length.2.1 zcv_Str_length.2.2.1 (zm_Str_length (by decide) rfl) zcv_Str_length.1 rfl (by omega) (show zc_34.length ≤ zc_36.length by decide +kernel) (show zz_sl zc_34 ≤ zz_sl zc_36 by decide +kernel) (Nat.le_of_ble_eq_true rfl) d_Room_init_25 ?_ rfl
    change Z 28 [some (.ref 15)] [.int (f_Str_length 0), .ref 15] zc_34 (zg_19 s)
    refine zz_newaK (t := 0) (nn := 18) (n := 8) (sh' := zc_35) (σ' := zg_20 s) (pc := 28) C hex (by decide +kernel) rfl rfl rfl (by decide) (by decide +kernel) (by decide +kernel) (by decide) zac_0 (by decide +kernel) (show zc_34.length + 1 ≤ zc_36.length by decide +kernel) (show zz_sl zc_34 + 8 ≤ zz_sl zc_36 by decide +kernel) d_Room_init_28 ?_
    refine zz_putFK (sh' := zc_36) (fs := [some (some 16), some (some 17), some none]) (pc := 30) C zl_5_28 (by decide +kernel) rfl (by decide +kernel) (by decide +kernel) rfl (by decide +kernel) (zft_ref 5 2 (by decide +kernel)) (zft_ref2 5 2 (by decide +kernel)) rfl d_Room_init_30 ?_
    refine zz_aload_n (i := 0) (pc := 33) C rfl rfl d_Room_init_33 ?_
    refine zz_getR (pc := 34) C zl_5_9 (fs := [some (some 16), some (some 17), some (some 18)]) (by decide +kernel) rfl d_Room_init_34 ?_
    refine zz_bipush (pc := 37) C zkb_10 d_Room_init_37 ?_
    refine zz_callS (st := []) (as := [.ref 16, .int (10 : Int32)]) (fc := (none, zc_36, zg_21 s)) (pc := 39) C zl_5_31 zcs_Arr_fillI.2 (zm_Arr_fillI (n := 480) (by decide +kernel) (by decide)) zcs_Arr_fillI.1 rfl (by omega) (show zc_36.length ≤ zc_36.length by decide +kernel) (show zz_sl zc_36 ≤ zz_sl zc_36 by decide +kernel) (Nat.le_of_ble_eq_true rfl) d_Room_init_39 ?_ rfl
    change Z 42 [some (.ref 15)] [] zc_36 (zg_21 s)
    refine zz_aload_n (i := 0) (pc := 42) C rfl rfl d_Room_init_42 ?_
    refine zz_getR (pc := 43) C zl_5_15 (fs := [some (some 16), some (some 17), some (some 18)]) (by decide +kernel) rfl d_Room_init_43 ?_
    refine zz_sipush (pc := 46) C zks_480 d_Room_init_46 ?_
    refine zz_callS (st := []) (as := [.ref 17, .int (480 : Int32)]) (fc := (none, zc_36, zg_22 s)) (pc := 49) C zl_5_31 zcs_Arr_fillI.2 (zm_Arr_fillI (n := 480) (by decide +kernel) (by decide)) zcs_Arr_fillI.1 rfl (by omega) (show zc_36.length ≤ zc_36.length by decide +kernel) (show zz_sl zc_36 ≤ zz_sl zc_36 by decide +kernel) (Nat.le_of_ble_eq_true rfl) d_Room_init_49 ?_ rfl
    change Z 52 [some (.ref 15)] [] zc_36 (zg_22 s)
    exact zz_ret (pc := 52) C (v := none) d_Room_init_52 (Or.inr (Or.inr (Or.inr ⟨rfl, rfl, rfl⟩))) rfl)
theorem d_Night_init_0 : decode prog_6_method_1_code 0 = .ok (.aload_n 0, 1) := by decide +kernel
theorem d_Night_init_1 : decode prog_6_method_1_code 1 = .ok (.invokespecial 3, 3) := by decide +kernel
theorem d_Night_init_4 : decode prog_6_method_1_code 4 = .ok (.aload_n 0, 1) := by decide +kernel
theorem d_Night_init_5 : decode prog_6_method_1_code 5 = .ok (.new 9, 3) := by decide +kernel
theorem d_Night_init_8 : decode prog_6_method_1_code 8 = .ok (.dup, 1) := by decide +kernel
theorem d_Night_init_9 : decode prog_6_method_1_code 9 = .ok (.invokespecial 11, 3) := by decide +kernel
theorem d_Night_init_12 : decode prog_6_method_1_code 12 = .ok (.putfield 12, 3) := by decide +kernel
theorem d_Night_init_15 : decode prog_6_method_1_code 15 = .ok (.aload_n 0, 1) := by decide +kernel
theorem d_Night_init_16 : decode prog_6_method_1_code 16 = .ok (.bipush (18), 2) := by decide +kernel
theorem d_Night_init_18 : decode prog_6_method_1_code 18 = .ok (.newarray .int, 2) := by decide +kernel
theorem d_Night_init_20 : decode prog_6_method_1_code 20 = .ok (.putfield 18, 3) := by decide +kernel
theorem d_Night_init_23 : decode prog_6_method_1_code 23 = .ok (.aload_n 0, 1) := by decide +kernel
theorem d_Night_init_24 : decode prog_6_method_1_code 24 = .ok (.bipush (6), 2) := by decide +kernel
theorem d_Night_init_26 : decode prog_6_method_1_code 26 = .ok (.newarray .int, 2) := by decide +kernel
theorem d_Night_init_28 : decode prog_6_method_1_code 28 = .ok (.putfield 22, 3) := by decide +kernel
theorem d_Night_init_31 : decode prog_6_method_1_code 31 = .ok (.aload_n 0, 1) := by decide +kernel
theorem d_Night_init_32 : decode prog_6_method_1_code 32 = .ok (.iconst 3, 1) := by decide +kernel
theorem d_Night_init_33 : decode prog_6_method_1_code 33 = .ok (.newarray .int, 2) := by decide +kernel
theorem d_Night_init_35 : decode prog_6_method_1_code 35 = .ok (.putfield 25, 3) := by decide +kernel
theorem d_Night_init_38 : decode prog_6_method_1_code 38 = .ok (.aload_n 0, 1) := by decide +kernel
theorem d_Night_init_39 : decode prog_6_method_1_code 39 = .ok (.ldc 30, 2) := by decide +kernel
theorem d_Night_init_41 : decode prog_6_method_1_code 41 = .ok (.invokevirtual 32, 3) := by decide +kernel
theorem d_Night_init_44 : decode prog_6_method_1_code 44 = .ok (.newarray .int, 2) := by decide +kernel
theorem d_Night_init_46 : decode prog_6_method_1_code 46 = .ok (.putfield 38, 3) := by decide +kernel
theorem d_Night_init_49 : decode prog_6_method_1_code 49 = .ok (.aload_n 0, 1) := by decide +kernel
theorem d_Night_init_50 : decode prog_6_method_1_code 50 = .ok (.aload_n 1, 1) := by decide +kernel
theorem d_Night_init_51 : decode prog_6_method_1_code 51 = .ok (.putfield 41, 3) := by decide +kernel
theorem d_Night_init_54 : decode prog_6_method_1_code 54 = .ok (.aload_n 0, 1) := by decide +kernel
theorem d_Night_init_55 : decode prog_6_method_1_code 55 = .ok (.aload_n 2, 1) := by decide +kernel
theorem d_Night_init_56 : decode prog_6_method_1_code 56 = .ok (.putfield 45, 3) := by decide +kernel
theorem d_Night_init_59 : decode prog_6_method_1_code 59 = .ok (.aload_n 0, 1) := by decide +kernel
theorem d_Night_init_60 : decode prog_6_method_1_code 60 = .ok (.aload_n 3, 1) := by decide +kernel
theorem d_Night_init_61 : decode prog_6_method_1_code 61 = .ok (.putfield 49, 3) := by decide +kernel
theorem d_Night_init_64 : decode prog_6_method_1_code 64 = .ok (.aload_n 0, 1) := by decide +kernel
theorem d_Night_init_65 : decode prog_6_method_1_code 65 = .ok (.aload 4, 2) := by decide +kernel
theorem d_Night_init_67 : decode prog_6_method_1_code 67 = .ok (.putfield 53, 3) := by decide +kernel
theorem d_Night_init_70 : decode prog_6_method_1_code 70 = .ok (.aload_n 0, 1) := by decide +kernel
theorem d_Night_init_71 : decode prog_6_method_1_code 71 = .ok (.new 57, 3) := by decide +kernel
theorem d_Night_init_74 : decode prog_6_method_1_code 74 = .ok (.dup, 1) := by decide +kernel
theorem d_Night_init_75 : decode prog_6_method_1_code 75 = .ok (.aload_n 1, 1) := by decide +kernel
theorem d_Night_init_76 : decode prog_6_method_1_code 76 = .ok (.invokespecial 59, 3) := by decide +kernel
theorem d_Night_init_79 : decode prog_6_method_1_code 79 = .ok (.putfield 62, 3) := by decide +kernel
theorem d_Night_init_82 : decode prog_6_method_1_code 82 = .ok (.return_, 1) := by decide +kernel
theorem d_Tally_init_0 : decode prog_9_method_1_code 0 = .ok (.aload_n 0, 1) := by decide +kernel
theorem d_Tally_init_1 : decode prog_9_method_1_code 1 = .ok (.invokespecial 3, 3) := by decide +kernel
theorem d_Tally_init_4 : decode prog_9_method_1_code 4 = .ok (.aload_n 0, 1) := by decide +kernel
theorem d_Tally_init_5 : decode prog_9_method_1_code 5 = .ok (.bipush (6), 2) := by decide +kernel
theorem d_Tally_init_7 : decode prog_9_method_1_code 7 = .ok (.newarray .int, 2) := by decide +kernel
theorem d_Tally_init_9 : decode prog_9_method_1_code 9 = .ok (.putfield 9, 3) := by decide +kernel
theorem d_Tally_init_12 : decode prog_9_method_1_code 12 = .ok (.aload_n 0, 1) := by decide +kernel
theorem d_Tally_init_13 : decode prog_9_method_1_code 13 = .ok (.bipush (6), 2) := by decide +kernel
theorem d_Tally_init_15 : decode prog_9_method_1_code 15 = .ok (.newarray .int, 2) := by decide +kernel
theorem d_Tally_init_17 : decode prog_9_method_1_code 17 = .ok (.putfield 15, 3) := by decide +kernel
theorem d_Tally_init_20 : decode prog_9_method_1_code 20 = .ok (.aload_n 0, 1) := by decide +kernel
theorem d_Tally_init_21 : decode prog_9_method_1_code 21 = .ok (.bipush (6), 2) := by decide +kernel
theorem d_Tally_init_23 : decode prog_9_method_1_code 23 = .ok (.newarray .int, 2) := by decide +kernel
theorem d_Tally_init_25 : decode prog_9_method_1_code 25 = .ok (.putfield 18, 3) := by decide +kernel
theorem d_Tally_init_28 : decode prog_9_method_1_code 28 = .ok (.aload_n 0, 1) := by decide +kernel
theorem d_Tally_init_29 : decode prog_9_method_1_code 29 = .ok (.bipush (6), 2) := by decide +kernel
theorem d_Tally_init_31 : decode prog_9_method_1_code 31 = .ok (.newarray .int, 2) := by decide +kernel
theorem d_Tally_init_33 : decode prog_9_method_1_code 33 = .ok (.putfield 21, 3) := by decide +kernel
theorem d_Tally_init_36 : decode prog_9_method_1_code 36 = .ok (.aload_n 0, 1) := by decide +kernel
theorem d_Tally_init_37 : decode prog_9_method_1_code 37 = .ok (.bipush (6), 2) := by decide +kernel
theorem d_Tally_init_39 : decode prog_9_method_1_code 39 = .ok (.newarray .int, 2) := by decide +kernel
theorem d_Tally_init_41 : decode prog_9_method_1_code 41 = .ok (.putfield 24, 3) := by decide +kernel
theorem d_Tally_init_44 : decode prog_9_method_1_code 44 = .ok (.aload_n 0, 1) := by decide +kernel
theorem d_Tally_init_45 : decode prog_9_method_1_code 45 = .ok (.bipush (6), 2) := by decide +kernel
theorem d_Tally_init_47 : decode prog_9_method_1_code 47 = .ok (.newarray .int, 2) := by decide +kernel
theorem d_Tally_init_49 : decode prog_9_method_1_code 49 = .ok (.putfield 27, 3) := by decide +kernel
theorem d_Tally_init_52 : decode prog_9_method_1_code 52 = .ok (.return_, 1) := by decide +kernel
set_option maxHeartbeats 4000000 in
set_option maxRecDepth 100000 in
theorem zk_4 {G : zz_G} {l : Launch} {s : zz_S} (hex : G.2.2.2.2 = true) : zz_M G l 20 y_Tally_init prog_9_method_1_code 1 none [.ref 21] zc_41 (zg_25 s) (none, zc_53, zg_31 s) :=
  zz_M.intro (by decide) (Nat.le_of_ble_eq_true rfl) (show zc_41.length ≤ zc_53.length by decide +kernel) (show zz_sl zc_41 ≤ zz_sl zc_53 by decide +kernel) (fun Z C => by
    change Z 0 [some (.ref 21)] [] zc_41 (zg_25 s)
    refine zz_aload_n (i := 0) (pc := 0) C rfl rfl d_Tally_init_0 ?_
    refine zz_obj (st := []) (pc := 1) C zl_7_3 zob_1 zob_2 (by omega) (Nat.le_of_ble_eq_true rfl) d_Tally_init_1 ?_
    refine zz_aload_n (i := 0) (pc := 4) C rfl rfl d_Tally_init_4 ?_
    refine zz_bipush (pc := 5) C zkb_6 d_Tally_init_5 ?_
    refine zz_newaK (t := 0) (nn := 22) (n := 6) (sh' := zc_42) (σ' := zg_26 s) (pc := 7) C hex (by decide +kernel) rfl rfl rfl (by decide) (by decide +kernel) (by decide +kernel) (by decide) zac_0 (by decide +kernel) (show zc_41.length + 1 ≤ zc_53.length by decide +kernel) (show zz_sl zc_41 + 6 ≤ zz_sl zc_53 by decide +kernel) d_Tally_init_7 ?_
    refine zz_putFK (sh' := zc_43) (fs := [some none, some none, some none, some none, some none, some none]) (pc := 9) C zl_7_9 (by decide +kernel) rfl (by decide +kernel) (by decide +kernel) rfl (by decide +kernel) (zft_ref 7 0 (by decide +kernel)) (zft_ref2 7 0 (by decide +kernel)) rfl d_Tally_init_9 ?_
    refine zz_aload_n (i := 0) (pc := 12) C rfl rfl d_Tally_init_12 ?_
    refine zz_bipush (pc := 13) C zkb_6 d_Tally_init_13 ?_
    refine zz_newaK (t := 0) (nn := 23) (n := 6) (sh' := zc_44) (σ' := zg_27 s) (pc := 15) C hex (by decide +kernel) rfl rfl rfl (by decide) (by decide +kernel) (by decide +kernel) (by decide) zac_0 (by decide +kernel) (show zc_43.length + 1 ≤ zc_53.length by decide +kernel) (show zz_sl zc_43 + 6 ≤ zz_sl zc_53 by decide +kernel) d_Tally_init_15 ?_
    refine zz_putFK (sh' := zc_45) (fs := [some (some 22), some none, some none, some none, some none, some none]) (pc := 17) C zl_7_15 (by decide +kernel) rfl (by decide +kernel) (by decide +kernel) rfl (by decide +kernel) (zft_ref 7 1 (by decide +kernel)) (zft_ref2 7 1 (by decide +kernel)) rfl d_Tally_init_17 ?_
    refine zz_aload_n (i := 0) (pc := 20) C rfl rfl d_Tally_init_20 ?_
    refine zz_bipush (pc := 21) C zkb_6 d_Tally_init_21 ?_
    refine zz_newaK (t := 0) (nn := 24) (n := 6) (sh' := zc_46) (σ' := zg_28 s) (pc := 23) C hex (by decide +kernel) rfl rfl rfl (by decide) (by decide +kernel) (by decide +kernel) (by decide) zac_0 (by decide +kernel) (show zc_45.length + 1 ≤ zc_53.length by decide +kernel) (show zz_sl zc_45 + 6 ≤ zz_sl zc_53 by decide +kernel) d_Tally_init_23 ?_
    refine zz_putFK (sh' := zc_47) (fs := [some (some 22), some (some 23), some none, some none, some none, some none]) (pc := 25) C zl_7_18 (by decide +kernel) rfl (by decide +kernel) (by decide +kernel) rfl (by decide +kernel) (zft_ref 7 2 (by decide +kernel)) (zft_ref2 7 2 (by decide +kernel)) rfl d_Tally_init_25 ?_
    refine zz_aload_n (i := 0) (pc := 28) C rfl rfl d_Tally_init_28 ?_
    refine zz_bipush (pc := 29) C zkb_6 d_Tally_init_29 ?_
    refine zz_newaK (t := 0) (nn := 25) (n := 6) (sh' := zc_48) (σ' := zg_29 s) (pc := 31) C hex (by decide +kernel) rfl rfl rfl (by decide) (by decide +kernel) (by decide +kernel) (by decide) zac_0 (by decide +kernel) (show zc_47.length + 1 ≤ zc_53.length by decide +kernel) (show zz_sl zc_47 + 6 ≤ zz_sl zc_53 by decide +kernel) d_Tally_init_31 ?_
    refine zz_putFK (sh' := zc_49) (fs := [some (some 22), some (some 23), some (some 24), some none, some none, some none]) (pc := 33) C zl_7_21 (by decide +kernel) rfl (by decide +kernel) (by decide +kernel) rfl (by decide +kernel) (zft_ref 7 3 (by decide +kernel)) (zft_ref2 7 3 (by decide +kernel)) rfl d_Tally_init_33 ?_
    refine zz_aload_n (i := 0) (pc := 36) C rfl rfl d_Tally_init_36 ?_
    refine zz_bipush (pc := 37) C zkb_6 d_Tally_init_37 ?_
    refine zz_newaK (t := 0) (nn := 26) (n := 6) (sh' := zc_50) (σ' := zg_30 s) (pc := 39) C hex (by decide +kernel) rfl rfl rfl (by decide) (by decide +kernel) (by decide +kernel) (by decide) zac_0 (by decide +kernel) (show zc_49.length + 1 ≤ zc_53.length by decide +kernel) (show zz_sl zc_49 + 6 ≤ zz_sl zc_53 by decide +kernel) d_Tally_init_39 ?_
    refine zz_putFK (sh' := zc_51) (fs := [some (some 22), some (some 23), some (some 24), some (some 25), some none, some none]) (pc := 41) C zl_7_24 (by decide +kernel) rfl (by decide +kernel) (by decide +kernel) rfl (by decide +kernel) (zft_ref 7 4 (by decide +kernel)) (zft_ref2 7 4 (by decide +kernel)) rfl d_Tally_init_41 ?_
    refine zz_aload_n (i := 0) (pc := 44) C rfl rfl d_Tally_init_44 ?_
    refine zz_bipush (pc := 45) C zkb_6 d_Tally_init_45 ?_
    refine zz_newaK (t := 0) (nn := 27) (n := 6) (sh' := zc_52) (σ' := zg_31 s) (pc := 47) C hex (by decide +kernel) rfl rfl rfl (by decide) (by decide +kernel) (by decide +kernel) (by decide) zac_0 (by decide +kernel) (show zc_51.length + 1 ≤ zc_53.length by decide +kernel) (show zz_sl zc_51 + 6 ≤ zz_sl zc_53 by decide +kernel) d_Tally_init_47 ?_
    refine zz_putFK (sh' := zc_53) (fs := [some (some 22), some (some 23), some (some 24), some (some 25), some (some 26), some none]) (pc := 49) C zl_7_27 (by decide +kernel) rfl (by decide +kernel) (by decide +kernel) rfl (by decide +kernel) (zft_ref 7 5 (by decide +kernel)) (zft_ref2 7 5 (by decide +kernel)) rfl d_Tally_init_49 ?_
    exact zz_ret (pc := 52) C (v := none) d_Tally_init_52 (Or.inr (Or.inr (Or.inr ⟨rfl, rfl, rfl⟩))) rfl)
theorem d_Lie_init_0 : decode prog_5_method_1_code 0 = .ok (.aload_n 0, 1) := by decide +kernel
theorem d_Lie_init_1 : decode prog_5_method_1_code 1 = .ok (.invokespecial 3, 3) := by decide +kernel
theorem d_Lie_init_4 : decode prog_5_method_1_code 4 = .ok (.aload_n 0, 1) := by decide +kernel
theorem d_Lie_init_5 : decode prog_5_method_1_code 5 = .ok (.bipush (6), 2) := by decide +kernel
theorem d_Lie_init_7 : decode prog_5_method_1_code 7 = .ok (.newarray .int, 2) := by decide +kernel
theorem d_Lie_init_9 : decode prog_5_method_1_code 9 = .ok (.putfield 9, 3) := by decide +kernel
theorem d_Lie_init_12 : decode prog_5_method_1_code 12 = .ok (.aload_n 0, 1) := by decide +kernel
theorem d_Lie_init_13 : decode prog_5_method_1_code 13 = .ok (.bipush (6), 2) := by decide +kernel
theorem d_Lie_init_15 : decode prog_5_method_1_code 15 = .ok (.newarray .int, 2) := by decide +kernel
theorem d_Lie_init_17 : decode prog_5_method_1_code 17 = .ok (.putfield 15, 3) := by decide +kernel
theorem d_Lie_init_20 : decode prog_5_method_1_code 20 = .ok (.aload_n 0, 1) := by decide +kernel
theorem d_Lie_init_21 : decode prog_5_method_1_code 21 = .ok (.bipush (6), 2) := by decide +kernel
theorem d_Lie_init_23 : decode prog_5_method_1_code 23 = .ok (.newarray .int, 2) := by decide +kernel
theorem d_Lie_init_25 : decode prog_5_method_1_code 25 = .ok (.putfield 18, 3) := by decide +kernel
theorem d_Lie_init_28 : decode prog_5_method_1_code 28 = .ok (.aload_n 0, 1) := by decide +kernel
theorem d_Lie_init_29 : decode prog_5_method_1_code 29 = .ok (.iconst 3, 1) := by decide +kernel
theorem d_Lie_init_30 : decode prog_5_method_1_code 30 = .ok (.newarray .int, 2) := by decide +kernel
theorem d_Lie_init_32 : decode prog_5_method_1_code 32 = .ok (.putfield 21, 3) := by decide +kernel
theorem d_Lie_init_35 : decode prog_5_method_1_code 35 = .ok (.aload_n 0, 1) := by decide +kernel
theorem d_Lie_init_36 : decode prog_5_method_1_code 36 = .ok (.bipush (6), 2) := by decide +kernel
theorem d_Lie_init_38 : decode prog_5_method_1_code 38 = .ok (.newarray .long, 2) := by decide +kernel
theorem d_Lie_init_40 : decode prog_5_method_1_code 40 = .ok (.putfield 24, 3) := by decide +kernel
theorem d_Lie_init_43 : decode prog_5_method_1_code 43 = .ok (.aload_n 0, 1) := by decide +kernel
theorem d_Lie_init_44 : decode prog_5_method_1_code 44 = .ok (.iconst 3, 1) := by decide +kernel
theorem d_Lie_init_45 : decode prog_5_method_1_code 45 = .ok (.newarray .long, 2) := by decide +kernel
theorem d_Lie_init_47 : decode prog_5_method_1_code 47 = .ok (.putfield 28, 3) := by decide +kernel
theorem d_Lie_init_50 : decode prog_5_method_1_code 50 = .ok (.aload_n 0, 1) := by decide +kernel
theorem d_Lie_init_51 : decode prog_5_method_1_code 51 = .ok (.aload_n 1, 1) := by decide +kernel
theorem d_Lie_init_52 : decode prog_5_method_1_code 52 = .ok (.putfield 31, 3) := by decide +kernel
theorem d_Lie_init_55 : decode prog_5_method_1_code 55 = .ok (.return_, 1) := by decide +kernel
set_option maxHeartbeats 4000000 in
set_option maxRecDepth 100000 in
theorem zk_5 {G : zz_G} {l : Launch} {s : zz_S} (hex : G.2.2.2.2 = true) : zz_M G l 30 y_Lie_init prog_5_method_1_code 2 none [.ref 32, .ref 1] zc_67 (zg_36 s) (none, zc_80, zg_42 s) :=
  zz_M.intro (by decide) (Nat.le_of_ble_eq_true rfl) (show zc_67.length ≤ zc_80.length by decide +kernel) (show zz_sl zc_67 ≤ zz_sl zc_80 by decide +kernel) (fun Z C => by
    change Z 0 [some (.ref 32), some (.ref 1)] [] zc_67 (zg_36 s)
    refine zz_aload_n (i := 0) (pc := 0) C rfl rfl d_Lie_init_0 ?_
    refine zz_obj (st := []) (pc := 1) C zl_3_3 zob_1 zob_2 (by omega) (Nat.le_of_ble_eq_true rfl) d_Lie_init_1 ?_
    refine zz_aload_n (i := 0) (pc := 4) C rfl rfl d_Lie_init_4 ?_
    refine zz_bipush (pc := 5) C zkb_6 d_Lie_init_5 ?_
    refine zz_newaK (t := 0) (nn := 33) (n := 6) (sh' := zc_68) (σ' := zg_37 s) (pc := 7) C hex (by decide +kernel) rfl rfl rfl (by decide) (by decide +kernel) (by decide +kernel) (by decide) zac_0 (by decide +kernel) (show zc_67.length + 1 ≤ zc_80.length by decide +kernel) (show zz_sl zc_67 + 6 ≤ zz_sl zc_80 by decide +kernel) d_Lie_init_7 ?_
    refine zz_putFK (sh' := zc_69) (fs := [some none, some none, some none, some none, some none, some none, some none]) (pc := 9) C zl_3_9 (by decide +kernel) rfl (by decide +kernel) (by decide +kernel) rfl (by decide +kernel) (zft_ref 3 1 (by decide +kernel)) (zft_ref2 3 1 (by decide +kernel)) rfl d_Lie_init_9 ?_
    refine zz_aload_n (i := 0) (pc := 12) C rfl rfl d_Lie_init_12 ?_
    refine zz_bipush (pc := 13) C zkb_6 d_Lie_init_13 ?_
    refine zz_newaK (t := 0) (nn := 34) (n := 6) (sh' := zc_70) (σ' := zg_38 s) (pc := 15) C hex (by decide +kernel) rfl rfl rfl (by decide) (by decide +kernel) (by decide +kernel) (by decide) zac_0 (by decide +kernel) (show zc_69.length + 1 ≤ zc_80.length by decide +kernel) (show zz_sl zc_69 + 6 ≤ zz_sl zc_80 by decide +kernel) d_Lie_init_15 ?_
    refine zz_putFK (sh' := zc_71) (fs := [some none, some (some 33), some none, some none, some none, some none, some none]) (pc := 17) C zl_3_15 (by decide +kernel) rfl (by decide +kernel) (by decide +kernel) rfl (by decide +kernel) (zft_ref 3 2 (by decide +kernel)) (zft_ref2 3 2 (by decide +kernel)) rfl d_Lie_init_17 ?_
    refine zz_aload_n (i := 0) (pc := 20) C rfl rfl d_Lie_init_20 ?_
    refine zz_bipush (pc := 21) C zkb_6 d_Lie_init_21 ?_
    refine zz_newaK (t := 0) (nn := 35) (n := 6) (sh' := zc_72) (σ' := zg_39 s) (pc := 23) C hex (by decide +kernel) rfl rfl rfl (by decide) (by decide +kernel) (by decide +kernel) (by decide) zac_0 (by decide +kernel) (show zc_71.length + 1 ≤ zc_80.length by decide +kernel) (show zz_sl zc_71 + 6 ≤ zz_sl zc_80 by decide +kernel) d_Lie_init_23 ?_
    refine zz_putFK (sh' := zc_73) (fs := [some none, some (some 33), some (some 34), some none, some none, some none, some none]) (pc := 25) C zl_3_18 (by decide +kernel) rfl (by decide +kernel) (by decide +kernel) rfl (by decide +kernel) (zft_ref 3 3 (by decide +kernel)) (zft_ref2 3 3 (by decide +kernel)) rfl d_Lie_init_25 ?_
    refine zz_aload_n (i := 0) (pc := 28) C rfl rfl d_Lie_init_28 ?_
    refine zz_iconst (pc := 29) C zki_3 d_Lie_init_29 ?_
    refine zz_newaK (t := 0) (nn := 36) (n := 3) (sh' := zc_74) (σ' := zg_40 s) (pc := 30) C hex (by decide +kernel) rfl rfl rfl (by decide) (by decide +kernel) (by decide +kernel) (by decide) zac_0 (by decide +kernel) (show zc_73.length + 1 ≤ zc_80.length by decide +kernel) (show zz_sl zc_73 + 3 ≤ zz_sl zc_80 by decide +kernel) d_Lie_init_30 ?_
    refine zz_putFK (sh' := zc_75) (fs := [some none, some (some 33), some (some 34), some (some 35), some none, some none, some none]) (pc := 32) C zl_3_21 (by decide +kernel) rfl (by decide +kernel) (by decide +kernel) rfl (by decide +kernel) (zft_ref 3 4 (by decide +kernel)) (zft_ref2 3 4 (by decide +kernel)) rfl d_Lie_init_32 ?_
    refine zz_aload_n (i := 0) (pc := 35) C rfl rfl d_Lie_init_35 ?_
    refine zz_bipush (pc := 36) C zkb_6 d_Lie_init_36 ?_
    refine zz_newaK (t := 3) (nn := 37) (n := 6) (sh' := zc_76) (σ' := zg_41 s) (pc := 38) C hex (by decide +kernel) rfl rfl rfl (by decide) (by decide +kernel) (by decide +kernel) (by decide) zac_3 (by decide +kernel) (show zc_75.length + 1 ≤ zc_80.length by decide +kernel) (show zz_sl zc_75 + 6 ≤ zz_sl zc_80 by decide +kernel) d_Lie_init_38 ?_
    refine zz_putFK (sh' := zc_77) (fs := [some none, some (some 33), some (some 34), some (some 35), some (some 36), some none, some none]) (pc := 40) C zl_3_24 (by decide +kernel) rfl (by decide +kernel) (by decide +kernel) rfl (by decide +kernel) (zft_ref 3 5 (by decide +kernel)) (zft_ref2 3 5 (by decide +kernel)) rfl d_Lie_init_40 ?_
    refine zz_aload_n (i := 0) (pc := 43) C rfl rfl d_Lie_init_43 ?_
    refine zz_iconst (pc := 44) C zki_3 d_Lie_init_44 ?_
    refine zz_newaK (t := 3) (nn := 38) (n := 3) (sh' := zc_78) (σ' := zg_42 s) (pc := 45) C hex (by decide +kernel) rfl rfl rfl (by decide) (by decide +kernel) (by decide +kernel) (by decide) zac_3 (by decide +kernel) (show zc_77.length + 1 ≤ zc_80.length by decide +kernel) (show zz_sl zc_77 + 3 ≤ zz_sl zc_80 by decide +kernel) d_Lie_init_45 ?_
    refine zz_putFK (sh' := zc_79) (fs := [some none, some (some 33), some (some 34), some (some 35), some (some 36), some (some 37), some none]) (pc := 47) C zl_3_28 (by decide +kernel) rfl (by decide +kernel) (by decide +kernel) rfl (by decide +kernel) (zft_ref 3 6 (by decide +kernel)) (zft_ref2 3 6 (by decide +kernel)) rfl d_Lie_init_47 ?_
    refine zz_aload_n (i := 0) (pc := 50) C rfl rfl d_Lie_init_50 ?_
    refine zz_aload_n (i := 1) (pc := 51) C rfl rfl d_Lie_init_51 ?_
    refine zz_putFK (sh' := zc_80) (fs := [some none, some (some 33), some (some 34), some (some 35), some (some 36), some (some 37), some (some 38)]) (pc := 52) C zl_3_31 (by decide +kernel) rfl (by decide +kernel) (by decide +kernel) rfl (by decide +kernel) (zft_ref 3 0 (by decide +kernel)) (zft_ref2 3 0 (by decide +kernel)) rfl d_Lie_init_52 ?_
    exact zz_ret (pc := 55) C (v := none) d_Lie_init_55 (Or.inr (Or.inr (Or.inr ⟨rfl, rfl, rfl⟩))) rfl)
set_option maxHeartbeats 4000000 in
set_option maxRecDepth 100000 in
theorem zk_6 {G : zz_G} {l : Launch} {s : zz_S} (hex : G.2.2.2.2 = true) : zz_M G l 40 y_Night_init prog_6_method_1_code 5 none [.ref 20, .ref 1, .ref 10, .ref 15, .ref 19] zc_40 (zg_24 s) (none, zc_81, zg_42 s) :=
  zz_M.intro (by decide) (Nat.le_of_ble_eq_true rfl) (show zc_40.length ≤ zc_81.length by decide +kernel) (show zz_sl zc_40 ≤ zz_sl zc_81 by decide +kernel) (fun Z C => by
    change Z 0 [some (.ref 20), some (.ref 1), some (.ref 10), some (.ref 15), some (.ref 19)] [] zc_40 (zg_24 s)
    refine zz_aload_n (i := 0) (pc := 0) C rfl rfl d_Night_init_0 ?_
    refine zz_obj (st := []) (pc := 1) C zl_4_3 zob_1 zob_2 (by omega) (Nat.le_of_ble_eq_true rfl) d_Night_init_1 ?_
    refine zz_aload_n (i := 0) (pc := 4) C rfl rfl d_Night_init_4 ?_
    refine zz_newK (n := 21) (sh' := zc_41) (σ' := zg_25 s) (pc := 5) C hex (by decide +kernel) rfl rfl rfl zbl_7 zl_4_9 zin_7 zit_7 (by decide +kernel) (show zc_40.length + 1 ≤ zc_81.length by decide +kernel) (show zz_sl zc_40 + zz_N 7 ≤ zz_sl zc_81 by decide +kernel) d_Night_init_5 ?_
    refine zz_dup (pc := 8) C rfl d_Night_init_8 ?_
    refine zz_callIN (st := [.ref 21, .ref 20]) (o := 21) (c0 := .inl (7, [some none, some none, some none, some none, some none, some none])) (as := []) (fc := (none, zc_53, zg_31 s)) (pc := 9) C (by decide +kernel) zl_4_11n zci_Tally_init.2 rfl rfl (zk_4 hex) zci_Tally_init.1 rfl (by omega) (show zc_53.length ≤ zc_81.length by decide +kernel) (show zz_sl zc_53 ≤ zz_sl zc_81 by decide +kernel) (Nat.le_of_ble_eq_true rfl) d_Night_init_9 ?_ rfl
    change Z 12 [some (.ref 20), some (.ref 1), some (.ref 10), some (.ref 15), some (.ref 19)] [.ref 21, .ref 20] zc_53 (zg_31 s)
    refine zz_putFK (sh' := zc_54) (fs := [some none, some none, some none, some none, some none, some none, some none, some none, some none, some none, none, none, none, none, none, none, none]) (pc := 12) C zl_4_12 (by decide +kernel) rfl (by decide +kernel) (by decide +kernel) rfl (by decide +kernel) (zft_ref 4 5 (by decide +kernel)) (zft_ref2 4 5 (by decide +kernel)) rfl d_Night_init_12 ?_
    refine zz_aload_n (i := 0) (pc := 15) C rfl rfl d_Night_init_15 ?_
    refine zz_bipush (pc := 16) C zkb_18 d_Night_init_16 ?_
    refine zz_newaK (t := 0) (nn := 28) (n := 18) (sh' := zc_55) (σ' := zg_32 s) (pc := 18) C hex (by decide +kernel) rfl rfl rfl (by decide) (by decide +kernel) (by decide +kernel) (by decide) zac_0 (by decide +kernel) (show zc_54.length + 1 ≤ zc_81.length by decide +kernel) (show zz_sl zc_54 + 18 ≤ zz_sl zc_81 by decide +kernel) d_Night_init_18 ?_
    refine zz_putFK (sh' := zc_56) (fs := [some none, some none, some none, some none, some none, some (some 21), some none, some none, some none, some none, none, none, none, none, none, none, none]) (pc := 20) C zl_4_18 (by decide +kernel) rfl (by decide +kernel) (by decide +kernel) rfl (by decide +kernel) (zft_ref 4 6 (by decide +kernel)) (zft_ref2 4 6 (by decide +kernel)) rfl d_Night_init_20 ?_
    refine zz_aload_n (i := 0) (pc := 23) C rfl rfl d_Night_init_23 ?_
    refine zz_bipush (pc := 24) C zkb_6 d_Night_init_24 ?_
    refine zz_newaK (t := 0) (nn := 29) (n := 6) (sh' := zc_57) (σ' := zg_33 s) (pc := 26) C hex (by decide +kernel) rfl rfl rfl (by decide) (by decide +kernel) (by decide +kernel) (by decide) zac_0 (by decide +kernel) (show zc_56.length + 1 ≤ zc_81.length by decide +kernel) (show zz_sl zc_56 + 6 ≤ zz_sl zc_81 by decide +kernel) d_Night_init_26 ?_
    refine zz_putFK (sh' := zc_58) (fs := [some none, some none, some none, some none, some none, some (some 21), some (some 28), some none, some none, some none, none, none, none, none, none, none, none]) (pc := 28) C zl_4_22 (by decide +kernel) rfl (by decide +kernel) (by decide +kernel) rfl (by decide +kernel) (zft_ref 4 7 (by decide +kernel)) (zft_ref2 4 7 (by decide +kernel)) rfl d_Night_init_28 ?_
    refine zz_aload_n (i := 0) (pc := 31) C rfl rfl d_Night_init_31 ?_
    refine zz_iconst (pc := 32) C zki_3 d_Night_init_32 ?_
    refine zz_newaK (t := 0) (nn := 30) (n := 3) (sh' := zc_59) (σ' := zg_34 s) (pc := 33) C hex (by decide +kernel) rfl rfl rfl (by decide) (by decide +kernel) (by decide +kernel) (by decide) zac_0 (by decide +kernel) (show zc_58.length + 1 ≤ zc_81.length by decide +kernel) (show zz_sl zc_58 + 3 ≤ zz_sl zc_81 by decide +kernel) d_Night_init_33 ?_
    refine zz_putFK (sh' := zc_60) (fs := [some none, some none, some none, some none, some none, some (some 21), some (some 28), some (some 29), some none, some none, none, none, none, none, none, none, none]) (pc := 35) C zl_4_25 (by decide +kernel) rfl (by decide +kernel) (by decide +kernel) rfl (by decide +kernel) (zft_ref 4 8 (by decide +kernel)) (zft_ref2 4 8 (by decide +kernel)) rfl d_Night_init_35 ?_
    refine zz_aload_n (i := 0) (pc := 38) C rfl rfl d_Night_init_38 ?_
    refine zz_ldcS (i := 0) (tx := "tuwksbmh") (pc := 39) C (by decide) d_Night_init_39 ?_
    refine zz_callX (st := [.ref 20]) (as := []) (i := 0) (fc := (some (.int (f_Str_length 0)), zc_60, zg_34 s)) (pc := 41) C (by decide) rfl zl_4_32 zcv_Str_length.2.1 zcv_Str_length.2.2.1 (zm_Str_length (by decide) rfl) zcv_Str_length.1 rfl (by omega) (show zc_60.length ≤ zc_81.length by decide +kernel) (show zz_sl zc_60 ≤ zz_sl zc_81 by decide +kernel) (Nat.le_of_ble_eq_true rfl) d_Night_init_41 ?_ rfl
    change Z 44 [some (.ref 20), some (.ref 1), some (.ref 10), some (.ref 15), some (.ref 19)] [.int (f_Str_length 0), .ref 20] zc_60 (zg_34 s)
    refine zz_newaK (t := 0) (nn := 31) (n := 8) (sh' := zc_61) (σ' := zg_35 s) (pc := 44) C hex (by decide +kernel) rfl rfl rfl (by decide) (by decide +kernel) (by decide +kernel) (by decide) zac_0 (by decide +kernel) (show zc_60.length + 1 ≤ zc_81.length by decide +kernel) (show zz_sl zc_60 + 8 ≤ zz_sl zc_81 by decide +kernel) d_Night_init_44 ?_
    refine zz_putFK (sh' := zc_62) (fs := [some none, some none, some none, some none, some none, some (some 21), some (some 28), some (some 29), some (some 30), some none, none, none, none, none, none, none, none]) (pc := 46) C zl_4_38 (by decide +kernel) rfl (by decide +kernel) (by decide +kernel) rfl (by decide +kernel) (zft_ref 4 9 (by decide +kernel)) (zft_ref2 4 9 (by decide +kernel)) rfl d_Night_init_46 ?_
    refine zz_aload_n (i := 0) (pc := 49) C rfl rfl d_Night_init_49 ?_
    refine zz_aload_n (i := 1) (pc := 50) C rfl rfl d_Night_init_50 ?_
    refine zz_putFK (sh' := zc_63) (fs := [some none, some none, some none, some none, some none, some (some 21), some (some 28), some (some 29), some (some 30), some (some 31), none, none, none, none, none, none, none]) (pc := 51) C zl_4_41 (by decide +kernel) rfl (by decide +kernel) (by decide +kernel) rfl (by decide +kernel) (zft_ref 4 0 (by decide +kernel)) (zft_ref2 4 0 (by decide +kernel)) rfl d_Night_init_51 ?_
    refine zz_aload_n (i := 0) (pc := 54) C rfl rfl d_Night_init_54 ?_
    refine zz_aload_n (i := 2) (pc := 55) C rfl rfl d_Night_init_55 ?_
    refine zz_putFK (sh' := zc_64) (fs := [some (some 1), some none, some none, some none, some none, some (some 21), some (some 28), some (some 29), some (some 30), some (some 31), none, none, none, none, none, none, none]) (pc := 56) C zl_4_45 (by decide +kernel) rfl (by decide +kernel) (by decide +kernel) rfl (by decide +kernel) (zft_ref 4 1 (by decide +kernel)) (zft_ref2 4 1 (by decide +kernel)) rfl d_Night_init_56 ?_
    refine zz_aload_n (i := 0) (pc := 59) C rfl rfl d_Night_init_59 ?_
    refine zz_aload_n (i := 3) (pc := 60) C rfl rfl d_Night_init_60 ?_
    refine zz_putFK (sh' := zc_65) (fs := [some (some 1), some (some 10), some none, some none, some none, some (some 21), some (some 28), some (some 29), some (some 30), some (some 31), none, none, none, none, none, none, none]) (pc := 61) C zl_4_49 (by decide +kernel) rfl (by decide +kernel) (by decide +kernel) rfl (by decide +kernel) (zft_ref 4 2 (by decide +kernel)) (zft_ref2 4 2 (by decide +kernel)) rfl d_Night_init_61 ?_
    refine zz_aload_n (i := 0) (pc := 64) C rfl rfl d_Night_init_64 ?_
    refine zz_aload (i := 4) (pc := 65) C rfl d_Night_init_65 ?_
    refine zz_putFK (sh' := zc_66) (fs := [some (some 1), some (some 10), some (some 15), some none, some none, some (some 21), some (some 28), some (some 29), some (some 30), some (some 31), none, none, none, none, none, none, none]) (pc := 67) C zl_4_53 (by decide +kernel) rfl (by decide +kernel) (by decide +kernel) rfl (by decide +kernel) (zft_ref 4 3 (by decide +kernel)) (zft_ref2 4 3 (by decide +kernel)) rfl d_Night_init_67 ?_
    refine zz_aload_n (i := 0) (pc := 70) C rfl rfl d_Night_init_70 ?_
    refine zz_newK (n := 32) (sh' := zc_67) (σ' := zg_36 s) (pc := 71) C hex (by decide +kernel) rfl rfl rfl zbl_3 zl_4_57 zin_3 zit_3 (by decide +kernel) (show zc_66.length + 1 ≤ zc_81.length by decide +kernel) (show zz_sl zc_66 + zz_N 3 ≤ zz_sl zc_81 by decide +kernel) d_Night_init_71 ?_
    refine zz_dup (pc := 74) C rfl d_Night_init_74 ?_
    refine zz_aload_n (i := 1) (pc := 75) C rfl rfl d_Night_init_75 ?_
    refine zz_callI (st := [.ref 32, .ref 20]) (o := 32) (c0 := .inl (3, [some none, some none, some none, some none, some none, some none, some none])) (as := [.ref 1]) (fc := (none, zc_80, zg_42 s)) (pc := 76) C (by decide +kernel) zl_4_59 zci_Lie_init.2 rfl rfl (zk_5 hex) zci_Lie_init.1 rfl (by omega) (show zc_80.length ≤ zc_81.length by decide +kernel) (show zz_sl zc_80 ≤ zz_sl zc_81 by decide +kernel) (Nat.le_of_ble_eq_true rfl) d_Night_init_76 ?_ rfl
    change Z 79 [some (.ref 20), some (.ref 1), some (.ref 10), some (.ref 15), some (.ref 19)] [.ref 32, .ref 20] zc_80 (zg_42 s)
    refine zz_putFK (sh' := zc_81) (fs := [some (some 1), some (some 10), some (some 15), some (some 19), some none, some (some 21), some (some 28), some (some 29), some (some 30), some (some 31), none, none, none, none, none, none, none]) (pc := 79) C zl_4_62 (by decide +kernel) rfl (by decide +kernel) (by decide +kernel) rfl (by decide +kernel) (zft_ref 4 4 (by decide +kernel)) (zft_ref2 4 4 (by decide +kernel)) rfl d_Night_init_79 ?_
    exact zz_ret (pc := 82) C (v := none) d_Night_init_82 (Or.inr (Or.inr (Or.inr ⟨rfl, rfl, rfl⟩))) rfl)
theorem d_Changes_init_0 : decode prog_4_method_1_code 0 = .ok (.aload_n 0, 1) := by decide +kernel
theorem d_Changes_init_1 : decode prog_4_method_1_code 1 = .ok (.invokespecial 1, 3) := by decide +kernel
theorem d_Changes_init_4 : decode prog_4_method_1_code 4 = .ok (.aload_n 0, 1) := by decide +kernel
theorem d_Changes_init_5 : decode prog_4_method_1_code 5 = .ok (.bipush (40), 2) := by decide +kernel
theorem d_Changes_init_7 : decode prog_4_method_1_code 7 = .ok (.newarray .int, 2) := by decide +kernel
theorem d_Changes_init_9 : decode prog_4_method_1_code 9 = .ok (.putfield 9, 3) := by decide +kernel
theorem d_Changes_init_12 : decode prog_4_method_1_code 12 = .ok (.aload_n 0, 1) := by decide +kernel
theorem d_Changes_init_13 : decode prog_4_method_1_code 13 = .ok (.bipush (40), 2) := by decide +kernel
theorem d_Changes_init_15 : decode prog_4_method_1_code 15 = .ok (.newarray .int, 2) := by decide +kernel
theorem d_Changes_init_17 : decode prog_4_method_1_code 17 = .ok (.putfield 13, 3) := by decide +kernel
theorem d_Changes_init_20 : decode prog_4_method_1_code 20 = .ok (.aload_n 0, 1) := by decide +kernel
theorem d_Changes_init_21 : decode prog_4_method_1_code 21 = .ok (.bipush (40), 2) := by decide +kernel
theorem d_Changes_init_23 : decode prog_4_method_1_code 23 = .ok (.newarray .int, 2) := by decide +kernel
theorem d_Changes_init_25 : decode prog_4_method_1_code 25 = .ok (.putfield 16, 3) := by decide +kernel
theorem d_Changes_init_28 : decode prog_4_method_1_code 28 = .ok (.aload_n 0, 1) := by decide +kernel
theorem d_Changes_init_29 : decode prog_4_method_1_code 29 = .ok (.bipush (40), 2) := by decide +kernel
theorem d_Changes_init_31 : decode prog_4_method_1_code 31 = .ok (.newarray .int, 2) := by decide +kernel
theorem d_Changes_init_33 : decode prog_4_method_1_code 33 = .ok (.putfield 19, 3) := by decide +kernel
theorem d_Changes_init_36 : decode prog_4_method_1_code 36 = .ok (.return_, 1) := by decide +kernel
set_option maxHeartbeats 4000000 in
set_option maxRecDepth 100000 in
theorem zk_7 {G : zz_G} {l : Launch} {s : zz_S} (hex : G.2.2.2.2 = true) : zz_M G l 20 y_Changes_init prog_4_method_1_code 1 none [.ref 39] zc_83 (zg_43 s) (none, zc_91, zg_47 s) :=
  zz_M.intro (by decide) (Nat.le_of_ble_eq_true rfl) (show zc_83.length ≤ zc_91.length by decide +kernel) (show zz_sl zc_83 ≤ zz_sl zc_91 by decide +kernel) (fun Z C => by
    change Z 0 [some (.ref 39)] [] zc_83 (zg_43 s)
    refine zz_aload_n (i := 0) (pc := 0) C rfl rfl d_Changes_init_0 ?_
    refine zz_obj (st := []) (pc := 1) C zl_2_1 zob_1 zob_2 (by omega) (Nat.le_of_ble_eq_true rfl) d_Changes_init_1 ?_
    refine zz_aload_n (i := 0) (pc := 4) C rfl rfl d_Changes_init_4 ?_
    refine zz_bipush (pc := 5) C zkb_40 d_Changes_init_5 ?_
    refine zz_newaK (t := 0) (nn := 40) (n := 40) (sh' := zc_84) (σ' := zg_44 s) (pc := 7) C hex (by decide +kernel) rfl rfl rfl (by decide) (by decide +kernel) (by decide +kernel) (by decide) zac_0 (by decide +kernel) (show zc_83.length + 1 ≤ zc_91.length by decide +kernel) (show zz_sl zc_83 + 40 ≤ zz_sl zc_91 by decide +kernel) d_Changes_init_7 ?_
    refine zz_putFK (sh' := zc_85) (fs := [none, none, some none, some none, some none, some none]) (pc := 9) C zl_2_9 (by decide +kernel) rfl (by decide +kernel) (by decide +kernel) rfl (by decide +kernel) (zft_ref 2 2 (by decide +kernel)) (zft_ref2 2 2 (by decide +kernel)) rfl d_Changes_init_9 ?_
    refine zz_aload_n (i := 0) (pc := 12) C rfl rfl d_Changes_init_12 ?_
    refine zz_bipush (pc := 13) C zkb_40 d_Changes_init_13 ?_
    refine zz_newaK (t := 0) (nn := 41) (n := 40) (sh' := zc_86) (σ' := zg_45 s) (pc := 15) C hex (by decide +kernel) rfl rfl rfl (by decide) (by decide +kernel) (by decide +kernel) (by decide) zac_0 (by decide +kernel) (show zc_85.length + 1 ≤ zc_91.length by decide +kernel) (show zz_sl zc_85 + 40 ≤ zz_sl zc_91 by decide +kernel) d_Changes_init_15 ?_
    refine zz_putFK (sh' := zc_87) (fs := [none, none, some (some 40), some none, some none, some none]) (pc := 17) C zl_2_13 (by decide +kernel) rfl (by decide +kernel) (by decide +kernel) rfl (by decide +kernel) (zft_ref 2 3 (by decide +kernel)) (zft_ref2 2 3 (by decide +kernel)) rfl d_Changes_init_17 ?_
    refine zz_aload_n (i := 0) (pc := 20) C rfl rfl d_Changes_init_20 ?_
    refine zz_bipush (pc := 21) C zkb_40 d_Changes_init_21 ?_
    refine zz_newaK (t := 0) (nn := 42) (n := 40) (sh' := zc_88) (σ' := zg_46 s) (pc := 23) C hex (by decide +kernel) rfl rfl rfl (by decide) (by decide +kernel) (by decide +kernel) (by decide) zac_0 (by decide +kernel) (show zc_87.length + 1 ≤ zc_91.length by decide +kernel) (show zz_sl zc_87 + 40 ≤ zz_sl zc_91 by decide +kernel) d_Changes_init_23 ?_
    refine zz_putFK (sh' := zc_89) (fs := [none, none, some (some 40), some (some 41), some none, some none]) (pc := 25) C zl_2_16 (by decide +kernel) rfl (by decide +kernel) (by decide +kernel) rfl (by decide +kernel) (zft_ref 2 4 (by decide +kernel)) (zft_ref2 2 4 (by decide +kernel)) rfl d_Changes_init_25 ?_
    refine zz_aload_n (i := 0) (pc := 28) C rfl rfl d_Changes_init_28 ?_
    refine zz_bipush (pc := 29) C zkb_40 d_Changes_init_29 ?_
    refine zz_newaK (t := 0) (nn := 43) (n := 40) (sh' := zc_90) (σ' := zg_47 s) (pc := 31) C hex (by decide +kernel) rfl rfl rfl (by decide) (by decide +kernel) (by decide +kernel) (by decide) zac_0 (by decide +kernel) (show zc_89.length + 1 ≤ zc_91.length by decide +kernel) (show zz_sl zc_89 + 40 ≤ zz_sl zc_91 by decide +kernel) d_Changes_init_31 ?_
    refine zz_putFK (sh' := zc_91) (fs := [none, none, some (some 40), some (some 41), some (some 42), some none]) (pc := 33) C zl_2_19 (by decide +kernel) rfl (by decide +kernel) (by decide +kernel) rfl (by decide +kernel) (zft_ref 2 5 (by decide +kernel)) (zft_ref2 2 5 (by decide +kernel)) rfl d_Changes_init_33 ?_
    exact zz_ret (pc := 36) C (v := none) d_Changes_init_36 (Or.inr (Or.inr (Or.inr ⟨rfl, rfl, rfl⟩))) rfl)
theorem d_Tape_init_0 : decode prog_10_method_1_code 0 = .ok (.aload_n 0, 1) := by decide +kernel
theorem d_Tape_init_1 : decode prog_10_method_1_code 1 = .ok (.invokespecial 3, 3) := by decide +kernel
theorem d_Tape_init_4 : decode prog_10_method_1_code 4 = .ok (.aload_n 0, 1) := by decide +kernel
theorem d_Tape_init_5 : decode prog_10_method_1_code 5 = .ok (.new 9, 3) := by decide +kernel
theorem d_Tape_init_8 : decode prog_10_method_1_code 8 = .ok (.dup, 1) := by decide +kernel
theorem d_Tape_init_9 : decode prog_10_method_1_code 9 = .ok (.invokespecial 11, 3) := by decide +kernel
theorem d_Tape_init_12 : decode prog_10_method_1_code 12 = .ok (.putfield 12, 3) := by decide +kernel
theorem d_Tape_init_15 : decode prog_10_method_1_code 15 = .ok (.aload_n 0, 1) := by decide +kernel
theorem d_Tape_init_16 : decode prog_10_method_1_code 16 = .ok (.bipush (120), 2) := by decide +kernel
theorem d_Tape_init_18 : decode prog_10_method_1_code 18 = .ok (.newarray .int, 2) := by decide +kernel
theorem d_Tape_init_20 : decode prog_10_method_1_code 20 = .ok (.putfield 18, 3) := by decide +kernel
theorem d_Tape_init_23 : decode prog_10_method_1_code 23 = .ok (.return_, 1) := by decide +kernel
theorem d_Text_init_0 : decode prog_11_method_1_code 0 = .ok (.aload_n 0, 1) := by decide +kernel
theorem d_Text_init_1 : decode prog_11_method_1_code 1 = .ok (.invokespecial 3, 3) := by decide +kernel
theorem d_Text_init_4 : decode prog_11_method_1_code 4 = .ok (.aload_n 0, 1) := by decide +kernel
theorem d_Text_init_5 : decode prog_11_method_1_code 5 = .ok (.bipush (121), 2) := by decide +kernel
theorem d_Text_init_7 : decode prog_11_method_1_code 7 = .ok (.newarray .int, 2) := by decide +kernel
theorem d_Text_init_9 : decode prog_11_method_1_code 9 = .ok (.putfield 11, 3) := by decide +kernel
theorem d_Text_init_12 : decode prog_11_method_1_code 12 = .ok (.aload_n 0, 1) := by decide +kernel
theorem d_Text_init_13 : decode prog_11_method_1_code 13 = .ok (.bipush (122), 2) := by decide +kernel
theorem d_Text_init_15 : decode prog_11_method_1_code 15 = .ok (.newarray .int, 2) := by decide +kernel
theorem d_Text_init_17 : decode prog_11_method_1_code 17 = .ok (.putfield 15, 3) := by decide +kernel
theorem d_Text_init_20 : decode prog_11_method_1_code 20 = .ok (.return_, 1) := by decide +kernel
set_option maxHeartbeats 4000000 in
set_option maxRecDepth 100000 in
theorem zk_8 {G : zz_G} {l : Launch} {s : zz_S} (hex : G.2.2.2.2 = true) : zz_M G l 20 y_Text_init prog_11_method_1_code 1 none [.ref 45] zc_94 (zg_49 s) (none, zc_98, zg_51 s) :=
  zz_M.intro (by decide) (Nat.le_of_ble_eq_true rfl) (show zc_94.length ≤ zc_98.length by decide +kernel) (show zz_sl zc_94 ≤ zz_sl zc_98 by decide +kernel) (fun Z C => by
    change Z 0 [some (.ref 45)] [] zc_94 (zg_49 s)
    refine zz_aload_n (i := 0) (pc := 0) C rfl rfl d_Text_init_0 ?_
    refine zz_obj (st := []) (pc := 1) C zl_9_3 zob_1 zob_2 (by omega) (Nat.le_of_ble_eq_true rfl) d_Text_init_1 ?_
    refine zz_aload_n (i := 0) (pc := 4) C rfl rfl d_Text_init_4 ?_
    refine zz_bipush (pc := 5) C zkb_121 d_Text_init_5 ?_
    refine zz_newaK (t := 0) (nn := 46) (n := 121) (sh' := zc_95) (σ' := zg_50 s) (pc := 7) C hex (by decide +kernel) rfl rfl rfl (by decide) (by decide +kernel) (by decide +kernel) (by decide) zac_0 (by decide +kernel) (show zc_94.length + 1 ≤ zc_98.length by decide +kernel) (show zz_sl zc_94 + 121 ≤ zz_sl zc_98 by decide +kernel) d_Text_init_7 ?_
    refine zz_putFK (sh' := zc_96) (fs := [none, some none, some none]) (pc := 9) C zl_9_11 (by decide +kernel) rfl (by decide +kernel) (by decide +kernel) rfl (by decide +kernel) (zft_ref 9 1 (by decide +kernel)) (zft_ref2 9 1 (by decide +kernel)) rfl d_Text_init_9 ?_
    refine zz_aload_n (i := 0) (pc := 12) C rfl rfl d_Text_init_12 ?_
    refine zz_bipush (pc := 13) C zkb_122 d_Text_init_13 ?_
    refine zz_newaK (t := 0) (nn := 47) (n := 122) (sh' := zc_97) (σ' := zg_51 s) (pc := 15) C hex (by decide +kernel) rfl rfl rfl (by decide) (by decide +kernel) (by decide +kernel) (by decide) zac_0 (by decide +kernel) (show zc_96.length + 1 ≤ zc_98.length by decide +kernel) (show zz_sl zc_96 + 122 ≤ zz_sl zc_98 by decide +kernel) d_Text_init_15 ?_
    refine zz_putFK (sh' := zc_98) (fs := [none, some (some 46), some none]) (pc := 17) C zl_9_15 (by decide +kernel) rfl (by decide +kernel) (by decide +kernel) rfl (by decide +kernel) (zft_ref 9 2 (by decide +kernel)) (zft_ref2 9 2 (by decide +kernel)) rfl d_Text_init_17 ?_
    exact zz_ret (pc := 20) C (v := none) d_Text_init_20 (Or.inr (Or.inr (Or.inr ⟨rfl, rfl, rfl⟩))) rfl)
set_option maxHeartbeats 4000000 in
set_option maxRecDepth 100000 in
theorem zk_9 {G : zz_G} {l : Launch} {s : zz_S} (hex : G.2.2.2.2 = true) : zz_M G l 30 y_Tape_init prog_10_method_1_code 1 none [.ref 44] zc_93 (zg_48 s) (none, zc_101, zg_52 s) :=
  zz_M.intro (by decide) (Nat.le_of_ble_eq_true rfl) (show zc_93.length ≤ zc_101.length by decide +kernel) (show zz_sl zc_93 ≤ zz_sl zc_101 by decide +kernel) (fun Z C => by
    change Z 0 [some (.ref 44)] [] zc_93 (zg_48 s)
    refine zz_aload_n (i := 0) (pc := 0) C rfl rfl d_Tape_init_0 ?_
    refine zz_obj (st := []) (pc := 1) C zl_8_3 zob_1 zob_2 (by omega) (Nat.le_of_ble_eq_true rfl) d_Tape_init_1 ?_
    refine zz_aload_n (i := 0) (pc := 4) C rfl rfl d_Tape_init_4 ?_
    refine zz_newK (n := 45) (sh' := zc_94) (σ' := zg_49 s) (pc := 5) C hex (by decide +kernel) rfl rfl rfl zbl_9 zl_8_9 zin_9 zit_9 (by decide +kernel) (show zc_93.length + 1 ≤ zc_101.length by decide +kernel) (show zz_sl zc_93 + zz_N 9 ≤ zz_sl zc_101 by decide +kernel) d_Tape_init_5 ?_
    refine zz_dup (pc := 8) C rfl d_Tape_init_8 ?_
    refine zz_callIN (st := [.ref 45, .ref 44]) (o := 45) (c0 := .inl (9, [none, some none, some none])) (as := []) (fc := (none, zc_98, zg_51 s)) (pc := 9) C (by decide +kernel) zl_8_11n zci_Text_init.2 rfl rfl (zk_8 hex) zci_Text_init.1 rfl (by omega) (show zc_98.length ≤ zc_101.length by decide +kernel) (show zz_sl zc_98 ≤ zz_sl zc_101 by decide +kernel) (Nat.le_of_ble_eq_true rfl) d_Tape_init_9 ?_ rfl
    change Z 12 [some (.ref 44)] [.ref 45, .ref 44] zc_98 (zg_51 s)
    refine zz_putFK (sh' := zc_99) (fs := [none, some none, some none, none, none]) (pc := 12) C zl_8_12 (by decide +kernel) rfl (by decide +kernel) (by decide +kernel) rfl (by decide +kernel) (zft_ref 8 1 (by decide +kernel)) (zft_ref2 8 1 (by decide +kernel)) rfl d_Tape_init_12 ?_
    refine zz_aload_n (i := 0) (pc := 15) C rfl rfl d_Tape_init_15 ?_
    refine zz_bipush (pc := 16) C zkb_120 d_Tape_init_16 ?_
    refine zz_newaK (t := 0) (nn := 48) (n := 120) (sh' := zc_100) (σ' := zg_52 s) (pc := 18) C hex (by decide +kernel) rfl rfl rfl (by decide) (by decide +kernel) (by decide +kernel) (by decide) zac_0 (by decide +kernel) (show zc_99.length + 1 ≤ zc_101.length by decide +kernel) (show zz_sl zc_99 + 120 ≤ zz_sl zc_101 by decide +kernel) d_Tape_init_18 ?_
    refine zz_putFK (sh' := zc_101) (fs := [none, some (some 45), some none, none, none]) (pc := 20) C zl_8_18 (by decide +kernel) rfl (by decide +kernel) (by decide +kernel) rfl (by decide +kernel) (zft_ref 8 2 (by decide +kernel)) (zft_ref2 8 2 (by decide +kernel)) rfl d_Tape_init_20 ?_
    exact zz_ret (pc := 23) C (v := none) d_Tape_init_23 (Or.inr (Or.inr (Or.inr ⟨rfl, rfl, rfl⟩))) rfl)
theorem d_Bodies_init_0 : decode prog_3_method_1_code 0 = .ok (.aload_n 0, 1) := by decide +kernel
theorem d_Bodies_init_1 : decode prog_3_method_1_code 1 = .ok (.invokespecial 3, 3) := by decide +kernel
theorem d_Bodies_init_4 : decode prog_3_method_1_code 4 = .ok (.aload_n 0, 1) := by decide +kernel
theorem d_Bodies_init_5 : decode prog_3_method_1_code 5 = .ok (.bipush (50), 2) := by decide +kernel
theorem d_Bodies_init_7 : decode prog_3_method_1_code 7 = .ok (.newarray .int, 2) := by decide +kernel
theorem d_Bodies_init_9 : decode prog_3_method_1_code 9 = .ok (.putfield 11, 3) := by decide +kernel
theorem d_Bodies_init_12 : decode prog_3_method_1_code 12 = .ok (.aload_n 0, 1) := by decide +kernel
theorem d_Bodies_init_13 : decode prog_3_method_1_code 13 = .ok (.bipush (24), 2) := by decide +kernel
theorem d_Bodies_init_15 : decode prog_3_method_1_code 15 = .ok (.newarray .int, 2) := by decide +kernel
theorem d_Bodies_init_17 : decode prog_3_method_1_code 17 = .ok (.putfield 15, 3) := by decide +kernel
theorem d_Bodies_init_20 : decode prog_3_method_1_code 20 = .ok (.return_, 1) := by decide +kernel
set_option maxHeartbeats 4000000 in
set_option maxRecDepth 100000 in
theorem zk_10 {G : zz_G} {l : Launch} {s : zz_S} (hex : G.2.2.2.2 = true) : zz_M G l 20 y_Bodies_init prog_3_method_1_code 1 none [.ref 49] zc_103 (zg_53 s) (none, zc_107, zg_55 s) :=
  zz_M.intro (by decide) (Nat.le_of_ble_eq_true rfl) (show zc_103.length ≤ zc_107.length by decide +kernel) (show zz_sl zc_103 ≤ zz_sl zc_107 by decide +kernel) (fun Z C => by
    change Z 0 [some (.ref 49)] [] zc_103 (zg_53 s)
    refine zz_aload_n (i := 0) (pc := 0) C rfl rfl d_Bodies_init_0 ?_
    refine zz_obj (st := []) (pc := 1) C zl_1_3 zob_1 zob_2 (by omega) (Nat.le_of_ble_eq_true rfl) d_Bodies_init_1 ?_
    refine zz_aload_n (i := 0) (pc := 4) C rfl rfl d_Bodies_init_4 ?_
    refine zz_bipush (pc := 5) C zkb_50 d_Bodies_init_5 ?_
    refine zz_newaK (t := 0) (nn := 50) (n := 50) (sh' := zc_104) (σ' := zg_54 s) (pc := 7) C hex (by decide +kernel) rfl rfl rfl (by decide) (by decide +kernel) (by decide +kernel) (by decide) zac_0 (by decide +kernel) (show zc_103.length + 1 ≤ zc_107.length by decide +kernel) (show zz_sl zc_103 + 50 ≤ zz_sl zc_107 by decide +kernel) d_Bodies_init_7 ?_
    refine zz_putFK (sh' := zc_105) (fs := [none, none, some none, some none]) (pc := 9) C zl_1_11 (by decide +kernel) rfl (by decide +kernel) (by decide +kernel) rfl (by decide +kernel) (zft_ref 1 2 (by decide +kernel)) (zft_ref2 1 2 (by decide +kernel)) rfl d_Bodies_init_9 ?_
    refine zz_aload_n (i := 0) (pc := 12) C rfl rfl d_Bodies_init_12 ?_
    refine zz_bipush (pc := 13) C zkb_24 d_Bodies_init_13 ?_
    refine zz_newaK (t := 0) (nn := 51) (n := 24) (sh' := zc_106) (σ' := zg_55 s) (pc := 15) C hex (by decide +kernel) rfl rfl rfl (by decide) (by decide +kernel) (by decide +kernel) (by decide) zac_0 (by decide +kernel) (show zc_105.length + 1 ≤ zc_107.length by decide +kernel) (show zz_sl zc_105 + 24 ≤ zz_sl zc_107 by decide +kernel) d_Bodies_init_15 ?_
    refine zz_putFK (sh' := zc_107) (fs := [none, none, some (some 50), some none]) (pc := 17) C zl_1_15 (by decide +kernel) rfl (by decide +kernel) (by decide +kernel) rfl (by decide +kernel) (zft_ref 1 3 (by decide +kernel)) (zft_ref2 1 3 (by decide +kernel)) rfl d_Bodies_init_17 ?_
    exact zz_ret (pc := 20) C (v := none) d_Bodies_init_20 (Or.inr (Or.inr (Or.inr ⟨rfl, rfl, rfl⟩))) rfl)
set_option maxHeartbeats 4000000 in
set_option maxRecDepth 100000 in
theorem zk_11 {G : zz_G} {l : Launch} {s : zz_S} (hex : G.2.2.2.2 = true) : zz_M G l 20 y_Text_init prog_11_method_1_code 1 none [.ref 55] zc_115 (zg_60 s) (none, zc_119, zg_62 s) :=
  zz_M.intro (by decide) (Nat.le_of_ble_eq_true rfl) (show zc_115.length ≤ zc_119.length by decide +kernel) (show zz_sl zc_115 ≤ zz_sl zc_119 by decide +kernel) (fun Z C => by
    change Z 0 [some (.ref 55)] [] zc_115 (zg_60 s)
    refine zz_aload_n (i := 0) (pc := 0) C rfl rfl d_Text_init_0 ?_
    refine zz_obj (st := []) (pc := 1) C zl_9_3 zob_1 zob_2 (by omega) (Nat.le_of_ble_eq_true rfl) d_Text_init_1 ?_
    refine zz_aload_n (i := 0) (pc := 4) C rfl rfl d_Text_init_4 ?_
    refine zz_bipush (pc := 5) C zkb_121 d_Text_init_5 ?_
    refine zz_newaK (t := 0) (nn := 56) (n := 121) (sh' := zc_116) (σ' := zg_61 s) (pc := 7) C hex (by decide +kernel) rfl rfl rfl (by decide) (by decide +kernel) (by decide +kernel) (by decide) zac_0 (by decide +kernel) (show zc_115.length + 1 ≤ zc_119.length by decide +kernel) (show zz_sl zc_115 + 121 ≤ zz_sl zc_119 by decide +kernel) d_Text_init_7 ?_
    refine zz_putFK (sh' := zc_117) (fs := [none, some none, some none]) (pc := 9) C zl_9_11 (by decide +kernel) rfl (by decide +kernel) (by decide +kernel) rfl (by decide +kernel) (zft_ref 9 1 (by decide +kernel)) (zft_ref2 9 1 (by decide +kernel)) rfl d_Text_init_9 ?_
    refine zz_aload_n (i := 0) (pc := 12) C rfl rfl d_Text_init_12 ?_
    refine zz_bipush (pc := 13) C zkb_122 d_Text_init_13 ?_
    refine zz_newaK (t := 0) (nn := 57) (n := 122) (sh' := zc_118) (σ' := zg_62 s) (pc := 15) C hex (by decide +kernel) rfl rfl rfl (by decide) (by decide +kernel) (by decide +kernel) (by decide) zac_0 (by decide +kernel) (show zc_117.length + 1 ≤ zc_119.length by decide +kernel) (show zz_sl zc_117 + 122 ≤ zz_sl zc_119 by decide +kernel) d_Text_init_15 ?_
    refine zz_putFK (sh' := zc_119) (fs := [none, some (some 56), some none]) (pc := 17) C zl_9_15 (by decide +kernel) rfl (by decide +kernel) (by decide +kernel) rfl (by decide +kernel) (zft_ref 9 2 (by decide +kernel)) (zft_ref2 9 2 (by decide +kernel)) rfl d_Text_init_17 ?_
    exact zz_ret (pc := 20) C (v := none) d_Text_init_20 (Or.inr (Or.inr (Or.inr ⟨rfl, rfl, rfl⟩))) rfl)
set_option maxHeartbeats 4000000 in
set_option maxRecDepth 100000 in
theorem zk_12 {G : zz_G} {l : Launch} {s : zz_S} (hex : G.2.2.2.2 = true) : zz_M G l 20 y_Text_init prog_11_method_1_code 1 none [.ref 58] zc_121 (zg_63 s) (none, zc_125, zg_65 s) :=
  zz_M.intro (by decide) (Nat.le_of_ble_eq_true rfl) (show zc_121.length ≤ zc_125.length by decide +kernel) (show zz_sl zc_121 ≤ zz_sl zc_125 by decide +kernel) (fun Z C => by
    change Z 0 [some (.ref 58)] [] zc_121 (zg_63 s)
    refine zz_aload_n (i := 0) (pc := 0) C rfl rfl d_Text_init_0 ?_
    refine zz_obj (st := []) (pc := 1) C zl_9_3 zob_1 zob_2 (by omega) (Nat.le_of_ble_eq_true rfl) d_Text_init_1 ?_
    refine zz_aload_n (i := 0) (pc := 4) C rfl rfl d_Text_init_4 ?_
    refine zz_bipush (pc := 5) C zkb_121 d_Text_init_5 ?_
    refine zz_newaK (t := 0) (nn := 59) (n := 121) (sh' := zc_122) (σ' := zg_64 s) (pc := 7) C hex (by decide +kernel) rfl rfl rfl (by decide) (by decide +kernel) (by decide +kernel) (by decide) zac_0 (by decide +kernel) (show zc_121.length + 1 ≤ zc_125.length by decide +kernel) (show zz_sl zc_121 + 121 ≤ zz_sl zc_125 by decide +kernel) d_Text_init_7 ?_
    refine zz_putFK (sh' := zc_123) (fs := [none, some none, some none]) (pc := 9) C zl_9_11 (by decide +kernel) rfl (by decide +kernel) (by decide +kernel) rfl (by decide +kernel) (zft_ref 9 1 (by decide +kernel)) (zft_ref2 9 1 (by decide +kernel)) rfl d_Text_init_9 ?_
    refine zz_aload_n (i := 0) (pc := 12) C rfl rfl d_Text_init_12 ?_
    refine zz_bipush (pc := 13) C zkb_122 d_Text_init_13 ?_
    refine zz_newaK (t := 0) (nn := 60) (n := 122) (sh' := zc_124) (σ' := zg_65 s) (pc := 15) C hex (by decide +kernel) rfl rfl rfl (by decide) (by decide +kernel) (by decide +kernel) (by decide) zac_0 (by decide +kernel) (show zc_123.length + 1 ≤ zc_125.length by decide +kernel) (show zz_sl zc_123 + 122 ≤ zz_sl zc_125 by decide +kernel) d_Text_init_15 ?_
    refine zz_putFK (sh' := zc_125) (fs := [none, some (some 59), some none]) (pc := 17) C zl_9_15 (by decide +kernel) rfl (by decide +kernel) (by decide +kernel) rfl (by decide +kernel) (zft_ref 9 2 (by decide +kernel)) (zft_ref2 9 2 (by decide +kernel)) rfl d_Text_init_17 ?_
    exact zz_ret (pc := 20) C (v := none) d_Text_init_20 (Or.inr (Or.inr (Or.inr ⟨rfl, rfl, rfl⟩))) rfl)
set_option maxHeartbeats 4000000 in
set_option maxRecDepth 100000 in
theorem zk_13 {G : zz_G} {l : Launch} {s : zz_S} (hex : G.2.2.2.2 = true) : zz_M G l 20 y_Text_init prog_11_method_1_code 1 none [.ref 61] zc_127 (zg_66 s) (none, zc_131, zg_68 s) :=
  zz_M.intro (by decide) (Nat.le_of_ble_eq_true rfl) (show zc_127.length ≤ zc_131.length by decide +kernel) (show zz_sl zc_127 ≤ zz_sl zc_131 by decide +kernel) (fun Z C => by
    change Z 0 [some (.ref 61)] [] zc_127 (zg_66 s)
    refine zz_aload_n (i := 0) (pc := 0) C rfl rfl d_Text_init_0 ?_
    refine zz_obj (st := []) (pc := 1) C zl_9_3 zob_1 zob_2 (by omega) (Nat.le_of_ble_eq_true rfl) d_Text_init_1 ?_
    refine zz_aload_n (i := 0) (pc := 4) C rfl rfl d_Text_init_4 ?_
    refine zz_bipush (pc := 5) C zkb_121 d_Text_init_5 ?_
    refine zz_newaK (t := 0) (nn := 62) (n := 121) (sh' := zc_128) (σ' := zg_67 s) (pc := 7) C hex (by decide +kernel) rfl rfl rfl (by decide) (by decide +kernel) (by decide +kernel) (by decide) zac_0 (by decide +kernel) (show zc_127.length + 1 ≤ zc_131.length by decide +kernel) (show zz_sl zc_127 + 121 ≤ zz_sl zc_131 by decide +kernel) d_Text_init_7 ?_
    refine zz_putFK (sh' := zc_129) (fs := [none, some none, some none]) (pc := 9) C zl_9_11 (by decide +kernel) rfl (by decide +kernel) (by decide +kernel) rfl (by decide +kernel) (zft_ref 9 1 (by decide +kernel)) (zft_ref2 9 1 (by decide +kernel)) rfl d_Text_init_9 ?_
    refine zz_aload_n (i := 0) (pc := 12) C rfl rfl d_Text_init_12 ?_
    refine zz_bipush (pc := 13) C zkb_122 d_Text_init_13 ?_
    refine zz_newaK (t := 0) (nn := 63) (n := 122) (sh' := zc_130) (σ' := zg_68 s) (pc := 15) C hex (by decide +kernel) rfl rfl rfl (by decide) (by decide +kernel) (by decide +kernel) (by decide) zac_0 (by decide +kernel) (show zc_129.length + 1 ≤ zc_131.length by decide +kernel) (show zz_sl zc_129 + 122 ≤ zz_sl zc_131 by decide +kernel) d_Text_init_15 ?_
    refine zz_putFK (sh' := zc_131) (fs := [none, some (some 62), some none]) (pc := 17) C zl_9_15 (by decide +kernel) rfl (by decide +kernel) (by decide +kernel) rfl (by decide +kernel) (zft_ref 9 2 (by decide +kernel)) (zft_ref2 9 2 (by decide +kernel)) rfl d_Text_init_17 ?_
    exact zz_ret (pc := 20) C (v := none) d_Text_init_20 (Or.inr (Or.inr (Or.inr ⟨rfl, rfl, rfl⟩))) rfl)
set_option maxHeartbeats 4000000 in
set_option maxRecDepth 100000 in
theorem zk_14 {G : zz_G} {l : Launch} {s : zz_S} (hex : G.2.2.2.2 = true) : zz_M G l 20 y_Text_init prog_11_method_1_code 1 none [.ref 64] zc_133 (zg_69 s) (none, zc_137, zg_71 s) :=
  zz_M.intro (by decide) (Nat.le_of_ble_eq_true rfl) (show zc_133.length ≤ zc_137.length by decide +kernel) (show zz_sl zc_133 ≤ zz_sl zc_137 by decide +kernel) (fun Z C => by
    change Z 0 [some (.ref 64)] [] zc_133 (zg_69 s)
    refine zz_aload_n (i := 0) (pc := 0) C rfl rfl d_Text_init_0 ?_
    refine zz_obj (st := []) (pc := 1) C zl_9_3 zob_1 zob_2 (by omega) (Nat.le_of_ble_eq_true rfl) d_Text_init_1 ?_
    refine zz_aload_n (i := 0) (pc := 4) C rfl rfl d_Text_init_4 ?_
    refine zz_bipush (pc := 5) C zkb_121 d_Text_init_5 ?_
    refine zz_newaK (t := 0) (nn := 65) (n := 121) (sh' := zc_134) (σ' := zg_70 s) (pc := 7) C hex (by decide +kernel) rfl rfl rfl (by decide) (by decide +kernel) (by decide +kernel) (by decide) zac_0 (by decide +kernel) (show zc_133.length + 1 ≤ zc_137.length by decide +kernel) (show zz_sl zc_133 + 121 ≤ zz_sl zc_137 by decide +kernel) d_Text_init_7 ?_
    refine zz_putFK (sh' := zc_135) (fs := [none, some none, some none]) (pc := 9) C zl_9_11 (by decide +kernel) rfl (by decide +kernel) (by decide +kernel) rfl (by decide +kernel) (zft_ref 9 1 (by decide +kernel)) (zft_ref2 9 1 (by decide +kernel)) rfl d_Text_init_9 ?_
    refine zz_aload_n (i := 0) (pc := 12) C rfl rfl d_Text_init_12 ?_
    refine zz_bipush (pc := 13) C zkb_122 d_Text_init_13 ?_
    refine zz_newaK (t := 0) (nn := 66) (n := 122) (sh' := zc_136) (σ' := zg_71 s) (pc := 15) C hex (by decide +kernel) rfl rfl rfl (by decide) (by decide +kernel) (by decide +kernel) (by decide) zac_0 (by decide +kernel) (show zc_135.length + 1 ≤ zc_137.length by decide +kernel) (show zz_sl zc_135 + 122 ≤ zz_sl zc_137 by decide +kernel) d_Text_init_15 ?_
    refine zz_putFK (sh' := zc_137) (fs := [none, some (some 65), some none]) (pc := 17) C zl_9_15 (by decide +kernel) rfl (by decide +kernel) (by decide +kernel) rfl (by decide +kernel) (zft_ref 9 2 (by decide +kernel)) (zft_ref2 9 2 (by decide +kernel)) rfl d_Text_init_17 ?_
    exact zz_ret (pc := 20) C (v := none) d_Text_init_20 (Or.inr (Or.inr (Or.inr ⟨rfl, rfl, rfl⟩))) rfl)
theorem d_Shelf_init_0 : decode prog_8_method_1_code 0 = .ok (.aload_n 0, 1) := by decide +kernel
theorem d_Shelf_init_1 : decode prog_8_method_1_code 1 = .ok (.invokespecial 3, 3) := by decide +kernel
theorem d_Shelf_init_4 : decode prog_8_method_1_code 4 = .ok (.aload_n 0, 1) := by decide +kernel
theorem d_Shelf_init_5 : decode prog_8_method_1_code 5 = .ok (.iconst 0, 1) := by decide +kernel
theorem d_Shelf_init_6 : decode prog_8_method_1_code 6 = .ok (.putfield 11, 3) := by decide +kernel
theorem d_Shelf_init_9 : decode prog_8_method_1_code 9 = .ok (.aload_n 0, 1) := by decide +kernel
theorem d_Shelf_init_10 : decode prog_8_method_1_code 10 = .ok (.bipush (60), 2) := by decide +kernel
theorem d_Shelf_init_12 : decode prog_8_method_1_code 12 = .ok (.newarray .long, 2) := by decide +kernel
theorem d_Shelf_init_14 : decode prog_8_method_1_code 14 = .ok (.putfield 15, 3) := by decide +kernel
theorem d_Shelf_init_17 : decode prog_8_method_1_code 17 = .ok (.return_, 1) := by decide +kernel
set_option maxHeartbeats 4000000 in
set_option maxRecDepth 100000 in
theorem zk_15 {G : zz_G} {l : Launch} {s : zz_S} (hex : G.2.2.2.2 = true) : zz_M G l 20 y_Shelf_init prog_8_method_1_code 1 none [.ref 67] zc_139 (zg_72 s) (none, zc_141, zg_74 s) :=
  zz_M.intro (by decide) (Nat.le_of_ble_eq_true rfl) (show zc_139.length ≤ zc_141.length by decide +kernel) (show zz_sl zc_139 ≤ zz_sl zc_141 by decide +kernel) (fun Z C => by
    change Z 0 [some (.ref 67)] [] zc_139 (zg_72 s)
    refine zz_aload_n (i := 0) (pc := 0) C rfl rfl d_Shelf_init_0 ?_
    refine zz_obj (st := []) (pc := 1) C zl_6_3 zob_1 zob_2 (by omega) (Nat.le_of_ble_eq_true rfl) d_Shelf_init_1 ?_
    refine zz_aload_n (i := 0) (pc := 4) C rfl rfl d_Shelf_init_4 ?_
    refine zz_iconst (pc := 5) C zki_0 d_Shelf_init_5 ?_
    refine zz_putI' (σ := zg_72 s) (pc := 6) C zl_6_11 zpf_6_0 (fs := [none, none, none, none, some none]) (by decide +kernel) rfl d_Shelf_init_6 ?_
    change Z 9 [some (.ref 67)] [] zc_139 (zg_73 s)
    refine zz_aload_n (i := 0) (pc := 9) C rfl rfl d_Shelf_init_9 ?_
    refine zz_bipush (pc := 10) C zkb_60 d_Shelf_init_10 ?_
    refine zz_newaK (t := 3) (nn := 68) (n := 60) (sh' := zc_140) (σ' := zg_74 s) (pc := 12) C hex (by decide +kernel) rfl rfl rfl (by decide) (by decide +kernel) (by decide +kernel) (by decide) zac_3 (by decide +kernel) (show zc_139.length + 1 ≤ zc_141.length by decide +kernel) (show zz_sl zc_139 + 60 ≤ zz_sl zc_141 by decide +kernel) d_Shelf_init_12 ?_
    refine zz_putFK (sh' := zc_141) (fs := [none, none, none, none, some none]) (pc := 14) C zl_6_15 (by decide +kernel) rfl (by decide +kernel) (by decide +kernel) rfl (by decide +kernel) (zft_ref 6 4 (by decide +kernel)) (zft_ref2 6 4 (by decide +kernel)) rfl d_Shelf_init_14 ?_
    exact zz_ret (pc := 17) C (v := none) d_Shelf_init_17 (Or.inr (Or.inr (Or.inr ⟨rfl, rfl, rfl⟩))) rfl)
set_option maxHeartbeats 4000000 in
set_option maxRecDepth 100000 in
theorem zk_16 {G : zz_G} {l : Launch} {s : zz_S} (hex : G.2.2.2.2 = true) : zz_M G l 20 y_Shelf_init prog_8_method_1_code 1 none [.ref 69] zc_143 (zg_75 s) (none, zc_145, zg_77 s) :=
  zz_M.intro (by decide) (Nat.le_of_ble_eq_true rfl) (show zc_143.length ≤ zc_145.length by decide +kernel) (show zz_sl zc_143 ≤ zz_sl zc_145 by decide +kernel) (fun Z C => by
    change Z 0 [some (.ref 69)] [] zc_143 (zg_75 s)
    refine zz_aload_n (i := 0) (pc := 0) C rfl rfl d_Shelf_init_0 ?_
    refine zz_obj (st := []) (pc := 1) C zl_6_3 zob_1 zob_2 (by omega) (Nat.le_of_ble_eq_true rfl) d_Shelf_init_1 ?_
    refine zz_aload_n (i := 0) (pc := 4) C rfl rfl d_Shelf_init_4 ?_
    refine zz_iconst (pc := 5) C zki_0 d_Shelf_init_5 ?_
    refine zz_putI' (σ := zg_75 s) (pc := 6) C zl_6_11 zpf_6_0 (fs := [none, none, none, none, some none]) (by decide +kernel) rfl d_Shelf_init_6 ?_
    change Z 9 [some (.ref 69)] [] zc_143 (zg_76 s)
    refine zz_aload_n (i := 0) (pc := 9) C rfl rfl d_Shelf_init_9 ?_
    refine zz_bipush (pc := 10) C zkb_60 d_Shelf_init_10 ?_
    refine zz_newaK (t := 3) (nn := 70) (n := 60) (sh' := zc_144) (σ' := zg_77 s) (pc := 12) C hex (by decide +kernel) rfl rfl rfl (by decide) (by decide +kernel) (by decide +kernel) (by decide) zac_3 (by decide +kernel) (show zc_143.length + 1 ≤ zc_145.length by decide +kernel) (show zz_sl zc_143 + 60 ≤ zz_sl zc_145 by decide +kernel) d_Shelf_init_12 ?_
    refine zz_putFK (sh' := zc_145) (fs := [none, none, none, none, some none]) (pc := 14) C zl_6_15 (by decide +kernel) rfl (by decide +kernel) (by decide +kernel) rfl (by decide +kernel) (zft_ref 6 4 (by decide +kernel)) (zft_ref2 6 4 (by decide +kernel)) rfl d_Shelf_init_14 ?_
    exact zz_ret (pc := 17) C (v := none) d_Shelf_init_17 (Or.inr (Or.inr (Or.inr ⟨rfl, rfl, rfl⟩))) rfl)
set_option maxHeartbeats 4000000 in
set_option maxRecDepth 100000 in
theorem zk_17 {G : zz_G} {l : Launch} {s : zz_S} (hex : G.2.2.2.2 = true) : zz_M G l 20 y_Shelf_init prog_8_method_1_code 1 none [.ref 71] zc_147 (zg_78 s) (none, zc_149, zg_80 s) :=
  zz_M.intro (by decide) (Nat.le_of_ble_eq_true rfl) (show zc_147.length ≤ zc_149.length by decide +kernel) (show zz_sl zc_147 ≤ zz_sl zc_149 by decide +kernel) (fun Z C => by
    change Z 0 [some (.ref 71)] [] zc_147 (zg_78 s)
    refine zz_aload_n (i := 0) (pc := 0) C rfl rfl d_Shelf_init_0 ?_
    refine zz_obj (st := []) (pc := 1) C zl_6_3 zob_1 zob_2 (by omega) (Nat.le_of_ble_eq_true rfl) d_Shelf_init_1 ?_
    refine zz_aload_n (i := 0) (pc := 4) C rfl rfl d_Shelf_init_4 ?_
    refine zz_iconst (pc := 5) C zki_0 d_Shelf_init_5 ?_
    refine zz_putI' (σ := zg_78 s) (pc := 6) C zl_6_11 zpf_6_0 (fs := [none, none, none, none, some none]) (by decide +kernel) rfl d_Shelf_init_6 ?_
    change Z 9 [some (.ref 71)] [] zc_147 (zg_79 s)
    refine zz_aload_n (i := 0) (pc := 9) C rfl rfl d_Shelf_init_9 ?_
    refine zz_bipush (pc := 10) C zkb_60 d_Shelf_init_10 ?_
    refine zz_newaK (t := 3) (nn := 72) (n := 60) (sh' := zc_148) (σ' := zg_80 s) (pc := 12) C hex (by decide +kernel) rfl rfl rfl (by decide) (by decide +kernel) (by decide +kernel) (by decide) zac_3 (by decide +kernel) (show zc_147.length + 1 ≤ zc_149.length by decide +kernel) (show zz_sl zc_147 + 60 ≤ zz_sl zc_149 by decide +kernel) d_Shelf_init_12 ?_
    refine zz_putFK (sh' := zc_149) (fs := [none, none, none, none, some none]) (pc := 14) C zl_6_15 (by decide +kernel) rfl (by decide +kernel) (by decide +kernel) rfl (by decide +kernel) (zft_ref 6 4 (by decide +kernel)) (zft_ref2 6 4 (by decide +kernel)) rfl d_Shelf_init_14 ?_
    exact zz_ret (pc := 17) C (v := none) d_Shelf_init_17 (Or.inr (Or.inr (Or.inr ⟨rfl, rfl, rfl⟩))) rfl)
set_option maxHeartbeats 4000000 in
set_option maxRecDepth 100000 in
theorem zk_18 {G : zz_G} {l : Launch} {s : zz_S} (hex : G.2.2.2.2 = true) : zz_M G l 20 y_Shelf_init prog_8_method_1_code 1 none [.ref 73] zc_151 (zg_81 s) (none, zc_153, zg_83 s) :=
  zz_M.intro (by decide) (Nat.le_of_ble_eq_true rfl) (show zc_151.length ≤ zc_153.length by decide +kernel) (show zz_sl zc_151 ≤ zz_sl zc_153 by decide +kernel) (fun Z C => by
    change Z 0 [some (.ref 73)] [] zc_151 (zg_81 s)
    refine zz_aload_n (i := 0) (pc := 0) C rfl rfl d_Shelf_init_0 ?_
    refine zz_obj (st := []) (pc := 1) C zl_6_3 zob_1 zob_2 (by omega) (Nat.le_of_ble_eq_true rfl) d_Shelf_init_1 ?_
    refine zz_aload_n (i := 0) (pc := 4) C rfl rfl d_Shelf_init_4 ?_
    refine zz_iconst (pc := 5) C zki_0 d_Shelf_init_5 ?_
    refine zz_putI' (σ := zg_81 s) (pc := 6) C zl_6_11 zpf_6_0 (fs := [none, none, none, none, some none]) (by decide +kernel) rfl d_Shelf_init_6 ?_
    change Z 9 [some (.ref 73)] [] zc_151 (zg_82 s)
    refine zz_aload_n (i := 0) (pc := 9) C rfl rfl d_Shelf_init_9 ?_
    refine zz_bipush (pc := 10) C zkb_60 d_Shelf_init_10 ?_
    refine zz_newaK (t := 3) (nn := 74) (n := 60) (sh' := zc_152) (σ' := zg_83 s) (pc := 12) C hex (by decide +kernel) rfl rfl rfl (by decide) (by decide +kernel) (by decide +kernel) (by decide) zac_3 (by decide +kernel) (show zc_151.length + 1 ≤ zc_153.length by decide +kernel) (show zz_sl zc_151 + 60 ≤ zz_sl zc_153 by decide +kernel) d_Shelf_init_12 ?_
    refine zz_putFK (sh' := zc_153) (fs := [none, none, none, none, some none]) (pc := 14) C zl_6_15 (by decide +kernel) rfl (by decide +kernel) (by decide +kernel) rfl (by decide +kernel) (zft_ref 6 4 (by decide +kernel)) (zft_ref2 6 4 (by decide +kernel)) rfl d_Shelf_init_14 ?_
    exact zz_ret (pc := 17) C (v := none) d_Shelf_init_17 (Or.inr (Or.inr (Or.inr ⟨rfl, rfl, rfl⟩))) rfl)
set_option maxHeartbeats 4000000 in
set_option maxRecDepth 100000 in
theorem zk_19 {G : zz_G} {l : Launch} {s : zz_S} (hex : G.2.2.2.2 = true) : zz_M G l 20 y_Shelf_init prog_8_method_1_code 1 none [.ref 75] zc_155 (zg_84 s) (none, zc_157, zg_86 s) :=
  zz_M.intro (by decide) (Nat.le_of_ble_eq_true rfl) (show zc_155.length ≤ zc_157.length by decide +kernel) (show zz_sl zc_155 ≤ zz_sl zc_157 by decide +kernel) (fun Z C => by
    change Z 0 [some (.ref 75)] [] zc_155 (zg_84 s)
    refine zz_aload_n (i := 0) (pc := 0) C rfl rfl d_Shelf_init_0 ?_
    refine zz_obj (st := []) (pc := 1) C zl_6_3 zob_1 zob_2 (by omega) (Nat.le_of_ble_eq_true rfl) d_Shelf_init_1 ?_
    refine zz_aload_n (i := 0) (pc := 4) C rfl rfl d_Shelf_init_4 ?_
    refine zz_iconst (pc := 5) C zki_0 d_Shelf_init_5 ?_
    refine zz_putI' (σ := zg_84 s) (pc := 6) C zl_6_11 zpf_6_0 (fs := [none, none, none, none, some none]) (by decide +kernel) rfl d_Shelf_init_6 ?_
    change Z 9 [some (.ref 75)] [] zc_155 (zg_85 s)
    refine zz_aload_n (i := 0) (pc := 9) C rfl rfl d_Shelf_init_9 ?_
    refine zz_bipush (pc := 10) C zkb_60 d_Shelf_init_10 ?_
    refine zz_newaK (t := 3) (nn := 76) (n := 60) (sh' := zc_156) (σ' := zg_86 s) (pc := 12) C hex (by decide +kernel) rfl rfl rfl (by decide) (by decide +kernel) (by decide +kernel) (by decide) zac_3 (by decide +kernel) (show zc_155.length + 1 ≤ zc_157.length by decide +kernel) (show zz_sl zc_155 + 60 ≤ zz_sl zc_157 by decide +kernel) d_Shelf_init_12 ?_
    refine zz_putFK (sh' := zc_157) (fs := [none, none, none, none, some none]) (pc := 14) C zl_6_15 (by decide +kernel) rfl (by decide +kernel) (by decide +kernel) rfl (by decide +kernel) (zft_ref 6 4 (by decide +kernel)) (zft_ref2 6 4 (by decide +kernel)) rfl d_Shelf_init_14 ?_
    exact zz_ret (pc := 17) C (v := none) d_Shelf_init_17 (Or.inr (Or.inr (Or.inr ⟨rfl, rfl, rfl⟩))) rfl)
set_option maxHeartbeats 4000000 in
set_option maxRecDepth 100000 in
theorem zk_20 {G : zz_G} {l : Launch} {s : zz_S} (hex : G.2.2.2.2 = true) : zz_M G l 20 y_Shelf_init prog_8_method_1_code 1 none [.ref 77] zc_159 (zg_87 s) (none, zc_161, zg_89 s) :=
  zz_M.intro (by decide) (Nat.le_of_ble_eq_true rfl) (show zc_159.length ≤ zc_161.length by decide +kernel) (show zz_sl zc_159 ≤ zz_sl zc_161 by decide +kernel) (fun Z C => by
    change Z 0 [some (.ref 77)] [] zc_159 (zg_87 s)
    refine zz_aload_n (i := 0) (pc := 0) C rfl rfl d_Shelf_init_0 ?_
    refine zz_obj (st := []) (pc := 1) C zl_6_3 zob_1 zob_2 (by omega) (Nat.le_of_ble_eq_true rfl) d_Shelf_init_1 ?_
    refine zz_aload_n (i := 0) (pc := 4) C rfl rfl d_Shelf_init_4 ?_
    refine zz_iconst (pc := 5) C zki_0 d_Shelf_init_5 ?_
    refine zz_putI' (σ := zg_87 s) (pc := 6) C zl_6_11 zpf_6_0 (fs := [none, none, none, none, some none]) (by decide +kernel) rfl d_Shelf_init_6 ?_
    change Z 9 [some (.ref 77)] [] zc_159 (zg_88 s)
    refine zz_aload_n (i := 0) (pc := 9) C rfl rfl d_Shelf_init_9 ?_
    refine zz_bipush (pc := 10) C zkb_60 d_Shelf_init_10 ?_
    refine zz_newaK (t := 3) (nn := 78) (n := 60) (sh' := zc_160) (σ' := zg_89 s) (pc := 12) C hex (by decide +kernel) rfl rfl rfl (by decide) (by decide +kernel) (by decide +kernel) (by decide) zac_3 (by decide +kernel) (show zc_159.length + 1 ≤ zc_161.length by decide +kernel) (show zz_sl zc_159 + 60 ≤ zz_sl zc_161 by decide +kernel) d_Shelf_init_12 ?_
    refine zz_putFK (sh' := zc_161) (fs := [none, none, none, none, some none]) (pc := 14) C zl_6_15 (by decide +kernel) rfl (by decide +kernel) (by decide +kernel) rfl (by decide +kernel) (zft_ref 6 4 (by decide +kernel)) (zft_ref2 6 4 (by decide +kernel)) rfl d_Shelf_init_14 ?_
    exact zz_ret (pc := 17) C (v := none) d_Shelf_init_17 (Or.inr (Or.inr (Or.inr ⟨rfl, rfl, rfl⟩))) rfl)
set_option maxHeartbeats 4000000 in
set_option maxRecDepth 100000 in
theorem zk_21 {G : zz_G} {l : Launch} {s : zz_S} (hex : G.2.2.2.2 = true) : zz_M G l 60 y_B_init prog_1_method_1_code 2 none [.ref 0] zc_1 (zg_1 s) (none, zc_162, zg_89 s) :=
  zz_M.intro (by decide) (Nat.le_of_ble_eq_true rfl) (show zc_1.length ≤ zc_162.length by decide +kernel) (show zz_sl zc_1 ≤ zz_sl zc_162 by decide +kernel) (fun Z C => by
    change Z 0 [some (.ref 0), none] [] zc_1 (zg_1 s)
    refine zz_aload_n (i := 0) (pc := 0) C rfl rfl d_B_init_0 ?_
    refine zz_obj (st := []) (pc := 1) C zl_11_3 zob_1 zob_2 (by omega) (Nat.le_of_ble_eq_true rfl) d_B_init_1 ?_
    refine zz_aload_n (i := 0) (pc := 4) C rfl rfl d_B_init_4 ?_
    refine zz_newK (n := 1) (sh' := zc_2) (σ' := zg_2 s) (pc := 5) C hex (by decide +kernel) rfl rfl rfl zbl_0 zl_11_9 zin_0 zit_0 (by decide +kernel) (show zc_1.length + 1 ≤ zc_162.length by decide +kernel) (show zz_sl zc_1 + zz_N 0 ≤ zz_sl zc_162 by decide +kernel) d_B_init_5 ?_
    refine zz_dup (pc := 8) C rfl d_B_init_8 ?_
    refine zz_callIN (st := [.ref 1, .ref 0]) (o := 1) (c0 := .inl (0, [none, none, none, some none, some none, some none, some none, some none, some none, some none, some none])) (as := []) (fc := (none, zc_18, zg_11 s)) (pc := 9) C (by decide +kernel) zl_11_11n zci_Bed_init.2 rfl rfl (zk_1 hex) zci_Bed_init.1 rfl (by omega) (show zc_18.length ≤ zc_162.length by decide +kernel) (show zz_sl zc_18 ≤ zz_sl zc_162 by decide +kernel) (Nat.le_of_ble_eq_true rfl) d_B_init_9 ?_ rfl
    change Z 12 [some (.ref 0), none] [.ref 1, .ref 0] zc_18 (zg_11 s)
    refine zz_putFK (sh' := zc_19) (fs := [some none, some none, some none, some none, some none, some none, some none, some none, some none, some none, some none, none, none]) (pc := 12) C zl_11_12 (by decide +kernel) rfl (by decide +kernel) (by decide +kernel) rfl (by decide +kernel) (zft_ref 11 0 (by decide +kernel)) (zft_ref2 11 0 (by decide +kernel)) rfl d_B_init_12 ?_
    refine zz_aload_n (i := 0) (pc := 15) C rfl rfl d_B_init_15 ?_
    refine zz_newK (n := 10) (sh' := zc_20) (σ' := zg_12 s) (pc := 16) C hex (by decide +kernel) rfl rfl rfl zbl_10 zl_11_16 zin_10 zit_10 (by decide +kernel) (show zc_19.length + 1 ≤ zc_162.length by decide +kernel) (show zz_sl zc_19 + zz_N 10 ≤ zz_sl zc_162 by decide +kernel) d_B_init_16 ?_
    refine zz_dup (pc := 19) C rfl d_B_init_19 ?_
    refine zz_callIN (st := [.ref 10, .ref 0]) (o := 10) (c0 := .inl (10, [none, some none, some none, some none, some none])) (as := []) (fc := (none, zc_28, zg_16 s)) (pc := 20) C (by decide +kernel) zl_11_18n zci_Turns_init.2 rfl rfl (zk_2 hex) zci_Turns_init.1 rfl (by omega) (show zc_28.length ≤ zc_162.length by decide +kernel) (show zz_sl zc_28 ≤ zz_sl zc_162 by decide +kernel) (Nat.le_of_ble_eq_true rfl) d_B_init_20 ?_ rfl
    change Z 23 [some (.ref 0), none] [.ref 10, .ref 0] zc_28 (zg_16 s)
    refine zz_putFK (sh' := zc_29) (fs := [some (some 1), some none, some none, some none, some none, some none, some none, some none, some none, some none, some none, none, none]) (pc := 23) C zl_11_19 (by decide +kernel) rfl (by decide +kernel) (by decide +kernel) rfl (by decide +kernel) (zft_ref 11 1 (by decide +kernel)) (zft_ref2 11 1 (by decide +kernel)) rfl d_B_init_23 ?_
    refine zz_aload_n (i := 0) (pc := 26) C rfl rfl d_B_init_26 ?_
    refine zz_newK (n := 15) (sh' := zc_30) (σ' := zg_17 s) (pc := 27) C hex (by decide +kernel) rfl rfl rfl zbl_5 zl_11_23 zin_5 zit_5 (by decide +kernel) (show zc_29.length + 1 ≤ zc_162.length by decide +kernel) (show zz_sl zc_29 + zz_N 5 ≤ zz_sl zc_162 by decide +kernel) d_B_init_27 ?_
    refine zz_dup (pc := 30) C rfl d_B_init_30 ?_
    refine zz_callI (st := [.ref 15, .ref 0]) (o := 15) (c0 := .inl (5, [some none, some none, some none])) (as := []) (fc := (none, zc_36, zg_22 s)) (pc := 31) C (by decide +kernel) zl_11_25 zci_Room_init.2 rfl rfl (zk_3 hex) zci_Room_init.1 rfl (by omega) (show zc_36.length ≤ zc_162.length by decide +kernel) (show zz_sl zc_36 ≤ zz_sl zc_162 by decide +kernel) (Nat.le_of_ble_eq_true rfl) d_B_init_31 ?_ rfl
    change Z 34 [some (.ref 0), none] [.ref 15, .ref 0] zc_36 (zg_22 s)
    refine zz_putFK (sh' := zc_37) (fs := [some (some 1), some (some 10), some none, some none, some none, some none, some none, some none, some none, some none, some none, none, none]) (pc := 34) C zl_11_26 (by decide +kernel) rfl (by decide +kernel) (by decide +kernel) rfl (by decide +kernel) (zft_ref 11 2 (by decide +kernel)) (zft_ref2 11 2 (by decide +kernel)) rfl d_B_init_34 ?_
    refine zz_aload_n (i := 0) (pc := 37) C rfl rfl d_B_init_37 ?_
    refine zz_iconst (pc := 38) C zki_4 d_B_init_38 ?_
    refine zz_newqK (t := 4) (nn := 19) (n := 4) (sh' := zc_38) (σ' := zg_23 s) (pc := 39) C hex (by decide +kernel) rfl rfl rfl ⟨by decide, by decide⟩ (by decide) (by decide) (by decide) (by decide) zl_11_30 (by decide +kernel) (show zc_37.length + 1 ≤ zc_162.length by decide +kernel) (show zz_sl zc_37 + 4 ≤ zz_sl zc_162 by decide +kernel) d_B_init_39 ?_
    refine zz_putFK (sh' := zc_39) (fs := [some (some 1), some (some 10), some (some 15), some none, some none, some none, some none, some none, some none, some none, some none, none, none]) (pc := 42) C zl_11_32 (by decide +kernel) rfl (by decide +kernel) (by decide +kernel) rfl (by decide +kernel) (zft_ref 11 3 (by decide +kernel)) (zft_ref2 11 3 (by decide +kernel)) rfl d_B_init_42 ?_
    refine zz_aload_n (i := 0) (pc := 45) C rfl rfl d_B_init_45 ?_
    refine zz_newK (n := 20) (sh' := zc_40) (σ' := zg_24 s) (pc := 46) C hex (by decide +kernel) rfl rfl rfl zbl_4 zl_11_36 zin_4 zit_4 (by decide +kernel) (show zc_39.length + 1 ≤ zc_162.length by decide +kernel) (show zz_sl zc_39 + zz_N 4 ≤ zz_sl zc_162 by decide +kernel) d_B_init_46 ?_
    refine zz_dup (pc := 49) C rfl d_B_init_49 ?_
    refine zz_aload_n (i := 0) (pc := 50) C rfl rfl d_B_init_50 ?_
    refine zz_getR (pc := 51) C zl_11_12 (fs := [some (some 1), some (some 10), some (some 15), some (some 19), some none, some none, some none, some none, some none, some none, some none, none, none]) (by decide +kernel) rfl d_B_init_51 ?_
    refine zz_aload_n (i := 0) (pc := 54) C rfl rfl d_B_init_54 ?_
    refine zz_getR (pc := 55) C zl_11_19 (fs := [some (some 1), some (some 10), some (some 15), some (some 19), some none, some none, some none, some none, some none, some none, some none, none, none]) (by decide +kernel) rfl d_B_init_55 ?_
    refine zz_aload_n (i := 0) (pc := 58) C rfl rfl d_B_init_58 ?_
    refine zz_getR (pc := 59) C zl_11_26 (fs := [some (some 1), some (some 10), some (some 15), some (some 19), some none, some none, some none, some none, some none, some none, some none, none, none]) (by decide +kernel) rfl d_B_init_59 ?_
    refine zz_aload_n (i := 0) (pc := 62) C rfl rfl d_B_init_62 ?_
    refine zz_getR (pc := 63) C zl_11_32 (fs := [some (some 1), some (some 10), some (some 15), some (some 19), some none, some none, some none, some none, some none, some none, some none, none, none]) (by decide +kernel) rfl d_B_init_63 ?_
    refine zz_callI (st := [.ref 20, .ref 0]) (o := 20) (c0 := .inl (4, [some none, some none, some none, some none, some none, some none, some none, some none, some none, some none, none, none, none, none, none, none, none])) (as := [.ref 1, .ref 10, .ref 15, .ref 19]) (fc := (none, zc_81, zg_42 s)) (pc := 66) C (by decide +kernel) zl_11_38 zci_Night_init.2 rfl rfl (zk_6 hex) zci_Night_init.1 rfl (by omega) (show zc_81.length ≤ zc_162.length by decide +kernel) (show zz_sl zc_81 ≤ zz_sl zc_162 by decide +kernel) (Nat.le_of_ble_eq_true rfl) d_B_init_66 ?_ rfl
    change Z 69 [some (.ref 0), none] [.ref 20, .ref 0] zc_81 (zg_42 s)
    refine zz_putFK (sh' := zc_82) (fs := [some (some 1), some (some 10), some (some 15), some (some 19), some none, some none, some none, some none, some none, some none, some none, none, none]) (pc := 69) C zl_11_41 (by decide +kernel) rfl (by decide +kernel) (by decide +kernel) rfl (by decide +kernel) (zft_ref 11 4 (by decide +kernel)) (zft_ref2 11 4 (by decide +kernel)) rfl d_B_init_69 ?_
    refine zz_aload_n (i := 0) (pc := 72) C rfl rfl d_B_init_72 ?_
    refine zz_newK (n := 39) (sh' := zc_83) (σ' := zg_43 s) (pc := 73) C hex (by decide +kernel) rfl rfl rfl zbl_2 zl_11_45 zin_2 zit_2 (by decide +kernel) (show zc_82.length + 1 ≤ zc_162.length by decide +kernel) (show zz_sl zc_82 + zz_N 2 ≤ zz_sl zc_162 by decide +kernel) d_B_init_73 ?_
    refine zz_dup (pc := 76) C rfl d_B_init_76 ?_
    refine zz_callIN (st := [.ref 39, .ref 0]) (o := 39) (c0 := .inl (2, [none, none, some none, some none, some none, some none])) (as := []) (fc := (none, zc_91, zg_47 s)) (pc := 77) C (by decide +kernel) zl_11_47n zci_Changes_init.2 rfl rfl (zk_7 hex) zci_Changes_init.1 rfl (by omega) (show zc_91.length ≤ zc_162.length by decide +kernel) (show zz_sl zc_91 ≤ zz_sl zc_162 by decide +kernel) (Nat.le_of_ble_eq_true rfl) d_B_init_77 ?_ rfl
    change Z 80 [some (.ref 0), none] [.ref 39, .ref 0] zc_91 (zg_47 s)
    refine zz_putFK (sh' := zc_92) (fs := [some (some 1), some (some 10), some (some 15), some (some 19), some (some 20), some none, some none, some none, some none, some none, some none, none, none]) (pc := 80) C zl_11_48 (by decide +kernel) rfl (by decide +kernel) (by decide +kernel) rfl (by decide +kernel) (zft_ref 11 5 (by decide +kernel)) (zft_ref2 11 5 (by decide +kernel)) rfl d_B_init_80 ?_
    refine zz_aload_n (i := 0) (pc := 83) C rfl rfl d_B_init_83 ?_
    refine zz_newK (n := 44) (sh' := zc_93) (σ' := zg_48 s) (pc := 84) C hex (by decide +kernel) rfl rfl rfl zbl_8 zl_11_52 zin_8 zit_8 (by decide +kernel) (show zc_92.length + 1 ≤ zc_162.length by decide +kernel) (show zz_sl zc_92 + zz_N 8 ≤ zz_sl zc_162 by decide +kernel) d_B_init_84 ?_
    refine zz_dup (pc := 87) C rfl d_B_init_87 ?_
    refine zz_callIN (st := [.ref 44, .ref 0]) (o := 44) (c0 := .inl (8, [none, some none, some none, none, none])) (as := []) (fc := (none, zc_101, zg_52 s)) (pc := 88) C (by decide +kernel) zl_11_54n zci_Tape_init.2 rfl rfl (zk_9 hex) zci_Tape_init.1 rfl (by omega) (show zc_101.length ≤ zc_162.length by decide +kernel) (show zz_sl zc_101 ≤ zz_sl zc_162 by decide +kernel) (Nat.le_of_ble_eq_true rfl) d_B_init_88 ?_ rfl
    change Z 91 [some (.ref 0), none] [.ref 44, .ref 0] zc_101 (zg_52 s)
    refine zz_putFK (sh' := zc_102) (fs := [some (some 1), some (some 10), some (some 15), some (some 19), some (some 20), some (some 39), some none, some none, some none, some none, some none, none, none]) (pc := 91) C zl_11_55 (by decide +kernel) rfl (by decide +kernel) (by decide +kernel) rfl (by decide +kernel) (zft_ref 11 6 (by decide +kernel)) (zft_ref2 11 6 (by decide +kernel)) rfl d_B_init_91 ?_
    refine zz_aload_n (i := 0) (pc := 94) C rfl rfl d_B_init_94 ?_
    refine zz_newK (n := 49) (sh' := zc_103) (σ' := zg_53 s) (pc := 95) C hex (by decide +kernel) rfl rfl rfl zbl_1 zl_11_59 zin_1 zit_1 (by decide +kernel) (show zc_102.length + 1 ≤ zc_162.length by decide +kernel) (show zz_sl zc_102 + zz_N 1 ≤ zz_sl zc_162 by decide +kernel) d_B_init_95 ?_
    refine zz_dup (pc := 98) C rfl d_B_init_98 ?_
    refine zz_callIN (st := [.ref 49, .ref 0]) (o := 49) (c0 := .inl (1, [none, none, some none, some none])) (as := []) (fc := (none, zc_107, zg_55 s)) (pc := 99) C (by decide +kernel) zl_11_61n zci_Bodies_init.2 rfl rfl (zk_10 hex) zci_Bodies_init.1 rfl (by omega) (show zc_107.length ≤ zc_162.length by decide +kernel) (show zz_sl zc_107 ≤ zz_sl zc_162 by decide +kernel) (Nat.le_of_ble_eq_true rfl) d_B_init_99 ?_ rfl
    change Z 102 [some (.ref 0), none] [.ref 49, .ref 0] zc_107 (zg_55 s)
    refine zz_putFK (sh' := zc_108) (fs := [some (some 1), some (some 10), some (some 15), some (some 19), some (some 20), some (some 39), some (some 44), some none, some none, some none, some none, none, none]) (pc := 102) C zl_11_62 (by decide +kernel) rfl (by decide +kernel) (by decide +kernel) rfl (by decide +kernel) (zft_ref 11 7 (by decide +kernel)) (zft_ref2 11 7 (by decide +kernel)) rfl d_B_init_102 ?_
    refine zz_aload_n (i := 0) (pc := 105) C rfl rfl d_B_init_105 ?_
    refine zz_bipush (pc := 106) C zkb_6 d_B_init_106 ?_
    refine zz_newqK (t := 5) (nn := 52) (n := 6) (sh' := zc_109) (σ' := zg_56 s) (pc := 108) C hex (by decide +kernel) rfl rfl rfl ⟨by decide, by decide⟩ (by decide) (by decide) (by decide) (by decide) zl_11_66 (by decide +kernel) (show zc_108.length + 1 ≤ zc_162.length by decide +kernel) (show zz_sl zc_108 + 6 ≤ zz_sl zc_162 by decide +kernel) d_B_init_108 ?_
    refine zz_putFK (sh' := zc_110) (fs := [some (some 1), some (some 10), some (some 15), some (some 19), some (some 20), some (some 39), some (some 44), some (some 49), some none, some none, some none, none, none]) (pc := 111) C zl_11_68 (by decide +kernel) rfl (by decide +kernel) (by decide +kernel) rfl (by decide +kernel) (zft_ref 11 8 (by decide +kernel)) (zft_ref2 11 8 (by decide +kernel)) rfl d_B_init_111 ?_
    refine zz_aload_n (i := 0) (pc := 114) C rfl rfl d_B_init_114 ?_
    refine zz_bipush (pc := 115) C zkb_6 d_B_init_115 ?_
    refine zz_newaK (t := 0) (nn := 53) (n := 6) (sh' := zc_111) (σ' := zg_57 s) (pc := 117) C hex (by decide +kernel) rfl rfl rfl (by decide) (by decide +kernel) (by decide +kernel) (by decide) zac_0 (by decide +kernel) (show zc_110.length + 1 ≤ zc_162.length by decide +kernel) (show zz_sl zc_110 + 6 ≤ zz_sl zc_162 by decide +kernel) d_B_init_117 ?_
    refine zz_putFK (sh' := zc_112) (fs := [some (some 1), some (some 10), some (some 15), some (some 19), some (some 20), some (some 39), some (some 44), some (some 49), some (some 52), some none, some none, none, none]) (pc := 119) C zl_11_72 (by decide +kernel) rfl (by decide +kernel) (by decide +kernel) rfl (by decide +kernel) (zft_ref 11 9 (by decide +kernel)) (zft_ref2 11 9 (by decide +kernel)) rfl d_B_init_119 ?_
    refine zz_aload_n (i := 0) (pc := 122) C rfl rfl d_B_init_122 ?_
    refine zz_bipush (pc := 123) C zkb_6 d_B_init_123 ?_
    refine zz_newaK (t := 0) (nn := 54) (n := 6) (sh' := zc_113) (σ' := zg_58 s) (pc := 125) C hex (by decide +kernel) rfl rfl rfl (by decide) (by decide +kernel) (by decide +kernel) (by decide) zac_0 (by decide +kernel) (show zc_112.length + 1 ≤ zc_162.length by decide +kernel) (show zz_sl zc_112 + 6 ≤ zz_sl zc_162 by decide +kernel) d_B_init_125 ?_
    refine zz_putFK (sh' := zc_114) (fs := [some (some 1), some (some 10), some (some 15), some (some 19), some (some 20), some (some 39), some (some 44), some (some 49), some (some 52), some (some 53), some none, none, none]) (pc := 127) C zl_11_76 (by decide +kernel) rfl (by decide +kernel) (by decide +kernel) rfl (by decide +kernel) (zft_ref 11 10 (by decide +kernel)) (zft_ref2 11 10 (by decide +kernel)) rfl d_B_init_127 ?_
    refine zz_aload_n (i := 0) (pc := 130) C rfl rfl d_B_init_130 ?_
    refine zz_iconst (pc := 131) C zki_m1 d_B_init_131 ?_
    refine zz_putI' (σ := zg_58 s) (pc := 132) C zl_11_79 zpf_11_12 (fs := [some (some 1), some (some 10), some (some 15), some (some 19), some (some 20), some (some 39), some (some 44), some (some 49), some (some 52), some (some 53), some (some 54), none, none]) (by decide +kernel) rfl d_B_init_132 ?_
    change Z 135 [some (.ref 0), none] [] zc_114 (zg_59 s)
    refine zz_iconst (pc := 135) C zki_0 d_B_init_135 ?_
    refine zz_istore_n (i := 1) (lo' := [some (.ref 0), some (.int (0 : Int32))]) (pc := 136) C rfl (Nat.le_of_ble_eq_true rfl) rfl rfl d_B_init_136 ?_
    refine zz_iload_n (i := 1) (pc := 137) C rfl rfl d_B_init_137 ?_
    refine zz_iconst (pc := 138) C zki_4 d_B_init_138 ?_
    refine zz_icmp_ge (tgt := 161) (pc := 139) C (by decide) d_B_init_139 (fun hc => absurd hc (by decide)) (fun _ => ?_)
    refine zz_aload_n (i := 0) (pc := 142) C rfl rfl d_B_init_142 ?_
    refine zz_getR (pc := 143) C zl_11_32 (fs := [some (some 1), some (some 10), some (some 15), some (some 19), some (some 20), some (some 39), some (some 44), some (some 49), some (some 52), some (some 53), some (some 54), none, none]) (by decide +kernel) rfl d_B_init_143 ?_
    refine zz_iload_n (i := 1) (pc := 146) C rfl rfl d_B_init_146 ?_
    refine zz_newK (n := 55) (sh' := zc_115) (σ' := zg_60 s) (pc := 147) C hex (by decide +kernel) rfl rfl rfl zbl_9 zl_11_30 zin_9 zit_9 (by decide +kernel) (show zc_114.length + 1 ≤ zc_162.length by decide +kernel) (show zz_sl zc_114 + zz_N 9 ≤ zz_sl zc_162 by decide +kernel) d_B_init_147 ?_
    refine zz_dup (pc := 150) C rfl d_B_init_150 ?_
    refine zz_callIN (st := [.ref 55, .int (0 : Int32), .ref 19]) (o := 55) (c0 := .inl (9, [none, some none, some none])) (as := []) (fc := (none, zc_119, zg_62 s)) (pc := 151) C (by decide +kernel) zl_11_83n zci_Text_init.2 rfl rfl (zk_11 hex) zci_Text_init.1 rfl (by omega) (show zc_119.length ≤ zc_162.length by decide +kernel) (show zz_sl zc_119 ≤ zz_sl zc_162 by decide +kernel) (Nat.le_of_ble_eq_true rfl) d_B_init_151 ?_ rfl
    change Z 154 [some (.ref 0), some (.int (0 : Int32))] [.ref 55, .int (0 : Int32), .ref 19] zc_119 (zg_62 s)
    refine zz_aastK (sh' := zc_120) (t := 4) (n := 4) (rs := [none, none, none, none]) (ci := 9) (q := ("OneBlanket$Text", zz_F 9, 3)) (fs := [none, some (some 56), some (some 57)]) (pc := 154) C zkx_0 (by decide +kernel) ⟨rfl, by decide, by decide⟩ (by decide +kernel) rfl (by decide) (by decide) rfl d_B_init_154 ?_
    refine zz_iinc (v := (1 : Int32)) (lo' := [some (.ref 0), some (.int (1 : Int32))]) (pc := 155) C rfl (by decide) rfl rfl d_B_init_155 ?_
    refine zz_goto (tgt := 137) (pc := 158) C (by decide) d_B_init_158 ?_
    refine zz_iload_n (i := 1) (pc := 137) C rfl rfl d_B_init_137 ?_
    refine zz_iconst (pc := 138) C zki_4 d_B_init_138 ?_
    refine zz_icmp_ge (tgt := 161) (pc := 139) C (by decide) d_B_init_139 (fun hc => absurd hc (by decide)) (fun _ => ?_)
    refine zz_aload_n (i := 0) (pc := 142) C rfl rfl d_B_init_142 ?_
    refine zz_getR (pc := 143) C zl_11_32 (fs := [some (some 1), some (some 10), some (some 15), some (some 19), some (some 20), some (some 39), some (some 44), some (some 49), some (some 52), some (some 53), some (some 54), none, none]) (by decide +kernel) rfl d_B_init_143 ?_
    refine zz_iload_n (i := 1) (pc := 146) C rfl rfl d_B_init_146 ?_
    refine zz_newK (n := 58) (sh' := zc_121) (σ' := zg_63 s) (pc := 147) C hex (by decide +kernel) rfl rfl rfl zbl_9 zl_11_30 zin_9 zit_9 (by decide +kernel) (show zc_120.length + 1 ≤ zc_162.length by decide +kernel) (show zz_sl zc_120 + zz_N 9 ≤ zz_sl zc_162 by decide +kernel) d_B_init_147 ?_
    refine zz_dup (pc := 150) C rfl d_B_init_150 ?_
    refine zz_callIN (st := [.ref 58, .int (1 : Int32), .ref 19]) (o := 58) (c0 := .inl (9, [none, some none, some none])) (as := []) (fc := (none, zc_125, zg_65 s)) (pc := 151) C (by decide +kernel) zl_11_83n zci_Text_init.2 rfl rfl (zk_12 hex) zci_Text_init.1 rfl (by omega) (show zc_125.length ≤ zc_162.length by decide +kernel) (show zz_sl zc_125 ≤ zz_sl zc_162 by decide +kernel) (Nat.le_of_ble_eq_true rfl) d_B_init_151 ?_ rfl
    change Z 154 [some (.ref 0), some (.int (1 : Int32))] [.ref 58, .int (1 : Int32), .ref 19] zc_125 (zg_65 s)
    refine zz_aastK (sh' := zc_126) (t := 4) (n := 4) (rs := [some 55, none, none, none]) (ci := 9) (q := ("OneBlanket$Text", zz_F 9, 3)) (fs := [none, some (some 59), some (some 60)]) (pc := 154) C zkx_1 (by decide +kernel) ⟨rfl, by decide, by decide⟩ (by decide +kernel) rfl (by decide) (by decide) rfl d_B_init_154 ?_
    refine zz_iinc (v := (2 : Int32)) (lo' := [some (.ref 0), some (.int (2 : Int32))]) (pc := 155) C rfl (by decide) rfl rfl d_B_init_155 ?_
    refine zz_goto (tgt := 137) (pc := 158) C (by decide) d_B_init_158 ?_
    refine zz_iload_n (i := 1) (pc := 137) C rfl rfl d_B_init_137 ?_
    refine zz_iconst (pc := 138) C zki_4 d_B_init_138 ?_
    refine zz_icmp_ge (tgt := 161) (pc := 139) C (by decide) d_B_init_139 (fun hc => absurd hc (by decide)) (fun _ => ?_)
    refine zz_aload_n (i := 0) (pc := 142) C rfl rfl d_B_init_142 ?_
    refine zz_getR (pc := 143) C zl_11_32 (fs := [some (some 1), some (some 10), some (some 15), some (some 19), some (some 20), some (some 39), some (some 44), some (some 49), some (some 52), some (some 53), some (some 54), none, none]) (by decide +kernel) rfl d_B_init_143 ?_
    refine zz_iload_n (i := 1) (pc := 146) C rfl rfl d_B_init_146 ?_
    refine zz_newK (n := 61) (sh' := zc_127) (σ' := zg_66 s) (pc := 147) C hex (by decide +kernel) rfl rfl rfl zbl_9 zl_11_30 zin_9 zit_9 (by decide +kernel) (show zc_126.length + 1 ≤ zc_162.length by decide +kernel) (show zz_sl zc_126 + zz_N 9 ≤ zz_sl zc_162 by decide +kernel) d_B_init_147 ?_
    refine zz_dup (pc := 150) C rfl d_B_init_150 ?_
    refine zz_callIN (st := [.ref 61, .int (2 : Int32), .ref 19]) (o := 61) (c0 := .inl (9, [none, some none, some none])) (as := []) (fc := (none, zc_131, zg_68 s)) (pc := 151) C (by decide +kernel) zl_11_83n zci_Text_init.2 rfl rfl (zk_13 hex) zci_Text_init.1 rfl (by omega) (show zc_131.length ≤ zc_162.length by decide +kernel) (show zz_sl zc_131 ≤ zz_sl zc_162 by decide +kernel) (Nat.le_of_ble_eq_true rfl) d_B_init_151 ?_ rfl
    change Z 154 [some (.ref 0), some (.int (2 : Int32))] [.ref 61, .int (2 : Int32), .ref 19] zc_131 (zg_68 s)
    refine zz_aastK (sh' := zc_132) (t := 4) (n := 4) (rs := [some 55, some 58, none, none]) (ci := 9) (q := ("OneBlanket$Text", zz_F 9, 3)) (fs := [none, some (some 62), some (some 63)]) (pc := 154) C zkx_2 (by decide +kernel) ⟨rfl, by decide, by decide⟩ (by decide +kernel) rfl (by decide) (by decide) rfl d_B_init_154 ?_
    refine zz_iinc (v := (3 : Int32)) (lo' := [some (.ref 0), some (.int (3 : Int32))]) (pc := 155) C rfl (by decide) rfl rfl d_B_init_155 ?_
    refine zz_goto (tgt := 137) (pc := 158) C (by decide) d_B_init_158 ?_
    refine zz_iload_n (i := 1) (pc := 137) C rfl rfl d_B_init_137 ?_
    refine zz_iconst (pc := 138) C zki_4 d_B_init_138 ?_
    refine zz_icmp_ge (tgt := 161) (pc := 139) C (by decide) d_B_init_139 (fun hc => absurd hc (by decide)) (fun _ => ?_)
    refine zz_aload_n (i := 0) (pc := 142) C rfl rfl d_B_init_142 ?_
    refine zz_getR (pc := 143) C zl_11_32 (fs := [some (some 1), some (some 10), some (some 15), some (some 19), some (some 20), some (some 39), some (some 44), some (some 49), some (some 52), some (some 53), some (some 54), none, none]) (by decide +kernel) rfl d_B_init_143 ?_
    refine zz_iload_n (i := 1) (pc := 146) C rfl rfl d_B_init_146 ?_
    refine zz_newK (n := 64) (sh' := zc_133) (σ' := zg_69 s) (pc := 147) C hex (by decide +kernel) rfl rfl rfl zbl_9 zl_11_30 zin_9 zit_9 (by decide +kernel) (show zc_132.length + 1 ≤ zc_162.length by decide +kernel) (show zz_sl zc_132 + zz_N 9 ≤ zz_sl zc_162 by decide +kernel) d_B_init_147 ?_
    refine zz_dup (pc := 150) C rfl d_B_init_150 ?_
    refine zz_callIN (st := [.ref 64, .int (3 : Int32), .ref 19]) (o := 64) (c0 := .inl (9, [none, some none, some none])) (as := []) (fc := (none, zc_137, zg_71 s)) (pc := 151) C (by decide +kernel) zl_11_83n zci_Text_init.2 rfl rfl (zk_14 hex) zci_Text_init.1 rfl (by omega) (show zc_137.length ≤ zc_162.length by decide +kernel) (show zz_sl zc_137 ≤ zz_sl zc_162 by decide +kernel) (Nat.le_of_ble_eq_true rfl) d_B_init_151 ?_ rfl
    change Z 154 [some (.ref 0), some (.int (3 : Int32))] [.ref 64, .int (3 : Int32), .ref 19] zc_137 (zg_71 s)
    refine zz_aastK (sh' := zc_138) (t := 4) (n := 4) (rs := [some 55, some 58, some 61, none]) (ci := 9) (q := ("OneBlanket$Text", zz_F 9, 3)) (fs := [none, some (some 65), some (some 66)]) (pc := 154) C zkx_3 (by decide +kernel) ⟨rfl, by decide, by decide⟩ (by decide +kernel) rfl (by decide) (by decide) rfl d_B_init_154 ?_
    refine zz_iinc (v := (4 : Int32)) (lo' := [some (.ref 0), some (.int (4 : Int32))]) (pc := 155) C rfl (by decide) rfl rfl d_B_init_155 ?_
    refine zz_goto (tgt := 137) (pc := 158) C (by decide) d_B_init_158 ?_
    refine zz_iload_n (i := 1) (pc := 137) C rfl rfl d_B_init_137 ?_
    refine zz_iconst (pc := 138) C zki_4 d_B_init_138 ?_
    refine zz_icmp_ge (tgt := 161) (pc := 139) C (by decide) d_B_init_139 (fun _ => ?_) (fun hc => absurd (by decide) hc)
    refine zz_iconst (pc := 161) C zki_0 d_B_init_161 ?_
    refine zz_istore_n (i := 1) (lo' := [some (.ref 0), some (.int (0 : Int32))]) (pc := 162) C rfl (Nat.le_of_ble_eq_true rfl) rfl rfl d_B_init_162 ?_
    refine zz_iload_n (i := 1) (pc := 163) C rfl rfl d_B_init_163 ?_
    refine zz_bipush (pc := 164) C zkb_6 d_B_init_164 ?_
    refine zz_icmp_ge (tgt := 188) (pc := 166) C (by decide) d_B_init_166 (fun hc => absurd hc (by decide)) (fun _ => ?_)
    refine zz_aload_n (i := 0) (pc := 169) C rfl rfl d_B_init_169 ?_
    refine zz_getR (pc := 170) C zl_11_68 (fs := [some (some 1), some (some 10), some (some 15), some (some 19), some (some 20), some (some 39), some (some 44), some (some 49), some (some 52), some (some 53), some (some 54), none, none]) (by decide +kernel) rfl d_B_init_170 ?_
    refine zz_iload_n (i := 1) (pc := 173) C rfl rfl d_B_init_173 ?_
    refine zz_newK (n := 67) (sh' := zc_139) (σ' := zg_72 s) (pc := 174) C hex (by decide +kernel) rfl rfl rfl zbl_6 zl_11_66 zin_6 zit_6 (by decide +kernel) (show zc_138.length + 1 ≤ zc_162.length by decide +kernel) (show zz_sl zc_138 + zz_N 6 ≤ zz_sl zc_162 by decide +kernel) d_B_init_174 ?_
    refine zz_dup (pc := 177) C rfl d_B_init_177 ?_
    refine zz_callIN (st := [.ref 67, .int (0 : Int32), .ref 52]) (o := 67) (c0 := .inl (6, [none, none, none, none, some none])) (as := []) (fc := (none, zc_141, zg_74 s)) (pc := 178) C (by decide +kernel) zl_11_84n zci_Shelf_init.2 rfl rfl (zk_15 hex) zci_Shelf_init.1 rfl (by omega) (show zc_141.length ≤ zc_162.length by decide +kernel) (show zz_sl zc_141 ≤ zz_sl zc_162 by decide +kernel) (Nat.le_of_ble_eq_true rfl) d_B_init_178 ?_ rfl
    change Z 181 [some (.ref 0), some (.int (0 : Int32))] [.ref 67, .int (0 : Int32), .ref 52] zc_141 (zg_74 s)
    refine zz_aastK (sh' := zc_142) (t := 5) (n := 6) (rs := [none, none, none, none, none, none]) (ci := 6) (q := ("OneBlanket$Shelf", zz_F 6, 5)) (fs := [none, none, none, none, some (some 68)]) (pc := 181) C zkx_0 (by decide +kernel) ⟨rfl, by decide, by decide⟩ (by decide +kernel) rfl (by decide) (by decide) rfl d_B_init_181 ?_
    refine zz_iinc (v := (1 : Int32)) (lo' := [some (.ref 0), some (.int (1 : Int32))]) (pc := 182) C rfl (by decide) rfl rfl d_B_init_182 ?_
    refine zz_goto (tgt := 163) (pc := 185) C (by decide) d_B_init_185 ?_
    refine zz_iload_n (i := 1) (pc := 163) C rfl rfl d_B_init_163 ?_
    refine zz_bipush (pc := 164) C zkb_6 d_B_init_164 ?_
    refine zz_icmp_ge (tgt := 188) (pc := 166) C (by decide) d_B_init_166 (fun hc => absurd hc (by decide)) (fun _ => ?_)
    refine zz_aload_n (i := 0) (pc := 169) C rfl rfl d_B_init_169 ?_
    refine zz_getR (pc := 170) C zl_11_68 (fs := [some (some 1), some (some 10), some (some 15), some (some 19), some (some 20), some (some 39), some (some 44), some (some 49), some (some 52), some (some 53), some (some 54), none, none]) (by decide +kernel) rfl d_B_init_170 ?_
    refine zz_iload_n (i := 1) (pc := 173) C rfl rfl d_B_init_173 ?_
    refine zz_newK (n := 69) (sh' := zc_143) (σ' := zg_75 s) (pc := 174) C hex (by decide +kernel) rfl rfl rfl zbl_6 zl_11_66 zin_6 zit_6 (by decide +kernel) (show zc_142.length + 1 ≤ zc_162.length by decide +kernel) (show zz_sl zc_142 + zz_N 6 ≤ zz_sl zc_162 by decide +kernel) d_B_init_174 ?_
    refine zz_dup (pc := 177) C rfl d_B_init_177 ?_
    refine zz_callIN (st := [.ref 69, .int (1 : Int32), .ref 52]) (o := 69) (c0 := .inl (6, [none, none, none, none, some none])) (as := []) (fc := (none, zc_145, zg_77 s)) (pc := 178) C (by decide +kernel) zl_11_84n zci_Shelf_init.2 rfl rfl (zk_16 hex) zci_Shelf_init.1 rfl (by omega) (show zc_145.length ≤ zc_162.length by decide +kernel) (show zz_sl zc_145 ≤ zz_sl zc_162 by decide +kernel) (Nat.le_of_ble_eq_true rfl) d_B_init_178 ?_ rfl
    change Z 181 [some (.ref 0), some (.int (1 : Int32))] [.ref 69, .int (1 : Int32), .ref 52] zc_145 (zg_77 s)
    refine zz_aastK (sh' := zc_146) (t := 5) (n := 6) (rs := [some 67, none, none, none, none, none]) (ci := 6) (q := ("OneBlanket$Shelf", zz_F 6, 5)) (fs := [none, none, none, none, some (some 70)]) (pc := 181) C zkx_1 (by decide +kernel) ⟨rfl, by decide, by decide⟩ (by decide +kernel) rfl (by decide) (by decide) rfl d_B_init_181 ?_
    refine zz_iinc (v := (2 : Int32)) (lo' := [some (.ref 0), some (.int (2 : Int32))]) (pc := 182) C rfl (by decide) rfl rfl d_B_init_182 ?_
    refine zz_goto (tgt := 163) (pc := 185) C (by decide) d_B_init_185 ?_
    refine zz_iload_n (i := 1) (pc := 163) C rfl rfl d_B_init_163 ?_
    refine zz_bipush (pc := 164) C zkb_6 d_B_init_164 ?_
    refine zz_icmp_ge (tgt := 188) (pc := 166) C (by decide) d_B_init_166 (fun hc => absurd hc (by decide)) (fun _ => ?_)
    refine zz_aload_n (i := 0) (pc := 169) C rfl rfl d_B_init_169 ?_
    refine zz_getR (pc := 170) C zl_11_68 (fs := [some (some 1), some (some 10), some (some 15), some (some 19), some (some 20), some (some 39), some (some 44), some (some 49), some (some 52), some (some 53), some (some 54), none, none]) (by decide +kernel) rfl d_B_init_170 ?_
    refine zz_iload_n (i := 1) (pc := 173) C rfl rfl d_B_init_173 ?_
    refine zz_newK (n := 71) (sh' := zc_147) (σ' := zg_78 s) (pc := 174) C hex (by decide +kernel) rfl rfl rfl zbl_6 zl_11_66 zin_6 zit_6 (by decide +kernel) (show zc_146.length + 1 ≤ zc_162.length by decide +kernel) (show zz_sl zc_146 + zz_N 6 ≤ zz_sl zc_162 by decide +kernel) d_B_init_174 ?_
    refine zz_dup (pc := 177) C rfl d_B_init_177 ?_
    refine zz_callIN (st := [.ref 71, .int (2 : Int32), .ref 52]) (o := 71) (c0 := .inl (6, [none, none, none, none, some none])) (as := []) (fc := (none, zc_149, zg_80 s)) (pc := 178) C (by decide +kernel) zl_11_84n zci_Shelf_init.2 rfl rfl (zk_17 hex) zci_Shelf_init.1 rfl (by omega) (show zc_149.length ≤ zc_162.length by decide +kernel) (show zz_sl zc_149 ≤ zz_sl zc_162 by decide +kernel) (Nat.le_of_ble_eq_true rfl) d_B_init_178 ?_ rfl
    change Z 181 [some (.ref 0), some (.int (2 : Int32))] [.ref 71, .int (2 : Int32), .ref 52] zc_149 (zg_80 s)
    refine zz_aastK (sh' := zc_150) (t := 5) (n := 6) (rs := [some 67, some 69, none, none, none, none]) (ci := 6) (q := ("OneBlanket$Shelf", zz_F 6, 5)) (fs := [none, none, none, none, some (some 72)]) (pc := 181) C zkx_2 (by decide +kernel) ⟨rfl, by decide, by decide⟩ (by decide +kernel) rfl (by decide) (by decide) rfl d_B_init_181 ?_
    refine zz_iinc (v := (3 : Int32)) (lo' := [some (.ref 0), some (.int (3 : Int32))]) (pc := 182) C rfl (by decide) rfl rfl d_B_init_182 ?_
    refine zz_goto (tgt := 163) (pc := 185) C (by decide) d_B_init_185 ?_
    refine zz_iload_n (i := 1) (pc := 163) C rfl rfl d_B_init_163 ?_
    refine zz_bipush (pc := 164) C zkb_6 d_B_init_164 ?_
    refine zz_icmp_ge (tgt := 188) (pc := 166) C (by decide) d_B_init_166 (fun hc => absurd hc (by decide)) (fun _ => ?_)
    refine zz_aload_n (i := 0) (pc := 169) C rfl rfl d_B_init_169 ?_
    refine zz_getR (pc := 170) C zl_11_68 (fs := [some (some 1), some (some 10), some (some 15), some (some 19), some (some 20), some (some 39), some (some 44), some (some 49), some (some 52), some (some 53), some (some 54), none, none]) (by decide +kernel) rfl d_B_init_170 ?_
    refine zz_iload_n (i := 1) (pc := 173) C rfl rfl d_B_init_173 ?_
    refine zz_newK (n := 73) (sh' := zc_151) (σ' := zg_81 s) (pc := 174) C hex (by decide +kernel) rfl rfl rfl zbl_6 zl_11_66 zin_6 zit_6 (by decide +kernel) (show zc_150.length + 1 ≤ zc_162.length by decide +kernel) (show zz_sl zc_150 + zz_N 6 ≤ zz_sl zc_162 by decide +kernel) d_B_init_174 ?_
    refine zz_dup (pc := 177) C rfl d_B_init_177 ?_
    refine zz_callIN (st := [.ref 73, .int (3 : Int32), .ref 52]) (o := 73) (c0 := .inl (6, [none, none, none, none, some none])) (as := []) (fc := (none, zc_153, zg_83 s)) (pc := 178) C (by decide +kernel) zl_11_84n zci_Shelf_init.2 rfl rfl (zk_18 hex) zci_Shelf_init.1 rfl (by omega) (show zc_153.length ≤ zc_162.length by decide +kernel) (show zz_sl zc_153 ≤ zz_sl zc_162 by decide +kernel) (Nat.le_of_ble_eq_true rfl) d_B_init_178 ?_ rfl
    change Z 181 [some (.ref 0), some (.int (3 : Int32))] [.ref 73, .int (3 : Int32), .ref 52] zc_153 (zg_83 s)
    refine zz_aastK (sh' := zc_154) (t := 5) (n := 6) (rs := [some 67, some 69, some 71, none, none, none]) (ci := 6) (q := ("OneBlanket$Shelf", zz_F 6, 5)) (fs := [none, none, none, none, some (some 74)]) (pc := 181) C zkx_3 (by decide +kernel) ⟨rfl, by decide, by decide⟩ (by decide +kernel) rfl (by decide) (by decide) rfl d_B_init_181 ?_
    refine zz_iinc (v := (4 : Int32)) (lo' := [some (.ref 0), some (.int (4 : Int32))]) (pc := 182) C rfl (by decide) rfl rfl d_B_init_182 ?_
    refine zz_goto (tgt := 163) (pc := 185) C (by decide) d_B_init_185 ?_
    refine zz_iload_n (i := 1) (pc := 163) C rfl rfl d_B_init_163 ?_
    refine zz_bipush (pc := 164) C zkb_6 d_B_init_164 ?_
    refine zz_icmp_ge (tgt := 188) (pc := 166) C (by decide) d_B_init_166 (fun hc => absurd hc (by decide)) (fun _ => ?_)
    refine zz_aload_n (i := 0) (pc := 169) C rfl rfl d_B_init_169 ?_
    refine zz_getR (pc := 170) C zl_11_68 (fs := [some (some 1), some (some 10), some (some 15), some (some 19), some (some 20), some (some 39), some (some 44), some (some 49), some (some 52), some (some 53), some (some 54), none, none]) (by decide +kernel) rfl d_B_init_170 ?_
    refine zz_iload_n (i := 1) (pc := 173) C rfl rfl d_B_init_173 ?_
    refine zz_newK (n := 75) (sh' := zc_155) (σ' := zg_84 s) (pc := 174) C hex (by decide +kernel) rfl rfl rfl zbl_6 zl_11_66 zin_6 zit_6 (by decide +kernel) (show zc_154.length + 1 ≤ zc_162.length by decide +kernel) (show zz_sl zc_154 + zz_N 6 ≤ zz_sl zc_162 by decide +kernel) d_B_init_174 ?_
    refine zz_dup (pc := 177) C rfl d_B_init_177 ?_
    refine zz_callIN (st := [.ref 75, .int (4 : Int32), .ref 52]) (o := 75) (c0 := .inl (6, [none, none, none, none, some none])) (as := []) (fc := (none, zc_157, zg_86 s)) (pc := 178) C (by decide +kernel) zl_11_84n zci_Shelf_init.2 rfl rfl (zk_19 hex) zci_Shelf_init.1 rfl (by omega) (show zc_157.length ≤ zc_162.length by decide +kernel) (show zz_sl zc_157 ≤ zz_sl zc_162 by decide +kernel) (Nat.le_of_ble_eq_true rfl) d_B_init_178 ?_ rfl
    change Z 181 [some (.ref 0), some (.int (4 : Int32))] [.ref 75, .int (4 : Int32), .ref 52] zc_157 (zg_86 s)
    refine zz_aastK (sh' := zc_158) (t := 5) (n := 6) (rs := [some 67, some 69, some 71, some 73, none, none]) (ci := 6) (q := ("OneBlanket$Shelf", zz_F 6, 5)) (fs := [none, none, none, none, some (some 76)]) (pc := 181) C zkx_4 (by decide +kernel) ⟨rfl, by decide, by decide⟩ (by decide +kernel) rfl (by decide) (by decide) rfl d_B_init_181 ?_
    refine zz_iinc (v := (5 : Int32)) (lo' := [some (.ref 0), some (.int (5 : Int32))]) (pc := 182) C rfl (by decide) rfl rfl d_B_init_182 ?_
    refine zz_goto (tgt := 163) (pc := 185) C (by decide) d_B_init_185 ?_
    refine zz_iload_n (i := 1) (pc := 163) C rfl rfl d_B_init_163 ?_
    refine zz_bipush (pc := 164) C zkb_6 d_B_init_164 ?_
    refine zz_icmp_ge (tgt := 188) (pc := 166) C (by decide) d_B_init_166 (fun hc => absurd hc (by decide)) (fun _ => ?_)
    refine zz_aload_n (i := 0) (pc := 169) C rfl rfl d_B_init_169 ?_
    refine zz_getR (pc := 170) C zl_11_68 (fs := [some (some 1), some (some 10), some (some 15), some (some 19), some (some 20), some (some 39), some (some 44), some (some 49), some (some 52), some (some 53), some (some 54), none, none]) (by decide +kernel) rfl d_B_init_170 ?_
    refine zz_iload_n (i := 1) (pc := 173) C rfl rfl d_B_init_173 ?_
    refine zz_newK (n := 77) (sh' := zc_159) (σ' := zg_87 s) (pc := 174) C hex (by decide +kernel) rfl rfl rfl zbl_6 zl_11_66 zin_6 zit_6 (by decide +kernel) (show zc_158.length + 1 ≤ zc_162.length by decide +kernel) (show zz_sl zc_158 + zz_N 6 ≤ zz_sl zc_162 by decide +kernel) d_B_init_174 ?_
    refine zz_dup (pc := 177) C rfl d_B_init_177 ?_
    refine zz_callIN (st := [.ref 77, .int (5 : Int32), .ref 52]) (o := 77) (c0 := .inl (6, [none, none, none, none, some none])) (as := []) (fc := (none, zc_161, zg_89 s)) (pc := 178) C (by decide +kernel) zl_11_84n zci_Shelf_init.2 rfl rfl (zk_20 hex) zci_Shelf_init.1 rfl (by omega) (show zc_161.length ≤ zc_162.length by decide +kernel) (show zz_sl zc_161 ≤ zz_sl zc_162 by decide +kernel) (Nat.le_of_ble_eq_true rfl) d_B_init_178 ?_ rfl
    change Z 181 [some (.ref 0), some (.int (5 : Int32))] [.ref 77, .int (5 : Int32), .ref 52] zc_161 (zg_89 s)
    refine zz_aastK (sh' := zc_162) (t := 5) (n := 6) (rs := [some 67, some 69, some 71, some 73, some 75, none]) (ci := 6) (q := ("OneBlanket$Shelf", zz_F 6, 5)) (fs := [none, none, none, none, some (some 78)]) (pc := 181) C zkx_5 (by decide +kernel) ⟨rfl, by decide, by decide⟩ (by decide +kernel) rfl (by decide) (by decide) rfl d_B_init_181 ?_
    refine zz_iinc (v := (6 : Int32)) (lo' := [some (.ref 0), some (.int (6 : Int32))]) (pc := 182) C rfl (by decide) rfl rfl d_B_init_182 ?_
    refine zz_goto (tgt := 163) (pc := 185) C (by decide) d_B_init_185 ?_
    refine zz_iload_n (i := 1) (pc := 163) C rfl rfl d_B_init_163 ?_
    refine zz_bipush (pc := 164) C zkb_6 d_B_init_164 ?_
    refine zz_icmp_ge (tgt := 188) (pc := 166) C (by decide) d_B_init_166 (fun _ => ?_) (fun hc => absurd (by decide) hc)
    exact zz_ret (pc := 188) C (v := none) d_B_init_188 (Or.inr (Or.inr (Or.inr ⟨rfl, rfl, rfl⟩))) rfl)
theorem d_M_init_0 : decode prog_14_method_1_code 0 = .ok (.aload_n 0, 1) := by decide +kernel
theorem d_M_init_1 : decode prog_14_method_1_code 1 = .ok (.invokespecial 1, 3) := by decide +kernel
theorem d_M_init_4 : decode prog_14_method_1_code 4 = .ok (.aload_n 0, 1) := by decide +kernel
theorem d_M_init_5 : decode prog_14_method_1_code 5 = .ok (.bipush (40), 2) := by decide +kernel
theorem d_M_init_7 : decode prog_14_method_1_code 7 = .ok (.putfield 7, 3) := by decide +kernel
theorem d_M_init_10 : decode prog_14_method_1_code 10 = .ok (.aload_n 0, 1) := by decide +kernel
theorem d_M_init_11 : decode prog_14_method_1_code 11 = .ok (.bipush (6), 2) := by decide +kernel
theorem d_M_init_13 : decode prog_14_method_1_code 13 = .ok (.newarray .int, 2) := by decide +kernel
theorem d_M_init_15 : decode prog_14_method_1_code 15 = .ok (.putfield 13, 3) := by decide +kernel
theorem d_M_init_18 : decode prog_14_method_1_code 18 = .ok (.aload_n 0, 1) := by decide +kernel
theorem d_M_init_19 : decode prog_14_method_1_code 19 = .ok (.bipush (6), 2) := by decide +kernel
theorem d_M_init_21 : decode prog_14_method_1_code 21 = .ok (.newarray .int, 2) := by decide +kernel
theorem d_M_init_23 : decode prog_14_method_1_code 23 = .ok (.putfield 17, 3) := by decide +kernel
theorem d_M_init_26 : decode prog_14_method_1_code 26 = .ok (.aload_n 0, 1) := by decide +kernel
theorem d_M_init_27 : decode prog_14_method_1_code 27 = .ok (.bipush (6), 2) := by decide +kernel
theorem d_M_init_29 : decode prog_14_method_1_code 29 = .ok (.newarray .int, 2) := by decide +kernel
theorem d_M_init_31 : decode prog_14_method_1_code 31 = .ok (.putfield 20, 3) := by decide +kernel
theorem d_M_init_34 : decode prog_14_method_1_code 34 = .ok (.aload_n 0, 1) := by decide +kernel
theorem d_M_init_35 : decode prog_14_method_1_code 35 = .ok (.bipush (6), 2) := by decide +kernel
theorem d_M_init_37 : decode prog_14_method_1_code 37 = .ok (.newarray .int, 2) := by decide +kernel
theorem d_M_init_39 : decode prog_14_method_1_code 39 = .ok (.putfield 23, 3) := by decide +kernel
theorem d_M_init_42 : decode prog_14_method_1_code 42 = .ok (.aload_n 0, 1) := by decide +kernel
theorem d_M_init_43 : decode prog_14_method_1_code 43 = .ok (.iconst 3, 1) := by decide +kernel
theorem d_M_init_44 : decode prog_14_method_1_code 44 = .ok (.newarray .int, 2) := by decide +kernel
theorem d_M_init_46 : decode prog_14_method_1_code 46 = .ok (.putfield 26, 3) := by decide +kernel
theorem d_M_init_49 : decode prog_14_method_1_code 49 = .ok (.aload_n 0, 1) := by decide +kernel
theorem d_M_init_50 : decode prog_14_method_1_code 50 = .ok (.iconst 3, 1) := by decide +kernel
theorem d_M_init_51 : decode prog_14_method_1_code 51 = .ok (.newarray .int, 2) := by decide +kernel
theorem d_M_init_53 : decode prog_14_method_1_code 53 = .ok (.putfield 29, 3) := by decide +kernel
theorem d_M_init_56 : decode prog_14_method_1_code 56 = .ok (.aload_n 0, 1) := by decide +kernel
theorem d_M_init_57 : decode prog_14_method_1_code 57 = .ok (.iconst 3, 1) := by decide +kernel
theorem d_M_init_58 : decode prog_14_method_1_code 58 = .ok (.newarray .int, 2) := by decide +kernel
theorem d_M_init_60 : decode prog_14_method_1_code 60 = .ok (.putfield 32, 3) := by decide +kernel
theorem d_M_init_63 : decode prog_14_method_1_code 63 = .ok (.aload_n 0, 1) := by decide +kernel
theorem d_M_init_64 : decode prog_14_method_1_code 64 = .ok (.iconst 3, 1) := by decide +kernel
theorem d_M_init_65 : decode prog_14_method_1_code 65 = .ok (.newarray .int, 2) := by decide +kernel
theorem d_M_init_67 : decode prog_14_method_1_code 67 = .ok (.putfield 35, 3) := by decide +kernel
theorem d_M_init_70 : decode prog_14_method_1_code 70 = .ok (.aload_n 0, 1) := by decide +kernel
theorem d_M_init_71 : decode prog_14_method_1_code 71 = .ok (.bipush (60), 2) := by decide +kernel
theorem d_M_init_73 : decode prog_14_method_1_code 73 = .ok (.newarray .int, 2) := by decide +kernel
theorem d_M_init_75 : decode prog_14_method_1_code 75 = .ok (.putfield 38, 3) := by decide +kernel
theorem d_M_init_78 : decode prog_14_method_1_code 78 = .ok (.aload_n 0, 1) := by decide +kernel
theorem d_M_init_79 : decode prog_14_method_1_code 79 = .ok (.bipush (60), 2) := by decide +kernel
theorem d_M_init_81 : decode prog_14_method_1_code 81 = .ok (.newarray .int, 2) := by decide +kernel
theorem d_M_init_83 : decode prog_14_method_1_code 83 = .ok (.putfield 41, 3) := by decide +kernel
theorem d_M_init_86 : decode prog_14_method_1_code 86 = .ok (.aload_n 0, 1) := by decide +kernel
theorem d_M_init_87 : decode prog_14_method_1_code 87 = .ok (.bipush (60), 2) := by decide +kernel
theorem d_M_init_89 : decode prog_14_method_1_code 89 = .ok (.newarray .int, 2) := by decide +kernel
theorem d_M_init_91 : decode prog_14_method_1_code 91 = .ok (.putfield 44, 3) := by decide +kernel
theorem d_M_init_94 : decode prog_14_method_1_code 94 = .ok (.aload_n 0, 1) := by decide +kernel
theorem d_M_init_95 : decode prog_14_method_1_code 95 = .ok (.bipush (40), 2) := by decide +kernel
theorem d_M_init_97 : decode prog_14_method_1_code 97 = .ok (.newarray .int, 2) := by decide +kernel
theorem d_M_init_99 : decode prog_14_method_1_code 99 = .ok (.putfield 47, 3) := by decide +kernel
theorem d_M_init_102 : decode prog_14_method_1_code 102 = .ok (.aload_n 0, 1) := by decide +kernel
theorem d_M_init_103 : decode prog_14_method_1_code 103 = .ok (.bipush (40), 2) := by decide +kernel
theorem d_M_init_105 : decode prog_14_method_1_code 105 = .ok (.newarray .int, 2) := by decide +kernel
theorem d_M_init_107 : decode prog_14_method_1_code 107 = .ok (.putfield 50, 3) := by decide +kernel
theorem d_M_init_110 : decode prog_14_method_1_code 110 = .ok (.aload_n 0, 1) := by decide +kernel
theorem d_M_init_111 : decode prog_14_method_1_code 111 = .ok (.bipush (40), 2) := by decide +kernel
theorem d_M_init_113 : decode prog_14_method_1_code 113 = .ok (.newarray .int, 2) := by decide +kernel
theorem d_M_init_115 : decode prog_14_method_1_code 115 = .ok (.putfield 53, 3) := by decide +kernel
theorem d_M_init_118 : decode prog_14_method_1_code 118 = .ok (.aload_n 0, 1) := by decide +kernel
theorem d_M_init_119 : decode prog_14_method_1_code 119 = .ok (.bipush (40), 2) := by decide +kernel
theorem d_M_init_121 : decode prog_14_method_1_code 121 = .ok (.newarray .int, 2) := by decide +kernel
theorem d_M_init_123 : decode prog_14_method_1_code 123 = .ok (.putfield 56, 3) := by decide +kernel
theorem d_M_init_126 : decode prog_14_method_1_code 126 = .ok (.aload_n 0, 1) := by decide +kernel
theorem d_M_init_127 : decode prog_14_method_1_code 127 = .ok (.bipush (120), 2) := by decide +kernel
theorem d_M_init_129 : decode prog_14_method_1_code 129 = .ok (.newarray .byte, 2) := by decide +kernel
theorem d_M_init_131 : decode prog_14_method_1_code 131 = .ok (.putfield 59, 3) := by decide +kernel
theorem d_M_init_134 : decode prog_14_method_1_code 134 = .ok (.aload_n 0, 1) := by decide +kernel
theorem d_M_init_135 : decode prog_14_method_1_code 135 = .ok (.sipush (780), 3) := by decide +kernel
theorem d_M_init_138 : decode prog_14_method_1_code 138 = .ok (.newarray .byte, 2) := by decide +kernel
theorem d_M_init_140 : decode prog_14_method_1_code 140 = .ok (.putfield 63, 3) := by decide +kernel
theorem d_M_init_143 : decode prog_14_method_1_code 143 = .ok (.aload_n 0, 1) := by decide +kernel
theorem d_M_init_144 : decode prog_14_method_1_code 144 = .ok (.sipush (780), 3) := by decide +kernel
theorem d_M_init_147 : decode prog_14_method_1_code 147 = .ok (.newarray .int, 2) := by decide +kernel
theorem d_M_init_149 : decode prog_14_method_1_code 149 = .ok (.putfield 66, 3) := by decide +kernel
theorem d_M_init_152 : decode prog_14_method_1_code 152 = .ok (.aload_n 0, 1) := by decide +kernel
theorem d_M_init_153 : decode prog_14_method_1_code 153 = .ok (.bipush (6), 2) := by decide +kernel
theorem d_M_init_155 : decode prog_14_method_1_code 155 = .ok (.newarray .int, 2) := by decide +kernel
theorem d_M_init_157 : decode prog_14_method_1_code 157 = .ok (.putfield 69, 3) := by decide +kernel
theorem d_M_init_160 : decode prog_14_method_1_code 160 = .ok (.aload_n 0, 1) := by decide +kernel
theorem d_M_init_161 : decode prog_14_method_1_code 161 = .ok (.sipush (366), 3) := by decide +kernel
theorem d_M_init_164 : decode prog_14_method_1_code 164 = .ok (.newarray .short, 2) := by decide +kernel
theorem d_M_init_166 : decode prog_14_method_1_code 166 = .ok (.putfield 72, 3) := by decide +kernel
theorem d_M_init_169 : decode prog_14_method_1_code 169 = .ok (.aload_n 0, 1) := by decide +kernel
theorem d_M_init_170 : decode prog_14_method_1_code 170 = .ok (.sipush (366), 3) := by decide +kernel
theorem d_M_init_173 : decode prog_14_method_1_code 173 = .ok (.newarray .short, 2) := by decide +kernel
theorem d_M_init_175 : decode prog_14_method_1_code 175 = .ok (.putfield 76, 3) := by decide +kernel
theorem d_M_init_178 : decode prog_14_method_1_code 178 = .ok (.aload_n 0, 1) := by decide +kernel
theorem d_M_init_179 : decode prog_14_method_1_code 179 = .ok (.bipush (8), 2) := by decide +kernel
theorem d_M_init_181 : decode prog_14_method_1_code 181 = .ok (.newarray .int, 2) := by decide +kernel
theorem d_M_init_183 : decode prog_14_method_1_code 183 = .ok (.putfield 79, 3) := by decide +kernel
theorem d_M_init_186 : decode prog_14_method_1_code 186 = .ok (.aload_n 0, 1) := by decide +kernel
theorem d_M_init_187 : decode prog_14_method_1_code 187 = .ok (.sipush (130), 3) := by decide +kernel
theorem d_M_init_190 : decode prog_14_method_1_code 190 = .ok (.newarray .int, 2) := by decide +kernel
theorem d_M_init_192 : decode prog_14_method_1_code 192 = .ok (.putfield 82, 3) := by decide +kernel
theorem d_M_init_195 : decode prog_14_method_1_code 195 = .ok (.aload_n 0, 1) := by decide +kernel
theorem d_M_init_196 : decode prog_14_method_1_code 196 = .ok (.iconst (-1), 1) := by decide +kernel
theorem d_M_init_197 : decode prog_14_method_1_code 197 = .ok (.putfield 85, 3) := by decide +kernel
theorem d_M_init_200 : decode prog_14_method_1_code 200 = .ok (.aload_n 0, 1) := by decide +kernel
theorem d_M_init_201 : decode prog_14_method_1_code 201 = .ok (.bipush (6), 2) := by decide +kernel
theorem d_M_init_203 : decode prog_14_method_1_code 203 = .ok (.newarray .int, 2) := by decide +kernel
theorem d_M_init_205 : decode prog_14_method_1_code 205 = .ok (.putfield 88, 3) := by decide +kernel
theorem d_M_init_208 : decode prog_14_method_1_code 208 = .ok (.aload_n 0, 1) := by decide +kernel
theorem d_M_init_209 : decode prog_14_method_1_code 209 = .ok (.iconst 3, 1) := by decide +kernel
theorem d_M_init_210 : decode prog_14_method_1_code 210 = .ok (.newarray .int, 2) := by decide +kernel
theorem d_M_init_212 : decode prog_14_method_1_code 212 = .ok (.putfield 91, 3) := by decide +kernel
theorem d_M_init_215 : decode prog_14_method_1_code 215 = .ok (.aload_n 0, 1) := by decide +kernel
theorem d_M_init_216 : decode prog_14_method_1_code 216 = .ok (.bipush (6), 2) := by decide +kernel
theorem d_M_init_218 : decode prog_14_method_1_code 218 = .ok (.newarray .int, 2) := by decide +kernel
theorem d_M_init_220 : decode prog_14_method_1_code 220 = .ok (.putfield 94, 3) := by decide +kernel
theorem d_M_init_223 : decode prog_14_method_1_code 223 = .ok (.aload_n 0, 1) := by decide +kernel
theorem d_M_init_224 : decode prog_14_method_1_code 224 = .ok (.iconst 3, 1) := by decide +kernel
theorem d_M_init_225 : decode prog_14_method_1_code 225 = .ok (.newarray .int, 2) := by decide +kernel
theorem d_M_init_227 : decode prog_14_method_1_code 227 = .ok (.putfield 97, 3) := by decide +kernel
theorem d_M_init_230 : decode prog_14_method_1_code 230 = .ok (.aload_n 0, 1) := by decide +kernel
theorem d_M_init_231 : decode prog_14_method_1_code 231 = .ok (.bipush (6), 2) := by decide +kernel
theorem d_M_init_233 : decode prog_14_method_1_code 233 = .ok (.newarray .int, 2) := by decide +kernel
theorem d_M_init_235 : decode prog_14_method_1_code 235 = .ok (.putfield 100, 3) := by decide +kernel
theorem d_M_init_238 : decode prog_14_method_1_code 238 = .ok (.aload_n 0, 1) := by decide +kernel
theorem d_M_init_239 : decode prog_14_method_1_code 239 = .ok (.bipush (6), 2) := by decide +kernel
theorem d_M_init_241 : decode prog_14_method_1_code 241 = .ok (.newarray .int, 2) := by decide +kernel
theorem d_M_init_243 : decode prog_14_method_1_code 243 = .ok (.putfield 103, 3) := by decide +kernel
theorem d_M_init_246 : decode prog_14_method_1_code 246 = .ok (.aload_n 0, 1) := by decide +kernel
theorem d_M_init_247 : decode prog_14_method_1_code 247 = .ok (.bipush (6), 2) := by decide +kernel
theorem d_M_init_249 : decode prog_14_method_1_code 249 = .ok (.newarray .int, 2) := by decide +kernel
theorem d_M_init_251 : decode prog_14_method_1_code 251 = .ok (.putfield 106, 3) := by decide +kernel
theorem d_M_init_254 : decode prog_14_method_1_code 254 = .ok (.aload_n 0, 1) := by decide +kernel
theorem d_M_init_255 : decode prog_14_method_1_code 255 = .ok (.bipush (6), 2) := by decide +kernel
theorem d_M_init_257 : decode prog_14_method_1_code 257 = .ok (.newarray .int, 2) := by decide +kernel
theorem d_M_init_259 : decode prog_14_method_1_code 259 = .ok (.putfield 109, 3) := by decide +kernel
theorem d_M_init_262 : decode prog_14_method_1_code 262 = .ok (.aload_n 0, 1) := by decide +kernel
theorem d_M_init_263 : decode prog_14_method_1_code 263 = .ok (.bipush (6), 2) := by decide +kernel
theorem d_M_init_265 : decode prog_14_method_1_code 265 = .ok (.newarray .int, 2) := by decide +kernel
theorem d_M_init_267 : decode prog_14_method_1_code 267 = .ok (.putfield 112, 3) := by decide +kernel
theorem d_M_init_270 : decode prog_14_method_1_code 270 = .ok (.aload_n 0, 1) := by decide +kernel
theorem d_M_init_271 : decode prog_14_method_1_code 271 = .ok (.bipush (6), 2) := by decide +kernel
theorem d_M_init_273 : decode prog_14_method_1_code 273 = .ok (.newarray .int, 2) := by decide +kernel
theorem d_M_init_275 : decode prog_14_method_1_code 275 = .ok (.putfield 115, 3) := by decide +kernel
theorem d_M_init_278 : decode prog_14_method_1_code 278 = .ok (.aload_n 0, 1) := by decide +kernel
theorem d_M_init_279 : decode prog_14_method_1_code 279 = .ok (.bipush (18), 2) := by decide +kernel
theorem d_M_init_281 : decode prog_14_method_1_code 281 = .ok (.newarray .int, 2) := by decide +kernel
theorem d_M_init_283 : decode prog_14_method_1_code 283 = .ok (.putfield 118, 3) := by decide +kernel
theorem d_M_init_286 : decode prog_14_method_1_code 286 = .ok (.aload_n 0, 1) := by decide +kernel
theorem d_M_init_287 : decode prog_14_method_1_code 287 = .ok (.bipush (6), 2) := by decide +kernel
theorem d_M_init_289 : decode prog_14_method_1_code 289 = .ok (.newarray .int, 2) := by decide +kernel
theorem d_M_init_291 : decode prog_14_method_1_code 291 = .ok (.putfield 121, 3) := by decide +kernel
theorem d_M_init_294 : decode prog_14_method_1_code 294 = .ok (.aload_n 0, 1) := by decide +kernel
theorem d_M_init_295 : decode prog_14_method_1_code 295 = .ok (.iconst (-1), 1) := by decide +kernel
theorem d_M_init_296 : decode prog_14_method_1_code 296 = .ok (.putfield 124, 3) := by decide +kernel
theorem d_M_init_299 : decode prog_14_method_1_code 299 = .ok (.aload_n 0, 1) := by decide +kernel
theorem d_M_init_300 : decode prog_14_method_1_code 300 = .ok (.bipush (6), 2) := by decide +kernel
theorem d_M_init_302 : decode prog_14_method_1_code 302 = .ok (.newarray .int, 2) := by decide +kernel
theorem d_M_init_304 : decode prog_14_method_1_code 304 = .ok (.putfield 127, 3) := by decide +kernel
theorem d_M_init_307 : decode prog_14_method_1_code 307 = .ok (.aload_n 0, 1) := by decide +kernel
theorem d_M_init_308 : decode prog_14_method_1_code 308 = .ok (.bipush (6), 2) := by decide +kernel
theorem d_M_init_310 : decode prog_14_method_1_code 310 = .ok (.newarray .int, 2) := by decide +kernel
theorem d_M_init_312 : decode prog_14_method_1_code 312 = .ok (.putfield 130, 3) := by decide +kernel
theorem d_M_init_315 : decode prog_14_method_1_code 315 = .ok (.aload_n 0, 1) := by decide +kernel
theorem d_M_init_316 : decode prog_14_method_1_code 316 = .ok (.bipush (50), 2) := by decide +kernel
theorem d_M_init_318 : decode prog_14_method_1_code 318 = .ok (.newarray .int, 2) := by decide +kernel
theorem d_M_init_320 : decode prog_14_method_1_code 320 = .ok (.putfield 133, 3) := by decide +kernel
theorem d_M_init_323 : decode prog_14_method_1_code 323 = .ok (.aload_n 0, 1) := by decide +kernel
theorem d_M_init_324 : decode prog_14_method_1_code 324 = .ok (.bipush (24), 2) := by decide +kernel
theorem d_M_init_326 : decode prog_14_method_1_code 326 = .ok (.newarray .int, 2) := by decide +kernel
theorem d_M_init_328 : decode prog_14_method_1_code 328 = .ok (.putfield 136, 3) := by decide +kernel
theorem d_M_init_331 : decode prog_14_method_1_code 331 = .ok (.aload_n 0, 1) := by decide +kernel
theorem d_M_init_332 : decode prog_14_method_1_code 332 = .ok (.bipush (6), 2) := by decide +kernel
theorem d_M_init_334 : decode prog_14_method_1_code 334 = .ok (.newarray .int, 2) := by decide +kernel
theorem d_M_init_336 : decode prog_14_method_1_code 336 = .ok (.dup, 1) := by decide +kernel
theorem d_M_init_337 : decode prog_14_method_1_code 337 = .ok (.iconst 0, 1) := by decide +kernel
theorem d_M_init_338 : decode prog_14_method_1_code 338 = .ok (.iconst (-1), 1) := by decide +kernel
theorem d_M_init_339 : decode prog_14_method_1_code 339 = .ok (.iastore, 1) := by decide +kernel
theorem d_M_init_340 : decode prog_14_method_1_code 340 = .ok (.dup, 1) := by decide +kernel
theorem d_M_init_341 : decode prog_14_method_1_code 341 = .ok (.iconst 1, 1) := by decide +kernel
theorem d_M_init_342 : decode prog_14_method_1_code 342 = .ok (.iconst (-1), 1) := by decide +kernel
theorem d_M_init_343 : decode prog_14_method_1_code 343 = .ok (.iastore, 1) := by decide +kernel
theorem d_M_init_344 : decode prog_14_method_1_code 344 = .ok (.dup, 1) := by decide +kernel
theorem d_M_init_345 : decode prog_14_method_1_code 345 = .ok (.iconst 2, 1) := by decide +kernel
theorem d_M_init_346 : decode prog_14_method_1_code 346 = .ok (.iconst (-1), 1) := by decide +kernel
theorem d_M_init_347 : decode prog_14_method_1_code 347 = .ok (.iastore, 1) := by decide +kernel
theorem d_M_init_348 : decode prog_14_method_1_code 348 = .ok (.dup, 1) := by decide +kernel
theorem d_M_init_349 : decode prog_14_method_1_code 349 = .ok (.iconst 3, 1) := by decide +kernel
theorem d_M_init_350 : decode prog_14_method_1_code 350 = .ok (.iconst (-1), 1) := by decide +kernel
theorem d_M_init_351 : decode prog_14_method_1_code 351 = .ok (.iastore, 1) := by decide +kernel
theorem d_M_init_352 : decode prog_14_method_1_code 352 = .ok (.dup, 1) := by decide +kernel
theorem d_M_init_353 : decode prog_14_method_1_code 353 = .ok (.iconst 4, 1) := by decide +kernel
theorem d_M_init_354 : decode prog_14_method_1_code 354 = .ok (.iconst (-1), 1) := by decide +kernel
theorem d_M_init_355 : decode prog_14_method_1_code 355 = .ok (.iastore, 1) := by decide +kernel
theorem d_M_init_356 : decode prog_14_method_1_code 356 = .ok (.dup, 1) := by decide +kernel
theorem d_M_init_357 : decode prog_14_method_1_code 357 = .ok (.iconst 5, 1) := by decide +kernel
theorem d_M_init_358 : decode prog_14_method_1_code 358 = .ok (.iconst (-1), 1) := by decide +kernel
theorem d_M_init_359 : decode prog_14_method_1_code 359 = .ok (.iastore, 1) := by decide +kernel
theorem d_M_init_360 : decode prog_14_method_1_code 360 = .ok (.putfield 139, 3) := by decide +kernel
theorem d_M_init_363 : decode prog_14_method_1_code 363 = .ok (.aload_n 0, 1) := by decide +kernel
theorem d_M_init_364 : decode prog_14_method_1_code 364 = .ok (.bipush (6), 2) := by decide +kernel
theorem d_M_init_366 : decode prog_14_method_1_code 366 = .ok (.newarray .int, 2) := by decide +kernel
theorem d_M_init_368 : decode prog_14_method_1_code 368 = .ok (.putfield 142, 3) := by decide +kernel
theorem d_M_init_371 : decode prog_14_method_1_code 371 = .ok (.aload_n 0, 1) := by decide +kernel
theorem d_M_init_372 : decode prog_14_method_1_code 372 = .ok (.sipush (360), 3) := by decide +kernel
theorem d_M_init_375 : decode prog_14_method_1_code 375 = .ok (.newarray .long, 2) := by decide +kernel
theorem d_M_init_377 : decode prog_14_method_1_code 377 = .ok (.putfield 145, 3) := by decide +kernel
theorem d_M_init_380 : decode prog_14_method_1_code 380 = .ok (.aload_n 0, 1) := by decide +kernel
theorem d_M_init_381 : decode prog_14_method_1_code 381 = .ok (.bipush (60), 2) := by decide +kernel
theorem d_M_init_383 : decode prog_14_method_1_code 383 = .ok (.newarray .long, 2) := by decide +kernel
theorem d_M_init_385 : decode prog_14_method_1_code 385 = .ok (.putfield 149, 3) := by decide +kernel
theorem d_M_init_388 : decode prog_14_method_1_code 388 = .ok (.return_, 1) := by decide +kernel
set_option maxHeartbeats 4000000 in
set_option maxRecDepth 100000 in
theorem zk_22 {G : zz_G} {l : Launch} {s : zz_S} (hex : G.2.2.2.2 = true) : zz_M G l 50 y_M_init prog_14_method_1_code 1 none [.ref 79] zc_163 (zg_90 s) (none, zc_249, zg_142 s) :=
  zz_M.intro (by decide) (Nat.le_of_ble_eq_true rfl) (show zc_163.length ≤ zc_249.length by decide +kernel) (show zz_sl zc_163 ≤ zz_sl zc_249 by decide +kernel) (fun Z C => by
    change Z 0 [some (.ref 79)] [] zc_163 (zg_90 s)
    refine zz_aload_n (i := 0) (pc := 0) C rfl rfl d_M_init_0 ?_
    refine zz_obj (st := []) (pc := 1) C zl_12_1 zob_1 zob_2 (by omega) (Nat.le_of_ble_eq_true rfl) d_M_init_1 ?_
    refine zz_aload_n (i := 0) (pc := 4) C rfl rfl d_M_init_4 ?_
    refine zz_bipush (pc := 5) C zkb_40 d_M_init_5 ?_
    refine zz_putI' (σ := zg_90 s) (pc := 7) C zl_12_7 zpf_12_1 (fs := [none, none, none, some none, some none, some none, some none, none, some none, some none, some none, some none, none, some none, some none, some none, none, none, some none, some none, some none, some none, some none, none, none, none, none, none, some none, some none, some none, some none, some none, some none, some none, none, none, none, none, some none, some none, some none, some none, some none, some none, some none, some none, some none, some none, some none, some none, none, some none, some none, none, none, some none, none, some none, some none, some none, some none, some none]) (by decide +kernel) rfl d_M_init_7 ?_
    change Z 10 [some (.ref 79)] [] zc_163 (zg_91 s)
    refine zz_aload_n (i := 0) (pc := 10) C rfl rfl d_M_init_10 ?_
    refine zz_bipush (pc := 11) C zkb_6 d_M_init_11 ?_
    refine zz_newaK (t := 0) (nn := 80) (n := 6) (sh' := zc_164) (σ' := zg_92 s) (pc := 13) C hex (by decide +kernel) rfl rfl rfl (by decide) (by decide +kernel) (by decide +kernel) (by decide) zac_0 (by decide +kernel) (show zc_163.length + 1 ≤ zc_249.length by decide +kernel) (show zz_sl zc_163 + 6 ≤ zz_sl zc_249 by decide +kernel) d_M_init_13 ?_
    refine zz_putFK (sh' := zc_165) (fs := [none, none, none, some none, some none, some none, some none, none, some none, some none, some none, some none, none, some none, some none, some none, none, none, some none, some none, some none, some none, some none, none, none, none, none, none, some none, some none, some none, some none, some none, some none, some none, none, none, none, none, some none, some none, some none, some none, some none, some none, some none, some none, some none, some none, some none, some none, none, some none, some none, none, none, some none, none, some none, some none, some none, some none, some none]) (pc := 15) C zl_12_13 (by decide +kernel) rfl (by decide +kernel) (by decide +kernel) rfl (by decide +kernel) (zft_ref 12 3 (by decide +kernel)) (zft_ref2 12 3 (by decide +kernel)) rfl d_M_init_15 ?_
    refine zz_aload_n (i := 0) (pc := 18) C rfl rfl d_M_init_18 ?_
    refine zz_bipush (pc := 19) C zkb_6 d_M_init_19 ?_
    refine zz_newaK (t := 0) (nn := 81) (n := 6) (sh' := zc_166) (σ' := zg_93 s) (pc := 21) C hex (by decide +kernel) rfl rfl rfl (by decide) (by decide +kernel) (by decide +kernel) (by decide) zac_0 (by decide +kernel) (show zc_165.length + 1 ≤ zc_249.length by decide +kernel) (show zz_sl zc_165 + 6 ≤ zz_sl zc_249 by decide +kernel) d_M_init_21 ?_
    refine zz_putFK (sh' := zc_167) (fs := [none, none, none, some (some 80), some none, some none, some none, none, some none, some none, some none, some none, none, some none, some none, some none, none, none, some none, some none, some none, some none, some none, none, none, none, none, none, some none, some none, some none, some none, some none, some none, some none, none, none, none, none, some none, some none, some none, some none, some none, some none, some none, some none, some none, some none, some none, some none, none, some none, some none, none, none, some none, none, some none, some none, some none, some none, some none]) (pc := 23) C zl_12_17 (by decide +kernel) rfl (by decide +kernel) (by decide +kernel) rfl (by decide +kernel) (zft_ref 12 4 (by decide +kernel)) (zft_ref2 12 4 (by decide +kernel)) rfl d_M_init_23 ?_
    refine zz_aload_n (i := 0) (pc := 26) C rfl rfl d_M_init_26 ?_
    refine zz_bipush (pc := 27) C zkb_6 d_M_init_27 ?_
    refine zz_newaK (t := 0) (nn := 82) (n := 6) (sh' := zc_168) (σ' := zg_94 s) (pc := 29) C hex (by decide +kernel) rfl rfl rfl (by decide) (by decide +kernel) (by decide +kernel) (by decide) zac_0 (by decide +kernel) (show zc_167.length + 1 ≤ zc_249.length by decide +kernel) (show zz_sl zc_167 + 6 ≤ zz_sl zc_249 by decide +kernel) d_M_init_29 ?_
    refine zz_putFK (sh' := zc_169) (fs := [none, none, none, some (some 80), some (some 81), some none, some none, none, some none, some none, some none, some none, none, some none, some none, some none, none, none, some none, some none, some none, some none, some none, none, none, none, none, none, some none, some none, some none, some none, some none, some none, some none, none, none, none, none, some none, some none, some none, some none, some none, some none, some none, some none, some none, some none, some none, some none, none, some none, some none, none, none, some none, none, some none, some none, some none, some none, some none]) (pc := 31) C zl_12_20 (by decide +kernel) rfl (by decide +kernel) (by decide +kernel) rfl (by decide +kernel) (zft_ref 12 5 (by decide +kernel)) (zft_ref2 12 5 (by decide +kernel)) rfl d_M_init_31 ?_
    refine zz_aload_n (i := 0) (pc := 34) C rfl rfl d_M_init_34 ?_
    refine zz_bipush (pc := 35) C zkb_6 d_M_init_35 ?_
    refine zz_newaK (t := 0) (nn := 83) (n := 6) (sh' := zc_170) (σ' := zg_95 s) (pc := 37) C hex (by decide +kernel) rfl rfl rfl (by decide) (by decide +kernel) (by decide +kernel) (by decide) zac_0 (by decide +kernel) (show zc_169.length + 1 ≤ zc_249.length by decide +kernel) (show zz_sl zc_169 + 6 ≤ zz_sl zc_249 by decide +kernel) d_M_init_37 ?_
    refine zz_putFK (sh' := zc_171) (fs := [none, none, none, some (some 80), some (some 81), some (some 82), some none, none, some none, some none, some none, some none, none, some none, some none, some none, none, none, some none, some none, some none, some none, some none, none, none, none, none, none, some none, some none, some none, some none, some none, some none, some none, none, none, none, none, some none, some none, some none, some none, some none, some none, some none, some none, some none, some none, some none, some none, none, some none, some none, none, none, some none, none, some none, some none, some none, some none, some none]) (pc := 39) C zl_12_23 (by decide +kernel) rfl (by decide +kernel) (by decide +kernel) rfl (by decide +kernel) (zft_ref 12 6 (by decide +kernel)) (zft_ref2 12 6 (by decide +kernel)) rfl d_M_init_39 ?_
    refine zz_aload_n (i := 0) (pc := 42) C rfl rfl d_M_init_42 ?_
    refine zz_iconst (pc := 43) C zki_3 d_M_init_43 ?_
    refine zz_newaK (t := 0) (nn := 84) (n := 3) (sh' := zc_172) (σ' := zg_96 s) (pc := 44) C hex (by decide +kernel) rfl rfl rfl (by decide) (by decide +kernel) (by decide +kernel) (by decide) zac_0 (by decide +kernel) (show zc_171.length + 1 ≤ zc_249.length by decide +kernel) (show zz_sl zc_171 + 3 ≤ zz_sl zc_249 by decide +kernel) d_M_init_44 ?_
    refine zz_putFK (sh' := zc_173) (fs := [none, none, none, some (some 80), some (some 81), some (some 82), some (some 83), none, some none, some none, some none, some none, none, some none, some none, some none, none, none, some none, some none, some none, some none, some none, none, none, none, none, none, some none, some none, some none, some none, some none, some none, some none, none, none, none, none, some none, some none, some none, some none, some none, some none, some none, some none, some none, some none, some none, some none, none, some none, some none, none, none, some none, none, some none, some none, some none, some none, some none]) (pc := 46) C zl_12_26 (by decide +kernel) rfl (by decide +kernel) (by decide +kernel) rfl (by decide +kernel) (zft_ref 12 8 (by decide +kernel)) (zft_ref2 12 8 (by decide +kernel)) rfl d_M_init_46 ?_
    refine zz_aload_n (i := 0) (pc := 49) C rfl rfl d_M_init_49 ?_
    refine zz_iconst (pc := 50) C zki_3 d_M_init_50 ?_
    refine zz_newaK (t := 0) (nn := 85) (n := 3) (sh' := zc_174) (σ' := zg_97 s) (pc := 51) C hex (by decide +kernel) rfl rfl rfl (by decide) (by decide +kernel) (by decide +kernel) (by decide) zac_0 (by decide +kernel) (show zc_173.length + 1 ≤ zc_249.length by decide +kernel) (show zz_sl zc_173 + 3 ≤ zz_sl zc_249 by decide +kernel) d_M_init_51 ?_
    refine zz_putFK (sh' := zc_175) (fs := [none, none, none, some (some 80), some (some 81), some (some 82), some (some 83), none, some (some 84), some none, some none, some none, none, some none, some none, some none, none, none, some none, some none, some none, some none, some none, none, none, none, none, none, some none, some none, some none, some none, some none, some none, some none, none, none, none, none, some none, some none, some none, some none, some none, some none, some none, some none, some none, some none, some none, some none, none, some none, some none, none, none, some none, none, some none, some none, some none, some none, some none]) (pc := 53) C zl_12_29 (by decide +kernel) rfl (by decide +kernel) (by decide +kernel) rfl (by decide +kernel) (zft_ref 12 9 (by decide +kernel)) (zft_ref2 12 9 (by decide +kernel)) rfl d_M_init_53 ?_
    refine zz_aload_n (i := 0) (pc := 56) C rfl rfl d_M_init_56 ?_
    refine zz_iconst (pc := 57) C zki_3 d_M_init_57 ?_
    refine zz_newaK (t := 0) (nn := 86) (n := 3) (sh' := zc_176) (σ' := zg_98 s) (pc := 58) C hex (by decide +kernel) rfl rfl rfl (by decide) (by decide +kernel) (by decide +kernel) (by decide) zac_0 (by decide +kernel) (show zc_175.length + 1 ≤ zc_249.length by decide +kernel) (show zz_sl zc_175 + 3 ≤ zz_sl zc_249 by decide +kernel) d_M_init_58 ?_
    refine zz_putFK (sh' := zc_177) (fs := [none, none, none, some (some 80), some (some 81), some (some 82), some (some 83), none, some (some 84), some (some 85), some none, some none, none, some none, some none, some none, none, none, some none, some none, some none, some none, some none, none, none, none, none, none, some none, some none, some none, some none, some none, some none, some none, none, none, none, none, some none, some none, some none, some none, some none, some none, some none, some none, some none, some none, some none, some none, none, some none, some none, none, none, some none, none, some none, some none, some none, some none, some none]) (pc := 60) C zl_12_32 (by decide +kernel) rfl (by decide +kernel) (by decide +kernel) rfl (by decide +kernel) (zft_ref 12 10 (by decide +kernel)) (zft_ref2 12 10 (by decide +kernel)) rfl d_M_init_60 ?_
    refine zz_aload_n (i := 0) (pc := 63) C rfl rfl d_M_init_63 ?_
    refine zz_iconst (pc := 64) C zki_3 d_M_init_64 ?_
    refine zz_newaK (t := 0) (nn := 87) (n := 3) (sh' := zc_178) (σ' := zg_99 s) (pc := 65) C hex (by decide +kernel) rfl rfl rfl (by decide) (by decide +kernel) (by decide +kernel) (by decide) zac_0 (by decide +kernel) (show zc_177.length + 1 ≤ zc_249.length by decide +kernel) (show zz_sl zc_177 + 3 ≤ zz_sl zc_249 by decide +kernel) d_M_init_65 ?_
    refine zz_putFK (sh' := zc_179) (fs := [none, none, none, some (some 80), some (some 81), some (some 82), some (some 83), none, some (some 84), some (some 85), some (some 86), some none, none, some none, some none, some none, none, none, some none, some none, some none, some none, some none, none, none, none, none, none, some none, some none, some none, some none, some none, some none, some none, none, none, none, none, some none, some none, some none, some none, some none, some none, some none, some none, some none, some none, some none, some none, none, some none, some none, none, none, some none, none, some none, some none, some none, some none, some none]) (pc := 67) C zl_12_35 (by decide +kernel) rfl (by decide +kernel) (by decide +kernel) rfl (by decide +kernel) (zft_ref 12 11 (by decide +kernel)) (zft_ref2 12 11 (by decide +kernel)) rfl d_M_init_67 ?_
    refine zz_aload_n (i := 0) (pc := 70) C rfl rfl d_M_init_70 ?_
    refine zz_bipush (pc := 71) C zkb_60 d_M_init_71 ?_
    refine zz_newaK (t := 0) (nn := 88) (n := 60) (sh' := zc_180) (σ' := zg_100 s) (pc := 73) C hex (by decide +kernel) rfl rfl rfl (by decide) (by decide +kernel) (by decide +kernel) (by decide) zac_0 (by decide +kernel) (show zc_179.length + 1 ≤ zc_249.length by decide +kernel) (show zz_sl zc_179 + 60 ≤ zz_sl zc_249 by decide +kernel) d_M_init_73 ?_
    refine zz_putFK (sh' := zc_181) (fs := [none, none, none, some (some 80), some (some 81), some (some 82), some (some 83), none, some (some 84), some (some 85), some (some 86), some (some 87), none, some none, some none, some none, none, none, some none, some none, some none, some none, some none, none, none, none, none, none, some none, some none, some none, some none, some none, some none, some none, none, none, none, none, some none, some none, some none, some none, some none, some none, some none, some none, some none, some none, some none, some none, none, some none, some none, none, none, some none, none, some none, some none, some none, some none, some none]) (pc := 75) C zl_12_38 (by decide +kernel) rfl (by decide +kernel) (by decide +kernel) rfl (by decide +kernel) (zft_ref 12 13 (by decide +kernel)) (zft_ref2 12 13 (by decide +kernel)) rfl d_M_init_75 ?_
    refine zz_aload_n (i := 0) (pc := 78) C rfl rfl d_M_init_78 ?_
    refine zz_bipush (pc := 79) C zkb_60 d_M_init_79 ?_
    refine zz_newaK (t := 0) (nn := 89) (n := 60) (sh' := zc_182) (σ' := zg_101 s) (pc := 81) C hex (by decide +kernel) rfl rfl rfl (by decide) (by decide +kernel) (by decide +kernel) (by decide) zac_0 (by decide +kernel) (show zc_181.length + 1 ≤ zc_249.length by decide +kernel) (show zz_sl zc_181 + 60 ≤ zz_sl zc_249 by decide +kernel) d_M_init_81 ?_
    refine zz_putFK (sh' := zc_183) (fs := [none, none, none, some (some 80), some (some 81), some (some 82), some (some 83), none, some (some 84), some (some 85), some (some 86), some (some 87), none, some (some 88), some none, some none, none, none, some none, some none, some none, some none, some none, none, none, none, none, none, some none, some none, some none, some none, some none, some none, some none, none, none, none, none, some none, some none, some none, some none, some none, some none, some none, some none, some none, some none, some none, some none, none, some none, some none, none, none, some none, none, some none, some none, some none, some none, some none]) (pc := 83) C zl_12_41 (by decide +kernel) rfl (by decide +kernel) (by decide +kernel) rfl (by decide +kernel) (zft_ref 12 14 (by decide +kernel)) (zft_ref2 12 14 (by decide +kernel)) rfl d_M_init_83 ?_
    refine zz_aload_n (i := 0) (pc := 86) C rfl rfl d_M_init_86 ?_
    refine zz_bipush (pc := 87) C zkb_60 d_M_init_87 ?_
    refine zz_newaK (t := 0) (nn := 90) (n := 60) (sh' := zc_184) (σ' := zg_102 s) (pc := 89) C hex (by decide +kernel) rfl rfl rfl (by decide) (by decide +kernel) (by decide +kernel) (by decide) zac_0 (by decide +kernel) (show zc_183.length + 1 ≤ zc_249.length by decide +kernel) (show zz_sl zc_183 + 60 ≤ zz_sl zc_249 by decide +kernel) d_M_init_89 ?_
    refine zz_putFK (sh' := zc_185) (fs := [none, none, none, some (some 80), some (some 81), some (some 82), some (some 83), none, some (some 84), some (some 85), some (some 86), some (some 87), none, some (some 88), some (some 89), some none, none, none, some none, some none, some none, some none, some none, none, none, none, none, none, some none, some none, some none, some none, some none, some none, some none, none, none, none, none, some none, some none, some none, some none, some none, some none, some none, some none, some none, some none, some none, some none, none, some none, some none, none, none, some none, none, some none, some none, some none, some none, some none]) (pc := 91) C zl_12_44 (by decide +kernel) rfl (by decide +kernel) (by decide +kernel) rfl (by decide +kernel) (zft_ref 12 15 (by decide +kernel)) (zft_ref2 12 15 (by decide +kernel)) rfl d_M_init_91 ?_
    refine zz_aload_n (i := 0) (pc := 94) C rfl rfl d_M_init_94 ?_
    refine zz_bipush (pc := 95) C zkb_40 d_M_init_95 ?_
    refine zz_newaK (t := 0) (nn := 91) (n := 40) (sh' := zc_186) (σ' := zg_103 s) (pc := 97) C hex (by decide +kernel) rfl rfl rfl (by decide) (by decide +kernel) (by decide +kernel) (by decide) zac_0 (by decide +kernel) (show zc_185.length + 1 ≤ zc_249.length by decide +kernel) (show zz_sl zc_185 + 40 ≤ zz_sl zc_249 by decide +kernel) d_M_init_97 ?_
    refine zz_putFK (sh' := zc_187) (fs := [none, none, none, some (some 80), some (some 81), some (some 82), some (some 83), none, some (some 84), some (some 85), some (some 86), some (some 87), none, some (some 88), some (some 89), some (some 90), none, none, some none, some none, some none, some none, some none, none, none, none, none, none, some none, some none, some none, some none, some none, some none, some none, none, none, none, none, some none, some none, some none, some none, some none, some none, some none, some none, some none, some none, some none, some none, none, some none, some none, none, none, some none, none, some none, some none, some none, some none, some none]) (pc := 99) C zl_12_47 (by decide +kernel) rfl (by decide +kernel) (by decide +kernel) rfl (by decide +kernel) (zft_ref 12 18 (by decide +kernel)) (zft_ref2 12 18 (by decide +kernel)) rfl d_M_init_99 ?_
    refine zz_aload_n (i := 0) (pc := 102) C rfl rfl d_M_init_102 ?_
    refine zz_bipush (pc := 103) C zkb_40 d_M_init_103 ?_
    refine zz_newaK (t := 0) (nn := 92) (n := 40) (sh' := zc_188) (σ' := zg_104 s) (pc := 105) C hex (by decide +kernel) rfl rfl rfl (by decide) (by decide +kernel) (by decide +kernel) (by decide) zac_0 (by decide +kernel) (show zc_187.length + 1 ≤ zc_249.length by decide +kernel) (show zz_sl zc_187 + 40 ≤ zz_sl zc_249 by decide +kernel) d_M_init_105 ?_
    refine zz_putFK (sh' := zc_189) (fs := [none, none, none, some (some 80), some (some 81), some (some 82), some (some 83), none, some (some 84), some (some 85), some (some 86), some (some 87), none, some (some 88), some (some 89), some (some 90), none, none, some (some 91), some none, some none, some none, some none, none, none, none, none, none, some none, some none, some none, some none, some none, some none, some none, none, none, none, none, some none, some none, some none, some none, some none, some none, some none, some none, some none, some none, some none, some none, none, some none, some none, none, none, some none, none, some none, some none, some none, some none, some none]) (pc := 107) C zl_12_50 (by decide +kernel) rfl (by decide +kernel) (by decide +kernel) rfl (by decide +kernel) (zft_ref 12 19 (by decide +kernel)) (zft_ref2 12 19 (by decide +kernel)) rfl d_M_init_107 ?_
    refine zz_aload_n (i := 0) (pc := 110) C rfl rfl d_M_init_110 ?_
    refine zz_bipush (pc := 111) C zkb_40 d_M_init_111 ?_
    refine zz_newaK (t := 0) (nn := 93) (n := 40) (sh' := zc_190) (σ' := zg_105 s) (pc := 113) C hex (by decide +kernel) rfl rfl rfl (by decide) (by decide +kernel) (by decide +kernel) (by decide) zac_0 (by decide +kernel) (show zc_189.length + 1 ≤ zc_249.length by decide +kernel) (show zz_sl zc_189 + 40 ≤ zz_sl zc_249 by decide +kernel) d_M_init_113 ?_
    refine zz_putFK (sh' := zc_191) (fs := [none, none, none, some (some 80), some (some 81), some (some 82), some (some 83), none, some (some 84), some (some 85), some (some 86), some (some 87), none, some (some 88), some (some 89), some (some 90), none, none, some (some 91), some (some 92), some none, some none, some none, none, none, none, none, none, some none, some none, some none, some none, some none, some none, some none, none, none, none, none, some none, some none, some none, some none, some none, some none, some none, some none, some none, some none, some none, some none, none, some none, some none, none, none, some none, none, some none, some none, some none, some none, some none]) (pc := 115) C zl_12_53 (by decide +kernel) rfl (by decide +kernel) (by decide +kernel) rfl (by decide +kernel) (zft_ref 12 20 (by decide +kernel)) (zft_ref2 12 20 (by decide +kernel)) rfl d_M_init_115 ?_
    refine zz_aload_n (i := 0) (pc := 118) C rfl rfl d_M_init_118 ?_
    refine zz_bipush (pc := 119) C zkb_40 d_M_init_119 ?_
    refine zz_newaK (t := 0) (nn := 94) (n := 40) (sh' := zc_192) (σ' := zg_106 s) (pc := 121) C hex (by decide +kernel) rfl rfl rfl (by decide) (by decide +kernel) (by decide +kernel) (by decide) zac_0 (by decide +kernel) (show zc_191.length + 1 ≤ zc_249.length by decide +kernel) (show zz_sl zc_191 + 40 ≤ zz_sl zc_249 by decide +kernel) d_M_init_121 ?_
    refine zz_putFK (sh' := zc_193) (fs := [none, none, none, some (some 80), some (some 81), some (some 82), some (some 83), none, some (some 84), some (some 85), some (some 86), some (some 87), none, some (some 88), some (some 89), some (some 90), none, none, some (some 91), some (some 92), some (some 93), some none, some none, none, none, none, none, none, some none, some none, some none, some none, some none, some none, some none, none, none, none, none, some none, some none, some none, some none, some none, some none, some none, some none, some none, some none, some none, some none, none, some none, some none, none, none, some none, none, some none, some none, some none, some none, some none]) (pc := 123) C zl_12_56 (by decide +kernel) rfl (by decide +kernel) (by decide +kernel) rfl (by decide +kernel) (zft_ref 12 21 (by decide +kernel)) (zft_ref2 12 21 (by decide +kernel)) rfl d_M_init_123 ?_
    refine zz_aload_n (i := 0) (pc := 126) C rfl rfl d_M_init_126 ?_
    refine zz_bipush (pc := 127) C zkb_120 d_M_init_127 ?_
    refine zz_newaK (t := 1) (nn := 95) (n := 120) (sh' := zc_194) (σ' := zg_107 s) (pc := 129) C hex (by decide +kernel) rfl rfl rfl (by decide) (by decide +kernel) (by decide +kernel) (by decide) zac_1 (by decide +kernel) (show zc_193.length + 1 ≤ zc_249.length by decide +kernel) (show zz_sl zc_193 + 120 ≤ zz_sl zc_249 by decide +kernel) d_M_init_129 ?_
    refine zz_putFK (sh' := zc_195) (fs := [none, none, none, some (some 80), some (some 81), some (some 82), some (some 83), none, some (some 84), some (some 85), some (some 86), some (some 87), none, some (some 88), some (some 89), some (some 90), none, none, some (some 91), some (some 92), some (some 93), some (some 94), some none, none, none, none, none, none, some none, some none, some none, some none, some none, some none, some none, none, none, none, none, some none, some none, some none, some none, some none, some none, some none, some none, some none, some none, some none, some none, none, some none, some none, none, none, some none, none, some none, some none, some none, some none, some none]) (pc := 131) C zl_12_59 (by decide +kernel) rfl (by decide +kernel) (by decide +kernel) rfl (by decide +kernel) (zft_ref 12 22 (by decide +kernel)) (zft_ref2 12 22 (by decide +kernel)) rfl d_M_init_131 ?_
    refine zz_aload_n (i := 0) (pc := 134) C rfl rfl d_M_init_134 ?_
    refine zz_sipush (pc := 135) C zks_780 d_M_init_135 ?_
    refine zz_newaK (t := 1) (nn := 96) (n := 780) (sh' := zc_196) (σ' := zg_108 s) (pc := 138) C hex (by decide +kernel) rfl rfl rfl (by decide) (by decide +kernel) (by decide +kernel) (by decide) zac_1 (by decide +kernel) (show zc_195.length + 1 ≤ zc_249.length by decide +kernel) (show zz_sl zc_195 + 780 ≤ zz_sl zc_249 by decide +kernel) d_M_init_138 ?_
    refine zz_putFK (sh' := zc_197) (fs := [none, none, none, some (some 80), some (some 81), some (some 82), some (some 83), none, some (some 84), some (some 85), some (some 86), some (some 87), none, some (some 88), some (some 89), some (some 90), none, none, some (some 91), some (some 92), some (some 93), some (some 94), some (some 95), none, none, none, none, none, some none, some none, some none, some none, some none, some none, some none, none, none, none, none, some none, some none, some none, some none, some none, some none, some none, some none, some none, some none, some none, some none, none, some none, some none, none, none, some none, none, some none, some none, some none, some none, some none]) (pc := 140) C zl_12_63 (by decide +kernel) rfl (by decide +kernel) (by decide +kernel) rfl (by decide +kernel) (zft_ref 12 28 (by decide +kernel)) (zft_ref2 12 28 (by decide +kernel)) rfl d_M_init_140 ?_
    refine zz_aload_n (i := 0) (pc := 143) C rfl rfl d_M_init_143 ?_
    refine zz_sipush (pc := 144) C zks_780 d_M_init_144 ?_
    refine zz_newaK (t := 0) (nn := 97) (n := 780) (sh' := zc_198) (σ' := zg_109 s) (pc := 147) C hex (by decide +kernel) rfl rfl rfl (by decide) (by decide +kernel) (by decide +kernel) (by decide) zac_0 (by decide +kernel) (show zc_197.length + 1 ≤ zc_249.length by decide +kernel) (show zz_sl zc_197 + 780 ≤ zz_sl zc_249 by decide +kernel) d_M_init_147 ?_
    refine zz_putFK (sh' := zc_199) (fs := [none, none, none, some (some 80), some (some 81), some (some 82), some (some 83), none, some (some 84), some (some 85), some (some 86), some (some 87), none, some (some 88), some (some 89), some (some 90), none, none, some (some 91), some (some 92), some (some 93), some (some 94), some (some 95), none, none, none, none, none, some (some 96), some none, some none, some none, some none, some none, some none, none, none, none, none, some none, some none, some none, some none, some none, some none, some none, some none, some none, some none, some none, some none, none, some none, some none, none, none, some none, none, some none, some none, some none, some none, some none]) (pc := 149) C zl_12_66 (by decide +kernel) rfl (by decide +kernel) (by decide +kernel) rfl (by decide +kernel) (zft_ref 12 29 (by decide +kernel)) (zft_ref2 12 29 (by decide +kernel)) rfl d_M_init_149 ?_
    refine zz_aload_n (i := 0) (pc := 152) C rfl rfl d_M_init_152 ?_
    refine zz_bipush (pc := 153) C zkb_6 d_M_init_153 ?_
    refine zz_newaK (t := 0) (nn := 98) (n := 6) (sh' := zc_200) (σ' := zg_110 s) (pc := 155) C hex (by decide +kernel) rfl rfl rfl (by decide) (by decide +kernel) (by decide +kernel) (by decide) zac_0 (by decide +kernel) (show zc_199.length + 1 ≤ zc_249.length by decide +kernel) (show zz_sl zc_199 + 6 ≤ zz_sl zc_249 by decide +kernel) d_M_init_155 ?_
    refine zz_putFK (sh' := zc_201) (fs := [none, none, none, some (some 80), some (some 81), some (some 82), some (some 83), none, some (some 84), some (some 85), some (some 86), some (some 87), none, some (some 88), some (some 89), some (some 90), none, none, some (some 91), some (some 92), some (some 93), some (some 94), some (some 95), none, none, none, none, none, some (some 96), some (some 97), some none, some none, some none, some none, some none, none, none, none, none, some none, some none, some none, some none, some none, some none, some none, some none, some none, some none, some none, some none, none, some none, some none, none, none, some none, none, some none, some none, some none, some none, some none]) (pc := 157) C zl_12_69 (by decide +kernel) rfl (by decide +kernel) (by decide +kernel) rfl (by decide +kernel) (zft_ref 12 30 (by decide +kernel)) (zft_ref2 12 30 (by decide +kernel)) rfl d_M_init_157 ?_
    refine zz_aload_n (i := 0) (pc := 160) C rfl rfl d_M_init_160 ?_
    refine zz_sipush (pc := 161) C zks_366 d_M_init_161 ?_
    refine zz_newaK (t := 2) (nn := 99) (n := 366) (sh' := zc_202) (σ' := zg_111 s) (pc := 164) C hex (by decide +kernel) rfl rfl rfl (by decide) (by decide +kernel) (by decide +kernel) (by decide) zac_2 (by decide +kernel) (show zc_201.length + 1 ≤ zc_249.length by decide +kernel) (show zz_sl zc_201 + 366 ≤ zz_sl zc_249 by decide +kernel) d_M_init_164 ?_
    refine zz_putFK (sh' := zc_203) (fs := [none, none, none, some (some 80), some (some 81), some (some 82), some (some 83), none, some (some 84), some (some 85), some (some 86), some (some 87), none, some (some 88), some (some 89), some (some 90), none, none, some (some 91), some (some 92), some (some 93), some (some 94), some (some 95), none, none, none, none, none, some (some 96), some (some 97), some (some 98), some none, some none, some none, some none, none, none, none, none, some none, some none, some none, some none, some none, some none, some none, some none, some none, some none, some none, some none, none, some none, some none, none, none, some none, none, some none, some none, some none, some none, some none]) (pc := 166) C zl_12_72 (by decide +kernel) rfl (by decide +kernel) (by decide +kernel) rfl (by decide +kernel) (zft_ref 12 31 (by decide +kernel)) (zft_ref2 12 31 (by decide +kernel)) rfl d_M_init_166 ?_
    refine zz_aload_n (i := 0) (pc := 169) C rfl rfl d_M_init_169 ?_
    refine zz_sipush (pc := 170) C zks_366 d_M_init_170 ?_
    refine zz_newaK (t := 2) (nn := 100) (n := 366) (sh' := zc_204) (σ' := zg_112 s) (pc := 173) C hex (by decide +kernel) rfl rfl rfl (by decide) (by decide +kernel) (by decide +kernel) (by decide) zac_2 (by decide +kernel) (show zc_203.length + 1 ≤ zc_249.length by decide +kernel) (show zz_sl zc_203 + 366 ≤ zz_sl zc_249 by decide +kernel) d_M_init_173 ?_
    refine zz_putFK (sh' := zc_205) (fs := [none, none, none, some (some 80), some (some 81), some (some 82), some (some 83), none, some (some 84), some (some 85), some (some 86), some (some 87), none, some (some 88), some (some 89), some (some 90), none, none, some (some 91), some (some 92), some (some 93), some (some 94), some (some 95), none, none, none, none, none, some (some 96), some (some 97), some (some 98), some (some 99), some none, some none, some none, none, none, none, none, some none, some none, some none, some none, some none, some none, some none, some none, some none, some none, some none, some none, none, some none, some none, none, none, some none, none, some none, some none, some none, some none, some none]) (pc := 175) C zl_12_76 (by decide +kernel) rfl (by decide +kernel) (by decide +kernel) rfl (by decide +kernel) (zft_ref 12 32 (by decide +kernel)) (zft_ref2 12 32 (by decide +kernel)) rfl d_M_init_175 ?_
    refine zz_aload_n (i := 0) (pc := 178) C rfl rfl d_M_init_178 ?_
    refine zz_bipush (pc := 179) C zkb_8 d_M_init_179 ?_
    refine zz_newaK (t := 0) (nn := 101) (n := 8) (sh' := zc_206) (σ' := zg_113 s) (pc := 181) C hex (by decide +kernel) rfl rfl rfl (by decide) (by decide +kernel) (by decide +kernel) (by decide) zac_0 (by decide +kernel) (show zc_205.length + 1 ≤ zc_249.length by decide +kernel) (show zz_sl zc_205 + 8 ≤ zz_sl zc_249 by decide +kernel) d_M_init_181 ?_
    refine zz_putFK (sh' := zc_207) (fs := [none, none, none, some (some 80), some (some 81), some (some 82), some (some 83), none, some (some 84), some (some 85), some (some 86), some (some 87), none, some (some 88), some (some 89), some (some 90), none, none, some (some 91), some (some 92), some (some 93), some (some 94), some (some 95), none, none, none, none, none, some (some 96), some (some 97), some (some 98), some (some 99), some (some 100), some none, some none, none, none, none, none, some none, some none, some none, some none, some none, some none, some none, some none, some none, some none, some none, some none, none, some none, some none, none, none, some none, none, some none, some none, some none, some none, some none]) (pc := 183) C zl_12_79 (by decide +kernel) rfl (by decide +kernel) (by decide +kernel) rfl (by decide +kernel) (zft_ref 12 33 (by decide +kernel)) (zft_ref2 12 33 (by decide +kernel)) rfl d_M_init_183 ?_
    refine zz_aload_n (i := 0) (pc := 186) C rfl rfl d_M_init_186 ?_
    refine zz_sipush (pc := 187) C zks_130 d_M_init_187 ?_
    refine zz_newaK (t := 0) (nn := 102) (n := 130) (sh' := zc_208) (σ' := zg_114 s) (pc := 190) C hex (by decide +kernel) rfl rfl rfl (by decide) (by decide +kernel) (by decide +kernel) (by decide) zac_0 (by decide +kernel) (show zc_207.length + 1 ≤ zc_249.length by decide +kernel) (show zz_sl zc_207 + 130 ≤ zz_sl zc_249 by decide +kernel) d_M_init_190 ?_
    refine zz_putFK (sh' := zc_209) (fs := [none, none, none, some (some 80), some (some 81), some (some 82), some (some 83), none, some (some 84), some (some 85), some (some 86), some (some 87), none, some (some 88), some (some 89), some (some 90), none, none, some (some 91), some (some 92), some (some 93), some (some 94), some (some 95), none, none, none, none, none, some (some 96), some (some 97), some (some 98), some (some 99), some (some 100), some (some 101), some none, none, none, none, none, some none, some none, some none, some none, some none, some none, some none, some none, some none, some none, some none, some none, none, some none, some none, none, none, some none, none, some none, some none, some none, some none, some none]) (pc := 192) C zl_12_82 (by decide +kernel) rfl (by decide +kernel) (by decide +kernel) rfl (by decide +kernel) (zft_ref 12 34 (by decide +kernel)) (zft_ref2 12 34 (by decide +kernel)) rfl d_M_init_192 ?_
    refine zz_aload_n (i := 0) (pc := 195) C rfl rfl d_M_init_195 ?_
    refine zz_iconst (pc := 196) C zki_m1 d_M_init_196 ?_
    refine zz_putI' (σ := zg_114 s) (pc := 197) C zl_12_85 zpf_12_36 (fs := [none, none, none, some (some 80), some (some 81), some (some 82), some (some 83), none, some (some 84), some (some 85), some (some 86), some (some 87), none, some (some 88), some (some 89), some (some 90), none, none, some (some 91), some (some 92), some (some 93), some (some 94), some (some 95), none, none, none, none, none, some (some 96), some (some 97), some (some 98), some (some 99), some (some 100), some (some 101), some (some 102), none, none, none, none, some none, some none, some none, some none, some none, some none, some none, some none, some none, some none, some none, some none, none, some none, some none, none, none, some none, none, some none, some none, some none, some none, some none]) (by decide +kernel) rfl d_M_init_197 ?_
    change Z 200 [some (.ref 79)] [] zc_209 (zg_115 s)
    refine zz_aload_n (i := 0) (pc := 200) C rfl rfl d_M_init_200 ?_
    refine zz_bipush (pc := 201) C zkb_6 d_M_init_201 ?_
    refine zz_newaK (t := 0) (nn := 103) (n := 6) (sh' := zc_210) (σ' := zg_116 s) (pc := 203) C hex (by decide +kernel) rfl rfl rfl (by decide) (by decide +kernel) (by decide +kernel) (by decide) zac_0 (by decide +kernel) (show zc_209.length + 1 ≤ zc_249.length by decide +kernel) (show zz_sl zc_209 + 6 ≤ zz_sl zc_249 by decide +kernel) d_M_init_203 ?_
    refine zz_putFK (sh' := zc_211) (fs := [none, none, none, some (some 80), some (some 81), some (some 82), some (some 83), none, some (some 84), some (some 85), some (some 86), some (some 87), none, some (some 88), some (some 89), some (some 90), none, none, some (some 91), some (some 92), some (some 93), some (some 94), some (some 95), none, none, none, none, none, some (some 96), some (some 97), some (some 98), some (some 99), some (some 100), some (some 101), some (some 102), none, none, none, none, some none, some none, some none, some none, some none, some none, some none, some none, some none, some none, some none, some none, none, some none, some none, none, none, some none, none, some none, some none, some none, some none, some none]) (pc := 205) C zl_12_88 (by decide +kernel) rfl (by decide +kernel) (by decide +kernel) rfl (by decide +kernel) (zft_ref 12 39 (by decide +kernel)) (zft_ref2 12 39 (by decide +kernel)) rfl d_M_init_205 ?_
    refine zz_aload_n (i := 0) (pc := 208) C rfl rfl d_M_init_208 ?_
    refine zz_iconst (pc := 209) C zki_3 d_M_init_209 ?_
    refine zz_newaK (t := 0) (nn := 104) (n := 3) (sh' := zc_212) (σ' := zg_117 s) (pc := 210) C hex (by decide +kernel) rfl rfl rfl (by decide) (by decide +kernel) (by decide +kernel) (by decide) zac_0 (by decide +kernel) (show zc_211.length + 1 ≤ zc_249.length by decide +kernel) (show zz_sl zc_211 + 3 ≤ zz_sl zc_249 by decide +kernel) d_M_init_210 ?_
    refine zz_putFK (sh' := zc_213) (fs := [none, none, none, some (some 80), some (some 81), some (some 82), some (some 83), none, some (some 84), some (some 85), some (some 86), some (some 87), none, some (some 88), some (some 89), some (some 90), none, none, some (some 91), some (some 92), some (some 93), some (some 94), some (some 95), none, none, none, none, none, some (some 96), some (some 97), some (some 98), some (some 99), some (some 100), some (some 101), some (some 102), none, none, none, none, some (some 103), some none, some none, some none, some none, some none, some none, some none, some none, some none, some none, some none, none, some none, some none, none, none, some none, none, some none, some none, some none, some none, some none]) (pc := 212) C zl_12_91 (by decide +kernel) rfl (by decide +kernel) (by decide +kernel) rfl (by decide +kernel) (zft_ref 12 40 (by decide +kernel)) (zft_ref2 12 40 (by decide +kernel)) rfl d_M_init_212 ?_
    refine zz_aload_n (i := 0) (pc := 215) C rfl rfl d_M_init_215 ?_
    refine zz_bipush (pc := 216) C zkb_6 d_M_init_216 ?_
    refine zz_newaK (t := 0) (nn := 105) (n := 6) (sh' := zc_214) (σ' := zg_118 s) (pc := 218) C hex (by decide +kernel) rfl rfl rfl (by decide) (by decide +kernel) (by decide +kernel) (by decide) zac_0 (by decide +kernel) (show zc_213.length + 1 ≤ zc_249.length by decide +kernel) (show zz_sl zc_213 + 6 ≤ zz_sl zc_249 by decide +kernel) d_M_init_218 ?_
    refine zz_putFK (sh' := zc_215) (fs := [none, none, none, some (some 80), some (some 81), some (some 82), some (some 83), none, some (some 84), some (some 85), some (some 86), some (some 87), none, some (some 88), some (some 89), some (some 90), none, none, some (some 91), some (some 92), some (some 93), some (some 94), some (some 95), none, none, none, none, none, some (some 96), some (some 97), some (some 98), some (some 99), some (some 100), some (some 101), some (some 102), none, none, none, none, some (some 103), some (some 104), some none, some none, some none, some none, some none, some none, some none, some none, some none, some none, none, some none, some none, none, none, some none, none, some none, some none, some none, some none, some none]) (pc := 220) C zl_12_94 (by decide +kernel) rfl (by decide +kernel) (by decide +kernel) rfl (by decide +kernel) (zft_ref 12 41 (by decide +kernel)) (zft_ref2 12 41 (by decide +kernel)) rfl d_M_init_220 ?_
    refine zz_aload_n (i := 0) (pc := 223) C rfl rfl d_M_init_223 ?_
    refine zz_iconst (pc := 224) C zki_3 d_M_init_224 ?_
    refine zz_newaK (t := 0) (nn := 106) (n := 3) (sh' := zc_216) (σ' := zg_119 s) (pc := 225) C hex (by decide +kernel) rfl rfl rfl (by decide) (by decide +kernel) (by decide +kernel) (by decide) zac_0 (by decide +kernel) (show zc_215.length + 1 ≤ zc_249.length by decide +kernel) (show zz_sl zc_215 + 3 ≤ zz_sl zc_249 by decide +kernel) d_M_init_225 ?_
    refine zz_putFK (sh' := zc_217) (fs := [none, none, none, some (some 80), some (some 81), some (some 82), some (some 83), none, some (some 84), some (some 85), some (some 86), some (some 87), none, some (some 88), some (some 89), some (some 90), none, none, some (some 91), some (some 92), some (some 93), some (some 94), some (some 95), none, none, none, none, none, some (some 96), some (some 97), some (some 98), some (some 99), some (some 100), some (some 101), some (some 102), none, none, none, none, some (some 103), some (some 104), some (some 105), some none, some none, some none, some none, some none, some none, some none, some none, some none, none, some none, some none, none, none, some none, none, some none, some none, some none, some none, some none]) (pc := 227) C zl_12_97 (by decide +kernel) rfl (by decide +kernel) (by decide +kernel) rfl (by decide +kernel) (zft_ref 12 42 (by decide +kernel)) (zft_ref2 12 42 (by decide +kernel)) rfl d_M_init_227 ?_
    refine zz_aload_n (i := 0) (pc := 230) C rfl rfl d_M_init_230 ?_
    refine zz_bipush (pc := 231) C zkb_6 d_M_init_231 ?_
    refine zz_newaK (t := 0) (nn := 107) (n := 6) (sh' := zc_218) (σ' := zg_120 s) (pc := 233) C hex (by decide +kernel) rfl rfl rfl (by decide) (by decide +kernel) (by decide +kernel) (by decide) zac_0 (by decide +kernel) (show zc_217.length + 1 ≤ zc_249.length by decide +kernel) (show zz_sl zc_217 + 6 ≤ zz_sl zc_249 by decide +kernel) d_M_init_233 ?_
    refine zz_putFK (sh' := zc_219) (fs := [none, none, none, some (some 80), some (some 81), some (some 82), some (some 83), none, some (some 84), some (some 85), some (some 86), some (some 87), none, some (some 88), some (some 89), some (some 90), none, none, some (some 91), some (some 92), some (some 93), some (some 94), some (some 95), none, none, none, none, none, some (some 96), some (some 97), some (some 98), some (some 99), some (some 100), some (some 101), some (some 102), none, none, none, none, some (some 103), some (some 104), some (some 105), some (some 106), some none, some none, some none, some none, some none, some none, some none, some none, none, some none, some none, none, none, some none, none, some none, some none, some none, some none, some none]) (pc := 235) C zl_12_100 (by decide +kernel) rfl (by decide +kernel) (by decide +kernel) rfl (by decide +kernel) (zft_ref 12 43 (by decide +kernel)) (zft_ref2 12 43 (by decide +kernel)) rfl d_M_init_235 ?_
    refine zz_aload_n (i := 0) (pc := 238) C rfl rfl d_M_init_238 ?_
    refine zz_bipush (pc := 239) C zkb_6 d_M_init_239 ?_
    refine zz_newaK (t := 0) (nn := 108) (n := 6) (sh' := zc_220) (σ' := zg_121 s) (pc := 241) C hex (by decide +kernel) rfl rfl rfl (by decide) (by decide +kernel) (by decide +kernel) (by decide) zac_0 (by decide +kernel) (show zc_219.length + 1 ≤ zc_249.length by decide +kernel) (show zz_sl zc_219 + 6 ≤ zz_sl zc_249 by decide +kernel) d_M_init_241 ?_
    refine zz_putFK (sh' := zc_221) (fs := [none, none, none, some (some 80), some (some 81), some (some 82), some (some 83), none, some (some 84), some (some 85), some (some 86), some (some 87), none, some (some 88), some (some 89), some (some 90), none, none, some (some 91), some (some 92), some (some 93), some (some 94), some (some 95), none, none, none, none, none, some (some 96), some (some 97), some (some 98), some (some 99), some (some 100), some (some 101), some (some 102), none, none, none, none, some (some 103), some (some 104), some (some 105), some (some 106), some (some 107), some none, some none, some none, some none, some none, some none, some none, none, some none, some none, none, none, some none, none, some none, some none, some none, some none, some none]) (pc := 243) C zl_12_103 (by decide +kernel) rfl (by decide +kernel) (by decide +kernel) rfl (by decide +kernel) (zft_ref 12 44 (by decide +kernel)) (zft_ref2 12 44 (by decide +kernel)) rfl d_M_init_243 ?_
    refine zz_aload_n (i := 0) (pc := 246) C rfl rfl d_M_init_246 ?_
    refine zz_bipush (pc := 247) C zkb_6 d_M_init_247 ?_
    refine zz_newaK (t := 0) (nn := 109) (n := 6) (sh' := zc_222) (σ' := zg_122 s) (pc := 249) C hex (by decide +kernel) rfl rfl rfl (by decide) (by decide +kernel) (by decide +kernel) (by decide) zac_0 (by decide +kernel) (show zc_221.length + 1 ≤ zc_249.length by decide +kernel) (show zz_sl zc_221 + 6 ≤ zz_sl zc_249 by decide +kernel) d_M_init_249 ?_
    refine zz_putFK (sh' := zc_223) (fs := [none, none, none, some (some 80), some (some 81), some (some 82), some (some 83), none, some (some 84), some (some 85), some (some 86), some (some 87), none, some (some 88), some (some 89), some (some 90), none, none, some (some 91), some (some 92), some (some 93), some (some 94), some (some 95), none, none, none, none, none, some (some 96), some (some 97), some (some 98), some (some 99), some (some 100), some (some 101), some (some 102), none, none, none, none, some (some 103), some (some 104), some (some 105), some (some 106), some (some 107), some (some 108), some none, some none, some none, some none, some none, some none, none, some none, some none, none, none, some none, none, some none, some none, some none, some none, some none]) (pc := 251) C zl_12_106 (by decide +kernel) rfl (by decide +kernel) (by decide +kernel) rfl (by decide +kernel) (zft_ref 12 45 (by decide +kernel)) (zft_ref2 12 45 (by decide +kernel)) rfl d_M_init_251 ?_
    refine zz_aload_n (i := 0) (pc := 254) C rfl rfl d_M_init_254 ?_
    refine zz_bipush (pc := 255) C zkb_6 d_M_init_255 ?_
    refine zz_newaK (t := 0) (nn := 110) (n := 6) (sh' := zc_224) (σ' := zg_123 s) (pc := 257) C hex (by decide +kernel) rfl rfl rfl (by decide) (by decide +kernel) (by decide +kernel) (by decide) zac_0 (by decide +kernel) (show zc_223.length + 1 ≤ zc_249.length by decide +kernel) (show zz_sl zc_223 + 6 ≤ zz_sl zc_249 by decide +kernel) d_M_init_257 ?_
    refine zz_putFK (sh' := zc_225) (fs := [none, none, none, some (some 80), some (some 81), some (some 82), some (some 83), none, some (some 84), some (some 85), some (some 86), some (some 87), none, some (some 88), some (some 89), some (some 90), none, none, some (some 91), some (some 92), some (some 93), some (some 94), some (some 95), none, none, none, none, none, some (some 96), some (some 97), some (some 98), some (some 99), some (some 100), some (some 101), some (some 102), none, none, none, none, some (some 103), some (some 104), some (some 105), some (some 106), some (some 107), some (some 108), some (some 109), some none, some none, some none, some none, some none, none, some none, some none, none, none, some none, none, some none, some none, some none, some none, some none]) (pc := 259) C zl_12_109 (by decide +kernel) rfl (by decide +kernel) (by decide +kernel) rfl (by decide +kernel) (zft_ref 12 46 (by decide +kernel)) (zft_ref2 12 46 (by decide +kernel)) rfl d_M_init_259 ?_
    refine zz_aload_n (i := 0) (pc := 262) C rfl rfl d_M_init_262 ?_
    refine zz_bipush (pc := 263) C zkb_6 d_M_init_263 ?_
    refine zz_newaK (t := 0) (nn := 111) (n := 6) (sh' := zc_226) (σ' := zg_124 s) (pc := 265) C hex (by decide +kernel) rfl rfl rfl (by decide) (by decide +kernel) (by decide +kernel) (by decide) zac_0 (by decide +kernel) (show zc_225.length + 1 ≤ zc_249.length by decide +kernel) (show zz_sl zc_225 + 6 ≤ zz_sl zc_249 by decide +kernel) d_M_init_265 ?_
    refine zz_putFK (sh' := zc_227) (fs := [none, none, none, some (some 80), some (some 81), some (some 82), some (some 83), none, some (some 84), some (some 85), some (some 86), some (some 87), none, some (some 88), some (some 89), some (some 90), none, none, some (some 91), some (some 92), some (some 93), some (some 94), some (some 95), none, none, none, none, none, some (some 96), some (some 97), some (some 98), some (some 99), some (some 100), some (some 101), some (some 102), none, none, none, none, some (some 103), some (some 104), some (some 105), some (some 106), some (some 107), some (some 108), some (some 109), some (some 110), some none, some none, some none, some none, none, some none, some none, none, none, some none, none, some none, some none, some none, some none, some none]) (pc := 267) C zl_12_112 (by decide +kernel) rfl (by decide +kernel) (by decide +kernel) rfl (by decide +kernel) (zft_ref 12 47 (by decide +kernel)) (zft_ref2 12 47 (by decide +kernel)) rfl d_M_init_267 ?_
    refine zz_aload_n (i := 0) (pc := 270) C rfl rfl d_M_init_270 ?_
    refine zz_bipush (pc := 271) C zkb_6 d_M_init_271 ?_
    refine zz_newaK (t := 0) (nn := 112) (n := 6) (sh' := zc_228) (σ' := zg_125 s) (pc := 273) C hex (by decide +kernel) rfl rfl rfl (by decide) (by decide +kernel) (by decide +kernel) (by decide) zac_0 (by decide +kernel) (show zc_227.length + 1 ≤ zc_249.length by decide +kernel) (show zz_sl zc_227 + 6 ≤ zz_sl zc_249 by decide +kernel) d_M_init_273 ?_
    refine zz_putFK (sh' := zc_229) (fs := [none, none, none, some (some 80), some (some 81), some (some 82), some (some 83), none, some (some 84), some (some 85), some (some 86), some (some 87), none, some (some 88), some (some 89), some (some 90), none, none, some (some 91), some (some 92), some (some 93), some (some 94), some (some 95), none, none, none, none, none, some (some 96), some (some 97), some (some 98), some (some 99), some (some 100), some (some 101), some (some 102), none, none, none, none, some (some 103), some (some 104), some (some 105), some (some 106), some (some 107), some (some 108), some (some 109), some (some 110), some (some 111), some none, some none, some none, none, some none, some none, none, none, some none, none, some none, some none, some none, some none, some none]) (pc := 275) C zl_12_115 (by decide +kernel) rfl (by decide +kernel) (by decide +kernel) rfl (by decide +kernel) (zft_ref 12 48 (by decide +kernel)) (zft_ref2 12 48 (by decide +kernel)) rfl d_M_init_275 ?_
    refine zz_aload_n (i := 0) (pc := 278) C rfl rfl d_M_init_278 ?_
    refine zz_bipush (pc := 279) C zkb_18 d_M_init_279 ?_
    refine zz_newaK (t := 0) (nn := 113) (n := 18) (sh' := zc_230) (σ' := zg_126 s) (pc := 281) C hex (by decide +kernel) rfl rfl rfl (by decide) (by decide +kernel) (by decide +kernel) (by decide) zac_0 (by decide +kernel) (show zc_229.length + 1 ≤ zc_249.length by decide +kernel) (show zz_sl zc_229 + 18 ≤ zz_sl zc_249 by decide +kernel) d_M_init_281 ?_
    refine zz_putFK (sh' := zc_231) (fs := [none, none, none, some (some 80), some (some 81), some (some 82), some (some 83), none, some (some 84), some (some 85), some (some 86), some (some 87), none, some (some 88), some (some 89), some (some 90), none, none, some (some 91), some (some 92), some (some 93), some (some 94), some (some 95), none, none, none, none, none, some (some 96), some (some 97), some (some 98), some (some 99), some (some 100), some (some 101), some (some 102), none, none, none, none, some (some 103), some (some 104), some (some 105), some (some 106), some (some 107), some (some 108), some (some 109), some (some 110), some (some 111), some (some 112), some none, some none, none, some none, some none, none, none, some none, none, some none, some none, some none, some none, some none]) (pc := 283) C zl_12_118 (by decide +kernel) rfl (by decide +kernel) (by decide +kernel) rfl (by decide +kernel) (zft_ref 12 49 (by decide +kernel)) (zft_ref2 12 49 (by decide +kernel)) rfl d_M_init_283 ?_
    refine zz_aload_n (i := 0) (pc := 286) C rfl rfl d_M_init_286 ?_
    refine zz_bipush (pc := 287) C zkb_6 d_M_init_287 ?_
    refine zz_newaK (t := 0) (nn := 114) (n := 6) (sh' := zc_232) (σ' := zg_127 s) (pc := 289) C hex (by decide +kernel) rfl rfl rfl (by decide) (by decide +kernel) (by decide +kernel) (by decide) zac_0 (by decide +kernel) (show zc_231.length + 1 ≤ zc_249.length by decide +kernel) (show zz_sl zc_231 + 6 ≤ zz_sl zc_249 by decide +kernel) d_M_init_289 ?_
    refine zz_putFK (sh' := zc_233) (fs := [none, none, none, some (some 80), some (some 81), some (some 82), some (some 83), none, some (some 84), some (some 85), some (some 86), some (some 87), none, some (some 88), some (some 89), some (some 90), none, none, some (some 91), some (some 92), some (some 93), some (some 94), some (some 95), none, none, none, none, none, some (some 96), some (some 97), some (some 98), some (some 99), some (some 100), some (some 101), some (some 102), none, none, none, none, some (some 103), some (some 104), some (some 105), some (some 106), some (some 107), some (some 108), some (some 109), some (some 110), some (some 111), some (some 112), some (some 113), some none, none, some none, some none, none, none, some none, none, some none, some none, some none, some none, some none]) (pc := 291) C zl_12_121 (by decide +kernel) rfl (by decide +kernel) (by decide +kernel) rfl (by decide +kernel) (zft_ref 12 50 (by decide +kernel)) (zft_ref2 12 50 (by decide +kernel)) rfl d_M_init_291 ?_
    refine zz_aload_n (i := 0) (pc := 294) C rfl rfl d_M_init_294 ?_
    refine zz_iconst (pc := 295) C zki_m1 d_M_init_295 ?_
    refine zz_putI' (σ := zg_127 s) (pc := 296) C zl_12_124 zpf_12_51 (fs := [none, none, none, some (some 80), some (some 81), some (some 82), some (some 83), none, some (some 84), some (some 85), some (some 86), some (some 87), none, some (some 88), some (some 89), some (some 90), none, none, some (some 91), some (some 92), some (some 93), some (some 94), some (some 95), none, none, none, none, none, some (some 96), some (some 97), some (some 98), some (some 99), some (some 100), some (some 101), some (some 102), none, none, none, none, some (some 103), some (some 104), some (some 105), some (some 106), some (some 107), some (some 108), some (some 109), some (some 110), some (some 111), some (some 112), some (some 113), some (some 114), none, some none, some none, none, none, some none, none, some none, some none, some none, some none, some none]) (by decide +kernel) rfl d_M_init_296 ?_
    change Z 299 [some (.ref 79)] [] zc_233 (zg_128 s)
    refine zz_aload_n (i := 0) (pc := 299) C rfl rfl d_M_init_299 ?_
    refine zz_bipush (pc := 300) C zkb_6 d_M_init_300 ?_
    refine zz_newaK (t := 0) (nn := 115) (n := 6) (sh' := zc_234) (σ' := zg_129 s) (pc := 302) C hex (by decide +kernel) rfl rfl rfl (by decide) (by decide +kernel) (by decide +kernel) (by decide) zac_0 (by decide +kernel) (show zc_233.length + 1 ≤ zc_249.length by decide +kernel) (show zz_sl zc_233 + 6 ≤ zz_sl zc_249 by decide +kernel) d_M_init_302 ?_
    refine zz_putFK (sh' := zc_235) (fs := [none, none, none, some (some 80), some (some 81), some (some 82), some (some 83), none, some (some 84), some (some 85), some (some 86), some (some 87), none, some (some 88), some (some 89), some (some 90), none, none, some (some 91), some (some 92), some (some 93), some (some 94), some (some 95), none, none, none, none, none, some (some 96), some (some 97), some (some 98), some (some 99), some (some 100), some (some 101), some (some 102), none, none, none, none, some (some 103), some (some 104), some (some 105), some (some 106), some (some 107), some (some 108), some (some 109), some (some 110), some (some 111), some (some 112), some (some 113), some (some 114), none, some none, some none, none, none, some none, none, some none, some none, some none, some none, some none]) (pc := 304) C zl_12_127 (by decide +kernel) rfl (by decide +kernel) (by decide +kernel) rfl (by decide +kernel) (zft_ref 12 52 (by decide +kernel)) (zft_ref2 12 52 (by decide +kernel)) rfl d_M_init_304 ?_
    refine zz_aload_n (i := 0) (pc := 307) C rfl rfl d_M_init_307 ?_
    refine zz_bipush (pc := 308) C zkb_6 d_M_init_308 ?_
    refine zz_newaK (t := 0) (nn := 116) (n := 6) (sh' := zc_236) (σ' := zg_130 s) (pc := 310) C hex (by decide +kernel) rfl rfl rfl (by decide) (by decide +kernel) (by decide +kernel) (by decide) zac_0 (by decide +kernel) (show zc_235.length + 1 ≤ zc_249.length by decide +kernel) (show zz_sl zc_235 + 6 ≤ zz_sl zc_249 by decide +kernel) d_M_init_310 ?_
    refine zz_putFK (sh' := zc_237) (fs := [none, none, none, some (some 80), some (some 81), some (some 82), some (some 83), none, some (some 84), some (some 85), some (some 86), some (some 87), none, some (some 88), some (some 89), some (some 90), none, none, some (some 91), some (some 92), some (some 93), some (some 94), some (some 95), none, none, none, none, none, some (some 96), some (some 97), some (some 98), some (some 99), some (some 100), some (some 101), some (some 102), none, none, none, none, some (some 103), some (some 104), some (some 105), some (some 106), some (some 107), some (some 108), some (some 109), some (some 110), some (some 111), some (some 112), some (some 113), some (some 114), none, some (some 115), some none, none, none, some none, none, some none, some none, some none, some none, some none]) (pc := 312) C zl_12_130 (by decide +kernel) rfl (by decide +kernel) (by decide +kernel) rfl (by decide +kernel) (zft_ref 12 53 (by decide +kernel)) (zft_ref2 12 53 (by decide +kernel)) rfl d_M_init_312 ?_
    refine zz_aload_n (i := 0) (pc := 315) C rfl rfl d_M_init_315 ?_
    refine zz_bipush (pc := 316) C zkb_50 d_M_init_316 ?_
    refine zz_newaK (t := 0) (nn := 117) (n := 50) (sh' := zc_238) (σ' := zg_131 s) (pc := 318) C hex (by decide +kernel) rfl rfl rfl (by decide) (by decide +kernel) (by decide +kernel) (by decide) zac_0 (by decide +kernel) (show zc_237.length + 1 ≤ zc_249.length by decide +kernel) (show zz_sl zc_237 + 50 ≤ zz_sl zc_249 by decide +kernel) d_M_init_318 ?_
    refine zz_putFK (sh' := zc_239) (fs := [none, none, none, some (some 80), some (some 81), some (some 82), some (some 83), none, some (some 84), some (some 85), some (some 86), some (some 87), none, some (some 88), some (some 89), some (some 90), none, none, some (some 91), some (some 92), some (some 93), some (some 94), some (some 95), none, none, none, none, none, some (some 96), some (some 97), some (some 98), some (some 99), some (some 100), some (some 101), some (some 102), none, none, none, none, some (some 103), some (some 104), some (some 105), some (some 106), some (some 107), some (some 108), some (some 109), some (some 110), some (some 111), some (some 112), some (some 113), some (some 114), none, some (some 115), some (some 116), none, none, some none, none, some none, some none, some none, some none, some none]) (pc := 320) C zl_12_133 (by decide +kernel) rfl (by decide +kernel) (by decide +kernel) rfl (by decide +kernel) (zft_ref 12 56 (by decide +kernel)) (zft_ref2 12 56 (by decide +kernel)) rfl d_M_init_320 ?_
    refine zz_aload_n (i := 0) (pc := 323) C rfl rfl d_M_init_323 ?_
    refine zz_bipush (pc := 324) C zkb_24 d_M_init_324 ?_
    refine zz_newaK (t := 0) (nn := 118) (n := 24) (sh' := zc_240) (σ' := zg_132 s) (pc := 326) C hex (by decide +kernel) rfl rfl rfl (by decide) (by decide +kernel) (by decide +kernel) (by decide) zac_0 (by decide +kernel) (show zc_239.length + 1 ≤ zc_249.length by decide +kernel) (show zz_sl zc_239 + 24 ≤ zz_sl zc_249 by decide +kernel) d_M_init_326 ?_
    refine zz_putFK (sh' := zc_241) (fs := [none, none, none, some (some 80), some (some 81), some (some 82), some (some 83), none, some (some 84), some (some 85), some (some 86), some (some 87), none, some (some 88), some (some 89), some (some 90), none, none, some (some 91), some (some 92), some (some 93), some (some 94), some (some 95), none, none, none, none, none, some (some 96), some (some 97), some (some 98), some (some 99), some (some 100), some (some 101), some (some 102), none, none, none, none, some (some 103), some (some 104), some (some 105), some (some 106), some (some 107), some (some 108), some (some 109), some (some 110), some (some 111), some (some 112), some (some 113), some (some 114), none, some (some 115), some (some 116), none, none, some (some 117), none, some none, some none, some none, some none, some none]) (pc := 328) C zl_12_136 (by decide +kernel) rfl (by decide +kernel) (by decide +kernel) rfl (by decide +kernel) (zft_ref 12 58 (by decide +kernel)) (zft_ref2 12 58 (by decide +kernel)) rfl d_M_init_328 ?_
    refine zz_aload_n (i := 0) (pc := 331) C rfl rfl d_M_init_331 ?_
    refine zz_bipush (pc := 332) C zkb_6 d_M_init_332 ?_
    refine zz_newaK (t := 0) (nn := 119) (n := 6) (sh' := zc_242) (σ' := zg_133 s) (pc := 334) C hex (by decide +kernel) rfl rfl rfl (by decide) (by decide +kernel) (by decide +kernel) (by decide) zac_0 (by decide +kernel) (show zc_241.length + 1 ≤ zc_249.length by decide +kernel) (show zz_sl zc_241 + 6 ≤ zz_sl zc_249 by decide +kernel) d_M_init_334 ?_
    refine zz_dup (pc := 336) C rfl d_M_init_336 ?_
    refine zz_iconst (pc := 337) C zki_0 d_M_init_337 ?_
    refine zz_iconst (pc := 338) C zki_m1 d_M_init_338 ?_
    refine zz_iast (n := 6) (rs := []) (σ := zg_133 s) (pc := 339) C zkx_0 (by decide +kernel) (by decide) d_M_init_339 ?_
    change Z 340 [some (.ref 79)] [.ref 119, .ref 79] zc_242 (zg_134 s)
    refine zz_dup (pc := 340) C rfl d_M_init_340 ?_
    refine zz_iconst (pc := 341) C zki_1 d_M_init_341 ?_
    refine zz_iconst (pc := 342) C zki_m1 d_M_init_342 ?_
    refine zz_iast (n := 6) (rs := []) (σ := zg_134 s) (pc := 343) C zkx_1 (by decide +kernel) (by decide) d_M_init_343 ?_
    change Z 344 [some (.ref 79)] [.ref 119, .ref 79] zc_242 (zg_135 s)
    refine zz_dup (pc := 344) C rfl d_M_init_344 ?_
    refine zz_iconst (pc := 345) C zki_2 d_M_init_345 ?_
    refine zz_iconst (pc := 346) C zki_m1 d_M_init_346 ?_
    refine zz_iast (n := 6) (rs := []) (σ := zg_135 s) (pc := 347) C zkx_2 (by decide +kernel) (by decide) d_M_init_347 ?_
    change Z 348 [some (.ref 79)] [.ref 119, .ref 79] zc_242 (zg_136 s)
    refine zz_dup (pc := 348) C rfl d_M_init_348 ?_
    refine zz_iconst (pc := 349) C zki_3 d_M_init_349 ?_
    refine zz_iconst (pc := 350) C zki_m1 d_M_init_350 ?_
    refine zz_iast (n := 6) (rs := []) (σ := zg_136 s) (pc := 351) C zkx_3 (by decide +kernel) (by decide) d_M_init_351 ?_
    change Z 352 [some (.ref 79)] [.ref 119, .ref 79] zc_242 (zg_137 s)
    refine zz_dup (pc := 352) C rfl d_M_init_352 ?_
    refine zz_iconst (pc := 353) C zki_4 d_M_init_353 ?_
    refine zz_iconst (pc := 354) C zki_m1 d_M_init_354 ?_
    refine zz_iast (n := 6) (rs := []) (σ := zg_137 s) (pc := 355) C zkx_4 (by decide +kernel) (by decide) d_M_init_355 ?_
    change Z 356 [some (.ref 79)] [.ref 119, .ref 79] zc_242 (zg_138 s)
    refine zz_dup (pc := 356) C rfl d_M_init_356 ?_
    refine zz_iconst (pc := 357) C zki_5 d_M_init_357 ?_
    refine zz_iconst (pc := 358) C zki_m1 d_M_init_358 ?_
    refine zz_iast (n := 6) (rs := []) (σ := zg_138 s) (pc := 359) C zkx_5 (by decide +kernel) (by decide) d_M_init_359 ?_
    change Z 360 [some (.ref 79)] [.ref 119, .ref 79] zc_242 (zg_139 s)
    refine zz_putFK (sh' := zc_243) (fs := [none, none, none, some (some 80), some (some 81), some (some 82), some (some 83), none, some (some 84), some (some 85), some (some 86), some (some 87), none, some (some 88), some (some 89), some (some 90), none, none, some (some 91), some (some 92), some (some 93), some (some 94), some (some 95), none, none, none, none, none, some (some 96), some (some 97), some (some 98), some (some 99), some (some 100), some (some 101), some (some 102), none, none, none, none, some (some 103), some (some 104), some (some 105), some (some 106), some (some 107), some (some 108), some (some 109), some (some 110), some (some 111), some (some 112), some (some 113), some (some 114), none, some (some 115), some (some 116), none, none, some (some 117), none, some (some 118), some none, some none, some none, some none]) (pc := 360) C zl_12_139 (by decide +kernel) rfl (by decide +kernel) (by decide +kernel) rfl (by decide +kernel) (zft_ref 12 59 (by decide +kernel)) (zft_ref2 12 59 (by decide +kernel)) rfl d_M_init_360 ?_
    refine zz_aload_n (i := 0) (pc := 363) C rfl rfl d_M_init_363 ?_
    refine zz_bipush (pc := 364) C zkb_6 d_M_init_364 ?_
    refine zz_newaK (t := 0) (nn := 120) (n := 6) (sh' := zc_244) (σ' := zg_140 s) (pc := 366) C hex (by decide +kernel) rfl rfl rfl (by decide) (by decide +kernel) (by decide +kernel) (by decide) zac_0 (by decide +kernel) (show zc_243.length + 1 ≤ zc_249.length by decide +kernel) (show zz_sl zc_243 + 6 ≤ zz_sl zc_249 by decide +kernel) d_M_init_366 ?_
    refine zz_putFK (sh' := zc_245) (fs := [none, none, none, some (some 80), some (some 81), some (some 82), some (some 83), none, some (some 84), some (some 85), some (some 86), some (some 87), none, some (some 88), some (some 89), some (some 90), none, none, some (some 91), some (some 92), some (some 93), some (some 94), some (some 95), none, none, none, none, none, some (some 96), some (some 97), some (some 98), some (some 99), some (some 100), some (some 101), some (some 102), none, none, none, none, some (some 103), some (some 104), some (some 105), some (some 106), some (some 107), some (some 108), some (some 109), some (some 110), some (some 111), some (some 112), some (some 113), some (some 114), none, some (some 115), some (some 116), none, none, some (some 117), none, some (some 118), some (some 119), some none, some none, some none]) (pc := 368) C zl_12_142 (by decide +kernel) rfl (by decide +kernel) (by decide +kernel) rfl (by decide +kernel) (zft_ref 12 60 (by decide +kernel)) (zft_ref2 12 60 (by decide +kernel)) rfl d_M_init_368 ?_
    refine zz_aload_n (i := 0) (pc := 371) C rfl rfl d_M_init_371 ?_
    refine zz_sipush (pc := 372) C zks_360 d_M_init_372 ?_
    refine zz_newaK (t := 3) (nn := 121) (n := 360) (sh' := zc_246) (σ' := zg_141 s) (pc := 375) C hex (by decide +kernel) rfl rfl rfl (by decide) (by decide +kernel) (by decide +kernel) (by decide) zac_3 (by decide +kernel) (show zc_245.length + 1 ≤ zc_249.length by decide +kernel) (show zz_sl zc_245 + 360 ≤ zz_sl zc_249 by decide +kernel) d_M_init_375 ?_
    refine zz_putFK (sh' := zc_247) (fs := [none, none, none, some (some 80), some (some 81), some (some 82), some (some 83), none, some (some 84), some (some 85), some (some 86), some (some 87), none, some (some 88), some (some 89), some (some 90), none, none, some (some 91), some (some 92), some (some 93), some (some 94), some (some 95), none, none, none, none, none, some (some 96), some (some 97), some (some 98), some (some 99), some (some 100), some (some 101), some (some 102), none, none, none, none, some (some 103), some (some 104), some (some 105), some (some 106), some (some 107), some (some 108), some (some 109), some (some 110), some (some 111), some (some 112), some (some 113), some (some 114), none, some (some 115), some (some 116), none, none, some (some 117), none, some (some 118), some (some 119), some (some 120), some none, some none]) (pc := 377) C zl_12_145 (by decide +kernel) rfl (by decide +kernel) (by decide +kernel) rfl (by decide +kernel) (zft_ref 12 61 (by decide +kernel)) (zft_ref2 12 61 (by decide +kernel)) rfl d_M_init_377 ?_
    refine zz_aload_n (i := 0) (pc := 380) C rfl rfl d_M_init_380 ?_
    refine zz_bipush (pc := 381) C zkb_60 d_M_init_381 ?_
    refine zz_newaK (t := 3) (nn := 122) (n := 60) (sh' := zc_248) (σ' := zg_142 s) (pc := 383) C hex (by decide +kernel) rfl rfl rfl (by decide) (by decide +kernel) (by decide +kernel) (by decide) zac_3 (by decide +kernel) (show zc_247.length + 1 ≤ zc_249.length by decide +kernel) (show zz_sl zc_247 + 60 ≤ zz_sl zc_249 by decide +kernel) d_M_init_383 ?_
    refine zz_putFK (sh' := zc_249) (fs := [none, none, none, some (some 80), some (some 81), some (some 82), some (some 83), none, some (some 84), some (some 85), some (some 86), some (some 87), none, some (some 88), some (some 89), some (some 90), none, none, some (some 91), some (some 92), some (some 93), some (some 94), some (some 95), none, none, none, none, none, some (some 96), some (some 97), some (some 98), some (some 99), some (some 100), some (some 101), some (some 102), none, none, none, none, some (some 103), some (some 104), some (some 105), some (some 106), some (some 107), some (some 108), some (some 109), some (some 110), some (some 111), some (some 112), some (some 113), some (some 114), none, some (some 115), some (some 116), none, none, some (some 117), none, some (some 118), some (some 119), some (some 120), some (some 121), some none]) (pc := 385) C zl_12_149 (by decide +kernel) rfl (by decide +kernel) (by decide +kernel) rfl (by decide +kernel) (zft_ref 12 62 (by decide +kernel)) (zft_ref2 12 62 (by decide +kernel)) rfl d_M_init_385 ?_
    exact zz_ret (pc := 388) C (v := none) d_M_init_388 (Or.inr (Or.inr (Or.inr ⟨rfl, rfl, rfl⟩))) rfl)
