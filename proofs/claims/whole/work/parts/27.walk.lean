theorem d_M_degrees_0 : decode prog_14_method_40_code 0 = .ok (.aload_n 0, 1) := by decide +kernel
theorem d_M_degrees_1 : decode prog_14_method_40_code 1 = .ok (.getfield 264, 3) := by decide +kernel
theorem d_M_degrees_4 : decode prog_14_method_40_code 4 = .ok (.ifCond .ne (11), 3) := by decide +kernel
theorem d_M_degrees_7 : decode prog_14_method_40_code 7 = .ok (.bipush (10), 2) := by decide +kernel
theorem d_M_degrees_9 : decode prog_14_method_40_code 9 = .ok (.aload_n 0, 1) := by decide +kernel
theorem d_M_degrees_10 : decode prog_14_method_40_code 10 = .ok (.getfield 268, 3) := by decide +kernel
theorem d_M_degrees_13 : decode prog_14_method_40_code 13 = .ok (.iadd, 1) := by decide +kernel
theorem d_M_degrees_14 : decode prog_14_method_40_code 14 = .ok (.ireturn, 1) := by decide +kernel
theorem d_M_degrees_15 : decode prog_14_method_40_code 15 = .ok (.iconst 0, 1) := by decide +kernel
theorem d_M_degrees_16 : decode prog_14_method_40_code 16 = .ok (.istore_n 2, 1) := by decide +kernel
theorem d_M_degrees_17 : decode prog_14_method_40_code 17 = .ok (.iload_n 2, 1) := by decide +kernel
theorem d_M_degrees_18 : decode prog_14_method_40_code 18 = .ok (.bipush (6), 2) := by decide +kernel
theorem d_M_degrees_20 : decode prog_14_method_40_code 20 = .ok (.if_icmp .ge (16), 3) := by decide +kernel
theorem d_M_degrees_23 : decode prog_14_method_40_code 23 = .ok (.aload_n 0, 1) := by decide +kernel
theorem d_M_degrees_24 : decode prog_14_method_40_code 24 = .ok (.getfield 79, 3) := by decide +kernel
theorem d_M_degrees_27 : decode prog_14_method_40_code 27 = .ok (.iload_n 2, 1) := by decide +kernel
theorem d_M_degrees_28 : decode prog_14_method_40_code 28 = .ok (.iconst 0, 1) := by decide +kernel
theorem d_M_degrees_29 : decode prog_14_method_40_code 29 = .ok (.iastore, 1) := by decide +kernel
theorem d_M_degrees_30 : decode prog_14_method_40_code 30 = .ok (.iinc 2 (1), 3) := by decide +kernel
theorem d_M_degrees_33 : decode prog_14_method_40_code 33 = .ok (.goto (-16), 3) := by decide +kernel
theorem d_M_degrees_36 : decode prog_14_method_40_code 36 = .ok (.aload_n 0, 1) := by decide +kernel
theorem d_M_degrees_37 : decode prog_14_method_40_code 37 = .ok (.getfield 79, 3) := by decide +kernel
theorem d_M_degrees_40 : decode prog_14_method_40_code 40 = .ok (.bipush (6), 2) := by decide +kernel
theorem d_M_degrees_42 : decode prog_14_method_40_code 42 = .ok (.iload_n 1, 1) := by decide +kernel
theorem d_M_degrees_43 : decode prog_14_method_40_code 43 = .ok (.iastore, 1) := by decide +kernel
theorem d_M_degrees_44 : decode prog_14_method_40_code 44 = .ok (.aload_n 0, 1) := by decide +kernel
theorem d_M_degrees_45 : decode prog_14_method_40_code 45 = .ok (.getfield 79, 3) := by decide +kernel
theorem d_M_degrees_48 : decode prog_14_method_40_code 48 = .ok (.bipush (7), 2) := by decide +kernel
theorem d_M_degrees_50 : decode prog_14_method_40_code 50 = .ok (.iload_n 1, 1) := by decide +kernel
theorem d_M_degrees_51 : decode prog_14_method_40_code 51 = .ok (.bipush (60), 2) := by decide +kernel
theorem d_M_degrees_53 : decode prog_14_method_40_code 53 = .ok (.idiv, 1) := by decide +kernel
theorem d_M_degrees_54 : decode prog_14_method_40_code 54 = .ok (.iastore, 1) := by decide +kernel
theorem d_M_degrees_55 : decode prog_14_method_40_code 55 = .ok (.aload_n 0, 1) := by decide +kernel
theorem d_M_degrees_56 : decode prog_14_method_40_code 56 = .ok (.iconst 4, 1) := by decide +kernel
theorem d_M_degrees_57 : decode prog_14_method_40_code 57 = .ok (.invokevirtual 271, 3) := by decide +kernel
theorem d_M_degrees_60 : decode prog_14_method_40_code 60 = .ok (.bipush (-50), 2) := by decide +kernel
theorem d_M_degrees_62 : decode prog_14_method_40_code 62 = .ok (.bipush (50), 2) := by decide +kernel
theorem d_M_degrees_64 : decode prog_14_method_40_code 64 = .ok (.invokestatic 274, 3) := by decide +kernel
theorem d_M_degrees_67 : decode prog_14_method_40_code 67 = .ok (.aload_n 0, 1) := by decide +kernel
theorem d_M_degrees_68 : decode prog_14_method_40_code 68 = .ok (.getfield 268, 3) := by decide +kernel
theorem d_M_degrees_71 : decode prog_14_method_40_code 71 = .ok (.iadd, 1) := by decide +kernel
theorem d_M_degrees_72 : decode prog_14_method_40_code 72 = .ok (.ireturn, 1) := by decide +kernel
set_option maxHeartbeats 4000000 in
set_option maxRecDepth 100000 in
theorem zf_M_degrees_L17 {G : zz_G} {l : Launch} {Z : zz_Z} {q : Int32 × zz_S} (C : zz_Cx G l "OneBlanketModel" "degrees" prog_14_method_40_code 3 (some .int) 5 (some (.int q.1), zsh, q.2) Z) : ∀ (n : Nat) (v1 : Int32) (v2 : Int32) (s : zz_S), f_M_degrees_L17 n v1 v2 s = some q → Z 17 [some (.ref 79), some (.int v1), some (.int v2)] [] zsh s := by
  intro n
  induction n with
  | zero => intro v1 v2 s h; rw [f_M_degrees_L17] at h; cases h
  | succ n ih =>
  intro v1 v2 s h
  rw [f_M_degrees_L17] at h
  refine zz_iload_n (i := 2) (pc := 17) C rfl rfl d_M_degrees_17 ?_
  refine zz_bipush (pc := 18) C zkb_6 d_M_degrees_18 ?_
  refine zz_icmp_ge (tgt := 36) (pc := 20) C (by decide) d_M_degrees_20 (fun hc2 => ?_) (fun hc2 => ?_)
  · rw [if_pos hc2] at h
    refine zz_aload_n (i := 0) (pc := 36) C rfl rfl d_M_degrees_36 ?_
    refine zz_getR (pc := 37) C zl_12_79 zsh_79 rfl d_M_degrees_37 ?_
    refine zz_bipush (pc := 40) C zkb_6 d_M_degrees_40 ?_
    refine zz_iload_n (i := 1) (pc := 42) C rfl rfl d_M_degrees_42 ?_
    refine zz_iast (pc := 43) C zkx_6 zsh_101 (by decide) d_M_degrees_43 ?_
    refine zz_aload_n (i := 0) (pc := 44) C rfl rfl d_M_degrees_44 ?_
    refine zz_getR (pc := 45) C zl_12_79 zsh_79 rfl d_M_degrees_45 ?_
    refine zz_bipush (pc := 48) C zkb_7 d_M_degrees_48 ?_
    refine zz_iload_n (i := 1) (pc := 50) C rfl rfl d_M_degrees_50 ?_
    refine zz_bipush (pc := 51) C zkb_60 d_M_degrees_51 ?_
    refine zz_idiv (pc := 53) C (by decide) d_M_degrees_53 ?_
    refine zz_iast (pc := 54) C zkx_7 zsh_101 (by decide) d_M_degrees_54 ?_
    refine zz_aload_n (i := 0) (pc := 55) C rfl rfl d_M_degrees_55 ?_
    refine zz_iconst (pc := 56) C zki_4 d_M_degrees_56 ?_
    obtain ⟨q3, hq3, h⟩ := zz_bdE h
    refine zz_cVi (as := [.int (4 : Int32)]) (st := []) (pc := 57) C (zm_M_gives hq3) zcv_M_gives zsh_79 zl_12_271 (by omega) (Nat.le_of_ble_eq_true rfl) d_M_degrees_57 rfl rfl ?_
    refine zz_bipush (pc := 60) C zkb_m50 d_M_degrees_60 ?_
    refine zz_bipush (pc := 62) C zkb_50 d_M_degrees_62 ?_
    refine zz_cSi (as := [.int q3.1, .int (-50 : Int32), .int (50 : Int32)]) (st := []) (pc := 64) C (zm_M_held rfl) zcs_M_held zl_12_274 (by omega) (Nat.le_of_ble_eq_true rfl) d_M_degrees_64 rfl rfl ?_
    refine zz_aload_n (i := 0) (pc := 67) C rfl rfl d_M_degrees_67 ?_
    refine zz_getI (pc := 68) C zl_12_268 zsh_79 rfl d_M_degrees_68 ?_
    refine zz_iadd (pc := 71) C d_M_degrees_71 ?_
    replace h := Option.some.inj h
    subst h
    exact zz_ret (pc := 72) C (v := some (.int ((f_M_held q3.1 (-50 : Int32) (50 : Int32)) + (q3.2.1 79 38)))) d_M_degrees_72 (Or.inl ⟨_, _, rfl, rfl, rfl, rfl⟩) rfl
  · rw [if_neg hc2] at h
    refine zz_aload_n (i := 0) (pc := 23) C rfl rfl d_M_degrees_23 ?_
    refine zz_getR (pc := 24) C zl_12_79 zsh_79 rfl d_M_degrees_24 ?_
    refine zz_iload_n (i := 2) (pc := 27) C rfl rfl d_M_degrees_27 ?_
    refine zz_iconst (pc := 28) C zki_0 d_M_degrees_28 ?_
    obtain ⟨hi4, h⟩ := zz_ckE h
    refine zz_iast (pc := 29) C rfl zsh_101 hi4 d_M_degrees_29 ?_
    refine zz_iinc (lo' := [some (.ref 79), some (.int v1), some (.int (v2 + (1 : Int32)))]) (pc := 30) C rfl (zz_inc zki_1) rfl rfl d_M_degrees_30 ?_
    refine zz_goto (tgt := 17) (pc := 33) C (by decide) d_M_degrees_33 ?_
    exact ih v1 (v2 + (1 : Int32)) (zz_w s 101 (v2.toNatClampNeg) (0 : Int32)) h
set_option maxHeartbeats 4000000 in
set_option maxRecDepth 100000 in
theorem zf_M_degrees {G : zz_G} {l : Launch} {Z : zz_Z} {q : Int32 × zz_S} {s : zz_S} (C : zz_Cx G l "OneBlanketModel" "degrees" prog_14_method_40_code 3 (some .int) 5 (some (.int q.1), zsh, q.2) Z) (a1 : Int32) (h : f_M_degrees a1 s = some q) : Z 0 [some (.ref 79), some (.int a1), none] [] zsh s := by
  unfold f_M_degrees at h
  refine zz_aload_n (i := 0) (pc := 0) C rfl rfl d_M_degrees_0 ?_
  refine zz_getI (pc := 1) C zl_12_264 zsh_79 rfl d_M_degrees_1 ?_
  refine zz_if_ne (tgt := 15) (pc := 4) C (by decide) d_M_degrees_4 (fun hc1 => ?_) (fun hc1 => ?_)
  · rw [if_neg hc1] at h
    refine zz_iconst (pc := 15) C zki_0 d_M_degrees_15 ?_
    refine zz_istore_n (i := 2) (lo' := [some (.ref 79), some (.int a1), some (.int (0 : Int32))]) (pc := 16) C rfl (Nat.le_of_ble_eq_true rfl) rfl rfl d_M_degrees_16 ?_
    exact zf_M_degrees_L17 C zF a1 (0 : Int32) s h
  · rw [if_pos hc1] at h
    refine zz_bipush (pc := 7) C zkb_10 d_M_degrees_7 ?_
    refine zz_aload_n (i := 0) (pc := 9) C rfl rfl d_M_degrees_9 ?_
    refine zz_getI (pc := 10) C zl_12_268 zsh_79 rfl d_M_degrees_10 ?_
    refine zz_iadd (pc := 13) C d_M_degrees_13 ?_
    replace h := Option.some.inj h
    subst h
    exact zz_ret (pc := 14) C (v := some (.int ((10 : Int32) + (s.1 79 38)))) d_M_degrees_14 (Or.inl ⟨_, _, rfl, rfl, rfl, rfl⟩) rfl
theorem zm_M_degrees {G : zz_G} {l : Launch} {s : zz_S} {q : Int32 × zz_S} {a1 : Int32} (h : f_M_degrees a1 s = some q) : zz_M G l 5 y_M_degrees prog_14_method_40_code 3 (some .int) [.ref 79, .int a1] zsh s (some (.int q.1), zsh, q.2) :=
  zz_M.intro (by decide) (Nat.le_of_ble_eq_true rfl) (Nat.le_refl _) (Nat.le_refl _) (fun Z C => zf_M_degrees C a1 h)
theorem d_M_countNow_0 : decode prog_14_method_52_code 0 = .ok (.aload_n 0, 1) := by decide +kernel
theorem d_M_countNow_1 : decode prog_14_method_52_code 1 = .ok (.iload_n 1, 1) := by decide +kernel
theorem d_M_countNow_2 : decode prog_14_method_52_code 2 = .ok (.invokevirtual 304, 3) := by decide +kernel
theorem d_M_countNow_5 : decode prog_14_method_52_code 5 = .ok (.istore_n 2, 1) := by decide +kernel
theorem d_M_countNow_6 : decode prog_14_method_52_code 6 = .ok (.iconst 0, 1) := by decide +kernel
theorem d_M_countNow_7 : decode prog_14_method_52_code 7 = .ok (.istore_n 3, 1) := by decide +kernel
theorem d_M_countNow_8 : decode prog_14_method_52_code 8 = .ok (.iload_n 3, 1) := by decide +kernel
theorem d_M_countNow_9 : decode prog_14_method_52_code 9 = .ok (.aload_n 0, 1) := by decide +kernel
theorem d_M_countNow_10 : decode prog_14_method_52_code 10 = .ok (.getfield 155, 3) := by decide +kernel
theorem d_M_countNow_13 : decode prog_14_method_52_code 13 = .ok (.if_icmp .ge (152), 3) := by decide +kernel
theorem d_M_countNow_16 : decode prog_14_method_52_code 16 = .ok (.aload_n 0, 1) := by decide +kernel
theorem d_M_countNow_17 : decode prog_14_method_52_code 17 = .ok (.iload_n 3, 1) := by decide +kernel
theorem d_M_countNow_18 : decode prog_14_method_52_code 18 = .ok (.iload_n 2, 1) := by decide +kernel
theorem d_M_countNow_19 : decode prog_14_method_52_code 19 = .ok (.invokevirtual 307, 3) := by decide +kernel
theorem d_M_countNow_22 : decode prog_14_method_52_code 22 = .ok (.istore 4, 2) := by decide +kernel
theorem d_M_countNow_24 : decode prog_14_method_52_code 24 = .ok (.iload 4, 2) := by decide +kernel
theorem d_M_countNow_26 : decode prog_14_method_52_code 26 = .ok (.aload_n 0, 1) := by decide +kernel
theorem d_M_countNow_27 : decode prog_14_method_52_code 27 = .ok (.getfield 20, 3) := by decide +kernel
theorem d_M_countNow_30 : decode prog_14_method_52_code 30 = .ok (.iload_n 3, 1) := by decide +kernel
theorem d_M_countNow_31 : decode prog_14_method_52_code 31 = .ok (.iaload, 1) := by decide +kernel
theorem d_M_countNow_32 : decode prog_14_method_52_code 32 = .ok (.isub, 1) := by decide +kernel
theorem d_M_countNow_33 : decode prog_14_method_52_code 33 = .ok (.invokestatic 294, 3) := by decide +kernel
theorem d_M_countNow_36 : decode prog_14_method_52_code 36 = .ok (.iconst 5, 1) := by decide +kernel
theorem d_M_countNow_37 : decode prog_14_method_52_code 37 = .ok (.if_icmp .gt (13), 3) := by decide +kernel
theorem d_M_countNow_40 : decode prog_14_method_52_code 40 = .ok (.aload_n 0, 1) := by decide +kernel
theorem d_M_countNow_41 : decode prog_14_method_52_code 41 = .ok (.getfield 100, 3) := by decide +kernel
theorem d_M_countNow_44 : decode prog_14_method_52_code 44 = .ok (.iload_n 3, 1) := by decide +kernel
theorem d_M_countNow_45 : decode prog_14_method_52_code 45 = .ok (.dup2, 1) := by decide +kernel
theorem d_M_countNow_46 : decode prog_14_method_52_code 46 = .ok (.iaload, 1) := by decide +kernel
theorem d_M_countNow_47 : decode prog_14_method_52_code 47 = .ok (.iconst 1, 1) := by decide +kernel
theorem d_M_countNow_48 : decode prog_14_method_52_code 48 = .ok (.iadd, 1) := by decide +kernel
theorem d_M_countNow_49 : decode prog_14_method_52_code 49 = .ok (.iastore, 1) := by decide +kernel
theorem d_M_countNow_50 : decode prog_14_method_52_code 50 = .ok (.aload_n 0, 1) := by decide +kernel
theorem d_M_countNow_51 : decode prog_14_method_52_code 51 = .ok (.getfield 109, 3) := by decide +kernel
theorem d_M_countNow_54 : decode prog_14_method_52_code 54 = .ok (.iload_n 3, 1) := by decide +kernel
theorem d_M_countNow_55 : decode prog_14_method_52_code 55 = .ok (.aload_n 0, 1) := by decide +kernel
theorem d_M_countNow_56 : decode prog_14_method_52_code 56 = .ok (.getfield 20, 3) := by decide +kernel
theorem d_M_countNow_59 : decode prog_14_method_52_code 59 = .ok (.iload_n 3, 1) := by decide +kernel
theorem d_M_countNow_60 : decode prog_14_method_52_code 60 = .ok (.iaload, 1) := by decide +kernel
theorem d_M_countNow_61 : decode prog_14_method_52_code 61 = .ok (.iload 4, 2) := by decide +kernel
theorem d_M_countNow_63 : decode prog_14_method_52_code 63 = .ok (.isub, 1) := by decide +kernel
theorem d_M_countNow_64 : decode prog_14_method_52_code 64 = .ok (.bipush (15), 2) := by decide +kernel
theorem d_M_countNow_66 : decode prog_14_method_52_code 66 = .ok (.if_icmp .le (14), 3) := by decide +kernel
theorem d_M_countNow_69 : decode prog_14_method_52_code 69 = .ok (.aload_n 0, 1) := by decide +kernel
theorem d_M_countNow_70 : decode prog_14_method_52_code 70 = .ok (.getfield 109, 3) := by decide +kernel
theorem d_M_countNow_73 : decode prog_14_method_52_code 73 = .ok (.iload_n 3, 1) := by decide +kernel
theorem d_M_countNow_74 : decode prog_14_method_52_code 74 = .ok (.iaload, 1) := by decide +kernel
theorem d_M_countNow_75 : decode prog_14_method_52_code 75 = .ok (.iconst 1, 1) := by decide +kernel
theorem d_M_countNow_76 : decode prog_14_method_52_code 76 = .ok (.iadd, 1) := by decide +kernel
theorem d_M_countNow_77 : decode prog_14_method_52_code 77 = .ok (.goto (4), 3) := by decide +kernel
theorem d_M_countNow_80 : decode prog_14_method_52_code 80 = .ok (.iconst 0, 1) := by decide +kernel
theorem d_M_countNow_81 : decode prog_14_method_52_code 81 = .ok (.iastore, 1) := by decide +kernel
theorem d_M_countNow_82 : decode prog_14_method_52_code 82 = .ok (.aload_n 0, 1) := by decide +kernel
theorem d_M_countNow_83 : decode prog_14_method_52_code 83 = .ok (.getfield 109, 3) := by decide +kernel
theorem d_M_countNow_86 : decode prog_14_method_52_code 86 = .ok (.iload_n 3, 1) := by decide +kernel
theorem d_M_countNow_87 : decode prog_14_method_52_code 87 = .ok (.iaload, 1) := by decide +kernel
theorem d_M_countNow_88 : decode prog_14_method_52_code 88 = .ok (.ifCond .le (13), 3) := by decide +kernel
theorem d_M_countNow_91 : decode prog_14_method_52_code 91 = .ok (.aload_n 0, 1) := by decide +kernel
theorem d_M_countNow_92 : decode prog_14_method_52_code 92 = .ok (.getfield 103, 3) := by decide +kernel
theorem d_M_countNow_95 : decode prog_14_method_52_code 95 = .ok (.iload_n 3, 1) := by decide +kernel
theorem d_M_countNow_96 : decode prog_14_method_52_code 96 = .ok (.dup2, 1) := by decide +kernel
theorem d_M_countNow_97 : decode prog_14_method_52_code 97 = .ok (.iaload, 1) := by decide +kernel
theorem d_M_countNow_98 : decode prog_14_method_52_code 98 = .ok (.iconst 1, 1) := by decide +kernel
theorem d_M_countNow_99 : decode prog_14_method_52_code 99 = .ok (.iadd, 1) := by decide +kernel
theorem d_M_countNow_100 : decode prog_14_method_52_code 100 = .ok (.iastore, 1) := by decide +kernel
theorem d_M_countNow_101 : decode prog_14_method_52_code 101 = .ok (.aload_n 0, 1) := by decide +kernel
theorem d_M_countNow_102 : decode prog_14_method_52_code 102 = .ok (.iload_n 3, 1) := by decide +kernel
theorem d_M_countNow_103 : decode prog_14_method_52_code 103 = .ok (.invokevirtual 297, 3) := by decide +kernel
theorem d_M_countNow_106 : decode prog_14_method_52_code 106 = .ok (.aload_n 0, 1) := by decide +kernel
theorem d_M_countNow_107 : decode prog_14_method_52_code 107 = .ok (.getfield 17, 3) := by decide +kernel
theorem d_M_countNow_110 : decode prog_14_method_52_code 110 = .ok (.iload_n 3, 1) := by decide +kernel
theorem d_M_countNow_111 : decode prog_14_method_52_code 111 = .ok (.iaload, 1) := by decide +kernel
theorem d_M_countNow_112 : decode prog_14_method_52_code 112 = .ok (.if_icmp .ge (13), 3) := by decide +kernel
theorem d_M_countNow_115 : decode prog_14_method_52_code 115 = .ok (.aload_n 0, 1) := by decide +kernel
theorem d_M_countNow_116 : decode prog_14_method_52_code 116 = .ok (.getfield 106, 3) := by decide +kernel
theorem d_M_countNow_119 : decode prog_14_method_52_code 119 = .ok (.iload_n 3, 1) := by decide +kernel
theorem d_M_countNow_120 : decode prog_14_method_52_code 120 = .ok (.dup2, 1) := by decide +kernel
theorem d_M_countNow_121 : decode prog_14_method_52_code 121 = .ok (.iaload, 1) := by decide +kernel
theorem d_M_countNow_122 : decode prog_14_method_52_code 122 = .ok (.iconst 1, 1) := by decide +kernel
theorem d_M_countNow_123 : decode prog_14_method_52_code 123 = .ok (.iadd, 1) := by decide +kernel
theorem d_M_countNow_124 : decode prog_14_method_52_code 124 = .ok (.iastore, 1) := by decide +kernel
theorem d_M_countNow_125 : decode prog_14_method_52_code 125 = .ok (.aload_n 0, 1) := by decide +kernel
theorem d_M_countNow_126 : decode prog_14_method_52_code 126 = .ok (.getfield 109, 3) := by decide +kernel
theorem d_M_countNow_129 : decode prog_14_method_52_code 129 = .ok (.iload_n 3, 1) := by decide +kernel
theorem d_M_countNow_130 : decode prog_14_method_52_code 130 = .ok (.iaload, 1) := by decide +kernel
theorem d_M_countNow_131 : decode prog_14_method_52_code 131 = .ok (.bipush (10), 2) := by decide +kernel
theorem d_M_countNow_133 : decode prog_14_method_52_code 133 = .ok (.if_icmp .ne (26), 3) := by decide +kernel
theorem d_M_countNow_136 : decode prog_14_method_52_code 136 = .ok (.aload_n 0, 1) := by decide +kernel
theorem d_M_countNow_137 : decode prog_14_method_52_code 137 = .ok (.getfield 112, 3) := by decide +kernel
theorem d_M_countNow_140 : decode prog_14_method_52_code 140 = .ok (.iload_n 3, 1) := by decide +kernel
theorem d_M_countNow_141 : decode prog_14_method_52_code 141 = .ok (.iaload, 1) := by decide +kernel
theorem d_M_countNow_142 : decode prog_14_method_52_code 142 = .ok (.ifCond .ge (17), 3) := by decide +kernel
theorem d_M_countNow_145 : decode prog_14_method_52_code 145 = .ok (.aload_n 0, 1) := by decide +kernel
theorem d_M_countNow_146 : decode prog_14_method_52_code 146 = .ok (.getfield 112, 3) := by decide +kernel
theorem d_M_countNow_149 : decode prog_14_method_52_code 149 = .ok (.iload_n 3, 1) := by decide +kernel
theorem d_M_countNow_150 : decode prog_14_method_52_code 150 = .ok (.iload_n 1, 1) := by decide +kernel
theorem d_M_countNow_151 : decode prog_14_method_52_code 151 = .ok (.iastore, 1) := by decide +kernel
theorem d_M_countNow_152 : decode prog_14_method_52_code 152 = .ok (.aload_n 0, 1) := by decide +kernel
theorem d_M_countNow_153 : decode prog_14_method_52_code 153 = .ok (.getfield 115, 3) := by decide +kernel
theorem d_M_countNow_156 : decode prog_14_method_52_code 156 = .ok (.iload_n 3, 1) := by decide +kernel
theorem d_M_countNow_157 : decode prog_14_method_52_code 157 = .ok (.iconst (-1), 1) := by decide +kernel
theorem d_M_countNow_158 : decode prog_14_method_52_code 158 = .ok (.iastore, 1) := by decide +kernel
theorem d_M_countNow_159 : decode prog_14_method_52_code 159 = .ok (.iinc 3 (1), 3) := by decide +kernel
theorem d_M_countNow_162 : decode prog_14_method_52_code 162 = .ok (.goto (-154), 3) := by decide +kernel
theorem d_M_countNow_165 : decode prog_14_method_52_code 165 = .ok (.return_, 1) := by decide +kernel
set_option maxHeartbeats 4000000 in
set_option maxRecDepth 100000 in
theorem zf_M_countNow_J125 {G : zz_G} {l : Launch} {Z : zz_Z} {q : zz_S} {s : zz_S} (C : zz_Cx G l "OneBlanketModel" "countNow" prog_14_method_52_code 5 (none) 6 (none, zsh, q) Z) (K8 : Int32 → Int32 → Int32 → zz_S → Option (zz_S)) (hK8 : ∀ (v1 : Int32) (v2 : Int32) (v3 : Int32) (s : zz_S), K8 v1 v2 v3 s = some q → Z 8 [some (.ref 79), some (.int v1), some (.int v2), some (.int v3), none] [] zsh s) (v1 : Int32) (v2 : Int32) (v3 : Int32) (h : f_M_countNow_J125 K8 v1 v2 v3 s = some q) : Z 125 [some (.ref 79), some (.int v1), some (.int v2), some (.int v3), none] [] zsh s := by
  unfold f_M_countNow_J125 at h
  refine zz_aload_n (i := 0) (pc := 125) C rfl rfl d_M_countNow_125 ?_
  refine zz_getR (pc := 126) C zl_12_109 zsh_79 rfl d_M_countNow_126 ?_
  refine zz_iload_n (i := 3) (pc := 129) C rfl rfl d_M_countNow_129 ?_
  obtain ⟨hi14, h⟩ := zz_ckE h
  refine zz_iald (pc := 130) C rfl zsh_110 hi14 d_M_countNow_130 ?_
  refine zz_bipush (pc := 131) C zkb_10 d_M_countNow_131 ?_
  refine zz_icmp_ne (tgt := 159) (pc := 133) C (by decide) d_M_countNow_133 (fun hc15 => ?_) (fun hc15 => ?_)
  · rw [if_neg hc15] at h
    refine zz_iinc (lo' := [some (.ref 79), some (.int v1), some (.int v2), some (.int (v3 + (1 : Int32))), none]) (pc := 159) C rfl (zz_inc zki_1) rfl rfl d_M_countNow_159 ?_
    refine zz_goto (tgt := 8) (pc := 162) C (by decide) d_M_countNow_162 ?_
    exact hK8 v1 v2 (v3 + (1 : Int32)) s h
  · rw [if_pos hc15] at h
    refine zz_aload_n (i := 0) (pc := 136) C rfl rfl d_M_countNow_136 ?_
    refine zz_getR (pc := 137) C zl_12_112 zsh_79 rfl d_M_countNow_137 ?_
    refine zz_iload_n (i := 3) (pc := 140) C rfl rfl d_M_countNow_140 ?_
    refine zz_iald (pc := 141) C rfl zsh_111 hi14 d_M_countNow_141 ?_
    refine zz_if_ge (tgt := 159) (pc := 142) C (by decide) d_M_countNow_142 (fun hc16 => ?_) (fun hc16 => ?_)
    · rw [if_pos hc16] at h
      refine zz_iinc (lo' := [some (.ref 79), some (.int v1), some (.int v2), some (.int (v3 + (1 : Int32))), none]) (pc := 159) C rfl (zz_inc zki_1) rfl rfl d_M_countNow_159 ?_
      refine zz_goto (tgt := 8) (pc := 162) C (by decide) d_M_countNow_162 ?_
      exact hK8 v1 v2 (v3 + (1 : Int32)) s h
    · rw [if_neg hc16] at h
      refine zz_aload_n (i := 0) (pc := 145) C rfl rfl d_M_countNow_145 ?_
      refine zz_getR (pc := 146) C zl_12_112 zsh_79 rfl d_M_countNow_146 ?_
      refine zz_iload_n (i := 3) (pc := 149) C rfl rfl d_M_countNow_149 ?_
      refine zz_iload_n (i := 1) (pc := 150) C rfl rfl d_M_countNow_150 ?_
      refine zz_iast (pc := 151) C rfl zsh_111 hi14 d_M_countNow_151 ?_
      refine zz_aload_n (i := 0) (pc := 152) C rfl rfl d_M_countNow_152 ?_
      refine zz_getR (pc := 153) C zl_12_115 zsh_79 rfl d_M_countNow_153 ?_
      refine zz_iload_n (i := 3) (pc := 156) C rfl rfl d_M_countNow_156 ?_
      refine zz_iconst (pc := 157) C zki_m1 d_M_countNow_157 ?_
      refine zz_iast (pc := 158) C rfl zsh_112 hi14 d_M_countNow_158 ?_
      refine zz_iinc (lo' := [some (.ref 79), some (.int v1), some (.int v2), some (.int (v3 + (1 : Int32))), none]) (pc := 159) C rfl (zz_inc zki_1) rfl rfl d_M_countNow_159 ?_
      refine zz_goto (tgt := 8) (pc := 162) C (by decide) d_M_countNow_162 ?_
      exact hK8 v1 v2 (v3 + (1 : Int32)) (zz_w (zz_w s 111 (v3.toNatClampNeg) v1) 112 (v3.toNatClampNeg) (-1 : Int32)) h
set_option maxHeartbeats 4000000 in
set_option maxRecDepth 100000 in
theorem zf_M_countNow_J101 {G : zz_G} {l : Launch} {Z : zz_Z} {q : zz_S} {s : zz_S} (C : zz_Cx G l "OneBlanketModel" "countNow" prog_14_method_52_code 5 (none) 6 (none, zsh, q) Z) (K8 : Int32 → Int32 → Int32 → zz_S → Option (zz_S)) (hK8 : ∀ (v1 : Int32) (v2 : Int32) (v3 : Int32) (s : zz_S), K8 v1 v2 v3 s = some q → Z 8 [some (.ref 79), some (.int v1), some (.int v2), some (.int v3), none] [] zsh s) (v1 : Int32) (v2 : Int32) (v3 : Int32) (h : f_M_countNow_J101 K8 v1 v2 v3 s = some q) : Z 101 [some (.ref 79), some (.int v1), some (.int v2), some (.int v3), none] [] zsh s := by
  unfold f_M_countNow_J101 at h
  refine zz_aload_n (i := 0) (pc := 101) C rfl rfl d_M_countNow_101 ?_
  refine zz_iload_n (i := 3) (pc := 102) C rfl rfl d_M_countNow_102 ?_
  obtain ⟨q11, hq11, h⟩ := zz_bdE h
  refine zz_cVi (as := [.int v3]) (st := []) (pc := 103) C (zm_M_coveredOf hq11) zcv_M_coveredOf zsh_79 zl_12_297 (by omega) (Nat.le_of_ble_eq_true rfl) d_M_countNow_103 rfl rfl ?_
  refine zz_aload_n (i := 0) (pc := 106) C rfl rfl d_M_countNow_106 ?_
  refine zz_getR (pc := 107) C zl_12_17 zsh_79 rfl d_M_countNow_107 ?_
  refine zz_iload_n (i := 3) (pc := 110) C rfl rfl d_M_countNow_110 ?_
  obtain ⟨hi12, h⟩ := zz_ckE h
  refine zz_iald (pc := 111) C rfl zsh_81 hi12 d_M_countNow_111 ?_
  refine zz_icmp_ge (tgt := 125) (pc := 112) C (by decide) d_M_countNow_112 (fun hc13 => ?_) (fun hc13 => ?_)
  · rw [if_pos hc13] at h
    exact zf_M_countNow_J125 C K8 hK8 v1 v2 v3 h
  · rw [if_neg hc13] at h
    refine zz_aload_n (i := 0) (pc := 115) C rfl rfl d_M_countNow_115 ?_
    refine zz_getR (pc := 116) C zl_12_106 zsh_79 rfl d_M_countNow_116 ?_
    refine zz_iload_n (i := 3) (pc := 119) C rfl rfl d_M_countNow_119 ?_
    refine zz_dup2 (pc := 120) C rfl rfl d_M_countNow_120 ?_
    refine zz_iald (pc := 121) C rfl zsh_109 hi12 d_M_countNow_121 ?_
    refine zz_iconst (pc := 122) C zki_1 d_M_countNow_122 ?_
    refine zz_iadd (pc := 123) C d_M_countNow_123 ?_
    refine zz_iast (pc := 124) C rfl zsh_109 hi12 d_M_countNow_124 ?_
    exact zf_M_countNow_J125 C K8 hK8 v1 v2 v3 h
set_option maxHeartbeats 4000000 in
set_option maxRecDepth 100000 in
theorem zf_M_countNow_J81 {G : zz_G} {l : Launch} {Z : zz_Z} {q : zz_S} {s : zz_S} (C : zz_Cx G l "OneBlanketModel" "countNow" prog_14_method_52_code 5 (none) 6 (none, zsh, q) Z) (K8 : Int32 → Int32 → Int32 → zz_S → Option (zz_S)) (hK8 : ∀ (v1 : Int32) (v2 : Int32) (v3 : Int32) (s : zz_S), K8 v1 v2 v3 s = some q → Z 8 [some (.ref 79), some (.int v1), some (.int v2), some (.int v3), none] [] zsh s) (v1 : Int32) (v2 : Int32) (v3 : Int32) (t1 : Int32) (t2 : Int32) (h : f_M_countNow_J81 K8 v1 v2 v3 t1 t2 s = some q) : Z 81 [some (.ref 79), some (.int v1), some (.int v2), some (.int v3), none] [.int t2, .int t1, .ref 110] zsh s := by
  unfold f_M_countNow_J81 at h
  obtain ⟨hi8, h⟩ := zz_ckE h
  refine zz_iast (pc := 81) C rfl zsh_110 hi8 d_M_countNow_81 ?_
  refine zz_aload_n (i := 0) (pc := 82) C rfl rfl d_M_countNow_82 ?_
  refine zz_getR (pc := 83) C zl_12_109 zsh_79 rfl d_M_countNow_83 ?_
  refine zz_iload_n (i := 3) (pc := 86) C rfl rfl d_M_countNow_86 ?_
  obtain ⟨hi9, h⟩ := zz_ckE h
  refine zz_iald (pc := 87) C rfl zsh_110 hi9 d_M_countNow_87 ?_
  refine zz_if_le (tgt := 101) (pc := 88) C (by decide) d_M_countNow_88 (fun hc10 => ?_) (fun hc10 => ?_)
  · rw [if_pos hc10] at h
    exact zf_M_countNow_J101 C K8 hK8 v1 v2 v3 h
  · rw [if_neg hc10] at h
    refine zz_aload_n (i := 0) (pc := 91) C rfl rfl d_M_countNow_91 ?_
    refine zz_getR (pc := 92) C zl_12_103 zsh_79 rfl d_M_countNow_92 ?_
    refine zz_iload_n (i := 3) (pc := 95) C rfl rfl d_M_countNow_95 ?_
    refine zz_dup2 (pc := 96) C rfl rfl d_M_countNow_96 ?_
    refine zz_ialdv (v := (s.1 108 (v3.toNatClampNeg))) (pc := 97) C rfl zsh_108 hi9 rfl d_M_countNow_97 ?_
    refine zz_iconst (pc := 98) C zki_1 d_M_countNow_98 ?_
    refine zz_iadd (pc := 99) C d_M_countNow_99 ?_
    refine zz_iast (pc := 100) C rfl zsh_108 hi9 d_M_countNow_100 ?_
    exact zf_M_countNow_J101 C K8 hK8 v1 v2 v3 h
set_option maxHeartbeats 4000000 in
set_option maxRecDepth 100000 in
theorem zf_M_countNow_J50 {G : zz_G} {l : Launch} {Z : zz_Z} {q : zz_S} {s : zz_S} (C : zz_Cx G l "OneBlanketModel" "countNow" prog_14_method_52_code 5 (none) 6 (none, zsh, q) Z) (K8 : Int32 → Int32 → Int32 → zz_S → Option (zz_S)) (hK8 : ∀ (v1 : Int32) (v2 : Int32) (v3 : Int32) (s : zz_S), K8 v1 v2 v3 s = some q → Z 8 [some (.ref 79), some (.int v1), some (.int v2), some (.int v3), none] [] zsh s) (v1 : Int32) (v2 : Int32) (v3 : Int32) (v4 : Int32) (h : f_M_countNow_J50 K8 v1 v2 v3 v4 s = some q) : Z 50 [some (.ref 79), some (.int v1), some (.int v2), some (.int v3), some (.int v4)] [] zsh s := by
  unfold f_M_countNow_J50 at h
  refine zz_aload_n (i := 0) (pc := 50) C rfl rfl d_M_countNow_50 ?_
  refine zz_getR (pc := 51) C zl_12_109 zsh_79 rfl d_M_countNow_51 ?_
  refine zz_iload_n (i := 3) (pc := 54) C rfl rfl d_M_countNow_54 ?_
  refine zz_aload_n (i := 0) (pc := 55) C rfl rfl d_M_countNow_55 ?_
  refine zz_getR (pc := 56) C zl_12_20 zsh_79 rfl d_M_countNow_56 ?_
  refine zz_iload_n (i := 3) (pc := 59) C rfl rfl d_M_countNow_59 ?_
  obtain ⟨hi6, h⟩ := zz_ckE h
  refine zz_iald (pc := 60) C rfl zsh_82 hi6 d_M_countNow_60 ?_
  refine zz_iload (i := 4) (pc := 61) C rfl d_M_countNow_61 ?_
  refine zz_isub (pc := 63) C d_M_countNow_63 ?_
  refine zz_bipush (pc := 64) C zkb_15 d_M_countNow_64 ?_
  refine zz_icmp_le (tgt := 80) (pc := 66) C (by decide) d_M_countNow_66 (fun hc7 => ?_) (fun hc7 => ?_)
  · rw [if_pos hc7] at h
    refine zz_iconst (pc := 80) C zki_0 d_M_countNow_80 ?_
    refine zz_fg C [true, true, true, true, false] rfl rfl ?_
    exact zf_M_countNow_J81 C K8 hK8 v1 v2 v3 v3 (0 : Int32) h
  · rw [if_neg hc7] at h
    refine zz_aload_n (i := 0) (pc := 69) C rfl rfl d_M_countNow_69 ?_
    refine zz_getR (pc := 70) C zl_12_109 zsh_79 rfl d_M_countNow_70 ?_
    refine zz_iload_n (i := 3) (pc := 73) C rfl rfl d_M_countNow_73 ?_
    refine zz_iald (pc := 74) C rfl zsh_110 hi6 d_M_countNow_74 ?_
    refine zz_iconst (pc := 75) C zki_1 d_M_countNow_75 ?_
    refine zz_iadd (pc := 76) C d_M_countNow_76 ?_
    refine zz_goto (tgt := 81) (pc := 77) C (by decide) d_M_countNow_77 ?_
    refine zz_fg C [true, true, true, true, false] rfl rfl ?_
    exact zf_M_countNow_J81 C K8 hK8 v1 v2 v3 v3 ((s.1 110 (v3.toNatClampNeg)) + (1 : Int32)) h
set_option maxHeartbeats 4000000 in
set_option maxRecDepth 100000 in
theorem zf_M_countNow_L8 {G : zz_G} {l : Launch} {Z : zz_Z} {q : zz_S} (C : zz_Cx G l "OneBlanketModel" "countNow" prog_14_method_52_code 5 (none) 6 (none, zsh, q) Z) : ∀ (n : Nat) (v1 : Int32) (v2 : Int32) (v3 : Int32) (s : zz_S), f_M_countNow_L8 n v1 v2 v3 s = some q → Z 8 [some (.ref 79), some (.int v1), some (.int v2), some (.int v3), none] [] zsh s := by
  intro n
  induction n with
  | zero => intro v1 v2 v3 s h; rw [f_M_countNow_L8] at h; cases h
  | succ n ih =>
  intro v1 v2 v3 s h
  rw [f_M_countNow_L8] at h
  refine zz_iload_n (i := 3) (pc := 8) C rfl rfl d_M_countNow_8 ?_
  refine zz_aload_n (i := 0) (pc := 9) C rfl rfl d_M_countNow_9 ?_
  refine zz_getI (pc := 10) C zl_12_155 zsh_79 rfl d_M_countNow_10 ?_
  refine zz_icmp_ge (tgt := 165) (pc := 13) C (by decide) d_M_countNow_13 (fun hc2 => ?_) (fun hc2 => ?_)
  · rw [if_pos hc2] at h
    replace h := Option.some.inj h
    subst h
    exact zz_ret (pc := 165) C (v := none) d_M_countNow_165 (Or.inr (Or.inr (Or.inr ⟨rfl, rfl, rfl⟩))) rfl
  · rw [if_neg hc2] at h
    refine zz_aload_n (i := 0) (pc := 16) C rfl rfl d_M_countNow_16 ?_
    refine zz_iload_n (i := 3) (pc := 17) C rfl rfl d_M_countNow_17 ?_
    refine zz_iload_n (i := 2) (pc := 18) C rfl rfl d_M_countNow_18 ?_
    obtain ⟨q3, hq3, h⟩ := zz_bdE h
    refine zz_cVi (as := [.int v3, .int v2]) (st := []) (pc := 19) C (zm_M_warmOf hq3) zcv_M_warmOf zsh_79 zl_12_307 (by omega) (Nat.le_of_ble_eq_true rfl) d_M_countNow_19 rfl rfl ?_
    refine zz_istore (i := 4) (lo' := [some (.ref 79), some (.int v1), some (.int v2), some (.int v3), some (.int q3)]) (pc := 22) C (Nat.le_of_ble_eq_true rfl) rfl rfl d_M_countNow_22 ?_
    refine zz_iload (i := 4) (pc := 24) C rfl d_M_countNow_24 ?_
    refine zz_aload_n (i := 0) (pc := 26) C rfl rfl d_M_countNow_26 ?_
    refine zz_getR (pc := 27) C zl_12_20 zsh_79 rfl d_M_countNow_27 ?_
    refine zz_iload_n (i := 3) (pc := 30) C rfl rfl d_M_countNow_30 ?_
    obtain ⟨hi4, h⟩ := zz_ckE h
    refine zz_iald (pc := 31) C rfl zsh_82 hi4 d_M_countNow_31 ?_
    refine zz_isub (pc := 32) C d_M_countNow_32 ?_
    refine zz_cSi (as := [.int (q3 - (s.1 82 (v3.toNatClampNeg)))]) (st := []) (pc := 33) C (zm_M_sizeOf rfl) zcs_M_sizeOf zl_12_294 (by omega) (Nat.le_of_ble_eq_true rfl) d_M_countNow_33 rfl rfl ?_
    refine zz_iconst (pc := 36) C zki_5 d_M_countNow_36 ?_
    refine zz_icmp_gt (tgt := 50) (pc := 37) C (by decide) d_M_countNow_37 (fun hc5 => ?_) (fun hc5 => ?_)
    · rw [if_pos hc5] at h
      exact zf_M_countNow_J50 C (f_M_countNow_L8 n) ih v1 v2 v3 q3 h
    · rw [if_neg hc5] at h
      refine zz_aload_n (i := 0) (pc := 40) C rfl rfl d_M_countNow_40 ?_
      refine zz_getR (pc := 41) C zl_12_100 zsh_79 rfl d_M_countNow_41 ?_
      refine zz_iload_n (i := 3) (pc := 44) C rfl rfl d_M_countNow_44 ?_
      refine zz_dup2 (pc := 45) C rfl rfl d_M_countNow_45 ?_
      refine zz_iald (pc := 46) C rfl zsh_107 hi4 d_M_countNow_46 ?_
      refine zz_iconst (pc := 47) C zki_1 d_M_countNow_47 ?_
      refine zz_iadd (pc := 48) C d_M_countNow_48 ?_
      refine zz_iast (pc := 49) C rfl zsh_107 hi4 d_M_countNow_49 ?_
      exact zf_M_countNow_J50 C (f_M_countNow_L8 n) ih v1 v2 v3 q3 h
set_option maxHeartbeats 4000000 in
set_option maxRecDepth 100000 in
theorem zf_M_countNow {G : zz_G} {l : Launch} {Z : zz_Z} {q : zz_S} {s : zz_S} (C : zz_Cx G l "OneBlanketModel" "countNow" prog_14_method_52_code 5 (none) 6 (none, zsh, q) Z) (a1 : Int32) (h : f_M_countNow a1 s = some q) : Z 0 [some (.ref 79), some (.int a1), none, none, none] [] zsh s := by
  unfold f_M_countNow at h
  refine zz_aload_n (i := 0) (pc := 0) C rfl rfl d_M_countNow_0 ?_
  refine zz_iload_n (i := 1) (pc := 1) C rfl rfl d_M_countNow_1 ?_
  obtain ⟨q1, hq1, h⟩ := zz_bdE h
  refine zz_cVi (as := [.int a1]) (st := []) (pc := 2) C (zm_M_degrees hq1) zcv_M_degrees zsh_79 zl_12_304 (by omega) (Nat.le_of_ble_eq_true rfl) d_M_countNow_2 rfl rfl ?_
  refine zz_istore_n (i := 2) (lo' := [some (.ref 79), some (.int a1), some (.int q1.1), none, none]) (pc := 5) C rfl (Nat.le_of_ble_eq_true rfl) rfl rfl d_M_countNow_5 ?_
  refine zz_iconst (pc := 6) C zki_0 d_M_countNow_6 ?_
  refine zz_istore_n (i := 3) (lo' := [some (.ref 79), some (.int a1), some (.int q1.1), some (.int (0 : Int32)), none]) (pc := 7) C rfl (Nat.le_of_ble_eq_true rfl) rfl rfl d_M_countNow_7 ?_
  exact zf_M_countNow_L8 C zF a1 q1.1 (0 : Int32) q1.2 h
theorem zm_M_countNow {G : zz_G} {l : Launch} {s : zz_S} {q : zz_S} {a1 : Int32} (h : f_M_countNow a1 s = some q) : zz_M G l 6 y_M_countNow prog_14_method_52_code 5 (none) [.ref 79, .int a1] zsh s (none, zsh, q) :=
  zz_M.intro (by decide) (Nat.le_of_ble_eq_true rfl) (Nat.le_refl _) (Nat.le_refl _) (fun Z C => zf_M_countNow C a1 h)
theorem d_M_night_0 : decode prog_14_method_54_code 0 = .ok (.aload_n 0, 1) := by decide +kernel
theorem d_M_night_1 : decode prog_14_method_54_code 1 = .ok (.invokevirtual 313, 3) := by decide +kernel
theorem d_M_night_4 : decode prog_14_method_54_code 4 = .ok (.iconst 0, 1) := by decide +kernel
theorem d_M_night_5 : decode prog_14_method_54_code 5 = .ok (.istore_n 2, 1) := by decide +kernel
theorem d_M_night_6 : decode prog_14_method_54_code 6 = .ok (.iload_n 2, 1) := by decide +kernel
theorem d_M_night_7 : decode prog_14_method_54_code 7 = .ok (.iload_n 1, 1) := by decide +kernel
theorem d_M_night_8 : decode prog_14_method_54_code 8 = .ok (.if_icmp .gt (19), 3) := by decide +kernel
theorem d_M_night_11 : decode prog_14_method_54_code 11 = .ok (.aload_n 0, 1) := by decide +kernel
theorem d_M_night_12 : decode prog_14_method_54_code 12 = .ok (.iload_n 2, 1) := by decide +kernel
theorem d_M_night_13 : decode prog_14_method_54_code 13 = .ok (.invokevirtual 316, 3) := by decide +kernel
theorem d_M_night_16 : decode prog_14_method_54_code 16 = .ok (.aload_n 0, 1) := by decide +kernel
theorem d_M_night_17 : decode prog_14_method_54_code 17 = .ok (.iload_n 2, 1) := by decide +kernel
theorem d_M_night_18 : decode prog_14_method_54_code 18 = .ok (.invokevirtual 320, 3) := by decide +kernel
theorem d_M_night_21 : decode prog_14_method_54_code 21 = .ok (.iinc 2 (1), 3) := by decide +kernel
theorem d_M_night_24 : decode prog_14_method_54_code 24 = .ok (.goto (-18), 3) := by decide +kernel
theorem d_M_night_27 : decode prog_14_method_54_code 27 = .ok (.return_, 1) := by decide +kernel
set_option maxHeartbeats 4000000 in
set_option maxRecDepth 100000 in
theorem zf_M_night_L6 {G : zz_G} {l : Launch} {Z : zz_Z} {q : zz_S} (C : zz_Cx G l "OneBlanketModel" "night" prog_14_method_54_code 3 (none) 8 (none, zsh, q) Z) : ∀ (n : Nat) (v1 : Int32) (v2 : Int32) (s : zz_S), f_M_night_L6 n v1 v2 s = some q → Z 6 [some (.ref 79), some (.int v1), some (.int v2)] [] zsh s := by
  intro n
  induction n with
  | zero => intro v1 v2 s h; rw [f_M_night_L6] at h; cases h
  | succ n ih =>
  intro v1 v2 s h
  rw [f_M_night_L6] at h
  refine zz_iload_n (i := 2) (pc := 6) C rfl rfl d_M_night_6 ?_
  refine zz_iload_n (i := 1) (pc := 7) C rfl rfl d_M_night_7 ?_
  refine zz_icmp_gt (tgt := 27) (pc := 8) C (by decide) d_M_night_8 (fun hc2 => ?_) (fun hc2 => ?_)
  · rw [if_pos hc2] at h
    replace h := Option.some.inj h
    subst h
    exact zz_ret (pc := 27) C (v := none) d_M_night_27 (Or.inr (Or.inr (Or.inr ⟨rfl, rfl, rfl⟩))) rfl
  · rw [if_neg hc2] at h
    refine zz_aload_n (i := 0) (pc := 11) C rfl rfl d_M_night_11 ?_
    refine zz_iload_n (i := 2) (pc := 12) C rfl rfl d_M_night_12 ?_
    obtain ⟨q3, hq3, h⟩ := zz_bdE h
    refine zz_cVv (as := [.int v2]) (st := []) (pc := 13) C (zm_M_minute hq3) zcv_M_minute zsh_79 zl_12_316 (by omega) (Nat.le_of_ble_eq_true rfl) d_M_night_13 rfl rfl ?_
    refine zz_aload_n (i := 0) (pc := 16) C rfl rfl d_M_night_16 ?_
    refine zz_iload_n (i := 2) (pc := 17) C rfl rfl d_M_night_17 ?_
    obtain ⟨q4, hq4, h⟩ := zz_bdE h
    refine zz_cVv (as := [.int v2]) (st := []) (pc := 18) C (zm_M_countNow hq4) zcv_M_countNow zsh_79 zl_12_320 (by omega) (Nat.le_of_ble_eq_true rfl) d_M_night_18 rfl rfl ?_
    refine zz_iinc (lo' := [some (.ref 79), some (.int v1), some (.int (v2 + (1 : Int32)))]) (pc := 21) C rfl (zz_inc zki_1) rfl rfl d_M_night_21 ?_
    refine zz_goto (tgt := 6) (pc := 24) C (by decide) d_M_night_24 ?_
    exact ih v1 (v2 + (1 : Int32)) q4 h
set_option maxHeartbeats 4000000 in
set_option maxRecDepth 100000 in
theorem zf_M_night {G : zz_G} {l : Launch} {Z : zz_Z} {q : zz_S} {s : zz_S} (C : zz_Cx G l "OneBlanketModel" "night" prog_14_method_54_code 3 (none) 8 (none, zsh, q) Z) (a1 : Int32) (h : f_M_night a1 s = some q) : Z 0 [some (.ref 79), some (.int a1), none] [] zsh s := by
  unfold f_M_night at h
  refine zz_aload_n (i := 0) (pc := 0) C rfl rfl d_M_night_0 ?_
  obtain ⟨q1, hq1, h⟩ := zz_bdE h
  refine zz_cVv (as := []) (st := []) (pc := 1) C (zm_M_begin hq1) zcv_M_begin zsh_79 zl_12_313 (by omega) (Nat.le_of_ble_eq_true rfl) d_M_night_1 rfl rfl ?_
  refine zz_iconst (pc := 4) C zki_0 d_M_night_4 ?_
  refine zz_istore_n (i := 2) (lo' := [some (.ref 79), some (.int a1), some (.int (0 : Int32))]) (pc := 5) C rfl (Nat.le_of_ble_eq_true rfl) rfl rfl d_M_night_5 ?_
  exact zf_M_night_L6 C zF a1 (0 : Int32) q1 h
theorem zm_M_night {G : zz_G} {l : Launch} {s : zz_S} {q : zz_S} {a1 : Int32} (h : f_M_night a1 s = some q) : zz_M G l 8 y_M_night prog_14_method_54_code 3 (none) [.ref 79, .int a1] zsh s (none, zsh, q) :=
  zz_M.intro (by decide) (Nat.le_of_ble_eq_true rfl) (Nat.le_refl _) (Nat.le_refl _) (fun Z C => zf_M_night C a1 h)
theorem d_M_leastEasy_0 : decode prog_14_method_63_code 0 = .ok (.aload_n 0, 1) := by decide +kernel
theorem d_M_leastEasy_1 : decode prog_14_method_63_code 1 = .ok (.sipush (479), 3) := by decide +kernel
theorem d_M_leastEasy_4 : decode prog_14_method_63_code 4 = .ok (.invokevirtual 323, 3) := by decide +kernel
theorem d_M_leastEasy_7 : decode prog_14_method_63_code 7 = .ok (.aload_n 0, 1) := by decide +kernel
theorem d_M_leastEasy_8 : decode prog_14_method_63_code 8 = .ok (.getfield 100, 3) := by decide +kernel
theorem d_M_leastEasy_11 : decode prog_14_method_63_code 11 = .ok (.iconst 0, 1) := by decide +kernel
theorem d_M_leastEasy_12 : decode prog_14_method_63_code 12 = .ok (.iaload, 1) := by decide +kernel
theorem d_M_leastEasy_13 : decode prog_14_method_63_code 13 = .ok (.istore_n 1, 1) := by decide +kernel
theorem d_M_leastEasy_14 : decode prog_14_method_63_code 14 = .ok (.iconst 1, 1) := by decide +kernel
theorem d_M_leastEasy_15 : decode prog_14_method_63_code 15 = .ok (.istore_n 2, 1) := by decide +kernel
theorem d_M_leastEasy_16 : decode prog_14_method_63_code 16 = .ok (.iload_n 2, 1) := by decide +kernel
theorem d_M_leastEasy_17 : decode prog_14_method_63_code 17 = .ok (.aload_n 0, 1) := by decide +kernel
theorem d_M_leastEasy_18 : decode prog_14_method_63_code 18 = .ok (.getfield 155, 3) := by decide +kernel
theorem d_M_leastEasy_21 : decode prog_14_method_63_code 21 = .ok (.if_icmp .ge (26), 3) := by decide +kernel
theorem d_M_leastEasy_24 : decode prog_14_method_63_code 24 = .ok (.aload_n 0, 1) := by decide +kernel
theorem d_M_leastEasy_25 : decode prog_14_method_63_code 25 = .ok (.getfield 100, 3) := by decide +kernel
theorem d_M_leastEasy_28 : decode prog_14_method_63_code 28 = .ok (.iload_n 2, 1) := by decide +kernel
theorem d_M_leastEasy_29 : decode prog_14_method_63_code 29 = .ok (.iaload, 1) := by decide +kernel
theorem d_M_leastEasy_30 : decode prog_14_method_63_code 30 = .ok (.iload_n 1, 1) := by decide +kernel
theorem d_M_leastEasy_31 : decode prog_14_method_63_code 31 = .ok (.if_icmp .ge (10), 3) := by decide +kernel
theorem d_M_leastEasy_34 : decode prog_14_method_63_code 34 = .ok (.aload_n 0, 1) := by decide +kernel
theorem d_M_leastEasy_35 : decode prog_14_method_63_code 35 = .ok (.getfield 100, 3) := by decide +kernel
theorem d_M_leastEasy_38 : decode prog_14_method_63_code 38 = .ok (.iload_n 2, 1) := by decide +kernel
theorem d_M_leastEasy_39 : decode prog_14_method_63_code 39 = .ok (.iaload, 1) := by decide +kernel
theorem d_M_leastEasy_40 : decode prog_14_method_63_code 40 = .ok (.istore_n 1, 1) := by decide +kernel
theorem d_M_leastEasy_41 : decode prog_14_method_63_code 41 = .ok (.iinc 2 (1), 3) := by decide +kernel
theorem d_M_leastEasy_44 : decode prog_14_method_63_code 44 = .ok (.goto (-28), 3) := by decide +kernel
theorem d_M_leastEasy_47 : decode prog_14_method_63_code 47 = .ok (.iload_n 1, 1) := by decide +kernel
theorem d_M_leastEasy_48 : decode prog_14_method_63_code 48 = .ok (.ireturn, 1) := by decide +kernel
set_option maxHeartbeats 4000000 in
set_option maxRecDepth 100000 in
theorem zf_M_leastEasy_L16 {G : zz_G} {l : Launch} {Z : zz_Z} {q : Int32 × zz_S} (C : zz_Cx G l "OneBlanketModel" "leastEasy" prog_14_method_63_code 3 (some .int) 9 (some (.int q.1), zsh, q.2) Z) : ∀ (n : Nat) (v1 : Int32) (v2 : Int32) (s : zz_S), f_M_leastEasy_L16 n v1 v2 s = some q → Z 16 [some (.ref 79), some (.int v1), some (.int v2)] [] zsh s := by
  intro n
  induction n with
  | zero => intro v1 v2 s h; rw [f_M_leastEasy_L16] at h; cases h
  | succ n ih =>
  intro v1 v2 s h
  rw [f_M_leastEasy_L16] at h
  refine zz_iload_n (i := 2) (pc := 16) C rfl rfl d_M_leastEasy_16 ?_
  refine zz_aload_n (i := 0) (pc := 17) C rfl rfl d_M_leastEasy_17 ?_
  refine zz_getI (pc := 18) C zl_12_155 zsh_79 rfl d_M_leastEasy_18 ?_
  refine zz_icmp_ge (tgt := 47) (pc := 21) C (by decide) d_M_leastEasy_21 (fun hc2 => ?_) (fun hc2 => ?_)
  · rw [if_pos hc2] at h
    refine zz_iload_n (i := 1) (pc := 47) C rfl rfl d_M_leastEasy_47 ?_
    replace h := Option.some.inj h
    subst h
    exact zz_ret (pc := 48) C (v := some (.int v1)) d_M_leastEasy_48 (Or.inl ⟨_, _, rfl, rfl, rfl, rfl⟩) rfl
  · rw [if_neg hc2] at h
    refine zz_aload_n (i := 0) (pc := 24) C rfl rfl d_M_leastEasy_24 ?_
    refine zz_getR (pc := 25) C zl_12_100 zsh_79 rfl d_M_leastEasy_25 ?_
    refine zz_iload_n (i := 2) (pc := 28) C rfl rfl d_M_leastEasy_28 ?_
    obtain ⟨hi3, h⟩ := zz_ckE h
    refine zz_iald (pc := 29) C rfl zsh_107 hi3 d_M_leastEasy_29 ?_
    refine zz_iload_n (i := 1) (pc := 30) C rfl rfl d_M_leastEasy_30 ?_
    refine zz_icmp_ge (tgt := 41) (pc := 31) C (by decide) d_M_leastEasy_31 (fun hc4 => ?_) (fun hc4 => ?_)
    · rw [if_pos hc4] at h
      refine zz_iinc (lo' := [some (.ref 79), some (.int v1), some (.int (v2 + (1 : Int32)))]) (pc := 41) C rfl (zz_inc zki_1) rfl rfl d_M_leastEasy_41 ?_
      refine zz_goto (tgt := 16) (pc := 44) C (by decide) d_M_leastEasy_44 ?_
      exact ih v1 (v2 + (1 : Int32)) s h
    · rw [if_neg hc4] at h
      refine zz_aload_n (i := 0) (pc := 34) C rfl rfl d_M_leastEasy_34 ?_
      refine zz_getR (pc := 35) C zl_12_100 zsh_79 rfl d_M_leastEasy_35 ?_
      refine zz_iload_n (i := 2) (pc := 38) C rfl rfl d_M_leastEasy_38 ?_
      refine zz_iald (pc := 39) C rfl zsh_107 hi3 d_M_leastEasy_39 ?_
      refine zz_istore_n (i := 1) (lo' := [some (.ref 79), some (.int (s.1 107 (v2.toNatClampNeg))), some (.int v2)]) (pc := 40) C rfl (Nat.le_of_ble_eq_true rfl) rfl rfl d_M_leastEasy_40 ?_
      refine zz_iinc (lo' := [some (.ref 79), some (.int (s.1 107 (v2.toNatClampNeg))), some (.int (v2 + (1 : Int32)))]) (pc := 41) C rfl (zz_inc zki_1) rfl rfl d_M_leastEasy_41 ?_
      refine zz_goto (tgt := 16) (pc := 44) C (by decide) d_M_leastEasy_44 ?_
      exact ih (s.1 107 (v2.toNatClampNeg)) (v2 + (1 : Int32)) s h
set_option maxHeartbeats 4000000 in
set_option maxRecDepth 100000 in
theorem zf_M_leastEasy {G : zz_G} {l : Launch} {Z : zz_Z} {q : Int32 × zz_S} {s : zz_S} (C : zz_Cx G l "OneBlanketModel" "leastEasy" prog_14_method_63_code 3 (some .int) 9 (some (.int q.1), zsh, q.2) Z) (h : f_M_leastEasy s = some q) : Z 0 [some (.ref 79), none, none] [] zsh s := by
  unfold f_M_leastEasy at h
  refine zz_aload_n (i := 0) (pc := 0) C rfl rfl d_M_leastEasy_0 ?_
  refine zz_sipush (pc := 1) C zks_479 d_M_leastEasy_1 ?_
  obtain ⟨q1, hq1, h⟩ := zz_bdE h
  refine zz_cVv (as := [.int (479 : Int32)]) (st := []) (pc := 4) C (zm_M_night hq1) zcv_M_night zsh_79 zl_12_323 (by omega) (Nat.le_of_ble_eq_true rfl) d_M_leastEasy_4 rfl rfl ?_
  refine zz_aload_n (i := 0) (pc := 7) C rfl rfl d_M_leastEasy_7 ?_
  refine zz_getR (pc := 8) C zl_12_100 zsh_79 rfl d_M_leastEasy_8 ?_
  refine zz_iconst (pc := 11) C zki_0 d_M_leastEasy_11 ?_
  refine zz_iald (pc := 12) C zkx_0 zsh_107 (by decide) d_M_leastEasy_12 ?_
  refine zz_istore_n (i := 1) (lo' := [some (.ref 79), some (.int (q1.1 107 0)), none]) (pc := 13) C rfl (Nat.le_of_ble_eq_true rfl) rfl rfl d_M_leastEasy_13 ?_
  refine zz_iconst (pc := 14) C zki_1 d_M_leastEasy_14 ?_
  refine zz_istore_n (i := 2) (lo' := [some (.ref 79), some (.int (q1.1 107 0)), some (.int (1 : Int32))]) (pc := 15) C rfl (Nat.le_of_ble_eq_true rfl) rfl rfl d_M_leastEasy_15 ?_
  exact zf_M_leastEasy_L16 C zF (q1.1 107 0) (1 : Int32) q1 h
theorem zm_M_leastEasy {G : zz_G} {l : Launch} {s : zz_S} {q : Int32 × zz_S} (h : f_M_leastEasy s = some q) : zz_M G l 9 y_M_leastEasy prog_14_method_63_code 3 (some .int) [.ref 79] zsh s (some (.int q.1), zsh, q.2) :=
  zz_M.intro (by decide) (Nat.le_of_ble_eq_true rfl) (Nat.le_refl _) (Nat.le_refl _) (fun Z C => zf_M_leastEasy C h)
theorem d_M_in_0 : decode prog_14_method_3_code 0 = .ok (.iload_n 0, 1) := by decide +kernel
theorem d_M_in_1 : decode prog_14_method_3_code 1 = .ok (.iload_n 1, 1) := by decide +kernel
theorem d_M_in_2 : decode prog_14_method_3_code 2 = .ok (.if_icmp .lt (12), 3) := by decide +kernel
theorem d_M_in_5 : decode prog_14_method_3_code 5 = .ok (.iload_n 0, 1) := by decide +kernel
theorem d_M_in_6 : decode prog_14_method_3_code 6 = .ok (.iload_n 2, 1) := by decide +kernel
theorem d_M_in_7 : decode prog_14_method_3_code 7 = .ok (.if_icmp .gt (7), 3) := by decide +kernel
theorem d_M_in_10 : decode prog_14_method_3_code 10 = .ok (.iconst 1, 1) := by decide +kernel
theorem d_M_in_11 : decode prog_14_method_3_code 11 = .ok (.goto (4), 3) := by decide +kernel
theorem d_M_in_14 : decode prog_14_method_3_code 14 = .ok (.iconst 0, 1) := by decide +kernel
theorem d_M_in_15 : decode prog_14_method_3_code 15 = .ok (.ireturn, 1) := by decide +kernel
set_option maxHeartbeats 4000000 in
set_option maxRecDepth 100000 in
theorem zf_M_in {G : zz_G} {l : Launch} {Z : zz_Z} {sh : List zz_Sh} {q : Int32} {s : zz_S} (C : zz_Cx G l "OneBlanketModel" "in" prog_14_method_3_code 3 (some .boolean) 2 (some (.int q), sh, s) Z) (a0 : Int32) (a1 : Int32) (a2 : Int32) (h : f_M_in a0 a1 a2 = q) : Z 0 [some (.int a0), some (.int a1), some (.int a2)] [] sh s := by
  unfold f_M_in at h
  refine zz_iload_n (i := 0) (pc := 0) C rfl rfl d_M_in_0 ?_
  refine zz_iload_n (i := 1) (pc := 1) C rfl rfl d_M_in_1 ?_
  refine zz_icmp_lt (tgt := 14) (pc := 2) C (by decide) d_M_in_2 (fun hc1 => ?_) (fun hc1 => ?_)
  · rw [if_pos hc1] at h
    refine zz_iconst (pc := 14) C zki_0 d_M_in_14 ?_
    subst h
    exact zz_ret (pc := 15) C (v := some (.int (0 : Int32))) d_M_in_15 (Or.inl ⟨_, _, rfl, rfl, rfl, (by decide)⟩) rfl
  · rw [if_neg hc1] at h
    refine zz_iload_n (i := 0) (pc := 5) C rfl rfl d_M_in_5 ?_
    refine zz_iload_n (i := 2) (pc := 6) C rfl rfl d_M_in_6 ?_
    refine zz_icmp_gt (tgt := 14) (pc := 7) C (by decide) d_M_in_7 (fun hc2 => ?_) (fun hc2 => ?_)
    · rw [if_pos hc2] at h
      refine zz_iconst (pc := 14) C zki_0 d_M_in_14 ?_
      subst h
      exact zz_ret (pc := 15) C (v := some (.int (0 : Int32))) d_M_in_15 (Or.inl ⟨_, _, rfl, rfl, rfl, (by decide)⟩) rfl
    · rw [if_neg hc2] at h
      refine zz_iconst (pc := 10) C zki_1 d_M_in_10 ?_
      refine zz_goto (tgt := 15) (pc := 11) C (by decide) d_M_in_11 ?_
      subst h
      exact zz_ret (pc := 15) C (v := some (.int (1 : Int32))) d_M_in_15 (Or.inl ⟨_, _, rfl, rfl, rfl, (by decide)⟩) rfl
theorem zm_M_in {G : zz_G} {l : Launch} {sh : List zz_Sh} {s : zz_S} {q : Int32} {a0 : Int32} {a1 : Int32} {a2 : Int32} (h : f_M_in a0 a1 a2 = q) : zz_M G l 2 y_M_in prog_14_method_3_code 3 (some .boolean) [.int a0, .int a1, .int a2] sh s (some (.int q), sh, s) :=
  zz_M.intro (by decide) (Nat.le_of_ble_eq_true rfl) (Nat.le_refl _) (Nat.le_refl _) (fun Z C => zf_M_in C a0 a1 a2 h)
theorem d_M_isOrder_0 : decode prog_14_method_66_code 0 = .ok (.iload_n 1, 1) := by decide +kernel
theorem d_M_isOrder_1 : decode prog_14_method_66_code 1 = .ok (.istore_n 2, 1) := by decide +kernel
theorem d_M_isOrder_2 : decode prog_14_method_66_code 2 = .ok (.iconst 0, 1) := by decide +kernel
theorem d_M_isOrder_3 : decode prog_14_method_66_code 3 = .ok (.istore_n 3, 1) := by decide +kernel
theorem d_M_isOrder_4 : decode prog_14_method_66_code 4 = .ok (.aload_n 0, 1) := by decide +kernel
theorem d_M_isOrder_5 : decode prog_14_method_66_code 5 = .ok (.getfield 155, 3) := by decide +kernel
theorem d_M_isOrder_8 : decode prog_14_method_66_code 8 = .ok (.iconst 1, 1) := by decide +kernel
theorem d_M_isOrder_9 : decode prog_14_method_66_code 9 = .ok (.isub, 1) := by decide +kernel
theorem d_M_isOrder_10 : decode prog_14_method_66_code 10 = .ok (.istore 4, 2) := by decide +kernel
theorem d_M_isOrder_12 : decode prog_14_method_66_code 12 = .ok (.iload 4, 2) := by decide +kernel
theorem d_M_isOrder_14 : decode prog_14_method_66_code 14 = .ok (.ifCond .lt (58), 3) := by decide +kernel
theorem d_M_isOrder_17 : decode prog_14_method_66_code 17 = .ok (.aload_n 0, 1) := by decide +kernel
theorem d_M_isOrder_18 : decode prog_14_method_66_code 18 = .ok (.getfield 130, 3) := by decide +kernel
theorem d_M_isOrder_21 : decode prog_14_method_66_code 21 = .ok (.iload 4, 2) := by decide +kernel
theorem d_M_isOrder_23 : decode prog_14_method_66_code 23 = .ok (.iload_n 2, 1) := by decide +kernel
theorem d_M_isOrder_24 : decode prog_14_method_66_code 24 = .ok (.aload_n 0, 1) := by decide +kernel
theorem d_M_isOrder_25 : decode prog_14_method_66_code 25 = .ok (.getfield 155, 3) := by decide +kernel
theorem d_M_isOrder_28 : decode prog_14_method_66_code 28 = .ok (.irem, 1) := by decide +kernel
theorem d_M_isOrder_29 : decode prog_14_method_66_code 29 = .ok (.iastore, 1) := by decide +kernel
theorem d_M_isOrder_30 : decode prog_14_method_66_code 30 = .ok (.iload_n 2, 1) := by decide +kernel
theorem d_M_isOrder_31 : decode prog_14_method_66_code 31 = .ok (.aload_n 0, 1) := by decide +kernel
theorem d_M_isOrder_32 : decode prog_14_method_66_code 32 = .ok (.getfield 155, 3) := by decide +kernel
theorem d_M_isOrder_35 : decode prog_14_method_66_code 35 = .ok (.idiv, 1) := by decide +kernel
theorem d_M_isOrder_36 : decode prog_14_method_66_code 36 = .ok (.istore_n 2, 1) := by decide +kernel
theorem d_M_isOrder_37 : decode prog_14_method_66_code 37 = .ok (.iload_n 3, 1) := by decide +kernel
theorem d_M_isOrder_38 : decode prog_14_method_66_code 38 = .ok (.aload_n 0, 1) := by decide +kernel
theorem d_M_isOrder_39 : decode prog_14_method_66_code 39 = .ok (.getfield 130, 3) := by decide +kernel
theorem d_M_isOrder_42 : decode prog_14_method_66_code 42 = .ok (.iload 4, 2) := by decide +kernel
theorem d_M_isOrder_44 : decode prog_14_method_66_code 44 = .ok (.iaload, 1) := by decide +kernel
theorem d_M_isOrder_45 : decode prog_14_method_66_code 45 = .ok (.ishr, 1) := by decide +kernel
theorem d_M_isOrder_46 : decode prog_14_method_66_code 46 = .ok (.iconst 1, 1) := by decide +kernel
theorem d_M_isOrder_47 : decode prog_14_method_66_code 47 = .ok (.iand, 1) := by decide +kernel
theorem d_M_isOrder_48 : decode prog_14_method_66_code 48 = .ok (.iconst 1, 1) := by decide +kernel
theorem d_M_isOrder_49 : decode prog_14_method_66_code 49 = .ok (.if_icmp .ne (5), 3) := by decide +kernel
theorem d_M_isOrder_52 : decode prog_14_method_66_code 52 = .ok (.iconst 0, 1) := by decide +kernel
theorem d_M_isOrder_53 : decode prog_14_method_66_code 53 = .ok (.ireturn, 1) := by decide +kernel
theorem d_M_isOrder_54 : decode prog_14_method_66_code 54 = .ok (.iload_n 3, 1) := by decide +kernel
theorem d_M_isOrder_55 : decode prog_14_method_66_code 55 = .ok (.iconst 1, 1) := by decide +kernel
theorem d_M_isOrder_56 : decode prog_14_method_66_code 56 = .ok (.aload_n 0, 1) := by decide +kernel
theorem d_M_isOrder_57 : decode prog_14_method_66_code 57 = .ok (.getfield 130, 3) := by decide +kernel
theorem d_M_isOrder_60 : decode prog_14_method_66_code 60 = .ok (.iload 4, 2) := by decide +kernel
theorem d_M_isOrder_62 : decode prog_14_method_66_code 62 = .ok (.iaload, 1) := by decide +kernel
theorem d_M_isOrder_63 : decode prog_14_method_66_code 63 = .ok (.ishl, 1) := by decide +kernel
theorem d_M_isOrder_64 : decode prog_14_method_66_code 64 = .ok (.ior, 1) := by decide +kernel
theorem d_M_isOrder_65 : decode prog_14_method_66_code 65 = .ok (.istore_n 3, 1) := by decide +kernel
theorem d_M_isOrder_66 : decode prog_14_method_66_code 66 = .ok (.iinc 4 (-1), 3) := by decide +kernel
theorem d_M_isOrder_69 : decode prog_14_method_66_code 69 = .ok (.goto (-57), 3) := by decide +kernel
theorem d_M_isOrder_72 : decode prog_14_method_66_code 72 = .ok (.iconst 1, 1) := by decide +kernel
theorem d_M_isOrder_73 : decode prog_14_method_66_code 73 = .ok (.ireturn, 1) := by decide +kernel
set_option maxHeartbeats 4000000 in
set_option maxRecDepth 100000 in
theorem zf_M_isOrder_L12 {G : zz_G} {l : Launch} {Z : zz_Z} {q : Int32 × zz_S} (C : zz_Cx G l "OneBlanketModel" "isOrder" prog_14_method_66_code 5 (some .boolean) 2 (some (.int q.1), zsh, q.2) Z) : ∀ (n : Nat) (v2 : Int32) (v3 : Int32) (v4 : Int32) (s : zz_S), f_M_isOrder_L12 n v2 v3 v4 s = some q → Z 12 [some (.ref 79), none, some (.int v2), some (.int v3), some (.int v4)] [] zsh s := by
  intro n
  induction n with
  | zero => intro v2 v3 v4 s h; rw [f_M_isOrder_L12] at h; cases h
  | succ n ih =>
  intro v2 v3 v4 s h
  rw [f_M_isOrder_L12] at h
  refine zz_iload (i := 4) (pc := 12) C rfl d_M_isOrder_12 ?_
  refine zz_if_lt (tgt := 72) (pc := 14) C (by decide) d_M_isOrder_14 (fun hc1 => ?_) (fun hc1 => ?_)
  · rw [if_pos hc1] at h
    refine zz_iconst (pc := 72) C zki_1 d_M_isOrder_72 ?_
    replace h := Option.some.inj h
    subst h
    exact zz_ret (pc := 73) C (v := some (.int (1 : Int32))) d_M_isOrder_73 (Or.inl ⟨_, _, rfl, rfl, rfl, (by decide)⟩) rfl
  · rw [if_neg hc1] at h
    refine zz_aload_n (i := 0) (pc := 17) C rfl rfl d_M_isOrder_17 ?_
    refine zz_getR (pc := 18) C zl_12_130 zsh_79 rfl d_M_isOrder_18 ?_
    refine zz_iload (i := 4) (pc := 21) C rfl d_M_isOrder_21 ?_
    refine zz_iload_n (i := 2) (pc := 23) C rfl rfl d_M_isOrder_23 ?_
    refine zz_aload_n (i := 0) (pc := 24) C rfl rfl d_M_isOrder_24 ?_
    refine zz_getI (pc := 25) C zl_12_155 zsh_79 rfl d_M_isOrder_25 ?_
    obtain ⟨hy2, h⟩ := zz_ckN h
    refine zz_irem (pc := 28) C hy2 d_M_isOrder_28 ?_
    obtain ⟨hi3, h⟩ := zz_ckE h
    refine zz_iast (pc := 29) C rfl zsh_116 hi3 d_M_isOrder_29 ?_
    refine zz_iload_n (i := 2) (pc := 30) C rfl rfl d_M_isOrder_30 ?_
    refine zz_aload_n (i := 0) (pc := 31) C rfl rfl d_M_isOrder_31 ?_
    refine zz_getIv (v := (s.1 79 2)) (pc := 32) C zl_12_155 zsh_79 rfl rfl d_M_isOrder_32 ?_
    obtain ⟨hy4, h⟩ := zz_ckN h
    refine zz_idiv (pc := 35) C hy4 d_M_isOrder_35 ?_
    refine zz_istore_n (i := 2) (lo' := [some (.ref 79), none, some (.int (v2 / (s.1 79 2))), some (.int v3), some (.int v4)]) (pc := 36) C rfl (Nat.le_of_ble_eq_true rfl) rfl rfl d_M_isOrder_36 ?_
    refine zz_iload_n (i := 3) (pc := 37) C rfl rfl d_M_isOrder_37 ?_
    refine zz_aload_n (i := 0) (pc := 38) C rfl rfl d_M_isOrder_38 ?_
    refine zz_getR (pc := 39) C zl_12_130 zsh_79 rfl d_M_isOrder_39 ?_
    refine zz_iload (i := 4) (pc := 42) C rfl d_M_isOrder_42 ?_
    refine zz_iald (pc := 44) C rfl zsh_116 hi3 d_M_isOrder_44 ?_
    refine zz_ishr (pc := 45) C d_M_isOrder_45 ?_
    refine zz_iconst (pc := 46) C zki_1 d_M_isOrder_46 ?_
    refine zz_iand (pc := 47) C d_M_isOrder_47 ?_
    refine zz_iconst (pc := 48) C zki_1 d_M_isOrder_48 ?_
    refine zz_icmp_ne (tgt := 54) (pc := 49) C (by decide) d_M_isOrder_49 (fun hc5 => ?_) (fun hc5 => ?_)
    · rw [if_neg hc5] at h
      refine zz_iload_n (i := 3) (pc := 54) C rfl rfl d_M_isOrder_54 ?_
      refine zz_iconst (pc := 55) C zki_1 d_M_isOrder_55 ?_
      refine zz_aload_n (i := 0) (pc := 56) C rfl rfl d_M_isOrder_56 ?_
      refine zz_getR (pc := 57) C zl_12_130 zsh_79 rfl d_M_isOrder_57 ?_
      refine zz_iload (i := 4) (pc := 60) C rfl d_M_isOrder_60 ?_
      refine zz_iald (pc := 62) C rfl zsh_116 hi3 d_M_isOrder_62 ?_
      refine zz_ishl (pc := 63) C d_M_isOrder_63 ?_
      refine zz_ior (pc := 64) C d_M_isOrder_64 ?_
      refine zz_istore_n (i := 3) (lo' := [some (.ref 79), none, some (.int (v2 / (s.1 79 2))), some (.int (v3 ||| ((1 : Int32) <<< (((zz_w s 116 (v4.toNatClampNeg) (v2 % (s.1 79 2))).1 116 (v4.toNatClampNeg)) &&& 31)))), some (.int v4)]) (pc := 65) C rfl (Nat.le_of_ble_eq_true rfl) rfl rfl d_M_isOrder_65 ?_
      refine zz_iinc (lo' := [some (.ref 79), none, some (.int (v2 / (s.1 79 2))), some (.int (v3 ||| ((1 : Int32) <<< (((zz_w s 116 (v4.toNatClampNeg) (v2 % (s.1 79 2))).1 116 (v4.toNatClampNeg)) &&& 31)))), some (.int (v4 + (-1 : Int32)))]) (pc := 66) C rfl (zz_inc zki_m1) rfl rfl d_M_isOrder_66 ?_
      refine zz_goto (tgt := 12) (pc := 69) C (by decide) d_M_isOrder_69 ?_
      exact ih (v2 / (s.1 79 2)) (v3 ||| ((1 : Int32) <<< (((zz_w s 116 (v4.toNatClampNeg) (v2 % (s.1 79 2))).1 116 (v4.toNatClampNeg)) &&& 31))) (v4 + (-1 : Int32)) (zz_w s 116 (v4.toNatClampNeg) (v2 % (s.1 79 2))) h
    · rw [if_pos hc5] at h
      refine zz_iconst (pc := 52) C zki_0 d_M_isOrder_52 ?_
      replace h := Option.some.inj h
      subst h
      exact zz_ret (pc := 53) C (v := some (.int (0 : Int32))) d_M_isOrder_53 (Or.inl ⟨_, _, rfl, rfl, rfl, (by decide)⟩) rfl
set_option maxHeartbeats 4000000 in
set_option maxRecDepth 100000 in
theorem zf_M_isOrder {G : zz_G} {l : Launch} {Z : zz_Z} {q : Int32 × zz_S} {s : zz_S} (C : zz_Cx G l "OneBlanketModel" "isOrder" prog_14_method_66_code 5 (some .boolean) 2 (some (.int q.1), zsh, q.2) Z) (a1 : Int32) (h : f_M_isOrder a1 s = some q) : Z 0 [some (.ref 79), some (.int a1), none, none, none] [] zsh s := by
  unfold f_M_isOrder at h
  refine zz_iload_n (i := 1) (pc := 0) C rfl rfl d_M_isOrder_0 ?_
  refine zz_istore_n (i := 2) (lo' := [some (.ref 79), some (.int a1), some (.int a1), none, none]) (pc := 1) C rfl (Nat.le_of_ble_eq_true rfl) rfl rfl d_M_isOrder_1 ?_
  refine zz_iconst (pc := 2) C zki_0 d_M_isOrder_2 ?_
  refine zz_istore_n (i := 3) (lo' := [some (.ref 79), some (.int a1), some (.int a1), some (.int (0 : Int32)), none]) (pc := 3) C rfl (Nat.le_of_ble_eq_true rfl) rfl rfl d_M_isOrder_3 ?_
  refine zz_aload_n (i := 0) (pc := 4) C rfl rfl d_M_isOrder_4 ?_
  refine zz_getI (pc := 5) C zl_12_155 zsh_79 rfl d_M_isOrder_5 ?_
  refine zz_iconst (pc := 8) C zki_1 d_M_isOrder_8 ?_
  refine zz_isub (pc := 9) C d_M_isOrder_9 ?_
  refine zz_istore (i := 4) (lo' := [some (.ref 79), some (.int a1), some (.int a1), some (.int (0 : Int32)), some (.int ((s.1 79 2) - (1 : Int32)))]) (pc := 10) C (Nat.le_of_ble_eq_true rfl) rfl rfl d_M_isOrder_10 ?_
  refine zz_fg C [true, false, true, true, true] rfl rfl ?_
  exact zf_M_isOrder_L12 C zF a1 (0 : Int32) ((s.1 79 2) - (1 : Int32)) s h
theorem zm_M_isOrder {G : zz_G} {l : Launch} {s : zz_S} {q : Int32 × zz_S} {a1 : Int32} (h : f_M_isOrder a1 s = some q) : zz_M G l 2 y_M_isOrder prog_14_method_66_code 5 (some .boolean) [.ref 79, .int a1] zsh s (some (.int q.1), zsh, q.2) :=
  zz_M.intro (by decide) (Nat.le_of_ble_eq_true rfl) (Nat.le_refl _) (Nat.le_refl _) (fun Z C => zf_M_isOrder C a1 h)
theorem d_M_across_0 : decode prog_14_method_67_code 0 = .ok (.iload_n 1, 1) := by decide +kernel
theorem d_M_across_1 : decode prog_14_method_67_code 1 = .ok (.iconst 0, 1) := by decide +kernel
theorem d_M_across_2 : decode prog_14_method_67_code 2 = .ok (.iconst 1, 1) := by decide +kernel
theorem d_M_across_3 : decode prog_14_method_67_code 3 = .ok (.invokestatic 158, 3) := by decide +kernel
theorem d_M_across_6 : decode prog_14_method_67_code 6 = .ok (.ifCond .ne (5), 3) := by decide +kernel
theorem d_M_across_9 : decode prog_14_method_67_code 9 = .ok (.iconst (-1), 1) := by decide +kernel
theorem d_M_across_10 : decode prog_14_method_67_code 10 = .ok (.ireturn, 1) := by decide +kernel
theorem d_M_across_11 : decode prog_14_method_67_code 11 = .ok (.aload_n 0, 1) := by decide +kernel
theorem d_M_across_12 : decode prog_14_method_67_code 12 = .ok (.getfield 155, 3) := by decide +kernel
theorem d_M_across_15 : decode prog_14_method_67_code 15 = .ok (.ifCond .ne (6), 3) := by decide +kernel
theorem d_M_across_18 : decode prog_14_method_67_code 18 = .ok (.bipush (-5), 2) := by decide +kernel
theorem d_M_across_20 : decode prog_14_method_67_code 20 = .ok (.ireturn, 1) := by decide +kernel
theorem d_M_across_21 : decode prog_14_method_67_code 21 = .ok (.iconst 0, 1) := by decide +kernel
theorem d_M_across_22 : decode prog_14_method_67_code 22 = .ok (.istore_n 2, 1) := by decide +kernel
theorem d_M_across_23 : decode prog_14_method_67_code 23 = .ok (.iload_n 2, 1) := by decide +kernel
theorem d_M_across_24 : decode prog_14_method_67_code 24 = .ok (.aload_n 0, 1) := by decide +kernel
theorem d_M_across_25 : decode prog_14_method_67_code 25 = .ok (.getfield 155, 3) := by decide +kernel
theorem d_M_across_28 : decode prog_14_method_67_code 28 = .ok (.if_icmp .ge (21), 3) := by decide +kernel
theorem d_M_across_31 : decode prog_14_method_67_code 31 = .ok (.aload_n 0, 1) := by decide +kernel
theorem d_M_across_32 : decode prog_14_method_67_code 32 = .ok (.getfield 127, 3) := by decide +kernel
theorem d_M_across_35 : decode prog_14_method_67_code 35 = .ok (.iload_n 2, 1) := by decide +kernel
theorem d_M_across_36 : decode prog_14_method_67_code 36 = .ok (.aload_n 0, 1) := by decide +kernel
theorem d_M_across_37 : decode prog_14_method_67_code 37 = .ok (.getfield 13, 3) := by decide +kernel
theorem d_M_across_40 : decode prog_14_method_67_code 40 = .ok (.iload_n 2, 1) := by decide +kernel
theorem d_M_across_41 : decode prog_14_method_67_code 41 = .ok (.iaload, 1) := by decide +kernel
theorem d_M_across_42 : decode prog_14_method_67_code 42 = .ok (.iastore, 1) := by decide +kernel
theorem d_M_across_43 : decode prog_14_method_67_code 43 = .ok (.iinc 2 (1), 3) := by decide +kernel
theorem d_M_across_46 : decode prog_14_method_67_code 46 = .ok (.goto (-23), 3) := by decide +kernel
theorem d_M_across_49 : decode prog_14_method_67_code 49 = .ok (.iconst 1, 1) := by decide +kernel
theorem d_M_across_50 : decode prog_14_method_67_code 50 = .ok (.istore_n 2, 1) := by decide +kernel
theorem d_M_across_51 : decode prog_14_method_67_code 51 = .ok (.iconst 0, 1) := by decide +kernel
theorem d_M_across_52 : decode prog_14_method_67_code 52 = .ok (.istore_n 3, 1) := by decide +kernel
theorem d_M_across_53 : decode prog_14_method_67_code 53 = .ok (.iload_n 3, 1) := by decide +kernel
theorem d_M_across_54 : decode prog_14_method_67_code 54 = .ok (.aload_n 0, 1) := by decide +kernel
theorem d_M_across_55 : decode prog_14_method_67_code 55 = .ok (.getfield 155, 3) := by decide +kernel
theorem d_M_across_58 : decode prog_14_method_67_code 58 = .ok (.if_icmp .ge (16), 3) := by decide +kernel
theorem d_M_across_61 : decode prog_14_method_67_code 61 = .ok (.iload_n 2, 1) := by decide +kernel
theorem d_M_across_62 : decode prog_14_method_67_code 62 = .ok (.aload_n 0, 1) := by decide +kernel
theorem d_M_across_63 : decode prog_14_method_67_code 63 = .ok (.getfield 155, 3) := by decide +kernel
theorem d_M_across_66 : decode prog_14_method_67_code 66 = .ok (.imul, 1) := by decide +kernel
theorem d_M_across_67 : decode prog_14_method_67_code 67 = .ok (.istore_n 2, 1) := by decide +kernel
theorem d_M_across_68 : decode prog_14_method_67_code 68 = .ok (.iinc 3 (1), 3) := by decide +kernel
theorem d_M_across_71 : decode prog_14_method_67_code 71 = .ok (.goto (-18), 3) := by decide +kernel
theorem d_M_across_74 : decode prog_14_method_67_code 74 = .ok (.iconst 0, 1) := by decide +kernel
theorem d_M_across_75 : decode prog_14_method_67_code 75 = .ok (.istore_n 3, 1) := by decide +kernel
theorem d_M_across_76 : decode prog_14_method_67_code 76 = .ok (.iconst (-1), 1) := by decide +kernel
theorem d_M_across_77 : decode prog_14_method_67_code 77 = .ok (.istore 4, 2) := by decide +kernel
theorem d_M_across_79 : decode prog_14_method_67_code 79 = .ok (.iconst 0, 1) := by decide +kernel
theorem d_M_across_80 : decode prog_14_method_67_code 80 = .ok (.istore 5, 2) := by decide +kernel
theorem d_M_across_82 : decode prog_14_method_67_code 82 = .ok (.iload 5, 2) := by decide +kernel
theorem d_M_across_84 : decode prog_14_method_67_code 84 = .ok (.iload_n 2, 1) := by decide +kernel
theorem d_M_across_85 : decode prog_14_method_67_code 85 = .ok (.if_icmp .ge (142), 3) := by decide +kernel
theorem d_M_across_88 : decode prog_14_method_67_code 88 = .ok (.aload_n 0, 1) := by decide +kernel
theorem d_M_across_89 : decode prog_14_method_67_code 89 = .ok (.iload 5, 2) := by decide +kernel
theorem d_M_across_91 : decode prog_14_method_67_code 91 = .ok (.invokevirtual 335, 3) := by decide +kernel
theorem d_M_across_94 : decode prog_14_method_67_code 94 = .ok (.ifCond .ne (6), 3) := by decide +kernel
theorem d_M_across_97 : decode prog_14_method_67_code 97 = .ok (.goto (124), 3) := by decide +kernel
theorem d_M_across_100 : decode prog_14_method_67_code 100 = .ok (.iconst 0, 1) := by decide +kernel
theorem d_M_across_101 : decode prog_14_method_67_code 101 = .ok (.istore 6, 2) := by decide +kernel
theorem d_M_across_103 : decode prog_14_method_67_code 103 = .ok (.iconst 0, 1) := by decide +kernel
theorem d_M_across_104 : decode prog_14_method_67_code 104 = .ok (.istore 7, 2) := by decide +kernel
theorem d_M_across_106 : decode prog_14_method_67_code 106 = .ok (.iconst 0, 1) := by decide +kernel
theorem d_M_across_107 : decode prog_14_method_67_code 107 = .ok (.istore 8, 2) := by decide +kernel
theorem d_M_across_109 : decode prog_14_method_67_code 109 = .ok (.iload 8, 2) := by decide +kernel
theorem d_M_across_111 : decode prog_14_method_67_code 111 = .ok (.aload_n 0, 1) := by decide +kernel
theorem d_M_across_112 : decode prog_14_method_67_code 112 = .ok (.getfield 155, 3) := by decide +kernel
theorem d_M_across_115 : decode prog_14_method_67_code 115 = .ok (.if_icmp .ge (83), 3) := by decide +kernel
theorem d_M_across_118 : decode prog_14_method_67_code 118 = .ok (.aload_n 0, 1) := by decide +kernel
theorem d_M_across_119 : decode prog_14_method_67_code 119 = .ok (.getfield 130, 3) := by decide +kernel
theorem d_M_across_122 : decode prog_14_method_67_code 122 = .ok (.iload 8, 2) := by decide +kernel
theorem d_M_across_124 : decode prog_14_method_67_code 124 = .ok (.iaload, 1) := by decide +kernel
theorem d_M_across_125 : decode prog_14_method_67_code 125 = .ok (.istore 9, 2) := by decide +kernel
theorem d_M_across_127 : decode prog_14_method_67_code 127 = .ok (.bipush (10), 2) := by decide +kernel
theorem d_M_across_129 : decode prog_14_method_67_code 129 = .ok (.iload 6, 2) := by decide +kernel
theorem d_M_across_131 : decode prog_14_method_67_code 131 = .ok (.imul, 1) := by decide +kernel
theorem d_M_across_132 : decode prog_14_method_67_code 132 = .ok (.iload 9, 2) := by decide +kernel
theorem d_M_across_134 : decode prog_14_method_67_code 134 = .ok (.iadd, 1) := by decide +kernel
theorem d_M_across_135 : decode prog_14_method_67_code 135 = .ok (.iconst 1, 1) := by decide +kernel
theorem d_M_across_136 : decode prog_14_method_67_code 136 = .ok (.iadd, 1) := by decide +kernel
theorem d_M_across_137 : decode prog_14_method_67_code 137 = .ok (.istore 6, 2) := by decide +kernel
theorem d_M_across_139 : decode prog_14_method_67_code 139 = .ok (.aload_n 0, 1) := by decide +kernel
theorem d_M_across_140 : decode prog_14_method_67_code 140 = .ok (.getfield 13, 3) := by decide +kernel
theorem d_M_across_143 : decode prog_14_method_67_code 143 = .ok (.iload 9, 2) := by decide +kernel
theorem d_M_across_145 : decode prog_14_method_67_code 145 = .ok (.iload 7, 2) := by decide +kernel
theorem d_M_across_147 : decode prog_14_method_67_code 147 = .ok (.aload_n 0, 1) := by decide +kernel
theorem d_M_across_148 : decode prog_14_method_67_code 148 = .ok (.getfield 7, 3) := by decide +kernel
theorem d_M_across_151 : decode prog_14_method_67_code 151 = .ok (.aload_n 0, 1) := by decide +kernel
theorem d_M_across_152 : decode prog_14_method_67_code 152 = .ok (.getfield 17, 3) := by decide +kernel
theorem d_M_across_155 : decode prog_14_method_67_code 155 = .ok (.iload 9, 2) := by decide +kernel
theorem d_M_across_157 : decode prog_14_method_67_code 157 = .ok (.iaload, 1) := by decide +kernel
theorem d_M_across_158 : decode prog_14_method_67_code 158 = .ok (.isub, 1) := by decide +kernel
theorem d_M_across_159 : decode prog_14_method_67_code 159 = .ok (.if_icmp .ge (8), 3) := by decide +kernel
theorem d_M_across_162 : decode prog_14_method_67_code 162 = .ok (.iload 7, 2) := by decide +kernel
theorem d_M_across_164 : decode prog_14_method_67_code 164 = .ok (.goto (15), 3) := by decide +kernel
theorem d_M_across_167 : decode prog_14_method_67_code 167 = .ok (.aload_n 0, 1) := by decide +kernel
theorem d_M_across_168 : decode prog_14_method_67_code 168 = .ok (.getfield 7, 3) := by decide +kernel
theorem d_M_across_171 : decode prog_14_method_67_code 171 = .ok (.aload_n 0, 1) := by decide +kernel
theorem d_M_across_172 : decode prog_14_method_67_code 172 = .ok (.getfield 17, 3) := by decide +kernel
theorem d_M_across_175 : decode prog_14_method_67_code 175 = .ok (.iload 9, 2) := by decide +kernel
theorem d_M_across_177 : decode prog_14_method_67_code 177 = .ok (.iaload, 1) := by decide +kernel
theorem d_M_across_178 : decode prog_14_method_67_code 178 = .ok (.isub, 1) := by decide +kernel
theorem d_M_across_179 : decode prog_14_method_67_code 179 = .ok (.iastore, 1) := by decide +kernel
theorem d_M_across_180 : decode prog_14_method_67_code 180 = .ok (.iload 7, 2) := by decide +kernel
theorem d_M_across_182 : decode prog_14_method_67_code 182 = .ok (.aload_n 0, 1) := by decide +kernel
theorem d_M_across_183 : decode prog_14_method_67_code 183 = .ok (.getfield 17, 3) := by decide +kernel
theorem d_M_across_186 : decode prog_14_method_67_code 186 = .ok (.iload 9, 2) := by decide +kernel
theorem d_M_across_188 : decode prog_14_method_67_code 188 = .ok (.iaload, 1) := by decide +kernel
theorem d_M_across_189 : decode prog_14_method_67_code 189 = .ok (.iadd, 1) := by decide +kernel
theorem d_M_across_190 : decode prog_14_method_67_code 190 = .ok (.istore 7, 2) := by decide +kernel
theorem d_M_across_192 : decode prog_14_method_67_code 192 = .ok (.iinc 8 (1), 3) := by decide +kernel
theorem d_M_across_195 : decode prog_14_method_67_code 195 = .ok (.goto (-86), 3) := by decide +kernel
theorem d_M_across_198 : decode prog_14_method_67_code 198 = .ok (.aload_n 0, 1) := by decide +kernel
theorem d_M_across_199 : decode prog_14_method_67_code 199 = .ok (.invokevirtual 332, 3) := by decide +kernel
theorem d_M_across_202 : decode prog_14_method_67_code 202 = .ok (.istore 8, 2) := by decide +kernel
theorem d_M_across_204 : decode prog_14_method_67_code 204 = .ok (.iload 8, 2) := by decide +kernel
theorem d_M_across_206 : decode prog_14_method_67_code 206 = .ok (.iload 4, 2) := by decide +kernel
theorem d_M_across_208 : decode prog_14_method_67_code 208 = .ok (.if_icmp .gt (6), 3) := by decide +kernel
theorem d_M_across_211 : decode prog_14_method_67_code 211 = .ok (.goto (10), 3) := by decide +kernel
theorem d_M_across_214 : decode prog_14_method_67_code 214 = .ok (.iload 6, 2) := by decide +kernel
theorem d_M_across_216 : decode prog_14_method_67_code 216 = .ok (.istore_n 3, 1) := by decide +kernel
theorem d_M_across_217 : decode prog_14_method_67_code 217 = .ok (.iload 8, 2) := by decide +kernel
theorem d_M_across_219 : decode prog_14_method_67_code 219 = .ok (.istore 4, 2) := by decide +kernel
theorem d_M_across_221 : decode prog_14_method_67_code 221 = .ok (.iinc 5 (1), 3) := by decide +kernel
theorem d_M_across_224 : decode prog_14_method_67_code 224 = .ok (.goto (-142), 3) := by decide +kernel
theorem d_M_across_227 : decode prog_14_method_67_code 227 = .ok (.iconst 0, 1) := by decide +kernel
theorem d_M_across_228 : decode prog_14_method_67_code 228 = .ok (.istore 5, 2) := by decide +kernel
theorem d_M_across_230 : decode prog_14_method_67_code 230 = .ok (.iload 5, 2) := by decide +kernel
theorem d_M_across_232 : decode prog_14_method_67_code 232 = .ok (.aload_n 0, 1) := by decide +kernel
theorem d_M_across_233 : decode prog_14_method_67_code 233 = .ok (.getfield 155, 3) := by decide +kernel
theorem d_M_across_236 : decode prog_14_method_67_code 236 = .ok (.if_icmp .ge (23), 3) := by decide +kernel
theorem d_M_across_239 : decode prog_14_method_67_code 239 = .ok (.aload_n 0, 1) := by decide +kernel
theorem d_M_across_240 : decode prog_14_method_67_code 240 = .ok (.getfield 13, 3) := by decide +kernel
theorem d_M_across_243 : decode prog_14_method_67_code 243 = .ok (.iload 5, 2) := by decide +kernel
theorem d_M_across_245 : decode prog_14_method_67_code 245 = .ok (.aload_n 0, 1) := by decide +kernel
theorem d_M_across_246 : decode prog_14_method_67_code 246 = .ok (.getfield 127, 3) := by decide +kernel
theorem d_M_across_249 : decode prog_14_method_67_code 249 = .ok (.iload 5, 2) := by decide +kernel
theorem d_M_across_251 : decode prog_14_method_67_code 251 = .ok (.iaload, 1) := by decide +kernel
theorem d_M_across_252 : decode prog_14_method_67_code 252 = .ok (.iastore, 1) := by decide +kernel
theorem d_M_across_253 : decode prog_14_method_67_code 253 = .ok (.iinc 5 (1), 3) := by decide +kernel
theorem d_M_across_256 : decode prog_14_method_67_code 256 = .ok (.goto (-26), 3) := by decide +kernel
theorem d_M_across_259 : decode prog_14_method_67_code 259 = .ok (.iload_n 1, 1) := by decide +kernel
theorem d_M_across_260 : decode prog_14_method_67_code 260 = .ok (.ifCond .ne (7), 3) := by decide +kernel
theorem d_M_across_263 : decode prog_14_method_67_code 263 = .ok (.iload_n 3, 1) := by decide +kernel
theorem d_M_across_264 : decode prog_14_method_67_code 264 = .ok (.goto (5), 3) := by decide +kernel
theorem d_M_across_267 : decode prog_14_method_67_code 267 = .ok (.iload 4, 2) := by decide +kernel
theorem d_M_across_269 : decode prog_14_method_67_code 269 = .ok (.ireturn, 1) := by decide +kernel
set_option maxHeartbeats 4000000 in
set_option maxRecDepth 100000 in
theorem zf_M_across_L230 {G : zz_G} {l : Launch} {Z : zz_Z} {q : Int32 × zz_S} (C : zz_Cx G l "OneBlanketModel" "across" prog_14_method_67_code 10 (some .int) 10 (some (.int q.1), zsh, q.2) Z) : ∀ (n : Nat) (v1 : Int32) (v3 : Int32) (v4 : Int32) (v5 : Int32) (s : zz_S), f_M_across_L230 n v1 v3 v4 v5 s = some q → Z 230 [some (.ref 79), some (.int v1), none, some (.int v3), some (.int v4), some (.int v5), none, none, none, none] [] zsh s := by
  intro n
  induction n with
  | zero => intro v1 v3 v4 v5 s h; rw [f_M_across_L230] at h; cases h
  | succ n ih =>
  intro v1 v3 v4 v5 s h
  rw [f_M_across_L230] at h
  refine zz_iload (i := 5) (pc := 230) C rfl d_M_across_230 ?_
  refine zz_aload_n (i := 0) (pc := 232) C rfl rfl d_M_across_232 ?_
  refine zz_getI (pc := 233) C zl_12_155 zsh_79 rfl d_M_across_233 ?_
  refine zz_icmp_ge (tgt := 259) (pc := 236) C (by decide) d_M_across_236 (fun hc6 => ?_) (fun hc6 => ?_)
  · rw [if_pos hc6] at h
    refine zz_iload_n (i := 1) (pc := 259) C rfl rfl d_M_across_259 ?_
    refine zz_if_ne (tgt := 267) (pc := 260) C (by decide) d_M_across_260 (fun hc7 => ?_) (fun hc7 => ?_)
    · rw [if_neg hc7] at h
      refine zz_iload (i := 4) (pc := 267) C rfl d_M_across_267 ?_
      replace h := Option.some.inj h
      subst h
      exact zz_ret (pc := 269) C (v := some (.int v4)) d_M_across_269 (Or.inl ⟨_, _, rfl, rfl, rfl, rfl⟩) rfl
    · rw [if_pos hc7] at h
      refine zz_iload_n (i := 3) (pc := 263) C rfl rfl d_M_across_263 ?_
      refine zz_goto (tgt := 269) (pc := 264) C (by decide) d_M_across_264 ?_
      replace h := Option.some.inj h
      subst h
      exact zz_ret (pc := 269) C (v := some (.int v3)) d_M_across_269 (Or.inl ⟨_, _, rfl, rfl, rfl, rfl⟩) rfl
  · rw [if_neg hc6] at h
    refine zz_aload_n (i := 0) (pc := 239) C rfl rfl d_M_across_239 ?_
    refine zz_getR (pc := 240) C zl_12_13 zsh_79 rfl d_M_across_240 ?_
    refine zz_iload (i := 5) (pc := 243) C rfl d_M_across_243 ?_
    refine zz_aload_n (i := 0) (pc := 245) C rfl rfl d_M_across_245 ?_
    refine zz_getR (pc := 246) C zl_12_127 zsh_79 rfl d_M_across_246 ?_
    refine zz_iload (i := 5) (pc := 249) C rfl d_M_across_249 ?_
    obtain ⟨hi8, h⟩ := zz_ckE h
    refine zz_iald (pc := 251) C rfl zsh_115 hi8 d_M_across_251 ?_
    refine zz_iast (pc := 252) C rfl zsh_80 hi8 d_M_across_252 ?_
    refine zz_iinc (lo' := [some (.ref 79), some (.int v1), none, some (.int v3), some (.int v4), some (.int (v5 + (1 : Int32))), none, none, none, none]) (pc := 253) C rfl (zz_inc zki_1) rfl rfl d_M_across_253 ?_
    refine zz_goto (tgt := 230) (pc := 256) C (by decide) d_M_across_256 ?_
    exact ih v1 v3 v4 (v5 + (1 : Int32)) (zz_w s 80 (v5.toNatClampNeg) (s.1 115 (v5.toNatClampNeg))) h
set_option maxHeartbeats 4000000 in
set_option maxRecDepth 100000 in
theorem zf_M_across_J179 {G : zz_G} {l : Launch} {Z : zz_Z} {q : Int32 × zz_S} {s : zz_S} (C : zz_Cx G l "OneBlanketModel" "across" prog_14_method_67_code 10 (some .int) 10 (some (.int q.1), zsh, q.2) Z) (K82 : Int32 → Int32 → Int32 → Int32 → Int32 → zz_S → Option (Int32 × zz_S)) (hK82 : ∀ (v1 : Int32) (v2 : Int32) (v3 : Int32) (v4 : Int32) (v5 : Int32) (s : zz_S), K82 v1 v2 v3 v4 v5 s = some q → Z 82 [some (.ref 79), some (.int v1), some (.int v2), some (.int v3), some (.int v4), some (.int v5), none, none, none, none] [] zsh s) (K109 : Int32 → Int32 → Int32 → Int32 → Int32 → Int32 → Int32 → Int32 → zz_S → Option (Int32 × zz_S)) (hK109 : ∀ (v1 : Int32) (v2 : Int32) (v3 : Int32) (v4 : Int32) (v5 : Int32) (v6 : Int32) (v7 : Int32) (v8 : Int32) (s : zz_S), K109 v1 v2 v3 v4 v5 v6 v7 v8 s = some q → Z 109 [some (.ref 79), some (.int v1), some (.int v2), some (.int v3), some (.int v4), some (.int v5), some (.int v6), some (.int v7), some (.int v8), none] [] zsh s) (v1 : Int32) (v2 : Int32) (v3 : Int32) (v4 : Int32) (v5 : Int32) (v6 : Int32) (v7 : Int32) (v8 : Int32) (v9 : Int32) (t1 : Int32) (t2 : Int32) (h : f_M_across_J179 K82 K109 v1 v2 v3 v4 v5 v6 v7 v8 v9 t1 t2 s = some q) : Z 179 [some (.ref 79), some (.int v1), some (.int v2), some (.int v3), some (.int v4), some (.int v5), some (.int v6), some (.int v7), some (.int v8), some (.int v9)] [.int t2, .int t1, .ref 80] zsh s := by
  unfold f_M_across_J179 at h
  obtain ⟨hi17, h⟩ := zz_ckE h
  refine zz_iast (pc := 179) C rfl zsh_80 hi17 d_M_across_179 ?_
  refine zz_iload (i := 7) (pc := 180) C rfl d_M_across_180 ?_
  refine zz_aload_n (i := 0) (pc := 182) C rfl rfl d_M_across_182 ?_
  refine zz_getR (pc := 183) C zl_12_17 zsh_79 rfl d_M_across_183 ?_
  refine zz_iload (i := 9) (pc := 186) C rfl d_M_across_186 ?_
  obtain ⟨hi18, h⟩ := zz_ckE h
  refine zz_ialdv (v := (s.1 81 (v9.toNatClampNeg))) (pc := 188) C rfl zsh_81 hi18 rfl d_M_across_188 ?_
  refine zz_iadd (pc := 189) C d_M_across_189 ?_
  refine zz_istore (i := 7) (lo' := [some (.ref 79), some (.int v1), some (.int v2), some (.int v3), some (.int v4), some (.int v5), some (.int v6), some (.int (v7 + (s.1 81 (v9.toNatClampNeg)))), some (.int v8), some (.int v9)]) (pc := 190) C (Nat.le_of_ble_eq_true rfl) rfl rfl d_M_across_190 ?_
  refine zz_iinc (lo' := [some (.ref 79), some (.int v1), some (.int v2), some (.int v3), some (.int v4), some (.int v5), some (.int v6), some (.int (v7 + (s.1 81 (v9.toNatClampNeg)))), some (.int (v8 + (1 : Int32))), some (.int v9)]) (pc := 192) C rfl (zz_inc zki_1) rfl rfl d_M_across_192 ?_
  refine zz_goto (tgt := 109) (pc := 195) C (by decide) d_M_across_195 ?_
  refine zz_fg C [true, true, true, true, true, true, true, true, true, false] rfl rfl ?_
  exact hK109 v1 v2 v3 v4 v5 v6 (v7 + (s.1 81 (v9.toNatClampNeg))) (v8 + (1 : Int32)) (zz_w s 80 (t1.toNatClampNeg) t2) h
set_option maxHeartbeats 4000000 in
set_option maxRecDepth 100000 in
theorem zf_M_across_L109 {G : zz_G} {l : Launch} {Z : zz_Z} {q : Int32 × zz_S} (C : zz_Cx G l "OneBlanketModel" "across" prog_14_method_67_code 10 (some .int) 10 (some (.int q.1), zsh, q.2) Z) (K82 : Int32 → Int32 → Int32 → Int32 → Int32 → zz_S → Option (Int32 × zz_S)) (hK82 : ∀ (v1 : Int32) (v2 : Int32) (v3 : Int32) (v4 : Int32) (v5 : Int32) (s : zz_S), K82 v1 v2 v3 v4 v5 s = some q → Z 82 [some (.ref 79), some (.int v1), some (.int v2), some (.int v3), some (.int v4), some (.int v5), none, none, none, none] [] zsh s) : ∀ (n : Nat) (v1 : Int32) (v2 : Int32) (v3 : Int32) (v4 : Int32) (v5 : Int32) (v6 : Int32) (v7 : Int32) (v8 : Int32) (s : zz_S), f_M_across_L109 K82 n v1 v2 v3 v4 v5 v6 v7 v8 s = some q → Z 109 [some (.ref 79), some (.int v1), some (.int v2), some (.int v3), some (.int v4), some (.int v5), some (.int v6), some (.int v7), some (.int v8), none] [] zsh s := by
  intro n
  induction n with
  | zero => intro v1 v2 v3 v4 v5 v6 v7 v8 s h; rw [f_M_across_L109] at h; cases h
  | succ n ih =>
  intro v1 v2 v3 v4 v5 v6 v7 v8 s h
  rw [f_M_across_L109] at h
  refine zz_iload (i := 8) (pc := 109) C rfl d_M_across_109 ?_
  refine zz_aload_n (i := 0) (pc := 111) C rfl rfl d_M_across_111 ?_
  refine zz_getI (pc := 112) C zl_12_155 zsh_79 rfl d_M_across_112 ?_
  refine zz_icmp_ge (tgt := 198) (pc := 115) C (by decide) d_M_across_115 (fun hc11 => ?_) (fun hc11 => ?_)
  · rw [if_pos hc11] at h
    refine zz_aload_n (i := 0) (pc := 198) C rfl rfl d_M_across_198 ?_
    obtain ⟨q12, hq12, h⟩ := zz_bdE h
    refine zz_cVi (as := []) (st := []) (pc := 199) C (zm_M_leastEasy hq12) zcv_M_leastEasy zsh_79 zl_12_332 (by omega) (Nat.le_of_ble_eq_true rfl) d_M_across_199 rfl rfl ?_
    refine zz_istore (i := 8) (lo' := [some (.ref 79), some (.int v1), some (.int v2), some (.int v3), some (.int v4), some (.int v5), some (.int v6), some (.int v7), some (.int q12.1), none]) (pc := 202) C (Nat.le_of_ble_eq_true rfl) rfl rfl d_M_across_202 ?_
    refine zz_iload (i := 8) (pc := 204) C rfl d_M_across_204 ?_
    refine zz_iload (i := 4) (pc := 206) C rfl d_M_across_206 ?_
    refine zz_icmp_gt (tgt := 214) (pc := 208) C (by decide) d_M_across_208 (fun hc13 => ?_) (fun hc13 => ?_)
    · rw [if_pos hc13] at h
      refine zz_iload (i := 6) (pc := 214) C rfl d_M_across_214 ?_
      refine zz_istore_n (i := 3) (lo' := [some (.ref 79), some (.int v1), some (.int v2), some (.int v6), some (.int v4), some (.int v5), some (.int v6), some (.int v7), some (.int q12.1), none]) (pc := 216) C rfl (Nat.le_of_ble_eq_true rfl) rfl rfl d_M_across_216 ?_
      refine zz_iload (i := 8) (pc := 217) C rfl d_M_across_217 ?_
      refine zz_istore (i := 4) (lo' := [some (.ref 79), some (.int v1), some (.int v2), some (.int v6), some (.int q12.1), some (.int v5), some (.int v6), some (.int v7), some (.int q12.1), none]) (pc := 219) C (Nat.le_of_ble_eq_true rfl) rfl rfl d_M_across_219 ?_
      refine zz_iinc (lo' := [some (.ref 79), some (.int v1), some (.int v2), some (.int v6), some (.int q12.1), some (.int (v5 + (1 : Int32))), some (.int v6), some (.int v7), some (.int q12.1), none]) (pc := 221) C rfl (zz_inc zki_1) rfl rfl d_M_across_221 ?_
      refine zz_goto (tgt := 82) (pc := 224) C (by decide) d_M_across_224 ?_
      refine zz_fg C [true, true, true, true, true, true, false, false, false, false] rfl rfl ?_
      exact hK82 v1 v2 v6 q12.1 (v5 + (1 : Int32)) q12.2 h
    · rw [if_neg hc13] at h
      refine zz_goto (tgt := 221) (pc := 211) C (by decide) d_M_across_211 ?_
      refine zz_iinc (lo' := [some (.ref 79), some (.int v1), some (.int v2), some (.int v3), some (.int v4), some (.int (v5 + (1 : Int32))), some (.int v6), some (.int v7), some (.int q12.1), none]) (pc := 221) C rfl (zz_inc zki_1) rfl rfl d_M_across_221 ?_
      refine zz_goto (tgt := 82) (pc := 224) C (by decide) d_M_across_224 ?_
      refine zz_fg C [true, true, true, true, true, true, false, false, false, false] rfl rfl ?_
      exact hK82 v1 v2 v3 v4 (v5 + (1 : Int32)) q12.2 h
  · rw [if_neg hc11] at h
    refine zz_aload_n (i := 0) (pc := 118) C rfl rfl d_M_across_118 ?_
    refine zz_getR (pc := 119) C zl_12_130 zsh_79 rfl d_M_across_119 ?_
    refine zz_iload (i := 8) (pc := 122) C rfl d_M_across_122 ?_
    obtain ⟨hi14, h⟩ := zz_ckE h
    refine zz_iald (pc := 124) C rfl zsh_116 hi14 d_M_across_124 ?_
    refine zz_istore (i := 9) (lo' := [some (.ref 79), some (.int v1), some (.int v2), some (.int v3), some (.int v4), some (.int v5), some (.int v6), some (.int v7), some (.int v8), some (.int (s.1 116 (v8.toNatClampNeg)))]) (pc := 125) C (Nat.le_of_ble_eq_true rfl) rfl rfl d_M_across_125 ?_
    refine zz_bipush (pc := 127) C zkb_10 d_M_across_127 ?_
    refine zz_iload (i := 6) (pc := 129) C rfl d_M_across_129 ?_
    refine zz_imul (pc := 131) C d_M_across_131 ?_
    refine zz_iload (i := 9) (pc := 132) C rfl d_M_across_132 ?_
    refine zz_iadd (pc := 134) C d_M_across_134 ?_
    refine zz_iconst (pc := 135) C zki_1 d_M_across_135 ?_
    refine zz_iadd (pc := 136) C d_M_across_136 ?_
    refine zz_istore (i := 6) (lo' := [some (.ref 79), some (.int v1), some (.int v2), some (.int v3), some (.int v4), some (.int v5), some (.int ((((10 : Int32) * v6) + (s.1 116 (v8.toNatClampNeg))) + (1 : Int32))), some (.int v7), some (.int v8), some (.int (s.1 116 (v8.toNatClampNeg)))]) (pc := 137) C (Nat.le_of_ble_eq_true rfl) rfl rfl d_M_across_137 ?_
    refine zz_aload_n (i := 0) (pc := 139) C rfl rfl d_M_across_139 ?_
    refine zz_getR (pc := 140) C zl_12_13 zsh_79 rfl d_M_across_140 ?_
    refine zz_iload (i := 9) (pc := 143) C rfl d_M_across_143 ?_
    refine zz_iload (i := 7) (pc := 145) C rfl d_M_across_145 ?_
    refine zz_aload_n (i := 0) (pc := 147) C rfl rfl d_M_across_147 ?_
    refine zz_getI (pc := 148) C zl_12_7 zsh_79 rfl d_M_across_148 ?_
    refine zz_aload_n (i := 0) (pc := 151) C rfl rfl d_M_across_151 ?_
    refine zz_getR (pc := 152) C zl_12_17 zsh_79 rfl d_M_across_152 ?_
    refine zz_iload (i := 9) (pc := 155) C rfl d_M_across_155 ?_
    obtain ⟨hi15, h⟩ := zz_ckE h
    refine zz_iald (pc := 157) C rfl zsh_81 hi15 d_M_across_157 ?_
    refine zz_isub (pc := 158) C d_M_across_158 ?_
    refine zz_icmp_ge (tgt := 167) (pc := 159) C (by decide) d_M_across_159 (fun hc16 => ?_) (fun hc16 => ?_)
    · rw [if_pos hc16] at h
      refine zz_aload_n (i := 0) (pc := 167) C rfl rfl d_M_across_167 ?_
      refine zz_getI (pc := 168) C zl_12_7 zsh_79 rfl d_M_across_168 ?_
      refine zz_aload_n (i := 0) (pc := 171) C rfl rfl d_M_across_171 ?_
      refine zz_getR (pc := 172) C zl_12_17 zsh_79 rfl d_M_across_172 ?_
      refine zz_iload (i := 9) (pc := 175) C rfl d_M_across_175 ?_
      refine zz_iald (pc := 177) C rfl zsh_81 hi15 d_M_across_177 ?_
      refine zz_isub (pc := 178) C d_M_across_178 ?_
      exact zf_M_across_J179 C K82 hK82 (f_M_across_L109 K82 n) ih v1 v2 v3 v4 v5 ((((10 : Int32) * v6) + (s.1 116 (v8.toNatClampNeg))) + (1 : Int32)) v7 v8 (s.1 116 (v8.toNatClampNeg)) (s.1 116 (v8.toNatClampNeg)) ((s.1 79 1) - (s.1 81 ((s.1 116 (v8.toNatClampNeg)).toNatClampNeg))) h
    · rw [if_neg hc16] at h
      refine zz_iload (i := 7) (pc := 162) C rfl d_M_across_162 ?_
      refine zz_goto (tgt := 179) (pc := 164) C (by decide) d_M_across_164 ?_
      exact zf_M_across_J179 C K82 hK82 (f_M_across_L109 K82 n) ih v1 v2 v3 v4 v5 ((((10 : Int32) * v6) + (s.1 116 (v8.toNatClampNeg))) + (1 : Int32)) v7 v8 (s.1 116 (v8.toNatClampNeg)) (s.1 116 (v8.toNatClampNeg)) v7 h
set_option maxHeartbeats 4000000 in
set_option maxRecDepth 100000 in
theorem zf_M_across_L82 {G : zz_G} {l : Launch} {Z : zz_Z} {q : Int32 × zz_S} (C : zz_Cx G l "OneBlanketModel" "across" prog_14_method_67_code 10 (some .int) 10 (some (.int q.1), zsh, q.2) Z) : ∀ (n : Nat) (v1 : Int32) (v2 : Int32) (v3 : Int32) (v4 : Int32) (v5 : Int32) (s : zz_S), f_M_across_L82 n v1 v2 v3 v4 v5 s = some q → Z 82 [some (.ref 79), some (.int v1), some (.int v2), some (.int v3), some (.int v4), some (.int v5), none, none, none, none] [] zsh s := by
  intro n
  induction n with
  | zero => intro v1 v2 v3 v4 v5 s h; rw [f_M_across_L82] at h; cases h
  | succ n ih =>
  intro v1 v2 v3 v4 v5 s h
  rw [f_M_across_L82] at h
  refine zz_iload (i := 5) (pc := 82) C rfl d_M_across_82 ?_
  refine zz_iload_n (i := 2) (pc := 84) C rfl rfl d_M_across_84 ?_
  refine zz_icmp_ge (tgt := 227) (pc := 85) C (by decide) d_M_across_85 (fun hc5 => ?_) (fun hc5 => ?_)
  · rw [if_pos hc5] at h
    refine zz_iconst (pc := 227) C zki_0 d_M_across_227 ?_
    refine zz_istore (i := 5) (lo' := [some (.ref 79), some (.int v1), some (.int v2), some (.int v3), some (.int v4), some (.int (0 : Int32)), none, none, none, none]) (pc := 228) C (Nat.le_of_ble_eq_true rfl) rfl rfl d_M_across_228 ?_
    refine zz_fg C [true, true, false, true, true, true, false, false, false, false] rfl rfl ?_
    exact zf_M_across_L230 C zF v1 v3 v4 (0 : Int32) s h
  · rw [if_neg hc5] at h
    refine zz_aload_n (i := 0) (pc := 88) C rfl rfl d_M_across_88 ?_
    refine zz_iload (i := 5) (pc := 89) C rfl d_M_across_89 ?_
    obtain ⟨q9, hq9, h⟩ := zz_bdE h
    refine zz_cVi (as := [.int v5]) (st := []) (pc := 91) C (zm_M_isOrder hq9) zcv_M_isOrder zsh_79 zl_12_335 (by omega) (Nat.le_of_ble_eq_true rfl) d_M_across_91 rfl rfl ?_
    refine zz_if_ne (tgt := 100) (pc := 94) C (by decide) d_M_across_94 (fun hc10 => ?_) (fun hc10 => ?_)
    · rw [if_neg hc10] at h
      refine zz_iconst (pc := 100) C zki_0 d_M_across_100 ?_
      refine zz_istore (i := 6) (lo' := [some (.ref 79), some (.int v1), some (.int v2), some (.int v3), some (.int v4), some (.int v5), some (.int (0 : Int32)), none, none, none]) (pc := 101) C (Nat.le_of_ble_eq_true rfl) rfl rfl d_M_across_101 ?_
      refine zz_iconst (pc := 103) C zki_0 d_M_across_103 ?_
      refine zz_istore (i := 7) (lo' := [some (.ref 79), some (.int v1), some (.int v2), some (.int v3), some (.int v4), some (.int v5), some (.int (0 : Int32)), some (.int (0 : Int32)), none, none]) (pc := 104) C (Nat.le_of_ble_eq_true rfl) rfl rfl d_M_across_104 ?_
      refine zz_iconst (pc := 106) C zki_0 d_M_across_106 ?_
      refine zz_istore (i := 8) (lo' := [some (.ref 79), some (.int v1), some (.int v2), some (.int v3), some (.int v4), some (.int v5), some (.int (0 : Int32)), some (.int (0 : Int32)), some (.int (0 : Int32)), none]) (pc := 107) C (Nat.le_of_ble_eq_true rfl) rfl rfl d_M_across_107 ?_
      exact zf_M_across_L109 C (f_M_across_L82 n) ih zF v1 v2 v3 v4 v5 (0 : Int32) (0 : Int32) (0 : Int32) q9.2 h
    · rw [if_pos hc10] at h
      refine zz_goto (tgt := 221) (pc := 97) C (by decide) d_M_across_97 ?_
      refine zz_iinc (lo' := [some (.ref 79), some (.int v1), some (.int v2), some (.int v3), some (.int v4), some (.int (v5 + (1 : Int32))), none, none, none, none]) (pc := 221) C rfl (zz_inc zki_1) rfl rfl d_M_across_221 ?_
      refine zz_goto (tgt := 82) (pc := 224) C (by decide) d_M_across_224 ?_
      exact ih v1 v2 v3 v4 (v5 + (1 : Int32)) q9.2 h
set_option maxHeartbeats 4000000 in
set_option maxRecDepth 100000 in
theorem zf_M_across_L53 {G : zz_G} {l : Launch} {Z : zz_Z} {q : Int32 × zz_S} (C : zz_Cx G l "OneBlanketModel" "across" prog_14_method_67_code 10 (some .int) 10 (some (.int q.1), zsh, q.2) Z) : ∀ (n : Nat) (v1 : Int32) (v2 : Int32) (v3 : Int32) (s : zz_S), f_M_across_L53 n v1 v2 v3 s = some q → Z 53 [some (.ref 79), some (.int v1), some (.int v2), some (.int v3), none, none, none, none, none, none] [] zsh s := by
  intro n
  induction n with
  | zero => intro v1 v2 v3 s h; rw [f_M_across_L53] at h; cases h
  | succ n ih =>
  intro v1 v2 v3 s h
  rw [f_M_across_L53] at h
  refine zz_iload_n (i := 3) (pc := 53) C rfl rfl d_M_across_53 ?_
  refine zz_aload_n (i := 0) (pc := 54) C rfl rfl d_M_across_54 ?_
  refine zz_getI (pc := 55) C zl_12_155 zsh_79 rfl d_M_across_55 ?_
  refine zz_icmp_ge (tgt := 74) (pc := 58) C (by decide) d_M_across_58 (fun hc4 => ?_) (fun hc4 => ?_)
  · rw [if_pos hc4] at h
    refine zz_iconst (pc := 74) C zki_0 d_M_across_74 ?_
    refine zz_istore_n (i := 3) (lo' := [some (.ref 79), some (.int v1), some (.int v2), some (.int (0 : Int32)), none, none, none, none, none, none]) (pc := 75) C rfl (Nat.le_of_ble_eq_true rfl) rfl rfl d_M_across_75 ?_
    refine zz_iconst (pc := 76) C zki_m1 d_M_across_76 ?_
    refine zz_istore (i := 4) (lo' := [some (.ref 79), some (.int v1), some (.int v2), some (.int (0 : Int32)), some (.int (-1 : Int32)), none, none, none, none, none]) (pc := 77) C (Nat.le_of_ble_eq_true rfl) rfl rfl d_M_across_77 ?_
    refine zz_iconst (pc := 79) C zki_0 d_M_across_79 ?_
    refine zz_istore (i := 5) (lo' := [some (.ref 79), some (.int v1), some (.int v2), some (.int (0 : Int32)), some (.int (-1 : Int32)), some (.int (0 : Int32)), none, none, none, none]) (pc := 80) C (Nat.le_of_ble_eq_true rfl) rfl rfl d_M_across_80 ?_
    exact zf_M_across_L82 C zF v1 v2 (0 : Int32) (-1 : Int32) (0 : Int32) s h
  · rw [if_neg hc4] at h
    refine zz_iload_n (i := 2) (pc := 61) C rfl rfl d_M_across_61 ?_
    refine zz_aload_n (i := 0) (pc := 62) C rfl rfl d_M_across_62 ?_
    refine zz_getI (pc := 63) C zl_12_155 zsh_79 rfl d_M_across_63 ?_
    refine zz_imul (pc := 66) C d_M_across_66 ?_
    refine zz_istore_n (i := 2) (lo' := [some (.ref 79), some (.int v1), some (.int (v2 * (s.1 79 2))), some (.int v3), none, none, none, none, none, none]) (pc := 67) C rfl (Nat.le_of_ble_eq_true rfl) rfl rfl d_M_across_67 ?_
    refine zz_iinc (lo' := [some (.ref 79), some (.int v1), some (.int (v2 * (s.1 79 2))), some (.int (v3 + (1 : Int32))), none, none, none, none, none, none]) (pc := 68) C rfl (zz_inc zki_1) rfl rfl d_M_across_68 ?_
    refine zz_goto (tgt := 53) (pc := 71) C (by decide) d_M_across_71 ?_
    exact ih v1 (v2 * (s.1 79 2)) (v3 + (1 : Int32)) s h
set_option maxHeartbeats 4000000 in
set_option maxRecDepth 100000 in
theorem zf_M_across_L23 {G : zz_G} {l : Launch} {Z : zz_Z} {q : Int32 × zz_S} (C : zz_Cx G l "OneBlanketModel" "across" prog_14_method_67_code 10 (some .int) 10 (some (.int q.1), zsh, q.2) Z) : ∀ (n : Nat) (v1 : Int32) (v2 : Int32) (s : zz_S), f_M_across_L23 n v1 v2 s = some q → Z 23 [some (.ref 79), some (.int v1), some (.int v2), none, none, none, none, none, none, none] [] zsh s := by
  intro n
  induction n with
  | zero => intro v1 v2 s h; rw [f_M_across_L23] at h; cases h
  | succ n ih =>
  intro v1 v2 s h
  rw [f_M_across_L23] at h
  refine zz_iload_n (i := 2) (pc := 23) C rfl rfl d_M_across_23 ?_
  refine zz_aload_n (i := 0) (pc := 24) C rfl rfl d_M_across_24 ?_
  refine zz_getI (pc := 25) C zl_12_155 zsh_79 rfl d_M_across_25 ?_
  refine zz_icmp_ge (tgt := 49) (pc := 28) C (by decide) d_M_across_28 (fun hc3 => ?_) (fun hc3 => ?_)
  · rw [if_pos hc3] at h
    refine zz_iconst (pc := 49) C zki_1 d_M_across_49 ?_
    refine zz_istore_n (i := 2) (lo' := [some (.ref 79), some (.int v1), some (.int (1 : Int32)), none, none, none, none, none, none, none]) (pc := 50) C rfl (Nat.le_of_ble_eq_true rfl) rfl rfl d_M_across_50 ?_
    refine zz_iconst (pc := 51) C zki_0 d_M_across_51 ?_
    refine zz_istore_n (i := 3) (lo' := [some (.ref 79), some (.int v1), some (.int (1 : Int32)), some (.int (0 : Int32)), none, none, none, none, none, none]) (pc := 52) C rfl (Nat.le_of_ble_eq_true rfl) rfl rfl d_M_across_52 ?_
    exact zf_M_across_L53 C zF v1 (1 : Int32) (0 : Int32) s h
  · rw [if_neg hc3] at h
    refine zz_aload_n (i := 0) (pc := 31) C rfl rfl d_M_across_31 ?_
    refine zz_getR (pc := 32) C zl_12_127 zsh_79 rfl d_M_across_32 ?_
    refine zz_iload_n (i := 2) (pc := 35) C rfl rfl d_M_across_35 ?_
    refine zz_aload_n (i := 0) (pc := 36) C rfl rfl d_M_across_36 ?_
    refine zz_getR (pc := 37) C zl_12_13 zsh_79 rfl d_M_across_37 ?_
    refine zz_iload_n (i := 2) (pc := 40) C rfl rfl d_M_across_40 ?_
    obtain ⟨hi19, h⟩ := zz_ckE h
    refine zz_iald (pc := 41) C rfl zsh_80 hi19 d_M_across_41 ?_
    refine zz_iast (pc := 42) C rfl zsh_115 hi19 d_M_across_42 ?_
    refine zz_iinc (lo' := [some (.ref 79), some (.int v1), some (.int (v2 + (1 : Int32))), none, none, none, none, none, none, none]) (pc := 43) C rfl (zz_inc zki_1) rfl rfl d_M_across_43 ?_
    refine zz_goto (tgt := 23) (pc := 46) C (by decide) d_M_across_46 ?_
    exact ih v1 (v2 + (1 : Int32)) (zz_w s 115 (v2.toNatClampNeg) (s.1 80 (v2.toNatClampNeg))) h
set_option maxHeartbeats 4000000 in
set_option maxRecDepth 100000 in
theorem zf_M_across {G : zz_G} {l : Launch} {Z : zz_Z} {q : Int32 × zz_S} {s : zz_S} (C : zz_Cx G l "OneBlanketModel" "across" prog_14_method_67_code 10 (some .int) 10 (some (.int q.1), zsh, q.2) Z) (a1 : Int32) (h : f_M_across a1 s = some q) : Z 0 [some (.ref 79), some (.int a1), none, none, none, none, none, none, none, none] [] zsh s := by
  unfold f_M_across at h
  refine zz_iload_n (i := 1) (pc := 0) C rfl rfl d_M_across_0 ?_
  refine zz_iconst (pc := 1) C zki_0 d_M_across_1 ?_
  refine zz_iconst (pc := 2) C zki_1 d_M_across_2 ?_
  refine zz_cSi (as := [.int a1, .int (0 : Int32), .int (1 : Int32)]) (st := []) (pc := 3) C (zm_M_in rfl) zcs_M_in zl_12_158 (by omega) (Nat.le_of_ble_eq_true rfl) d_M_across_3 rfl rfl ?_
  refine zz_if_ne (tgt := 11) (pc := 6) C (by decide) d_M_across_6 (fun hc1 => ?_) (fun hc1 => ?_)
  · rw [if_neg hc1] at h
    refine zz_aload_n (i := 0) (pc := 11) C rfl rfl d_M_across_11 ?_
    refine zz_getI (pc := 12) C zl_12_155 zsh_79 rfl d_M_across_12 ?_
    refine zz_if_ne (tgt := 21) (pc := 15) C (by decide) d_M_across_15 (fun hc2 => ?_) (fun hc2 => ?_)
    · rw [if_neg hc2] at h
      refine zz_iconst (pc := 21) C zki_0 d_M_across_21 ?_
      refine zz_istore_n (i := 2) (lo' := [some (.ref 79), some (.int a1), some (.int (0 : Int32)), none, none, none, none, none, none, none]) (pc := 22) C rfl (Nat.le_of_ble_eq_true rfl) rfl rfl d_M_across_22 ?_
      exact zf_M_across_L23 C zF a1 (0 : Int32) s h
    · rw [if_pos hc2] at h
      refine zz_bipush (pc := 18) C zkb_m5 d_M_across_18 ?_
      replace h := Option.some.inj h
      subst h
      exact zz_ret (pc := 20) C (v := some (.int (-5 : Int32))) d_M_across_20 (Or.inl ⟨_, _, rfl, rfl, rfl, rfl⟩) rfl
  · rw [if_pos hc1] at h
    refine zz_iconst (pc := 9) C zki_m1 d_M_across_9 ?_
    replace h := Option.some.inj h
    subst h
    exact zz_ret (pc := 10) C (v := some (.int (-1 : Int32))) d_M_across_10 (Or.inl ⟨_, _, rfl, rfl, rfl, rfl⟩) rfl
theorem zm_M_across {G : zz_G} {l : Launch} {s : zz_S} {q : Int32 × zz_S} {a1 : Int32} (h : f_M_across a1 s = some q) : zz_M G l 10 y_M_across prog_14_method_67_code 10 (some .int) [.ref 79, .int a1] zsh s (some (.int q.1), zsh, q.2) :=
  zz_M.intro (by decide) (Nat.le_of_ble_eq_true rfl) (Nat.le_refl _) (Nat.le_refl _) (fun Z C => zf_M_across C a1 h)
theorem d_M_ran_0 : decode prog_14_method_75_code 0 = .ok (.aload_n 0, 1) := by decide +kernel
theorem d_M_ran_1 : decode prog_14_method_75_code 1 = .ok (.getfield 354, 3) := by decide +kernel
theorem d_M_ran_4 : decode prog_14_method_75_code 4 = .ok (.bipush (24), 2) := by decide +kernel
theorem d_M_ran_6 : decode prog_14_method_75_code 6 = .ok (.if_icmp .ge (13), 3) := by decide +kernel
theorem d_M_ran_9 : decode prog_14_method_75_code 9 = .ok (.aload_n 0, 1) := by decide +kernel
theorem d_M_ran_10 : decode prog_14_method_75_code 10 = .ok (.getfield 136, 3) := by decide +kernel
theorem d_M_ran_13 : decode prog_14_method_75_code 13 = .ok (.aload_n 0, 1) := by decide +kernel
theorem d_M_ran_14 : decode prog_14_method_75_code 14 = .ok (.getfield 354, 3) := by decide +kernel
theorem d_M_ran_17 : decode prog_14_method_75_code 17 = .ok (.iload_n 1, 1) := by decide +kernel
theorem d_M_ran_18 : decode prog_14_method_75_code 18 = .ok (.iastore, 1) := by decide +kernel
theorem d_M_ran_19 : decode prog_14_method_75_code 19 = .ok (.aload_n 0, 1) := by decide +kernel
theorem d_M_ran_20 : decode prog_14_method_75_code 20 = .ok (.dup, 1) := by decide +kernel
theorem d_M_ran_21 : decode prog_14_method_75_code 21 = .ok (.getfield 354, 3) := by decide +kernel
theorem d_M_ran_24 : decode prog_14_method_75_code 24 = .ok (.iconst 1, 1) := by decide +kernel
theorem d_M_ran_25 : decode prog_14_method_75_code 25 = .ok (.iadd, 1) := by decide +kernel
theorem d_M_ran_26 : decode prog_14_method_75_code 26 = .ok (.putfield 354, 3) := by decide +kernel
theorem d_M_ran_29 : decode prog_14_method_75_code 29 = .ok (.return_, 1) := by decide +kernel
set_option maxHeartbeats 4000000 in
set_option maxRecDepth 100000 in
theorem zf_M_ran_J19 {G : zz_G} {l : Launch} {Z : zz_Z} {q : zz_S} {s : zz_S} (C : zz_Cx G l "OneBlanketModel" "ran" prog_14_method_75_code 2 (none) 2 (none, zsh, q) Z) (h : f_M_ran_J19 s = some q) : Z 19 [some (.ref 79), none] [] zsh s := by
  unfold f_M_ran_J19 at h
  refine zz_aload_n (i := 0) (pc := 19) C rfl rfl d_M_ran_19 ?_
  refine zz_dup (pc := 20) C rfl d_M_ran_20 ?_
  refine zz_getI (pc := 21) C zl_12_354 zsh_79 rfl d_M_ran_21 ?_
  refine zz_iconst (pc := 24) C zki_1 d_M_ran_24 ?_
  refine zz_iadd (pc := 25) C d_M_ran_25 ?_
  refine zz_putI' (pc := 26) C zl_12_354 zpf_12_57 zsh_79 rfl d_M_ran_26 ?_
  replace h := Option.some.inj h
  subst h
  exact zz_ret (pc := 29) C (v := none) d_M_ran_29 (Or.inr (Or.inr (Or.inr ⟨rfl, rfl, rfl⟩))) rfl
set_option maxHeartbeats 4000000 in
set_option maxRecDepth 100000 in
theorem zf_M_ran {G : zz_G} {l : Launch} {Z : zz_Z} {q : zz_S} {s : zz_S} (C : zz_Cx G l "OneBlanketModel" "ran" prog_14_method_75_code 2 (none) 2 (none, zsh, q) Z) (a1 : Int32) (h : f_M_ran a1 s = some q) : Z 0 [some (.ref 79), some (.int a1)] [] zsh s := by
  unfold f_M_ran at h
  refine zz_aload_n (i := 0) (pc := 0) C rfl rfl d_M_ran_0 ?_
  refine zz_getI (pc := 1) C zl_12_354 zsh_79 rfl d_M_ran_1 ?_
  refine zz_bipush (pc := 4) C zkb_24 d_M_ran_4 ?_
  refine zz_icmp_ge (tgt := 19) (pc := 6) C (by decide) d_M_ran_6 (fun hc1 => ?_) (fun hc1 => ?_)
  · rw [if_pos hc1] at h
    refine zz_fg C [true, false] rfl rfl ?_
    exact zf_M_ran_J19 C h
  · rw [if_neg hc1] at h
    refine zz_aload_n (i := 0) (pc := 9) C rfl rfl d_M_ran_9 ?_
    refine zz_getR (pc := 10) C zl_12_136 zsh_79 rfl d_M_ran_10 ?_
    refine zz_aload_n (i := 0) (pc := 13) C rfl rfl d_M_ran_13 ?_
    refine zz_getI (pc := 14) C zl_12_354 zsh_79 rfl d_M_ran_14 ?_
    refine zz_iload_n (i := 1) (pc := 17) C rfl rfl d_M_ran_17 ?_
    obtain ⟨hi2, h⟩ := zz_ckE h
    refine zz_iast (pc := 18) C rfl zsh_118 hi2 d_M_ran_18 ?_
    refine zz_fg C [true, false] rfl rfl ?_
    exact zf_M_ran_J19 C h
theorem zm_M_ran {G : zz_G} {l : Launch} {s : zz_S} {q : zz_S} {a1 : Int32} (h : f_M_ran a1 s = some q) : zz_M G l 2 y_M_ran prog_14_method_75_code 2 (none) [.ref 79, .int a1] zsh s (none, zsh, q) :=
  zz_M.intro (by decide) (Nat.le_of_ble_eq_true rfl) (Nat.le_refl _) (Nat.le_refl _) (fun Z C => zf_M_ran C a1 h)
theorem d_M_plainTurns_0 : decode prog_14_method_79_code 0 = .ok (.aload_n 0, 1) := by decide +kernel
theorem d_M_plainTurns_1 : decode prog_14_method_79_code 1 = .ok (.iconst 1, 1) := by decide +kernel
theorem d_M_plainTurns_2 : decode prog_14_method_79_code 2 = .ok (.invokevirtual 357, 3) := by decide +kernel
theorem d_M_plainTurns_5 : decode prog_14_method_79_code 5 = .ok (.iload_n 2, 1) := by decide +kernel
theorem d_M_plainTurns_6 : decode prog_14_method_79_code 6 = .ok (.iload_n 1, 1) := by decide +kernel
theorem d_M_plainTurns_7 : decode prog_14_method_79_code 7 = .ok (.iadd, 1) := by decide +kernel
theorem d_M_plainTurns_8 : decode prog_14_method_79_code 8 = .ok (.ireturn, 1) := by decide +kernel
set_option maxHeartbeats 4000000 in
set_option maxRecDepth 100000 in
theorem zf_M_plainTurns {G : zz_G} {l : Launch} {Z : zz_Z} {q : Int32 × zz_S} {s : zz_S} (C : zz_Cx G l "OneBlanketModel" "plainTurns" prog_14_method_79_code 3 (some .int) 3 (some (.int q.1), zsh, q.2) Z) (a1 : Int32) (a2 : Int32) (h : f_M_plainTurns a1 a2 s = some q) : Z 0 [some (.ref 79), some (.int a1), some (.int a2)] [] zsh s := by
  unfold f_M_plainTurns at h
  refine zz_aload_n (i := 0) (pc := 0) C rfl rfl d_M_plainTurns_0 ?_
  refine zz_iconst (pc := 1) C zki_1 d_M_plainTurns_1 ?_
  obtain ⟨q1, hq1, h⟩ := zz_bdE h
  refine zz_cVv (as := [.int (1 : Int32)]) (st := []) (pc := 2) C (zm_M_ran hq1) zcv_M_ran zsh_79 zl_12_357 (by omega) (Nat.le_of_ble_eq_true rfl) d_M_plainTurns_2 rfl rfl ?_
  refine zz_iload_n (i := 2) (pc := 5) C rfl rfl d_M_plainTurns_5 ?_
  refine zz_iload_n (i := 1) (pc := 6) C rfl rfl d_M_plainTurns_6 ?_
  refine zz_iadd (pc := 7) C d_M_plainTurns_7 ?_
  replace h := Option.some.inj h
  subst h
  exact zz_ret (pc := 8) C (v := some (.int (a2 + a1))) d_M_plainTurns_8 (Or.inl ⟨_, _, rfl, rfl, rfl, rfl⟩) rfl
theorem zm_M_plainTurns {G : zz_G} {l : Launch} {s : zz_S} {q : Int32 × zz_S} {a1 : Int32} {a2 : Int32} (h : f_M_plainTurns a1 a2 s = some q) : zz_M G l 3 y_M_plainTurns prog_14_method_79_code 3 (some .int) [.ref 79, .int a1, .int a2] zsh s (some (.int q.1), zsh, q.2) :=
  zz_M.intro (by decide) (Nat.le_of_ble_eq_true rfl) (Nat.le_refl _) (Nat.le_refl _) (fun Z C => zf_M_plainTurns C a1 a2 h)
theorem d_M_legTurns_0 : decode prog_14_method_80_code 0 = .ok (.aload_n 0, 1) := by decide +kernel
theorem d_M_legTurns_1 : decode prog_14_method_80_code 1 = .ok (.bipush (70), 2) := by decide +kernel
theorem d_M_legTurns_3 : decode prog_14_method_80_code 3 = .ok (.invokevirtual 357, 3) := by decide +kernel
theorem d_M_legTurns_6 : decode prog_14_method_80_code 6 = .ok (.aload_n 0, 1) := by decide +kernel
theorem d_M_legTurns_7 : decode prog_14_method_80_code 7 = .ok (.iload_n 1, 1) := by decide +kernel
theorem d_M_legTurns_8 : decode prog_14_method_80_code 8 = .ok (.iload_n 2, 1) := by decide +kernel
theorem d_M_legTurns_9 : decode prog_14_method_80_code 9 = .ok (.invokevirtual 360, 3) := by decide +kernel
theorem d_M_legTurns_12 : decode prog_14_method_80_code 12 = .ok (.iconst 2, 1) := by decide +kernel
theorem d_M_legTurns_13 : decode prog_14_method_80_code 13 = .ok (.imul, 1) := by decide +kernel
theorem d_M_legTurns_14 : decode prog_14_method_80_code 14 = .ok (.ireturn, 1) := by decide +kernel
set_option maxHeartbeats 4000000 in
set_option maxRecDepth 100000 in
theorem zf_M_legTurns {G : zz_G} {l : Launch} {Z : zz_Z} {q : Int32 × zz_S} {s : zz_S} (C : zz_Cx G l "OneBlanketModel" "legTurns" prog_14_method_80_code 3 (some .int) 4 (some (.int q.1), zsh, q.2) Z) (a1 : Int32) (a2 : Int32) (h : f_M_legTurns a1 a2 s = some q) : Z 0 [some (.ref 79), some (.int a1), some (.int a2)] [] zsh s := by
  unfold f_M_legTurns at h
  refine zz_aload_n (i := 0) (pc := 0) C rfl rfl d_M_legTurns_0 ?_
  refine zz_bipush (pc := 1) C zkb_70 d_M_legTurns_1 ?_
  obtain ⟨q1, hq1, h⟩ := zz_bdE h
  refine zz_cVv (as := [.int (70 : Int32)]) (st := []) (pc := 3) C (zm_M_ran hq1) zcv_M_ran zsh_79 zl_12_357 (by omega) (Nat.le_of_ble_eq_true rfl) d_M_legTurns_3 rfl rfl ?_
  refine zz_aload_n (i := 0) (pc := 6) C rfl rfl d_M_legTurns_6 ?_
  refine zz_iload_n (i := 1) (pc := 7) C rfl rfl d_M_legTurns_7 ?_
  refine zz_iload_n (i := 2) (pc := 8) C rfl rfl d_M_legTurns_8 ?_
  obtain ⟨q2, hq2, h⟩ := zz_bdE h
  refine zz_cVi (as := [.int a1, .int a2]) (st := []) (pc := 9) C (zm_M_plainTurns hq2) zcv_M_plainTurns zsh_79 zl_12_360 (by omega) (Nat.le_of_ble_eq_true rfl) d_M_legTurns_9 rfl rfl ?_
  refine zz_iconst (pc := 12) C zki_2 d_M_legTurns_12 ?_
  refine zz_imul (pc := 13) C d_M_legTurns_13 ?_
  replace h := Option.some.inj h
  subst h
  exact zz_ret (pc := 14) C (v := some (.int (q2.1 * (2 : Int32)))) d_M_legTurns_14 (Or.inl ⟨_, _, rfl, rfl, rfl, rfl⟩) rfl
theorem zm_M_legTurns {G : zz_G} {l : Launch} {s : zz_S} {q : Int32 × zz_S} {a1 : Int32} {a2 : Int32} (h : f_M_legTurns a1 a2 s = some q) : zz_M G l 4 y_M_legTurns prog_14_method_80_code 3 (some .int) [.ref 79, .int a1, .int a2] zsh s (some (.int q.1), zsh, q.2) :=
  zz_M.intro (by decide) (Nat.le_of_ble_eq_true rfl) (Nat.le_refl _) (Nat.le_refl _) (fun Z C => zf_M_legTurns C a1 a2 h)
theorem d_M_isUnder_0 : decode prog_14_method_78_code 0 = .ok (.iload_n 1, 1) := by decide +kernel
theorem d_M_isUnder_1 : decode prog_14_method_78_code 1 = .ok (.ifCond .eq (55), 3) := by decide +kernel
theorem d_M_isUnder_4 : decode prog_14_method_78_code 4 = .ok (.iload_n 0, 1) := by decide +kernel
theorem d_M_isUnder_5 : decode prog_14_method_78_code 5 = .ok (.iload_n 1, 1) := by decide +kernel
theorem d_M_isUnder_6 : decode prog_14_method_78_code 6 = .ok (.if_icmp .eq (50), 3) := by decide +kernel
theorem d_M_isUnder_9 : decode prog_14_method_78_code 9 = .ok (.iload_n 1, 1) := by decide +kernel
theorem d_M_isUnder_10 : decode prog_14_method_78_code 10 = .ok (.iconst 1, 1) := by decide +kernel
theorem d_M_isUnder_11 : decode prog_14_method_78_code 11 = .ok (.if_icmp .ne (13), 3) := by decide +kernel
theorem d_M_isUnder_14 : decode prog_14_method_78_code 14 = .ok (.iload_n 0, 1) := by decide +kernel
theorem d_M_isUnder_15 : decode prog_14_method_78_code 15 = .ok (.iconst 4, 1) := by decide +kernel
theorem d_M_isUnder_16 : decode prog_14_method_78_code 16 = .ok (.if_icmp .eq (40), 3) := by decide +kernel
theorem d_M_isUnder_19 : decode prog_14_method_78_code 19 = .ok (.iload_n 0, 1) := by decide +kernel
theorem d_M_isUnder_20 : decode prog_14_method_78_code 20 = .ok (.iconst 5, 1) := by decide +kernel
theorem d_M_isUnder_21 : decode prog_14_method_78_code 21 = .ok (.if_icmp .eq (35), 3) := by decide +kernel
theorem d_M_isUnder_24 : decode prog_14_method_78_code 24 = .ok (.iload_n 1, 1) := by decide +kernel
theorem d_M_isUnder_25 : decode prog_14_method_78_code 25 = .ok (.iconst 2, 1) := by decide +kernel
theorem d_M_isUnder_26 : decode prog_14_method_78_code 26 = .ok (.if_icmp .ne (8), 3) := by decide +kernel
theorem d_M_isUnder_29 : decode prog_14_method_78_code 29 = .ok (.iload_n 0, 1) := by decide +kernel
theorem d_M_isUnder_30 : decode prog_14_method_78_code 30 = .ok (.iconst 3, 1) := by decide +kernel
theorem d_M_isUnder_31 : decode prog_14_method_78_code 31 = .ok (.if_icmp .eq (25), 3) := by decide +kernel
theorem d_M_isUnder_34 : decode prog_14_method_78_code 34 = .ok (.iload_n 1, 1) := by decide +kernel
theorem d_M_isUnder_35 : decode prog_14_method_78_code 35 = .ok (.iconst 4, 1) := by decide +kernel
theorem d_M_isUnder_36 : decode prog_14_method_78_code 36 = .ok (.if_icmp .ne (8), 3) := by decide +kernel
theorem d_M_isUnder_39 : decode prog_14_method_78_code 39 = .ok (.iload_n 0, 1) := by decide +kernel
theorem d_M_isUnder_40 : decode prog_14_method_78_code 40 = .ok (.iconst 5, 1) := by decide +kernel
theorem d_M_isUnder_41 : decode prog_14_method_78_code 41 = .ok (.if_icmp .eq (15), 3) := by decide +kernel
theorem d_M_isUnder_44 : decode prog_14_method_78_code 44 = .ok (.iload_n 1, 1) := by decide +kernel
theorem d_M_isUnder_45 : decode prog_14_method_78_code 45 = .ok (.bipush (6), 2) := by decide +kernel
theorem d_M_isUnder_47 : decode prog_14_method_78_code 47 = .ok (.if_icmp .ne (13), 3) := by decide +kernel
theorem d_M_isUnder_50 : decode prog_14_method_78_code 50 = .ok (.iload_n 0, 1) := by decide +kernel
theorem d_M_isUnder_51 : decode prog_14_method_78_code 51 = .ok (.bipush (7), 2) := by decide +kernel
theorem d_M_isUnder_53 : decode prog_14_method_78_code 53 = .ok (.if_icmp .ne (7), 3) := by decide +kernel
theorem d_M_isUnder_56 : decode prog_14_method_78_code 56 = .ok (.iconst 1, 1) := by decide +kernel
theorem d_M_isUnder_57 : decode prog_14_method_78_code 57 = .ok (.goto (4), 3) := by decide +kernel
theorem d_M_isUnder_60 : decode prog_14_method_78_code 60 = .ok (.iconst 0, 1) := by decide +kernel
theorem d_M_isUnder_61 : decode prog_14_method_78_code 61 = .ok (.ireturn, 1) := by decide +kernel
set_option maxHeartbeats 4000000 in
set_option maxRecDepth 100000 in
theorem zf_M_isUnder_J56 {G : zz_G} {l : Launch} {Z : zz_Z} {sh : List zz_Sh} {q : Int32} {s : zz_S} (C : zz_Cx G l "OneBlanketModel" "isUnder" prog_14_method_78_code 2 (some .boolean) 2 (some (.int q), sh, s) Z) (h : f_M_isUnder_J56 = q) : Z 56 [none, none] [] sh s := by
  unfold f_M_isUnder_J56 at h
  refine zz_iconst (pc := 56) C zki_1 d_M_isUnder_56 ?_
  refine zz_goto (tgt := 61) (pc := 57) C (by decide) d_M_isUnder_57 ?_
  subst h
  exact zz_ret (pc := 61) C (v := some (.int (1 : Int32))) d_M_isUnder_61 (Or.inl ⟨_, _, rfl, rfl, rfl, (by decide)⟩) rfl
set_option maxHeartbeats 4000000 in
set_option maxRecDepth 100000 in
theorem zf_M_isUnder_J44 {G : zz_G} {l : Launch} {Z : zz_Z} {sh : List zz_Sh} {q : Int32} {s : zz_S} (C : zz_Cx G l "OneBlanketModel" "isUnder" prog_14_method_78_code 2 (some .boolean) 2 (some (.int q), sh, s) Z) (v0 : Int32) (v1 : Int32) (h : f_M_isUnder_J44 v0 v1 = q) : Z 44 [some (.int v0), some (.int v1)] [] sh s := by
  unfold f_M_isUnder_J44 at h
  refine zz_iload_n (i := 1) (pc := 44) C rfl rfl d_M_isUnder_44 ?_
  refine zz_bipush (pc := 45) C zkb_6 d_M_isUnder_45 ?_
  refine zz_icmp_ne (tgt := 60) (pc := 47) C (by decide) d_M_isUnder_47 (fun hc6 => ?_) (fun hc6 => ?_)
  · rw [if_neg hc6] at h
    refine zz_iconst (pc := 60) C zki_0 d_M_isUnder_60 ?_
    subst h
    exact zz_ret (pc := 61) C (v := some (.int (0 : Int32))) d_M_isUnder_61 (Or.inl ⟨_, _, rfl, rfl, rfl, (by decide)⟩) rfl
  · rw [if_pos hc6] at h
    refine zz_iload_n (i := 0) (pc := 50) C rfl rfl d_M_isUnder_50 ?_
    refine zz_bipush (pc := 51) C zkb_7 d_M_isUnder_51 ?_
    refine zz_icmp_ne (tgt := 60) (pc := 53) C (by decide) d_M_isUnder_53 (fun hc7 => ?_) (fun hc7 => ?_)
    · rw [if_neg hc7] at h
      refine zz_iconst (pc := 60) C zki_0 d_M_isUnder_60 ?_
      subst h
      exact zz_ret (pc := 61) C (v := some (.int (0 : Int32))) d_M_isUnder_61 (Or.inl ⟨_, _, rfl, rfl, rfl, (by decide)⟩) rfl
    · rw [if_pos hc7] at h
      refine zz_fg C [false, false] rfl rfl ?_
      exact zf_M_isUnder_J56 C h
set_option maxHeartbeats 4000000 in
set_option maxRecDepth 100000 in
theorem zf_M_isUnder_J34 {G : zz_G} {l : Launch} {Z : zz_Z} {sh : List zz_Sh} {q : Int32} {s : zz_S} (C : zz_Cx G l "OneBlanketModel" "isUnder" prog_14_method_78_code 2 (some .boolean) 2 (some (.int q), sh, s) Z) (v0 : Int32) (v1 : Int32) (h : f_M_isUnder_J34 v0 v1 = q) : Z 34 [some (.int v0), some (.int v1)] [] sh s := by
  unfold f_M_isUnder_J34 at h
  refine zz_iload_n (i := 1) (pc := 34) C rfl rfl d_M_isUnder_34 ?_
  refine zz_iconst (pc := 35) C zki_4 d_M_isUnder_35 ?_
  refine zz_icmp_ne (tgt := 44) (pc := 36) C (by decide) d_M_isUnder_36 (fun hc5 => ?_) (fun hc5 => ?_)
  · rw [if_neg hc5] at h
    exact zf_M_isUnder_J44 C v0 v1 h
  · rw [if_pos hc5] at h
    refine zz_iload_n (i := 0) (pc := 39) C rfl rfl d_M_isUnder_39 ?_
    refine zz_iconst (pc := 40) C zki_5 d_M_isUnder_40 ?_
    refine zz_icmp_eq (tgt := 56) (pc := 41) C (by decide) d_M_isUnder_41 (fun hc8 => ?_) (fun hc8 => ?_)
    · rw [if_pos hc8] at h
      refine zz_fg C [false, false] rfl rfl ?_
      exact zf_M_isUnder_J56 C h
    · rw [if_neg hc8] at h
      exact zf_M_isUnder_J44 C v0 v1 h
set_option maxHeartbeats 4000000 in
set_option maxRecDepth 100000 in
theorem zf_M_isUnder_J24 {G : zz_G} {l : Launch} {Z : zz_Z} {sh : List zz_Sh} {q : Int32} {s : zz_S} (C : zz_Cx G l "OneBlanketModel" "isUnder" prog_14_method_78_code 2 (some .boolean) 2 (some (.int q), sh, s) Z) (v0 : Int32) (v1 : Int32) (h : f_M_isUnder_J24 v0 v1 = q) : Z 24 [some (.int v0), some (.int v1)] [] sh s := by
  unfold f_M_isUnder_J24 at h
  refine zz_iload_n (i := 1) (pc := 24) C rfl rfl d_M_isUnder_24 ?_
  refine zz_iconst (pc := 25) C zki_2 d_M_isUnder_25 ?_
  refine zz_icmp_ne (tgt := 34) (pc := 26) C (by decide) d_M_isUnder_26 (fun hc4 => ?_) (fun hc4 => ?_)
  · rw [if_neg hc4] at h
    exact zf_M_isUnder_J34 C v0 v1 h
  · rw [if_pos hc4] at h
    refine zz_iload_n (i := 0) (pc := 29) C rfl rfl d_M_isUnder_29 ?_
    refine zz_iconst (pc := 30) C zki_3 d_M_isUnder_30 ?_
    refine zz_icmp_eq (tgt := 56) (pc := 31) C (by decide) d_M_isUnder_31 (fun hc9 => ?_) (fun hc9 => ?_)
    · rw [if_pos hc9] at h
      refine zz_fg C [false, false] rfl rfl ?_
      exact zf_M_isUnder_J56 C h
    · rw [if_neg hc9] at h
      exact zf_M_isUnder_J34 C v0 v1 h
set_option maxHeartbeats 4000000 in
set_option maxRecDepth 100000 in
theorem zf_M_isUnder {G : zz_G} {l : Launch} {Z : zz_Z} {sh : List zz_Sh} {q : Int32} {s : zz_S} (C : zz_Cx G l "OneBlanketModel" "isUnder" prog_14_method_78_code 2 (some .boolean) 2 (some (.int q), sh, s) Z) (a0 : Int32) (a1 : Int32) (h : f_M_isUnder a0 a1 = q) : Z 0 [some (.int a0), some (.int a1)] [] sh s := by
  unfold f_M_isUnder at h
  refine zz_iload_n (i := 1) (pc := 0) C rfl rfl d_M_isUnder_0 ?_
  refine zz_if_eq (tgt := 56) (pc := 1) C (by decide) d_M_isUnder_1 (fun hc1 => ?_) (fun hc1 => ?_)
  · rw [if_pos hc1] at h
    refine zz_fg C [false, false] rfl rfl ?_
    exact zf_M_isUnder_J56 C h
  · rw [if_neg hc1] at h
    refine zz_iload_n (i := 0) (pc := 4) C rfl rfl d_M_isUnder_4 ?_
    refine zz_iload_n (i := 1) (pc := 5) C rfl rfl d_M_isUnder_5 ?_
    refine zz_icmp_eq (tgt := 56) (pc := 6) C (by decide) d_M_isUnder_6 (fun hc2 => ?_) (fun hc2 => ?_)
    · rw [if_pos hc2] at h
      refine zz_fg C [false, false] rfl rfl ?_
      exact zf_M_isUnder_J56 C h
    · rw [if_neg hc2] at h
      refine zz_iload_n (i := 1) (pc := 9) C rfl rfl d_M_isUnder_9 ?_
      refine zz_iconst (pc := 10) C zki_1 d_M_isUnder_10 ?_
      refine zz_icmp_ne (tgt := 24) (pc := 11) C (by decide) d_M_isUnder_11 (fun hc3 => ?_) (fun hc3 => ?_)
      · rw [if_neg hc3] at h
        exact zf_M_isUnder_J24 C a0 a1 h
      · rw [if_pos hc3] at h
        refine zz_iload_n (i := 0) (pc := 14) C rfl rfl d_M_isUnder_14 ?_
        refine zz_iconst (pc := 15) C zki_4 d_M_isUnder_15 ?_
        refine zz_icmp_eq (tgt := 56) (pc := 16) C (by decide) d_M_isUnder_16 (fun hc10 => ?_) (fun hc10 => ?_)
        · rw [if_pos hc10] at h
          refine zz_fg C [false, false] rfl rfl ?_
          exact zf_M_isUnder_J56 C h
        · rw [if_neg hc10] at h
          refine zz_iload_n (i := 0) (pc := 19) C rfl rfl d_M_isUnder_19 ?_
          refine zz_iconst (pc := 20) C zki_5 d_M_isUnder_20 ?_
          refine zz_icmp_eq (tgt := 56) (pc := 21) C (by decide) d_M_isUnder_21 (fun hc11 => ?_) (fun hc11 => ?_)
          · rw [if_pos hc11] at h
            refine zz_fg C [false, false] rfl rfl ?_
            exact zf_M_isUnder_J56 C h
          · rw [if_neg hc11] at h
            exact zf_M_isUnder_J24 C a0 a1 h
theorem zm_M_isUnder {G : zz_G} {l : Launch} {sh : List zz_Sh} {s : zz_S} {q : Int32} {a0 : Int32} {a1 : Int32} (h : f_M_isUnder a0 a1 = q) : zz_M G l 2 y_M_isUnder prog_14_method_78_code 2 (some .boolean) [.int a0, .int a1] sh s (some (.int q), sh, s) :=
  zz_M.intro (by decide) (Nat.le_of_ble_eq_true rfl) (Nat.le_refl _) (Nat.le_refl _) (fun Z C => zf_M_isUnder C a0 a1 h)
theorem d_M_turning_0 : decode prog_14_method_81_code 0 = .ok (.aload_n 0, 1) := by decide +kernel
theorem d_M_turning_1 : decode prog_14_method_81_code 1 = .ok (.getfield 133, 3) := by decide +kernel
theorem d_M_turning_4 : decode prog_14_method_81_code 4 = .ok (.iload_n 1, 1) := by decide +kernel
theorem d_M_turning_5 : decode prog_14_method_81_code 5 = .ok (.iaload, 1) := by decide +kernel
theorem d_M_turning_6 : decode prog_14_method_81_code 6 = .ok (.iconst 1, 1) := by decide +kernel
theorem d_M_turning_7 : decode prog_14_method_81_code 7 = .ok (.invokestatic 363, 3) := by decide +kernel
theorem d_M_turning_10 : decode prog_14_method_81_code 10 = .ok (.ifCond .eq (18), 3) := by decide +kernel
theorem d_M_turning_13 : decode prog_14_method_81_code 13 = .ok (.aload_n 0, 1) := by decide +kernel
theorem d_M_turning_14 : decode prog_14_method_81_code 14 = .ok (.bipush (20), 2) := by decide +kernel
theorem d_M_turning_16 : decode prog_14_method_81_code 16 = .ok (.invokevirtual 357, 3) := by decide +kernel
theorem d_M_turning_19 : decode prog_14_method_81_code 19 = .ok (.aload_n 0, 1) := by decide +kernel
theorem d_M_turning_20 : decode prog_14_method_81_code 20 = .ok (.iload_n 1, 1) := by decide +kernel
theorem d_M_turning_21 : decode prog_14_method_81_code 21 = .ok (.iload_n 2, 1) := by decide +kernel
theorem d_M_turning_22 : decode prog_14_method_81_code 22 = .ok (.invokevirtual 360, 3) := by decide +kernel
theorem d_M_turning_25 : decode prog_14_method_81_code 25 = .ok (.iconst 3, 1) := by decide +kernel
theorem d_M_turning_26 : decode prog_14_method_81_code 26 = .ok (.iadd, 1) := by decide +kernel
theorem d_M_turning_27 : decode prog_14_method_81_code 27 = .ok (.ireturn, 1) := by decide +kernel
theorem d_M_turning_28 : decode prog_14_method_81_code 28 = .ok (.aload_n 0, 1) := by decide +kernel
theorem d_M_turning_29 : decode prog_14_method_81_code 29 = .ok (.getfield 133, 3) := by decide +kernel
theorem d_M_turning_32 : decode prog_14_method_81_code 32 = .ok (.iload_n 1, 1) := by decide +kernel
theorem d_M_turning_33 : decode prog_14_method_81_code 33 = .ok (.iaload, 1) := by decide +kernel
theorem d_M_turning_34 : decode prog_14_method_81_code 34 = .ok (.bipush (7), 2) := by decide +kernel
theorem d_M_turning_36 : decode prog_14_method_81_code 36 = .ok (.if_icmp .ne (18), 3) := by decide +kernel
theorem d_M_turning_39 : decode prog_14_method_81_code 39 = .ok (.aload_n 0, 1) := by decide +kernel
theorem d_M_turning_40 : decode prog_14_method_81_code 40 = .ok (.bipush (81), 2) := by decide +kernel
theorem d_M_turning_42 : decode prog_14_method_81_code 42 = .ok (.invokevirtual 357, 3) := by decide +kernel
theorem d_M_turning_45 : decode prog_14_method_81_code 45 = .ok (.aload_n 0, 1) := by decide +kernel
theorem d_M_turning_46 : decode prog_14_method_81_code 46 = .ok (.iload_n 1, 1) := by decide +kernel
theorem d_M_turning_47 : decode prog_14_method_81_code 47 = .ok (.iload_n 2, 1) := by decide +kernel
theorem d_M_turning_48 : decode prog_14_method_81_code 48 = .ok (.invokevirtual 367, 3) := by decide +kernel
theorem d_M_turning_51 : decode prog_14_method_81_code 51 = .ok (.iconst 1, 1) := by decide +kernel
theorem d_M_turning_52 : decode prog_14_method_81_code 52 = .ok (.isub, 1) := by decide +kernel
theorem d_M_turning_53 : decode prog_14_method_81_code 53 = .ok (.ireturn, 1) := by decide +kernel
theorem d_M_turning_54 : decode prog_14_method_81_code 54 = .ok (.aload_n 0, 1) := by decide +kernel
theorem d_M_turning_55 : decode prog_14_method_81_code 55 = .ok (.getfield 133, 3) := by decide +kernel
theorem d_M_turning_58 : decode prog_14_method_81_code 58 = .ok (.iload_n 1, 1) := by decide +kernel
theorem d_M_turning_59 : decode prog_14_method_81_code 59 = .ok (.iaload, 1) := by decide +kernel
theorem d_M_turning_60 : decode prog_14_method_81_code 60 = .ok (.bipush (6), 2) := by decide +kernel
theorem d_M_turning_62 : decode prog_14_method_81_code 62 = .ok (.if_icmp .ne (12), 3) := by decide +kernel
theorem d_M_turning_65 : decode prog_14_method_81_code 65 = .ok (.aload_n 0, 1) := by decide +kernel
theorem d_M_turning_66 : decode prog_14_method_81_code 66 = .ok (.iload_n 1, 1) := by decide +kernel
theorem d_M_turning_67 : decode prog_14_method_81_code 67 = .ok (.iload_n 2, 1) := by decide +kernel
theorem d_M_turning_68 : decode prog_14_method_81_code 68 = .ok (.invokevirtual 367, 3) := by decide +kernel
theorem d_M_turning_71 : decode prog_14_method_81_code 71 = .ok (.goto (9), 3) := by decide +kernel
theorem d_M_turning_74 : decode prog_14_method_81_code 74 = .ok (.aload_n 0, 1) := by decide +kernel
theorem d_M_turning_75 : decode prog_14_method_81_code 75 = .ok (.iload_n 1, 1) := by decide +kernel
theorem d_M_turning_76 : decode prog_14_method_81_code 76 = .ok (.iload_n 2, 1) := by decide +kernel
theorem d_M_turning_77 : decode prog_14_method_81_code 77 = .ok (.invokevirtual 360, 3) := by decide +kernel
theorem d_M_turning_80 : decode prog_14_method_81_code 80 = .ok (.ireturn, 1) := by decide +kernel
set_option maxHeartbeats 4000000 in
set_option maxRecDepth 100000 in
theorem zf_M_turning {G : zz_G} {l : Launch} {Z : zz_Z} {q : Int32 × zz_S} {s : zz_S} (C : zz_Cx G l "OneBlanketModel" "turning" prog_14_method_81_code 3 (some .int) 5 (some (.int q.1), zsh, q.2) Z) (a1 : Int32) (a2 : Int32) (h : f_M_turning a1 a2 s = some q) : Z 0 [some (.ref 79), some (.int a1), some (.int a2)] [] zsh s := by
  unfold f_M_turning at h
  refine zz_aload_n (i := 0) (pc := 0) C rfl rfl d_M_turning_0 ?_
  refine zz_getR (pc := 1) C zl_12_133 zsh_79 rfl d_M_turning_1 ?_
  refine zz_iload_n (i := 1) (pc := 4) C rfl rfl d_M_turning_4 ?_
  obtain ⟨hi1, h⟩ := zz_ckE h
  refine zz_iald (pc := 5) C rfl zsh_117 hi1 d_M_turning_5 ?_
  refine zz_iconst (pc := 6) C zki_1 d_M_turning_6 ?_
  refine zz_cSi (as := [.int (s.1 117 (a1.toNatClampNeg)), .int (1 : Int32)]) (st := []) (pc := 7) C (zm_M_isUnder rfl) zcs_M_isUnder zl_12_363 (by omega) (Nat.le_of_ble_eq_true rfl) d_M_turning_7 rfl rfl ?_
  refine zz_if_eq (tgt := 28) (pc := 10) C (by decide) d_M_turning_10 (fun hc2 => ?_) (fun hc2 => ?_)
  · rw [if_pos hc2] at h
    refine zz_aload_n (i := 0) (pc := 28) C rfl rfl d_M_turning_28 ?_
    refine zz_getR (pc := 29) C zl_12_133 zsh_79 rfl d_M_turning_29 ?_
    refine zz_iload_n (i := 1) (pc := 32) C rfl rfl d_M_turning_32 ?_
    refine zz_iald (pc := 33) C rfl zsh_117 hi1 d_M_turning_33 ?_
    refine zz_bipush (pc := 34) C zkb_7 d_M_turning_34 ?_
    refine zz_icmp_ne (tgt := 54) (pc := 36) C (by decide) d_M_turning_36 (fun hc3 => ?_) (fun hc3 => ?_)
    · rw [if_neg hc3] at h
      refine zz_aload_n (i := 0) (pc := 54) C rfl rfl d_M_turning_54 ?_
      refine zz_getR (pc := 55) C zl_12_133 zsh_79 rfl d_M_turning_55 ?_
      refine zz_iload_n (i := 1) (pc := 58) C rfl rfl d_M_turning_58 ?_
      refine zz_iald (pc := 59) C rfl zsh_117 hi1 d_M_turning_59 ?_
      refine zz_bipush (pc := 60) C zkb_6 d_M_turning_60 ?_
      refine zz_icmp_ne (tgt := 74) (pc := 62) C (by decide) d_M_turning_62 (fun hc4 => ?_) (fun hc4 => ?_)
      · rw [if_neg hc4] at h
        refine zz_aload_n (i := 0) (pc := 74) C rfl rfl d_M_turning_74 ?_
        refine zz_iload_n (i := 1) (pc := 75) C rfl rfl d_M_turning_75 ?_
        refine zz_iload_n (i := 2) (pc := 76) C rfl rfl d_M_turning_76 ?_
        obtain ⟨q5, hq5, h⟩ := zz_bdE h
        refine zz_cVi (as := [.int a1, .int a2]) (st := []) (pc := 77) C (zm_M_plainTurns hq5) zcv_M_plainTurns zsh_79 zl_12_360 (by omega) (Nat.le_of_ble_eq_true rfl) d_M_turning_77 rfl rfl ?_
        replace h := Option.some.inj h
        subst h
        exact zz_ret (pc := 80) C (v := some (.int q5.1)) d_M_turning_80 (Or.inl ⟨_, _, rfl, rfl, rfl, rfl⟩) rfl
      · rw [if_pos hc4] at h
        refine zz_aload_n (i := 0) (pc := 65) C rfl rfl d_M_turning_65 ?_
        refine zz_iload_n (i := 1) (pc := 66) C rfl rfl d_M_turning_66 ?_
        refine zz_iload_n (i := 2) (pc := 67) C rfl rfl d_M_turning_67 ?_
        obtain ⟨q6, hq6, h⟩ := zz_bdE h
        refine zz_cVi (as := [.int a1, .int a2]) (st := []) (pc := 68) C (zm_M_legTurns hq6) zcv_M_legTurns zsh_79 zl_12_367 (by omega) (Nat.le_of_ble_eq_true rfl) d_M_turning_68 rfl rfl ?_
        refine zz_goto (tgt := 80) (pc := 71) C (by decide) d_M_turning_71 ?_
        replace h := Option.some.inj h
        subst h
        exact zz_ret (pc := 80) C (v := some (.int q6.1)) d_M_turning_80 (Or.inl ⟨_, _, rfl, rfl, rfl, rfl⟩) rfl
    · rw [if_pos hc3] at h
      refine zz_aload_n (i := 0) (pc := 39) C rfl rfl d_M_turning_39 ?_
      refine zz_bipush (pc := 40) C zkb_81 d_M_turning_40 ?_
      obtain ⟨q7, hq7, h⟩ := zz_bdE h
      refine zz_cVv (as := [.int (81 : Int32)]) (st := []) (pc := 42) C (zm_M_ran hq7) zcv_M_ran zsh_79 zl_12_357 (by omega) (Nat.le_of_ble_eq_true rfl) d_M_turning_42 rfl rfl ?_
      refine zz_aload_n (i := 0) (pc := 45) C rfl rfl d_M_turning_45 ?_
      refine zz_iload_n (i := 1) (pc := 46) C rfl rfl d_M_turning_46 ?_
      refine zz_iload_n (i := 2) (pc := 47) C rfl rfl d_M_turning_47 ?_
      obtain ⟨q8, hq8, h⟩ := zz_bdE h
      refine zz_cVi (as := [.int a1, .int a2]) (st := []) (pc := 48) C (zm_M_legTurns hq8) zcv_M_legTurns zsh_79 zl_12_367 (by omega) (Nat.le_of_ble_eq_true rfl) d_M_turning_48 rfl rfl ?_
      refine zz_iconst (pc := 51) C zki_1 d_M_turning_51 ?_
      refine zz_isub (pc := 52) C d_M_turning_52 ?_
      replace h := Option.some.inj h
      subst h
      exact zz_ret (pc := 53) C (v := some (.int (q8.1 - (1 : Int32)))) d_M_turning_53 (Or.inl ⟨_, _, rfl, rfl, rfl, rfl⟩) rfl
  · rw [if_neg hc2] at h
    refine zz_aload_n (i := 0) (pc := 13) C rfl rfl d_M_turning_13 ?_
    refine zz_bipush (pc := 14) C zkb_20 d_M_turning_14 ?_
    obtain ⟨q9, hq9, h⟩ := zz_bdE h
    refine zz_cVv (as := [.int (20 : Int32)]) (st := []) (pc := 16) C (zm_M_ran hq9) zcv_M_ran zsh_79 zl_12_357 (by omega) (Nat.le_of_ble_eq_true rfl) d_M_turning_16 rfl rfl ?_
    refine zz_aload_n (i := 0) (pc := 19) C rfl rfl d_M_turning_19 ?_
    refine zz_iload_n (i := 1) (pc := 20) C rfl rfl d_M_turning_20 ?_
    refine zz_iload_n (i := 2) (pc := 21) C rfl rfl d_M_turning_21 ?_
    obtain ⟨q10, hq10, h⟩ := zz_bdE h
    refine zz_cVi (as := [.int a1, .int a2]) (st := []) (pc := 22) C (zm_M_plainTurns hq10) zcv_M_plainTurns zsh_79 zl_12_360 (by omega) (Nat.le_of_ble_eq_true rfl) d_M_turning_22 rfl rfl ?_
    refine zz_iconst (pc := 25) C zki_3 d_M_turning_25 ?_
    refine zz_iadd (pc := 26) C d_M_turning_26 ?_
    replace h := Option.some.inj h
    subst h
    exact zz_ret (pc := 27) C (v := some (.int (q10.1 + (3 : Int32)))) d_M_turning_27 (Or.inl ⟨_, _, rfl, rfl, rfl, rfl⟩) rfl
theorem zm_M_turning {G : zz_G} {l : Launch} {s : zz_S} {q : Int32 × zz_S} {a1 : Int32} {a2 : Int32} (h : f_M_turning a1 a2 s = some q) : zz_M G l 5 y_M_turning prog_14_method_81_code 3 (some .int) [.ref 79, .int a1, .int a2] zsh s (some (.int q.1), zsh, q.2) :=
  zz_M.intro (by decide) (Nat.le_of_ble_eq_true rfl) (Nat.le_refl _) (Nat.le_refl _) (fun Z C => zf_M_turning C a1 a2 h)
theorem d_M_plainDraws_0 : decode prog_14_method_82_code 0 = .ok (.aload_n 0, 1) := by decide +kernel
theorem d_M_plainDraws_1 : decode prog_14_method_82_code 1 = .ok (.bipush (10), 2) := by decide +kernel
theorem d_M_plainDraws_3 : decode prog_14_method_82_code 3 = .ok (.invokevirtual 357, 3) := by decide +kernel
theorem d_M_plainDraws_6 : decode prog_14_method_82_code 6 = .ok (.aload_n 0, 1) := by decide +kernel
theorem d_M_plainDraws_7 : decode prog_14_method_82_code 7 = .ok (.iload_n 1, 1) := by decide +kernel
theorem d_M_plainDraws_8 : decode prog_14_method_82_code 8 = .ok (.iload_n 2, 1) := by decide +kernel
theorem d_M_plainDraws_9 : decode prog_14_method_82_code 9 = .ok (.invokevirtual 370, 3) := by decide +kernel
theorem d_M_plainDraws_12 : decode prog_14_method_82_code 12 = .ok (.iconst 2, 1) := by decide +kernel
theorem d_M_plainDraws_13 : decode prog_14_method_82_code 13 = .ok (.imul, 1) := by decide +kernel
theorem d_M_plainDraws_14 : decode prog_14_method_82_code 14 = .ok (.ireturn, 1) := by decide +kernel
set_option maxHeartbeats 4000000 in
set_option maxRecDepth 100000 in
theorem zf_M_plainDraws {G : zz_G} {l : Launch} {Z : zz_Z} {q : Int32 × zz_S} {s : zz_S} (C : zz_Cx G l "OneBlanketModel" "plainDraws" prog_14_method_82_code 3 (some .int) 6 (some (.int q.1), zsh, q.2) Z) (a1 : Int32) (a2 : Int32) (h : f_M_plainDraws a1 a2 s = some q) : Z 0 [some (.ref 79), some (.int a1), some (.int a2)] [] zsh s := by
  unfold f_M_plainDraws at h
  refine zz_aload_n (i := 0) (pc := 0) C rfl rfl d_M_plainDraws_0 ?_
  refine zz_bipush (pc := 1) C zkb_10 d_M_plainDraws_1 ?_
  obtain ⟨q1, hq1, h⟩ := zz_bdE h
  refine zz_cVv (as := [.int (10 : Int32)]) (st := []) (pc := 3) C (zm_M_ran hq1) zcv_M_ran zsh_79 zl_12_357 (by omega) (Nat.le_of_ble_eq_true rfl) d_M_plainDraws_3 rfl rfl ?_
  refine zz_aload_n (i := 0) (pc := 6) C rfl rfl d_M_plainDraws_6 ?_
  refine zz_iload_n (i := 1) (pc := 7) C rfl rfl d_M_plainDraws_7 ?_
  refine zz_iload_n (i := 2) (pc := 8) C rfl rfl d_M_plainDraws_8 ?_
  obtain ⟨q2, hq2, h⟩ := zz_bdE h
  refine zz_cVi (as := [.int a1, .int a2]) (st := []) (pc := 9) C (zm_M_turning hq2) zcv_M_turning zsh_79 zl_12_370 (by omega) (Nat.le_of_ble_eq_true rfl) d_M_plainDraws_9 rfl rfl ?_
  refine zz_iconst (pc := 12) C zki_2 d_M_plainDraws_12 ?_
  refine zz_imul (pc := 13) C d_M_plainDraws_13 ?_
  replace h := Option.some.inj h
  subst h
  exact zz_ret (pc := 14) C (v := some (.int (q2.1 * (2 : Int32)))) d_M_plainDraws_14 (Or.inl ⟨_, _, rfl, rfl, rfl, rfl⟩) rfl
theorem zm_M_plainDraws {G : zz_G} {l : Launch} {s : zz_S} {q : Int32 × zz_S} {a1 : Int32} {a2 : Int32} (h : f_M_plainDraws a1 a2 s = some q) : zz_M G l 6 y_M_plainDraws prog_14_method_82_code 3 (some .int) [.ref 79, .int a1, .int a2] zsh s (some (.int q.1), zsh, q.2) :=
  zz_M.intro (by decide) (Nat.le_of_ble_eq_true rfl) (Nat.le_refl _) (Nat.le_refl _) (fun Z C => zf_M_plainDraws C a1 a2 h)
theorem d_M_underDraws_0 : decode prog_14_method_83_code 0 = .ok (.aload_n 0, 1) := by decide +kernel
theorem d_M_underDraws_1 : decode prog_14_method_83_code 1 = .ok (.bipush (30), 2) := by decide +kernel
theorem d_M_underDraws_3 : decode prog_14_method_83_code 3 = .ok (.invokevirtual 357, 3) := by decide +kernel
theorem d_M_underDraws_6 : decode prog_14_method_83_code 6 = .ok (.aload_n 0, 1) := by decide +kernel
theorem d_M_underDraws_7 : decode prog_14_method_83_code 7 = .ok (.iload_n 1, 1) := by decide +kernel
theorem d_M_underDraws_8 : decode prog_14_method_83_code 8 = .ok (.iload_n 2, 1) := by decide +kernel
theorem d_M_underDraws_9 : decode prog_14_method_83_code 9 = .ok (.invokevirtual 373, 3) := by decide +kernel
theorem d_M_underDraws_12 : decode prog_14_method_83_code 12 = .ok (.ineg, 1) := by decide +kernel
theorem d_M_underDraws_13 : decode prog_14_method_83_code 13 = .ok (.ireturn, 1) := by decide +kernel
set_option maxHeartbeats 4000000 in
set_option maxRecDepth 100000 in
theorem zf_M_underDraws {G : zz_G} {l : Launch} {Z : zz_Z} {q : Int32 × zz_S} {s : zz_S} (C : zz_Cx G l "OneBlanketModel" "underDraws" prog_14_method_83_code 3 (some .int) 7 (some (.int q.1), zsh, q.2) Z) (a1 : Int32) (a2 : Int32) (h : f_M_underDraws a1 a2 s = some q) : Z 0 [some (.ref 79), some (.int a1), some (.int a2)] [] zsh s := by
  unfold f_M_underDraws at h
  refine zz_aload_n (i := 0) (pc := 0) C rfl rfl d_M_underDraws_0 ?_
  refine zz_bipush (pc := 1) C zkb_30 d_M_underDraws_1 ?_
  obtain ⟨q1, hq1, h⟩ := zz_bdE h
  refine zz_cVv (as := [.int (30 : Int32)]) (st := []) (pc := 3) C (zm_M_ran hq1) zcv_M_ran zsh_79 zl_12_357 (by omega) (Nat.le_of_ble_eq_true rfl) d_M_underDraws_3 rfl rfl ?_
  refine zz_aload_n (i := 0) (pc := 6) C rfl rfl d_M_underDraws_6 ?_
  refine zz_iload_n (i := 1) (pc := 7) C rfl rfl d_M_underDraws_7 ?_
  refine zz_iload_n (i := 2) (pc := 8) C rfl rfl d_M_underDraws_8 ?_
  obtain ⟨q2, hq2, h⟩ := zz_bdE h
  refine zz_cVi (as := [.int a1, .int a2]) (st := []) (pc := 9) C (zm_M_plainDraws hq2) zcv_M_plainDraws zsh_79 zl_12_373 (by omega) (Nat.le_of_ble_eq_true rfl) d_M_underDraws_9 rfl rfl ?_
  refine zz_ineg (pc := 12) C d_M_underDraws_12 ?_
  replace h := Option.some.inj h
  subst h
  exact zz_ret (pc := 13) C (v := some (.int (-q2.1))) d_M_underDraws_13 (Or.inl ⟨_, _, rfl, rfl, rfl, rfl⟩) rfl
theorem zm_M_underDraws {G : zz_G} {l : Launch} {s : zz_S} {q : Int32 × zz_S} {a1 : Int32} {a2 : Int32} (h : f_M_underDraws a1 a2 s = some q) : zz_M G l 7 y_M_underDraws prog_14_method_83_code 3 (some .int) [.ref 79, .int a1, .int a2] zsh s (some (.int q.1), zsh, q.2) :=
  zz_M.intro (by decide) (Nat.le_of_ble_eq_true rfl) (Nat.le_refl _) (Nat.le_refl _) (fun Z C => zf_M_underDraws C a1 a2 h)
theorem d_M_plainWarms_0 : decode prog_14_method_85_code 0 = .ok (.aload_n 0, 1) := by decide +kernel
theorem d_M_plainWarms_1 : decode prog_14_method_85_code 1 = .ok (.bipush (11), 2) := by decide +kernel
theorem d_M_plainWarms_3 : decode prog_14_method_85_code 3 = .ok (.invokevirtual 357, 3) := by decide +kernel
theorem d_M_plainWarms_6 : decode prog_14_method_85_code 6 = .ok (.iload_n 2, 1) := by decide +kernel
theorem d_M_plainWarms_7 : decode prog_14_method_85_code 7 = .ok (.iload_n 1, 1) := by decide +kernel
theorem d_M_plainWarms_8 : decode prog_14_method_85_code 8 = .ok (.ixor, 1) := by decide +kernel
theorem d_M_plainWarms_9 : decode prog_14_method_85_code 9 = .ok (.ireturn, 1) := by decide +kernel
set_option maxHeartbeats 4000000 in
set_option maxRecDepth 100000 in
theorem zf_M_plainWarms {G : zz_G} {l : Launch} {Z : zz_Z} {q : Int32 × zz_S} {s : zz_S} (C : zz_Cx G l "OneBlanketModel" "plainWarms" prog_14_method_85_code 3 (some .int) 3 (some (.int q.1), zsh, q.2) Z) (a1 : Int32) (a2 : Int32) (h : f_M_plainWarms a1 a2 s = some q) : Z 0 [some (.ref 79), some (.int a1), some (.int a2)] [] zsh s := by
  unfold f_M_plainWarms at h
  refine zz_aload_n (i := 0) (pc := 0) C rfl rfl d_M_plainWarms_0 ?_
  refine zz_bipush (pc := 1) C zkb_11 d_M_plainWarms_1 ?_
  obtain ⟨q1, hq1, h⟩ := zz_bdE h
  refine zz_cVv (as := [.int (11 : Int32)]) (st := []) (pc := 3) C (zm_M_ran hq1) zcv_M_ran zsh_79 zl_12_357 (by omega) (Nat.le_of_ble_eq_true rfl) d_M_plainWarms_3 rfl rfl ?_
  refine zz_iload_n (i := 2) (pc := 6) C rfl rfl d_M_plainWarms_6 ?_
  refine zz_iload_n (i := 1) (pc := 7) C rfl rfl d_M_plainWarms_7 ?_
  refine zz_ixor (pc := 8) C d_M_plainWarms_8 ?_
  replace h := Option.some.inj h
  subst h
  exact zz_ret (pc := 9) C (v := some (.int (a2 ^^^ a1))) d_M_plainWarms_9 (Or.inl ⟨_, _, rfl, rfl, rfl, rfl⟩) rfl
theorem zm_M_plainWarms {G : zz_G} {l : Launch} {s : zz_S} {q : Int32 × zz_S} {a1 : Int32} {a2 : Int32} (h : f_M_plainWarms a1 a2 s = some q) : zz_M G l 3 y_M_plainWarms prog_14_method_85_code 3 (some .int) [.ref 79, .int a1, .int a2] zsh s (some (.int q.1), zsh, q.2) :=
  zz_M.intro (by decide) (Nat.le_of_ble_eq_true rfl) (Nat.le_refl _) (Nat.le_refl _) (fun Z C => zf_M_plainWarms C a1 a2 h)
theorem d_M_warming_0 : decode prog_14_method_86_code 0 = .ok (.aload_n 0, 1) := by decide +kernel
theorem d_M_warming_1 : decode prog_14_method_86_code 1 = .ok (.getfield 133, 3) := by decide +kernel
theorem d_M_warming_4 : decode prog_14_method_86_code 4 = .ok (.iload_n 1, 1) := by decide +kernel
theorem d_M_warming_5 : decode prog_14_method_86_code 5 = .ok (.iaload, 1) := by decide +kernel
theorem d_M_warming_6 : decode prog_14_method_86_code 6 = .ok (.iconst 3, 1) := by decide +kernel
theorem d_M_warming_7 : decode prog_14_method_86_code 7 = .ok (.if_icmp .ne (18), 3) := by decide +kernel
theorem d_M_warming_10 : decode prog_14_method_86_code 10 = .ok (.aload_n 0, 1) := by decide +kernel
theorem d_M_warming_11 : decode prog_14_method_86_code 11 = .ok (.bipush (40), 2) := by decide +kernel
theorem d_M_warming_13 : decode prog_14_method_86_code 13 = .ok (.invokevirtual 357, 3) := by decide +kernel
theorem d_M_warming_16 : decode prog_14_method_86_code 16 = .ok (.aload_n 0, 1) := by decide +kernel
theorem d_M_warming_17 : decode prog_14_method_86_code 17 = .ok (.iload_n 1, 1) := by decide +kernel
theorem d_M_warming_18 : decode prog_14_method_86_code 18 = .ok (.iload_n 2, 1) := by decide +kernel
theorem d_M_warming_19 : decode prog_14_method_86_code 19 = .ok (.invokevirtual 382, 3) := by decide +kernel
theorem d_M_warming_22 : decode prog_14_method_86_code 22 = .ok (.iconst 3, 1) := by decide +kernel
theorem d_M_warming_23 : decode prog_14_method_86_code 23 = .ok (.imul, 1) := by decide +kernel
theorem d_M_warming_24 : decode prog_14_method_86_code 24 = .ok (.ireturn, 1) := by decide +kernel
theorem d_M_warming_25 : decode prog_14_method_86_code 25 = .ok (.aload_n 0, 1) := by decide +kernel
theorem d_M_warming_26 : decode prog_14_method_86_code 26 = .ok (.getfield 133, 3) := by decide +kernel
theorem d_M_warming_29 : decode prog_14_method_86_code 29 = .ok (.iload_n 1, 1) := by decide +kernel
theorem d_M_warming_30 : decode prog_14_method_86_code 30 = .ok (.iaload, 1) := by decide +kernel
theorem d_M_warming_31 : decode prog_14_method_86_code 31 = .ok (.iconst 5, 1) := by decide +kernel
theorem d_M_warming_32 : decode prog_14_method_86_code 32 = .ok (.if_icmp .ne (25), 3) := by decide +kernel
theorem d_M_warming_35 : decode prog_14_method_86_code 35 = .ok (.aload_n 0, 1) := by decide +kernel
theorem d_M_warming_36 : decode prog_14_method_86_code 36 = .ok (.bipush (60), 2) := by decide +kernel
theorem d_M_warming_38 : decode prog_14_method_86_code 38 = .ok (.invokevirtual 357, 3) := by decide +kernel
theorem d_M_warming_41 : decode prog_14_method_86_code 41 = .ok (.aload_n 0, 1) := by decide +kernel
theorem d_M_warming_42 : decode prog_14_method_86_code 42 = .ok (.iload_n 1, 1) := by decide +kernel
theorem d_M_warming_43 : decode prog_14_method_86_code 43 = .ok (.iload_n 2, 1) := by decide +kernel
theorem d_M_warming_44 : decode prog_14_method_86_code 44 = .ok (.invokevirtual 382, 3) := by decide +kernel
theorem d_M_warming_47 : decode prog_14_method_86_code 47 = .ok (.istore_n 3, 1) := by decide +kernel
theorem d_M_warming_48 : decode prog_14_method_86_code 48 = .ok (.iload_n 3, 1) := by decide +kernel
theorem d_M_warming_49 : decode prog_14_method_86_code 49 = .ok (.aload_n 0, 1) := by decide +kernel
theorem d_M_warming_50 : decode prog_14_method_86_code 50 = .ok (.iload_n 1, 1) := by decide +kernel
theorem d_M_warming_51 : decode prog_14_method_86_code 51 = .ok (.iconst 2, 1) := by decide +kernel
theorem d_M_warming_52 : decode prog_14_method_86_code 52 = .ok (.invokevirtual 370, 3) := by decide +kernel
theorem d_M_warming_55 : decode prog_14_method_86_code 55 = .ok (.isub, 1) := by decide +kernel
theorem d_M_warming_56 : decode prog_14_method_86_code 56 = .ok (.ireturn, 1) := by decide +kernel
theorem d_M_warming_57 : decode prog_14_method_86_code 57 = .ok (.aload_n 0, 1) := by decide +kernel
theorem d_M_warming_58 : decode prog_14_method_86_code 58 = .ok (.iload_n 1, 1) := by decide +kernel
theorem d_M_warming_59 : decode prog_14_method_86_code 59 = .ok (.iload_n 2, 1) := by decide +kernel
theorem d_M_warming_60 : decode prog_14_method_86_code 60 = .ok (.invokevirtual 382, 3) := by decide +kernel
theorem d_M_warming_63 : decode prog_14_method_86_code 63 = .ok (.ireturn, 1) := by decide +kernel
set_option maxHeartbeats 4000000 in
set_option maxRecDepth 100000 in
theorem zf_M_warming {G : zz_G} {l : Launch} {Z : zz_Z} {q : Int32 × zz_S} {s : zz_S} (C : zz_Cx G l "OneBlanketModel" "warming" prog_14_method_86_code 4 (some .int) 6 (some (.int q.1), zsh, q.2) Z) (a1 : Int32) (a2 : Int32) (h : f_M_warming a1 a2 s = some q) : Z 0 [some (.ref 79), some (.int a1), some (.int a2), none] [] zsh s := by
  unfold f_M_warming at h
  refine zz_aload_n (i := 0) (pc := 0) C rfl rfl d_M_warming_0 ?_
  refine zz_getR (pc := 1) C zl_12_133 zsh_79 rfl d_M_warming_1 ?_
  refine zz_iload_n (i := 1) (pc := 4) C rfl rfl d_M_warming_4 ?_
  obtain ⟨hi1, h⟩ := zz_ckE h
  refine zz_iald (pc := 5) C rfl zsh_117 hi1 d_M_warming_5 ?_
  refine zz_iconst (pc := 6) C zki_3 d_M_warming_6 ?_
  refine zz_icmp_ne (tgt := 25) (pc := 7) C (by decide) d_M_warming_7 (fun hc2 => ?_) (fun hc2 => ?_)
  · rw [if_neg hc2] at h
    refine zz_aload_n (i := 0) (pc := 25) C rfl rfl d_M_warming_25 ?_
    refine zz_getR (pc := 26) C zl_12_133 zsh_79 rfl d_M_warming_26 ?_
    refine zz_iload_n (i := 1) (pc := 29) C rfl rfl d_M_warming_29 ?_
    refine zz_iald (pc := 30) C rfl zsh_117 hi1 d_M_warming_30 ?_
    refine zz_iconst (pc := 31) C zki_5 d_M_warming_31 ?_
    refine zz_icmp_ne (tgt := 57) (pc := 32) C (by decide) d_M_warming_32 (fun hc3 => ?_) (fun hc3 => ?_)
    · rw [if_neg hc3] at h
      refine zz_aload_n (i := 0) (pc := 57) C rfl rfl d_M_warming_57 ?_
      refine zz_iload_n (i := 1) (pc := 58) C rfl rfl d_M_warming_58 ?_
      refine zz_iload_n (i := 2) (pc := 59) C rfl rfl d_M_warming_59 ?_
      obtain ⟨q4, hq4, h⟩ := zz_bdE h
      refine zz_cVi (as := [.int a1, .int a2]) (st := []) (pc := 60) C (zm_M_plainWarms hq4) zcv_M_plainWarms zsh_79 zl_12_382 (by omega) (Nat.le_of_ble_eq_true rfl) d_M_warming_60 rfl rfl ?_
      replace h := Option.some.inj h
      subst h
      exact zz_ret (pc := 63) C (v := some (.int q4.1)) d_M_warming_63 (Or.inl ⟨_, _, rfl, rfl, rfl, rfl⟩) rfl
    · rw [if_pos hc3] at h
      refine zz_aload_n (i := 0) (pc := 35) C rfl rfl d_M_warming_35 ?_
      refine zz_bipush (pc := 36) C zkb_60 d_M_warming_36 ?_
      obtain ⟨q5, hq5, h⟩ := zz_bdE h
      refine zz_cVv (as := [.int (60 : Int32)]) (st := []) (pc := 38) C (zm_M_ran hq5) zcv_M_ran zsh_79 zl_12_357 (by omega) (Nat.le_of_ble_eq_true rfl) d_M_warming_38 rfl rfl ?_
      refine zz_aload_n (i := 0) (pc := 41) C rfl rfl d_M_warming_41 ?_
      refine zz_iload_n (i := 1) (pc := 42) C rfl rfl d_M_warming_42 ?_
      refine zz_iload_n (i := 2) (pc := 43) C rfl rfl d_M_warming_43 ?_
      obtain ⟨q6, hq6, h⟩ := zz_bdE h
      refine zz_cVi (as := [.int a1, .int a2]) (st := []) (pc := 44) C (zm_M_plainWarms hq6) zcv_M_plainWarms zsh_79 zl_12_382 (by omega) (Nat.le_of_ble_eq_true rfl) d_M_warming_44 rfl rfl ?_
      refine zz_istore_n (i := 3) (lo' := [some (.ref 79), some (.int a1), some (.int a2), some (.int q6.1)]) (pc := 47) C rfl (Nat.le_of_ble_eq_true rfl) rfl rfl d_M_warming_47 ?_
      refine zz_iload_n (i := 3) (pc := 48) C rfl rfl d_M_warming_48 ?_
      refine zz_aload_n (i := 0) (pc := 49) C rfl rfl d_M_warming_49 ?_
      refine zz_iload_n (i := 1) (pc := 50) C rfl rfl d_M_warming_50 ?_
      refine zz_iconst (pc := 51) C zki_2 d_M_warming_51 ?_
      obtain ⟨q7, hq7, h⟩ := zz_bdE h
      refine zz_cVi (as := [.int a1, .int (2 : Int32)]) (st := [.int q6.1]) (pc := 52) C (zm_M_turning hq7) zcv_M_turning zsh_79 zl_12_370 (by omega) (Nat.le_of_ble_eq_true rfl) d_M_warming_52 rfl rfl ?_
      refine zz_isub (pc := 55) C d_M_warming_55 ?_
      replace h := Option.some.inj h
      subst h
      exact zz_ret (pc := 56) C (v := some (.int (q6.1 - q7.1))) d_M_warming_56 (Or.inl ⟨_, _, rfl, rfl, rfl, rfl⟩) rfl
  · rw [if_pos hc2] at h
    refine zz_aload_n (i := 0) (pc := 10) C rfl rfl d_M_warming_10 ?_
    refine zz_bipush (pc := 11) C zkb_40 d_M_warming_11 ?_
    obtain ⟨q8, hq8, h⟩ := zz_bdE h
    refine zz_cVv (as := [.int (40 : Int32)]) (st := []) (pc := 13) C (zm_M_ran hq8) zcv_M_ran zsh_79 zl_12_357 (by omega) (Nat.le_of_ble_eq_true rfl) d_M_warming_13 rfl rfl ?_
    refine zz_aload_n (i := 0) (pc := 16) C rfl rfl d_M_warming_16 ?_
    refine zz_iload_n (i := 1) (pc := 17) C rfl rfl d_M_warming_17 ?_
    refine zz_iload_n (i := 2) (pc := 18) C rfl rfl d_M_warming_18 ?_
    obtain ⟨q9, hq9, h⟩ := zz_bdE h
    refine zz_cVi (as := [.int a1, .int a2]) (st := []) (pc := 19) C (zm_M_plainWarms hq9) zcv_M_plainWarms zsh_79 zl_12_382 (by omega) (Nat.le_of_ble_eq_true rfl) d_M_warming_19 rfl rfl ?_
    refine zz_iconst (pc := 22) C zki_3 d_M_warming_22 ?_
    refine zz_imul (pc := 23) C d_M_warming_23 ?_
    replace h := Option.some.inj h
    subst h
    exact zz_ret (pc := 24) C (v := some (.int (q9.1 * (3 : Int32)))) d_M_warming_24 (Or.inl ⟨_, _, rfl, rfl, rfl, rfl⟩) rfl
theorem zm_M_warming {G : zz_G} {l : Launch} {s : zz_S} {q : Int32 × zz_S} {a1 : Int32} {a2 : Int32} (h : f_M_warming a1 a2 s = some q) : zz_M G l 6 y_M_warming prog_14_method_86_code 4 (some .int) [.ref 79, .int a1, .int a2] zsh s (some (.int q.1), zsh, q.2) :=
  zz_M.intro (by decide) (Nat.le_of_ble_eq_true rfl) (Nat.le_refl _) (Nat.le_refl _) (fun Z C => zf_M_warming C a1 a2 h)
theorem d_M_drawing_0 : decode prog_14_method_84_code 0 = .ok (.aload_n 0, 1) := by decide +kernel
theorem d_M_drawing_1 : decode prog_14_method_84_code 1 = .ok (.getfield 133, 3) := by decide +kernel
theorem d_M_drawing_4 : decode prog_14_method_84_code 4 = .ok (.iload_n 1, 1) := by decide +kernel
theorem d_M_drawing_5 : decode prog_14_method_84_code 5 = .ok (.iaload, 1) := by decide +kernel
theorem d_M_drawing_6 : decode prog_14_method_84_code 6 = .ok (.iconst 3, 1) := by decide +kernel
theorem d_M_drawing_7 : decode prog_14_method_84_code 7 = .ok (.if_icmp .ne (18), 3) := by decide +kernel
theorem d_M_drawing_10 : decode prog_14_method_84_code 10 = .ok (.aload_n 0, 1) := by decide +kernel
theorem d_M_drawing_11 : decode prog_14_method_84_code 11 = .ok (.bipush (41), 2) := by decide +kernel
theorem d_M_drawing_13 : decode prog_14_method_84_code 13 = .ok (.invokevirtual 357, 3) := by decide +kernel
theorem d_M_drawing_16 : decode prog_14_method_84_code 16 = .ok (.aload_n 0, 1) := by decide +kernel
theorem d_M_drawing_17 : decode prog_14_method_84_code 17 = .ok (.iload_n 1, 1) := by decide +kernel
theorem d_M_drawing_18 : decode prog_14_method_84_code 18 = .ok (.iload_n 2, 1) := by decide +kernel
theorem d_M_drawing_19 : decode prog_14_method_84_code 19 = .ok (.iconst 1, 1) := by decide +kernel
theorem d_M_drawing_20 : decode prog_14_method_84_code 20 = .ok (.iadd, 1) := by decide +kernel
theorem d_M_drawing_21 : decode prog_14_method_84_code 21 = .ok (.invokevirtual 376, 3) := by decide +kernel
theorem d_M_drawing_24 : decode prog_14_method_84_code 24 = .ok (.ireturn, 1) := by decide +kernel
theorem d_M_drawing_25 : decode prog_14_method_84_code 25 = .ok (.aload_n 0, 1) := by decide +kernel
theorem d_M_drawing_26 : decode prog_14_method_84_code 26 = .ok (.getfield 133, 3) := by decide +kernel
theorem d_M_drawing_29 : decode prog_14_method_84_code 29 = .ok (.iload_n 1, 1) := by decide +kernel
theorem d_M_drawing_30 : decode prog_14_method_84_code 30 = .ok (.iaload, 1) := by decide +kernel
theorem d_M_drawing_31 : decode prog_14_method_84_code 31 = .ok (.bipush (7), 2) := by decide +kernel
theorem d_M_drawing_33 : decode prog_14_method_84_code 33 = .ok (.if_icmp .ne (25), 3) := by decide +kernel
theorem d_M_drawing_36 : decode prog_14_method_84_code 36 = .ok (.aload_n 0, 1) := by decide +kernel
theorem d_M_drawing_37 : decode prog_14_method_84_code 37 = .ok (.bipush (80), 2) := by decide +kernel
theorem d_M_drawing_39 : decode prog_14_method_84_code 39 = .ok (.invokevirtual 357, 3) := by decide +kernel
theorem d_M_drawing_42 : decode prog_14_method_84_code 42 = .ok (.aload_n 0, 1) := by decide +kernel
theorem d_M_drawing_43 : decode prog_14_method_84_code 43 = .ok (.iload_n 1, 1) := by decide +kernel
theorem d_M_drawing_44 : decode prog_14_method_84_code 44 = .ok (.iload_n 2, 1) := by decide +kernel
theorem d_M_drawing_45 : decode prog_14_method_84_code 45 = .ok (.invokevirtual 373, 3) := by decide +kernel
theorem d_M_drawing_48 : decode prog_14_method_84_code 48 = .ok (.istore_n 3, 1) := by decide +kernel
theorem d_M_drawing_49 : decode prog_14_method_84_code 49 = .ok (.iload_n 3, 1) := by decide +kernel
theorem d_M_drawing_50 : decode prog_14_method_84_code 50 = .ok (.aload_n 0, 1) := by decide +kernel
theorem d_M_drawing_51 : decode prog_14_method_84_code 51 = .ok (.iload_n 1, 1) := by decide +kernel
theorem d_M_drawing_52 : decode prog_14_method_84_code 52 = .ok (.iconst 2, 1) := by decide +kernel
theorem d_M_drawing_53 : decode prog_14_method_84_code 53 = .ok (.invokevirtual 379, 3) := by decide +kernel
theorem d_M_drawing_56 : decode prog_14_method_84_code 56 = .ok (.iadd, 1) := by decide +kernel
theorem d_M_drawing_57 : decode prog_14_method_84_code 57 = .ok (.ireturn, 1) := by decide +kernel
theorem d_M_drawing_58 : decode prog_14_method_84_code 58 = .ok (.aload_n 0, 1) := by decide +kernel
theorem d_M_drawing_59 : decode prog_14_method_84_code 59 = .ok (.getfield 133, 3) := by decide +kernel
theorem d_M_drawing_62 : decode prog_14_method_84_code 62 = .ok (.iload_n 1, 1) := by decide +kernel
theorem d_M_drawing_63 : decode prog_14_method_84_code 63 = .ok (.iaload, 1) := by decide +kernel
theorem d_M_drawing_64 : decode prog_14_method_84_code 64 = .ok (.iconst 2, 1) := by decide +kernel
theorem d_M_drawing_65 : decode prog_14_method_84_code 65 = .ok (.if_icmp .ne (12), 3) := by decide +kernel
theorem d_M_drawing_68 : decode prog_14_method_84_code 68 = .ok (.aload_n 0, 1) := by decide +kernel
theorem d_M_drawing_69 : decode prog_14_method_84_code 69 = .ok (.iload_n 1, 1) := by decide +kernel
theorem d_M_drawing_70 : decode prog_14_method_84_code 70 = .ok (.iload_n 2, 1) := by decide +kernel
theorem d_M_drawing_71 : decode prog_14_method_84_code 71 = .ok (.invokevirtual 376, 3) := by decide +kernel
theorem d_M_drawing_74 : decode prog_14_method_84_code 74 = .ok (.goto (9), 3) := by decide +kernel
theorem d_M_drawing_77 : decode prog_14_method_84_code 77 = .ok (.aload_n 0, 1) := by decide +kernel
theorem d_M_drawing_78 : decode prog_14_method_84_code 78 = .ok (.iload_n 1, 1) := by decide +kernel
theorem d_M_drawing_79 : decode prog_14_method_84_code 79 = .ok (.iload_n 2, 1) := by decide +kernel
theorem d_M_drawing_80 : decode prog_14_method_84_code 80 = .ok (.invokevirtual 373, 3) := by decide +kernel
theorem d_M_drawing_83 : decode prog_14_method_84_code 83 = .ok (.ireturn, 1) := by decide +kernel
set_option maxHeartbeats 4000000 in
set_option maxRecDepth 100000 in
theorem zf_M_drawing {G : zz_G} {l : Launch} {Z : zz_Z} {q : Int32 × zz_S} {s : zz_S} (C : zz_Cx G l "OneBlanketModel" "drawing" prog_14_method_84_code 4 (some .int) 8 (some (.int q.1), zsh, q.2) Z) (a1 : Int32) (a2 : Int32) (h : f_M_drawing a1 a2 s = some q) : Z 0 [some (.ref 79), some (.int a1), some (.int a2), none] [] zsh s := by
  unfold f_M_drawing at h
  refine zz_aload_n (i := 0) (pc := 0) C rfl rfl d_M_drawing_0 ?_
  refine zz_getR (pc := 1) C zl_12_133 zsh_79 rfl d_M_drawing_1 ?_
  refine zz_iload_n (i := 1) (pc := 4) C rfl rfl d_M_drawing_4 ?_
  obtain ⟨hi1, h⟩ := zz_ckE h
  refine zz_iald (pc := 5) C rfl zsh_117 hi1 d_M_drawing_5 ?_
  refine zz_iconst (pc := 6) C zki_3 d_M_drawing_6 ?_
  refine zz_icmp_ne (tgt := 25) (pc := 7) C (by decide) d_M_drawing_7 (fun hc2 => ?_) (fun hc2 => ?_)
  · rw [if_neg hc2] at h
    refine zz_aload_n (i := 0) (pc := 25) C rfl rfl d_M_drawing_25 ?_
    refine zz_getR (pc := 26) C zl_12_133 zsh_79 rfl d_M_drawing_26 ?_
    refine zz_iload_n (i := 1) (pc := 29) C rfl rfl d_M_drawing_29 ?_
    refine zz_iald (pc := 30) C rfl zsh_117 hi1 d_M_drawing_30 ?_
    refine zz_bipush (pc := 31) C zkb_7 d_M_drawing_31 ?_
    refine zz_icmp_ne (tgt := 58) (pc := 33) C (by decide) d_M_drawing_33 (fun hc3 => ?_) (fun hc3 => ?_)
    · rw [if_neg hc3] at h
      refine zz_aload_n (i := 0) (pc := 58) C rfl rfl d_M_drawing_58 ?_
      refine zz_getR (pc := 59) C zl_12_133 zsh_79 rfl d_M_drawing_59 ?_
      refine zz_iload_n (i := 1) (pc := 62) C rfl rfl d_M_drawing_62 ?_
      refine zz_iald (pc := 63) C rfl zsh_117 hi1 d_M_drawing_63 ?_
      refine zz_iconst (pc := 64) C zki_2 d_M_drawing_64 ?_
      refine zz_icmp_ne (tgt := 77) (pc := 65) C (by decide) d_M_drawing_65 (fun hc4 => ?_) (fun hc4 => ?_)
      · rw [if_neg hc4] at h
        refine zz_aload_n (i := 0) (pc := 77) C rfl rfl d_M_drawing_77 ?_
        refine zz_iload_n (i := 1) (pc := 78) C rfl rfl d_M_drawing_78 ?_
        refine zz_iload_n (i := 2) (pc := 79) C rfl rfl d_M_drawing_79 ?_
        obtain ⟨q5, hq5, h⟩ := zz_bdE h
        refine zz_cVi (as := [.int a1, .int a2]) (st := []) (pc := 80) C (zm_M_plainDraws hq5) zcv_M_plainDraws zsh_79 zl_12_373 (by omega) (Nat.le_of_ble_eq_true rfl) d_M_drawing_80 rfl rfl ?_
        replace h := Option.some.inj h
        subst h
        exact zz_ret (pc := 83) C (v := some (.int q5.1)) d_M_drawing_83 (Or.inl ⟨_, _, rfl, rfl, rfl, rfl⟩) rfl
      · rw [if_pos hc4] at h
        refine zz_aload_n (i := 0) (pc := 68) C rfl rfl d_M_drawing_68 ?_
        refine zz_iload_n (i := 1) (pc := 69) C rfl rfl d_M_drawing_69 ?_
        refine zz_iload_n (i := 2) (pc := 70) C rfl rfl d_M_drawing_70 ?_
        obtain ⟨q6, hq6, h⟩ := zz_bdE h
        refine zz_cVi (as := [.int a1, .int a2]) (st := []) (pc := 71) C (zm_M_underDraws hq6) zcv_M_underDraws zsh_79 zl_12_376 (by omega) (Nat.le_of_ble_eq_true rfl) d_M_drawing_71 rfl rfl ?_
        refine zz_goto (tgt := 83) (pc := 74) C (by decide) d_M_drawing_74 ?_
        replace h := Option.some.inj h
        subst h
        exact zz_ret (pc := 83) C (v := some (.int q6.1)) d_M_drawing_83 (Or.inl ⟨_, _, rfl, rfl, rfl, rfl⟩) rfl
    · rw [if_pos hc3] at h
      refine zz_aload_n (i := 0) (pc := 36) C rfl rfl d_M_drawing_36 ?_
      refine zz_bipush (pc := 37) C zkb_80 d_M_drawing_37 ?_
      obtain ⟨q7, hq7, h⟩ := zz_bdE h
      refine zz_cVv (as := [.int (80 : Int32)]) (st := []) (pc := 39) C (zm_M_ran hq7) zcv_M_ran zsh_79 zl_12_357 (by omega) (Nat.le_of_ble_eq_true rfl) d_M_drawing_39 rfl rfl ?_
      refine zz_aload_n (i := 0) (pc := 42) C rfl rfl d_M_drawing_42 ?_
      refine zz_iload_n (i := 1) (pc := 43) C rfl rfl d_M_drawing_43 ?_
      refine zz_iload_n (i := 2) (pc := 44) C rfl rfl d_M_drawing_44 ?_
      obtain ⟨q8, hq8, h⟩ := zz_bdE h
      refine zz_cVi (as := [.int a1, .int a2]) (st := []) (pc := 45) C (zm_M_plainDraws hq8) zcv_M_plainDraws zsh_79 zl_12_373 (by omega) (Nat.le_of_ble_eq_true rfl) d_M_drawing_45 rfl rfl ?_
      refine zz_istore_n (i := 3) (lo' := [some (.ref 79), some (.int a1), some (.int a2), some (.int q8.1)]) (pc := 48) C rfl (Nat.le_of_ble_eq_true rfl) rfl rfl d_M_drawing_48 ?_
      refine zz_iload_n (i := 3) (pc := 49) C rfl rfl d_M_drawing_49 ?_
      refine zz_aload_n (i := 0) (pc := 50) C rfl rfl d_M_drawing_50 ?_
      refine zz_iload_n (i := 1) (pc := 51) C rfl rfl d_M_drawing_51 ?_
      refine zz_iconst (pc := 52) C zki_2 d_M_drawing_52 ?_
      obtain ⟨q9, hq9, h⟩ := zz_bdE h
      refine zz_cVi (as := [.int a1, .int (2 : Int32)]) (st := [.int q8.1]) (pc := 53) C (zm_M_warming hq9) zcv_M_warming zsh_79 zl_12_379 (by omega) (Nat.le_of_ble_eq_true rfl) d_M_drawing_53 rfl rfl ?_
      refine zz_iadd (pc := 56) C d_M_drawing_56 ?_
      replace h := Option.some.inj h
      subst h
      exact zz_ret (pc := 57) C (v := some (.int (q8.1 + q9.1))) d_M_drawing_57 (Or.inl ⟨_, _, rfl, rfl, rfl, rfl⟩) rfl
  · rw [if_pos hc2] at h
    refine zz_aload_n (i := 0) (pc := 10) C rfl rfl d_M_drawing_10 ?_
    refine zz_bipush (pc := 11) C zkb_41 d_M_drawing_11 ?_
    obtain ⟨q10, hq10, h⟩ := zz_bdE h
    refine zz_cVv (as := [.int (41 : Int32)]) (st := []) (pc := 13) C (zm_M_ran hq10) zcv_M_ran zsh_79 zl_12_357 (by omega) (Nat.le_of_ble_eq_true rfl) d_M_drawing_13 rfl rfl ?_
    refine zz_aload_n (i := 0) (pc := 16) C rfl rfl d_M_drawing_16 ?_
    refine zz_iload_n (i := 1) (pc := 17) C rfl rfl d_M_drawing_17 ?_
    refine zz_iload_n (i := 2) (pc := 18) C rfl rfl d_M_drawing_18 ?_
    refine zz_iconst (pc := 19) C zki_1 d_M_drawing_19 ?_
    refine zz_iadd (pc := 20) C d_M_drawing_20 ?_
    obtain ⟨q11, hq11, h⟩ := zz_bdE h
    refine zz_cVi (as := [.int a1, .int (a2 + (1 : Int32))]) (st := []) (pc := 21) C (zm_M_underDraws hq11) zcv_M_underDraws zsh_79 zl_12_376 (by omega) (Nat.le_of_ble_eq_true rfl) d_M_drawing_21 rfl rfl ?_
    replace h := Option.some.inj h
    subst h
    exact zz_ret (pc := 24) C (v := some (.int q11.1)) d_M_drawing_24 (Or.inl ⟨_, _, rfl, rfl, rfl, rfl⟩) rfl
theorem zm_M_drawing {G : zz_G} {l : Launch} {s : zz_S} {q : Int32 × zz_S} {a1 : Int32} {a2 : Int32} (h : f_M_drawing a1 a2 s = some q) : zz_M G l 8 y_M_drawing prog_14_method_84_code 4 (some .int) [.ref 79, .int a1, .int a2] zsh s (some (.int q.1), zsh, q.2) :=
  zz_M.intro (by decide) (Nat.le_of_ble_eq_true rfl) (Nat.le_refl _) (Nat.le_refl _) (fun Z C => zf_M_drawing C a1 a2 h)
theorem d_M_plainWakes_0 : decode prog_14_method_87_code 0 = .ok (.aload_n 0, 1) := by decide +kernel
theorem d_M_plainWakes_1 : decode prog_14_method_87_code 1 = .ok (.iconst 2, 1) := by decide +kernel
theorem d_M_plainWakes_2 : decode prog_14_method_87_code 2 = .ok (.invokevirtual 357, 3) := by decide +kernel
theorem d_M_plainWakes_5 : decode prog_14_method_87_code 5 = .ok (.aload_n 0, 1) := by decide +kernel
theorem d_M_plainWakes_6 : decode prog_14_method_87_code 6 = .ok (.iload_n 1, 1) := by decide +kernel
theorem d_M_plainWakes_7 : decode prog_14_method_87_code 7 = .ok (.iload_n 2, 1) := by decide +kernel
theorem d_M_plainWakes_8 : decode prog_14_method_87_code 8 = .ok (.invokevirtual 385, 3) := by decide +kernel
theorem d_M_plainWakes_11 : decode prog_14_method_87_code 11 = .ok (.istore_n 3, 1) := by decide +kernel
theorem d_M_plainWakes_12 : decode prog_14_method_87_code 12 = .ok (.iload_n 3, 1) := by decide +kernel
theorem d_M_plainWakes_13 : decode prog_14_method_87_code 13 = .ok (.aload_n 0, 1) := by decide +kernel
theorem d_M_plainWakes_14 : decode prog_14_method_87_code 14 = .ok (.iload_n 1, 1) := by decide +kernel
theorem d_M_plainWakes_15 : decode prog_14_method_87_code 15 = .ok (.iconst 1, 1) := by decide +kernel
theorem d_M_plainWakes_16 : decode prog_14_method_87_code 16 = .ok (.invokevirtual 379, 3) := by decide +kernel
theorem d_M_plainWakes_19 : decode prog_14_method_87_code 19 = .ok (.isub, 1) := by decide +kernel
theorem d_M_plainWakes_20 : decode prog_14_method_87_code 20 = .ok (.ireturn, 1) := by decide +kernel
set_option maxHeartbeats 4000000 in
set_option maxRecDepth 100000 in
theorem zf_M_plainWakes {G : zz_G} {l : Launch} {Z : zz_Z} {q : Int32 × zz_S} {s : zz_S} (C : zz_Cx G l "OneBlanketModel" "plainWakes" prog_14_method_87_code 4 (some .int) 9 (some (.int q.1), zsh, q.2) Z) (a1 : Int32) (a2 : Int32) (h : f_M_plainWakes a1 a2 s = some q) : Z 0 [some (.ref 79), some (.int a1), some (.int a2), none] [] zsh s := by
  unfold f_M_plainWakes at h
  refine zz_aload_n (i := 0) (pc := 0) C rfl rfl d_M_plainWakes_0 ?_
  refine zz_iconst (pc := 1) C zki_2 d_M_plainWakes_1 ?_
  obtain ⟨q1, hq1, h⟩ := zz_bdE h
  refine zz_cVv (as := [.int (2 : Int32)]) (st := []) (pc := 2) C (zm_M_ran hq1) zcv_M_ran zsh_79 zl_12_357 (by omega) (Nat.le_of_ble_eq_true rfl) d_M_plainWakes_2 rfl rfl ?_
  refine zz_aload_n (i := 0) (pc := 5) C rfl rfl d_M_plainWakes_5 ?_
  refine zz_iload_n (i := 1) (pc := 6) C rfl rfl d_M_plainWakes_6 ?_
  refine zz_iload_n (i := 2) (pc := 7) C rfl rfl d_M_plainWakes_7 ?_
  obtain ⟨q2, hq2, h⟩ := zz_bdE h
  refine zz_cVi (as := [.int a1, .int a2]) (st := []) (pc := 8) C (zm_M_drawing hq2) zcv_M_drawing zsh_79 zl_12_385 (by omega) (Nat.le_of_ble_eq_true rfl) d_M_plainWakes_8 rfl rfl ?_
  refine zz_istore_n (i := 3) (lo' := [some (.ref 79), some (.int a1), some (.int a2), some (.int q2.1)]) (pc := 11) C rfl (Nat.le_of_ble_eq_true rfl) rfl rfl d_M_plainWakes_11 ?_
  refine zz_iload_n (i := 3) (pc := 12) C rfl rfl d_M_plainWakes_12 ?_
  refine zz_aload_n (i := 0) (pc := 13) C rfl rfl d_M_plainWakes_13 ?_
  refine zz_iload_n (i := 1) (pc := 14) C rfl rfl d_M_plainWakes_14 ?_
  refine zz_iconst (pc := 15) C zki_1 d_M_plainWakes_15 ?_
  obtain ⟨q3, hq3, h⟩ := zz_bdE h
  refine zz_cVi (as := [.int a1, .int (1 : Int32)]) (st := [.int q2.1]) (pc := 16) C (zm_M_warming hq3) zcv_M_warming zsh_79 zl_12_379 (by omega) (Nat.le_of_ble_eq_true rfl) d_M_plainWakes_16 rfl rfl ?_
  refine zz_isub (pc := 19) C d_M_plainWakes_19 ?_
  replace h := Option.some.inj h
  subst h
  exact zz_ret (pc := 20) C (v := some (.int (q2.1 - q3.1))) d_M_plainWakes_20 (Or.inl ⟨_, _, rfl, rfl, rfl, rfl⟩) rfl
theorem zm_M_plainWakes {G : zz_G} {l : Launch} {s : zz_S} {q : Int32 × zz_S} {a1 : Int32} {a2 : Int32} (h : f_M_plainWakes a1 a2 s = some q) : zz_M G l 9 y_M_plainWakes prog_14_method_87_code 4 (some .int) [.ref 79, .int a1, .int a2] zsh s (some (.int q.1), zsh, q.2) :=
  zz_M.intro (by decide) (Nat.le_of_ble_eq_true rfl) (Nat.le_refl _) (Nat.le_refl _) (fun Z C => zf_M_plainWakes C a1 a2 h)
theorem d_M_wokenWakes_0 : decode prog_14_method_88_code 0 = .ok (.aload_n 0, 1) := by decide +kernel
theorem d_M_wokenWakes_1 : decode prog_14_method_88_code 1 = .ok (.bipush (50), 2) := by decide +kernel
theorem d_M_wokenWakes_3 : decode prog_14_method_88_code 3 = .ok (.invokevirtual 357, 3) := by decide +kernel
theorem d_M_wokenWakes_6 : decode prog_14_method_88_code 6 = .ok (.aload_n 0, 1) := by decide +kernel
theorem d_M_wokenWakes_7 : decode prog_14_method_88_code 7 = .ok (.iload_n 1, 1) := by decide +kernel
theorem d_M_wokenWakes_8 : decode prog_14_method_88_code 8 = .ok (.iload_n 2, 1) := by decide +kernel
theorem d_M_wokenWakes_9 : decode prog_14_method_88_code 9 = .ok (.invokevirtual 388, 3) := by decide +kernel
theorem d_M_wokenWakes_12 : decode prog_14_method_88_code 12 = .ok (.iconst 5, 1) := by decide +kernel
theorem d_M_wokenWakes_13 : decode prog_14_method_88_code 13 = .ok (.ixor, 1) := by decide +kernel
theorem d_M_wokenWakes_14 : decode prog_14_method_88_code 14 = .ok (.ireturn, 1) := by decide +kernel
set_option maxHeartbeats 4000000 in
set_option maxRecDepth 100000 in
theorem zf_M_wokenWakes {G : zz_G} {l : Launch} {Z : zz_Z} {q : Int32 × zz_S} {s : zz_S} (C : zz_Cx G l "OneBlanketModel" "wokenWakes" prog_14_method_88_code 3 (some .int) 10 (some (.int q.1), zsh, q.2) Z) (a1 : Int32) (a2 : Int32) (h : f_M_wokenWakes a1 a2 s = some q) : Z 0 [some (.ref 79), some (.int a1), some (.int a2)] [] zsh s := by
  unfold f_M_wokenWakes at h
  refine zz_aload_n (i := 0) (pc := 0) C rfl rfl d_M_wokenWakes_0 ?_
  refine zz_bipush (pc := 1) C zkb_50 d_M_wokenWakes_1 ?_
  obtain ⟨q1, hq1, h⟩ := zz_bdE h
  refine zz_cVv (as := [.int (50 : Int32)]) (st := []) (pc := 3) C (zm_M_ran hq1) zcv_M_ran zsh_79 zl_12_357 (by omega) (Nat.le_of_ble_eq_true rfl) d_M_wokenWakes_3 rfl rfl ?_
  refine zz_aload_n (i := 0) (pc := 6) C rfl rfl d_M_wokenWakes_6 ?_
  refine zz_iload_n (i := 1) (pc := 7) C rfl rfl d_M_wokenWakes_7 ?_
  refine zz_iload_n (i := 2) (pc := 8) C rfl rfl d_M_wokenWakes_8 ?_
  obtain ⟨q2, hq2, h⟩ := zz_bdE h
  refine zz_cVi (as := [.int a1, .int a2]) (st := []) (pc := 9) C (zm_M_plainWakes hq2) zcv_M_plainWakes zsh_79 zl_12_388 (by omega) (Nat.le_of_ble_eq_true rfl) d_M_wokenWakes_9 rfl rfl ?_
  refine zz_iconst (pc := 12) C zki_5 d_M_wokenWakes_12 ?_
  refine zz_ixor (pc := 13) C d_M_wokenWakes_13 ?_
  replace h := Option.some.inj h
  subst h
  exact zz_ret (pc := 14) C (v := some (.int (q2.1 ^^^ (5 : Int32)))) d_M_wokenWakes_14 (Or.inl ⟨_, _, rfl, rfl, rfl, rfl⟩) rfl
theorem zm_M_wokenWakes {G : zz_G} {l : Launch} {s : zz_S} {q : Int32 × zz_S} {a1 : Int32} {a2 : Int32} (h : f_M_wokenWakes a1 a2 s = some q) : zz_M G l 10 y_M_wokenWakes prog_14_method_88_code 3 (some .int) [.ref 79, .int a1, .int a2] zsh s (some (.int q.1), zsh, q.2) :=
  zz_M.intro (by decide) (Nat.le_of_ble_eq_true rfl) (Nat.le_refl _) (Nat.le_refl _) (fun Z C => zf_M_wokenWakes C a1 a2 h)
theorem d_M_waking_0 : decode prog_14_method_89_code 0 = .ok (.aload_n 0, 1) := by decide +kernel
theorem d_M_waking_1 : decode prog_14_method_89_code 1 = .ok (.getfield 133, 3) := by decide +kernel
theorem d_M_waking_4 : decode prog_14_method_89_code 4 = .ok (.iload_n 1, 1) := by decide +kernel
theorem d_M_waking_5 : decode prog_14_method_89_code 5 = .ok (.iaload, 1) := by decide +kernel
theorem d_M_waking_6 : decode prog_14_method_89_code 6 = .ok (.iconst 5, 1) := by decide +kernel
theorem d_M_waking_7 : decode prog_14_method_89_code 7 = .ok (.if_icmp .ne (18), 3) := by decide +kernel
theorem d_M_waking_10 : decode prog_14_method_89_code 10 = .ok (.aload_n 0, 1) := by decide +kernel
theorem d_M_waking_11 : decode prog_14_method_89_code 11 = .ok (.bipush (61), 2) := by decide +kernel
theorem d_M_waking_13 : decode prog_14_method_89_code 13 = .ok (.invokevirtual 357, 3) := by decide +kernel
theorem d_M_waking_16 : decode prog_14_method_89_code 16 = .ok (.aload_n 0, 1) := by decide +kernel
theorem d_M_waking_17 : decode prog_14_method_89_code 17 = .ok (.iload_n 1, 1) := by decide +kernel
theorem d_M_waking_18 : decode prog_14_method_89_code 18 = .ok (.iload_n 2, 1) := by decide +kernel
theorem d_M_waking_19 : decode prog_14_method_89_code 19 = .ok (.invokevirtual 391, 3) := by decide +kernel
theorem d_M_waking_22 : decode prog_14_method_89_code 22 = .ok (.iconst 1, 1) := by decide +kernel
theorem d_M_waking_23 : decode prog_14_method_89_code 23 = .ok (.iadd, 1) := by decide +kernel
theorem d_M_waking_24 : decode prog_14_method_89_code 24 = .ok (.ireturn, 1) := by decide +kernel
theorem d_M_waking_25 : decode prog_14_method_89_code 25 = .ok (.aload_n 0, 1) := by decide +kernel
theorem d_M_waking_26 : decode prog_14_method_89_code 26 = .ok (.getfield 133, 3) := by decide +kernel
theorem d_M_waking_29 : decode prog_14_method_89_code 29 = .ok (.iload_n 1, 1) := by decide +kernel
theorem d_M_waking_30 : decode prog_14_method_89_code 30 = .ok (.iaload, 1) := by decide +kernel
theorem d_M_waking_31 : decode prog_14_method_89_code 31 = .ok (.iconst 4, 1) := by decide +kernel
theorem d_M_waking_32 : decode prog_14_method_89_code 32 = .ok (.if_icmp .ne (12), 3) := by decide +kernel
theorem d_M_waking_35 : decode prog_14_method_89_code 35 = .ok (.aload_n 0, 1) := by decide +kernel
theorem d_M_waking_36 : decode prog_14_method_89_code 36 = .ok (.iload_n 1, 1) := by decide +kernel
theorem d_M_waking_37 : decode prog_14_method_89_code 37 = .ok (.iload_n 2, 1) := by decide +kernel
theorem d_M_waking_38 : decode prog_14_method_89_code 38 = .ok (.invokevirtual 391, 3) := by decide +kernel
theorem d_M_waking_41 : decode prog_14_method_89_code 41 = .ok (.goto (9), 3) := by decide +kernel
theorem d_M_waking_44 : decode prog_14_method_89_code 44 = .ok (.aload_n 0, 1) := by decide +kernel
theorem d_M_waking_45 : decode prog_14_method_89_code 45 = .ok (.iload_n 1, 1) := by decide +kernel
theorem d_M_waking_46 : decode prog_14_method_89_code 46 = .ok (.iload_n 2, 1) := by decide +kernel
theorem d_M_waking_47 : decode prog_14_method_89_code 47 = .ok (.invokevirtual 388, 3) := by decide +kernel
theorem d_M_waking_50 : decode prog_14_method_89_code 50 = .ok (.ireturn, 1) := by decide +kernel
set_option maxHeartbeats 4000000 in
set_option maxRecDepth 100000 in
theorem zf_M_waking {G : zz_G} {l : Launch} {Z : zz_Z} {q : Int32 × zz_S} {s : zz_S} (C : zz_Cx G l "OneBlanketModel" "waking" prog_14_method_89_code 3 (some .int) 11 (some (.int q.1), zsh, q.2) Z) (a1 : Int32) (a2 : Int32) (h : f_M_waking a1 a2 s = some q) : Z 0 [some (.ref 79), some (.int a1), some (.int a2)] [] zsh s := by
  unfold f_M_waking at h
  refine zz_aload_n (i := 0) (pc := 0) C rfl rfl d_M_waking_0 ?_
  refine zz_getR (pc := 1) C zl_12_133 zsh_79 rfl d_M_waking_1 ?_
  refine zz_iload_n (i := 1) (pc := 4) C rfl rfl d_M_waking_4 ?_
  obtain ⟨hi1, h⟩ := zz_ckE h
  refine zz_iald (pc := 5) C rfl zsh_117 hi1 d_M_waking_5 ?_
  refine zz_iconst (pc := 6) C zki_5 d_M_waking_6 ?_
  refine zz_icmp_ne (tgt := 25) (pc := 7) C (by decide) d_M_waking_7 (fun hc2 => ?_) (fun hc2 => ?_)
  · rw [if_neg hc2] at h
    refine zz_aload_n (i := 0) (pc := 25) C rfl rfl d_M_waking_25 ?_
    refine zz_getR (pc := 26) C zl_12_133 zsh_79 rfl d_M_waking_26 ?_
    refine zz_iload_n (i := 1) (pc := 29) C rfl rfl d_M_waking_29 ?_
    refine zz_iald (pc := 30) C rfl zsh_117 hi1 d_M_waking_30 ?_
    refine zz_iconst (pc := 31) C zki_4 d_M_waking_31 ?_
    refine zz_icmp_ne (tgt := 44) (pc := 32) C (by decide) d_M_waking_32 (fun hc3 => ?_) (fun hc3 => ?_)
    · rw [if_neg hc3] at h
      refine zz_aload_n (i := 0) (pc := 44) C rfl rfl d_M_waking_44 ?_
      refine zz_iload_n (i := 1) (pc := 45) C rfl rfl d_M_waking_45 ?_
      refine zz_iload_n (i := 2) (pc := 46) C rfl rfl d_M_waking_46 ?_
      obtain ⟨q4, hq4, h⟩ := zz_bdE h
      refine zz_cVi (as := [.int a1, .int a2]) (st := []) (pc := 47) C (zm_M_plainWakes hq4) zcv_M_plainWakes zsh_79 zl_12_388 (by omega) (Nat.le_of_ble_eq_true rfl) d_M_waking_47 rfl rfl ?_
      replace h := Option.some.inj h
      subst h
      exact zz_ret (pc := 50) C (v := some (.int q4.1)) d_M_waking_50 (Or.inl ⟨_, _, rfl, rfl, rfl, rfl⟩) rfl
    · rw [if_pos hc3] at h
      refine zz_aload_n (i := 0) (pc := 35) C rfl rfl d_M_waking_35 ?_
      refine zz_iload_n (i := 1) (pc := 36) C rfl rfl d_M_waking_36 ?_
      refine zz_iload_n (i := 2) (pc := 37) C rfl rfl d_M_waking_37 ?_
      obtain ⟨q5, hq5, h⟩ := zz_bdE h
      refine zz_cVi (as := [.int a1, .int a2]) (st := []) (pc := 38) C (zm_M_wokenWakes hq5) zcv_M_wokenWakes zsh_79 zl_12_391 (by omega) (Nat.le_of_ble_eq_true rfl) d_M_waking_38 rfl rfl ?_
      refine zz_goto (tgt := 50) (pc := 41) C (by decide) d_M_waking_41 ?_
      replace h := Option.some.inj h
      subst h
      exact zz_ret (pc := 50) C (v := some (.int q5.1)) d_M_waking_50 (Or.inl ⟨_, _, rfl, rfl, rfl, rfl⟩) rfl
  · rw [if_pos hc2] at h
    refine zz_aload_n (i := 0) (pc := 10) C rfl rfl d_M_waking_10 ?_
    refine zz_bipush (pc := 11) C zkb_61 d_M_waking_11 ?_
    obtain ⟨q6, hq6, h⟩ := zz_bdE h
    refine zz_cVv (as := [.int (61 : Int32)]) (st := []) (pc := 13) C (zm_M_ran hq6) zcv_M_ran zsh_79 zl_12_357 (by omega) (Nat.le_of_ble_eq_true rfl) d_M_waking_13 rfl rfl ?_
    refine zz_aload_n (i := 0) (pc := 16) C rfl rfl d_M_waking_16 ?_
    refine zz_iload_n (i := 1) (pc := 17) C rfl rfl d_M_waking_17 ?_
    refine zz_iload_n (i := 2) (pc := 18) C rfl rfl d_M_waking_18 ?_
    obtain ⟨q7, hq7, h⟩ := zz_bdE h
    refine zz_cVi (as := [.int a1, .int a2]) (st := []) (pc := 19) C (zm_M_wokenWakes hq7) zcv_M_wokenWakes zsh_79 zl_12_391 (by omega) (Nat.le_of_ble_eq_true rfl) d_M_waking_19 rfl rfl ?_
    refine zz_iconst (pc := 22) C zki_1 d_M_waking_22 ?_
    refine zz_iadd (pc := 23) C d_M_waking_23 ?_
    replace h := Option.some.inj h
    subst h
    exact zz_ret (pc := 24) C (v := some (.int (q7.1 + (1 : Int32)))) d_M_waking_24 (Or.inl ⟨_, _, rfl, rfl, rfl, rfl⟩) rfl
theorem zm_M_waking {G : zz_G} {l : Launch} {s : zz_S} {q : Int32 × zz_S} {a1 : Int32} {a2 : Int32} (h : f_M_waking a1 a2 s = some q) : zz_M G l 11 y_M_waking prog_14_method_89_code 3 (some .int) [.ref 79, .int a1, .int a2] zsh s (some (.int q.1), zsh, q.2) :=
  zz_M.intro (by decide) (Nat.le_of_ble_eq_true rfl) (Nat.le_refl _) (Nat.le_refl _) (fun Z C => zf_M_waking C a1 a2 h)
theorem d_M_isBody_0 : decode prog_14_method_74_code 0 = .ok (.iload_n 1, 1) := by decide +kernel
theorem d_M_isBody_1 : decode prog_14_method_74_code 1 = .ok (.iconst 0, 1) := by decide +kernel
theorem d_M_isBody_2 : decode prog_14_method_74_code 2 = .ok (.aload_n 0, 1) := by decide +kernel
theorem d_M_isBody_3 : decode prog_14_method_74_code 3 = .ok (.getfield 351, 3) := by decide +kernel
theorem d_M_isBody_6 : decode prog_14_method_74_code 6 = .ok (.iconst 1, 1) := by decide +kernel
theorem d_M_isBody_7 : decode prog_14_method_74_code 7 = .ok (.isub, 1) := by decide +kernel
theorem d_M_isBody_8 : decode prog_14_method_74_code 8 = .ok (.invokestatic 158, 3) := by decide +kernel
theorem d_M_isBody_11 : decode prog_14_method_74_code 11 = .ok (.ireturn, 1) := by decide +kernel
set_option maxHeartbeats 4000000 in
set_option maxRecDepth 100000 in
theorem zf_M_isBody {G : zz_G} {l : Launch} {Z : zz_Z} {q : Int32} {s : zz_S} (C : zz_Cx G l "OneBlanketModel" "isBody" prog_14_method_74_code 2 (some .boolean) 3 (some (.int q), zsh, s) Z) (a1 : Int32) (h : f_M_isBody a1 s = q) : Z 0 [some (.ref 79), some (.int a1)] [] zsh s := by
  unfold f_M_isBody at h
  refine zz_iload_n (i := 1) (pc := 0) C rfl rfl d_M_isBody_0 ?_
  refine zz_iconst (pc := 1) C zki_0 d_M_isBody_1 ?_
  refine zz_aload_n (i := 0) (pc := 2) C rfl rfl d_M_isBody_2 ?_
  refine zz_getI (pc := 3) C zl_12_351 zsh_79 rfl d_M_isBody_3 ?_
  refine zz_iconst (pc := 6) C zki_1 d_M_isBody_6 ?_
  refine zz_isub (pc := 7) C d_M_isBody_7 ?_
  refine zz_cSi (as := [.int a1, .int (0 : Int32), .int ((s.1 79 55) - (1 : Int32))]) (st := []) (pc := 8) C (zm_M_in rfl) zcs_M_in zl_12_158 (by omega) (Nat.le_of_ble_eq_true rfl) d_M_isBody_8 rfl rfl ?_
  subst h
  -- boolean of (f_M_in a1 (0 : Int32) ((s.1 79 55) - (1 : Int32)))
  exact zz_ret (pc := 11) C (v := some (.int (f_M_in a1 (0 : Int32) ((s.1 79 55) - (1 : Int32))))) d_M_isBody_11 (Or.inl ⟨_, _, rfl, rfl, rfl, (zz_nb (zbool_M_in _ _ _))⟩) rfl
theorem zm_M_isBody {G : zz_G} {l : Launch} {s : zz_S} {q : Int32} {a1 : Int32} (h : f_M_isBody a1 s = q) : zz_M G l 3 y_M_isBody prog_14_method_74_code 2 (some .boolean) [.ref 79, .int a1] zsh s (some (.int q), zsh, s) :=
  zz_M.intro (by decide) (Nat.le_of_ble_eq_true rfl) (Nat.le_refl _) (Nat.le_refl _) (fun Z C => zf_M_isBody C a1 h)
