theorem d_Night_turnOver_0 : decode prog_6_method_9_code 0 = .ok (.iload_n 2, 1) := by decide +kernel
theorem d_Night_turnOver_1 : decode prog_6_method_9_code 1 = .ok (.ifCond .ge (7), 3) := by decide +kernel
theorem d_Night_turnOver_4 : decode prog_6_method_9_code 4 = .ok (.iconst (-1), 1) := by decide +kernel
theorem d_Night_turnOver_5 : decode prog_6_method_9_code 5 = .ok (.goto (4), 3) := by decide +kernel
theorem d_Night_turnOver_8 : decode prog_6_method_9_code 8 = .ok (.iconst 1, 1) := by decide +kernel
theorem d_Night_turnOver_9 : decode prog_6_method_9_code 9 = .ok (.istore 4, 2) := by decide +kernel
theorem d_Night_turnOver_11 : decode prog_6_method_9_code 11 = .ok (.iconst 0, 1) := by decide +kernel
theorem d_Night_turnOver_12 : decode prog_6_method_9_code 12 = .ok (.istore 5, 2) := by decide +kernel
theorem d_Night_turnOver_14 : decode prog_6_method_9_code 14 = .ok (.iload 5, 2) := by decide +kernel
theorem d_Night_turnOver_16 : decode prog_6_method_9_code 16 = .ok (.aload_n 0, 1) := by decide +kernel
theorem d_Night_turnOver_17 : decode prog_6_method_9_code 17 = .ok (.getfield 41, 3) := by decide +kernel
theorem d_Night_turnOver_20 : decode prog_6_method_9_code 20 = .ok (.getfield 162, 3) := by decide +kernel
theorem d_Night_turnOver_23 : decode prog_6_method_9_code 23 = .ok (.if_icmp .ge (28), 3) := by decide +kernel
theorem d_Night_turnOver_26 : decode prog_6_method_9_code 26 = .ok (.aload_n 0, 1) := by decide +kernel
theorem d_Night_turnOver_27 : decode prog_6_method_9_code 27 = .ok (.getfield 25, 3) := by decide +kernel
theorem d_Night_turnOver_30 : decode prog_6_method_9_code 30 = .ok (.iload 5, 2) := by decide +kernel
theorem d_Night_turnOver_32 : decode prog_6_method_9_code 32 = .ok (.iload 4, 2) := by decide +kernel
theorem d_Night_turnOver_34 : decode prog_6_method_9_code 34 = .ok (.aload_n 0, 1) := by decide +kernel
theorem d_Night_turnOver_35 : decode prog_6_method_9_code 35 = .ok (.iload_n 1, 1) := by decide +kernel
theorem d_Night_turnOver_36 : decode prog_6_method_9_code 36 = .ok (.iload 5, 2) := by decide +kernel
theorem d_Night_turnOver_38 : decode prog_6_method_9_code 38 = .ok (.iload_n 2, 1) := by decide +kernel
theorem d_Night_turnOver_39 : decode prog_6_method_9_code 39 = .ok (.iload_n 3, 1) := by decide +kernel
theorem d_Night_turnOver_40 : decode prog_6_method_9_code 40 = .ok (.invokevirtual 165, 3) := by decide +kernel
theorem d_Night_turnOver_43 : decode prog_6_method_9_code 43 = .ok (.imul, 1) := by decide +kernel
theorem d_Night_turnOver_44 : decode prog_6_method_9_code 44 = .ok (.iastore, 1) := by decide +kernel
theorem d_Night_turnOver_45 : decode prog_6_method_9_code 45 = .ok (.iinc 5 (1), 3) := by decide +kernel
theorem d_Night_turnOver_48 : decode prog_6_method_9_code 48 = .ok (.goto (-34), 3) := by decide +kernel
theorem d_Night_turnOver_51 : decode prog_6_method_9_code 51 = .ok (.iconst 0, 1) := by decide +kernel
theorem d_Night_turnOver_52 : decode prog_6_method_9_code 52 = .ok (.istore 5, 2) := by decide +kernel
theorem d_Night_turnOver_54 : decode prog_6_method_9_code 54 = .ok (.iload 5, 2) := by decide +kernel
theorem d_Night_turnOver_56 : decode prog_6_method_9_code 56 = .ok (.aload_n 0, 1) := by decide +kernel
theorem d_Night_turnOver_57 : decode prog_6_method_9_code 57 = .ok (.getfield 41, 3) := by decide +kernel
theorem d_Night_turnOver_60 : decode prog_6_method_9_code 60 = .ok (.getfield 162, 3) := by decide +kernel
theorem d_Night_turnOver_63 : decode prog_6_method_9_code 63 = .ok (.if_icmp .ge (46), 3) := by decide +kernel
theorem d_Night_turnOver_66 : decode prog_6_method_9_code 66 = .ok (.aload_n 0, 1) := by decide +kernel
theorem d_Night_turnOver_67 : decode prog_6_method_9_code 67 = .ok (.getfield 62, 3) := by decide +kernel
theorem d_Night_turnOver_70 : decode prog_6_method_9_code 70 = .ok (.iload 5, 2) := by decide +kernel
theorem d_Night_turnOver_72 : decode prog_6_method_9_code 72 = .ok (.aload_n 0, 1) := by decide +kernel
theorem d_Night_turnOver_73 : decode prog_6_method_9_code 73 = .ok (.getfield 25, 3) := by decide +kernel
theorem d_Night_turnOver_76 : decode prog_6_method_9_code 76 = .ok (.iload 5, 2) := by decide +kernel
theorem d_Night_turnOver_78 : decode prog_6_method_9_code 78 = .ok (.iaload, 1) := by decide +kernel
theorem d_Night_turnOver_79 : decode prog_6_method_9_code 79 = .ok (.invokevirtual 169, 3) := by decide +kernel
theorem d_Night_turnOver_82 : decode prog_6_method_9_code 82 = .ok (.aload_n 0, 1) := by decide +kernel
theorem d_Night_turnOver_83 : decode prog_6_method_9_code 83 = .ok (.getfield 18, 3) := by decide +kernel
theorem d_Night_turnOver_86 : decode prog_6_method_9_code 86 = .ok (.iload_n 1, 1) := by decide +kernel
theorem d_Night_turnOver_87 : decode prog_6_method_9_code 87 = .ok (.iconst 3, 1) := by decide +kernel
theorem d_Night_turnOver_88 : decode prog_6_method_9_code 88 = .ok (.imul, 1) := by decide +kernel
theorem d_Night_turnOver_89 : decode prog_6_method_9_code 89 = .ok (.iload 5, 2) := by decide +kernel
theorem d_Night_turnOver_91 : decode prog_6_method_9_code 91 = .ok (.iadd, 1) := by decide +kernel
theorem d_Night_turnOver_92 : decode prog_6_method_9_code 92 = .ok (.dup2, 1) := by decide +kernel
theorem d_Night_turnOver_93 : decode prog_6_method_9_code 93 = .ok (.iaload, 1) := by decide +kernel
theorem d_Night_turnOver_94 : decode prog_6_method_9_code 94 = .ok (.aload_n 0, 1) := by decide +kernel
theorem d_Night_turnOver_95 : decode prog_6_method_9_code 95 = .ok (.getfield 25, 3) := by decide +kernel
theorem d_Night_turnOver_98 : decode prog_6_method_9_code 98 = .ok (.iload 5, 2) := by decide +kernel
theorem d_Night_turnOver_100 : decode prog_6_method_9_code 100 = .ok (.iaload, 1) := by decide +kernel
theorem d_Night_turnOver_101 : decode prog_6_method_9_code 101 = .ok (.iadd, 1) := by decide +kernel
theorem d_Night_turnOver_102 : decode prog_6_method_9_code 102 = .ok (.iastore, 1) := by decide +kernel
theorem d_Night_turnOver_103 : decode prog_6_method_9_code 103 = .ok (.iinc 5 (1), 3) := by decide +kernel
theorem d_Night_turnOver_106 : decode prog_6_method_9_code 106 = .ok (.goto (-52), 3) := by decide +kernel
theorem d_Night_turnOver_109 : decode prog_6_method_9_code 109 = .ok (.aload_n 0, 1) := by decide +kernel
theorem d_Night_turnOver_110 : decode prog_6_method_9_code 110 = .ok (.getfield 62, 3) := by decide +kernel
theorem d_Night_turnOver_113 : decode prog_6_method_9_code 113 = .ok (.iload_n 1, 1) := by decide +kernel
theorem d_Night_turnOver_114 : decode prog_6_method_9_code 114 = .ok (.iload_n 2, 1) := by decide +kernel
theorem d_Night_turnOver_115 : decode prog_6_method_9_code 115 = .ok (.invokevirtual 173, 3) := by decide +kernel
theorem d_Night_turnOver_118 : decode prog_6_method_9_code 118 = .ok (.aload_n 0, 1) := by decide +kernel
theorem d_Night_turnOver_119 : decode prog_6_method_9_code 119 = .ok (.getfield 22, 3) := by decide +kernel
theorem d_Night_turnOver_122 : decode prog_6_method_9_code 122 = .ok (.iload_n 1, 1) := by decide +kernel
theorem d_Night_turnOver_123 : decode prog_6_method_9_code 123 = .ok (.iload 4, 2) := by decide +kernel
theorem d_Night_turnOver_125 : decode prog_6_method_9_code 125 = .ok (.iastore, 1) := by decide +kernel
theorem d_Night_turnOver_126 : decode prog_6_method_9_code 126 = .ok (.aload_n 0, 1) := by decide +kernel
theorem d_Night_turnOver_127 : decode prog_6_method_9_code 127 = .ok (.getfield 62, 3) := by decide +kernel
theorem d_Night_turnOver_130 : decode prog_6_method_9_code 130 = .ok (.invokevirtual 176, 3) := by decide +kernel
theorem d_Night_turnOver_133 : decode prog_6_method_9_code 133 = .ok (.lstore 5, 2) := by decide +kernel
theorem d_Night_turnOver_135 : decode prog_6_method_9_code 135 = .ok (.iconst 0, 1) := by decide +kernel
theorem d_Night_turnOver_136 : decode prog_6_method_9_code 136 = .ok (.istore 7, 2) := by decide +kernel
theorem d_Night_turnOver_138 : decode prog_6_method_9_code 138 = .ok (.iload 7, 2) := by decide +kernel
theorem d_Night_turnOver_140 : decode prog_6_method_9_code 140 = .ok (.aload_n 0, 1) := by decide +kernel
theorem d_Night_turnOver_141 : decode prog_6_method_9_code 141 = .ok (.getfield 41, 3) := by decide +kernel
theorem d_Night_turnOver_144 : decode prog_6_method_9_code 144 = .ok (.getfield 122, 3) := by decide +kernel
theorem d_Night_turnOver_147 : decode prog_6_method_9_code 147 = .ok (.if_icmp .ge (56), 3) := by decide +kernel
theorem d_Night_turnOver_150 : decode prog_6_method_9_code 150 = .ok (.aload_n 0, 1) := by decide +kernel
theorem d_Night_turnOver_151 : decode prog_6_method_9_code 151 = .ok (.getfield 62, 3) := by decide +kernel
theorem d_Night_turnOver_154 : decode prog_6_method_9_code 154 = .ok (.iload 7, 2) := by decide +kernel
theorem d_Night_turnOver_156 : decode prog_6_method_9_code 156 = .ok (.lload 5, 2) := by decide +kernel
theorem d_Night_turnOver_158 : decode prog_6_method_9_code 158 = .ok (.invokevirtual 180, 3) := by decide +kernel
theorem d_Night_turnOver_161 : decode prog_6_method_9_code 161 = .ok (.istore 8, 2) := by decide +kernel
theorem d_Night_turnOver_163 : decode prog_6_method_9_code 163 = .ok (.iload 7, 2) := by decide +kernel
theorem d_Night_turnOver_165 : decode prog_6_method_9_code 165 = .ok (.iload_n 1, 1) := by decide +kernel
theorem d_Night_turnOver_166 : decode prog_6_method_9_code 166 = .ok (.if_icmp .eq (31), 3) := by decide +kernel
theorem d_Night_turnOver_169 : decode prog_6_method_9_code 169 = .ok (.iconst 2, 1) := by decide +kernel
theorem d_Night_turnOver_170 : decode prog_6_method_9_code 170 = .ok (.iload 8, 2) := by decide +kernel
theorem d_Night_turnOver_172 : decode prog_6_method_9_code 172 = .ok (.imul, 1) := by decide +kernel
theorem d_Night_turnOver_173 : decode prog_6_method_9_code 173 = .ok (.aload_n 0, 1) := by decide +kernel
theorem d_Night_turnOver_174 : decode prog_6_method_9_code 174 = .ok (.getfield 41, 3) := by decide +kernel
theorem d_Night_turnOver_177 : decode prog_6_method_9_code 177 = .ok (.getfield 184, 3) := by decide +kernel
theorem d_Night_turnOver_180 : decode prog_6_method_9_code 180 = .ok (.iload 7, 2) := by decide +kernel
theorem d_Night_turnOver_182 : decode prog_6_method_9_code 182 = .ok (.iaload, 1) := by decide +kernel
theorem d_Night_turnOver_183 : decode prog_6_method_9_code 183 = .ok (.if_icmp .lt (14), 3) := by decide +kernel
theorem d_Night_turnOver_186 : decode prog_6_method_9_code 186 = .ok (.aload_n 0, 1) := by decide +kernel
theorem d_Night_turnOver_187 : decode prog_6_method_9_code 187 = .ok (.getfield 12, 3) := by decide +kernel
theorem d_Night_turnOver_190 : decode prog_6_method_9_code 190 = .ok (.iload 7, 2) := by decide +kernel
theorem d_Night_turnOver_192 : decode prog_6_method_9_code 192 = .ok (.iload_n 3, 1) := by decide +kernel
theorem d_Night_turnOver_193 : decode prog_6_method_9_code 193 = .ok (.iload_n 1, 1) := by decide +kernel
theorem d_Night_turnOver_194 : decode prog_6_method_9_code 194 = .ok (.invokevirtual 187, 3) := by decide +kernel
theorem d_Night_turnOver_197 : decode prog_6_method_9_code 197 = .ok (.iinc 7 (1), 3) := by decide +kernel
theorem d_Night_turnOver_200 : decode prog_6_method_9_code 200 = .ok (.goto (-62), 3) := by decide +kernel
theorem d_Night_turnOver_203 : decode prog_6_method_9_code 203 = .ok (.return_, 1) := by decide +kernel
set_option maxHeartbeats 4000000 in
set_option maxRecDepth 100000 in
theorem zf_Night_turnOver_L138 {G : zz_G} {l : Launch} {Z : zz_Z} {q : zz_S} (C : zz_Cx G l "OneBlanket$Night" "turnOver" prog_6_method_9_code 9 (none) 5 (none, zsh, q) Z) : ∀ (n : Nat) (v1 : Int32) (v3 : Int32) (v5 : Int64) (v7 : Int32) (s : zz_S), f_Night_turnOver_L138 n v1 v3 v5 v7 s = some q → Z 138 [some (.ref 20), some (.int v1), none, some (.int v3), none, some (.long v5), none, some (.int v7), none] [] zsh s := by
  intro n
  induction n with
  | zero => intro v1 v3 v5 v7 s h; rw [f_Night_turnOver_L138] at h; cases h
  | succ n ih =>
  intro v1 v3 v5 v7 s h
  rw [f_Night_turnOver_L138] at h
  refine zz_iload (i := 7) (pc := 138) C rfl d_Night_turnOver_138 ?_
  refine zz_aload_n (i := 0) (pc := 140) C rfl rfl d_Night_turnOver_140 ?_
  refine zz_getR (pc := 141) C zl_4_41 zsh_20 rfl d_Night_turnOver_141 ?_
  refine zz_getI (pc := 144) C zl_4_122 zsh_1 rfl d_Night_turnOver_144 ?_
  refine zz_icmp_ge (tgt := 203) (pc := 147) C (by decide) d_Night_turnOver_147 (fun hc7 => ?_) (fun hc7 => ?_)
  · rw [if_pos hc7] at h
    replace h := Option.some.inj h
    subst h
    exact zz_ret (pc := 203) C (v := none) d_Night_turnOver_203 (Or.inr (Or.inr (Or.inr ⟨rfl, rfl, rfl⟩))) rfl
  · rw [if_neg hc7] at h
    refine zz_aload_n (i := 0) (pc := 150) C rfl rfl d_Night_turnOver_150 ?_
    refine zz_getR (pc := 151) C zl_4_62 zsh_20 rfl d_Night_turnOver_151 ?_
    refine zz_iload (i := 7) (pc := 154) C rfl d_Night_turnOver_154 ?_
    refine zz_lload (i := 5) (pc := 156) C rfl d_Night_turnOver_156 ?_
    obtain ⟨q8, hq8, h⟩ := zz_bdE h
    refine zz_cVi (as := [.int v7, .long v5]) (st := []) (pc := 158) C (zm_Lie_coverAnew hq8) zcv_Lie_coverAnew zsh_32 zl_4_180 (by omega) (Nat.le_of_ble_eq_true rfl) d_Night_turnOver_158 rfl rfl ?_
    refine zz_istore (i := 8) (lo' := [some (.ref 20), some (.int v1), none, some (.int v3), none, some (.long v5), none, some (.int v7), some (.int q8.1)]) (pc := 161) C (Nat.le_of_ble_eq_true rfl) rfl rfl d_Night_turnOver_161 ?_
    refine zz_iload (i := 7) (pc := 163) C rfl d_Night_turnOver_163 ?_
    refine zz_iload_n (i := 1) (pc := 165) C rfl rfl d_Night_turnOver_165 ?_
    refine zz_icmp_eq (tgt := 197) (pc := 166) C (by decide) d_Night_turnOver_166 (fun hc9 => ?_) (fun hc9 => ?_)
    · rw [if_pos hc9] at h
      refine zz_iinc (lo' := [some (.ref 20), some (.int v1), none, some (.int v3), none, some (.long v5), none, some (.int (v7 + (1 : Int32))), some (.int q8.1)]) (pc := 197) C rfl (zz_inc zki_1) rfl rfl d_Night_turnOver_197 ?_
      refine zz_goto (tgt := 138) (pc := 200) C (by decide) d_Night_turnOver_200 ?_
      refine zz_fg C [true, true, false, true, false, true, false, true, false] rfl rfl ?_
      exact ih v1 v3 v5 (v7 + (1 : Int32)) q8.2 h
    · rw [if_neg hc9] at h
      refine zz_iconst (pc := 169) C zki_2 d_Night_turnOver_169 ?_
      refine zz_iload (i := 8) (pc := 170) C rfl d_Night_turnOver_170 ?_
      refine zz_imul (pc := 172) C d_Night_turnOver_172 ?_
      refine zz_aload_n (i := 0) (pc := 173) C rfl rfl d_Night_turnOver_173 ?_
      refine zz_getR (pc := 174) C zl_4_41 zsh_20 rfl d_Night_turnOver_174 ?_
      refine zz_getR (pc := 177) C zl_4_184 zsh_1 rfl d_Night_turnOver_177 ?_
      refine zz_iload (i := 7) (pc := 180) C rfl d_Night_turnOver_180 ?_
      obtain ⟨hi10, h⟩ := zz_ckE h
      refine zz_iald (pc := 182) C rfl zsh_3 hi10 d_Night_turnOver_182 ?_
      refine zz_icmp_lt (tgt := 197) (pc := 183) C (by decide) d_Night_turnOver_183 (fun hc11 => ?_) (fun hc11 => ?_)
      · rw [if_pos hc11] at h
        refine zz_iinc (lo' := [some (.ref 20), some (.int v1), none, some (.int v3), none, some (.long v5), none, some (.int (v7 + (1 : Int32))), some (.int q8.1)]) (pc := 197) C rfl (zz_inc zki_1) rfl rfl d_Night_turnOver_197 ?_
        refine zz_goto (tgt := 138) (pc := 200) C (by decide) d_Night_turnOver_200 ?_
        refine zz_fg C [true, true, false, true, false, true, false, true, false] rfl rfl ?_
        exact ih v1 v3 v5 (v7 + (1 : Int32)) q8.2 h
      · rw [if_neg hc11] at h
        refine zz_aload_n (i := 0) (pc := 186) C rfl rfl d_Night_turnOver_186 ?_
        refine zz_getR (pc := 187) C zl_4_12 zsh_20 rfl d_Night_turnOver_187 ?_
        refine zz_iload (i := 7) (pc := 190) C rfl d_Night_turnOver_190 ?_
        refine zz_iload_n (i := 3) (pc := 192) C rfl rfl d_Night_turnOver_192 ?_
        refine zz_iload_n (i := 1) (pc := 193) C rfl rfl d_Night_turnOver_193 ?_
        obtain ⟨q12, hq12, h⟩ := zz_bdE h
        refine zz_cVv (as := [.int v7, .int v3, .int v1]) (st := []) (pc := 194) C (zm_Tally_wake hq12) zcv_Tally_wake zsh_21 zl_4_187 (by omega) (Nat.le_of_ble_eq_true rfl) d_Night_turnOver_194 rfl rfl ?_
        refine zz_iinc (lo' := [some (.ref 20), some (.int v1), none, some (.int v3), none, some (.long v5), none, some (.int (v7 + (1 : Int32))), some (.int q8.1)]) (pc := 197) C rfl (zz_inc zki_1) rfl rfl d_Night_turnOver_197 ?_
        refine zz_goto (tgt := 138) (pc := 200) C (by decide) d_Night_turnOver_200 ?_
        refine zz_fg C [true, true, false, true, false, true, false, true, false] rfl rfl ?_
        exact ih v1 v3 v5 (v7 + (1 : Int32)) q12 h
set_option maxHeartbeats 4000000 in
set_option maxRecDepth 100000 in
theorem zf_Night_turnOver_L54 {G : zz_G} {l : Launch} {Z : zz_Z} {q : zz_S} (C : zz_Cx G l "OneBlanket$Night" "turnOver" prog_6_method_9_code 9 (none) 5 (none, zsh, q) Z) : ∀ (n : Nat) (v1 : Int32) (v2 : Int32) (v3 : Int32) (v4 : Int32) (v5 : Int32) (s : zz_S), f_Night_turnOver_L54 n v1 v2 v3 v4 v5 s = some q → Z 54 [some (.ref 20), some (.int v1), some (.int v2), some (.int v3), some (.int v4), some (.int v5), none, none, none] [] zsh s := by
  intro n
  induction n with
  | zero => intro v1 v2 v3 v4 v5 s h; rw [f_Night_turnOver_L54] at h; cases h
  | succ n ih =>
  intro v1 v2 v3 v4 v5 s h
  rw [f_Night_turnOver_L54] at h
  refine zz_iload (i := 5) (pc := 54) C rfl d_Night_turnOver_54 ?_
  refine zz_aload_n (i := 0) (pc := 56) C rfl rfl d_Night_turnOver_56 ?_
  refine zz_getR (pc := 57) C zl_4_41 zsh_20 rfl d_Night_turnOver_57 ?_
  refine zz_getI (pc := 60) C zl_4_162 zsh_1 rfl d_Night_turnOver_60 ?_
  refine zz_icmp_ge (tgt := 109) (pc := 63) C (by decide) d_Night_turnOver_63 (fun hc3 => ?_) (fun hc3 => ?_)
  · rw [if_pos hc3] at h
    refine zz_aload_n (i := 0) (pc := 109) C rfl rfl d_Night_turnOver_109 ?_
    refine zz_getR (pc := 110) C zl_4_62 zsh_20 rfl d_Night_turnOver_110 ?_
    refine zz_iload_n (i := 1) (pc := 113) C rfl rfl d_Night_turnOver_113 ?_
    refine zz_iload_n (i := 2) (pc := 114) C rfl rfl d_Night_turnOver_114 ?_
    obtain ⟨q4, hq4, h⟩ := zz_bdE h
    refine zz_cVv (as := [.int v1, .int v2]) (st := []) (pc := 115) C (zm_Lie_moveSleeper hq4) zcv_Lie_moveSleeper zsh_32 zl_4_173 (by omega) (Nat.le_of_ble_eq_true rfl) d_Night_turnOver_115 rfl rfl ?_
    refine zz_aload_n (i := 0) (pc := 118) C rfl rfl d_Night_turnOver_118 ?_
    refine zz_getR (pc := 119) C zl_4_22 zsh_20 rfl d_Night_turnOver_119 ?_
    refine zz_iload_n (i := 1) (pc := 122) C rfl rfl d_Night_turnOver_122 ?_
    refine zz_iload (i := 4) (pc := 123) C rfl d_Night_turnOver_123 ?_
    obtain ⟨hi5, h⟩ := zz_ckE h
    refine zz_iast (pc := 125) C rfl zsh_29 hi5 d_Night_turnOver_125 ?_
    refine zz_aload_n (i := 0) (pc := 126) C rfl rfl d_Night_turnOver_126 ?_
    refine zz_getR (pc := 127) C zl_4_62 zsh_20 rfl d_Night_turnOver_127 ?_
    obtain ⟨q6, hq6, h⟩ := zz_bdE h
    refine zz_cVl (as := []) (st := []) (pc := 130) C (zm_Lie_allCovers hq6) zcv_Lie_allCovers zsh_32 zl_4_176 (by omega) (Nat.le_of_ble_eq_true rfl) d_Night_turnOver_130 rfl rfl ?_
    refine zz_lstore (i := 5) (lo' := [some (.ref 20), some (.int v1), some (.int v2), some (.int v3), some (.int v4), some (.long q6), none, none, none]) (pc := 133) C (Nat.le_of_ble_eq_true rfl) rfl rfl d_Night_turnOver_133 ?_
    refine zz_iconst (pc := 135) C zki_0 d_Night_turnOver_135 ?_
    refine zz_istore (i := 7) (lo' := [some (.ref 20), some (.int v1), some (.int v2), some (.int v3), some (.int v4), some (.long q6), none, some (.int (0 : Int32)), none]) (pc := 136) C (Nat.le_of_ble_eq_true rfl) rfl rfl d_Night_turnOver_136 ?_
    refine zz_fg C [true, true, false, true, false, true, false, true, false] rfl rfl ?_
    exact zf_Night_turnOver_L138 C zF v1 v3 q6 (0 : Int32) (zz_w q4 29 (v1.toNatClampNeg) v4) h
  · rw [if_neg hc3] at h
    refine zz_aload_n (i := 0) (pc := 66) C rfl rfl d_Night_turnOver_66 ?_
    refine zz_getR (pc := 67) C zl_4_62 zsh_20 rfl d_Night_turnOver_67 ?_
    refine zz_iload (i := 5) (pc := 70) C rfl d_Night_turnOver_70 ?_
    refine zz_aload_n (i := 0) (pc := 72) C rfl rfl d_Night_turnOver_72 ?_
    refine zz_getR (pc := 73) C zl_4_25 zsh_20 rfl d_Night_turnOver_73 ?_
    refine zz_iload (i := 5) (pc := 76) C rfl d_Night_turnOver_76 ?_
    obtain ⟨hi13, h⟩ := zz_ckE h
    refine zz_iald (pc := 78) C rfl zsh_30 hi13 d_Night_turnOver_78 ?_
    obtain ⟨q14, hq14, h⟩ := zz_bdE h
    refine zz_cVv (as := [.int v5, .int (s.1 30 (v5.toNatClampNeg))]) (st := []) (pc := 79) C (zm_Lie_moveCover hq14) zcv_Lie_moveCover zsh_32 zl_4_169 (by omega) (Nat.le_of_ble_eq_true rfl) d_Night_turnOver_79 rfl rfl ?_
    refine zz_aload_n (i := 0) (pc := 82) C rfl rfl d_Night_turnOver_82 ?_
    refine zz_getR (pc := 83) C zl_4_18 zsh_20 rfl d_Night_turnOver_83 ?_
    refine zz_iload_n (i := 1) (pc := 86) C rfl rfl d_Night_turnOver_86 ?_
    refine zz_iconst (pc := 87) C zki_3 d_Night_turnOver_87 ?_
    refine zz_imul (pc := 88) C d_Night_turnOver_88 ?_
    refine zz_iload (i := 5) (pc := 89) C rfl d_Night_turnOver_89 ?_
    refine zz_iadd (pc := 91) C d_Night_turnOver_91 ?_
    refine zz_dup2 (pc := 92) C rfl rfl d_Night_turnOver_92 ?_
    obtain ⟨hi15, h⟩ := zz_ckE h
    refine zz_iald (pc := 93) C rfl zsh_28 hi15 d_Night_turnOver_93 ?_
    refine zz_aload_n (i := 0) (pc := 94) C rfl rfl d_Night_turnOver_94 ?_
    refine zz_getR (pc := 95) C zl_4_25 zsh_20 rfl d_Night_turnOver_95 ?_
    refine zz_iload (i := 5) (pc := 98) C rfl d_Night_turnOver_98 ?_
    refine zz_iald (pc := 100) C rfl zsh_30 hi13 d_Night_turnOver_100 ?_
    refine zz_iadd (pc := 101) C d_Night_turnOver_101 ?_
    refine zz_iast (pc := 102) C rfl zsh_28 hi15 d_Night_turnOver_102 ?_
    refine zz_iinc (lo' := [some (.ref 20), some (.int v1), some (.int v2), some (.int v3), some (.int v4), some (.int (v5 + (1 : Int32))), none, none, none]) (pc := 103) C rfl (zz_inc zki_1) rfl rfl d_Night_turnOver_103 ?_
    refine zz_goto (tgt := 54) (pc := 106) C (by decide) d_Night_turnOver_106 ?_
    exact ih v1 v2 v3 v4 (v5 + (1 : Int32)) (zz_w q14 28 (((v1 * (3 : Int32)) + v5).toNatClampNeg) ((q14.1 28 (((v1 * (3 : Int32)) + v5).toNatClampNeg)) + (q14.1 30 (v5.toNatClampNeg)))) h
set_option maxHeartbeats 4000000 in
set_option maxRecDepth 100000 in
theorem zf_Night_turnOver_L14 {G : zz_G} {l : Launch} {Z : zz_Z} {q : zz_S} (C : zz_Cx G l "OneBlanket$Night" "turnOver" prog_6_method_9_code 9 (none) 5 (none, zsh, q) Z) : ∀ (n : Nat) (v1 : Int32) (v2 : Int32) (v3 : Int32) (v4 : Int32) (v5 : Int32) (s : zz_S), f_Night_turnOver_L14 n v1 v2 v3 v4 v5 s = some q → Z 14 [some (.ref 20), some (.int v1), some (.int v2), some (.int v3), some (.int v4), some (.int v5), none, none, none] [] zsh s := by
  intro n
  induction n with
  | zero => intro v1 v2 v3 v4 v5 s h; rw [f_Night_turnOver_L14] at h; cases h
  | succ n ih =>
  intro v1 v2 v3 v4 v5 s h
  rw [f_Night_turnOver_L14] at h
  refine zz_iload (i := 5) (pc := 14) C rfl d_Night_turnOver_14 ?_
  refine zz_aload_n (i := 0) (pc := 16) C rfl rfl d_Night_turnOver_16 ?_
  refine zz_getR (pc := 17) C zl_4_41 zsh_20 rfl d_Night_turnOver_17 ?_
  refine zz_getI (pc := 20) C zl_4_162 zsh_1 rfl d_Night_turnOver_20 ?_
  refine zz_icmp_ge (tgt := 51) (pc := 23) C (by decide) d_Night_turnOver_23 (fun hc2 => ?_) (fun hc2 => ?_)
  · rw [if_pos hc2] at h
    refine zz_iconst (pc := 51) C zki_0 d_Night_turnOver_51 ?_
    refine zz_istore (i := 5) (lo' := [some (.ref 20), some (.int v1), some (.int v2), some (.int v3), some (.int v4), some (.int (0 : Int32)), none, none, none]) (pc := 52) C (Nat.le_of_ble_eq_true rfl) rfl rfl d_Night_turnOver_52 ?_
    exact zf_Night_turnOver_L54 C zF v1 v2 v3 v4 (0 : Int32) s h
  · rw [if_neg hc2] at h
    refine zz_aload_n (i := 0) (pc := 26) C rfl rfl d_Night_turnOver_26 ?_
    refine zz_getR (pc := 27) C zl_4_25 zsh_20 rfl d_Night_turnOver_27 ?_
    refine zz_iload (i := 5) (pc := 30) C rfl d_Night_turnOver_30 ?_
    refine zz_iload (i := 4) (pc := 32) C rfl d_Night_turnOver_32 ?_
    refine zz_aload_n (i := 0) (pc := 34) C rfl rfl d_Night_turnOver_34 ?_
    refine zz_iload_n (i := 1) (pc := 35) C rfl rfl d_Night_turnOver_35 ?_
    refine zz_iload (i := 5) (pc := 36) C rfl d_Night_turnOver_36 ?_
    refine zz_iload_n (i := 2) (pc := 38) C rfl rfl d_Night_turnOver_38 ?_
    refine zz_iload_n (i := 3) (pc := 39) C rfl rfl d_Night_turnOver_39 ?_
    obtain ⟨q16, hq16, h⟩ := zz_bdE h
    refine zz_cVi (as := [.int v1, .int v5, .int v2, .int v3]) (st := [.int v4, .int v5, .ref 30]) (pc := 40) C (zm_Night_pullOf hq16) zcv_Night_pullOf zsh_20 zl_4_165 (by omega) (Nat.le_of_ble_eq_true rfl) d_Night_turnOver_40 rfl rfl ?_
    refine zz_imul (pc := 43) C d_Night_turnOver_43 ?_
    obtain ⟨hi17, h⟩ := zz_ckE h
    refine zz_iast (pc := 44) C rfl zsh_30 hi17 d_Night_turnOver_44 ?_
    refine zz_iinc (lo' := [some (.ref 20), some (.int v1), some (.int v2), some (.int v3), some (.int v4), some (.int (v5 + (1 : Int32))), none, none, none]) (pc := 45) C rfl (zz_inc zki_1) rfl rfl d_Night_turnOver_45 ?_
    refine zz_goto (tgt := 14) (pc := 48) C (by decide) d_Night_turnOver_48 ?_
    exact ih v1 v2 v3 v4 (v5 + (1 : Int32)) (zz_w q16.2 30 (v5.toNatClampNeg) (v4 * q16.1)) h
set_option maxHeartbeats 4000000 in
set_option maxRecDepth 100000 in
theorem zf_Night_turnOver_J9 {G : zz_G} {l : Launch} {Z : zz_Z} {q : zz_S} {s : zz_S} (C : zz_Cx G l "OneBlanket$Night" "turnOver" prog_6_method_9_code 9 (none) 5 (none, zsh, q) Z) (v1 : Int32) (v2 : Int32) (v3 : Int32) (t0 : Int32) (h : f_Night_turnOver_J9 v1 v2 v3 t0 s = some q) : Z 9 [some (.ref 20), some (.int v1), some (.int v2), some (.int v3), none, none, none, none, none] [.int t0] zsh s := by
  unfold f_Night_turnOver_J9 at h
  refine zz_istore (i := 4) (lo' := [some (.ref 20), some (.int v1), some (.int v2), some (.int v3), some (.int t0), none, none, none, none]) (pc := 9) C (Nat.le_of_ble_eq_true rfl) rfl rfl d_Night_turnOver_9 ?_
  refine zz_iconst (pc := 11) C zki_0 d_Night_turnOver_11 ?_
  refine zz_istore (i := 5) (lo' := [some (.ref 20), some (.int v1), some (.int v2), some (.int v3), some (.int t0), some (.int (0 : Int32)), none, none, none]) (pc := 12) C (Nat.le_of_ble_eq_true rfl) rfl rfl d_Night_turnOver_12 ?_
  exact zf_Night_turnOver_L14 C zF v1 v2 v3 t0 (0 : Int32) s h
set_option maxHeartbeats 4000000 in
set_option maxRecDepth 100000 in
theorem zf_Night_turnOver {G : zz_G} {l : Launch} {Z : zz_Z} {q : zz_S} {s : zz_S} (C : zz_Cx G l "OneBlanket$Night" "turnOver" prog_6_method_9_code 9 (none) 5 (none, zsh, q) Z) (a1 : Int32) (a2 : Int32) (a3 : Int32) (h : f_Night_turnOver a1 a2 a3 s = some q) : Z 0 [some (.ref 20), some (.int a1), some (.int a2), some (.int a3), none, none, none, none, none] [] zsh s := by
  unfold f_Night_turnOver at h
  refine zz_iload_n (i := 2) (pc := 0) C rfl rfl d_Night_turnOver_0 ?_
  refine zz_if_ge (tgt := 8) (pc := 1) C (by decide) d_Night_turnOver_1 (fun hc1 => ?_) (fun hc1 => ?_)
  · rw [if_pos hc1] at h
    refine zz_iconst (pc := 8) C zki_1 d_Night_turnOver_8 ?_
    exact zf_Night_turnOver_J9 C a1 a2 a3 (1 : Int32) h
  · rw [if_neg hc1] at h
    refine zz_iconst (pc := 4) C zki_m1 d_Night_turnOver_4 ?_
    refine zz_goto (tgt := 9) (pc := 5) C (by decide) d_Night_turnOver_5 ?_
    exact zf_Night_turnOver_J9 C a1 a2 a3 (-1 : Int32) h
theorem zm_Night_turnOver {G : zz_G} {l : Launch} {s : zz_S} {q : zz_S} {a1 : Int32} {a2 : Int32} {a3 : Int32} (h : f_Night_turnOver a1 a2 a3 s = some q) : zz_M G l 5 y_Night_turnOver prog_6_method_9_code 9 (none) [.ref 20, .int a1, .int a2, .int a3] zsh s (none, zsh, q) :=
  zz_M.intro (by decide) (Nat.le_of_ble_eq_true rfl) (Nat.le_refl _) (Nat.le_refl _) (fun Z C => zf_Night_turnOver C a1 a2 a3 h)
theorem d_Night_doDrawn_0 : decode prog_6_method_7_code 0 = .ok (.iconst 0, 1) := by decide +kernel
theorem d_Night_doDrawn_1 : decode prog_6_method_7_code 1 = .ok (.istore_n 2, 1) := by decide +kernel
theorem d_Night_doDrawn_2 : decode prog_6_method_7_code 2 = .ok (.iload_n 2, 1) := by decide +kernel
theorem d_Night_doDrawn_3 : decode prog_6_method_7_code 3 = .ok (.aload_n 0, 1) := by decide +kernel
theorem d_Night_doDrawn_4 : decode prog_6_method_7_code 4 = .ok (.getfield 41, 3) := by decide +kernel
theorem d_Night_doDrawn_7 : decode prog_6_method_7_code 7 = .ok (.getfield 122, 3) := by decide +kernel
theorem d_Night_doDrawn_10 : decode prog_6_method_7_code 10 = .ok (.if_icmp .ge (45), 3) := by decide +kernel
theorem d_Night_doDrawn_13 : decode prog_6_method_7_code 13 = .ok (.aload_n 0, 1) := by decide +kernel
theorem d_Night_doDrawn_14 : decode prog_6_method_7_code 14 = .ok (.invokevirtual 158, 3) := by decide +kernel
theorem d_Night_doDrawn_17 : decode prog_6_method_7_code 17 = .ok (.bipush (100), 2) := by decide +kernel
theorem d_Night_doDrawn_19 : decode prog_6_method_7_code 19 = .ok (.irem, 1) := by decide +kernel
theorem d_Night_doDrawn_20 : decode prog_6_method_7_code 20 = .ok (.aload_n 0, 1) := by decide +kernel
theorem d_Night_doDrawn_21 : decode prog_6_method_7_code 21 = .ok (.getfield 94, 3) := by decide +kernel
theorem d_Night_doDrawn_24 : decode prog_6_method_7_code 24 = .ok (.if_icmp .ge (25), 3) := by decide +kernel
theorem d_Night_doDrawn_27 : decode prog_6_method_7_code 27 = .ok (.aload_n 0, 1) := by decide +kernel
theorem d_Night_doDrawn_28 : decode prog_6_method_7_code 28 = .ok (.invokevirtual 158, 3) := by decide +kernel
theorem d_Night_doDrawn_31 : decode prog_6_method_7_code 31 = .ok (.bipush (21), 2) := by decide +kernel
theorem d_Night_doDrawn_33 : decode prog_6_method_7_code 33 = .ok (.irem, 1) := by decide +kernel
theorem d_Night_doDrawn_34 : decode prog_6_method_7_code 34 = .ok (.bipush (10), 2) := by decide +kernel
theorem d_Night_doDrawn_36 : decode prog_6_method_7_code 36 = .ok (.isub, 1) := by decide +kernel
theorem d_Night_doDrawn_37 : decode prog_6_method_7_code 37 = .ok (.istore_n 3, 1) := by decide +kernel
theorem d_Night_doDrawn_38 : decode prog_6_method_7_code 38 = .ok (.iload_n 3, 1) := by decide +kernel
theorem d_Night_doDrawn_39 : decode prog_6_method_7_code 39 = .ok (.ifCond .eq (10), 3) := by decide +kernel
theorem d_Night_doDrawn_42 : decode prog_6_method_7_code 42 = .ok (.aload_n 0, 1) := by decide +kernel
theorem d_Night_doDrawn_43 : decode prog_6_method_7_code 43 = .ok (.iload_n 2, 1) := by decide +kernel
theorem d_Night_doDrawn_44 : decode prog_6_method_7_code 44 = .ok (.iload_n 3, 1) := by decide +kernel
theorem d_Night_doDrawn_45 : decode prog_6_method_7_code 45 = .ok (.iload_n 1, 1) := by decide +kernel
theorem d_Night_doDrawn_46 : decode prog_6_method_7_code 46 = .ok (.invokevirtual 152, 3) := by decide +kernel
theorem d_Night_doDrawn_49 : decode prog_6_method_7_code 49 = .ok (.iinc 2 (1), 3) := by decide +kernel
theorem d_Night_doDrawn_52 : decode prog_6_method_7_code 52 = .ok (.goto (-50), 3) := by decide +kernel
theorem d_Night_doDrawn_55 : decode prog_6_method_7_code 55 = .ok (.aload_n 0, 1) := by decide +kernel
theorem d_Night_doDrawn_56 : decode prog_6_method_7_code 56 = .ok (.getfield 62, 3) := by decide +kernel
theorem d_Night_doDrawn_59 : decode prog_6_method_7_code 59 = .ok (.invokevirtual 155, 3) := by decide +kernel
theorem d_Night_doDrawn_62 : decode prog_6_method_7_code 62 = .ok (.return_, 1) := by decide +kernel
set_option maxHeartbeats 4000000 in
set_option maxRecDepth 100000 in
theorem zf_Night_doDrawn_L2 {G : zz_G} {l : Launch} {Z : zz_Z} {q : zz_S} (C : zz_Cx G l "OneBlanket$Night" "doDrawn" prog_6_method_7_code 4 (none) 6 (none, zsh, q) Z) : ∀ (n : Nat) (v1 : Int32) (v2 : Int32) (s : zz_S), f_Night_doDrawn_L2 n v1 v2 s = some q → Z 2 [some (.ref 20), some (.int v1), some (.int v2), none] [] zsh s := by
  intro n
  induction n with
  | zero => intro v1 v2 s h; rw [f_Night_doDrawn_L2] at h; cases h
  | succ n ih =>
  intro v1 v2 s h
  rw [f_Night_doDrawn_L2] at h
  refine zz_iload_n (i := 2) (pc := 2) C rfl rfl d_Night_doDrawn_2 ?_
  refine zz_aload_n (i := 0) (pc := 3) C rfl rfl d_Night_doDrawn_3 ?_
  refine zz_getR (pc := 4) C zl_4_41 zsh_20 rfl d_Night_doDrawn_4 ?_
  refine zz_getI (pc := 7) C zl_4_122 zsh_1 rfl d_Night_doDrawn_7 ?_
  refine zz_icmp_ge (tgt := 55) (pc := 10) C (by decide) d_Night_doDrawn_10 (fun hc1 => ?_) (fun hc1 => ?_)
  · rw [if_pos hc1] at h
    refine zz_aload_n (i := 0) (pc := 55) C rfl rfl d_Night_doDrawn_55 ?_
    refine zz_getR (pc := 56) C zl_4_62 zsh_20 rfl d_Night_doDrawn_56 ?_
    obtain ⟨q2, hq2, h⟩ := zz_bdE h
    refine zz_cVv (as := []) (st := []) (pc := 59) C (zm_Lie_feelWarmth hq2) zcv_Lie_feelWarmth zsh_32 zl_4_155 (by omega) (Nat.le_of_ble_eq_true rfl) d_Night_doDrawn_59 rfl rfl ?_
    replace h := Option.some.inj h
    subst h
    exact zz_ret (pc := 62) C (v := none) d_Night_doDrawn_62 (Or.inr (Or.inr (Or.inr ⟨rfl, rfl, rfl⟩))) rfl
  · rw [if_neg hc1] at h
    refine zz_aload_n (i := 0) (pc := 13) C rfl rfl d_Night_doDrawn_13 ?_
    obtain ⟨q3, hq3, h⟩ := zz_bdE h
    refine zz_cVi (as := []) (st := []) (pc := 14) C (zm_Night_roll hq3) zcv_Night_roll zsh_20 zl_4_158 (by omega) (Nat.le_of_ble_eq_true rfl) d_Night_doDrawn_14 rfl rfl ?_
    refine zz_bipush (pc := 17) C zkb_100 d_Night_doDrawn_17 ?_
    refine zz_irem (pc := 19) C (by decide) d_Night_doDrawn_19 ?_
    refine zz_aload_n (i := 0) (pc := 20) C rfl rfl d_Night_doDrawn_20 ?_
    refine zz_getI (pc := 21) C zl_4_94 zsh_20 rfl d_Night_doDrawn_21 ?_
    refine zz_icmp_ge (tgt := 49) (pc := 24) C (by decide) d_Night_doDrawn_24 (fun hc4 => ?_) (fun hc4 => ?_)
    · rw [if_pos hc4] at h
      refine zz_iinc (lo' := [some (.ref 20), some (.int v1), some (.int (v2 + (1 : Int32))), none]) (pc := 49) C rfl (zz_inc zki_1) rfl rfl d_Night_doDrawn_49 ?_
      refine zz_goto (tgt := 2) (pc := 52) C (by decide) d_Night_doDrawn_52 ?_
      exact ih v1 (v2 + (1 : Int32)) q3.2 h
    · rw [if_neg hc4] at h
      refine zz_aload_n (i := 0) (pc := 27) C rfl rfl d_Night_doDrawn_27 ?_
      obtain ⟨q5, hq5, h⟩ := zz_bdE h
      refine zz_cVi (as := []) (st := []) (pc := 28) C (zm_Night_roll hq5) zcv_Night_roll zsh_20 zl_4_158 (by omega) (Nat.le_of_ble_eq_true rfl) d_Night_doDrawn_28 rfl rfl ?_
      refine zz_bipush (pc := 31) C zkb_21 d_Night_doDrawn_31 ?_
      refine zz_irem (pc := 33) C (by decide) d_Night_doDrawn_33 ?_
      refine zz_bipush (pc := 34) C zkb_10 d_Night_doDrawn_34 ?_
      refine zz_isub (pc := 36) C d_Night_doDrawn_36 ?_
      refine zz_istore_n (i := 3) (lo' := [some (.ref 20), some (.int v1), some (.int v2), some (.int ((q5.1 % (21 : Int32)) - (10 : Int32)))]) (pc := 37) C rfl (Nat.le_of_ble_eq_true rfl) rfl rfl d_Night_doDrawn_37 ?_
      refine zz_iload_n (i := 3) (pc := 38) C rfl rfl d_Night_doDrawn_38 ?_
      refine zz_if_eq (tgt := 49) (pc := 39) C (by decide) d_Night_doDrawn_39 (fun hc6 => ?_) (fun hc6 => ?_)
      · rw [if_pos hc6] at h
        refine zz_iinc (lo' := [some (.ref 20), some (.int v1), some (.int (v2 + (1 : Int32))), some (.int ((q5.1 % (21 : Int32)) - (10 : Int32)))]) (pc := 49) C rfl (zz_inc zki_1) rfl rfl d_Night_doDrawn_49 ?_
        refine zz_goto (tgt := 2) (pc := 52) C (by decide) d_Night_doDrawn_52 ?_
        refine zz_fg C [true, true, true, false] rfl rfl ?_
        exact ih v1 (v2 + (1 : Int32)) q5.2 h
      · rw [if_neg hc6] at h
        refine zz_aload_n (i := 0) (pc := 42) C rfl rfl d_Night_doDrawn_42 ?_
        refine zz_iload_n (i := 2) (pc := 43) C rfl rfl d_Night_doDrawn_43 ?_
        refine zz_iload_n (i := 3) (pc := 44) C rfl rfl d_Night_doDrawn_44 ?_
        refine zz_iload_n (i := 1) (pc := 45) C rfl rfl d_Night_doDrawn_45 ?_
        obtain ⟨q7, hq7, h⟩ := zz_bdE h
        refine zz_cVv (as := [.int v2, .int ((q5.1 % (21 : Int32)) - (10 : Int32)), .int v1]) (st := []) (pc := 46) C (zm_Night_turnOver hq7) zcv_Night_turnOver zsh_20 zl_4_152 (by omega) (Nat.le_of_ble_eq_true rfl) d_Night_doDrawn_46 rfl rfl ?_
        refine zz_iinc (lo' := [some (.ref 20), some (.int v1), some (.int (v2 + (1 : Int32))), some (.int ((q5.1 % (21 : Int32)) - (10 : Int32)))]) (pc := 49) C rfl (zz_inc zki_1) rfl rfl d_Night_doDrawn_49 ?_
        refine zz_goto (tgt := 2) (pc := 52) C (by decide) d_Night_doDrawn_52 ?_
        refine zz_fg C [true, true, true, false] rfl rfl ?_
        exact ih v1 (v2 + (1 : Int32)) q7 h
set_option maxHeartbeats 4000000 in
set_option maxRecDepth 100000 in
theorem zf_Night_doDrawn {G : zz_G} {l : Launch} {Z : zz_Z} {q : zz_S} {s : zz_S} (C : zz_Cx G l "OneBlanket$Night" "doDrawn" prog_6_method_7_code 4 (none) 6 (none, zsh, q) Z) (a1 : Int32) (h : f_Night_doDrawn a1 s = some q) : Z 0 [some (.ref 20), some (.int a1), none, none] [] zsh s := by
  unfold f_Night_doDrawn at h
  refine zz_iconst (pc := 0) C zki_0 d_Night_doDrawn_0 ?_
  refine zz_istore_n (i := 2) (lo' := [some (.ref 20), some (.int a1), some (.int (0 : Int32)), none]) (pc := 1) C rfl (Nat.le_of_ble_eq_true rfl) rfl rfl d_Night_doDrawn_1 ?_
  exact zf_Night_doDrawn_L2 C zF a1 (0 : Int32) s h
theorem zm_Night_doDrawn {G : zz_G} {l : Launch} {s : zz_S} {q : zz_S} {a1 : Int32} (h : f_Night_doDrawn a1 s = some q) : zz_M G l 6 y_Night_doDrawn prog_6_method_7_code 4 (none) [.ref 20, .int a1] zsh s (none, zsh, q) :=
  zz_M.intro (by decide) (Nat.le_of_ble_eq_true rfl) (Nat.le_refl _) (Nat.le_refl _) (fun Z C => zf_Night_doDrawn C a1 h)
theorem d_Night_doTold_0 : decode prog_6_method_6_code 0 = .ok (.aload_n 0, 1) := by decide +kernel
theorem d_Night_doTold_1 : decode prog_6_method_6_code 1 = .ok (.getfield 85, 3) := by decide +kernel
theorem d_Night_doTold_4 : decode prog_6_method_6_code 4 = .ok (.istore_n 2, 1) := by decide +kernel
theorem d_Night_doTold_5 : decode prog_6_method_6_code 5 = .ok (.aload_n 0, 1) := by decide +kernel
theorem d_Night_doTold_6 : decode prog_6_method_6_code 6 = .ok (.getfield 85, 3) := by decide +kernel
theorem d_Night_doTold_9 : decode prog_6_method_6_code 9 = .ok (.aload_n 0, 1) := by decide +kernel
theorem d_Night_doTold_10 : decode prog_6_method_6_code 10 = .ok (.getfield 45, 3) := by decide +kernel
theorem d_Night_doTold_13 : decode prog_6_method_6_code 13 = .ok (.getfield 131, 3) := by decide +kernel
theorem d_Night_doTold_16 : decode prog_6_method_6_code 16 = .ok (.if_icmp .ge (101), 3) := by decide +kernel
theorem d_Night_doTold_19 : decode prog_6_method_6_code 19 = .ok (.aload_n 0, 1) := by decide +kernel
theorem d_Night_doTold_20 : decode prog_6_method_6_code 20 = .ok (.getfield 45, 3) := by decide +kernel
theorem d_Night_doTold_23 : decode prog_6_method_6_code 23 = .ok (.getfield 139, 3) := by decide +kernel
theorem d_Night_doTold_26 : decode prog_6_method_6_code 26 = .ok (.aload_n 0, 1) := by decide +kernel
theorem d_Night_doTold_27 : decode prog_6_method_6_code 27 = .ok (.getfield 85, 3) := by decide +kernel
theorem d_Night_doTold_30 : decode prog_6_method_6_code 30 = .ok (.iaload, 1) := by decide +kernel
theorem d_Night_doTold_31 : decode prog_6_method_6_code 31 = .ok (.istore_n 3, 1) := by decide +kernel
theorem d_Night_doTold_32 : decode prog_6_method_6_code 32 = .ok (.aload_n 0, 1) := by decide +kernel
theorem d_Night_doTold_33 : decode prog_6_method_6_code 33 = .ok (.getfield 45, 3) := by decide +kernel
theorem d_Night_doTold_36 : decode prog_6_method_6_code 36 = .ok (.getfield 136, 3) := by decide +kernel
theorem d_Night_doTold_39 : decode prog_6_method_6_code 39 = .ok (.iload_n 3, 1) := by decide +kernel
theorem d_Night_doTold_40 : decode prog_6_method_6_code 40 = .ok (.iaload, 1) := by decide +kernel
theorem d_Night_doTold_41 : decode prog_6_method_6_code 41 = .ok (.iload_n 1, 1) := by decide +kernel
theorem d_Night_doTold_42 : decode prog_6_method_6_code 42 = .ok (.if_icmp .eq (6), 3) := by decide +kernel
theorem d_Night_doTold_45 : decode prog_6_method_6_code 45 = .ok (.goto (72), 3) := by decide +kernel
theorem d_Night_doTold_48 : decode prog_6_method_6_code 48 = .ok (.aload_n 0, 1) := by decide +kernel
theorem d_Night_doTold_49 : decode prog_6_method_6_code 49 = .ok (.getfield 45, 3) := by decide +kernel
theorem d_Night_doTold_52 : decode prog_6_method_6_code 52 = .ok (.getfield 142, 3) := by decide +kernel
theorem d_Night_doTold_55 : decode prog_6_method_6_code 55 = .ok (.iload_n 3, 1) := by decide +kernel
theorem d_Night_doTold_56 : decode prog_6_method_6_code 56 = .ok (.iaload, 1) := by decide +kernel
theorem d_Night_doTold_57 : decode prog_6_method_6_code 57 = .ok (.istore 4, 2) := by decide +kernel
theorem d_Night_doTold_59 : decode prog_6_method_6_code 59 = .ok (.aload_n 0, 1) := by decide +kernel
theorem d_Night_doTold_60 : decode prog_6_method_6_code 60 = .ok (.getfield 41, 3) := by decide +kernel
theorem d_Night_doTold_63 : decode prog_6_method_6_code 63 = .ok (.iload 4, 2) := by decide +kernel
theorem d_Night_doTold_65 : decode prog_6_method_6_code 65 = .ok (.invokevirtual 145, 3) := by decide +kernel
theorem d_Night_doTold_68 : decode prog_6_method_6_code 68 = .ok (.ifCond .eq (36), 3) := by decide +kernel
theorem d_Night_doTold_71 : decode prog_6_method_6_code 71 = .ok (.aload_n 0, 1) := by decide +kernel
theorem d_Night_doTold_72 : decode prog_6_method_6_code 72 = .ok (.getfield 91, 3) := by decide +kernel
theorem d_Night_doTold_75 : decode prog_6_method_6_code 75 = .ok (.iconst (-1), 1) := by decide +kernel
theorem d_Night_doTold_76 : decode prog_6_method_6_code 76 = .ok (.if_icmp .eq (12), 3) := by decide +kernel
theorem d_Night_doTold_79 : decode prog_6_method_6_code 79 = .ok (.aload_n 0, 1) := by decide +kernel
theorem d_Night_doTold_80 : decode prog_6_method_6_code 80 = .ok (.getfield 91, 3) := by decide +kernel
theorem d_Night_doTold_83 : decode prog_6_method_6_code 83 = .ok (.iload 4, 2) := by decide +kernel
theorem d_Night_doTold_85 : decode prog_6_method_6_code 85 = .ok (.if_icmp .ne (19), 3) := by decide +kernel
theorem d_Night_doTold_88 : decode prog_6_method_6_code 88 = .ok (.aload_n 0, 1) := by decide +kernel
theorem d_Night_doTold_89 : decode prog_6_method_6_code 89 = .ok (.iload 4, 2) := by decide +kernel
theorem d_Night_doTold_91 : decode prog_6_method_6_code 91 = .ok (.aload_n 0, 1) := by decide +kernel
theorem d_Night_doTold_92 : decode prog_6_method_6_code 92 = .ok (.getfield 45, 3) := by decide +kernel
theorem d_Night_doTold_95 : decode prog_6_method_6_code 95 = .ok (.getfield 149, 3) := by decide +kernel
theorem d_Night_doTold_98 : decode prog_6_method_6_code 98 = .ok (.iload_n 3, 1) := by decide +kernel
theorem d_Night_doTold_99 : decode prog_6_method_6_code 99 = .ok (.iaload, 1) := by decide +kernel
theorem d_Night_doTold_100 : decode prog_6_method_6_code 100 = .ok (.iload_n 1, 1) := by decide +kernel
theorem d_Night_doTold_101 : decode prog_6_method_6_code 101 = .ok (.invokevirtual 152, 3) := by decide +kernel
theorem d_Night_doTold_104 : decode prog_6_method_6_code 104 = .ok (.aload_n 0, 1) := by decide +kernel
theorem d_Night_doTold_105 : decode prog_6_method_6_code 105 = .ok (.dup, 1) := by decide +kernel
theorem d_Night_doTold_106 : decode prog_6_method_6_code 106 = .ok (.getfield 85, 3) := by decide +kernel
theorem d_Night_doTold_109 : decode prog_6_method_6_code 109 = .ok (.iconst 1, 1) := by decide +kernel
theorem d_Night_doTold_110 : decode prog_6_method_6_code 110 = .ok (.iadd, 1) := by decide +kernel
theorem d_Night_doTold_111 : decode prog_6_method_6_code 111 = .ok (.putfield 85, 3) := by decide +kernel
theorem d_Night_doTold_114 : decode prog_6_method_6_code 114 = .ok (.goto (-109), 3) := by decide +kernel
theorem d_Night_doTold_117 : decode prog_6_method_6_code 117 = .ok (.aload_n 0, 1) := by decide +kernel
theorem d_Night_doTold_118 : decode prog_6_method_6_code 118 = .ok (.getfield 85, 3) := by decide +kernel
theorem d_Night_doTold_121 : decode prog_6_method_6_code 121 = .ok (.iload_n 2, 1) := by decide +kernel
theorem d_Night_doTold_122 : decode prog_6_method_6_code 122 = .ok (.if_icmp .le (10), 3) := by decide +kernel
theorem d_Night_doTold_125 : decode prog_6_method_6_code 125 = .ok (.aload_n 0, 1) := by decide +kernel
theorem d_Night_doTold_126 : decode prog_6_method_6_code 126 = .ok (.getfield 62, 3) := by decide +kernel
theorem d_Night_doTold_129 : decode prog_6_method_6_code 129 = .ok (.invokevirtual 155, 3) := by decide +kernel
theorem d_Night_doTold_132 : decode prog_6_method_6_code 132 = .ok (.return_, 1) := by decide +kernel
set_option maxHeartbeats 4000000 in
set_option maxRecDepth 100000 in
theorem zf_Night_doTold_J117 {G : zz_G} {l : Launch} {Z : zz_Z} {q : zz_S} {s : zz_S} (C : zz_Cx G l "OneBlanket$Night" "doTold" prog_6_method_6_code 5 (none) 6 (none, zsh, q) Z) (v2 : Int32) (h : f_Night_doTold_J117 v2 s = some q) : Z 117 [some (.ref 20), none, some (.int v2), none, none] [] zsh s := by
  unfold f_Night_doTold_J117 at h
  refine zz_aload_n (i := 0) (pc := 117) C rfl rfl d_Night_doTold_117 ?_
  refine zz_getI (pc := 118) C zl_4_85 zsh_20 rfl d_Night_doTold_118 ?_
  refine zz_iload_n (i := 2) (pc := 121) C rfl rfl d_Night_doTold_121 ?_
  refine zz_icmp_le (tgt := 132) (pc := 122) C (by decide) d_Night_doTold_122 (fun hc2 => ?_) (fun hc2 => ?_)
  · rw [if_pos hc2] at h
    replace h := Option.some.inj h
    subst h
    exact zz_ret (pc := 132) C (v := none) d_Night_doTold_132 (Or.inr (Or.inr (Or.inr ⟨rfl, rfl, rfl⟩))) rfl
  · rw [if_neg hc2] at h
    refine zz_aload_n (i := 0) (pc := 125) C rfl rfl d_Night_doTold_125 ?_
    refine zz_getR (pc := 126) C zl_4_62 zsh_20 rfl d_Night_doTold_126 ?_
    obtain ⟨q3, hq3, h⟩ := zz_bdE h
    refine zz_cVv (as := []) (st := []) (pc := 129) C (zm_Lie_feelWarmth hq3) zcv_Lie_feelWarmth zsh_32 zl_4_155 (by omega) (Nat.le_of_ble_eq_true rfl) d_Night_doTold_129 rfl rfl ?_
    replace h := Option.some.inj h
    subst h
    exact zz_ret (pc := 132) C (v := none) d_Night_doTold_132 (Or.inr (Or.inr (Or.inr ⟨rfl, rfl, rfl⟩))) rfl
set_option maxHeartbeats 4000000 in
set_option maxRecDepth 100000 in
theorem zf_Night_doTold_J104 {G : zz_G} {l : Launch} {Z : zz_Z} {q : zz_S} {s : zz_S} (C : zz_Cx G l "OneBlanket$Night" "doTold" prog_6_method_6_code 5 (none) 6 (none, zsh, q) Z) (K5 : Int32 → Int32 → zz_S → Option (zz_S)) (hK5 : ∀ (v1 : Int32) (v2 : Int32) (s : zz_S), K5 v1 v2 s = some q → Z 5 [some (.ref 20), some (.int v1), some (.int v2), none, none] [] zsh s) (v1 : Int32) (v2 : Int32) (h : f_Night_doTold_J104 K5 v1 v2 s = some q) : Z 104 [some (.ref 20), some (.int v1), some (.int v2), none, none] [] zsh s := by
  unfold f_Night_doTold_J104 at h
  refine zz_aload_n (i := 0) (pc := 104) C rfl rfl d_Night_doTold_104 ?_
  refine zz_dup (pc := 105) C rfl d_Night_doTold_105 ?_
  refine zz_getI (pc := 106) C zl_4_85 zsh_20 rfl d_Night_doTold_106 ?_
  refine zz_iconst (pc := 109) C zki_1 d_Night_doTold_109 ?_
  refine zz_iadd (pc := 110) C d_Night_doTold_110 ?_
  refine zz_putI' (pc := 111) C zl_4_85 zpf_4_12 zsh_20 rfl d_Night_doTold_111 ?_
  refine zz_goto (tgt := 5) (pc := 114) C (by decide) d_Night_doTold_114 ?_
  exact hK5 v1 v2 (zz_w s 20 12 ((s.1 20 12) + (1 : Int32))) h
set_option maxHeartbeats 4000000 in
set_option maxRecDepth 100000 in
theorem zf_Night_doTold_J88 {G : zz_G} {l : Launch} {Z : zz_Z} {q : zz_S} {s : zz_S} (C : zz_Cx G l "OneBlanket$Night" "doTold" prog_6_method_6_code 5 (none) 6 (none, zsh, q) Z) (K5 : Int32 → Int32 → zz_S → Option (zz_S)) (hK5 : ∀ (v1 : Int32) (v2 : Int32) (s : zz_S), K5 v1 v2 s = some q → Z 5 [some (.ref 20), some (.int v1), some (.int v2), none, none] [] zsh s) (v1 : Int32) (v2 : Int32) (v3 : Int32) (v4 : Int32) (h : f_Night_doTold_J88 K5 v1 v2 v3 v4 s = some q) : Z 88 [some (.ref 20), some (.int v1), some (.int v2), some (.int v3), some (.int v4)] [] zsh s := by
  unfold f_Night_doTold_J88 at h
  refine zz_aload_n (i := 0) (pc := 88) C rfl rfl d_Night_doTold_88 ?_
  refine zz_iload (i := 4) (pc := 89) C rfl d_Night_doTold_89 ?_
  refine zz_aload_n (i := 0) (pc := 91) C rfl rfl d_Night_doTold_91 ?_
  refine zz_getR (pc := 92) C zl_4_45 zsh_20 rfl d_Night_doTold_92 ?_
  refine zz_getR (pc := 95) C zl_4_149 zsh_10 rfl d_Night_doTold_95 ?_
  refine zz_iload_n (i := 3) (pc := 98) C rfl rfl d_Night_doTold_98 ?_
  obtain ⟨hi9, h⟩ := zz_ckE h
  refine zz_iald (pc := 99) C rfl zsh_13 hi9 d_Night_doTold_99 ?_
  refine zz_iload_n (i := 1) (pc := 100) C rfl rfl d_Night_doTold_100 ?_
  obtain ⟨q10, hq10, h⟩ := zz_bdE h
  refine zz_cVv (as := [.int v4, .int (s.1 13 (v3.toNatClampNeg)), .int v1]) (st := []) (pc := 101) C (zm_Night_turnOver hq10) zcv_Night_turnOver zsh_20 zl_4_152 (by omega) (Nat.le_of_ble_eq_true rfl) d_Night_doTold_101 rfl rfl ?_
  refine zz_fg C [true, true, true, false, false] rfl rfl ?_
  exact zf_Night_doTold_J104 C K5 hK5 v1 v2 h
set_option maxHeartbeats 4000000 in
set_option maxRecDepth 100000 in
theorem zf_Night_doTold_L5 {G : zz_G} {l : Launch} {Z : zz_Z} {q : zz_S} (C : zz_Cx G l "OneBlanket$Night" "doTold" prog_6_method_6_code 5 (none) 6 (none, zsh, q) Z) : ∀ (n : Nat) (v1 : Int32) (v2 : Int32) (s : zz_S), f_Night_doTold_L5 n v1 v2 s = some q → Z 5 [some (.ref 20), some (.int v1), some (.int v2), none, none] [] zsh s := by
  intro n
  induction n with
  | zero => intro v1 v2 s h; rw [f_Night_doTold_L5] at h; cases h
  | succ n ih =>
  intro v1 v2 s h
  rw [f_Night_doTold_L5] at h
  refine zz_aload_n (i := 0) (pc := 5) C rfl rfl d_Night_doTold_5 ?_
  refine zz_getI (pc := 6) C zl_4_85 zsh_20 rfl d_Night_doTold_6 ?_
  refine zz_aload_n (i := 0) (pc := 9) C rfl rfl d_Night_doTold_9 ?_
  refine zz_getR (pc := 10) C zl_4_45 zsh_20 rfl d_Night_doTold_10 ?_
  refine zz_getI (pc := 13) C zl_4_131 zsh_10 rfl d_Night_doTold_13 ?_
  refine zz_icmp_ge (tgt := 117) (pc := 16) C (by decide) d_Night_doTold_16 (fun hc1 => ?_) (fun hc1 => ?_)
  · rw [if_pos hc1] at h
    refine zz_fg C [true, false, true, false, false] rfl rfl ?_
    exact zf_Night_doTold_J117 C v2 h
  · rw [if_neg hc1] at h
    refine zz_aload_n (i := 0) (pc := 19) C rfl rfl d_Night_doTold_19 ?_
    refine zz_getR (pc := 20) C zl_4_45 zsh_20 rfl d_Night_doTold_20 ?_
    refine zz_getR (pc := 23) C zl_4_139 zsh_10 rfl d_Night_doTold_23 ?_
    refine zz_aload_n (i := 0) (pc := 26) C rfl rfl d_Night_doTold_26 ?_
    refine zz_getI (pc := 27) C zl_4_85 zsh_20 rfl d_Night_doTold_27 ?_
    obtain ⟨hi4, h⟩ := zz_ckE h
    refine zz_iald (pc := 30) C rfl zsh_14 hi4 d_Night_doTold_30 ?_
    refine zz_istore_n (i := 3) (lo' := [some (.ref 20), some (.int v1), some (.int v2), some (.int (s.1 14 ((s.1 20 12).toNatClampNeg))), none]) (pc := 31) C rfl (Nat.le_of_ble_eq_true rfl) rfl rfl d_Night_doTold_31 ?_
    refine zz_aload_n (i := 0) (pc := 32) C rfl rfl d_Night_doTold_32 ?_
    refine zz_getR (pc := 33) C zl_4_45 zsh_20 rfl d_Night_doTold_33 ?_
    refine zz_getR (pc := 36) C zl_4_136 zsh_10 rfl d_Night_doTold_36 ?_
    refine zz_iload_n (i := 3) (pc := 39) C rfl rfl d_Night_doTold_39 ?_
    obtain ⟨hi5, h⟩ := zz_ckE h
    refine zz_iald (pc := 40) C rfl zsh_11 hi5 d_Night_doTold_40 ?_
    refine zz_iload_n (i := 1) (pc := 41) C rfl rfl d_Night_doTold_41 ?_
    refine zz_icmp_eq (tgt := 48) (pc := 42) C (by decide) d_Night_doTold_42 (fun hc6 => ?_) (fun hc6 => ?_)
    · rw [if_pos hc6] at h
      refine zz_aload_n (i := 0) (pc := 48) C rfl rfl d_Night_doTold_48 ?_
      refine zz_getR (pc := 49) C zl_4_45 zsh_20 rfl d_Night_doTold_49 ?_
      refine zz_getR (pc := 52) C zl_4_142 zsh_10 rfl d_Night_doTold_52 ?_
      refine zz_iload_n (i := 3) (pc := 55) C rfl rfl d_Night_doTold_55 ?_
      refine zz_iald (pc := 56) C rfl zsh_12 hi5 d_Night_doTold_56 ?_
      refine zz_istore (i := 4) (lo' := [some (.ref 20), some (.int v1), some (.int v2), some (.int (s.1 14 ((s.1 20 12).toNatClampNeg))), some (.int (s.1 12 ((s.1 14 ((s.1 20 12).toNatClampNeg)).toNatClampNeg)))]) (pc := 57) C (Nat.le_of_ble_eq_true rfl) rfl rfl d_Night_doTold_57 ?_
      refine zz_aload_n (i := 0) (pc := 59) C rfl rfl d_Night_doTold_59 ?_
      refine zz_getR (pc := 60) C zl_4_41 zsh_20 rfl d_Night_doTold_60 ?_
      refine zz_iload (i := 4) (pc := 63) C rfl d_Night_doTold_63 ?_
      refine zz_cVi (as := [.int (s.1 12 ((s.1 14 ((s.1 20 12).toNatClampNeg)).toNatClampNeg))]) (st := []) (pc := 65) C (zm_Bed_hasSleeper rfl) zcv_Bed_hasSleeper zsh_1 zl_4_145 (by omega) (Nat.le_of_ble_eq_true rfl) d_Night_doTold_65 rfl rfl ?_
      refine zz_if_eq (tgt := 104) (pc := 68) C (by decide) d_Night_doTold_68 (fun hc7 => ?_) (fun hc7 => ?_)
      · rw [if_pos hc7] at h
        refine zz_fg C [true, true, true, false, false] rfl rfl ?_
        exact zf_Night_doTold_J104 C (f_Night_doTold_L5 n) ih v1 v2 h
      · rw [if_neg hc7] at h
        refine zz_aload_n (i := 0) (pc := 71) C rfl rfl d_Night_doTold_71 ?_
        refine zz_getI (pc := 72) C zl_4_91 zsh_20 rfl d_Night_doTold_72 ?_
        refine zz_iconst (pc := 75) C zki_m1 d_Night_doTold_75 ?_
        refine zz_icmp_eq (tgt := 88) (pc := 76) C (by decide) d_Night_doTold_76 (fun hc8 => ?_) (fun hc8 => ?_)
        · rw [if_pos hc8] at h
          exact zf_Night_doTold_J88 C (f_Night_doTold_L5 n) ih v1 v2 (s.1 14 ((s.1 20 12).toNatClampNeg)) (s.1 12 ((s.1 14 ((s.1 20 12).toNatClampNeg)).toNatClampNeg)) h
        · rw [if_neg hc8] at h
          refine zz_aload_n (i := 0) (pc := 79) C rfl rfl d_Night_doTold_79 ?_
          refine zz_getI (pc := 80) C zl_4_91 zsh_20 rfl d_Night_doTold_80 ?_
          refine zz_iload (i := 4) (pc := 83) C rfl d_Night_doTold_83 ?_
          refine zz_icmp_ne (tgt := 104) (pc := 85) C (by decide) d_Night_doTold_85 (fun hc11 => ?_) (fun hc11 => ?_)
          · rw [if_neg hc11] at h
            refine zz_fg C [true, true, true, false, false] rfl rfl ?_
            exact zf_Night_doTold_J104 C (f_Night_doTold_L5 n) ih v1 v2 h
          · rw [if_pos hc11] at h
            exact zf_Night_doTold_J88 C (f_Night_doTold_L5 n) ih v1 v2 (s.1 14 ((s.1 20 12).toNatClampNeg)) (s.1 12 ((s.1 14 ((s.1 20 12).toNatClampNeg)).toNatClampNeg)) h
    · rw [if_neg hc6] at h
      refine zz_goto (tgt := 117) (pc := 45) C (by decide) d_Night_doTold_45 ?_
      refine zz_fg C [true, false, true, false, false] rfl rfl ?_
      exact zf_Night_doTold_J117 C v2 h
set_option maxHeartbeats 4000000 in
set_option maxRecDepth 100000 in
theorem zf_Night_doTold {G : zz_G} {l : Launch} {Z : zz_Z} {q : zz_S} {s : zz_S} (C : zz_Cx G l "OneBlanket$Night" "doTold" prog_6_method_6_code 5 (none) 6 (none, zsh, q) Z) (a1 : Int32) (h : f_Night_doTold a1 s = some q) : Z 0 [some (.ref 20), some (.int a1), none, none, none] [] zsh s := by
  unfold f_Night_doTold at h
  refine zz_aload_n (i := 0) (pc := 0) C rfl rfl d_Night_doTold_0 ?_
  refine zz_getI (pc := 1) C zl_4_85 zsh_20 rfl d_Night_doTold_1 ?_
  refine zz_istore_n (i := 2) (lo' := [some (.ref 20), some (.int a1), some (.int (s.1 20 12)), none, none]) (pc := 4) C rfl (Nat.le_of_ble_eq_true rfl) rfl rfl d_Night_doTold_4 ?_
  exact zf_Night_doTold_L5 C zF a1 (s.1 20 12) s h
theorem zm_Night_doTold {G : zz_G} {l : Launch} {s : zz_S} {q : zz_S} {a1 : Int32} (h : f_Night_doTold a1 s = some q) : zz_M G l 6 y_Night_doTold prog_6_method_6_code 5 (none) [.ref 20, .int a1] zsh s (none, zsh, q) :=
  zz_M.intro (by decide) (Nat.le_of_ble_eq_true rfl) (Nat.le_refl _) (Nat.le_refl _) (fun Z C => zf_Night_doTold C a1 h)
theorem d_Night_drawTurns_0 : decode prog_6_method_3_code 0 = .ok (.aload_n 0, 1) := by decide +kernel
theorem d_Night_drawTurns_1 : decode prog_6_method_3_code 1 = .ok (.iload_n 1, 1) := by decide +kernel
theorem d_Night_drawTurns_2 : decode prog_6_method_3_code 2 = .ok (.putfield 97, 3) := by decide +kernel
theorem d_Night_drawTurns_5 : decode prog_6_method_3_code 5 = .ok (.aload_n 0, 1) := by decide +kernel
theorem d_Night_drawTurns_6 : decode prog_6_method_3_code 6 = .ok (.iload_n 2, 1) := by decide +kernel
theorem d_Night_drawTurns_7 : decode prog_6_method_3_code 7 = .ok (.putfield 94, 3) := by decide +kernel
theorem d_Night_drawTurns_10 : decode prog_6_method_3_code 10 = .ok (.return_, 1) := by decide +kernel
set_option maxHeartbeats 4000000 in
set_option maxRecDepth 100000 in
theorem zf_Night_drawTurns {G : zz_G} {l : Launch} {Z : zz_Z} {q : zz_S} {s : zz_S} (C : zz_Cx G l "OneBlanket$Night" "drawTurns" prog_6_method_3_code 3 (none) 2 (none, zsh, q) Z) (a1 : Int32) (a2 : Int32) (h : f_Night_drawTurns a1 a2 s = q) : Z 0 [some (.ref 20), some (.int a1), some (.int a2)] [] zsh s := by
  unfold f_Night_drawTurns at h
  refine zz_aload_n (i := 0) (pc := 0) C rfl rfl d_Night_drawTurns_0 ?_
  refine zz_iload_n (i := 1) (pc := 1) C rfl rfl d_Night_drawTurns_1 ?_
  refine zz_putI' (pc := 2) C zl_4_97 zpf_4_15 zsh_20 rfl d_Night_drawTurns_2 ?_
  refine zz_aload_n (i := 0) (pc := 5) C rfl rfl d_Night_drawTurns_5 ?_
  refine zz_iload_n (i := 2) (pc := 6) C rfl rfl d_Night_drawTurns_6 ?_
  refine zz_putI' (pc := 7) C zl_4_94 zpf_4_16 zsh_20 rfl d_Night_drawTurns_7 ?_
  subst h
  exact zz_ret (pc := 10) C (v := none) d_Night_drawTurns_10 (Or.inr (Or.inr (Or.inr ⟨rfl, rfl, rfl⟩))) rfl
theorem zm_Night_drawTurns {G : zz_G} {l : Launch} {s : zz_S} {q : zz_S} {a1 : Int32} {a2 : Int32} (h : f_Night_drawTurns a1 a2 s = q) : zz_M G l 2 y_Night_drawTurns prog_6_method_3_code 3 (none) [.ref 20, .int a1, .int a2] zsh s (none, zsh, q) :=
  zz_M.intro (by decide) (Nat.le_of_ble_eq_true rfl) (Nat.le_refl _) (Nat.le_refl _) (fun Z C => zf_Night_drawTurns C a1 a2 h)
theorem d_Night_minuteOfTurns_0 : decode prog_6_method_5_code 0 = .ok (.aload_n 0, 1) := by decide +kernel
theorem d_Night_minuteOfTurns_1 : decode prog_6_method_5_code 1 = .ok (.getfield 94, 3) := by decide +kernel
theorem d_Night_minuteOfTurns_4 : decode prog_6_method_5_code 4 = .ok (.ifCond .lt (13), 3) := by decide +kernel
theorem d_Night_minuteOfTurns_7 : decode prog_6_method_5_code 7 = .ok (.iload_n 1, 1) := by decide +kernel
theorem d_Night_minuteOfTurns_8 : decode prog_6_method_5_code 8 = .ok (.iload_n 1, 1) := by decide +kernel
theorem d_Night_minuteOfTurns_9 : decode prog_6_method_5_code 9 = .ok (.bipush (10), 2) := by decide +kernel
theorem d_Night_minuteOfTurns_11 : decode prog_6_method_5_code 11 = .ok (.irem, 1) := by decide +kernel
theorem d_Night_minuteOfTurns_12 : decode prog_6_method_5_code 12 = .ok (.isub, 1) := by decide +kernel
theorem d_Night_minuteOfTurns_13 : decode prog_6_method_5_code 13 = .ok (.bipush (10), 2) := by decide +kernel
theorem d_Night_minuteOfTurns_15 : decode prog_6_method_5_code 15 = .ok (.iadd, 1) := by decide +kernel
theorem d_Night_minuteOfTurns_16 : decode prog_6_method_5_code 16 = .ok (.ireturn, 1) := by decide +kernel
theorem d_Night_minuteOfTurns_17 : decode prog_6_method_5_code 17 = .ok (.aload_n 0, 1) := by decide +kernel
theorem d_Night_minuteOfTurns_18 : decode prog_6_method_5_code 18 = .ok (.getfield 85, 3) := by decide +kernel
theorem d_Night_minuteOfTurns_21 : decode prog_6_method_5_code 21 = .ok (.aload_n 0, 1) := by decide +kernel
theorem d_Night_minuteOfTurns_22 : decode prog_6_method_5_code 22 = .ok (.getfield 45, 3) := by decide +kernel
theorem d_Night_minuteOfTurns_25 : decode prog_6_method_5_code 25 = .ok (.getfield 131, 3) := by decide +kernel
theorem d_Night_minuteOfTurns_28 : decode prog_6_method_5_code 28 = .ok (.if_icmp .ge (26), 3) := by decide +kernel
theorem d_Night_minuteOfTurns_31 : decode prog_6_method_5_code 31 = .ok (.aload_n 0, 1) := by decide +kernel
theorem d_Night_minuteOfTurns_32 : decode prog_6_method_5_code 32 = .ok (.getfield 45, 3) := by decide +kernel
theorem d_Night_minuteOfTurns_35 : decode prog_6_method_5_code 35 = .ok (.getfield 136, 3) := by decide +kernel
theorem d_Night_minuteOfTurns_38 : decode prog_6_method_5_code 38 = .ok (.aload_n 0, 1) := by decide +kernel
theorem d_Night_minuteOfTurns_39 : decode prog_6_method_5_code 39 = .ok (.getfield 45, 3) := by decide +kernel
theorem d_Night_minuteOfTurns_42 : decode prog_6_method_5_code 42 = .ok (.getfield 139, 3) := by decide +kernel
theorem d_Night_minuteOfTurns_45 : decode prog_6_method_5_code 45 = .ok (.aload_n 0, 1) := by decide +kernel
theorem d_Night_minuteOfTurns_46 : decode prog_6_method_5_code 46 = .ok (.getfield 85, 3) := by decide +kernel
theorem d_Night_minuteOfTurns_49 : decode prog_6_method_5_code 49 = .ok (.iaload, 1) := by decide +kernel
theorem d_Night_minuteOfTurns_50 : decode prog_6_method_5_code 50 = .ok (.iaload, 1) := by decide +kernel
theorem d_Night_minuteOfTurns_51 : decode prog_6_method_5_code 51 = .ok (.goto (6), 3) := by decide +kernel
theorem d_Night_minuteOfTurns_54 : decode prog_6_method_5_code 54 = .ok (.sipush (480), 3) := by decide +kernel
theorem d_Night_minuteOfTurns_57 : decode prog_6_method_5_code 57 = .ok (.ireturn, 1) := by decide +kernel
set_option maxHeartbeats 4000000 in
set_option maxRecDepth 100000 in
theorem zf_Night_minuteOfTurns {G : zz_G} {l : Launch} {Z : zz_Z} {q : Int32} {s : zz_S} (C : zz_Cx G l "OneBlanket$Night" "minuteOfTurns" prog_6_method_5_code 2 (some .int) 2 (some (.int q), zsh, s) Z) (a1 : Int32) (h : f_Night_minuteOfTurns a1 s = some q) : Z 0 [some (.ref 20), some (.int a1)] [] zsh s := by
  unfold f_Night_minuteOfTurns at h
  refine zz_aload_n (i := 0) (pc := 0) C rfl rfl d_Night_minuteOfTurns_0 ?_
  refine zz_getI (pc := 1) C zl_4_94 zsh_20 rfl d_Night_minuteOfTurns_1 ?_
  refine zz_if_lt (tgt := 17) (pc := 4) C (by decide) d_Night_minuteOfTurns_4 (fun hc1 => ?_) (fun hc1 => ?_)
  · rw [if_pos hc1] at h
    refine zz_aload_n (i := 0) (pc := 17) C rfl rfl d_Night_minuteOfTurns_17 ?_
    refine zz_getI (pc := 18) C zl_4_85 zsh_20 rfl d_Night_minuteOfTurns_18 ?_
    refine zz_aload_n (i := 0) (pc := 21) C rfl rfl d_Night_minuteOfTurns_21 ?_
    refine zz_getR (pc := 22) C zl_4_45 zsh_20 rfl d_Night_minuteOfTurns_22 ?_
    refine zz_getI (pc := 25) C zl_4_131 zsh_10 rfl d_Night_minuteOfTurns_25 ?_
    refine zz_icmp_ge (tgt := 54) (pc := 28) C (by decide) d_Night_minuteOfTurns_28 (fun hc2 => ?_) (fun hc2 => ?_)
    · rw [if_pos hc2] at h
      refine zz_sipush (pc := 54) C zks_480 d_Night_minuteOfTurns_54 ?_
      replace h := Option.some.inj h
      subst h
      exact zz_ret (pc := 57) C (v := some (.int (480 : Int32))) d_Night_minuteOfTurns_57 (Or.inl ⟨_, _, rfl, rfl, rfl, rfl⟩) rfl
    · rw [if_neg hc2] at h
      refine zz_aload_n (i := 0) (pc := 31) C rfl rfl d_Night_minuteOfTurns_31 ?_
      refine zz_getR (pc := 32) C zl_4_45 zsh_20 rfl d_Night_minuteOfTurns_32 ?_
      refine zz_getR (pc := 35) C zl_4_136 zsh_10 rfl d_Night_minuteOfTurns_35 ?_
      refine zz_aload_n (i := 0) (pc := 38) C rfl rfl d_Night_minuteOfTurns_38 ?_
      refine zz_getR (pc := 39) C zl_4_45 zsh_20 rfl d_Night_minuteOfTurns_39 ?_
      refine zz_getR (pc := 42) C zl_4_139 zsh_10 rfl d_Night_minuteOfTurns_42 ?_
      refine zz_aload_n (i := 0) (pc := 45) C rfl rfl d_Night_minuteOfTurns_45 ?_
      refine zz_getI (pc := 46) C zl_4_85 zsh_20 rfl d_Night_minuteOfTurns_46 ?_
      obtain ⟨hi3, h⟩ := zz_ckE h
      refine zz_iald (pc := 49) C rfl zsh_14 hi3 d_Night_minuteOfTurns_49 ?_
      obtain ⟨hi4, h⟩ := zz_ckE h
      refine zz_iald (pc := 50) C rfl zsh_11 hi4 d_Night_minuteOfTurns_50 ?_
      refine zz_goto (tgt := 57) (pc := 51) C (by decide) d_Night_minuteOfTurns_51 ?_
      replace h := Option.some.inj h
      subst h
      exact zz_ret (pc := 57) C (v := some (.int (s.1 11 ((s.1 14 ((s.1 20 12).toNatClampNeg)).toNatClampNeg)))) d_Night_minuteOfTurns_57 (Or.inl ⟨_, _, rfl, rfl, rfl, rfl⟩) rfl
  · rw [if_neg hc1] at h
    refine zz_iload_n (i := 1) (pc := 7) C rfl rfl d_Night_minuteOfTurns_7 ?_
    refine zz_iload_n (i := 1) (pc := 8) C rfl rfl d_Night_minuteOfTurns_8 ?_
    refine zz_bipush (pc := 9) C zkb_10 d_Night_minuteOfTurns_9 ?_
    refine zz_irem (pc := 11) C (by decide) d_Night_minuteOfTurns_11 ?_
    refine zz_isub (pc := 12) C d_Night_minuteOfTurns_12 ?_
    refine zz_bipush (pc := 13) C zkb_10 d_Night_minuteOfTurns_13 ?_
    refine zz_iadd (pc := 15) C d_Night_minuteOfTurns_15 ?_
    replace h := Option.some.inj h
    subst h
    exact zz_ret (pc := 16) C (v := some (.int ((a1 - (a1 % (10 : Int32))) + (10 : Int32)))) d_Night_minuteOfTurns_16 (Or.inl ⟨_, _, rfl, rfl, rfl, rfl⟩) rfl
theorem zm_Night_minuteOfTurns {G : zz_G} {l : Launch} {s : zz_S} {q : Int32} {a1 : Int32} (h : f_Night_minuteOfTurns a1 s = some q) : zz_M G l 2 y_Night_minuteOfTurns prog_6_method_5_code 2 (some .int) [.ref 20, .int a1] zsh s (some (.int q), zsh, s) :=
  zz_M.intro (by decide) (Nat.le_of_ble_eq_true rfl) (Nat.le_refl _) (Nat.le_refl _) (fun Z C => zf_Night_minuteOfTurns C a1 h)
theorem d_Night_play_0 : decode prog_6_method_4_code 0 = .ok (.iconst 0, 1) := by decide +kernel
theorem d_Night_play_1 : decode prog_6_method_4_code 1 = .ok (.istore_n 2, 1) := by decide +kernel
theorem d_Night_play_2 : decode prog_6_method_4_code 2 = .ok (.iload_n 2, 1) := by decide +kernel
theorem d_Night_play_3 : decode prog_6_method_4_code 3 = .ok (.sipush (480), 3) := by decide +kernel
theorem d_Night_play_6 : decode prog_6_method_4_code 6 = .ok (.if_icmp .ge (110), 3) := by decide +kernel
theorem d_Night_play_9 : decode prog_6_method_4_code 9 = .ok (.aload_n 0, 1) := by decide +kernel
theorem d_Night_play_10 : decode prog_6_method_4_code 10 = .ok (.getfield 82, 3) := by decide +kernel
theorem d_Night_play_13 : decode prog_6_method_4_code 13 = .ok (.iload_n 1, 1) := by decide +kernel
theorem d_Night_play_14 : decode prog_6_method_4_code 14 = .ok (.if_icmp .gt (102), 3) := by decide +kernel
theorem d_Night_play_17 : decode prog_6_method_4_code 17 = .ok (.aload_n 0, 1) := by decide +kernel
theorem d_Night_play_18 : decode prog_6_method_4_code 18 = .ok (.getfield 82, 3) := by decide +kernel
theorem d_Night_play_21 : decode prog_6_method_4_code 21 = .ok (.istore_n 3, 1) := by decide +kernel
theorem d_Night_play_22 : decode prog_6_method_4_code 22 = .ok (.aload_n 0, 1) := by decide +kernel
theorem d_Night_play_23 : decode prog_6_method_4_code 23 = .ok (.getfield 94, 3) := by decide +kernel
theorem d_Night_play_26 : decode prog_6_method_4_code 26 = .ok (.ifCond .ge (11), 3) := by decide +kernel
theorem d_Night_play_29 : decode prog_6_method_4_code 29 = .ok (.aload_n 0, 1) := by decide +kernel
theorem d_Night_play_30 : decode prog_6_method_4_code 30 = .ok (.iload_n 3, 1) := by decide +kernel
theorem d_Night_play_31 : decode prog_6_method_4_code 31 = .ok (.invokevirtual 100, 3) := by decide +kernel
theorem d_Night_play_34 : decode prog_6_method_4_code 34 = .ok (.goto (15), 3) := by decide +kernel
theorem d_Night_play_37 : decode prog_6_method_4_code 37 = .ok (.iload_n 3, 1) := by decide +kernel
theorem d_Night_play_38 : decode prog_6_method_4_code 38 = .ok (.bipush (10), 2) := by decide +kernel
theorem d_Night_play_40 : decode prog_6_method_4_code 40 = .ok (.irem, 1) := by decide +kernel
theorem d_Night_play_41 : decode prog_6_method_4_code 41 = .ok (.ifCond .ne (8), 3) := by decide +kernel
theorem d_Night_play_44 : decode prog_6_method_4_code 44 = .ok (.aload_n 0, 1) := by decide +kernel
theorem d_Night_play_45 : decode prog_6_method_4_code 45 = .ok (.iload_n 3, 1) := by decide +kernel
theorem d_Night_play_46 : decode prog_6_method_4_code 46 = .ok (.invokevirtual 104, 3) := by decide +kernel
theorem d_Night_play_49 : decode prog_6_method_4_code 49 = .ok (.aload_n 0, 1) := by decide +kernel
theorem d_Night_play_50 : decode prog_6_method_4_code 50 = .ok (.iload_n 1, 1) := by decide +kernel
theorem d_Night_play_51 : decode prog_6_method_4_code 51 = .ok (.iconst 1, 1) := by decide +kernel
theorem d_Night_play_52 : decode prog_6_method_4_code 52 = .ok (.iadd, 1) := by decide +kernel
theorem d_Night_play_53 : decode prog_6_method_4_code 53 = .ok (.aload_n 0, 1) := by decide +kernel
theorem d_Night_play_54 : decode prog_6_method_4_code 54 = .ok (.getfield 49, 3) := by decide +kernel
theorem d_Night_play_57 : decode prog_6_method_4_code 57 = .ok (.getfield 107, 3) := by decide +kernel
theorem d_Night_play_60 : decode prog_6_method_4_code 60 = .ok (.iload_n 3, 1) := by decide +kernel
theorem d_Night_play_61 : decode prog_6_method_4_code 61 = .ok (.iaload, 1) := by decide +kernel
theorem d_Night_play_62 : decode prog_6_method_4_code 62 = .ok (.aload_n 0, 1) := by decide +kernel
theorem d_Night_play_63 : decode prog_6_method_4_code 63 = .ok (.iload_n 3, 1) := by decide +kernel
theorem d_Night_play_64 : decode prog_6_method_4_code 64 = .ok (.invokevirtual 112, 3) := by decide +kernel
theorem d_Night_play_67 : decode prog_6_method_4_code 67 = .ok (.invokestatic 116, 3) := by decide +kernel
theorem d_Night_play_70 : decode prog_6_method_4_code 70 = .ok (.invokestatic 116, 3) := by decide +kernel
theorem d_Night_play_73 : decode prog_6_method_4_code 73 = .ok (.putfield 82, 3) := by decide +kernel
theorem d_Night_play_76 : decode prog_6_method_4_code 76 = .ok (.iconst 0, 1) := by decide +kernel
theorem d_Night_play_77 : decode prog_6_method_4_code 77 = .ok (.istore 4, 2) := by decide +kernel
theorem d_Night_play_79 : decode prog_6_method_4_code 79 = .ok (.iload 4, 2) := by decide +kernel
theorem d_Night_play_81 : decode prog_6_method_4_code 81 = .ok (.aload_n 0, 1) := by decide +kernel
theorem d_Night_play_82 : decode prog_6_method_4_code 82 = .ok (.getfield 41, 3) := by decide +kernel
theorem d_Night_play_85 : decode prog_6_method_4_code 85 = .ok (.getfield 122, 3) := by decide +kernel
theorem d_Night_play_88 : decode prog_6_method_4_code 88 = .ok (.if_icmp .ge (22), 3) := by decide +kernel
theorem d_Night_play_91 : decode prog_6_method_4_code 91 = .ok (.aload_n 0, 1) := by decide +kernel
theorem d_Night_play_92 : decode prog_6_method_4_code 92 = .ok (.iload 4, 2) := by decide +kernel
theorem d_Night_play_94 : decode prog_6_method_4_code 94 = .ok (.iload_n 3, 1) := by decide +kernel
theorem d_Night_play_95 : decode prog_6_method_4_code 95 = .ok (.aload_n 0, 1) := by decide +kernel
theorem d_Night_play_96 : decode prog_6_method_4_code 96 = .ok (.getfield 82, 3) := by decide +kernel
theorem d_Night_play_99 : decode prog_6_method_4_code 99 = .ok (.iload_n 3, 1) := by decide +kernel
theorem d_Night_play_100 : decode prog_6_method_4_code 100 = .ok (.isub, 1) := by decide +kernel
theorem d_Night_play_101 : decode prog_6_method_4_code 101 = .ok (.invokevirtual 127, 3) := by decide +kernel
theorem d_Night_play_104 : decode prog_6_method_4_code 104 = .ok (.iinc 4 (1), 3) := by decide +kernel
theorem d_Night_play_107 : decode prog_6_method_4_code 107 = .ok (.goto (-28), 3) := by decide +kernel
theorem d_Night_play_110 : decode prog_6_method_4_code 110 = .ok (.iinc 2 (1), 3) := by decide +kernel
theorem d_Night_play_113 : decode prog_6_method_4_code 113 = .ok (.goto (-111), 3) := by decide +kernel
theorem d_Night_play_116 : decode prog_6_method_4_code 116 = .ok (.return_, 1) := by decide +kernel
set_option maxHeartbeats 4000000 in
set_option maxRecDepth 100000 in
theorem zf_Night_play_L79 {G : zz_G} {l : Launch} {Z : zz_Z} {q : zz_S} (C : zz_Cx G l "OneBlanket$Night" "play" prog_6_method_4_code 5 (none) 7 (none, zsh, q) Z) (K2 : Int32 → Int32 → zz_S → Option (zz_S)) (hK2 : ∀ (v1 : Int32) (v2 : Int32) (s : zz_S), K2 v1 v2 s = some q → Z 2 [some (.ref 20), some (.int v1), some (.int v2), none, none] [] zsh s) : ∀ (n : Nat) (v1 : Int32) (v2 : Int32) (v3 : Int32) (v4 : Int32) (s : zz_S), f_Night_play_L79 K2 n v1 v2 v3 v4 s = some q → Z 79 [some (.ref 20), some (.int v1), some (.int v2), some (.int v3), some (.int v4)] [] zsh s := by
  intro n
  induction n with
  | zero => intro v1 v2 v3 v4 s h; rw [f_Night_play_L79] at h; cases h
  | succ n ih =>
  intro v1 v2 v3 v4 s h
  rw [f_Night_play_L79] at h
  refine zz_iload (i := 4) (pc := 79) C rfl d_Night_play_79 ?_
  refine zz_aload_n (i := 0) (pc := 81) C rfl rfl d_Night_play_81 ?_
  refine zz_getR (pc := 82) C zl_4_41 zsh_20 rfl d_Night_play_82 ?_
  refine zz_getI (pc := 85) C zl_4_122 zsh_1 rfl d_Night_play_85 ?_
  refine zz_icmp_ge (tgt := 110) (pc := 88) C (by decide) d_Night_play_88 (fun hc7 => ?_) (fun hc7 => ?_)
  · rw [if_pos hc7] at h
    refine zz_iinc (lo' := [some (.ref 20), some (.int v1), some (.int (v2 + (1 : Int32))), some (.int v3), some (.int v4)]) (pc := 110) C rfl (zz_inc zki_1) rfl rfl d_Night_play_110 ?_
    refine zz_goto (tgt := 2) (pc := 113) C (by decide) d_Night_play_113 ?_
    refine zz_fg C [true, true, true, false, false] rfl rfl ?_
    exact hK2 v1 (v2 + (1 : Int32)) s h
  · rw [if_neg hc7] at h
    refine zz_aload_n (i := 0) (pc := 91) C rfl rfl d_Night_play_91 ?_
    refine zz_iload (i := 4) (pc := 92) C rfl d_Night_play_92 ?_
    refine zz_iload_n (i := 3) (pc := 94) C rfl rfl d_Night_play_94 ?_
    refine zz_aload_n (i := 0) (pc := 95) C rfl rfl d_Night_play_95 ?_
    refine zz_getI (pc := 96) C zl_4_82 zsh_20 rfl d_Night_play_96 ?_
    refine zz_iload_n (i := 3) (pc := 99) C rfl rfl d_Night_play_99 ?_
    refine zz_isub (pc := 100) C d_Night_play_100 ?_
    obtain ⟨q8, hq8, h⟩ := zz_bdE h
    refine zz_cVv (as := [.int v4, .int v3, .int ((s.1 20 11) - v3)]) (st := []) (pc := 101) C (zm_Night_countIn hq8) zcv_Night_countIn zsh_20 zl_4_127 (by omega) (Nat.le_of_ble_eq_true rfl) d_Night_play_101 rfl rfl ?_
    refine zz_iinc (lo' := [some (.ref 20), some (.int v1), some (.int v2), some (.int v3), some (.int (v4 + (1 : Int32)))]) (pc := 104) C rfl (zz_inc zki_1) rfl rfl d_Night_play_104 ?_
    refine zz_goto (tgt := 79) (pc := 107) C (by decide) d_Night_play_107 ?_
    exact ih v1 v2 v3 (v4 + (1 : Int32)) q8 h
set_option maxHeartbeats 4000000 in
set_option maxRecDepth 100000 in
theorem zf_Night_play_J49 {G : zz_G} {l : Launch} {Z : zz_Z} {q : zz_S} {s : zz_S} (C : zz_Cx G l "OneBlanket$Night" "play" prog_6_method_4_code 5 (none) 7 (none, zsh, q) Z) (K2 : Int32 → Int32 → zz_S → Option (zz_S)) (hK2 : ∀ (v1 : Int32) (v2 : Int32) (s : zz_S), K2 v1 v2 s = some q → Z 2 [some (.ref 20), some (.int v1), some (.int v2), none, none] [] zsh s) (v1 : Int32) (v2 : Int32) (v3 : Int32) (h : f_Night_play_J49 K2 v1 v2 v3 s = some q) : Z 49 [some (.ref 20), some (.int v1), some (.int v2), some (.int v3), none] [] zsh s := by
  unfold f_Night_play_J49 at h
  refine zz_aload_n (i := 0) (pc := 49) C rfl rfl d_Night_play_49 ?_
  refine zz_iload_n (i := 1) (pc := 50) C rfl rfl d_Night_play_50 ?_
  refine zz_iconst (pc := 51) C zki_1 d_Night_play_51 ?_
  refine zz_iadd (pc := 52) C d_Night_play_52 ?_
  refine zz_aload_n (i := 0) (pc := 53) C rfl rfl d_Night_play_53 ?_
  refine zz_getR (pc := 54) C zl_4_49 zsh_20 rfl d_Night_play_54 ?_
  refine zz_getR (pc := 57) C zl_4_107 zsh_15 rfl d_Night_play_57 ?_
  refine zz_iload_n (i := 3) (pc := 60) C rfl rfl d_Night_play_60 ?_
  obtain ⟨hi5, h⟩ := zz_ckE h
  refine zz_iald (pc := 61) C rfl zsh_17 hi5 d_Night_play_61 ?_
  refine zz_aload_n (i := 0) (pc := 62) C rfl rfl d_Night_play_62 ?_
  refine zz_iload_n (i := 3) (pc := 63) C rfl rfl d_Night_play_63 ?_
  obtain ⟨q6, hq6, h⟩ := zz_bdE h
  refine zz_cVi (as := [.int v3]) (st := [.int (s.1 17 (v3.toNatClampNeg)), .int (v1 + (1 : Int32)), .ref 20]) (pc := 64) C (zm_Night_minuteOfTurns hq6) zcv_Night_minuteOfTurns zsh_20 zl_4_112 (by omega) (Nat.le_of_ble_eq_true rfl) d_Night_play_64 rfl rfl ?_
  refine zz_mmin (st := [.int (v1 + (1 : Int32)), .ref 20]) (pc := 67) C zl_4_116 (by omega) (Nat.le_of_ble_eq_true rfl) d_Night_play_67 rfl ?_
  refine zz_mmin (st := [.ref 20]) (pc := 70) C zl_4_116 (by omega) (Nat.le_of_ble_eq_true rfl) d_Night_play_70 rfl ?_
  refine zz_putI' (pc := 73) C zl_4_82 zpf_4_11 zsh_20 rfl d_Night_play_73 ?_
  refine zz_iconst (pc := 76) C zki_0 d_Night_play_76 ?_
  refine zz_istore (i := 4) (lo' := [some (.ref 20), some (.int v1), some (.int v2), some (.int v3), some (.int (0 : Int32))]) (pc := 77) C (Nat.le_of_ble_eq_true rfl) rfl rfl d_Night_play_77 ?_
  exact zf_Night_play_L79 C K2 hK2 zF v1 v2 v3 (0 : Int32) (zz_w s 20 11 (zz_min (v1 + (1 : Int32)) (zz_min (s.1 17 (v3.toNatClampNeg)) q6))) h
set_option maxHeartbeats 4000000 in
set_option maxRecDepth 100000 in
theorem zf_Night_play_L2 {G : zz_G} {l : Launch} {Z : zz_Z} {q : zz_S} (C : zz_Cx G l "OneBlanket$Night" "play" prog_6_method_4_code 5 (none) 7 (none, zsh, q) Z) : ∀ (n : Nat) (v1 : Int32) (v2 : Int32) (s : zz_S), f_Night_play_L2 n v1 v2 s = some q → Z 2 [some (.ref 20), some (.int v1), some (.int v2), none, none] [] zsh s := by
  intro n
  induction n with
  | zero => intro v1 v2 s h; rw [f_Night_play_L2] at h; cases h
  | succ n ih =>
  intro v1 v2 s h
  rw [f_Night_play_L2] at h
  refine zz_iload_n (i := 2) (pc := 2) C rfl rfl d_Night_play_2 ?_
  refine zz_sipush (pc := 3) C zks_480 d_Night_play_3 ?_
  refine zz_icmp_ge (tgt := 116) (pc := 6) C (by decide) d_Night_play_6 (fun hc1 => ?_) (fun hc1 => ?_)
  · rw [if_pos hc1] at h
    replace h := Option.some.inj h
    subst h
    exact zz_ret (pc := 116) C (v := none) d_Night_play_116 (Or.inr (Or.inr (Or.inr ⟨rfl, rfl, rfl⟩))) rfl
  · rw [if_neg hc1] at h
    refine zz_aload_n (i := 0) (pc := 9) C rfl rfl d_Night_play_9 ?_
    refine zz_getI (pc := 10) C zl_4_82 zsh_20 rfl d_Night_play_10 ?_
    refine zz_iload_n (i := 1) (pc := 13) C rfl rfl d_Night_play_13 ?_
    refine zz_icmp_gt (tgt := 116) (pc := 14) C (by decide) d_Night_play_14 (fun hc2 => ?_) (fun hc2 => ?_)
    · rw [if_pos hc2] at h
      replace h := Option.some.inj h
      subst h
      exact zz_ret (pc := 116) C (v := none) d_Night_play_116 (Or.inr (Or.inr (Or.inr ⟨rfl, rfl, rfl⟩))) rfl
    · rw [if_neg hc2] at h
      refine zz_aload_n (i := 0) (pc := 17) C rfl rfl d_Night_play_17 ?_
      refine zz_getI (pc := 18) C zl_4_82 zsh_20 rfl d_Night_play_18 ?_
      refine zz_istore_n (i := 3) (lo' := [some (.ref 20), some (.int v1), some (.int v2), some (.int (s.1 20 11)), none]) (pc := 21) C rfl (Nat.le_of_ble_eq_true rfl) rfl rfl d_Night_play_21 ?_
      refine zz_aload_n (i := 0) (pc := 22) C rfl rfl d_Night_play_22 ?_
      refine zz_getI (pc := 23) C zl_4_94 zsh_20 rfl d_Night_play_23 ?_
      refine zz_if_ge (tgt := 37) (pc := 26) C (by decide) d_Night_play_26 (fun hc3 => ?_) (fun hc3 => ?_)
      · rw [if_pos hc3] at h
        refine zz_iload_n (i := 3) (pc := 37) C rfl rfl d_Night_play_37 ?_
        refine zz_bipush (pc := 38) C zkb_10 d_Night_play_38 ?_
        refine zz_irem (pc := 40) C (by decide) d_Night_play_40 ?_
        refine zz_if_ne (tgt := 49) (pc := 41) C (by decide) d_Night_play_41 (fun hc4 => ?_) (fun hc4 => ?_)
        · rw [if_neg hc4] at h
          exact zf_Night_play_J49 C (f_Night_play_L2 n) ih v1 v2 (s.1 20 11) h
        · rw [if_pos hc4] at h
          refine zz_aload_n (i := 0) (pc := 44) C rfl rfl d_Night_play_44 ?_
          refine zz_iload_n (i := 3) (pc := 45) C rfl rfl d_Night_play_45 ?_
          obtain ⟨q9, hq9, h⟩ := zz_bdE h
          refine zz_cVv (as := [.int (s.1 20 11)]) (st := []) (pc := 46) C (zm_Night_doDrawn hq9) zcv_Night_doDrawn zsh_20 zl_4_104 (by omega) (Nat.le_of_ble_eq_true rfl) d_Night_play_46 rfl rfl ?_
          exact zf_Night_play_J49 C (f_Night_play_L2 n) ih v1 v2 (s.1 20 11) h
      · rw [if_neg hc3] at h
        refine zz_aload_n (i := 0) (pc := 29) C rfl rfl d_Night_play_29 ?_
        refine zz_iload_n (i := 3) (pc := 30) C rfl rfl d_Night_play_30 ?_
        obtain ⟨q10, hq10, h⟩ := zz_bdE h
        refine zz_cVv (as := [.int (s.1 20 11)]) (st := []) (pc := 31) C (zm_Night_doTold hq10) zcv_Night_doTold zsh_20 zl_4_100 (by omega) (Nat.le_of_ble_eq_true rfl) d_Night_play_31 rfl rfl ?_
        refine zz_goto (tgt := 49) (pc := 34) C (by decide) d_Night_play_34 ?_
        exact zf_Night_play_J49 C (f_Night_play_L2 n) ih v1 v2 (s.1 20 11) h
set_option maxHeartbeats 4000000 in
set_option maxRecDepth 100000 in
theorem zf_Night_play {G : zz_G} {l : Launch} {Z : zz_Z} {q : zz_S} {s : zz_S} (C : zz_Cx G l "OneBlanket$Night" "play" prog_6_method_4_code 5 (none) 7 (none, zsh, q) Z) (a1 : Int32) (h : f_Night_play a1 s = some q) : Z 0 [some (.ref 20), some (.int a1), none, none, none] [] zsh s := by
  unfold f_Night_play at h
  refine zz_iconst (pc := 0) C zki_0 d_Night_play_0 ?_
  refine zz_istore_n (i := 2) (lo' := [some (.ref 20), some (.int a1), some (.int (0 : Int32)), none, none]) (pc := 1) C rfl (Nat.le_of_ble_eq_true rfl) rfl rfl d_Night_play_1 ?_
  exact zf_Night_play_L2 C zF a1 (0 : Int32) s h
theorem zm_Night_play {G : zz_G} {l : Launch} {s : zz_S} {q : zz_S} {a1 : Int32} (h : f_Night_play a1 s = some q) : zz_M G l 7 y_Night_play prog_6_method_4_code 5 (none) [.ref 20, .int a1] zsh s (none, zsh, q) :=
  zz_M.intro (by decide) (Nat.le_of_ble_eq_true rfl) (Nat.le_refl _) (Nat.le_refl _) (fun Z C => zf_Night_play C a1 h)
theorem d_Room_warmBy_0 : decode prog_7_method_2_code 0 = .ok (.iconst 0, 1) := by decide +kernel
theorem d_Room_warmBy_1 : decode prog_7_method_2_code 1 = .ok (.istore_n 2, 1) := by decide +kernel
theorem d_Room_warmBy_2 : decode prog_7_method_2_code 2 = .ok (.iload_n 2, 1) := by decide +kernel
theorem d_Room_warmBy_3 : decode prog_7_method_2_code 3 = .ok (.sipush (480), 3) := by decide +kernel
theorem d_Room_warmBy_6 : decode prog_7_method_2_code 6 = .ok (.if_icmp .ge (52), 3) := by decide +kernel
theorem d_Room_warmBy_9 : decode prog_7_method_2_code 9 = .ok (.aload_n 0, 1) := by decide +kernel
theorem d_Room_warmBy_10 : decode prog_7_method_2_code 10 = .ok (.getfield 28, 3) := by decide +kernel
theorem d_Room_warmBy_13 : decode prog_7_method_2_code 13 = .ok (.bipush (6), 2) := by decide +kernel
theorem d_Room_warmBy_15 : decode prog_7_method_2_code 15 = .ok (.iload_n 2, 1) := by decide +kernel
theorem d_Room_warmBy_16 : decode prog_7_method_2_code 16 = .ok (.iastore, 1) := by decide +kernel
theorem d_Room_warmBy_17 : decode prog_7_method_2_code 17 = .ok (.aload_n 0, 1) := by decide +kernel
theorem d_Room_warmBy_18 : decode prog_7_method_2_code 18 = .ok (.getfield 28, 3) := by decide +kernel
theorem d_Room_warmBy_21 : decode prog_7_method_2_code 21 = .ok (.bipush (7), 2) := by decide +kernel
theorem d_Room_warmBy_23 : decode prog_7_method_2_code 23 = .ok (.iload_n 2, 1) := by decide +kernel
theorem d_Room_warmBy_24 : decode prog_7_method_2_code 24 = .ok (.bipush (60), 2) := by decide +kernel
theorem d_Room_warmBy_26 : decode prog_7_method_2_code 26 = .ok (.idiv, 1) := by decide +kernel
theorem d_Room_warmBy_27 : decode prog_7_method_2_code 27 = .ok (.iastore, 1) := by decide +kernel
theorem d_Room_warmBy_28 : decode prog_7_method_2_code 28 = .ok (.aload_n 0, 1) := by decide +kernel
theorem d_Room_warmBy_29 : decode prog_7_method_2_code 29 = .ok (.getfield 9, 3) := by decide +kernel
theorem d_Room_warmBy_32 : decode prog_7_method_2_code 32 = .ok (.iload_n 2, 1) := by decide +kernel
theorem d_Room_warmBy_33 : decode prog_7_method_2_code 33 = .ok (.bipush (-50), 2) := by decide +kernel
theorem d_Room_warmBy_35 : decode prog_7_method_2_code 35 = .ok (.bipush (50), 2) := by decide +kernel
theorem d_Room_warmBy_37 : decode prog_7_method_2_code 37 = .ok (.aload_n 1, 1) := by decide +kernel
theorem d_Room_warmBy_38 : decode prog_7_method_2_code 38 = .ok (.aload_n 0, 1) := by decide +kernel
theorem d_Room_warmBy_39 : decode prog_7_method_2_code 39 = .ok (.getfield 28, 3) := by decide +kernel
theorem d_Room_warmBy_42 : decode prog_7_method_2_code 42 = .ok (.invokevirtual 37, 3) := by decide +kernel
theorem d_Room_warmBy_45 : decode prog_7_method_2_code 45 = .ok (.invokestatic 41, 3) := by decide +kernel
theorem d_Room_warmBy_48 : decode prog_7_method_2_code 48 = .ok (.invokestatic 47, 3) := by decide +kernel
theorem d_Room_warmBy_51 : decode prog_7_method_2_code 51 = .ok (.iastore, 1) := by decide +kernel
theorem d_Room_warmBy_52 : decode prog_7_method_2_code 52 = .ok (.iinc 2 (1), 3) := by decide +kernel
theorem d_Room_warmBy_55 : decode prog_7_method_2_code 55 = .ok (.goto (-53), 3) := by decide +kernel
theorem d_Room_warmBy_58 : decode prog_7_method_2_code 58 = .ok (.sipush (479), 3) := by decide +kernel
theorem d_Room_warmBy_61 : decode prog_7_method_2_code 61 = .ok (.istore_n 2, 1) := by decide +kernel
theorem d_Room_warmBy_62 : decode prog_7_method_2_code 62 = .ok (.iload_n 2, 1) := by decide +kernel
theorem d_Room_warmBy_63 : decode prog_7_method_2_code 63 = .ok (.ifCond .lt (63), 3) := by decide +kernel
theorem d_Room_warmBy_66 : decode prog_7_method_2_code 66 = .ok (.iload_n 2, 1) := by decide +kernel
theorem d_Room_warmBy_67 : decode prog_7_method_2_code 67 = .ok (.sipush (479), 3) := by decide +kernel
theorem d_Room_warmBy_70 : decode prog_7_method_2_code 70 = .ok (.if_icmp .ge (24), 3) := by decide +kernel
theorem d_Room_warmBy_73 : decode prog_7_method_2_code 73 = .ok (.aload_n 0, 1) := by decide +kernel
theorem d_Room_warmBy_74 : decode prog_7_method_2_code 74 = .ok (.getfield 9, 3) := by decide +kernel
theorem d_Room_warmBy_77 : decode prog_7_method_2_code 77 = .ok (.iload_n 2, 1) := by decide +kernel
theorem d_Room_warmBy_78 : decode prog_7_method_2_code 78 = .ok (.iaload, 1) := by decide +kernel
theorem d_Room_warmBy_79 : decode prog_7_method_2_code 79 = .ok (.aload_n 0, 1) := by decide +kernel
theorem d_Room_warmBy_80 : decode prog_7_method_2_code 80 = .ok (.getfield 9, 3) := by decide +kernel
theorem d_Room_warmBy_83 : decode prog_7_method_2_code 83 = .ok (.iload_n 2, 1) := by decide +kernel
theorem d_Room_warmBy_84 : decode prog_7_method_2_code 84 = .ok (.iconst 1, 1) := by decide +kernel
theorem d_Room_warmBy_85 : decode prog_7_method_2_code 85 = .ok (.iadd, 1) := by decide +kernel
theorem d_Room_warmBy_86 : decode prog_7_method_2_code 86 = .ok (.iaload, 1) := by decide +kernel
theorem d_Room_warmBy_87 : decode prog_7_method_2_code 87 = .ok (.if_icmp .ne (7), 3) := by decide +kernel
theorem d_Room_warmBy_90 : decode prog_7_method_2_code 90 = .ok (.iconst 1, 1) := by decide +kernel
theorem d_Room_warmBy_91 : decode prog_7_method_2_code 91 = .ok (.goto (4), 3) := by decide +kernel
theorem d_Room_warmBy_94 : decode prog_7_method_2_code 94 = .ok (.iconst 0, 1) := by decide +kernel
theorem d_Room_warmBy_95 : decode prog_7_method_2_code 95 = .ok (.istore_n 3, 1) := by decide +kernel
theorem d_Room_warmBy_96 : decode prog_7_method_2_code 96 = .ok (.aload_n 0, 1) := by decide +kernel
theorem d_Room_warmBy_97 : decode prog_7_method_2_code 97 = .ok (.getfield 15, 3) := by decide +kernel
theorem d_Room_warmBy_100 : decode prog_7_method_2_code 100 = .ok (.iload_n 2, 1) := by decide +kernel
theorem d_Room_warmBy_101 : decode prog_7_method_2_code 101 = .ok (.iload_n 3, 1) := by decide +kernel
theorem d_Room_warmBy_102 : decode prog_7_method_2_code 102 = .ok (.ifCond .eq (14), 3) := by decide +kernel
theorem d_Room_warmBy_105 : decode prog_7_method_2_code 105 = .ok (.aload_n 0, 1) := by decide +kernel
theorem d_Room_warmBy_106 : decode prog_7_method_2_code 106 = .ok (.getfield 15, 3) := by decide +kernel
theorem d_Room_warmBy_109 : decode prog_7_method_2_code 109 = .ok (.iload_n 2, 1) := by decide +kernel
theorem d_Room_warmBy_110 : decode prog_7_method_2_code 110 = .ok (.iconst 1, 1) := by decide +kernel
theorem d_Room_warmBy_111 : decode prog_7_method_2_code 111 = .ok (.iadd, 1) := by decide +kernel
theorem d_Room_warmBy_112 : decode prog_7_method_2_code 112 = .ok (.iaload, 1) := by decide +kernel
theorem d_Room_warmBy_113 : decode prog_7_method_2_code 113 = .ok (.goto (6), 3) := by decide +kernel
theorem d_Room_warmBy_116 : decode prog_7_method_2_code 116 = .ok (.iload_n 2, 1) := by decide +kernel
theorem d_Room_warmBy_117 : decode prog_7_method_2_code 117 = .ok (.iconst 1, 1) := by decide +kernel
theorem d_Room_warmBy_118 : decode prog_7_method_2_code 118 = .ok (.iadd, 1) := by decide +kernel
theorem d_Room_warmBy_119 : decode prog_7_method_2_code 119 = .ok (.iastore, 1) := by decide +kernel
theorem d_Room_warmBy_120 : decode prog_7_method_2_code 120 = .ok (.iinc 2 (-1), 3) := by decide +kernel
theorem d_Room_warmBy_123 : decode prog_7_method_2_code 123 = .ok (.goto (-61), 3) := by decide +kernel
theorem d_Room_warmBy_126 : decode prog_7_method_2_code 126 = .ok (.return_, 1) := by decide +kernel
set_option maxHeartbeats 4000000 in
set_option maxRecDepth 100000 in
theorem zf_Room_warmBy_J119 {G : zz_G} {l : Launch} {Z : zz_Z} {q : zz_S} {s : zz_S} (C : zz_Cx G l "OneBlanket$Room" "warmBy" prog_7_method_2_code 4 (none) 4 (none, zsh, q) Z) (K62 : Int32 → zz_S → Option (zz_S)) (hK62 : ∀ (v2 : Int32) (s : zz_S), K62 v2 s = some q → Z 62 [some (.ref 15), none, some (.int v2), none] [] zsh s) (v2 : Int32) (t1 : Int32) (t2 : Int32) (h : f_Room_warmBy_J119 K62 v2 t1 t2 s = some q) : Z 119 [some (.ref 15), none, some (.int v2), none] [.int t2, .int t1, .ref 17] zsh s := by
  unfold f_Room_warmBy_J119 at h
  obtain ⟨hi5, h⟩ := zz_ckE h
  refine zz_iast (pc := 119) C rfl zsh_17 hi5 d_Room_warmBy_119 ?_
  refine zz_iinc (lo' := [some (.ref 15), none, some (.int (v2 + (-1 : Int32))), none]) (pc := 120) C rfl (zz_inc zki_m1) rfl rfl d_Room_warmBy_120 ?_
  refine zz_goto (tgt := 62) (pc := 123) C (by decide) d_Room_warmBy_123 ?_
  exact hK62 (v2 + (-1 : Int32)) (zz_w s 17 (t1.toNatClampNeg) t2) h
set_option maxHeartbeats 4000000 in
set_option maxRecDepth 100000 in
theorem zf_Room_warmBy_J95 {G : zz_G} {l : Launch} {Z : zz_Z} {q : zz_S} {s : zz_S} (C : zz_Cx G l "OneBlanket$Room" "warmBy" prog_7_method_2_code 4 (none) 4 (none, zsh, q) Z) (K62 : Int32 → zz_S → Option (zz_S)) (hK62 : ∀ (v2 : Int32) (s : zz_S), K62 v2 s = some q → Z 62 [some (.ref 15), none, some (.int v2), none] [] zsh s) (v2 : Int32) (t0 : Int32) (h : f_Room_warmBy_J95 K62 v2 t0 s = some q) : Z 95 [some (.ref 15), none, some (.int v2), none] [.int t0] zsh s := by
  unfold f_Room_warmBy_J95 at h
  refine zz_istore_n (i := 3) (lo' := [some (.ref 15), none, some (.int v2), some (.int t0)]) (pc := 95) C rfl (Nat.le_of_ble_eq_true rfl) rfl rfl d_Room_warmBy_95 ?_
  refine zz_aload_n (i := 0) (pc := 96) C rfl rfl d_Room_warmBy_96 ?_
  refine zz_getR (pc := 97) C zl_5_15 zsh_15 rfl d_Room_warmBy_97 ?_
  refine zz_iload_n (i := 2) (pc := 100) C rfl rfl d_Room_warmBy_100 ?_
  refine zz_iload_n (i := 3) (pc := 101) C rfl rfl d_Room_warmBy_101 ?_
  refine zz_if_eq (tgt := 116) (pc := 102) C (by decide) d_Room_warmBy_102 (fun hc4 => ?_) (fun hc4 => ?_)
  · rw [if_pos hc4] at h
    refine zz_iload_n (i := 2) (pc := 116) C rfl rfl d_Room_warmBy_116 ?_
    refine zz_iconst (pc := 117) C zki_1 d_Room_warmBy_117 ?_
    refine zz_iadd (pc := 118) C d_Room_warmBy_118 ?_
    refine zz_fg C [true, false, true, false] rfl rfl ?_
    exact zf_Room_warmBy_J119 C K62 hK62 v2 v2 (v2 + (1 : Int32)) h
  · rw [if_neg hc4] at h
    refine zz_aload_n (i := 0) (pc := 105) C rfl rfl d_Room_warmBy_105 ?_
    refine zz_getR (pc := 106) C zl_5_15 zsh_15 rfl d_Room_warmBy_106 ?_
    refine zz_iload_n (i := 2) (pc := 109) C rfl rfl d_Room_warmBy_109 ?_
    refine zz_iconst (pc := 110) C zki_1 d_Room_warmBy_110 ?_
    refine zz_iadd (pc := 111) C d_Room_warmBy_111 ?_
    obtain ⟨hi6, h⟩ := zz_ckE h
    refine zz_iald (pc := 112) C rfl zsh_17 hi6 d_Room_warmBy_112 ?_
    refine zz_goto (tgt := 119) (pc := 113) C (by decide) d_Room_warmBy_113 ?_
    refine zz_fg C [true, false, true, false] rfl rfl ?_
    exact zf_Room_warmBy_J119 C K62 hK62 v2 v2 (s.1 17 ((v2 + (1 : Int32)).toNatClampNeg)) h
set_option maxHeartbeats 4000000 in
set_option maxRecDepth 100000 in
theorem zf_Room_warmBy_J94 {G : zz_G} {l : Launch} {Z : zz_Z} {q : zz_S} {s : zz_S} (C : zz_Cx G l "OneBlanket$Room" "warmBy" prog_7_method_2_code 4 (none) 4 (none, zsh, q) Z) (K62 : Int32 → zz_S → Option (zz_S)) (hK62 : ∀ (v2 : Int32) (s : zz_S), K62 v2 s = some q → Z 62 [some (.ref 15), none, some (.int v2), none] [] zsh s) (v2 : Int32) (h : f_Room_warmBy_J94 K62 v2 s = some q) : Z 94 [some (.ref 15), none, some (.int v2), none] [] zsh s := by
  unfold f_Room_warmBy_J94 at h
  refine zz_iconst (pc := 94) C zki_0 d_Room_warmBy_94 ?_
  exact zf_Room_warmBy_J95 C K62 hK62 v2 (0 : Int32) h
set_option maxHeartbeats 4000000 in
set_option maxRecDepth 100000 in
theorem zf_Room_warmBy_L62 {G : zz_G} {l : Launch} {Z : zz_Z} {q : zz_S} (C : zz_Cx G l "OneBlanket$Room" "warmBy" prog_7_method_2_code 4 (none) 4 (none, zsh, q) Z) : ∀ (n : Nat) (v2 : Int32) (s : zz_S), f_Room_warmBy_L62 n v2 s = some q → Z 62 [some (.ref 15), none, some (.int v2), none] [] zsh s := by
  intro n
  induction n with
  | zero => intro v2 s h; rw [f_Room_warmBy_L62] at h; cases h
  | succ n ih =>
  intro v2 s h
  rw [f_Room_warmBy_L62] at h
  refine zz_iload_n (i := 2) (pc := 62) C rfl rfl d_Room_warmBy_62 ?_
  refine zz_if_lt (tgt := 126) (pc := 63) C (by decide) d_Room_warmBy_63 (fun hc2 => ?_) (fun hc2 => ?_)
  · rw [if_pos hc2] at h
    replace h := Option.some.inj h
    subst h
    exact zz_ret (pc := 126) C (v := none) d_Room_warmBy_126 (Or.inr (Or.inr (Or.inr ⟨rfl, rfl, rfl⟩))) rfl
  · rw [if_neg hc2] at h
    refine zz_iload_n (i := 2) (pc := 66) C rfl rfl d_Room_warmBy_66 ?_
    refine zz_sipush (pc := 67) C zks_479 d_Room_warmBy_67 ?_
    refine zz_icmp_ge (tgt := 94) (pc := 70) C (by decide) d_Room_warmBy_70 (fun hc3 => ?_) (fun hc3 => ?_)
    · rw [if_pos hc3] at h
      exact zf_Room_warmBy_J94 C (f_Room_warmBy_L62 n) ih v2 h
    · rw [if_neg hc3] at h
      refine zz_aload_n (i := 0) (pc := 73) C rfl rfl d_Room_warmBy_73 ?_
      refine zz_getR (pc := 74) C zl_5_9 zsh_15 rfl d_Room_warmBy_74 ?_
      refine zz_iload_n (i := 2) (pc := 77) C rfl rfl d_Room_warmBy_77 ?_
      obtain ⟨hi7, h⟩ := zz_ckE h
      refine zz_iald (pc := 78) C rfl zsh_16 hi7 d_Room_warmBy_78 ?_
      refine zz_aload_n (i := 0) (pc := 79) C rfl rfl d_Room_warmBy_79 ?_
      refine zz_getR (pc := 80) C zl_5_9 zsh_15 rfl d_Room_warmBy_80 ?_
      refine zz_iload_n (i := 2) (pc := 83) C rfl rfl d_Room_warmBy_83 ?_
      refine zz_iconst (pc := 84) C zki_1 d_Room_warmBy_84 ?_
      refine zz_iadd (pc := 85) C d_Room_warmBy_85 ?_
      obtain ⟨hi8, h⟩ := zz_ckE h
      refine zz_iald (pc := 86) C rfl zsh_16 hi8 d_Room_warmBy_86 ?_
      refine zz_icmp_ne (tgt := 94) (pc := 87) C (by decide) d_Room_warmBy_87 (fun hc9 => ?_) (fun hc9 => ?_)
      · rw [if_neg hc9] at h
        exact zf_Room_warmBy_J94 C (f_Room_warmBy_L62 n) ih v2 h
      · rw [if_pos hc9] at h
        refine zz_iconst (pc := 90) C zki_1 d_Room_warmBy_90 ?_
        refine zz_goto (tgt := 95) (pc := 91) C (by decide) d_Room_warmBy_91 ?_
        exact zf_Room_warmBy_J95 C (f_Room_warmBy_L62 n) ih v2 (1 : Int32) h
set_option maxHeartbeats 4000000 in
set_option maxRecDepth 100000 in
theorem zf_Room_warmBy_L2 {G : zz_G} {l : Launch} {Z : zz_Z} {q : zz_S} (C : zz_Cx G l "OneBlanket$Room" "warmBy" prog_7_method_2_code 4 (none) 4 (none, zsh, q) Z) : ∀ (n : Nat) (v2 : Int32) (s : zz_S), f_Room_warmBy_L2 n v2 s = some q → Z 2 [some (.ref 15), some (.ref 45), some (.int v2), none] [] zsh s := by
  intro n
  induction n with
  | zero => intro v2 s h; rw [f_Room_warmBy_L2] at h; cases h
  | succ n ih =>
  intro v2 s h
  rw [f_Room_warmBy_L2] at h
  refine zz_iload_n (i := 2) (pc := 2) C rfl rfl d_Room_warmBy_2 ?_
  refine zz_sipush (pc := 3) C zks_480 d_Room_warmBy_3 ?_
  refine zz_icmp_ge (tgt := 58) (pc := 6) C (by decide) d_Room_warmBy_6 (fun hc1 => ?_) (fun hc1 => ?_)
  · rw [if_pos hc1] at h
    refine zz_sipush (pc := 58) C zks_479 d_Room_warmBy_58 ?_
    refine zz_istore_n (i := 2) (lo' := [some (.ref 15), some (.ref 45), some (.int (479 : Int32)), none]) (pc := 61) C rfl (Nat.le_of_ble_eq_true rfl) rfl rfl d_Room_warmBy_61 ?_
    refine zz_fg C [true, false, true, false] rfl rfl ?_
    exact zf_Room_warmBy_L62 C zF (479 : Int32) s h
  · rw [if_neg hc1] at h
    refine zz_aload_n (i := 0) (pc := 9) C rfl rfl d_Room_warmBy_9 ?_
    refine zz_getR (pc := 10) C zl_5_28 zsh_15 rfl d_Room_warmBy_10 ?_
    refine zz_bipush (pc := 13) C zkb_6 d_Room_warmBy_13 ?_
    refine zz_iload_n (i := 2) (pc := 15) C rfl rfl d_Room_warmBy_15 ?_
    refine zz_iast (pc := 16) C zkx_6 zsh_18 (by decide) d_Room_warmBy_16 ?_
    refine zz_aload_n (i := 0) (pc := 17) C rfl rfl d_Room_warmBy_17 ?_
    refine zz_getR (pc := 18) C zl_5_28 zsh_15 rfl d_Room_warmBy_18 ?_
    refine zz_bipush (pc := 21) C zkb_7 d_Room_warmBy_21 ?_
    refine zz_iload_n (i := 2) (pc := 23) C rfl rfl d_Room_warmBy_23 ?_
    refine zz_bipush (pc := 24) C zkb_60 d_Room_warmBy_24 ?_
    refine zz_idiv (pc := 26) C (by decide) d_Room_warmBy_26 ?_
    refine zz_iast (pc := 27) C zkx_7 zsh_18 (by decide) d_Room_warmBy_27 ?_
    refine zz_aload_n (i := 0) (pc := 28) C rfl rfl d_Room_warmBy_28 ?_
    refine zz_getR (pc := 29) C zl_5_9 zsh_15 rfl d_Room_warmBy_29 ?_
    refine zz_iload_n (i := 2) (pc := 32) C rfl rfl d_Room_warmBy_32 ?_
    refine zz_bipush (pc := 33) C zkb_m50 d_Room_warmBy_33 ?_
    refine zz_bipush (pc := 35) C zkb_50 d_Room_warmBy_35 ?_
    refine zz_aload_n (i := 1) (pc := 37) C rfl rfl d_Room_warmBy_37 ?_
    refine zz_aload_n (i := 0) (pc := 38) C rfl rfl d_Room_warmBy_38 ?_
    refine zz_getR (pc := 39) C zl_5_28 zsh_15 rfl d_Room_warmBy_39 ?_
    obtain ⟨q10, hq10, h⟩ := zz_bdE h
    refine zz_cVi (as := [.ref 18]) (st := [.int (50 : Int32), .int (-50 : Int32), .int v2, .ref 16]) (pc := 42) C (zm_Text_worth (by decide) (by decide) hq10) zcv_Text_worth zsh_45 zl_5_37 (by omega) (Nat.le_of_ble_eq_true rfl) d_Room_warmBy_42 rfl rfl ?_
    refine zz_mmin (st := [.int (-50 : Int32), .int v2, .ref 16]) (pc := 45) C zl_5_41 (by omega) (Nat.le_of_ble_eq_true rfl) d_Room_warmBy_45 rfl ?_
    refine zz_mmax (st := [.int v2, .ref 16]) (pc := 48) C zl_5_47 (by omega) (Nat.le_of_ble_eq_true rfl) d_Room_warmBy_48 rfl ?_
    obtain ⟨hi11, h⟩ := zz_ckE h
    refine zz_iast (pc := 51) C rfl zsh_16 hi11 d_Room_warmBy_51 ?_
    refine zz_iinc (lo' := [some (.ref 15), some (.ref 45), some (.int (v2 + (1 : Int32))), none]) (pc := 52) C rfl (zz_inc zki_1) rfl rfl d_Room_warmBy_52 ?_
    refine zz_goto (tgt := 2) (pc := 55) C (by decide) d_Room_warmBy_55 ?_
    exact ih (v2 + (1 : Int32)) (zz_w q10.2 16 (v2.toNatClampNeg) (zz_max (-50 : Int32) (zz_min (50 : Int32) q10.1))) h
set_option maxHeartbeats 4000000 in
set_option maxRecDepth 100000 in
theorem zf_Room_warmBy {G : zz_G} {l : Launch} {Z : zz_Z} {q : zz_S} {s : zz_S} (C : zz_Cx G l "OneBlanket$Room" "warmBy" prog_7_method_2_code 4 (none) 4 (none, zsh, q) Z) (h : f_Room_warmBy s = some q) : Z 0 [some (.ref 15), some (.ref 45), none, none] [] zsh s := by
  unfold f_Room_warmBy at h
  refine zz_iconst (pc := 0) C zki_0 d_Room_warmBy_0 ?_
  refine zz_istore_n (i := 2) (lo' := [some (.ref 15), some (.ref 45), some (.int (0 : Int32)), none]) (pc := 1) C rfl (Nat.le_of_ble_eq_true rfl) rfl rfl d_Room_warmBy_1 ?_
  exact zf_Room_warmBy_L2 C zF (0 : Int32) s h
theorem zm_Room_warmBy {G : zz_G} {l : Launch} {s : zz_S} {q : zz_S} (h : f_Room_warmBy s = some q) : zz_M G l 4 y_Room_warmBy prog_7_method_2_code 4 (none) [.ref 15, .ref 45] zsh s (none, zsh, q) :=
  zz_M.intro (by decide) (Nat.le_of_ble_eq_true rfl) (Nat.le_refl _) (Nat.le_refl _) (fun Z C => zf_Room_warmBy C h)
theorem d_Shelf_hasPlaces_0 : decode prog_8_method_9_code 0 = .ok (.iload_n 1, 1) := by decide +kernel
theorem d_Shelf_hasPlaces_1 : decode prog_8_method_9_code 1 = .ok (.ifCond .lt (29), 3) := by decide +kernel
theorem d_Shelf_hasPlaces_4 : decode prog_8_method_9_code 4 = .ok (.iload_n 2, 1) := by decide +kernel
theorem d_Shelf_hasPlaces_5 : decode prog_8_method_9_code 5 = .ok (.ifCond .lt (25), 3) := by decide +kernel
theorem d_Shelf_hasPlaces_8 : decode prog_8_method_9_code 8 = .ok (.iload_n 2, 1) := by decide +kernel
theorem d_Shelf_hasPlaces_9 : decode prog_8_method_9_code 9 = .ok (.aload_n 0, 1) := by decide +kernel
theorem d_Shelf_hasPlaces_10 : decode prog_8_method_9_code 10 = .ok (.getfield 25, 3) := by decide +kernel
theorem d_Shelf_hasPlaces_13 : decode prog_8_method_9_code 13 = .ok (.if_icmp .gt (17), 3) := by decide +kernel
theorem d_Shelf_hasPlaces_16 : decode prog_8_method_9_code 16 = .ok (.iload_n 1, 1) := by decide +kernel
theorem d_Shelf_hasPlaces_17 : decode prog_8_method_9_code 17 = .ok (.aload_n 0, 1) := by decide +kernel
theorem d_Shelf_hasPlaces_18 : decode prog_8_method_9_code 18 = .ok (.getfield 25, 3) := by decide +kernel
theorem d_Shelf_hasPlaces_21 : decode prog_8_method_9_code 21 = .ok (.iload_n 2, 1) := by decide +kernel
theorem d_Shelf_hasPlaces_22 : decode prog_8_method_9_code 22 = .ok (.isub, 1) := by decide +kernel
theorem d_Shelf_hasPlaces_23 : decode prog_8_method_9_code 23 = .ok (.if_icmp .gt (7), 3) := by decide +kernel
theorem d_Shelf_hasPlaces_26 : decode prog_8_method_9_code 26 = .ok (.iconst 1, 1) := by decide +kernel
theorem d_Shelf_hasPlaces_27 : decode prog_8_method_9_code 27 = .ok (.goto (4), 3) := by decide +kernel
theorem d_Shelf_hasPlaces_30 : decode prog_8_method_9_code 30 = .ok (.iconst 0, 1) := by decide +kernel
theorem d_Shelf_hasPlaces_31 : decode prog_8_method_9_code 31 = .ok (.ireturn, 1) := by decide +kernel
set_option maxHeartbeats 4000000 in
set_option maxRecDepth 100000 in
theorem zf_Shelf_hasPlaces {G : zz_G} {l : Launch} {Z : zz_Z} {q : Int32} {s : zz_S} (C : zz_Cx G l "OneBlanket$Shelf" "hasPlaces" prog_8_method_9_code 3 (some .boolean) 2 (some (.int q), zsh, s) Z) (a0 : Nat) (a1 : Int32) (a2 : Int32) (ha0 : a0 ∈ zS7) (h : f_Shelf_hasPlaces a0 a1 a2 s = q) : Z 0 [some (.ref a0), some (.int a1), some (.int a2)] [] zsh s := by
  unfold f_Shelf_hasPlaces at h
  refine zz_iload_n (i := 1) (pc := 0) C rfl rfl d_Shelf_hasPlaces_0 ?_
  refine zz_if_lt (tgt := 30) (pc := 1) C (by decide) d_Shelf_hasPlaces_1 (fun hc1 => ?_) (fun hc1 => ?_)
  · rw [if_pos hc1] at h
    refine zz_iconst (pc := 30) C zki_0 d_Shelf_hasPlaces_30 ?_
    subst h
    exact zz_ret (pc := 31) C (v := some (.int (0 : Int32))) d_Shelf_hasPlaces_31 (Or.inl ⟨_, _, rfl, rfl, rfl, (by decide)⟩) rfl
  · rw [if_neg hc1] at h
    refine zz_iload_n (i := 2) (pc := 4) C rfl rfl d_Shelf_hasPlaces_4 ?_
    refine zz_if_lt (tgt := 30) (pc := 5) C (by decide) d_Shelf_hasPlaces_5 (fun hc2 => ?_) (fun hc2 => ?_)
    · rw [if_pos hc2] at h
      refine zz_iconst (pc := 30) C zki_0 d_Shelf_hasPlaces_30 ?_
      subst h
      exact zz_ret (pc := 31) C (v := some (.int (0 : Int32))) d_Shelf_hasPlaces_31 (Or.inl ⟨_, _, rfl, rfl, rfl, (by decide)⟩) rfl
    · rw [if_neg hc2] at h
      refine zz_iload_n (i := 2) (pc := 8) C rfl rfl d_Shelf_hasPlaces_8 ?_
      refine zz_aload_n (i := 0) (pc := 9) C rfl rfl d_Shelf_hasPlaces_9 ?_
      refine zz_getI (pc := 10) C zl_6_25 (zS7_sh ha0) rfl d_Shelf_hasPlaces_10 ?_
      refine zz_icmp_gt (tgt := 30) (pc := 13) C (by decide) d_Shelf_hasPlaces_13 (fun hc3 => ?_) (fun hc3 => ?_)
      · rw [if_pos hc3] at h
        refine zz_iconst (pc := 30) C zki_0 d_Shelf_hasPlaces_30 ?_
        subst h
        exact zz_ret (pc := 31) C (v := some (.int (0 : Int32))) d_Shelf_hasPlaces_31 (Or.inl ⟨_, _, rfl, rfl, rfl, (by decide)⟩) rfl
      · rw [if_neg hc3] at h
        refine zz_iload_n (i := 1) (pc := 16) C rfl rfl d_Shelf_hasPlaces_16 ?_
        refine zz_aload_n (i := 0) (pc := 17) C rfl rfl d_Shelf_hasPlaces_17 ?_
        refine zz_getI (pc := 18) C zl_6_25 (zS7_sh ha0) rfl d_Shelf_hasPlaces_18 ?_
        refine zz_iload_n (i := 2) (pc := 21) C rfl rfl d_Shelf_hasPlaces_21 ?_
        refine zz_isub (pc := 22) C d_Shelf_hasPlaces_22 ?_
        refine zz_icmp_gt (tgt := 30) (pc := 23) C (by decide) d_Shelf_hasPlaces_23 (fun hc4 => ?_) (fun hc4 => ?_)
        · rw [if_pos hc4] at h
          refine zz_iconst (pc := 30) C zki_0 d_Shelf_hasPlaces_30 ?_
          subst h
          exact zz_ret (pc := 31) C (v := some (.int (0 : Int32))) d_Shelf_hasPlaces_31 (Or.inl ⟨_, _, rfl, rfl, rfl, (by decide)⟩) rfl
        · rw [if_neg hc4] at h
          refine zz_iconst (pc := 26) C zki_1 d_Shelf_hasPlaces_26 ?_
          refine zz_goto (tgt := 31) (pc := 27) C (by decide) d_Shelf_hasPlaces_27 ?_
          subst h
          exact zz_ret (pc := 31) C (v := some (.int (1 : Int32))) d_Shelf_hasPlaces_31 (Or.inl ⟨_, _, rfl, rfl, rfl, (by decide)⟩) rfl
theorem zm_Shelf_hasPlaces {G : zz_G} {l : Launch} {s : zz_S} {q : Int32} {a0 : Nat} {a1 : Int32} {a2 : Int32} (ha0 : a0 ∈ zS7) (h : f_Shelf_hasPlaces a0 a1 a2 s = q) : zz_M G l 2 y_Shelf_hasPlaces prog_8_method_9_code 3 (some .boolean) [.ref a0, .int a1, .int a2] zsh s (some (.int q), zsh, s) :=
  zz_M.intro (by decide) (Nat.le_of_ble_eq_true rfl) (Nat.le_refl _) (Nat.le_refl _) (fun Z C => zf_Shelf_hasPlaces C a0 a1 a2 ha0 h)
theorem d_Shelf_holdBody_0 : decode prog_8_method_7_code 0 = .ok (.aload_n 0, 1) := by decide +kernel
theorem d_Shelf_holdBody_1 : decode prog_8_method_7_code 1 = .ok (.iconst 1, 1) := by decide +kernel
theorem d_Shelf_holdBody_2 : decode prog_8_method_7_code 2 = .ok (.putfield 11, 3) := by decide +kernel
theorem d_Shelf_holdBody_5 : decode prog_8_method_7_code 5 = .ok (.aload_n 0, 1) := by decide +kernel
theorem d_Shelf_holdBody_6 : decode prog_8_method_7_code 6 = .ok (.iload_n 1, 1) := by decide +kernel
theorem d_Shelf_holdBody_7 : decode prog_8_method_7_code 7 = .ok (.putfield 22, 3) := by decide +kernel
theorem d_Shelf_holdBody_10 : decode prog_8_method_7_code 10 = .ok (.return_, 1) := by decide +kernel
set_option maxHeartbeats 4000000 in
set_option maxRecDepth 100000 in
theorem zf_Shelf_holdBody {G : zz_G} {l : Launch} {Z : zz_Z} {q : zz_S} {s : zz_S} (C : zz_Cx G l "OneBlanket$Shelf" "holdBody" prog_8_method_7_code 2 (none) 2 (none, zsh, q) Z) (a0 : Nat) (a1 : Int32) (ha0 : a0 ∈ zS7) (h : f_Shelf_holdBody a0 a1 s = q) : Z 0 [some (.ref a0), some (.int a1)] [] zsh s := by
  unfold f_Shelf_holdBody at h
  refine zz_aload_n (i := 0) (pc := 0) C rfl rfl d_Shelf_holdBody_0 ?_
  refine zz_iconst (pc := 1) C zki_1 d_Shelf_holdBody_1 ?_
  refine zz_putI' (pc := 2) C zl_6_11 zpf_6_0 (zS7_sh ha0) rfl d_Shelf_holdBody_2 ?_
  refine zz_aload_n (i := 0) (pc := 5) C rfl rfl d_Shelf_holdBody_5 ?_
  refine zz_iload_n (i := 1) (pc := 6) C rfl rfl d_Shelf_holdBody_6 ?_
  refine zz_putI' (pc := 7) C zl_6_22 zpf_6_1 (zS7_sh ha0) rfl d_Shelf_holdBody_7 ?_
  subst h
  exact zz_ret (pc := 10) C (v := none) d_Shelf_holdBody_10 (Or.inr (Or.inr (Or.inr ⟨rfl, rfl, rfl⟩))) rfl
theorem zm_Shelf_holdBody {G : zz_G} {l : Launch} {s : zz_S} {q : zz_S} {a0 : Nat} {a1 : Int32} (ha0 : a0 ∈ zS7) (h : f_Shelf_holdBody a0 a1 s = q) : zz_M G l 2 y_Shelf_holdBody prog_8_method_7_code 2 (none) [.ref a0, .int a1] zsh s (none, zsh, q) :=
  zz_M.intro (by decide) (Nat.le_of_ble_eq_true rfl) (Nat.le_refl _) (Nat.le_refl _) (fun Z C => zf_Shelf_holdBody C a0 a1 ha0 h)
theorem d_Shelf_holdNothing_0 : decode prog_8_method_6_code 0 = .ok (.aload_n 0, 1) := by decide +kernel
theorem d_Shelf_holdNothing_1 : decode prog_8_method_6_code 1 = .ok (.iconst 0, 1) := by decide +kernel
theorem d_Shelf_holdNothing_2 : decode prog_8_method_6_code 2 = .ok (.putfield 11, 3) := by decide +kernel
theorem d_Shelf_holdNothing_5 : decode prog_8_method_6_code 5 = .ok (.return_, 1) := by decide +kernel
set_option maxHeartbeats 4000000 in
set_option maxRecDepth 100000 in
theorem zf_Shelf_holdNothing {G : zz_G} {l : Launch} {Z : zz_Z} {q : zz_S} {s : zz_S} (C : zz_Cx G l "OneBlanket$Shelf" "holdNothing" prog_8_method_6_code 1 (none) 2 (none, zsh, q) Z) (a0 : Nat) (ha0 : a0 ∈ zS7) (h : f_Shelf_holdNothing a0 s = q) : Z 0 [some (.ref a0)] [] zsh s := by
  unfold f_Shelf_holdNothing at h
  refine zz_aload_n (i := 0) (pc := 0) C rfl rfl d_Shelf_holdNothing_0 ?_
  refine zz_iconst (pc := 1) C zki_0 d_Shelf_holdNothing_1 ?_
  refine zz_putI' (pc := 2) C zl_6_11 zpf_6_0 (zS7_sh ha0) rfl d_Shelf_holdNothing_2 ?_
  subst h
  exact zz_ret (pc := 5) C (v := none) d_Shelf_holdNothing_5 (Or.inr (Or.inr (Or.inr ⟨rfl, rfl, rfl⟩))) rfl
theorem zm_Shelf_holdNothing {G : zz_G} {l : Launch} {s : zz_S} {q : zz_S} {a0 : Nat} (ha0 : a0 ∈ zS7) (h : f_Shelf_holdNothing a0 s = q) : zz_M G l 2 y_Shelf_holdNothing prog_8_method_6_code 1 (none) [.ref a0] zsh s (none, zsh, q) :=
  zz_M.intro (by decide) (Nat.le_of_ble_eq_true rfl) (Nat.le_refl _) (Nat.le_refl _) (fun Z C => zf_Shelf_holdNothing C a0 ha0 h)
theorem d_Shelf_holdRow_0 : decode prog_8_method_8_code 0 = .ok (.aload_n 0, 1) := by decide +kernel
theorem d_Shelf_holdRow_1 : decode prog_8_method_8_code 1 = .ok (.iconst 2, 1) := by decide +kernel
theorem d_Shelf_holdRow_2 : decode prog_8_method_8_code 2 = .ok (.putfield 11, 3) := by decide +kernel
theorem d_Shelf_holdRow_5 : decode prog_8_method_8_code 5 = .ok (.aload_n 0, 1) := by decide +kernel
theorem d_Shelf_holdRow_6 : decode prog_8_method_8_code 6 = .ok (.iload_n 1, 1) := by decide +kernel
theorem d_Shelf_holdRow_7 : decode prog_8_method_8_code 7 = .ok (.putfield 19, 3) := by decide +kernel
theorem d_Shelf_holdRow_10 : decode prog_8_method_8_code 10 = .ok (.aload_n 0, 1) := by decide +kernel
theorem d_Shelf_holdRow_11 : decode prog_8_method_8_code 11 = .ok (.iload_n 2, 1) := by decide +kernel
theorem d_Shelf_holdRow_12 : decode prog_8_method_8_code 12 = .ok (.putfield 25, 3) := by decide +kernel
theorem d_Shelf_holdRow_15 : decode prog_8_method_8_code 15 = .ok (.aload_n 0, 1) := by decide +kernel
theorem d_Shelf_holdRow_16 : decode prog_8_method_8_code 16 = .ok (.getfield 15, 3) := by decide +kernel
theorem d_Shelf_holdRow_19 : decode prog_8_method_8_code 19 = .ok (.lconst 0, 1) := by decide +kernel
theorem d_Shelf_holdRow_20 : decode prog_8_method_8_code 20 = .ok (.invokestatic 28, 3) := by decide +kernel
theorem d_Shelf_holdRow_23 : decode prog_8_method_8_code 23 = .ok (.return_, 1) := by decide +kernel
set_option maxHeartbeats 4000000 in
set_option maxRecDepth 100000 in
theorem zf_Shelf_holdRow {G : zz_G} {l : Launch} {Z : zz_Z} {q : zz_S} {s : zz_S} (C : zz_Cx G l "OneBlanket$Shelf" "holdRow" prog_8_method_8_code 3 (none) 3 (none, zsh, q) Z) (a0 : Nat) (a1 : Int32) (a2 : Int32) (ha0 : a0 ∈ zS7) (h : f_Shelf_holdRow a0 a1 a2 s = q) : Z 0 [some (.ref a0), some (.int a1), some (.int a2)] [] zsh s := by
  unfold f_Shelf_holdRow at h
  refine zz_aload_n (i := 0) (pc := 0) C rfl rfl d_Shelf_holdRow_0 ?_
  refine zz_iconst (pc := 1) C zki_2 d_Shelf_holdRow_1 ?_
  refine zz_putI' (pc := 2) C zl_6_11 zpf_6_0 (zS7_sh ha0) rfl d_Shelf_holdRow_2 ?_
  refine zz_aload_n (i := 0) (pc := 5) C rfl rfl d_Shelf_holdRow_5 ?_
  refine zz_iload_n (i := 1) (pc := 6) C rfl rfl d_Shelf_holdRow_6 ?_
  refine zz_putI' (pc := 7) C zl_6_19 zpf_6_2 (zS7_sh ha0) rfl d_Shelf_holdRow_7 ?_
  refine zz_aload_n (i := 0) (pc := 10) C rfl rfl d_Shelf_holdRow_10 ?_
  refine zz_iload_n (i := 2) (pc := 11) C rfl rfl d_Shelf_holdRow_11 ?_
  refine zz_putI' (pc := 12) C zl_6_25 zpf_6_3 (zS7_sh ha0) rfl d_Shelf_holdRow_12 ?_
  refine zz_aload_n (i := 0) (pc := 15) C rfl rfl d_Shelf_holdRow_15 ?_
  refine zz_getR (pc := 16) C zl_6_15 (zS7_sh ha0) rfl d_Shelf_holdRow_16 ?_
  refine zz_lconst (pc := 19) C zkl_0 d_Shelf_holdRow_19 ?_
  refine zz_cSv (as := [.ref (a0 + 1), .long (0 : Int64)]) (st := []) (pc := 20) C (zm_Arr_fillJ (zS8_sh (zder_S7_1 ha0)) (by decide)) zcs_Arr_fillJ zl_6_28 (by omega) (Nat.le_of_ble_eq_true rfl) d_Shelf_holdRow_20 rfl rfl ?_
  subst h
  exact zz_ret (pc := 23) C (v := none) d_Shelf_holdRow_23 (Or.inr (Or.inr (Or.inr ⟨rfl, rfl, rfl⟩))) rfl
theorem zm_Shelf_holdRow {G : zz_G} {l : Launch} {s : zz_S} {q : zz_S} {a0 : Nat} {a1 : Int32} {a2 : Int32} (ha0 : a0 ∈ zS7) (h : f_Shelf_holdRow a0 a1 a2 s = q) : zz_M G l 3 y_Shelf_holdRow prog_8_method_8_code 3 (none) [.ref a0, .int a1, .int a2] zsh s (none, zsh, q) :=
  zz_M.intro (by decide) (Nat.le_of_ble_eq_true rfl) (Nat.le_refl _) (Nat.le_refl _) (fun Z C => zf_Shelf_holdRow C a0 a1 a2 ha0 h)
theorem d_Shelf_isBody_0 : decode prog_8_method_3_code 0 = .ok (.aload_n 0, 1) := by decide +kernel
theorem d_Shelf_isBody_1 : decode prog_8_method_3_code 1 = .ok (.getfield 11, 3) := by decide +kernel
theorem d_Shelf_isBody_4 : decode prog_8_method_3_code 4 = .ok (.iconst 1, 1) := by decide +kernel
theorem d_Shelf_isBody_5 : decode prog_8_method_3_code 5 = .ok (.if_icmp .ne (7), 3) := by decide +kernel
theorem d_Shelf_isBody_8 : decode prog_8_method_3_code 8 = .ok (.iconst 1, 1) := by decide +kernel
theorem d_Shelf_isBody_9 : decode prog_8_method_3_code 9 = .ok (.goto (4), 3) := by decide +kernel
theorem d_Shelf_isBody_12 : decode prog_8_method_3_code 12 = .ok (.iconst 0, 1) := by decide +kernel
theorem d_Shelf_isBody_13 : decode prog_8_method_3_code 13 = .ok (.ireturn, 1) := by decide +kernel
set_option maxHeartbeats 4000000 in
set_option maxRecDepth 100000 in
theorem zf_Shelf_isBody {G : zz_G} {l : Launch} {Z : zz_Z} {q : Int32} {s : zz_S} (C : zz_Cx G l "OneBlanket$Shelf" "isBody" prog_8_method_3_code 1 (some .boolean) 2 (some (.int q), zsh, s) Z) (a0 : Nat) (ha0 : a0 ∈ zS7) (h : f_Shelf_isBody a0 s = q) : Z 0 [some (.ref a0)] [] zsh s := by
  unfold f_Shelf_isBody at h
  refine zz_aload_n (i := 0) (pc := 0) C rfl rfl d_Shelf_isBody_0 ?_
  refine zz_getI (pc := 1) C zl_6_11 (zS7_sh ha0) rfl d_Shelf_isBody_1 ?_
  refine zz_iconst (pc := 4) C zki_1 d_Shelf_isBody_4 ?_
  refine zz_icmp_ne (tgt := 12) (pc := 5) C (by decide) d_Shelf_isBody_5 (fun hc1 => ?_) (fun hc1 => ?_)
  · rw [if_neg hc1] at h
    refine zz_iconst (pc := 12) C zki_0 d_Shelf_isBody_12 ?_
    subst h
    exact zz_ret (pc := 13) C (v := some (.int (0 : Int32))) d_Shelf_isBody_13 (Or.inl ⟨_, _, rfl, rfl, rfl, (by decide)⟩) rfl
  · rw [if_pos hc1] at h
    refine zz_iconst (pc := 8) C zki_1 d_Shelf_isBody_8 ?_
    refine zz_goto (tgt := 13) (pc := 9) C (by decide) d_Shelf_isBody_9 ?_
    subst h
    exact zz_ret (pc := 13) C (v := some (.int (1 : Int32))) d_Shelf_isBody_13 (Or.inl ⟨_, _, rfl, rfl, rfl, (by decide)⟩) rfl
theorem zm_Shelf_isBody {G : zz_G} {l : Launch} {s : zz_S} {q : Int32} {a0 : Nat} (ha0 : a0 ∈ zS7) (h : f_Shelf_isBody a0 s = q) : zz_M G l 2 y_Shelf_isBody prog_8_method_3_code 1 (some .boolean) [.ref a0] zsh s (some (.int q), zsh, s) :=
  zz_M.intro (by decide) (Nat.le_of_ble_eq_true rfl) (Nat.le_refl _) (Nat.le_refl _) (fun Z C => zf_Shelf_isBody C a0 ha0 h)
theorem d_Shelf_isEmpty_0 : decode prog_8_method_2_code 0 = .ok (.aload_n 0, 1) := by decide +kernel
theorem d_Shelf_isEmpty_1 : decode prog_8_method_2_code 1 = .ok (.getfield 11, 3) := by decide +kernel
theorem d_Shelf_isEmpty_4 : decode prog_8_method_2_code 4 = .ok (.ifCond .ne (7), 3) := by decide +kernel
theorem d_Shelf_isEmpty_7 : decode prog_8_method_2_code 7 = .ok (.iconst 1, 1) := by decide +kernel
theorem d_Shelf_isEmpty_8 : decode prog_8_method_2_code 8 = .ok (.goto (4), 3) := by decide +kernel
theorem d_Shelf_isEmpty_11 : decode prog_8_method_2_code 11 = .ok (.iconst 0, 1) := by decide +kernel
theorem d_Shelf_isEmpty_12 : decode prog_8_method_2_code 12 = .ok (.ireturn, 1) := by decide +kernel
set_option maxHeartbeats 4000000 in
set_option maxRecDepth 100000 in
theorem zf_Shelf_isEmpty {G : zz_G} {l : Launch} {Z : zz_Z} {q : Int32} {s : zz_S} (C : zz_Cx G l "OneBlanket$Shelf" "isEmpty" prog_8_method_2_code 1 (some .boolean) 2 (some (.int q), zsh, s) Z) (a0 : Nat) (ha0 : a0 ∈ zS7) (h : f_Shelf_isEmpty a0 s = q) : Z 0 [some (.ref a0)] [] zsh s := by
  unfold f_Shelf_isEmpty at h
  refine zz_aload_n (i := 0) (pc := 0) C rfl rfl d_Shelf_isEmpty_0 ?_
  refine zz_getI (pc := 1) C zl_6_11 (zS7_sh ha0) rfl d_Shelf_isEmpty_1 ?_
  refine zz_if_ne (tgt := 11) (pc := 4) C (by decide) d_Shelf_isEmpty_4 (fun hc1 => ?_) (fun hc1 => ?_)
  · rw [if_neg hc1] at h
    refine zz_iconst (pc := 11) C zki_0 d_Shelf_isEmpty_11 ?_
    subst h
    exact zz_ret (pc := 12) C (v := some (.int (0 : Int32))) d_Shelf_isEmpty_12 (Or.inl ⟨_, _, rfl, rfl, rfl, (by decide)⟩) rfl
  · rw [if_pos hc1] at h
    refine zz_iconst (pc := 7) C zki_1 d_Shelf_isEmpty_7 ?_
    refine zz_goto (tgt := 12) (pc := 8) C (by decide) d_Shelf_isEmpty_8 ?_
    subst h
    exact zz_ret (pc := 12) C (v := some (.int (1 : Int32))) d_Shelf_isEmpty_12 (Or.inl ⟨_, _, rfl, rfl, rfl, (by decide)⟩) rfl
theorem zm_Shelf_isEmpty {G : zz_G} {l : Launch} {s : zz_S} {q : Int32} {a0 : Nat} (ha0 : a0 ∈ zS7) (h : f_Shelf_isEmpty a0 s = q) : zz_M G l 2 y_Shelf_isEmpty prog_8_method_2_code 1 (some .boolean) [.ref a0] zsh s (some (.int q), zsh, s) :=
  zz_M.intro (by decide) (Nat.le_of_ble_eq_true rfl) (Nat.le_refl _) (Nat.le_refl _) (fun Z C => zf_Shelf_isEmpty C a0 ha0 h)
theorem d_Shelf_isRow_0 : decode prog_8_method_4_code 0 = .ok (.aload_n 0, 1) := by decide +kernel
theorem d_Shelf_isRow_1 : decode prog_8_method_4_code 1 = .ok (.getfield 11, 3) := by decide +kernel
theorem d_Shelf_isRow_4 : decode prog_8_method_4_code 4 = .ok (.iconst 2, 1) := by decide +kernel
theorem d_Shelf_isRow_5 : decode prog_8_method_4_code 5 = .ok (.if_icmp .ne (7), 3) := by decide +kernel
theorem d_Shelf_isRow_8 : decode prog_8_method_4_code 8 = .ok (.iconst 1, 1) := by decide +kernel
theorem d_Shelf_isRow_9 : decode prog_8_method_4_code 9 = .ok (.goto (4), 3) := by decide +kernel
theorem d_Shelf_isRow_12 : decode prog_8_method_4_code 12 = .ok (.iconst 0, 1) := by decide +kernel
theorem d_Shelf_isRow_13 : decode prog_8_method_4_code 13 = .ok (.ireturn, 1) := by decide +kernel
set_option maxHeartbeats 4000000 in
set_option maxRecDepth 100000 in
theorem zf_Shelf_isRow {G : zz_G} {l : Launch} {Z : zz_Z} {q : Int32} {s : zz_S} (C : zz_Cx G l "OneBlanket$Shelf" "isRow" prog_8_method_4_code 1 (some .boolean) 2 (some (.int q), zsh, s) Z) (a0 : Nat) (ha0 : a0 ∈ zS7) (h : f_Shelf_isRow a0 s = q) : Z 0 [some (.ref a0)] [] zsh s := by
  unfold f_Shelf_isRow at h
  refine zz_aload_n (i := 0) (pc := 0) C rfl rfl d_Shelf_isRow_0 ?_
  refine zz_getI (pc := 1) C zl_6_11 (zS7_sh ha0) rfl d_Shelf_isRow_1 ?_
  refine zz_iconst (pc := 4) C zki_2 d_Shelf_isRow_4 ?_
  refine zz_icmp_ne (tgt := 12) (pc := 5) C (by decide) d_Shelf_isRow_5 (fun hc1 => ?_) (fun hc1 => ?_)
  · rw [if_neg hc1] at h
    refine zz_iconst (pc := 12) C zki_0 d_Shelf_isRow_12 ?_
    subst h
    exact zz_ret (pc := 13) C (v := some (.int (0 : Int32))) d_Shelf_isRow_13 (Or.inl ⟨_, _, rfl, rfl, rfl, (by decide)⟩) rfl
  · rw [if_pos hc1] at h
    refine zz_iconst (pc := 8) C zki_1 d_Shelf_isRow_8 ?_
    refine zz_goto (tgt := 13) (pc := 9) C (by decide) d_Shelf_isRow_9 ?_
    subst h
    exact zz_ret (pc := 13) C (v := some (.int (1 : Int32))) d_Shelf_isRow_13 (Or.inl ⟨_, _, rfl, rfl, rfl, (by decide)⟩) rfl
theorem zm_Shelf_isRow {G : zz_G} {l : Launch} {s : zz_S} {q : Int32} {a0 : Nat} (ha0 : a0 ∈ zS7) (h : f_Shelf_isRow a0 s = q) : zz_M G l 2 y_Shelf_isRow prog_8_method_4_code 1 (some .boolean) [.ref a0] zsh s (some (.int q), zsh, s) :=
  zz_M.intro (by decide) (Nat.le_of_ble_eq_true rfl) (Nat.le_refl _) (Nat.le_refl _) (fun Z C => zf_Shelf_isRow C a0 ha0 h)
theorem d_Shelf_isRowOf_0 : decode prog_8_method_5_code 0 = .ok (.aload_n 0, 1) := by decide +kernel
theorem d_Shelf_isRowOf_1 : decode prog_8_method_5_code 1 = .ok (.getfield 11, 3) := by decide +kernel
theorem d_Shelf_isRowOf_4 : decode prog_8_method_5_code 4 = .ok (.iconst 2, 1) := by decide +kernel
theorem d_Shelf_isRowOf_5 : decode prog_8_method_5_code 5 = .ok (.if_icmp .ne (15), 3) := by decide +kernel
theorem d_Shelf_isRowOf_8 : decode prog_8_method_5_code 8 = .ok (.aload_n 0, 1) := by decide +kernel
theorem d_Shelf_isRowOf_9 : decode prog_8_method_5_code 9 = .ok (.getfield 19, 3) := by decide +kernel
theorem d_Shelf_isRowOf_12 : decode prog_8_method_5_code 12 = .ok (.iload_n 1, 1) := by decide +kernel
theorem d_Shelf_isRowOf_13 : decode prog_8_method_5_code 13 = .ok (.if_icmp .ne (7), 3) := by decide +kernel
theorem d_Shelf_isRowOf_16 : decode prog_8_method_5_code 16 = .ok (.iconst 1, 1) := by decide +kernel
theorem d_Shelf_isRowOf_17 : decode prog_8_method_5_code 17 = .ok (.goto (4), 3) := by decide +kernel
theorem d_Shelf_isRowOf_20 : decode prog_8_method_5_code 20 = .ok (.iconst 0, 1) := by decide +kernel
theorem d_Shelf_isRowOf_21 : decode prog_8_method_5_code 21 = .ok (.ireturn, 1) := by decide +kernel
set_option maxHeartbeats 4000000 in
set_option maxRecDepth 100000 in
theorem zf_Shelf_isRowOf {G : zz_G} {l : Launch} {Z : zz_Z} {q : Int32} {s : zz_S} (C : zz_Cx G l "OneBlanket$Shelf" "isRowOf" prog_8_method_5_code 2 (some .boolean) 2 (some (.int q), zsh, s) Z) (a0 : Nat) (a1 : Int32) (ha0 : a0 ∈ zS7) (h : f_Shelf_isRowOf a0 a1 s = q) : Z 0 [some (.ref a0), some (.int a1)] [] zsh s := by
  unfold f_Shelf_isRowOf at h
  refine zz_aload_n (i := 0) (pc := 0) C rfl rfl d_Shelf_isRowOf_0 ?_
  refine zz_getI (pc := 1) C zl_6_11 (zS7_sh ha0) rfl d_Shelf_isRowOf_1 ?_
  refine zz_iconst (pc := 4) C zki_2 d_Shelf_isRowOf_4 ?_
  refine zz_icmp_ne (tgt := 20) (pc := 5) C (by decide) d_Shelf_isRowOf_5 (fun hc1 => ?_) (fun hc1 => ?_)
  · rw [if_neg hc1] at h
    refine zz_iconst (pc := 20) C zki_0 d_Shelf_isRowOf_20 ?_
    subst h
    exact zz_ret (pc := 21) C (v := some (.int (0 : Int32))) d_Shelf_isRowOf_21 (Or.inl ⟨_, _, rfl, rfl, rfl, (by decide)⟩) rfl
  · rw [if_pos hc1] at h
    refine zz_aload_n (i := 0) (pc := 8) C rfl rfl d_Shelf_isRowOf_8 ?_
    refine zz_getI (pc := 9) C zl_6_19 (zS7_sh ha0) rfl d_Shelf_isRowOf_9 ?_
    refine zz_iload_n (i := 1) (pc := 12) C rfl rfl d_Shelf_isRowOf_12 ?_
    refine zz_icmp_ne (tgt := 20) (pc := 13) C (by decide) d_Shelf_isRowOf_13 (fun hc2 => ?_) (fun hc2 => ?_)
    · rw [if_neg hc2] at h
      refine zz_iconst (pc := 20) C zki_0 d_Shelf_isRowOf_20 ?_
      subst h
      exact zz_ret (pc := 21) C (v := some (.int (0 : Int32))) d_Shelf_isRowOf_21 (Or.inl ⟨_, _, rfl, rfl, rfl, (by decide)⟩) rfl
    · rw [if_pos hc2] at h
      refine zz_iconst (pc := 16) C zki_1 d_Shelf_isRowOf_16 ?_
      refine zz_goto (tgt := 21) (pc := 17) C (by decide) d_Shelf_isRowOf_17 ?_
      subst h
      exact zz_ret (pc := 21) C (v := some (.int (1 : Int32))) d_Shelf_isRowOf_21 (Or.inl ⟨_, _, rfl, rfl, rfl, (by decide)⟩) rfl
theorem zm_Shelf_isRowOf {G : zz_G} {l : Launch} {s : zz_S} {q : Int32} {a0 : Nat} {a1 : Int32} (ha0 : a0 ∈ zS7) (h : f_Shelf_isRowOf a0 a1 s = q) : zz_M G l 2 y_Shelf_isRowOf prog_8_method_5_code 2 (some .boolean) [.ref a0, .int a1] zsh s (some (.int q), zsh, s) :=
  zz_M.intro (by decide) (Nat.le_of_ble_eq_true rfl) (Nat.le_refl _) (Nat.le_refl _) (fun Z C => zf_Shelf_isRowOf C a0 a1 ha0 h)
theorem d_Shelf_set_0 : decode prog_8_method_10_code 0 = .ok (.aload_n 0, 1) := by decide +kernel
theorem d_Shelf_set_1 : decode prog_8_method_10_code 1 = .ok (.getfield 19, 3) := by decide +kernel
theorem d_Shelf_set_4 : decode prog_8_method_10_code 4 = .ok (.tableswitch (80) (0) (3) #[32, 45, 58, 70], 32) := by decide +kernel
theorem d_Shelf_set_36 : decode prog_8_method_10_code 36 = .ok (.aload_n 0, 1) := by decide +kernel
theorem d_Shelf_set_37 : decode prog_8_method_10_code 37 = .ok (.getfield 15, 3) := by decide +kernel
theorem d_Shelf_set_40 : decode prog_8_method_10_code 40 = .ok (.iload_n 1, 1) := by decide +kernel
theorem d_Shelf_set_41 : decode prog_8_method_10_code 41 = .ok (.lload_n 2, 1) := by decide +kernel
theorem d_Shelf_set_42 : decode prog_8_method_10_code 42 = .ok (.l2i, 1) := by decide +kernel
theorem d_Shelf_set_43 : decode prog_8_method_10_code 43 = .ok (.i2b, 1) := by decide +kernel
theorem d_Shelf_set_44 : decode prog_8_method_10_code 44 = .ok (.i2l, 1) := by decide +kernel
theorem d_Shelf_set_45 : decode prog_8_method_10_code 45 = .ok (.lastore, 1) := by decide +kernel
theorem d_Shelf_set_46 : decode prog_8_method_10_code 46 = .ok (.goto (55), 3) := by decide +kernel
theorem d_Shelf_set_49 : decode prog_8_method_10_code 49 = .ok (.aload_n 0, 1) := by decide +kernel
theorem d_Shelf_set_50 : decode prog_8_method_10_code 50 = .ok (.getfield 15, 3) := by decide +kernel
theorem d_Shelf_set_53 : decode prog_8_method_10_code 53 = .ok (.iload_n 1, 1) := by decide +kernel
theorem d_Shelf_set_54 : decode prog_8_method_10_code 54 = .ok (.lload_n 2, 1) := by decide +kernel
theorem d_Shelf_set_55 : decode prog_8_method_10_code 55 = .ok (.l2i, 1) := by decide +kernel
theorem d_Shelf_set_56 : decode prog_8_method_10_code 56 = .ok (.i2s, 1) := by decide +kernel
theorem d_Shelf_set_57 : decode prog_8_method_10_code 57 = .ok (.i2l, 1) := by decide +kernel
theorem d_Shelf_set_58 : decode prog_8_method_10_code 58 = .ok (.lastore, 1) := by decide +kernel
theorem d_Shelf_set_59 : decode prog_8_method_10_code 59 = .ok (.goto (42), 3) := by decide +kernel
theorem d_Shelf_set_62 : decode prog_8_method_10_code 62 = .ok (.aload_n 0, 1) := by decide +kernel
theorem d_Shelf_set_63 : decode prog_8_method_10_code 63 = .ok (.getfield 15, 3) := by decide +kernel
theorem d_Shelf_set_66 : decode prog_8_method_10_code 66 = .ok (.iload_n 1, 1) := by decide +kernel
theorem d_Shelf_set_67 : decode prog_8_method_10_code 67 = .ok (.lload_n 2, 1) := by decide +kernel
theorem d_Shelf_set_68 : decode prog_8_method_10_code 68 = .ok (.l2i, 1) := by decide +kernel
theorem d_Shelf_set_69 : decode prog_8_method_10_code 69 = .ok (.i2l, 1) := by decide +kernel
theorem d_Shelf_set_70 : decode prog_8_method_10_code 70 = .ok (.lastore, 1) := by decide +kernel
theorem d_Shelf_set_71 : decode prog_8_method_10_code 71 = .ok (.goto (30), 3) := by decide +kernel
theorem d_Shelf_set_74 : decode prog_8_method_10_code 74 = .ok (.aload_n 0, 1) := by decide +kernel
theorem d_Shelf_set_75 : decode prog_8_method_10_code 75 = .ok (.getfield 15, 3) := by decide +kernel
theorem d_Shelf_set_78 : decode prog_8_method_10_code 78 = .ok (.iload_n 1, 1) := by decide +kernel
theorem d_Shelf_set_79 : decode prog_8_method_10_code 79 = .ok (.lload_n 2, 1) := by decide +kernel
theorem d_Shelf_set_80 : decode prog_8_method_10_code 80 = .ok (.lastore, 1) := by decide +kernel
theorem d_Shelf_set_81 : decode prog_8_method_10_code 81 = .ok (.goto (20), 3) := by decide +kernel
theorem d_Shelf_set_84 : decode prog_8_method_10_code 84 = .ok (.aload_n 0, 1) := by decide +kernel
theorem d_Shelf_set_85 : decode prog_8_method_10_code 85 = .ok (.getfield 15, 3) := by decide +kernel
theorem d_Shelf_set_88 : decode prog_8_method_10_code 88 = .ok (.iload_n 1, 1) := by decide +kernel
theorem d_Shelf_set_89 : decode prog_8_method_10_code 89 = .ok (.lload_n 2, 1) := by decide +kernel
theorem d_Shelf_set_90 : decode prog_8_method_10_code 90 = .ok (.lconst 0, 1) := by decide +kernel
theorem d_Shelf_set_91 : decode prog_8_method_10_code 91 = .ok (.lcmp, 1) := by decide +kernel
theorem d_Shelf_set_92 : decode prog_8_method_10_code 92 = .ok (.ifCond .eq (7), 3) := by decide +kernel
theorem d_Shelf_set_95 : decode prog_8_method_10_code 95 = .ok (.lconst 1, 1) := by decide +kernel
theorem d_Shelf_set_96 : decode prog_8_method_10_code 96 = .ok (.goto (4), 3) := by decide +kernel
theorem d_Shelf_set_99 : decode prog_8_method_10_code 99 = .ok (.lconst 0, 1) := by decide +kernel
theorem d_Shelf_set_100 : decode prog_8_method_10_code 100 = .ok (.lastore, 1) := by decide +kernel
theorem d_Shelf_set_101 : decode prog_8_method_10_code 101 = .ok (.return_, 1) := by decide +kernel
set_option maxHeartbeats 4000000 in
set_option maxRecDepth 100000 in
theorem zf_Shelf_set_J100 {G : zz_G} {l : Launch} {Z : zz_Z} {q : zz_S} {s : zz_S} (C : zz_Cx G l "OneBlanket$Shelf" "set" prog_8_method_10_code 4 (none) 2 (none, zsh, q) Z) (t0 : Nat) (t1 : Int32) (t2 : Int64) (ht0 : t0 ∈ zS8) (h : f_Shelf_set_J100 t0 t1 t2 s = some q) : Z 100 [none, none, none, none] [.long t2, .int t1, .ref t0] zsh s := by
  unfold f_Shelf_set_J100 at h
  obtain ⟨hi10, h⟩ := zz_ckE h
  refine zz_last (pc := 100) C rfl (zS8_sh ht0) hi10 d_Shelf_set_100 ?_
  replace h := Option.some.inj h
  subst h
  exact zz_ret (pc := 101) C (v := none) d_Shelf_set_101 (Or.inr (Or.inr (Or.inr ⟨rfl, rfl, rfl⟩))) rfl
set_option maxHeartbeats 4000000 in
set_option maxRecDepth 100000 in
theorem zf_Shelf_set {G : zz_G} {l : Launch} {Z : zz_Z} {q : zz_S} {s : zz_S} (C : zz_Cx G l "OneBlanket$Shelf" "set" prog_8_method_10_code 4 (none) 2 (none, zsh, q) Z) (a0 : Nat) (a1 : Int32) (a2 : Int64) (ha0 : a0 ∈ zS7) (h : f_Shelf_set a0 a1 a2 s = some q) : Z 0 [some (.ref a0), some (.int a1), some (.long a2), none] [] zsh s := by
  unfold f_Shelf_set at h
  refine zz_aload_n (i := 0) (pc := 0) C rfl rfl d_Shelf_set_0 ?_
  refine zz_getI (pc := 1) C zl_6_19 (zS7_sh ha0) rfl d_Shelf_set_1 ?_
  by_cases hc1 : (s.1 a0 2) = (0 : Int32)
  · rw [if_pos hc1] at h
    refine zz_tableIn (tgt := 36) (off := 32) (pc := 4) C (by rw [hc1]; decide) (by rw [hc1]; decide) (by rw [hc1]; decide) (by decide) d_Shelf_set_4 ?_
    refine zz_aload_n (i := 0) (pc := 36) C rfl rfl d_Shelf_set_36 ?_
    refine zz_getR (pc := 37) C zl_6_15 (zS7_sh ha0) rfl d_Shelf_set_37 ?_
    refine zz_iload_n (i := 1) (pc := 40) C rfl rfl d_Shelf_set_40 ?_
    refine zz_lload_n (i := 2) (pc := 41) C rfl rfl d_Shelf_set_41 ?_
    refine zz_l2i (pc := 42) C d_Shelf_set_42 ?_
    refine zz_i2b (pc := 43) C d_Shelf_set_43 ?_
    refine zz_i2l (pc := 44) C d_Shelf_set_44 ?_
    obtain ⟨hi2, h⟩ := zz_ckE h
    refine zz_last (pc := 45) C rfl (zS8_sh (zder_S7_1 ha0)) hi2 d_Shelf_set_45 ?_
    refine zz_goto (tgt := 101) (pc := 46) C (by decide) d_Shelf_set_46 ?_
    replace h := Option.some.inj h
    subst h
    exact zz_ret (pc := 101) C (v := none) d_Shelf_set_101 (Or.inr (Or.inr (Or.inr ⟨rfl, rfl, rfl⟩))) rfl
  · rw [if_neg hc1] at h
    by_cases hc3 : (s.1 a0 2) = (1 : Int32)
    · rw [if_pos hc3] at h
      refine zz_tableIn (tgt := 49) (off := 45) (pc := 4) C (by rw [hc3]; decide) (by rw [hc3]; decide) (by rw [hc3]; decide) (by decide) d_Shelf_set_4 ?_
      refine zz_aload_n (i := 0) (pc := 49) C rfl rfl d_Shelf_set_49 ?_
      refine zz_getR (pc := 50) C zl_6_15 (zS7_sh ha0) rfl d_Shelf_set_50 ?_
      refine zz_iload_n (i := 1) (pc := 53) C rfl rfl d_Shelf_set_53 ?_
      refine zz_lload_n (i := 2) (pc := 54) C rfl rfl d_Shelf_set_54 ?_
      refine zz_l2i (pc := 55) C d_Shelf_set_55 ?_
      refine zz_i2s (pc := 56) C d_Shelf_set_56 ?_
      refine zz_i2l (pc := 57) C d_Shelf_set_57 ?_
      obtain ⟨hi4, h⟩ := zz_ckE h
      refine zz_last (pc := 58) C rfl (zS8_sh (zder_S7_1 ha0)) hi4 d_Shelf_set_58 ?_
      refine zz_goto (tgt := 101) (pc := 59) C (by decide) d_Shelf_set_59 ?_
      replace h := Option.some.inj h
      subst h
      exact zz_ret (pc := 101) C (v := none) d_Shelf_set_101 (Or.inr (Or.inr (Or.inr ⟨rfl, rfl, rfl⟩))) rfl
    · rw [if_neg hc3] at h
      by_cases hc5 : (s.1 a0 2) = (2 : Int32)
      · rw [if_pos hc5] at h
        refine zz_tableIn (tgt := 62) (off := 58) (pc := 4) C (by rw [hc5]; decide) (by rw [hc5]; decide) (by rw [hc5]; decide) (by decide) d_Shelf_set_4 ?_
        refine zz_aload_n (i := 0) (pc := 62) C rfl rfl d_Shelf_set_62 ?_
        refine zz_getR (pc := 63) C zl_6_15 (zS7_sh ha0) rfl d_Shelf_set_63 ?_
        refine zz_iload_n (i := 1) (pc := 66) C rfl rfl d_Shelf_set_66 ?_
        refine zz_lload_n (i := 2) (pc := 67) C rfl rfl d_Shelf_set_67 ?_
        refine zz_l2i (pc := 68) C d_Shelf_set_68 ?_
        refine zz_i2l (pc := 69) C d_Shelf_set_69 ?_
        obtain ⟨hi6, h⟩ := zz_ckE h
        refine zz_last (pc := 70) C rfl (zS8_sh (zder_S7_1 ha0)) hi6 d_Shelf_set_70 ?_
        refine zz_goto (tgt := 101) (pc := 71) C (by decide) d_Shelf_set_71 ?_
        replace h := Option.some.inj h
        subst h
        exact zz_ret (pc := 101) C (v := none) d_Shelf_set_101 (Or.inr (Or.inr (Or.inr ⟨rfl, rfl, rfl⟩))) rfl
      · rw [if_neg hc5] at h
        by_cases hc7 : (s.1 a0 2) = (3 : Int32)
        · rw [if_pos hc7] at h
          refine zz_tableIn (tgt := 74) (off := 70) (pc := 4) C (by rw [hc7]; decide) (by rw [hc7]; decide) (by rw [hc7]; decide) (by decide) d_Shelf_set_4 ?_
          refine zz_aload_n (i := 0) (pc := 74) C rfl rfl d_Shelf_set_74 ?_
          refine zz_getR (pc := 75) C zl_6_15 (zS7_sh ha0) rfl d_Shelf_set_75 ?_
          refine zz_iload_n (i := 1) (pc := 78) C rfl rfl d_Shelf_set_78 ?_
          refine zz_lload_n (i := 2) (pc := 79) C rfl rfl d_Shelf_set_79 ?_
          obtain ⟨hi8, h⟩ := zz_ckE h
          refine zz_last (pc := 80) C rfl (zS8_sh (zder_S7_1 ha0)) hi8 d_Shelf_set_80 ?_
          refine zz_goto (tgt := 101) (pc := 81) C (by decide) d_Shelf_set_81 ?_
          replace h := Option.some.inj h
          subst h
          exact zz_ret (pc := 101) C (v := none) d_Shelf_set_101 (Or.inr (Or.inr (Or.inr ⟨rfl, rfl, rfl⟩))) rfl
        · rw [if_neg hc7] at h
          have hc1i : (s.1 a0 2).toInt ≠ 0 := fun e => hc1 (Int32.toInt_inj.mp e)
          have hc3i : (s.1 a0 2).toInt ≠ 1 := fun e => hc3 (Int32.toInt_inj.mp e)
          have hc5i : (s.1 a0 2).toInt ≠ 2 := fun e => hc5 (Int32.toInt_inj.mp e)
          have hc7i : (s.1 a0 2).toInt ≠ 3 := fun e => hc7 (Int32.toInt_inj.mp e)
          refine zz_tableOut (tgt := 84) (pc := 4) C (by omega) (by decide) d_Shelf_set_4 ?_
          refine zz_aload_n (i := 0) (pc := 84) C rfl rfl d_Shelf_set_84 ?_
          refine zz_getR (pc := 85) C zl_6_15 (zS7_sh ha0) rfl d_Shelf_set_85 ?_
          refine zz_iload_n (i := 1) (pc := 88) C rfl rfl d_Shelf_set_88 ?_
          refine zz_lload_n (i := 2) (pc := 89) C rfl rfl d_Shelf_set_89 ?_
          refine zz_lconst (pc := 90) C zkl_0 d_Shelf_set_90 ?_
          refine zz_lcmp (pc := 91) C d_Shelf_set_91 ?_
          refine zz_if_eq (tgt := 99) (pc := 92) C (by decide) d_Shelf_set_92 (fun hc9 => ?_) (fun hc9 => ?_)
          · rw [if_pos hc9] at h
            refine zz_lconst (pc := 99) C zkl_0 d_Shelf_set_99 ?_
            refine zz_fg C [false, false, false, false] rfl rfl ?_
            exact zf_Shelf_set_J100 C (a0 + 1) a1 (0 : Int64) (zder_S7_1 ha0) h
          · rw [if_neg hc9] at h
            refine zz_lconst (pc := 95) C zkl_1 d_Shelf_set_95 ?_
            refine zz_goto (tgt := 100) (pc := 96) C (by decide) d_Shelf_set_96 ?_
            refine zz_fg C [false, false, false, false] rfl rfl ?_
            exact zf_Shelf_set_J100 C (a0 + 1) a1 (1 : Int64) (zder_S7_1 ha0) h
theorem zm_Shelf_set {G : zz_G} {l : Launch} {s : zz_S} {q : zz_S} {a0 : Nat} {a1 : Int32} {a2 : Int64} (ha0 : a0 ∈ zS7) (h : f_Shelf_set a0 a1 a2 s = some q) : zz_M G l 2 y_Shelf_set prog_8_method_10_code 4 (none) [.ref a0, .int a1, .long a2] zsh s (none, zsh, q) :=
  zz_M.intro (by decide) (Nat.le_of_ble_eq_true rfl) (Nat.le_refl _) (Nat.le_refl _) (fun Z C => zf_Shelf_set C a0 a1 a2 ha0 h)
theorem d_Tally_easyOfAll_0 : decode prog_9_method_5_code 0 = .ok (.iconst 0, 1) := by decide +kernel
theorem d_Tally_easyOfAll_1 : decode prog_9_method_5_code 1 = .ok (.istore_n 2, 1) := by decide +kernel
theorem d_Tally_easyOfAll_2 : decode prog_9_method_5_code 2 = .ok (.iconst 0, 1) := by decide +kernel
theorem d_Tally_easyOfAll_3 : decode prog_9_method_5_code 3 = .ok (.istore_n 3, 1) := by decide +kernel
theorem d_Tally_easyOfAll_4 : decode prog_9_method_5_code 4 = .ok (.iload_n 3, 1) := by decide +kernel
theorem d_Tally_easyOfAll_5 : decode prog_9_method_5_code 5 = .ok (.iload_n 1, 1) := by decide +kernel
theorem d_Tally_easyOfAll_6 : decode prog_9_method_5_code 6 = .ok (.if_icmp .ge (18), 3) := by decide +kernel
theorem d_Tally_easyOfAll_9 : decode prog_9_method_5_code 9 = .ok (.iload_n 2, 1) := by decide +kernel
theorem d_Tally_easyOfAll_10 : decode prog_9_method_5_code 10 = .ok (.aload_n 0, 1) := by decide +kernel
theorem d_Tally_easyOfAll_11 : decode prog_9_method_5_code 11 = .ok (.getfield 9, 3) := by decide +kernel
theorem d_Tally_easyOfAll_14 : decode prog_9_method_5_code 14 = .ok (.iload_n 3, 1) := by decide +kernel
theorem d_Tally_easyOfAll_15 : decode prog_9_method_5_code 15 = .ok (.iaload, 1) := by decide +kernel
theorem d_Tally_easyOfAll_16 : decode prog_9_method_5_code 16 = .ok (.iadd, 1) := by decide +kernel
theorem d_Tally_easyOfAll_17 : decode prog_9_method_5_code 17 = .ok (.istore_n 2, 1) := by decide +kernel
theorem d_Tally_easyOfAll_18 : decode prog_9_method_5_code 18 = .ok (.iinc 3 (1), 3) := by decide +kernel
theorem d_Tally_easyOfAll_21 : decode prog_9_method_5_code 21 = .ok (.goto (-17), 3) := by decide +kernel
theorem d_Tally_easyOfAll_24 : decode prog_9_method_5_code 24 = .ok (.iload_n 2, 1) := by decide +kernel
theorem d_Tally_easyOfAll_25 : decode prog_9_method_5_code 25 = .ok (.ireturn, 1) := by decide +kernel
set_option maxHeartbeats 4000000 in
set_option maxRecDepth 100000 in
theorem zf_Tally_easyOfAll_L4 {G : zz_G} {l : Launch} {Z : zz_Z} {q : Int32} {s : zz_S} (C : zz_Cx G l "OneBlanket$Tally" "easyOfAll" prog_9_method_5_code 4 (some .int) 2 (some (.int q), zsh, s) Z) : ∀ (n : Nat) (v1 : Int32) (v2 : Int32) (v3 : Int32), f_Tally_easyOfAll_L4 s n v1 v2 v3 = some q → Z 4 [some (.ref 21), some (.int v1), some (.int v2), some (.int v3)] [] zsh s := by
  intro n
  induction n with
  | zero => intro v1 v2 v3 h; rw [f_Tally_easyOfAll_L4] at h; cases h
  | succ n ih =>
  intro v1 v2 v3 h
  rw [f_Tally_easyOfAll_L4] at h
  refine zz_iload_n (i := 3) (pc := 4) C rfl rfl d_Tally_easyOfAll_4 ?_
  refine zz_iload_n (i := 1) (pc := 5) C rfl rfl d_Tally_easyOfAll_5 ?_
  refine zz_icmp_ge (tgt := 24) (pc := 6) C (by decide) d_Tally_easyOfAll_6 (fun hc1 => ?_) (fun hc1 => ?_)
  · rw [if_pos hc1] at h
    refine zz_iload_n (i := 2) (pc := 24) C rfl rfl d_Tally_easyOfAll_24 ?_
    replace h := Option.some.inj h
    subst h
    exact zz_ret (pc := 25) C (v := some (.int v2)) d_Tally_easyOfAll_25 (Or.inl ⟨_, _, rfl, rfl, rfl, rfl⟩) rfl
  · rw [if_neg hc1] at h
    refine zz_iload_n (i := 2) (pc := 9) C rfl rfl d_Tally_easyOfAll_9 ?_
    refine zz_aload_n (i := 0) (pc := 10) C rfl rfl d_Tally_easyOfAll_10 ?_
    refine zz_getR (pc := 11) C zl_7_9 zsh_21 rfl d_Tally_easyOfAll_11 ?_
    refine zz_iload_n (i := 3) (pc := 14) C rfl rfl d_Tally_easyOfAll_14 ?_
    obtain ⟨hi2, h⟩ := zz_ckE h
    refine zz_iald (pc := 15) C rfl zsh_22 hi2 d_Tally_easyOfAll_15 ?_
    refine zz_iadd (pc := 16) C d_Tally_easyOfAll_16 ?_
    refine zz_istore_n (i := 2) (lo' := [some (.ref 21), some (.int v1), some (.int (v2 + (s.1 22 (v3.toNatClampNeg)))), some (.int v3)]) (pc := 17) C rfl (Nat.le_of_ble_eq_true rfl) rfl rfl d_Tally_easyOfAll_17 ?_
    refine zz_iinc (lo' := [some (.ref 21), some (.int v1), some (.int (v2 + (s.1 22 (v3.toNatClampNeg)))), some (.int (v3 + (1 : Int32)))]) (pc := 18) C rfl (zz_inc zki_1) rfl rfl d_Tally_easyOfAll_18 ?_
    refine zz_goto (tgt := 4) (pc := 21) C (by decide) d_Tally_easyOfAll_21 ?_
    exact ih v1 (v2 + (s.1 22 (v3.toNatClampNeg))) (v3 + (1 : Int32)) h
set_option maxHeartbeats 4000000 in
set_option maxRecDepth 100000 in
theorem zf_Tally_easyOfAll {G : zz_G} {l : Launch} {Z : zz_Z} {q : Int32} {s : zz_S} (C : zz_Cx G l "OneBlanket$Tally" "easyOfAll" prog_9_method_5_code 4 (some .int) 2 (some (.int q), zsh, s) Z) (a1 : Int32) (h : f_Tally_easyOfAll a1 s = some q) : Z 0 [some (.ref 21), some (.int a1), none, none] [] zsh s := by
  unfold f_Tally_easyOfAll at h
  refine zz_iconst (pc := 0) C zki_0 d_Tally_easyOfAll_0 ?_
  refine zz_istore_n (i := 2) (lo' := [some (.ref 21), some (.int a1), some (.int (0 : Int32)), none]) (pc := 1) C rfl (Nat.le_of_ble_eq_true rfl) rfl rfl d_Tally_easyOfAll_1 ?_
  refine zz_iconst (pc := 2) C zki_0 d_Tally_easyOfAll_2 ?_
  refine zz_istore_n (i := 3) (lo' := [some (.ref 21), some (.int a1), some (.int (0 : Int32)), some (.int (0 : Int32))]) (pc := 3) C rfl (Nat.le_of_ble_eq_true rfl) rfl rfl d_Tally_easyOfAll_3 ?_
  exact zf_Tally_easyOfAll_L4 C zF a1 (0 : Int32) (0 : Int32) h
theorem zm_Tally_easyOfAll {G : zz_G} {l : Launch} {s : zz_S} {q : Int32} {a1 : Int32} (h : f_Tally_easyOfAll a1 s = some q) : zz_M G l 2 y_Tally_easyOfAll prog_9_method_5_code 4 (some .int) [.ref 21, .int a1] zsh s (some (.int q), zsh, s) :=
  zz_M.intro (by decide) (Nat.le_of_ble_eq_true rfl) (Nat.le_refl _) (Nat.le_refl _) (fun Z C => zf_Tally_easyOfAll C a1 h)
theorem d_Tally_leastEasy_0 : decode prog_9_method_6_code 0 = .ok (.sipush (480), 3) := by decide +kernel
theorem d_Tally_leastEasy_3 : decode prog_9_method_6_code 3 = .ok (.istore_n 2, 1) := by decide +kernel
theorem d_Tally_leastEasy_4 : decode prog_9_method_6_code 4 = .ok (.iconst 0, 1) := by decide +kernel
theorem d_Tally_leastEasy_5 : decode prog_9_method_6_code 5 = .ok (.istore_n 3, 1) := by decide +kernel
theorem d_Tally_leastEasy_6 : decode prog_9_method_6_code 6 = .ok (.iload_n 3, 1) := by decide +kernel
theorem d_Tally_leastEasy_7 : decode prog_9_method_6_code 7 = .ok (.iload_n 1, 1) := by decide +kernel
theorem d_Tally_leastEasy_8 : decode prog_9_method_6_code 8 = .ok (.if_icmp .ge (20), 3) := by decide +kernel
theorem d_Tally_leastEasy_11 : decode prog_9_method_6_code 11 = .ok (.iload_n 2, 1) := by decide +kernel
theorem d_Tally_leastEasy_12 : decode prog_9_method_6_code 12 = .ok (.aload_n 0, 1) := by decide +kernel
theorem d_Tally_leastEasy_13 : decode prog_9_method_6_code 13 = .ok (.getfield 9, 3) := by decide +kernel
theorem d_Tally_leastEasy_16 : decode prog_9_method_6_code 16 = .ok (.iload_n 3, 1) := by decide +kernel
theorem d_Tally_leastEasy_17 : decode prog_9_method_6_code 17 = .ok (.iaload, 1) := by decide +kernel
theorem d_Tally_leastEasy_18 : decode prog_9_method_6_code 18 = .ok (.invokestatic 40, 3) := by decide +kernel
theorem d_Tally_leastEasy_21 : decode prog_9_method_6_code 21 = .ok (.istore_n 2, 1) := by decide +kernel
theorem d_Tally_leastEasy_22 : decode prog_9_method_6_code 22 = .ok (.iinc 3 (1), 3) := by decide +kernel
theorem d_Tally_leastEasy_25 : decode prog_9_method_6_code 25 = .ok (.goto (-19), 3) := by decide +kernel
theorem d_Tally_leastEasy_28 : decode prog_9_method_6_code 28 = .ok (.iload_n 2, 1) := by decide +kernel
theorem d_Tally_leastEasy_29 : decode prog_9_method_6_code 29 = .ok (.ireturn, 1) := by decide +kernel
set_option maxHeartbeats 4000000 in
set_option maxRecDepth 100000 in
theorem zf_Tally_leastEasy_L6 {G : zz_G} {l : Launch} {Z : zz_Z} {q : Int32} {s : zz_S} (C : zz_Cx G l "OneBlanket$Tally" "leastEasy" prog_9_method_6_code 4 (some .int) 2 (some (.int q), zsh, s) Z) : ∀ (n : Nat) (v1 : Int32) (v2 : Int32) (v3 : Int32), f_Tally_leastEasy_L6 s n v1 v2 v3 = some q → Z 6 [some (.ref 21), some (.int v1), some (.int v2), some (.int v3)] [] zsh s := by
  intro n
  induction n with
  | zero => intro v1 v2 v3 h; rw [f_Tally_leastEasy_L6] at h; cases h
  | succ n ih =>
  intro v1 v2 v3 h
  rw [f_Tally_leastEasy_L6] at h
  refine zz_iload_n (i := 3) (pc := 6) C rfl rfl d_Tally_leastEasy_6 ?_
  refine zz_iload_n (i := 1) (pc := 7) C rfl rfl d_Tally_leastEasy_7 ?_
  refine zz_icmp_ge (tgt := 28) (pc := 8) C (by decide) d_Tally_leastEasy_8 (fun hc1 => ?_) (fun hc1 => ?_)
  · rw [if_pos hc1] at h
    refine zz_iload_n (i := 2) (pc := 28) C rfl rfl d_Tally_leastEasy_28 ?_
    replace h := Option.some.inj h
    subst h
    exact zz_ret (pc := 29) C (v := some (.int v2)) d_Tally_leastEasy_29 (Or.inl ⟨_, _, rfl, rfl, rfl, rfl⟩) rfl
  · rw [if_neg hc1] at h
    refine zz_iload_n (i := 2) (pc := 11) C rfl rfl d_Tally_leastEasy_11 ?_
    refine zz_aload_n (i := 0) (pc := 12) C rfl rfl d_Tally_leastEasy_12 ?_
    refine zz_getR (pc := 13) C zl_7_9 zsh_21 rfl d_Tally_leastEasy_13 ?_
    refine zz_iload_n (i := 3) (pc := 16) C rfl rfl d_Tally_leastEasy_16 ?_
    obtain ⟨hi2, h⟩ := zz_ckE h
    refine zz_iald (pc := 17) C rfl zsh_22 hi2 d_Tally_leastEasy_17 ?_
    refine zz_mmin (st := []) (pc := 18) C zl_7_40 (by omega) (Nat.le_of_ble_eq_true rfl) d_Tally_leastEasy_18 rfl ?_
    refine zz_istore_n (i := 2) (lo' := [some (.ref 21), some (.int v1), some (.int (zz_min v2 (s.1 22 (v3.toNatClampNeg)))), some (.int v3)]) (pc := 21) C rfl (Nat.le_of_ble_eq_true rfl) rfl rfl d_Tally_leastEasy_21 ?_
    refine zz_iinc (lo' := [some (.ref 21), some (.int v1), some (.int (zz_min v2 (s.1 22 (v3.toNatClampNeg)))), some (.int (v3 + (1 : Int32)))]) (pc := 22) C rfl (zz_inc zki_1) rfl rfl d_Tally_leastEasy_22 ?_
    refine zz_goto (tgt := 6) (pc := 25) C (by decide) d_Tally_leastEasy_25 ?_
    exact ih v1 (zz_min v2 (s.1 22 (v3.toNatClampNeg))) (v3 + (1 : Int32)) h
set_option maxHeartbeats 4000000 in
set_option maxRecDepth 100000 in
theorem zf_Tally_leastEasy {G : zz_G} {l : Launch} {Z : zz_Z} {q : Int32} {s : zz_S} (C : zz_Cx G l "OneBlanket$Tally" "leastEasy" prog_9_method_6_code 4 (some .int) 2 (some (.int q), zsh, s) Z) (a1 : Int32) (h : f_Tally_leastEasy a1 s = some q) : Z 0 [some (.ref 21), some (.int a1), none, none] [] zsh s := by
  unfold f_Tally_leastEasy at h
  refine zz_sipush (pc := 0) C zks_480 d_Tally_leastEasy_0 ?_
  refine zz_istore_n (i := 2) (lo' := [some (.ref 21), some (.int a1), some (.int (480 : Int32)), none]) (pc := 3) C rfl (Nat.le_of_ble_eq_true rfl) rfl rfl d_Tally_leastEasy_3 ?_
  refine zz_iconst (pc := 4) C zki_0 d_Tally_leastEasy_4 ?_
  refine zz_istore_n (i := 3) (lo' := [some (.ref 21), some (.int a1), some (.int (480 : Int32)), some (.int (0 : Int32))]) (pc := 5) C rfl (Nat.le_of_ble_eq_true rfl) rfl rfl d_Tally_leastEasy_5 ?_
  exact zf_Tally_leastEasy_L6 C zF a1 (480 : Int32) (0 : Int32) h
theorem zm_Tally_leastEasy {G : zz_G} {l : Launch} {s : zz_S} {q : Int32} {a1 : Int32} (h : f_Tally_leastEasy a1 s = some q) : zz_M G l 2 y_Tally_leastEasy prog_9_method_6_code 4 (some .int) [.ref 21, .int a1] zsh s (some (.int q), zsh, s) :=
  zz_M.intro (by decide) (Nat.le_of_ble_eq_true rfl) (Nat.le_refl _) (Nat.le_refl _) (fun Z C => zf_Tally_leastEasy C a1 h)
theorem d_Tape_add_0 : decode prog_10_method_2_code 0 = .ok (.aload_n 0, 1) := by decide +kernel
theorem d_Tape_add_1 : decode prog_10_method_2_code 1 = .ok (.getfield 22, 3) := by decide +kernel
theorem d_Tape_add_4 : decode prog_10_method_2_code 4 = .ok (.bipush (120), 2) := by decide +kernel
theorem d_Tape_add_6 : decode prog_10_method_2_code 6 = .ok (.if_icmp .ge (23), 3) := by decide +kernel
theorem d_Tape_add_9 : decode prog_10_method_2_code 9 = .ok (.aload_n 0, 1) := by decide +kernel
theorem d_Tape_add_10 : decode prog_10_method_2_code 10 = .ok (.getfield 18, 3) := by decide +kernel
theorem d_Tape_add_13 : decode prog_10_method_2_code 13 = .ok (.aload_n 0, 1) := by decide +kernel
theorem d_Tape_add_14 : decode prog_10_method_2_code 14 = .ok (.getfield 22, 3) := by decide +kernel
theorem d_Tape_add_17 : decode prog_10_method_2_code 17 = .ok (.iload_n 1, 1) := by decide +kernel
theorem d_Tape_add_18 : decode prog_10_method_2_code 18 = .ok (.iastore, 1) := by decide +kernel
theorem d_Tape_add_19 : decode prog_10_method_2_code 19 = .ok (.aload_n 0, 1) := by decide +kernel
theorem d_Tape_add_20 : decode prog_10_method_2_code 20 = .ok (.dup, 1) := by decide +kernel
theorem d_Tape_add_21 : decode prog_10_method_2_code 21 = .ok (.getfield 22, 3) := by decide +kernel
theorem d_Tape_add_24 : decode prog_10_method_2_code 24 = .ok (.iconst 1, 1) := by decide +kernel
theorem d_Tape_add_25 : decode prog_10_method_2_code 25 = .ok (.iadd, 1) := by decide +kernel
theorem d_Tape_add_26 : decode prog_10_method_2_code 26 = .ok (.putfield 22, 3) := by decide +kernel
theorem d_Tape_add_29 : decode prog_10_method_2_code 29 = .ok (.return_, 1) := by decide +kernel
set_option maxHeartbeats 4000000 in
set_option maxRecDepth 100000 in
theorem zf_Tape_add {G : zz_G} {l : Launch} {Z : zz_Z} {q : zz_S} {s : zz_S} (C : zz_Cx G l "OneBlanket$Tape" "add" prog_10_method_2_code 2 (none) 2 (none, zsh, q) Z) (a1 : Int32) (h : f_Tape_add a1 s = some q) : Z 0 [some (.ref 44), some (.int a1)] [] zsh s := by
  unfold f_Tape_add at h
  refine zz_aload_n (i := 0) (pc := 0) C rfl rfl d_Tape_add_0 ?_
  refine zz_getI (pc := 1) C zl_8_22 zsh_44 rfl d_Tape_add_1 ?_
  refine zz_bipush (pc := 4) C zkb_120 d_Tape_add_4 ?_
  refine zz_icmp_ge (tgt := 29) (pc := 6) C (by decide) d_Tape_add_6 (fun hc1 => ?_) (fun hc1 => ?_)
  · rw [if_pos hc1] at h
    replace h := Option.some.inj h
    subst h
    exact zz_ret (pc := 29) C (v := none) d_Tape_add_29 (Or.inr (Or.inr (Or.inr ⟨rfl, rfl, rfl⟩))) rfl
  · rw [if_neg hc1] at h
    refine zz_aload_n (i := 0) (pc := 9) C rfl rfl d_Tape_add_9 ?_
    refine zz_getR (pc := 10) C zl_8_18 zsh_44 rfl d_Tape_add_10 ?_
    refine zz_aload_n (i := 0) (pc := 13) C rfl rfl d_Tape_add_13 ?_
    refine zz_getI (pc := 14) C zl_8_22 zsh_44 rfl d_Tape_add_14 ?_
    refine zz_iload_n (i := 1) (pc := 17) C rfl rfl d_Tape_add_17 ?_
    obtain ⟨hi2, h⟩ := zz_ckE h
    refine zz_iast (pc := 18) C rfl zsh_48 hi2 d_Tape_add_18 ?_
    refine zz_aload_n (i := 0) (pc := 19) C rfl rfl d_Tape_add_19 ?_
    refine zz_dup (pc := 20) C rfl d_Tape_add_20 ?_
    refine zz_getIv (v := (s.1 44 0)) (pc := 21) C zl_8_22 zsh_44 rfl rfl d_Tape_add_21 ?_
    refine zz_iconst (pc := 24) C zki_1 d_Tape_add_24 ?_
    refine zz_iadd (pc := 25) C d_Tape_add_25 ?_
    refine zz_putI' (pc := 26) C zl_8_22 zpf_8_0 zsh_44 rfl d_Tape_add_26 ?_
    replace h := Option.some.inj h
    subst h
    exact zz_ret (pc := 29) C (v := none) d_Tape_add_29 (Or.inr (Or.inr (Or.inr ⟨rfl, rfl, rfl⟩))) rfl
theorem zm_Tape_add {G : zz_G} {l : Launch} {s : zz_S} {q : zz_S} {a1 : Int32} (h : f_Tape_add a1 s = some q) : zz_M G l 2 y_Tape_add prog_10_method_2_code 2 (none) [.ref 44, .int a1] zsh s (none, zsh, q) :=
  zz_M.intro (by decide) (Nat.le_of_ble_eq_true rfl) (Nat.le_refl _) (Nat.le_refl _) (fun Z C => zf_Tape_add C a1 h)
theorem d_Tape_fail_0 : decode prog_10_method_14_code 0 = .ok (.aload_n 0, 1) := by decide +kernel
theorem d_Tape_fail_1 : decode prog_10_method_14_code 1 = .ok (.getfield 29, 3) := by decide +kernel
theorem d_Tape_fail_4 : decode prog_10_method_14_code 4 = .ok (.iconst (-1), 1) := by decide +kernel
theorem d_Tape_fail_5 : decode prog_10_method_14_code 5 = .ok (.if_icmp .ne (11), 3) := by decide +kernel
theorem d_Tape_fail_8 : decode prog_10_method_14_code 8 = .ok (.aload_n 0, 1) := by decide +kernel
theorem d_Tape_fail_9 : decode prog_10_method_14_code 9 = .ok (.aload_n 0, 1) := by decide +kernel
theorem d_Tape_fail_10 : decode prog_10_method_14_code 10 = .ok (.getfield 26, 3) := by decide +kernel
theorem d_Tape_fail_13 : decode prog_10_method_14_code 13 = .ok (.putfield 29, 3) := by decide +kernel
theorem d_Tape_fail_16 : decode prog_10_method_14_code 16 = .ok (.return_, 1) := by decide +kernel
set_option maxHeartbeats 4000000 in
set_option maxRecDepth 100000 in
theorem zf_Tape_fail {G : zz_G} {l : Launch} {Z : zz_Z} {q : zz_S} {s : zz_S} (C : zz_Cx G l "OneBlanket$Tape" "fail" prog_10_method_14_code 1 (none) 2 (none, zsh, q) Z) (h : f_Tape_fail s = q) : Z 0 [some (.ref 44)] [] zsh s := by
  unfold f_Tape_fail at h
  refine zz_aload_n (i := 0) (pc := 0) C rfl rfl d_Tape_fail_0 ?_
  refine zz_getI (pc := 1) C zl_8_29 zsh_44 rfl d_Tape_fail_1 ?_
  refine zz_iconst (pc := 4) C zki_m1 d_Tape_fail_4 ?_
  refine zz_icmp_ne (tgt := 16) (pc := 5) C (by decide) d_Tape_fail_5 (fun hc1 => ?_) (fun hc1 => ?_)
  · rw [if_neg hc1] at h
    subst h
    exact zz_ret (pc := 16) C (v := none) d_Tape_fail_16 (Or.inr (Or.inr (Or.inr ⟨rfl, rfl, rfl⟩))) rfl
  · rw [if_pos hc1] at h
    refine zz_aload_n (i := 0) (pc := 8) C rfl rfl d_Tape_fail_8 ?_
    refine zz_aload_n (i := 0) (pc := 9) C rfl rfl d_Tape_fail_9 ?_
    refine zz_getI (pc := 10) C zl_8_26 zsh_44 rfl d_Tape_fail_10 ?_
    refine zz_putI' (pc := 13) C zl_8_29 zpf_8_4 zsh_44 rfl d_Tape_fail_13 ?_
    subst h
    exact zz_ret (pc := 16) C (v := none) d_Tape_fail_16 (Or.inr (Or.inr (Or.inr ⟨rfl, rfl, rfl⟩))) rfl
theorem zm_Tape_fail {G : zz_G} {l : Launch} {s : zz_S} {q : zz_S} (h : f_Tape_fail s = q) : zz_M G l 2 y_Tape_fail prog_10_method_14_code 1 (none) [.ref 44] zsh s (none, zsh, q) :=
  zz_M.intro (by decide) (Nat.le_of_ble_eq_true rfl) (Nat.le_refl _) (Nat.le_refl _) (fun Z C => zf_Tape_fail C h)
theorem d_Tape_isDigit_0 : decode prog_10_method_9_code 0 = .ok (.iload_n 0, 1) := by decide +kernel
theorem d_Tape_isDigit_1 : decode prog_10_method_9_code 1 = .ok (.bipush (48), 2) := by decide +kernel
theorem d_Tape_isDigit_3 : decode prog_10_method_9_code 3 = .ok (.if_icmp .lt (13), 3) := by decide +kernel
theorem d_Tape_isDigit_6 : decode prog_10_method_9_code 6 = .ok (.iload_n 0, 1) := by decide +kernel
theorem d_Tape_isDigit_7 : decode prog_10_method_9_code 7 = .ok (.bipush (57), 2) := by decide +kernel
theorem d_Tape_isDigit_9 : decode prog_10_method_9_code 9 = .ok (.if_icmp .gt (7), 3) := by decide +kernel
theorem d_Tape_isDigit_12 : decode prog_10_method_9_code 12 = .ok (.iconst 1, 1) := by decide +kernel
theorem d_Tape_isDigit_13 : decode prog_10_method_9_code 13 = .ok (.goto (4), 3) := by decide +kernel
theorem d_Tape_isDigit_16 : decode prog_10_method_9_code 16 = .ok (.iconst 0, 1) := by decide +kernel
theorem d_Tape_isDigit_17 : decode prog_10_method_9_code 17 = .ok (.ireturn, 1) := by decide +kernel
set_option maxHeartbeats 4000000 in
set_option maxRecDepth 100000 in
theorem zf_Tape_isDigit {G : zz_G} {l : Launch} {Z : zz_Z} {sh : List zz_Sh} {q : Int32} {s : zz_S} (C : zz_Cx G l "OneBlanket$Tape" "isDigit" prog_10_method_9_code 1 (some .boolean) 2 (some (.int q), sh, s) Z) (a0 : Int32) (h : f_Tape_isDigit a0 = q) : Z 0 [some (.int a0)] [] sh s := by
  unfold f_Tape_isDigit at h
  refine zz_iload_n (i := 0) (pc := 0) C rfl rfl d_Tape_isDigit_0 ?_
  refine zz_bipush (pc := 1) C zkb_48 d_Tape_isDigit_1 ?_
  refine zz_icmp_lt (tgt := 16) (pc := 3) C (by decide) d_Tape_isDigit_3 (fun hc1 => ?_) (fun hc1 => ?_)
  · rw [if_pos hc1] at h
    refine zz_iconst (pc := 16) C zki_0 d_Tape_isDigit_16 ?_
    subst h
    exact zz_ret (pc := 17) C (v := some (.int (0 : Int32))) d_Tape_isDigit_17 (Or.inl ⟨_, _, rfl, rfl, rfl, (by decide)⟩) rfl
  · rw [if_neg hc1] at h
    refine zz_iload_n (i := 0) (pc := 6) C rfl rfl d_Tape_isDigit_6 ?_
    refine zz_bipush (pc := 7) C zkb_57 d_Tape_isDigit_7 ?_
    refine zz_icmp_gt (tgt := 16) (pc := 9) C (by decide) d_Tape_isDigit_9 (fun hc2 => ?_) (fun hc2 => ?_)
    · rw [if_pos hc2] at h
      refine zz_iconst (pc := 16) C zki_0 d_Tape_isDigit_16 ?_
      subst h
      exact zz_ret (pc := 17) C (v := some (.int (0 : Int32))) d_Tape_isDigit_17 (Or.inl ⟨_, _, rfl, rfl, rfl, (by decide)⟩) rfl
    · rw [if_neg hc2] at h
      refine zz_iconst (pc := 12) C zki_1 d_Tape_isDigit_12 ?_
      refine zz_goto (tgt := 17) (pc := 13) C (by decide) d_Tape_isDigit_13 ?_
      subst h
      exact zz_ret (pc := 17) C (v := some (.int (1 : Int32))) d_Tape_isDigit_17 (Or.inl ⟨_, _, rfl, rfl, rfl, (by decide)⟩) rfl
theorem zm_Tape_isDigit {G : zz_G} {l : Launch} {sh : List zz_Sh} {s : zz_S} {q : Int32} {a0 : Int32} (h : f_Tape_isDigit a0 = q) : zz_M G l 2 y_Tape_isDigit prog_10_method_9_code 1 (some .boolean) [.int a0] sh s (some (.int q), sh, s) :=
  zz_M.intro (by decide) (Nat.le_of_ble_eq_true rfl) (Nat.le_refl _) (Nat.le_refl _) (fun Z C => zf_Tape_isDigit C a0 h)
theorem d_Tape_peek_0 : decode prog_10_method_11_code 0 = .ok (.aload_n 0, 1) := by decide +kernel
theorem d_Tape_peek_1 : decode prog_10_method_11_code 1 = .ok (.getfield 29, 3) := by decide +kernel
theorem d_Tape_peek_4 : decode prog_10_method_11_code 4 = .ok (.iconst (-1), 1) := by decide +kernel
theorem d_Tape_peek_5 : decode prog_10_method_11_code 5 = .ok (.if_icmp .ne (26), 3) := by decide +kernel
theorem d_Tape_peek_8 : decode prog_10_method_11_code 8 = .ok (.aload_n 0, 1) := by decide +kernel
theorem d_Tape_peek_9 : decode prog_10_method_11_code 9 = .ok (.getfield 26, 3) := by decide +kernel
theorem d_Tape_peek_12 : decode prog_10_method_11_code 12 = .ok (.aload_n 0, 1) := by decide +kernel
theorem d_Tape_peek_13 : decode prog_10_method_11_code 13 = .ok (.getfield 22, 3) := by decide +kernel
theorem d_Tape_peek_16 : decode prog_10_method_11_code 16 = .ok (.if_icmp .ge (15), 3) := by decide +kernel
theorem d_Tape_peek_19 : decode prog_10_method_11_code 19 = .ok (.aload_n 0, 1) := by decide +kernel
theorem d_Tape_peek_20 : decode prog_10_method_11_code 20 = .ok (.getfield 18, 3) := by decide +kernel
theorem d_Tape_peek_23 : decode prog_10_method_11_code 23 = .ok (.aload_n 0, 1) := by decide +kernel
theorem d_Tape_peek_24 : decode prog_10_method_11_code 24 = .ok (.getfield 26, 3) := by decide +kernel
theorem d_Tape_peek_27 : decode prog_10_method_11_code 27 = .ok (.iaload, 1) := by decide +kernel
theorem d_Tape_peek_28 : decode prog_10_method_11_code 28 = .ok (.goto (4), 3) := by decide +kernel
theorem d_Tape_peek_31 : decode prog_10_method_11_code 31 = .ok (.iconst (-1), 1) := by decide +kernel
theorem d_Tape_peek_32 : decode prog_10_method_11_code 32 = .ok (.ireturn, 1) := by decide +kernel
set_option maxHeartbeats 4000000 in
set_option maxRecDepth 100000 in
theorem zf_Tape_peek {G : zz_G} {l : Launch} {Z : zz_Z} {q : Int32} {s : zz_S} (C : zz_Cx G l "OneBlanket$Tape" "peek" prog_10_method_11_code 1 (some .int) 2 (some (.int q), zsh, s) Z) (h : f_Tape_peek s = some q) : Z 0 [some (.ref 44)] [] zsh s := by
  unfold f_Tape_peek at h
  refine zz_aload_n (i := 0) (pc := 0) C rfl rfl d_Tape_peek_0 ?_
  refine zz_getI (pc := 1) C zl_8_29 zsh_44 rfl d_Tape_peek_1 ?_
  refine zz_iconst (pc := 4) C zki_m1 d_Tape_peek_4 ?_
  refine zz_icmp_ne (tgt := 31) (pc := 5) C (by decide) d_Tape_peek_5 (fun hc1 => ?_) (fun hc1 => ?_)
  · rw [if_neg hc1] at h
    refine zz_iconst (pc := 31) C zki_m1 d_Tape_peek_31 ?_
    replace h := Option.some.inj h
    subst h
    exact zz_ret (pc := 32) C (v := some (.int (-1 : Int32))) d_Tape_peek_32 (Or.inl ⟨_, _, rfl, rfl, rfl, rfl⟩) rfl
  · rw [if_pos hc1] at h
    refine zz_aload_n (i := 0) (pc := 8) C rfl rfl d_Tape_peek_8 ?_
    refine zz_getI (pc := 9) C zl_8_26 zsh_44 rfl d_Tape_peek_9 ?_
    refine zz_aload_n (i := 0) (pc := 12) C rfl rfl d_Tape_peek_12 ?_
    refine zz_getI (pc := 13) C zl_8_22 zsh_44 rfl d_Tape_peek_13 ?_
    refine zz_icmp_ge (tgt := 31) (pc := 16) C (by decide) d_Tape_peek_16 (fun hc2 => ?_) (fun hc2 => ?_)
    · rw [if_pos hc2] at h
      refine zz_iconst (pc := 31) C zki_m1 d_Tape_peek_31 ?_
      replace h := Option.some.inj h
      subst h
      exact zz_ret (pc := 32) C (v := some (.int (-1 : Int32))) d_Tape_peek_32 (Or.inl ⟨_, _, rfl, rfl, rfl, rfl⟩) rfl
    · rw [if_neg hc2] at h
      refine zz_aload_n (i := 0) (pc := 19) C rfl rfl d_Tape_peek_19 ?_
      refine zz_getR (pc := 20) C zl_8_18 zsh_44 rfl d_Tape_peek_20 ?_
      refine zz_aload_n (i := 0) (pc := 23) C rfl rfl d_Tape_peek_23 ?_
      refine zz_getI (pc := 24) C zl_8_26 zsh_44 rfl d_Tape_peek_24 ?_
      obtain ⟨hi3, h⟩ := zz_ckE h
      refine zz_iald (pc := 27) C rfl zsh_48 hi3 d_Tape_peek_27 ?_
      refine zz_goto (tgt := 32) (pc := 28) C (by decide) d_Tape_peek_28 ?_
      replace h := Option.some.inj h
      subst h
      exact zz_ret (pc := 32) C (v := some (.int (s.1 48 ((s.1 44 3).toNatClampNeg)))) d_Tape_peek_32 (Or.inl ⟨_, _, rfl, rfl, rfl, rfl⟩) rfl
theorem zm_Tape_peek {G : zz_G} {l : Launch} {s : zz_S} {q : Int32} (h : f_Tape_peek s = some q) : zz_M G l 2 y_Tape_peek prog_10_method_11_code 1 (some .int) [.ref 44] zsh s (some (.int q), zsh, s) :=
  zz_M.intro (by decide) (Nat.le_of_ble_eq_true rfl) (Nat.le_refl _) (Nat.le_refl _) (fun Z C => zf_Tape_peek C h)
theorem d_Str_isLatin1_0 : decode prog_18_method_154_code 0 = .ok (.getstatic 38, 3) := by decide +kernel
theorem d_Str_isLatin1_3 : decode prog_18_method_154_code 3 = .ok (.ifCond .eq (14), 3) := by decide +kernel
theorem d_Str_isLatin1_6 : decode prog_18_method_154_code 6 = .ok (.aload_n 0, 1) := by decide +kernel
theorem d_Str_isLatin1_7 : decode prog_18_method_154_code 7 = .ok (.getfield 15, 3) := by decide +kernel
theorem d_Str_isLatin1_10 : decode prog_18_method_154_code 10 = .ok (.ifCond .ne (7), 3) := by decide +kernel
theorem d_Str_isLatin1_13 : decode prog_18_method_154_code 13 = .ok (.iconst 1, 1) := by decide +kernel
theorem d_Str_isLatin1_14 : decode prog_18_method_154_code 14 = .ok (.goto (4), 3) := by decide +kernel
theorem d_Str_isLatin1_18 : decode prog_18_method_154_code 18 = .ok (.ireturn, 1) := by decide +kernel
set_option maxHeartbeats 4000000 in
set_option maxRecDepth 100000 in
theorem zf_Str_isLatin1 {G : zz_G} {l : Launch} {Z : zz_Z} {sh : List zz_Sh} {q : Int32} {s : zz_S} (C : zz_Cx G l "java/lang/String" "isLatin1" prog_18_method_154_code 1 (some .boolean) 2 (some (.int q), sh, s) Z) (a0 : Nat) (ha0 : a0 < 6) (h : f_Str_isLatin1 a0 = q) : Z 0 [some (.ref (1300 + a0))] [] sh s := by
  unfold f_Str_isLatin1 at h
  refine zz_cmp (pc := 0) C zl_Str_38 d_Str_isLatin1_0 ?_
  refine zz_if_eq (tgt := 17) (pc := 3) C (by decide) d_Str_isLatin1_3 (fun hc => absurd (show (1 : Int32) = 0 from hc) (by decide)) (fun _ => ?_)
  refine zz_aload_n (i := 0) (pc := 6) C rfl rfl d_Str_isLatin1_6 ?_
  refine zz_strC (pc := 7) C ha0 zl_Str_15 d_Str_isLatin1_7 ?_
  refine zz_if_ne (tgt := 17) (pc := 10) C (by decide) d_Str_isLatin1_10 (fun hc => absurd (show ¬ (0 : Int32) = 0 from hc) (by decide)) (fun _ => ?_)
  refine zz_iconst (pc := 13) C zki_1 d_Str_isLatin1_13 ?_
  refine zz_goto (tgt := 18) (pc := 14) C (by decide) d_Str_isLatin1_14 ?_
  subst h
  exact zz_ret (pc := 18) C (v := some (.int (1 : Int32))) d_Str_isLatin1_18 (Or.inl ⟨_, _, rfl, rfl, rfl, (by decide)⟩) rfl
theorem zm_Str_isLatin1 {G : zz_G} {l : Launch} {sh : List zz_Sh} {s : zz_S} {q : Int32} {a0 : Nat} (ha0 : a0 < 6) (h : f_Str_isLatin1 a0 = q) : zz_M G l 2 y_Str_isLatin1 prog_18_method_154_code 1 (some .boolean) [.ref (1300 + a0)] sh s (some (.int q), sh, s) :=
  zz_M.intro (by decide) (Nat.le_of_ble_eq_true rfl) (Nat.le_refl _) (Nat.le_refl _) (fun Z C => zf_Str_isLatin1 C a0 ha0 h)
theorem d_Str_coder_0 : decode prog_18_method_152_code 0 = .ok (.getstatic 38, 3) := by decide +kernel
theorem d_Str_coder_3 : decode prog_18_method_152_code 3 = .ok (.ifCond .eq (10), 3) := by decide +kernel
theorem d_Str_coder_6 : decode prog_18_method_152_code 6 = .ok (.aload_n 0, 1) := by decide +kernel
theorem d_Str_coder_7 : decode prog_18_method_152_code 7 = .ok (.getfield 15, 3) := by decide +kernel
theorem d_Str_coder_10 : decode prog_18_method_152_code 10 = .ok (.goto (4), 3) := by decide +kernel
theorem d_Str_coder_14 : decode prog_18_method_152_code 14 = .ok (.ireturn, 1) := by decide +kernel
set_option maxHeartbeats 4000000 in
set_option maxRecDepth 100000 in
theorem zf_Str_coder {G : zz_G} {l : Launch} {Z : zz_Z} {sh : List zz_Sh} {q : Int32} {s : zz_S} (C : zz_Cx G l "java/lang/String" "coder" prog_18_method_152_code 1 (some .byte) 2 (some (.int q), sh, s) Z) (a0 : Nat) (ha0 : a0 < 6) (h : f_Str_coder a0 = q) : Z 0 [some (.ref (1300 + a0))] [] sh s := by
  unfold f_Str_coder at h
  refine zz_cmp (pc := 0) C zl_Str_38 d_Str_coder_0 ?_
  refine zz_if_eq (tgt := 13) (pc := 3) C (by decide) d_Str_coder_3 (fun hc => absurd (show (1 : Int32) = 0 from hc) (by decide)) (fun _ => ?_)
  refine zz_aload_n (i := 0) (pc := 6) C rfl rfl d_Str_coder_6 ?_
  refine zz_strC (pc := 7) C ha0 zl_Str_15 d_Str_coder_7 ?_
  refine zz_goto (tgt := 14) (pc := 10) C (by decide) d_Str_coder_10 ?_
  subst h
  exact zz_ret (pc := 14) C (v := some (.int (0 : Int32))) d_Str_coder_14 (Or.inl ⟨_, _, rfl, rfl, rfl, (by decide)⟩) rfl
theorem zm_Str_coder {G : zz_G} {l : Launch} {sh : List zz_Sh} {s : zz_S} {q : Int32} {a0 : Nat} (ha0 : a0 < 6) (h : f_Str_coder a0 = q) : zz_M G l 2 y_Str_coder prog_18_method_152_code 1 (some .byte) [.ref (1300 + a0)] sh s (some (.int q), sh, s) :=
  zz_M.intro (by decide) (Nat.le_of_ble_eq_true rfl) (Nat.le_refl _) (Nat.le_refl _) (fun Z C => zf_Str_coder C a0 ha0 h)
theorem d_Str_length_0 : decode prog_18_method_54_code 0 = .ok (.aload_n 0, 1) := by decide +kernel
theorem d_Str_length_1 : decode prog_18_method_54_code 1 = .ok (.getfield 9, 3) := by decide +kernel
theorem d_Str_length_4 : decode prog_18_method_54_code 4 = .ok (.arraylength, 1) := by decide +kernel
theorem d_Str_length_5 : decode prog_18_method_54_code 5 = .ok (.aload_n 0, 1) := by decide +kernel
theorem d_Str_length_6 : decode prog_18_method_54_code 6 = .ok (.invokevirtual 335, 3) := by decide +kernel
theorem d_Str_length_9 : decode prog_18_method_54_code 9 = .ok (.ishr, 1) := by decide +kernel
theorem d_Str_length_10 : decode prog_18_method_54_code 10 = .ok (.ireturn, 1) := by decide +kernel
set_option maxHeartbeats 4000000 in
set_option maxRecDepth 100000 in
theorem zf_Str_length {G : zz_G} {l : Launch} {Z : zz_Z} {sh : List zz_Sh} {q : Int32} {s : zz_S} (C : zz_Cx G l "java/lang/String" "length" prog_18_method_54_code 1 (some .int) 3 (some (.int q), sh, s) Z) (a0 : Nat) (ha0 : a0 < 6) (h : f_Str_length a0 = q) : Z 0 [some (.ref (1300 + a0))] [] sh s := by
  unfold f_Str_length at h
  refine zz_aload_n (i := 0) (pc := 0) C rfl rfl d_Str_length_0 ?_
  refine zz_strV (pc := 1) C ha0 zl_Str_9 d_Str_length_1 ?_
  refine zz_strL (pc := 4) C ha0 d_Str_length_4 ?_
  refine zz_aload_n (i := 0) (pc := 5) C rfl rfl d_Str_length_5 ?_
  refine zz_cXi (as := []) (st := [.int (Int32.ofNat (zz_sln.getD a0 0))]) (pc := 6) C (zm_Str_coder ha0 rfl) zcv_Str_coder ha0 zl_Str_335 (by omega) (Nat.le_of_ble_eq_true rfl) d_Str_length_6 rfl rfl ?_
  refine zz_ishr (pc := 9) C d_Str_length_9 ?_
  subst h
  exact zz_ret (pc := 10) C (v := some (.int ((Int32.ofNat (zz_sln.getD a0 0)) >>> ((0 : Int32) &&& 31)))) d_Str_length_10 (Or.inl ⟨_, _, rfl, rfl, rfl, rfl⟩) rfl
theorem zm_Str_length {G : zz_G} {l : Launch} {sh : List zz_Sh} {s : zz_S} {q : Int32} {a0 : Nat} (ha0 : a0 < 6) (h : f_Str_length a0 = q) : zz_M G l 3 y_Str_length prog_18_method_54_code 1 (some .int) [.ref (1300 + a0)] sh s (some (.int q), sh, s) :=
  zz_M.intro (by decide) (Nat.le_of_ble_eq_true rfl) (Nat.le_refl _) (Nat.le_refl _) (fun Z C => zf_Str_length C a0 ha0 h)
theorem d_Lat_canEncode_0 : decode prog_19_method_4_code 0 = .ok (.iload_n 0, 1) := by decide +kernel
theorem d_Lat_canEncode_1 : decode prog_19_method_4_code 1 = .ok (.ifCond .lt (14), 3) := by decide +kernel
theorem d_Lat_canEncode_4 : decode prog_19_method_4_code 4 = .ok (.iload_n 0, 1) := by decide +kernel
theorem d_Lat_canEncode_5 : decode prog_19_method_4_code 5 = .ok (.sipush (255), 3) := by decide +kernel
theorem d_Lat_canEncode_8 : decode prog_19_method_4_code 8 = .ok (.if_icmp .gt (7), 3) := by decide +kernel
theorem d_Lat_canEncode_11 : decode prog_19_method_4_code 11 = .ok (.iconst 1, 1) := by decide +kernel
theorem d_Lat_canEncode_12 : decode prog_19_method_4_code 12 = .ok (.goto (4), 3) := by decide +kernel
theorem d_Lat_canEncode_15 : decode prog_19_method_4_code 15 = .ok (.iconst 0, 1) := by decide +kernel
theorem d_Lat_canEncode_16 : decode prog_19_method_4_code 16 = .ok (.ireturn, 1) := by decide +kernel
set_option maxHeartbeats 4000000 in
set_option maxRecDepth 100000 in
theorem zf_Lat_canEncode {G : zz_G} {l : Launch} {Z : zz_Z} {sh : List zz_Sh} {q : Int32} {s : zz_S} (C : zz_Cx G l "java/lang/StringLatin1" "canEncode" prog_19_method_4_code 1 (some .boolean) 2 (some (.int q), sh, s) Z) (a0 : Int32) (h : f_Lat_canEncode a0 = q) : Z 0 [some (.int a0)] [] sh s := by
  unfold f_Lat_canEncode at h
  refine zz_iload_n (i := 0) (pc := 0) C rfl rfl d_Lat_canEncode_0 ?_
  refine zz_if_lt (tgt := 15) (pc := 1) C (by decide) d_Lat_canEncode_1 (fun hc1 => ?_) (fun hc1 => ?_)
  · rw [if_pos hc1] at h
    refine zz_iconst (pc := 15) C zki_0 d_Lat_canEncode_15 ?_
    subst h
    exact zz_ret (pc := 16) C (v := some (.int (0 : Int32))) d_Lat_canEncode_16 (Or.inl ⟨_, _, rfl, rfl, rfl, (by decide)⟩) rfl
  · rw [if_neg hc1] at h
    refine zz_iload_n (i := 0) (pc := 4) C rfl rfl d_Lat_canEncode_4 ?_
    refine zz_sipush (pc := 5) C zks_255 d_Lat_canEncode_5 ?_
    refine zz_icmp_gt (tgt := 15) (pc := 8) C (by decide) d_Lat_canEncode_8 (fun hc2 => ?_) (fun hc2 => ?_)
    · rw [if_pos hc2] at h
      refine zz_iconst (pc := 15) C zki_0 d_Lat_canEncode_15 ?_
      subst h
      exact zz_ret (pc := 16) C (v := some (.int (0 : Int32))) d_Lat_canEncode_16 (Or.inl ⟨_, _, rfl, rfl, rfl, (by decide)⟩) rfl
    · rw [if_neg hc2] at h
      refine zz_iconst (pc := 11) C zki_1 d_Lat_canEncode_11 ?_
      refine zz_goto (tgt := 16) (pc := 12) C (by decide) d_Lat_canEncode_12 ?_
      subst h
      exact zz_ret (pc := 16) C (v := some (.int (1 : Int32))) d_Lat_canEncode_16 (Or.inl ⟨_, _, rfl, rfl, rfl, (by decide)⟩) rfl
theorem zm_Lat_canEncode {G : zz_G} {l : Launch} {sh : List zz_Sh} {s : zz_S} {q : Int32} {a0 : Int32} (h : f_Lat_canEncode a0 = q) : zz_M G l 2 y_Lat_canEncode prog_19_method_4_code 1 (some .boolean) [.int a0] sh s (some (.int q), sh, s) :=
  zz_M.intro (by decide) (Nat.le_of_ble_eq_true rfl) (Nat.le_refl _) (Nat.le_refl _) (fun Z C => zf_Lat_canEncode C a0 h)
theorem d_Lat_indexOfChar_0 : decode prog_19_method_23_code 0 = .ok (.iload_n 1, 1) := by decide +kernel
theorem d_Lat_indexOfChar_1 : decode prog_19_method_23_code 1 = .ok (.i2b, 1) := by decide +kernel
theorem d_Lat_indexOfChar_2 : decode prog_19_method_23_code 2 = .ok (.istore 4, 2) := by decide +kernel
theorem d_Lat_indexOfChar_4 : decode prog_19_method_23_code 4 = .ok (.iload_n 2, 1) := by decide +kernel
theorem d_Lat_indexOfChar_5 : decode prog_19_method_23_code 5 = .ok (.istore 5, 2) := by decide +kernel
theorem d_Lat_indexOfChar_7 : decode prog_19_method_23_code 7 = .ok (.iload 5, 2) := by decide +kernel
theorem d_Lat_indexOfChar_9 : decode prog_19_method_23_code 9 = .ok (.iload_n 3, 1) := by decide +kernel
theorem d_Lat_indexOfChar_10 : decode prog_19_method_23_code 10 = .ok (.if_icmp .ge (21), 3) := by decide +kernel
theorem d_Lat_indexOfChar_13 : decode prog_19_method_23_code 13 = .ok (.aload_n 0, 1) := by decide +kernel
theorem d_Lat_indexOfChar_14 : decode prog_19_method_23_code 14 = .ok (.iload 5, 2) := by decide +kernel
theorem d_Lat_indexOfChar_16 : decode prog_19_method_23_code 16 = .ok (.baload, 1) := by decide +kernel
theorem d_Lat_indexOfChar_17 : decode prog_19_method_23_code 17 = .ok (.iload 4, 2) := by decide +kernel
theorem d_Lat_indexOfChar_19 : decode prog_19_method_23_code 19 = .ok (.if_icmp .ne (6), 3) := by decide +kernel
theorem d_Lat_indexOfChar_22 : decode prog_19_method_23_code 22 = .ok (.iload 5, 2) := by decide +kernel
theorem d_Lat_indexOfChar_24 : decode prog_19_method_23_code 24 = .ok (.ireturn, 1) := by decide +kernel
theorem d_Lat_indexOfChar_25 : decode prog_19_method_23_code 25 = .ok (.iinc 5 (1), 3) := by decide +kernel
theorem d_Lat_indexOfChar_28 : decode prog_19_method_23_code 28 = .ok (.goto (-21), 3) := by decide +kernel
theorem d_Lat_indexOfChar_31 : decode prog_19_method_23_code 31 = .ok (.iconst (-1), 1) := by decide +kernel
theorem d_Lat_indexOfChar_32 : decode prog_19_method_23_code 32 = .ok (.ireturn, 1) := by decide +kernel
set_option maxHeartbeats 4000000 in
set_option maxRecDepth 100000 in
theorem zf_Lat_indexOfChar_L7 {G : zz_G} {l : Launch} {Z : zz_Z} {sh : List zz_Sh} {q : Int32} {s : zz_S} (C : zz_Cx G l "java/lang/StringLatin1" "indexOfChar" prog_19_method_23_code 6 (some .int) 2 (some (.int q), sh, s) Z) : ∀ (n : Nat) (v0 : Nat) (v3 : Int32) (v4 : Int32) (v5 : Int32) (hv0 : v0 < 6), f_Lat_indexOfChar_L7 n v0 v3 v4 v5 = some q → Z 7 [some (.ref (1400 + v0)), none, none, some (.int v3), some (.int v4), some (.int v5)] [] sh s := by
  intro n
  induction n with
  | zero => intro v0 v3 v4 v5 hv0 h; rw [f_Lat_indexOfChar_L7] at h; cases h
  | succ n ih =>
  intro v0 v3 v4 v5 hv0 h
  rw [f_Lat_indexOfChar_L7] at h
  refine zz_iload (i := 5) (pc := 7) C rfl d_Lat_indexOfChar_7 ?_
  refine zz_iload_n (i := 3) (pc := 9) C rfl rfl d_Lat_indexOfChar_9 ?_
  refine zz_icmp_ge (tgt := 31) (pc := 10) C (by decide) d_Lat_indexOfChar_10 (fun hc1 => ?_) (fun hc1 => ?_)
  · rw [if_pos hc1] at h
    refine zz_iconst (pc := 31) C zki_m1 d_Lat_indexOfChar_31 ?_
    replace h := Option.some.inj h
    subst h
    exact zz_ret (pc := 32) C (v := some (.int (-1 : Int32))) d_Lat_indexOfChar_32 (Or.inl ⟨_, _, rfl, rfl, rfl, rfl⟩) rfl
  · rw [if_neg hc1] at h
    refine zz_aload_n (i := 0) (pc := 13) C rfl rfl d_Lat_indexOfChar_13 ?_
    refine zz_iload (i := 5) (pc := 14) C rfl d_Lat_indexOfChar_14 ?_
    obtain ⟨hi2, h⟩ := zz_ckE h
    refine zz_strB (pc := 16) C rfl hv0 hi2 d_Lat_indexOfChar_16 ?_
    refine zz_iload (i := 4) (pc := 17) C rfl d_Lat_indexOfChar_17 ?_
    refine zz_icmp_ne (tgt := 25) (pc := 19) C (by decide) d_Lat_indexOfChar_19 (fun hc3 => ?_) (fun hc3 => ?_)
    · rw [if_neg hc3] at h
      refine zz_iinc (lo' := [some (.ref (1400 + v0)), none, none, some (.int v3), some (.int v4), some (.int (v5 + (1 : Int32)))]) (pc := 25) C rfl (zz_inc zki_1) rfl rfl d_Lat_indexOfChar_25 ?_
      refine zz_goto (tgt := 7) (pc := 28) C (by decide) d_Lat_indexOfChar_28 ?_
      exact ih v0 v3 v4 (v5 + (1 : Int32)) hv0 h
    · rw [if_pos hc3] at h
      refine zz_iload (i := 5) (pc := 22) C rfl d_Lat_indexOfChar_22 ?_
      replace h := Option.some.inj h
      subst h
      exact zz_ret (pc := 24) C (v := some (.int v5)) d_Lat_indexOfChar_24 (Or.inl ⟨_, _, rfl, rfl, rfl, rfl⟩) rfl
set_option maxHeartbeats 4000000 in
set_option maxRecDepth 100000 in
theorem zf_Lat_indexOfChar {G : zz_G} {l : Launch} {Z : zz_Z} {sh : List zz_Sh} {q : Int32} {s : zz_S} (C : zz_Cx G l "java/lang/StringLatin1" "indexOfChar" prog_19_method_23_code 6 (some .int) 2 (some (.int q), sh, s) Z) (a0 : Nat) (a1 : Int32) (a2 : Int32) (a3 : Int32) (ha0 : a0 < 6) (h : f_Lat_indexOfChar a0 a1 a2 a3 = some q) : Z 0 [some (.ref (1400 + a0)), some (.int a1), some (.int a2), some (.int a3), none, none] [] sh s := by
  unfold f_Lat_indexOfChar at h
  refine zz_iload_n (i := 1) (pc := 0) C rfl rfl d_Lat_indexOfChar_0 ?_
  refine zz_i2b (pc := 1) C d_Lat_indexOfChar_1 ?_
  refine zz_istore (i := 4) (lo' := [some (.ref (1400 + a0)), some (.int a1), some (.int a2), some (.int a3), some (.int a1.toInt8.toInt32), none]) (pc := 2) C (Nat.le_of_ble_eq_true rfl) rfl rfl d_Lat_indexOfChar_2 ?_
  refine zz_iload_n (i := 2) (pc := 4) C rfl rfl d_Lat_indexOfChar_4 ?_
  refine zz_istore (i := 5) (lo' := [some (.ref (1400 + a0)), some (.int a1), some (.int a2), some (.int a3), some (.int a1.toInt8.toInt32), some (.int a2)]) (pc := 5) C (Nat.le_of_ble_eq_true rfl) rfl rfl d_Lat_indexOfChar_5 ?_
  refine zz_fg C [true, false, false, true, true, true] rfl rfl ?_
  exact zf_Lat_indexOfChar_L7 C zF a0 a3 a1.toInt8.toInt32 a2 ha0 h
theorem zm_Lat_indexOfChar {G : zz_G} {l : Launch} {sh : List zz_Sh} {s : zz_S} {q : Int32} {a0 : Nat} {a1 : Int32} {a2 : Int32} {a3 : Int32} (ha0 : a0 < 6) (h : f_Lat_indexOfChar a0 a1 a2 a3 = some q) : zz_M G l 2 y_Lat_indexOfChar prog_19_method_23_code 6 (some .int) [.ref (1400 + a0), .int a1, .int a2, .int a3] sh s (some (.int q), sh, s) :=
  zz_M.intro (by decide) (Nat.le_of_ble_eq_true rfl) (Nat.le_refl _) (Nat.le_refl _) (fun Z C => zf_Lat_indexOfChar C a0 a1 a2 a3 ha0 h)
theorem d_Lat_indexOf_0 : decode prog_19_method_22_code 0 = .ok (.iload_n 1, 1) := by decide +kernel
theorem d_Lat_indexOf_1 : decode prog_19_method_22_code 1 = .ok (.invokestatic 88, 3) := by decide +kernel
theorem d_Lat_indexOf_4 : decode prog_19_method_22_code 4 = .ok (.ifCond .ne (5), 3) := by decide +kernel
theorem d_Lat_indexOf_7 : decode prog_19_method_22_code 7 = .ok (.iconst (-1), 1) := by decide +kernel
theorem d_Lat_indexOf_8 : decode prog_19_method_22_code 8 = .ok (.ireturn, 1) := by decide +kernel
theorem d_Lat_indexOf_9 : decode prog_19_method_22_code 9 = .ok (.iload_n 2, 1) := by decide +kernel
theorem d_Lat_indexOf_10 : decode prog_19_method_22_code 10 = .ok (.iconst 0, 1) := by decide +kernel
theorem d_Lat_indexOf_11 : decode prog_19_method_22_code 11 = .ok (.invokestatic 92, 3) := by decide +kernel
theorem d_Lat_indexOf_14 : decode prog_19_method_22_code 14 = .ok (.istore_n 2, 1) := by decide +kernel
theorem d_Lat_indexOf_15 : decode prog_19_method_22_code 15 = .ok (.iload_n 3, 1) := by decide +kernel
theorem d_Lat_indexOf_16 : decode prog_19_method_22_code 16 = .ok (.aload_n 0, 1) := by decide +kernel
theorem d_Lat_indexOf_17 : decode prog_19_method_22_code 17 = .ok (.arraylength, 1) := by decide +kernel
theorem d_Lat_indexOf_18 : decode prog_19_method_22_code 18 = .ok (.invokestatic 38, 3) := by decide +kernel
theorem d_Lat_indexOf_21 : decode prog_19_method_22_code 21 = .ok (.istore_n 3, 1) := by decide +kernel
theorem d_Lat_indexOf_22 : decode prog_19_method_22_code 22 = .ok (.iload_n 2, 1) := by decide +kernel
theorem d_Lat_indexOf_23 : decode prog_19_method_22_code 23 = .ok (.iload_n 3, 1) := by decide +kernel
theorem d_Lat_indexOf_24 : decode prog_19_method_22_code 24 = .ok (.if_icmp .lt (5), 3) := by decide +kernel
theorem d_Lat_indexOf_27 : decode prog_19_method_22_code 27 = .ok (.iconst (-1), 1) := by decide +kernel
theorem d_Lat_indexOf_28 : decode prog_19_method_22_code 28 = .ok (.ireturn, 1) := by decide +kernel
theorem d_Lat_indexOf_29 : decode prog_19_method_22_code 29 = .ok (.aload_n 0, 1) := by decide +kernel
theorem d_Lat_indexOf_30 : decode prog_19_method_22_code 30 = .ok (.iload_n 1, 1) := by decide +kernel
theorem d_Lat_indexOf_31 : decode prog_19_method_22_code 31 = .ok (.iload_n 2, 1) := by decide +kernel
theorem d_Lat_indexOf_32 : decode prog_19_method_22_code 32 = .ok (.iload_n 3, 1) := by decide +kernel
theorem d_Lat_indexOf_33 : decode prog_19_method_22_code 33 = .ok (.invokestatic 95, 3) := by decide +kernel
theorem d_Lat_indexOf_36 : decode prog_19_method_22_code 36 = .ok (.ireturn, 1) := by decide +kernel
set_option maxHeartbeats 4000000 in
set_option maxRecDepth 100000 in
theorem zf_Lat_indexOf {G : zz_G} {l : Launch} {Z : zz_Z} {sh : List zz_Sh} {q : Int32} {s : zz_S} (C : zz_Cx G l "java/lang/StringLatin1" "indexOf" prog_19_method_22_code 4 (some .int) 3 (some (.int q), sh, s) Z) (a0 : Nat) (a1 : Int32) (a2 : Int32) (a3 : Int32) (ha0 : a0 < 6) (h : f_Lat_indexOf a0 a1 a2 a3 = some q) : Z 0 [some (.ref (1400 + a0)), some (.int a1), some (.int a2), some (.int a3)] [] sh s := by
  unfold f_Lat_indexOf at h
  refine zz_iload_n (i := 1) (pc := 0) C rfl rfl d_Lat_indexOf_0 ?_
  refine zz_cSi (as := [.int a1]) (st := []) (pc := 1) C (zm_Lat_canEncode rfl) zcs_Lat_canEncode zl_Lat_88 (by omega) (Nat.le_of_ble_eq_true rfl) d_Lat_indexOf_1 rfl rfl ?_
  refine zz_if_ne (tgt := 9) (pc := 4) C (by decide) d_Lat_indexOf_4 (fun hc1 => ?_) (fun hc1 => ?_)
  · rw [if_neg hc1] at h
    refine zz_iload_n (i := 2) (pc := 9) C rfl rfl d_Lat_indexOf_9 ?_
    refine zz_iconst (pc := 10) C zki_0 d_Lat_indexOf_10 ?_
    refine zz_mmax (st := []) (pc := 11) C zl_Lat_92 (by omega) (Nat.le_of_ble_eq_true rfl) d_Lat_indexOf_11 rfl ?_
    refine zz_istore_n (i := 2) (lo' := [some (.ref (1400 + a0)), some (.int a1), some (.int (zz_max a2 (0 : Int32))), some (.int a3)]) (pc := 14) C rfl (Nat.le_of_ble_eq_true rfl) rfl rfl d_Lat_indexOf_14 ?_
    refine zz_iload_n (i := 3) (pc := 15) C rfl rfl d_Lat_indexOf_15 ?_
    refine zz_aload_n (i := 0) (pc := 16) C rfl rfl d_Lat_indexOf_16 ?_
    refine zz_strL (pc := 17) C ha0 d_Lat_indexOf_17 ?_
    refine zz_mmin (st := []) (pc := 18) C zl_Lat_38 (by omega) (Nat.le_of_ble_eq_true rfl) d_Lat_indexOf_18 rfl ?_
    refine zz_istore_n (i := 3) (lo' := [some (.ref (1400 + a0)), some (.int a1), some (.int (zz_max a2 (0 : Int32))), some (.int (zz_min a3 (Int32.ofNat (zz_sln.getD a0 0))))]) (pc := 21) C rfl (Nat.le_of_ble_eq_true rfl) rfl rfl d_Lat_indexOf_21 ?_
    refine zz_iload_n (i := 2) (pc := 22) C rfl rfl d_Lat_indexOf_22 ?_
    refine zz_iload_n (i := 3) (pc := 23) C rfl rfl d_Lat_indexOf_23 ?_
    refine zz_icmp_lt (tgt := 29) (pc := 24) C (by decide) d_Lat_indexOf_24 (fun hc2 => ?_) (fun hc2 => ?_)
    · rw [if_pos hc2] at h
      refine zz_aload_n (i := 0) (pc := 29) C rfl rfl d_Lat_indexOf_29 ?_
      refine zz_iload_n (i := 1) (pc := 30) C rfl rfl d_Lat_indexOf_30 ?_
      refine zz_iload_n (i := 2) (pc := 31) C rfl rfl d_Lat_indexOf_31 ?_
      refine zz_iload_n (i := 3) (pc := 32) C rfl rfl d_Lat_indexOf_32 ?_
      obtain ⟨q3, hq3, h⟩ := zz_bdE h
      refine zz_cSi (as := [.ref (1400 + a0), .int a1, .int (zz_max a2 (0 : Int32)), .int (zz_min a3 (Int32.ofNat (zz_sln.getD a0 0)))]) (st := []) (pc := 33) C (zm_Lat_indexOfChar ha0 hq3) zcs_Lat_indexOfChar zl_Lat_95 (by omega) (Nat.le_of_ble_eq_true rfl) d_Lat_indexOf_33 rfl rfl ?_
      replace h := Option.some.inj h
      subst h
      exact zz_ret (pc := 36) C (v := some (.int q3)) d_Lat_indexOf_36 (Or.inl ⟨_, _, rfl, rfl, rfl, rfl⟩) rfl
    · rw [if_neg hc2] at h
      refine zz_iconst (pc := 27) C zki_m1 d_Lat_indexOf_27 ?_
      replace h := Option.some.inj h
      subst h
      exact zz_ret (pc := 28) C (v := some (.int (-1 : Int32))) d_Lat_indexOf_28 (Or.inl ⟨_, _, rfl, rfl, rfl, rfl⟩) rfl
  · rw [if_pos hc1] at h
    refine zz_iconst (pc := 7) C zki_m1 d_Lat_indexOf_7 ?_
    replace h := Option.some.inj h
    subst h
    exact zz_ret (pc := 8) C (v := some (.int (-1 : Int32))) d_Lat_indexOf_8 (Or.inl ⟨_, _, rfl, rfl, rfl, rfl⟩) rfl
theorem zm_Lat_indexOf {G : zz_G} {l : Launch} {sh : List zz_Sh} {s : zz_S} {q : Int32} {a0 : Nat} {a1 : Int32} {a2 : Int32} {a3 : Int32} (ha0 : a0 < 6) (h : f_Lat_indexOf a0 a1 a2 a3 = some q) : zz_M G l 3 y_Lat_indexOf prog_19_method_22_code 4 (some .int) [.ref (1400 + a0), .int a1, .int a2, .int a3] sh s (some (.int q), sh, s) :=
  zz_M.intro (by decide) (Nat.le_of_ble_eq_true rfl) (Nat.le_refl _) (Nat.le_refl _) (fun Z C => zf_Lat_indexOf C a0 a1 a2 a3 ha0 h)
theorem d_Str_indexOf2_0 : decode prog_18_method_80_code 0 = .ok (.aload_n 0, 1) := by decide +kernel
theorem d_Str_indexOf2_1 : decode prog_18_method_80_code 1 = .ok (.invokevirtual 492, 3) := by decide +kernel
theorem d_Str_indexOf2_4 : decode prog_18_method_80_code 4 = .ok (.ifCond .eq (19), 3) := by decide +kernel
theorem d_Str_indexOf2_7 : decode prog_18_method_80_code 7 = .ok (.aload_n 0, 1) := by decide +kernel
theorem d_Str_indexOf2_8 : decode prog_18_method_80_code 8 = .ok (.getfield 9, 3) := by decide +kernel
theorem d_Str_indexOf2_11 : decode prog_18_method_80_code 11 = .ok (.iload_n 1, 1) := by decide +kernel
theorem d_Str_indexOf2_12 : decode prog_18_method_80_code 12 = .ok (.iload_n 2, 1) := by decide +kernel
theorem d_Str_indexOf2_13 : decode prog_18_method_80_code 13 = .ok (.aload_n 0, 1) := by decide +kernel
theorem d_Str_indexOf2_14 : decode prog_18_method_80_code 14 = .ok (.invokevirtual 505, 3) := by decide +kernel
theorem d_Str_indexOf2_17 : decode prog_18_method_80_code 17 = .ok (.invokestatic 637, 3) := by decide +kernel
theorem d_Str_indexOf2_20 : decode prog_18_method_80_code 20 = .ok (.goto (16), 3) := by decide +kernel
theorem d_Str_indexOf2_36 : decode prog_18_method_80_code 36 = .ok (.ireturn, 1) := by decide +kernel
set_option maxHeartbeats 4000000 in
set_option maxRecDepth 100000 in
theorem zf_Str_indexOf2 {G : zz_G} {l : Launch} {Z : zz_Z} {sh : List zz_Sh} {q : Int32} {s : zz_S} (C : zz_Cx G l "java/lang/String" "indexOf" prog_18_method_80_code 3 (some .int) 4 (some (.int q), sh, s) Z) (a0 : Nat) (a1 : Int32) (a2 : Int32) (ha0 : a0 < 6) (h : f_Str_indexOf2 a0 a1 a2 = some q) : Z 0 [some (.ref (1300 + a0)), some (.int a1), some (.int a2)] [] sh s := by
  unfold f_Str_indexOf2 at h
  refine zz_aload_n (i := 0) (pc := 0) C rfl rfl d_Str_indexOf2_0 ?_
  refine zz_cXi (as := []) (st := []) (pc := 1) C (zm_Str_isLatin1 ha0 rfl) zcv_Str_isLatin1 ha0 zl_Str_492 (by omega) (Nat.le_of_ble_eq_true rfl) d_Str_indexOf2_1 rfl rfl ?_
  refine zz_if_eq (tgt := 23) (pc := 4) C (by decide) d_Str_indexOf2_4 (fun hc => absurd (show (1 : Int32) = 0 from hc) (by decide)) (fun _ => ?_)
  refine zz_aload_n (i := 0) (pc := 7) C rfl rfl d_Str_indexOf2_7 ?_
  refine zz_strV (pc := 8) C ha0 zl_Str_9 d_Str_indexOf2_8 ?_
  refine zz_iload_n (i := 1) (pc := 11) C rfl rfl d_Str_indexOf2_11 ?_
  refine zz_iload_n (i := 2) (pc := 12) C rfl rfl d_Str_indexOf2_12 ?_
  refine zz_aload_n (i := 0) (pc := 13) C rfl rfl d_Str_indexOf2_13 ?_
  refine zz_cXi (as := []) (st := [.int a2, .int a1, .ref (1400 + a0)]) (pc := 14) C (zm_Str_length ha0 rfl) zcv_Str_length ha0 zl_Str_505 (by omega) (Nat.le_of_ble_eq_true rfl) d_Str_indexOf2_14 rfl rfl ?_
  obtain ⟨q1, hq1, h⟩ := zz_bdE h
  refine zz_cSi (as := [.ref (1400 + a0), .int a1, .int a2, .int (f_Str_length a0)]) (st := []) (pc := 17) C (zm_Lat_indexOf ha0 hq1) zcs_Lat_indexOf zl_Str_637 (by omega) (Nat.le_of_ble_eq_true rfl) d_Str_indexOf2_17 rfl rfl ?_
  refine zz_goto (tgt := 36) (pc := 20) C (by decide) d_Str_indexOf2_20 ?_
  replace h := Option.some.inj h
  subst h
  exact zz_ret (pc := 36) C (v := some (.int q1)) d_Str_indexOf2_36 (Or.inl ⟨_, _, rfl, rfl, rfl, rfl⟩) rfl
theorem zm_Str_indexOf2 {G : zz_G} {l : Launch} {sh : List zz_Sh} {s : zz_S} {q : Int32} {a0 : Nat} {a1 : Int32} {a2 : Int32} (ha0 : a0 < 6) (h : f_Str_indexOf2 a0 a1 a2 = some q) : zz_M G l 4 y_Str_indexOf2 prog_18_method_80_code 3 (some .int) [.ref (1300 + a0), .int a1, .int a2] sh s (some (.int q), sh, s) :=
  zz_M.intro (by decide) (Nat.le_of_ble_eq_true rfl) (Nat.le_refl _) (Nat.le_refl _) (fun Z C => zf_Str_indexOf2 C a0 a1 a2 ha0 h)
theorem d_Str_indexOf1_0 : decode prog_18_method_79_code 0 = .ok (.aload_n 0, 1) := by decide +kernel
theorem d_Str_indexOf1_1 : decode prog_18_method_79_code 1 = .ok (.iload_n 1, 1) := by decide +kernel
theorem d_Str_indexOf1_2 : decode prog_18_method_79_code 2 = .ok (.iconst 0, 1) := by decide +kernel
theorem d_Str_indexOf1_3 : decode prog_18_method_79_code 3 = .ok (.invokevirtual 633, 3) := by decide +kernel
theorem d_Str_indexOf1_6 : decode prog_18_method_79_code 6 = .ok (.ireturn, 1) := by decide +kernel
set_option maxHeartbeats 4000000 in
set_option maxRecDepth 100000 in
theorem zf_Str_indexOf1 {G : zz_G} {l : Launch} {Z : zz_Z} {sh : List zz_Sh} {q : Int32} {s : zz_S} (C : zz_Cx G l "java/lang/String" "indexOf" prog_18_method_79_code 2 (some .int) 5 (some (.int q), sh, s) Z) (a0 : Nat) (a1 : Int32) (ha0 : a0 < 6) (h : f_Str_indexOf1 a0 a1 = some q) : Z 0 [some (.ref (1300 + a0)), some (.int a1)] [] sh s := by
  unfold f_Str_indexOf1 at h
  refine zz_aload_n (i := 0) (pc := 0) C rfl rfl d_Str_indexOf1_0 ?_
  refine zz_iload_n (i := 1) (pc := 1) C rfl rfl d_Str_indexOf1_1 ?_
  refine zz_iconst (pc := 2) C zki_0 d_Str_indexOf1_2 ?_
  obtain ⟨q1, hq1, h⟩ := zz_bdE h
  refine zz_cXi (as := [.int a1, .int (0 : Int32)]) (st := []) (pc := 3) C (zm_Str_indexOf2 ha0 hq1) zcv_Str_indexOf2 ha0 zl_Str_633 (by omega) (Nat.le_of_ble_eq_true rfl) d_Str_indexOf1_3 rfl rfl ?_
  replace h := Option.some.inj h
  subst h
  exact zz_ret (pc := 6) C (v := some (.int q1)) d_Str_indexOf1_6 (Or.inl ⟨_, _, rfl, rfl, rfl, rfl⟩) rfl
theorem zm_Str_indexOf1 {G : zz_G} {l : Launch} {sh : List zz_Sh} {s : zz_S} {q : Int32} {a0 : Nat} {a1 : Int32} (ha0 : a0 < 6) (h : f_Str_indexOf1 a0 a1 = some q) : zz_M G l 5 y_Str_indexOf1 prog_18_method_79_code 2 (some .int) [.ref (1300 + a0), .int a1] sh s (some (.int q), sh, s) :=
  zz_M.intro (by decide) (Nat.le_of_ble_eq_true rfl) (Nat.le_refl _) (Nat.le_refl _) (fun Z C => zf_Str_indexOf1 C a0 a1 ha0 h)
theorem d_Tape_placeIn_0 : decode prog_10_method_10_code 0 = .ok (.iload_n 1, 1) := by decide +kernel
theorem d_Tape_placeIn_1 : decode prog_10_method_10_code 1 = .ok (.ifCond .ge (7), 3) := by decide +kernel
theorem d_Tape_placeIn_4 : decode prog_10_method_10_code 4 = .ok (.iconst (-1), 1) := by decide +kernel
theorem d_Tape_placeIn_5 : decode prog_10_method_10_code 5 = .ok (.goto (9), 3) := by decide +kernel
theorem d_Tape_placeIn_8 : decode prog_10_method_10_code 8 = .ok (.aload_n 0, 1) := by decide +kernel
theorem d_Tape_placeIn_9 : decode prog_10_method_10_code 9 = .ok (.iload_n 1, 1) := by decide +kernel
theorem d_Tape_placeIn_10 : decode prog_10_method_10_code 10 = .ok (.i2c, 1) := by decide +kernel
theorem d_Tape_placeIn_11 : decode prog_10_method_10_code 11 = .ok (.invokevirtual 93, 3) := by decide +kernel
theorem d_Tape_placeIn_14 : decode prog_10_method_10_code 14 = .ok (.ireturn, 1) := by decide +kernel
set_option maxHeartbeats 4000000 in
set_option maxRecDepth 100000 in
theorem zf_Tape_placeIn {G : zz_G} {l : Launch} {Z : zz_Z} {sh : List zz_Sh} {q : Int32} {s : zz_S} (C : zz_Cx G l "OneBlanket$Tape" "placeIn" prog_10_method_10_code 2 (some .int) 6 (some (.int q), sh, s) Z) (a0 : Nat) (a1 : Int32) (ha0 : a0 < 6) (h : f_Tape_placeIn a0 a1 = some q) : Z 0 [some (.ref (1300 + a0)), some (.int a1)] [] sh s := by
  unfold f_Tape_placeIn at h
  refine zz_iload_n (i := 1) (pc := 0) C rfl rfl d_Tape_placeIn_0 ?_
  refine zz_if_ge (tgt := 8) (pc := 1) C (by decide) d_Tape_placeIn_1 (fun hc1 => ?_) (fun hc1 => ?_)
  · rw [if_pos hc1] at h
    refine zz_aload_n (i := 0) (pc := 8) C rfl rfl d_Tape_placeIn_8 ?_
    refine zz_iload_n (i := 1) (pc := 9) C rfl rfl d_Tape_placeIn_9 ?_
    refine zz_i2c (pc := 10) C d_Tape_placeIn_10 ?_
    obtain ⟨q2, hq2, h⟩ := zz_bdE h
    refine zz_cXi (as := [.int (a1.toUInt32 % 65536).toInt32]) (st := []) (pc := 11) C (zm_Str_indexOf1 ha0 hq2) zcv_Str_indexOf1 ha0 zl_8_93 (by omega) (Nat.le_of_ble_eq_true rfl) d_Tape_placeIn_11 rfl rfl ?_
    replace h := Option.some.inj h
    subst h
    exact zz_ret (pc := 14) C (v := some (.int q2)) d_Tape_placeIn_14 (Or.inl ⟨_, _, rfl, rfl, rfl, rfl⟩) rfl
  · rw [if_neg hc1] at h
    refine zz_iconst (pc := 4) C zki_m1 d_Tape_placeIn_4 ?_
    refine zz_goto (tgt := 14) (pc := 5) C (by decide) d_Tape_placeIn_5 ?_
    replace h := Option.some.inj h
    subst h
    exact zz_ret (pc := 14) C (v := some (.int (-1 : Int32))) d_Tape_placeIn_14 (Or.inl ⟨_, _, rfl, rfl, rfl, rfl⟩) rfl
theorem zm_Tape_placeIn {G : zz_G} {l : Launch} {sh : List zz_Sh} {s : zz_S} {q : Int32} {a0 : Nat} {a1 : Int32} (ha0 : a0 < 6) (h : f_Tape_placeIn a0 a1 = some q) : zz_M G l 6 y_Tape_placeIn prog_10_method_10_code 2 (some .int) [.ref (1300 + a0), .int a1] sh s (some (.int q), sh, s) :=
  zz_M.intro (by decide) (Nat.le_of_ble_eq_true rfl) (Nat.le_refl _) (Nat.le_refl _) (fun Z C => zf_Tape_placeIn C a0 a1 ha0 h)
theorem d_Tape_signsOf_0 : decode prog_10_method_5_code 0 = .ok (.iload_n 0, 1) := by decide +kernel
theorem d_Tape_signsOf_1 : decode prog_10_method_5_code 1 = .ok (.tableswitch (43) (0) (3) #[31, 34, 37, 40], 31) := by decide +kernel
theorem d_Tape_signsOf_32 : decode prog_10_method_5_code 32 = .ok (.ldc 56, 2) := by decide +kernel
theorem d_Tape_signsOf_34 : decode prog_10_method_5_code 34 = .ok (.areturn, 1) := by decide +kernel
theorem d_Tape_signsOf_35 : decode prog_10_method_5_code 35 = .ok (.ldc 58, 2) := by decide +kernel
theorem d_Tape_signsOf_37 : decode prog_10_method_5_code 37 = .ok (.areturn, 1) := by decide +kernel
theorem d_Tape_signsOf_38 : decode prog_10_method_5_code 38 = .ok (.ldc 60, 2) := by decide +kernel
theorem d_Tape_signsOf_40 : decode prog_10_method_5_code 40 = .ok (.areturn, 1) := by decide +kernel
theorem d_Tape_signsOf_41 : decode prog_10_method_5_code 41 = .ok (.ldc 62, 2) := by decide +kernel
theorem d_Tape_signsOf_43 : decode prog_10_method_5_code 43 = .ok (.areturn, 1) := by decide +kernel
theorem d_Tape_signsOf_44 : decode prog_10_method_5_code 44 = .ok (.ldc 64, 2) := by decide +kernel
theorem d_Tape_signsOf_46 : decode prog_10_method_5_code 46 = .ok (.areturn, 1) := by decide +kernel
set_option maxHeartbeats 4000000 in
set_option maxRecDepth 100000 in
theorem zf_Tape_signsOf {G : zz_G} {l : Launch} {Z : zz_Z} {sh : List zz_Sh} {q : Nat} {s : zz_S} (C : zz_Cx G l "OneBlanket$Tape" "signsOf" prog_10_method_5_code 1 (some (.object "java/lang/String")) 2 (some (.ref (1300 + q)), sh, s) Z) (a0 : Int32) (h : f_Tape_signsOf a0 = q) : Z 0 [some (.int a0)] [] sh s := by
  unfold f_Tape_signsOf at h
  refine zz_iload_n (i := 0) (pc := 0) C rfl rfl d_Tape_signsOf_0 ?_
  by_cases hc1 : a0 = (0 : Int32)
  · rw [if_pos hc1] at h
    refine zz_tableIn (tgt := 32) (off := 31) (pc := 1) C (by rw [hc1]; decide) (by rw [hc1]; decide) (by rw [hc1]; decide) (by decide) d_Tape_signsOf_1 ?_
    refine zz_ldcS (i := 1) (tx := "|") (pc := 32) C (by decide) d_Tape_signsOf_32 ?_
    subst h
    exact zz_ret (pc := 34) C (v := some (.ref (1300 + 1))) d_Tape_signsOf_34 (Or.inr (Or.inr (Or.inl ⟨_, _, rfl, rfl, rfl, (Or.inl ⟨_, rfl⟩)⟩))) rfl
  · rw [if_neg hc1] at h
    by_cases hc2 : a0 = (1 : Int32)
    · rw [if_pos hc2] at h
      refine zz_tableIn (tgt := 35) (off := 34) (pc := 1) C (by rw [hc2]; decide) (by rw [hc2]; decide) (by rw [hc2]; decide) (by decide) d_Tape_signsOf_1 ?_
      refine zz_ldcS (i := 2) (tx := "&") (pc := 35) C (by decide) d_Tape_signsOf_35 ?_
      subst h
      exact zz_ret (pc := 37) C (v := some (.ref (1300 + 2))) d_Tape_signsOf_37 (Or.inr (Or.inr (Or.inl ⟨_, _, rfl, rfl, rfl, (Or.inl ⟨_, rfl⟩)⟩))) rfl
    · rw [if_neg hc2] at h
      by_cases hc3 : a0 = (2 : Int32)
      · rw [if_pos hc3] at h
        refine zz_tableIn (tgt := 38) (off := 37) (pc := 1) C (by rw [hc3]; decide) (by rw [hc3]; decide) (by rw [hc3]; decide) (by decide) d_Tape_signsOf_1 ?_
        refine zz_ldcS (i := 3) (tx := "<=>") (pc := 38) C (by decide) d_Tape_signsOf_38 ?_
        subst h
        exact zz_ret (pc := 40) C (v := some (.ref (1300 + 3))) d_Tape_signsOf_40 (Or.inr (Or.inr (Or.inl ⟨_, _, rfl, rfl, rfl, (Or.inl ⟨_, rfl⟩)⟩))) rfl
      · rw [if_neg hc3] at h
        by_cases hc4 : a0 = (3 : Int32)
        · rw [if_pos hc4] at h
          refine zz_tableIn (tgt := 41) (off := 40) (pc := 1) C (by rw [hc4]; decide) (by rw [hc4]; decide) (by rw [hc4]; decide) (by decide) d_Tape_signsOf_1 ?_
          refine zz_ldcS (i := 4) (tx := "+-") (pc := 41) C (by decide) d_Tape_signsOf_41 ?_
          subst h
          exact zz_ret (pc := 43) C (v := some (.ref (1300 + 4))) d_Tape_signsOf_43 (Or.inr (Or.inr (Or.inl ⟨_, _, rfl, rfl, rfl, (Or.inl ⟨_, rfl⟩)⟩))) rfl
        · rw [if_neg hc4] at h
          have hc1i : a0.toInt ≠ 0 := fun e => hc1 (Int32.toInt_inj.mp e)
          have hc2i : a0.toInt ≠ 1 := fun e => hc2 (Int32.toInt_inj.mp e)
          have hc3i : a0.toInt ≠ 2 := fun e => hc3 (Int32.toInt_inj.mp e)
          have hc4i : a0.toInt ≠ 3 := fun e => hc4 (Int32.toInt_inj.mp e)
          refine zz_tableOut (tgt := 44) (pc := 1) C (by omega) (by decide) d_Tape_signsOf_1 ?_
          refine zz_ldcS (i := 5) (tx := "*/%") (pc := 44) C (by decide) d_Tape_signsOf_44 ?_
          subst h
          exact zz_ret (pc := 46) C (v := some (.ref (1300 + 5))) d_Tape_signsOf_46 (Or.inr (Or.inr (Or.inl ⟨_, _, rfl, rfl, rfl, (Or.inl ⟨_, rfl⟩)⟩))) rfl
theorem zm_Tape_signsOf {G : zz_G} {l : Launch} {sh : List zz_Sh} {s : zz_S} {q : Nat} {a0 : Int32} (h : f_Tape_signsOf a0 = q) : zz_M G l 2 y_Tape_signsOf prog_10_method_5_code 1 (some (.object "java/lang/String")) [.int a0] sh s (some (.ref (1300 + q)), sh, s) :=
  zz_M.intro (by decide) (Nat.le_of_ble_eq_true rfl) (Nat.le_refl _) (Nat.le_refl _) (fun Z C => zf_Tape_signsOf C a0 h)
