theorem d_M_sizeOf_0 : decode prog_14_method_4_code 0 = .ok (.iload_n 0, 1) := by decide +kernel
theorem d_M_sizeOf_1 : decode prog_14_method_4_code 1 = .ok (.ifCond .ge (8), 3) := by decide +kernel
theorem d_M_sizeOf_4 : decode prog_14_method_4_code 4 = .ok (.iload_n 0, 1) := by decide +kernel
theorem d_M_sizeOf_5 : decode prog_14_method_4_code 5 = .ok (.ineg, 1) := by decide +kernel
theorem d_M_sizeOf_6 : decode prog_14_method_4_code 6 = .ok (.goto (4), 3) := by decide +kernel
theorem d_M_sizeOf_9 : decode prog_14_method_4_code 9 = .ok (.iload_n 0, 1) := by decide +kernel
theorem d_M_sizeOf_10 : decode prog_14_method_4_code 10 = .ok (.ireturn, 1) := by decide +kernel
set_option maxHeartbeats 4000000 in
set_option maxRecDepth 100000 in
theorem zf_M_sizeOf {G : zz_G} {l : Launch} {Z : zz_Z} {sh : List zz_Sh} {q : Int32} {s : zz_S} (C : zz_Cx G l "OneBlanketModel" "sizeOf" prog_14_method_4_code 1 (some .int) 2 (some (.int q), sh, s) Z) (a0 : Int32) (h : f_M_sizeOf a0 = q) : Z 0 [some (.int a0)] [] sh s := by
  unfold f_M_sizeOf at h
  refine zz_iload_n (i := 0) (pc := 0) C rfl rfl d_M_sizeOf_0 ?_
  refine zz_if_ge (tgt := 9) (pc := 1) C (by decide) d_M_sizeOf_1 (fun hc1 => ?_) (fun hc1 => ?_)
  · rw [if_pos hc1] at h
    refine zz_iload_n (i := 0) (pc := 9) C rfl rfl d_M_sizeOf_9 ?_
    subst h
    exact zz_ret (pc := 10) C (v := some (.int a0)) d_M_sizeOf_10 (Or.inl ⟨_, _, rfl, rfl, rfl, rfl⟩) rfl
  · rw [if_neg hc1] at h
    refine zz_iload_n (i := 0) (pc := 4) C rfl rfl d_M_sizeOf_4 ?_
    refine zz_ineg (pc := 5) C d_M_sizeOf_5 ?_
    refine zz_goto (tgt := 10) (pc := 6) C (by decide) d_M_sizeOf_6 ?_
    subst h
    exact zz_ret (pc := 10) C (v := some (.int (-a0))) d_M_sizeOf_10 (Or.inl ⟨_, _, rfl, rfl, rfl, rfl⟩) rfl
theorem zm_M_sizeOf {G : zz_G} {l : Launch} {sh : List zz_Sh} {s : zz_S} {q : Int32} {a0 : Int32} (h : f_M_sizeOf a0 = q) : zz_M G l 2 y_M_sizeOf prog_14_method_4_code 1 (some .int) [.int a0] sh s (some (.int q), sh, s) :=
  zz_M.intro (by decide) (Nat.le_of_ble_eq_true rfl) (Nat.le_refl _) (Nat.le_refl _) (fun Z C => zf_M_sizeOf C a0 h)
theorem d_M_twoOf_0 : decode prog_14_method_34_code 0 = .ok (.iload_n 0, 1) := by decide +kernel
theorem d_M_twoOf_1 : decode prog_14_method_34_code 1 = .ok (.tableswitch (217) (37) (62) #[153, 203, 217, 217, 217, 127, 119, 217, 123, 217, 131, 217, 217, 217, 217, 217, 217, 217, 217, 217, 217, 217, 217, 170, 181, 192], 119) := by decide +kernel
theorem d_M_twoOf_120 : decode prog_14_method_34_code 120 = .ok (.iload_n 1, 1) := by decide +kernel
theorem d_M_twoOf_121 : decode prog_14_method_34_code 121 = .ok (.iload_n 2, 1) := by decide +kernel
theorem d_M_twoOf_122 : decode prog_14_method_34_code 122 = .ok (.iadd, 1) := by decide +kernel
theorem d_M_twoOf_123 : decode prog_14_method_34_code 123 = .ok (.ireturn, 1) := by decide +kernel
theorem d_M_twoOf_124 : decode prog_14_method_34_code 124 = .ok (.iload_n 1, 1) := by decide +kernel
theorem d_M_twoOf_125 : decode prog_14_method_34_code 125 = .ok (.iload_n 2, 1) := by decide +kernel
theorem d_M_twoOf_126 : decode prog_14_method_34_code 126 = .ok (.isub, 1) := by decide +kernel
theorem d_M_twoOf_127 : decode prog_14_method_34_code 127 = .ok (.ireturn, 1) := by decide +kernel
theorem d_M_twoOf_128 : decode prog_14_method_34_code 128 = .ok (.iload_n 1, 1) := by decide +kernel
theorem d_M_twoOf_129 : decode prog_14_method_34_code 129 = .ok (.iload_n 2, 1) := by decide +kernel
theorem d_M_twoOf_130 : decode prog_14_method_34_code 130 = .ok (.imul, 1) := by decide +kernel
theorem d_M_twoOf_131 : decode prog_14_method_34_code 131 = .ok (.ireturn, 1) := by decide +kernel
theorem d_M_twoOf_132 : decode prog_14_method_34_code 132 = .ok (.iload_n 2, 1) := by decide +kernel
theorem d_M_twoOf_133 : decode prog_14_method_34_code 133 = .ok (.ifCond .ne (7), 3) := by decide +kernel
theorem d_M_twoOf_136 : decode prog_14_method_34_code 136 = .ok (.iconst 0, 1) := by decide +kernel
theorem d_M_twoOf_137 : decode prog_14_method_34_code 137 = .ok (.goto (16), 3) := by decide +kernel
theorem d_M_twoOf_140 : decode prog_14_method_34_code 140 = .ok (.iload_n 2, 1) := by decide +kernel
theorem d_M_twoOf_141 : decode prog_14_method_34_code 141 = .ok (.iconst (-1), 1) := by decide +kernel
theorem d_M_twoOf_142 : decode prog_14_method_34_code 142 = .ok (.if_icmp .ne (8), 3) := by decide +kernel
theorem d_M_twoOf_145 : decode prog_14_method_34_code 145 = .ok (.iload_n 1, 1) := by decide +kernel
theorem d_M_twoOf_146 : decode prog_14_method_34_code 146 = .ok (.ineg, 1) := by decide +kernel
theorem d_M_twoOf_147 : decode prog_14_method_34_code 147 = .ok (.goto (6), 3) := by decide +kernel
theorem d_M_twoOf_150 : decode prog_14_method_34_code 150 = .ok (.iload_n 1, 1) := by decide +kernel
theorem d_M_twoOf_151 : decode prog_14_method_34_code 151 = .ok (.iload_n 2, 1) := by decide +kernel
theorem d_M_twoOf_152 : decode prog_14_method_34_code 152 = .ok (.idiv, 1) := by decide +kernel
theorem d_M_twoOf_153 : decode prog_14_method_34_code 153 = .ok (.ireturn, 1) := by decide +kernel
theorem d_M_twoOf_154 : decode prog_14_method_34_code 154 = .ok (.iload_n 2, 1) := by decide +kernel
theorem d_M_twoOf_155 : decode prog_14_method_34_code 155 = .ok (.ifCond .eq (8), 3) := by decide +kernel
theorem d_M_twoOf_158 : decode prog_14_method_34_code 158 = .ok (.iload_n 2, 1) := by decide +kernel
theorem d_M_twoOf_159 : decode prog_14_method_34_code 159 = .ok (.iconst (-1), 1) := by decide +kernel
theorem d_M_twoOf_160 : decode prog_14_method_34_code 160 = .ok (.if_icmp .ne (7), 3) := by decide +kernel
theorem d_M_twoOf_163 : decode prog_14_method_34_code 163 = .ok (.iconst 0, 1) := by decide +kernel
theorem d_M_twoOf_164 : decode prog_14_method_34_code 164 = .ok (.goto (6), 3) := by decide +kernel
theorem d_M_twoOf_167 : decode prog_14_method_34_code 167 = .ok (.iload_n 1, 1) := by decide +kernel
theorem d_M_twoOf_168 : decode prog_14_method_34_code 168 = .ok (.iload_n 2, 1) := by decide +kernel
theorem d_M_twoOf_169 : decode prog_14_method_34_code 169 = .ok (.irem, 1) := by decide +kernel
theorem d_M_twoOf_170 : decode prog_14_method_34_code 170 = .ok (.ireturn, 1) := by decide +kernel
theorem d_M_twoOf_171 : decode prog_14_method_34_code 171 = .ok (.iload_n 1, 1) := by decide +kernel
theorem d_M_twoOf_172 : decode prog_14_method_34_code 172 = .ok (.iload_n 2, 1) := by decide +kernel
theorem d_M_twoOf_173 : decode prog_14_method_34_code 173 = .ok (.if_icmp .ge (7), 3) := by decide +kernel
theorem d_M_twoOf_176 : decode prog_14_method_34_code 176 = .ok (.iconst 1, 1) := by decide +kernel
theorem d_M_twoOf_177 : decode prog_14_method_34_code 177 = .ok (.goto (4), 3) := by decide +kernel
theorem d_M_twoOf_180 : decode prog_14_method_34_code 180 = .ok (.iconst 0, 1) := by decide +kernel
theorem d_M_twoOf_181 : decode prog_14_method_34_code 181 = .ok (.ireturn, 1) := by decide +kernel
theorem d_M_twoOf_182 : decode prog_14_method_34_code 182 = .ok (.iload_n 1, 1) := by decide +kernel
theorem d_M_twoOf_183 : decode prog_14_method_34_code 183 = .ok (.iload_n 2, 1) := by decide +kernel
theorem d_M_twoOf_184 : decode prog_14_method_34_code 184 = .ok (.if_icmp .ne (7), 3) := by decide +kernel
theorem d_M_twoOf_187 : decode prog_14_method_34_code 187 = .ok (.iconst 1, 1) := by decide +kernel
theorem d_M_twoOf_188 : decode prog_14_method_34_code 188 = .ok (.goto (4), 3) := by decide +kernel
theorem d_M_twoOf_191 : decode prog_14_method_34_code 191 = .ok (.iconst 0, 1) := by decide +kernel
theorem d_M_twoOf_192 : decode prog_14_method_34_code 192 = .ok (.ireturn, 1) := by decide +kernel
theorem d_M_twoOf_193 : decode prog_14_method_34_code 193 = .ok (.iload_n 1, 1) := by decide +kernel
theorem d_M_twoOf_194 : decode prog_14_method_34_code 194 = .ok (.iload_n 2, 1) := by decide +kernel
theorem d_M_twoOf_195 : decode prog_14_method_34_code 195 = .ok (.if_icmp .le (7), 3) := by decide +kernel
theorem d_M_twoOf_198 : decode prog_14_method_34_code 198 = .ok (.iconst 1, 1) := by decide +kernel
theorem d_M_twoOf_199 : decode prog_14_method_34_code 199 = .ok (.goto (4), 3) := by decide +kernel
theorem d_M_twoOf_202 : decode prog_14_method_34_code 202 = .ok (.iconst 0, 1) := by decide +kernel
theorem d_M_twoOf_203 : decode prog_14_method_34_code 203 = .ok (.ireturn, 1) := by decide +kernel
theorem d_M_twoOf_204 : decode prog_14_method_34_code 204 = .ok (.iload_n 1, 1) := by decide +kernel
theorem d_M_twoOf_205 : decode prog_14_method_34_code 205 = .ok (.ifCond .eq (11), 3) := by decide +kernel
theorem d_M_twoOf_208 : decode prog_14_method_34_code 208 = .ok (.iload_n 2, 1) := by decide +kernel
theorem d_M_twoOf_209 : decode prog_14_method_34_code 209 = .ok (.ifCond .eq (7), 3) := by decide +kernel
theorem d_M_twoOf_212 : decode prog_14_method_34_code 212 = .ok (.iconst 1, 1) := by decide +kernel
theorem d_M_twoOf_213 : decode prog_14_method_34_code 213 = .ok (.goto (4), 3) := by decide +kernel
theorem d_M_twoOf_216 : decode prog_14_method_34_code 216 = .ok (.iconst 0, 1) := by decide +kernel
theorem d_M_twoOf_217 : decode prog_14_method_34_code 217 = .ok (.ireturn, 1) := by decide +kernel
theorem d_M_twoOf_218 : decode prog_14_method_34_code 218 = .ok (.iload_n 1, 1) := by decide +kernel
theorem d_M_twoOf_219 : decode prog_14_method_34_code 219 = .ok (.ifCond .ne (7), 3) := by decide +kernel
theorem d_M_twoOf_222 : decode prog_14_method_34_code 222 = .ok (.iload_n 2, 1) := by decide +kernel
theorem d_M_twoOf_223 : decode prog_14_method_34_code 223 = .ok (.ifCond .eq (7), 3) := by decide +kernel
theorem d_M_twoOf_226 : decode prog_14_method_34_code 226 = .ok (.iconst 1, 1) := by decide +kernel
theorem d_M_twoOf_227 : decode prog_14_method_34_code 227 = .ok (.goto (4), 3) := by decide +kernel
theorem d_M_twoOf_230 : decode prog_14_method_34_code 230 = .ok (.iconst 0, 1) := by decide +kernel
theorem d_M_twoOf_231 : decode prog_14_method_34_code 231 = .ok (.ireturn, 1) := by decide +kernel
set_option maxHeartbeats 4000000 in
set_option maxRecDepth 100000 in
theorem zf_M_twoOf_J163 {G : zz_G} {l : Launch} {Z : zz_Z} {sh : List zz_Sh} {q : Int32} {s : zz_S} (C : zz_Cx G l "OneBlanketModel" "twoOf" prog_14_method_34_code 3 (some .int) 2 (some (.int q), sh, s) Z) (h : f_M_twoOf_J163 = some q) : Z 163 [none, none, none] [] sh s := by
  unfold f_M_twoOf_J163 at h
  refine zz_iconst (pc := 163) C zki_0 d_M_twoOf_163 ?_
  refine zz_goto (tgt := 170) (pc := 164) C (by decide) d_M_twoOf_164 ?_
  replace h := Option.some.inj h
  subst h
  exact zz_ret (pc := 170) C (v := some (.int (0 : Int32))) d_M_twoOf_170 (Or.inl ⟨_, _, rfl, rfl, rfl, rfl⟩) rfl
set_option maxHeartbeats 4000000 in
set_option maxRecDepth 100000 in
theorem zf_M_twoOf_J226 {G : zz_G} {l : Launch} {Z : zz_Z} {sh : List zz_Sh} {q : Int32} {s : zz_S} (C : zz_Cx G l "OneBlanketModel" "twoOf" prog_14_method_34_code 3 (some .int) 2 (some (.int q), sh, s) Z) (h : f_M_twoOf_J226 = some q) : Z 226 [none, none, none] [] sh s := by
  unfold f_M_twoOf_J226 at h
  refine zz_iconst (pc := 226) C zki_1 d_M_twoOf_226 ?_
  refine zz_goto (tgt := 231) (pc := 227) C (by decide) d_M_twoOf_227 ?_
  replace h := Option.some.inj h
  subst h
  exact zz_ret (pc := 231) C (v := some (.int (1 : Int32))) d_M_twoOf_231 (Or.inl ⟨_, _, rfl, rfl, rfl, rfl⟩) rfl
set_option maxHeartbeats 4000000 in
set_option maxRecDepth 100000 in
theorem zf_M_twoOf {G : zz_G} {l : Launch} {Z : zz_Z} {sh : List zz_Sh} {q : Int32} {s : zz_S} (C : zz_Cx G l "OneBlanketModel" "twoOf" prog_14_method_34_code 3 (some .int) 2 (some (.int q), sh, s) Z) (a0 : Int32) (a1 : Int32) (a2 : Int32) (h : f_M_twoOf a0 a1 a2 = some q) : Z 0 [some (.int a0), some (.int a1), some (.int a2)] [] sh s := by
  unfold f_M_twoOf at h
  refine zz_iload_n (i := 0) (pc := 0) C rfl rfl d_M_twoOf_0 ?_
  by_cases hc1 : a0 = (37 : Int32)
  · rw [if_pos hc1] at h
    refine zz_tableIn (tgt := 154) (off := 153) (pc := 1) C (by rw [hc1]; decide) (by rw [hc1]; decide) (by rw [hc1]; decide) (by decide) d_M_twoOf_1 ?_
    refine zz_iload_n (i := 2) (pc := 154) C rfl rfl d_M_twoOf_154 ?_
    refine zz_if_eq (tgt := 163) (pc := 155) C (by decide) d_M_twoOf_155 (fun hc2 => ?_) (fun hc2 => ?_)
    · rw [if_pos hc2] at h
      refine zz_fg C [false, false, false] rfl rfl ?_
      exact zf_M_twoOf_J163 C h
    · rw [if_neg hc2] at h
      refine zz_iload_n (i := 2) (pc := 158) C rfl rfl d_M_twoOf_158 ?_
      refine zz_iconst (pc := 159) C zki_m1 d_M_twoOf_159 ?_
      refine zz_icmp_ne (tgt := 167) (pc := 160) C (by decide) d_M_twoOf_160 (fun hc3 => ?_) (fun hc3 => ?_)
      · rw [if_neg hc3] at h
        refine zz_iload_n (i := 1) (pc := 167) C rfl rfl d_M_twoOf_167 ?_
        refine zz_iload_n (i := 2) (pc := 168) C rfl rfl d_M_twoOf_168 ?_
        obtain ⟨hy4, h⟩ := zz_ckN h
        refine zz_irem (pc := 169) C hy4 d_M_twoOf_169 ?_
        replace h := Option.some.inj h
        subst h
        exact zz_ret (pc := 170) C (v := some (.int (a1 % a2))) d_M_twoOf_170 (Or.inl ⟨_, _, rfl, rfl, rfl, rfl⟩) rfl
      · rw [if_pos hc3] at h
        refine zz_fg C [false, false, false] rfl rfl ?_
        exact zf_M_twoOf_J163 C h
  · rw [if_neg hc1] at h
    by_cases hc5 : a0 = (38 : Int32)
    · rw [if_pos hc5] at h
      refine zz_tableIn (tgt := 204) (off := 203) (pc := 1) C (by rw [hc5]; decide) (by rw [hc5]; decide) (by rw [hc5]; decide) (by decide) d_M_twoOf_1 ?_
      refine zz_iload_n (i := 1) (pc := 204) C rfl rfl d_M_twoOf_204 ?_
      refine zz_if_eq (tgt := 216) (pc := 205) C (by decide) d_M_twoOf_205 (fun hc6 => ?_) (fun hc6 => ?_)
      · rw [if_pos hc6] at h
        refine zz_iconst (pc := 216) C zki_0 d_M_twoOf_216 ?_
        replace h := Option.some.inj h
        subst h
        exact zz_ret (pc := 217) C (v := some (.int (0 : Int32))) d_M_twoOf_217 (Or.inl ⟨_, _, rfl, rfl, rfl, rfl⟩) rfl
      · rw [if_neg hc6] at h
        refine zz_iload_n (i := 2) (pc := 208) C rfl rfl d_M_twoOf_208 ?_
        refine zz_if_eq (tgt := 216) (pc := 209) C (by decide) d_M_twoOf_209 (fun hc7 => ?_) (fun hc7 => ?_)
        · rw [if_pos hc7] at h
          refine zz_iconst (pc := 216) C zki_0 d_M_twoOf_216 ?_
          replace h := Option.some.inj h
          subst h
          exact zz_ret (pc := 217) C (v := some (.int (0 : Int32))) d_M_twoOf_217 (Or.inl ⟨_, _, rfl, rfl, rfl, rfl⟩) rfl
        · rw [if_neg hc7] at h
          refine zz_iconst (pc := 212) C zki_1 d_M_twoOf_212 ?_
          refine zz_goto (tgt := 217) (pc := 213) C (by decide) d_M_twoOf_213 ?_
          replace h := Option.some.inj h
          subst h
          exact zz_ret (pc := 217) C (v := some (.int (1 : Int32))) d_M_twoOf_217 (Or.inl ⟨_, _, rfl, rfl, rfl, rfl⟩) rfl
    · rw [if_neg hc5] at h
      by_cases hc8 : a0 = (42 : Int32)
      · rw [if_pos hc8] at h
        refine zz_tableIn (tgt := 128) (off := 127) (pc := 1) C (by rw [hc8]; decide) (by rw [hc8]; decide) (by rw [hc8]; decide) (by decide) d_M_twoOf_1 ?_
        refine zz_iload_n (i := 1) (pc := 128) C rfl rfl d_M_twoOf_128 ?_
        refine zz_iload_n (i := 2) (pc := 129) C rfl rfl d_M_twoOf_129 ?_
        refine zz_imul (pc := 130) C d_M_twoOf_130 ?_
        replace h := Option.some.inj h
        subst h
        exact zz_ret (pc := 131) C (v := some (.int (a1 * a2))) d_M_twoOf_131 (Or.inl ⟨_, _, rfl, rfl, rfl, rfl⟩) rfl
      · rw [if_neg hc8] at h
        by_cases hc9 : a0 = (43 : Int32)
        · rw [if_pos hc9] at h
          refine zz_tableIn (tgt := 120) (off := 119) (pc := 1) C (by rw [hc9]; decide) (by rw [hc9]; decide) (by rw [hc9]; decide) (by decide) d_M_twoOf_1 ?_
          refine zz_iload_n (i := 1) (pc := 120) C rfl rfl d_M_twoOf_120 ?_
          refine zz_iload_n (i := 2) (pc := 121) C rfl rfl d_M_twoOf_121 ?_
          refine zz_iadd (pc := 122) C d_M_twoOf_122 ?_
          replace h := Option.some.inj h
          subst h
          exact zz_ret (pc := 123) C (v := some (.int (a1 + a2))) d_M_twoOf_123 (Or.inl ⟨_, _, rfl, rfl, rfl, rfl⟩) rfl
        · rw [if_neg hc9] at h
          by_cases hc10 : a0 = (45 : Int32)
          · rw [if_pos hc10] at h
            refine zz_tableIn (tgt := 124) (off := 123) (pc := 1) C (by rw [hc10]; decide) (by rw [hc10]; decide) (by rw [hc10]; decide) (by decide) d_M_twoOf_1 ?_
            refine zz_iload_n (i := 1) (pc := 124) C rfl rfl d_M_twoOf_124 ?_
            refine zz_iload_n (i := 2) (pc := 125) C rfl rfl d_M_twoOf_125 ?_
            refine zz_isub (pc := 126) C d_M_twoOf_126 ?_
            replace h := Option.some.inj h
            subst h
            exact zz_ret (pc := 127) C (v := some (.int (a1 - a2))) d_M_twoOf_127 (Or.inl ⟨_, _, rfl, rfl, rfl, rfl⟩) rfl
          · rw [if_neg hc10] at h
            by_cases hc11 : a0 = (47 : Int32)
            · rw [if_pos hc11] at h
              refine zz_tableIn (tgt := 132) (off := 131) (pc := 1) C (by rw [hc11]; decide) (by rw [hc11]; decide) (by rw [hc11]; decide) (by decide) d_M_twoOf_1 ?_
              refine zz_iload_n (i := 2) (pc := 132) C rfl rfl d_M_twoOf_132 ?_
              refine zz_if_ne (tgt := 140) (pc := 133) C (by decide) d_M_twoOf_133 (fun hc12 => ?_) (fun hc12 => ?_)
              · rw [if_neg hc12] at h
                refine zz_iload_n (i := 2) (pc := 140) C rfl rfl d_M_twoOf_140 ?_
                refine zz_iconst (pc := 141) C zki_m1 d_M_twoOf_141 ?_
                refine zz_icmp_ne (tgt := 150) (pc := 142) C (by decide) d_M_twoOf_142 (fun hc13 => ?_) (fun hc13 => ?_)
                · rw [if_neg hc13] at h
                  refine zz_iload_n (i := 1) (pc := 150) C rfl rfl d_M_twoOf_150 ?_
                  refine zz_iload_n (i := 2) (pc := 151) C rfl rfl d_M_twoOf_151 ?_
                  obtain ⟨hy14, h⟩ := zz_ckN h
                  refine zz_idiv (pc := 152) C hy14 d_M_twoOf_152 ?_
                  replace h := Option.some.inj h
                  subst h
                  exact zz_ret (pc := 153) C (v := some (.int (a1 / a2))) d_M_twoOf_153 (Or.inl ⟨_, _, rfl, rfl, rfl, rfl⟩) rfl
                · rw [if_pos hc13] at h
                  refine zz_iload_n (i := 1) (pc := 145) C rfl rfl d_M_twoOf_145 ?_
                  refine zz_ineg (pc := 146) C d_M_twoOf_146 ?_
                  refine zz_goto (tgt := 153) (pc := 147) C (by decide) d_M_twoOf_147 ?_
                  replace h := Option.some.inj h
                  subst h
                  exact zz_ret (pc := 153) C (v := some (.int (-a1))) d_M_twoOf_153 (Or.inl ⟨_, _, rfl, rfl, rfl, rfl⟩) rfl
              · rw [if_pos hc12] at h
                refine zz_iconst (pc := 136) C zki_0 d_M_twoOf_136 ?_
                refine zz_goto (tgt := 153) (pc := 137) C (by decide) d_M_twoOf_137 ?_
                replace h := Option.some.inj h
                subst h
                exact zz_ret (pc := 153) C (v := some (.int (0 : Int32))) d_M_twoOf_153 (Or.inl ⟨_, _, rfl, rfl, rfl, rfl⟩) rfl
            · rw [if_neg hc11] at h
              by_cases hc15 : a0 = (60 : Int32)
              · rw [if_pos hc15] at h
                refine zz_tableIn (tgt := 171) (off := 170) (pc := 1) C (by rw [hc15]; decide) (by rw [hc15]; decide) (by rw [hc15]; decide) (by decide) d_M_twoOf_1 ?_
                refine zz_iload_n (i := 1) (pc := 171) C rfl rfl d_M_twoOf_171 ?_
                refine zz_iload_n (i := 2) (pc := 172) C rfl rfl d_M_twoOf_172 ?_
                refine zz_icmp_ge (tgt := 180) (pc := 173) C (by decide) d_M_twoOf_173 (fun hc16 => ?_) (fun hc16 => ?_)
                · rw [if_pos hc16] at h
                  refine zz_iconst (pc := 180) C zki_0 d_M_twoOf_180 ?_
                  replace h := Option.some.inj h
                  subst h
                  exact zz_ret (pc := 181) C (v := some (.int (0 : Int32))) d_M_twoOf_181 (Or.inl ⟨_, _, rfl, rfl, rfl, rfl⟩) rfl
                · rw [if_neg hc16] at h
                  refine zz_iconst (pc := 176) C zki_1 d_M_twoOf_176 ?_
                  refine zz_goto (tgt := 181) (pc := 177) C (by decide) d_M_twoOf_177 ?_
                  replace h := Option.some.inj h
                  subst h
                  exact zz_ret (pc := 181) C (v := some (.int (1 : Int32))) d_M_twoOf_181 (Or.inl ⟨_, _, rfl, rfl, rfl, rfl⟩) rfl
              · rw [if_neg hc15] at h
                by_cases hc17 : a0 = (61 : Int32)
                · rw [if_pos hc17] at h
                  refine zz_tableIn (tgt := 182) (off := 181) (pc := 1) C (by rw [hc17]; decide) (by rw [hc17]; decide) (by rw [hc17]; decide) (by decide) d_M_twoOf_1 ?_
                  refine zz_iload_n (i := 1) (pc := 182) C rfl rfl d_M_twoOf_182 ?_
                  refine zz_iload_n (i := 2) (pc := 183) C rfl rfl d_M_twoOf_183 ?_
                  refine zz_icmp_ne (tgt := 191) (pc := 184) C (by decide) d_M_twoOf_184 (fun hc18 => ?_) (fun hc18 => ?_)
                  · rw [if_neg hc18] at h
                    refine zz_iconst (pc := 191) C zki_0 d_M_twoOf_191 ?_
                    replace h := Option.some.inj h
                    subst h
                    exact zz_ret (pc := 192) C (v := some (.int (0 : Int32))) d_M_twoOf_192 (Or.inl ⟨_, _, rfl, rfl, rfl, rfl⟩) rfl
                  · rw [if_pos hc18] at h
                    refine zz_iconst (pc := 187) C zki_1 d_M_twoOf_187 ?_
                    refine zz_goto (tgt := 192) (pc := 188) C (by decide) d_M_twoOf_188 ?_
                    replace h := Option.some.inj h
                    subst h
                    exact zz_ret (pc := 192) C (v := some (.int (1 : Int32))) d_M_twoOf_192 (Or.inl ⟨_, _, rfl, rfl, rfl, rfl⟩) rfl
                · rw [if_neg hc17] at h
                  by_cases hc19 : a0 = (62 : Int32)
                  · rw [if_pos hc19] at h
                    refine zz_tableIn (tgt := 193) (off := 192) (pc := 1) C (by rw [hc19]; decide) (by rw [hc19]; decide) (by rw [hc19]; decide) (by decide) d_M_twoOf_1 ?_
                    refine zz_iload_n (i := 1) (pc := 193) C rfl rfl d_M_twoOf_193 ?_
                    refine zz_iload_n (i := 2) (pc := 194) C rfl rfl d_M_twoOf_194 ?_
                    refine zz_icmp_le (tgt := 202) (pc := 195) C (by decide) d_M_twoOf_195 (fun hc20 => ?_) (fun hc20 => ?_)
                    · rw [if_pos hc20] at h
                      refine zz_iconst (pc := 202) C zki_0 d_M_twoOf_202 ?_
                      replace h := Option.some.inj h
                      subst h
                      exact zz_ret (pc := 203) C (v := some (.int (0 : Int32))) d_M_twoOf_203 (Or.inl ⟨_, _, rfl, rfl, rfl, rfl⟩) rfl
                    · rw [if_neg hc20] at h
                      refine zz_iconst (pc := 198) C zki_1 d_M_twoOf_198 ?_
                      refine zz_goto (tgt := 203) (pc := 199) C (by decide) d_M_twoOf_199 ?_
                      replace h := Option.some.inj h
                      subst h
                      exact zz_ret (pc := 203) C (v := some (.int (1 : Int32))) d_M_twoOf_203 (Or.inl ⟨_, _, rfl, rfl, rfl, rfl⟩) rfl
                  · rw [if_neg hc19] at h
                    have hc1i : a0.toInt ≠ 37 := fun e => hc1 (Int32.toInt_inj.mp e)
                    have hc5i : a0.toInt ≠ 38 := fun e => hc5 (Int32.toInt_inj.mp e)
                    have hc8i : a0.toInt ≠ 42 := fun e => hc8 (Int32.toInt_inj.mp e)
                    have hc9i : a0.toInt ≠ 43 := fun e => hc9 (Int32.toInt_inj.mp e)
                    have hc10i : a0.toInt ≠ 45 := fun e => hc10 (Int32.toInt_inj.mp e)
                    have hc11i : a0.toInt ≠ 47 := fun e => hc11 (Int32.toInt_inj.mp e)
                    have hc15i : a0.toInt ≠ 60 := fun e => hc15 (Int32.toInt_inj.mp e)
                    have hc17i : a0.toInt ≠ 61 := fun e => hc17 (Int32.toInt_inj.mp e)
                    have hc19i : a0.toInt ≠ 62 := fun e => hc19 (Int32.toInt_inj.mp e)
                    have hdef : Z 218 [some (.int a0), some (.int a1), some (.int a2)] [] sh s := by
                      refine zz_iload_n (i := 1) (pc := 218) C rfl rfl d_M_twoOf_218 ?_
                      refine zz_if_ne (tgt := 226) (pc := 219) C (by decide) d_M_twoOf_219 (fun hc21 => ?_) (fun hc21 => ?_)
                      · rw [if_neg hc21] at h
                        refine zz_fg C [false, false, false] rfl rfl ?_
                        exact zf_M_twoOf_J226 C h
                      · rw [if_pos hc21] at h
                        refine zz_iload_n (i := 2) (pc := 222) C rfl rfl d_M_twoOf_222 ?_
                        refine zz_if_eq (tgt := 230) (pc := 223) C (by decide) d_M_twoOf_223 (fun hc22 => ?_) (fun hc22 => ?_)
                        · rw [if_pos hc22] at h
                          refine zz_iconst (pc := 230) C zki_0 d_M_twoOf_230 ?_
                          replace h := Option.some.inj h
                          subst h
                          exact zz_ret (pc := 231) C (v := some (.int (0 : Int32))) d_M_twoOf_231 (Or.inl ⟨_, _, rfl, rfl, rfl, rfl⟩) rfl
                        · rw [if_neg hc22] at h
                          refine zz_fg C [false, false, false] rfl rfl ?_
                          exact zf_M_twoOf_J226 C h
                    by_cases hlo : a0.toInt < 37 ∨ 62 < a0.toInt
                    · exact zz_tableOut (tgt := 218) (pc := 1) C hlo (by decide) d_M_twoOf_1 hdef
                    by_cases hk39 : a0.toInt = 39
                    · exact zz_tableIn (tgt := 218) (off := 217) (pc := 1) C (by omega) (by omega) (by rw [hk39]; decide) (by decide) d_M_twoOf_1 hdef
                    by_cases hk40 : a0.toInt = 40
                    · exact zz_tableIn (tgt := 218) (off := 217) (pc := 1) C (by omega) (by omega) (by rw [hk40]; decide) (by decide) d_M_twoOf_1 hdef
                    by_cases hk41 : a0.toInt = 41
                    · exact zz_tableIn (tgt := 218) (off := 217) (pc := 1) C (by omega) (by omega) (by rw [hk41]; decide) (by decide) d_M_twoOf_1 hdef
                    by_cases hk44 : a0.toInt = 44
                    · exact zz_tableIn (tgt := 218) (off := 217) (pc := 1) C (by omega) (by omega) (by rw [hk44]; decide) (by decide) d_M_twoOf_1 hdef
                    by_cases hk46 : a0.toInt = 46
                    · exact zz_tableIn (tgt := 218) (off := 217) (pc := 1) C (by omega) (by omega) (by rw [hk46]; decide) (by decide) d_M_twoOf_1 hdef
                    by_cases hk48 : a0.toInt = 48
                    · exact zz_tableIn (tgt := 218) (off := 217) (pc := 1) C (by omega) (by omega) (by rw [hk48]; decide) (by decide) d_M_twoOf_1 hdef
                    by_cases hk49 : a0.toInt = 49
                    · exact zz_tableIn (tgt := 218) (off := 217) (pc := 1) C (by omega) (by omega) (by rw [hk49]; decide) (by decide) d_M_twoOf_1 hdef
                    by_cases hk50 : a0.toInt = 50
                    · exact zz_tableIn (tgt := 218) (off := 217) (pc := 1) C (by omega) (by omega) (by rw [hk50]; decide) (by decide) d_M_twoOf_1 hdef
                    by_cases hk51 : a0.toInt = 51
                    · exact zz_tableIn (tgt := 218) (off := 217) (pc := 1) C (by omega) (by omega) (by rw [hk51]; decide) (by decide) d_M_twoOf_1 hdef
                    by_cases hk52 : a0.toInt = 52
                    · exact zz_tableIn (tgt := 218) (off := 217) (pc := 1) C (by omega) (by omega) (by rw [hk52]; decide) (by decide) d_M_twoOf_1 hdef
                    by_cases hk53 : a0.toInt = 53
                    · exact zz_tableIn (tgt := 218) (off := 217) (pc := 1) C (by omega) (by omega) (by rw [hk53]; decide) (by decide) d_M_twoOf_1 hdef
                    by_cases hk54 : a0.toInt = 54
                    · exact zz_tableIn (tgt := 218) (off := 217) (pc := 1) C (by omega) (by omega) (by rw [hk54]; decide) (by decide) d_M_twoOf_1 hdef
                    by_cases hk55 : a0.toInt = 55
                    · exact zz_tableIn (tgt := 218) (off := 217) (pc := 1) C (by omega) (by omega) (by rw [hk55]; decide) (by decide) d_M_twoOf_1 hdef
                    by_cases hk56 : a0.toInt = 56
                    · exact zz_tableIn (tgt := 218) (off := 217) (pc := 1) C (by omega) (by omega) (by rw [hk56]; decide) (by decide) d_M_twoOf_1 hdef
                    by_cases hk57 : a0.toInt = 57
                    · exact zz_tableIn (tgt := 218) (off := 217) (pc := 1) C (by omega) (by omega) (by rw [hk57]; decide) (by decide) d_M_twoOf_1 hdef
                    by_cases hk58 : a0.toInt = 58
                    · exact zz_tableIn (tgt := 218) (off := 217) (pc := 1) C (by omega) (by omega) (by rw [hk58]; decide) (by decide) d_M_twoOf_1 hdef
                    by_cases hk59 : a0.toInt = 59
                    · exact zz_tableIn (tgt := 218) (off := 217) (pc := 1) C (by omega) (by omega) (by rw [hk59]; decide) (by decide) d_M_twoOf_1 hdef
                    exact absurd hlo (by omega)
theorem zm_M_twoOf {G : zz_G} {l : Launch} {sh : List zz_Sh} {s : zz_S} {q : Int32} {a0 : Int32} {a1 : Int32} {a2 : Int32} (h : f_M_twoOf a0 a1 a2 = some q) : zz_M G l 2 y_M_twoOf prog_14_method_34_code 3 (some .int) [.int a0, .int a1, .int a2] sh s (some (.int q), sh, s) :=
  zz_M.intro (by decide) (Nat.le_of_ble_eq_true rfl) (Nat.le_refl _) (Nat.le_refl _) (fun Z C => zf_M_twoOf C a0 a1 a2 h)
theorem d_M_worked_0 : decode prog_14_method_35_code 0 = .ok (.iconst 0, 1) := by decide +kernel
theorem d_M_worked_1 : decode prog_14_method_35_code 1 = .ok (.istore 4, 2) := by decide +kernel
theorem d_M_worked_3 : decode prog_14_method_35_code 3 = .ok (.sipush (130), 3) := by decide +kernel
theorem d_M_worked_6 : decode prog_14_method_35_code 6 = .ok (.iload_n 1, 1) := by decide +kernel
theorem d_M_worked_7 : decode prog_14_method_35_code 7 = .ok (.imul, 1) := by decide +kernel
theorem d_M_worked_8 : decode prog_14_method_35_code 8 = .ok (.iload_n 2, 1) := by decide +kernel
theorem d_M_worked_9 : decode prog_14_method_35_code 9 = .ok (.iadd, 1) := by decide +kernel
theorem d_M_worked_10 : decode prog_14_method_35_code 10 = .ok (.istore 5, 2) := by decide +kernel
theorem d_M_worked_12 : decode prog_14_method_35_code 12 = .ok (.iload 5, 2) := by decide +kernel
theorem d_M_worked_14 : decode prog_14_method_35_code 14 = .ok (.sipush (130), 3) := by decide +kernel
theorem d_M_worked_17 : decode prog_14_method_35_code 17 = .ok (.iload_n 1, 1) := by decide +kernel
theorem d_M_worked_18 : decode prog_14_method_35_code 18 = .ok (.imul, 1) := by decide +kernel
theorem d_M_worked_19 : decode prog_14_method_35_code 19 = .ok (.iload_n 3, 1) := by decide +kernel
theorem d_M_worked_20 : decode prog_14_method_35_code 20 = .ok (.iadd, 1) := by decide +kernel
theorem d_M_worked_21 : decode prog_14_method_35_code 21 = .ok (.if_icmp .ge (167), 3) := by decide +kernel
theorem d_M_worked_24 : decode prog_14_method_35_code 24 = .ok (.aload_n 0, 1) := by decide +kernel
theorem d_M_worked_25 : decode prog_14_method_35_code 25 = .ok (.getfield 63, 3) := by decide +kernel
theorem d_M_worked_28 : decode prog_14_method_35_code 28 = .ok (.iload 5, 2) := by decide +kernel
theorem d_M_worked_30 : decode prog_14_method_35_code 30 = .ok (.baload, 1) := by decide +kernel
theorem d_M_worked_31 : decode prog_14_method_35_code 31 = .ok (.istore 6, 2) := by decide +kernel
theorem d_M_worked_33 : decode prog_14_method_35_code 33 = .ok (.iload 6, 2) := by decide +kernel
theorem d_M_worked_35 : decode prog_14_method_35_code 35 = .ok (.iconst 1, 1) := by decide +kernel
theorem d_M_worked_36 : decode prog_14_method_35_code 36 = .ok (.if_icmp .eq (9), 3) := by decide +kernel
theorem d_M_worked_39 : decode prog_14_method_35_code 39 = .ok (.iload 6, 2) := by decide +kernel
theorem d_M_worked_41 : decode prog_14_method_35_code 41 = .ok (.iconst 2, 1) := by decide +kernel
theorem d_M_worked_42 : decode prog_14_method_35_code 42 = .ok (.if_icmp .ne (44), 3) := by decide +kernel
theorem d_M_worked_45 : decode prog_14_method_35_code 45 = .ok (.aload_n 0, 1) := by decide +kernel
theorem d_M_worked_46 : decode prog_14_method_35_code 46 = .ok (.getfield 82, 3) := by decide +kernel
theorem d_M_worked_49 : decode prog_14_method_35_code 49 = .ok (.iload 4, 2) := by decide +kernel
theorem d_M_worked_51 : decode prog_14_method_35_code 51 = .ok (.iload 6, 2) := by decide +kernel
theorem d_M_worked_53 : decode prog_14_method_35_code 53 = .ok (.iconst 1, 1) := by decide +kernel
theorem d_M_worked_54 : decode prog_14_method_35_code 54 = .ok (.if_icmp .ne (13), 3) := by decide +kernel
theorem d_M_worked_57 : decode prog_14_method_35_code 57 = .ok (.aload_n 0, 1) := by decide +kernel
theorem d_M_worked_58 : decode prog_14_method_35_code 58 = .ok (.getfield 66, 3) := by decide +kernel
theorem d_M_worked_61 : decode prog_14_method_35_code 61 = .ok (.iload 5, 2) := by decide +kernel
theorem d_M_worked_63 : decode prog_14_method_35_code 63 = .ok (.iaload, 1) := by decide +kernel
theorem d_M_worked_64 : decode prog_14_method_35_code 64 = .ok (.goto (15), 3) := by decide +kernel
theorem d_M_worked_67 : decode prog_14_method_35_code 67 = .ok (.aload_n 0, 1) := by decide +kernel
theorem d_M_worked_68 : decode prog_14_method_35_code 68 = .ok (.getfield 79, 3) := by decide +kernel
theorem d_M_worked_71 : decode prog_14_method_35_code 71 = .ok (.aload_n 0, 1) := by decide +kernel
theorem d_M_worked_72 : decode prog_14_method_35_code 72 = .ok (.getfield 66, 3) := by decide +kernel
theorem d_M_worked_75 : decode prog_14_method_35_code 75 = .ok (.iload 5, 2) := by decide +kernel
theorem d_M_worked_77 : decode prog_14_method_35_code 77 = .ok (.iaload, 1) := by decide +kernel
theorem d_M_worked_78 : decode prog_14_method_35_code 78 = .ok (.iaload, 1) := by decide +kernel
theorem d_M_worked_79 : decode prog_14_method_35_code 79 = .ok (.iastore, 1) := by decide +kernel
theorem d_M_worked_80 : decode prog_14_method_35_code 80 = .ok (.iinc 4 (1), 3) := by decide +kernel
theorem d_M_worked_83 : decode prog_14_method_35_code 83 = .ok (.goto (99), 3) := by decide +kernel
theorem d_M_worked_86 : decode prog_14_method_35_code 86 = .ok (.iload 6, 2) := by decide +kernel
theorem d_M_worked_88 : decode prog_14_method_35_code 88 = .ok (.iconst 3, 1) := by decide +kernel
theorem d_M_worked_89 : decode prog_14_method_35_code 89 = .ok (.if_icmp .ne (32), 3) := by decide +kernel
theorem d_M_worked_92 : decode prog_14_method_35_code 92 = .ok (.aload_n 0, 1) := by decide +kernel
theorem d_M_worked_93 : decode prog_14_method_35_code 93 = .ok (.getfield 82, 3) := by decide +kernel
theorem d_M_worked_96 : decode prog_14_method_35_code 96 = .ok (.iload 4, 2) := by decide +kernel
theorem d_M_worked_98 : decode prog_14_method_35_code 98 = .ok (.iconst 1, 1) := by decide +kernel
theorem d_M_worked_99 : decode prog_14_method_35_code 99 = .ok (.isub, 1) := by decide +kernel
theorem d_M_worked_100 : decode prog_14_method_35_code 100 = .ok (.aload_n 0, 1) := by decide +kernel
theorem d_M_worked_101 : decode prog_14_method_35_code 101 = .ok (.getfield 82, 3) := by decide +kernel
theorem d_M_worked_104 : decode prog_14_method_35_code 104 = .ok (.iload 4, 2) := by decide +kernel
theorem d_M_worked_106 : decode prog_14_method_35_code 106 = .ok (.iconst 1, 1) := by decide +kernel
theorem d_M_worked_107 : decode prog_14_method_35_code 107 = .ok (.isub, 1) := by decide +kernel
theorem d_M_worked_108 : decode prog_14_method_35_code 108 = .ok (.iaload, 1) := by decide +kernel
theorem d_M_worked_109 : decode prog_14_method_35_code 109 = .ok (.ifCond .ne (7), 3) := by decide +kernel
theorem d_M_worked_112 : decode prog_14_method_35_code 112 = .ok (.iconst 1, 1) := by decide +kernel
theorem d_M_worked_113 : decode prog_14_method_35_code 113 = .ok (.goto (4), 3) := by decide +kernel
theorem d_M_worked_116 : decode prog_14_method_35_code 116 = .ok (.iconst 0, 1) := by decide +kernel
theorem d_M_worked_117 : decode prog_14_method_35_code 117 = .ok (.iastore, 1) := by decide +kernel
theorem d_M_worked_118 : decode prog_14_method_35_code 118 = .ok (.goto (64), 3) := by decide +kernel
theorem d_M_worked_121 : decode prog_14_method_35_code 121 = .ok (.iload 6, 2) := by decide +kernel
theorem d_M_worked_123 : decode prog_14_method_35_code 123 = .ok (.iconst 4, 1) := by decide +kernel
theorem d_M_worked_124 : decode prog_14_method_35_code 124 = .ok (.if_icmp .ne (25), 3) := by decide +kernel
theorem d_M_worked_127 : decode prog_14_method_35_code 127 = .ok (.aload_n 0, 1) := by decide +kernel
theorem d_M_worked_128 : decode prog_14_method_35_code 128 = .ok (.getfield 82, 3) := by decide +kernel
theorem d_M_worked_131 : decode prog_14_method_35_code 131 = .ok (.iload 4, 2) := by decide +kernel
theorem d_M_worked_133 : decode prog_14_method_35_code 133 = .ok (.iconst 1, 1) := by decide +kernel
theorem d_M_worked_134 : decode prog_14_method_35_code 134 = .ok (.isub, 1) := by decide +kernel
theorem d_M_worked_135 : decode prog_14_method_35_code 135 = .ok (.aload_n 0, 1) := by decide +kernel
theorem d_M_worked_136 : decode prog_14_method_35_code 136 = .ok (.getfield 82, 3) := by decide +kernel
theorem d_M_worked_139 : decode prog_14_method_35_code 139 = .ok (.iload 4, 2) := by decide +kernel
theorem d_M_worked_141 : decode prog_14_method_35_code 141 = .ok (.iconst 1, 1) := by decide +kernel
theorem d_M_worked_142 : decode prog_14_method_35_code 142 = .ok (.isub, 1) := by decide +kernel
theorem d_M_worked_143 : decode prog_14_method_35_code 143 = .ok (.iaload, 1) := by decide +kernel
theorem d_M_worked_144 : decode prog_14_method_35_code 144 = .ok (.ineg, 1) := by decide +kernel
theorem d_M_worked_145 : decode prog_14_method_35_code 145 = .ok (.iastore, 1) := by decide +kernel
theorem d_M_worked_146 : decode prog_14_method_35_code 146 = .ok (.goto (36), 3) := by decide +kernel
theorem d_M_worked_149 : decode prog_14_method_35_code 149 = .ok (.iinc 4 (-1), 3) := by decide +kernel
theorem d_M_worked_152 : decode prog_14_method_35_code 152 = .ok (.aload_n 0, 1) := by decide +kernel
theorem d_M_worked_153 : decode prog_14_method_35_code 153 = .ok (.getfield 82, 3) := by decide +kernel
theorem d_M_worked_156 : decode prog_14_method_35_code 156 = .ok (.iload 4, 2) := by decide +kernel
theorem d_M_worked_158 : decode prog_14_method_35_code 158 = .ok (.iconst 1, 1) := by decide +kernel
theorem d_M_worked_159 : decode prog_14_method_35_code 159 = .ok (.isub, 1) := by decide +kernel
theorem d_M_worked_160 : decode prog_14_method_35_code 160 = .ok (.iload 6, 2) := by decide +kernel
theorem d_M_worked_162 : decode prog_14_method_35_code 162 = .ok (.aload_n 0, 1) := by decide +kernel
theorem d_M_worked_163 : decode prog_14_method_35_code 163 = .ok (.getfield 82, 3) := by decide +kernel
theorem d_M_worked_166 : decode prog_14_method_35_code 166 = .ok (.iload 4, 2) := by decide +kernel
theorem d_M_worked_168 : decode prog_14_method_35_code 168 = .ok (.iconst 1, 1) := by decide +kernel
theorem d_M_worked_169 : decode prog_14_method_35_code 169 = .ok (.isub, 1) := by decide +kernel
theorem d_M_worked_170 : decode prog_14_method_35_code 170 = .ok (.iaload, 1) := by decide +kernel
theorem d_M_worked_171 : decode prog_14_method_35_code 171 = .ok (.aload_n 0, 1) := by decide +kernel
theorem d_M_worked_172 : decode prog_14_method_35_code 172 = .ok (.getfield 82, 3) := by decide +kernel
theorem d_M_worked_175 : decode prog_14_method_35_code 175 = .ok (.iload 4, 2) := by decide +kernel
theorem d_M_worked_177 : decode prog_14_method_35_code 177 = .ok (.iaload, 1) := by decide +kernel
theorem d_M_worked_178 : decode prog_14_method_35_code 178 = .ok (.invokestatic 252, 3) := by decide +kernel
theorem d_M_worked_181 : decode prog_14_method_35_code 181 = .ok (.iastore, 1) := by decide +kernel
theorem d_M_worked_182 : decode prog_14_method_35_code 182 = .ok (.iinc 5 (1), 3) := by decide +kernel
theorem d_M_worked_185 : decode prog_14_method_35_code 185 = .ok (.goto (-173), 3) := by decide +kernel
theorem d_M_worked_188 : decode prog_14_method_35_code 188 = .ok (.aload_n 0, 1) := by decide +kernel
theorem d_M_worked_189 : decode prog_14_method_35_code 189 = .ok (.getfield 82, 3) := by decide +kernel
theorem d_M_worked_192 : decode prog_14_method_35_code 192 = .ok (.iconst 0, 1) := by decide +kernel
theorem d_M_worked_193 : decode prog_14_method_35_code 193 = .ok (.iaload, 1) := by decide +kernel
theorem d_M_worked_194 : decode prog_14_method_35_code 194 = .ok (.ireturn, 1) := by decide +kernel
set_option maxHeartbeats 4000000 in
set_option maxRecDepth 100000 in
theorem zf_M_worked_J79 {G : zz_G} {l : Launch} {Z : zz_Z} {q : Int32 × zz_S} {s : zz_S} (C : zz_Cx G l "OneBlanketModel" "worked" prog_14_method_35_code 7 (some .int) 3 (some (.int q.1), zsh, q.2) Z) (K12 : Int32 → Int32 → Int32 → Int32 → zz_S → Option (Int32 × zz_S)) (hK12 : ∀ (v1 : Int32) (v3 : Int32) (v4 : Int32) (v5 : Int32) (s : zz_S), K12 v1 v3 v4 v5 s = some q → Z 12 [some (.ref 79), some (.int v1), none, some (.int v3), some (.int v4), some (.int v5), none] [] zsh s) (v1 : Int32) (v3 : Int32) (v4 : Int32) (v5 : Int32) (t1 : Int32) (t2 : Int32) (h : f_M_worked_J79 K12 v1 v3 v4 v5 t1 t2 s = some q) : Z 79 [some (.ref 79), some (.int v1), none, some (.int v3), some (.int v4), some (.int v5), none] [.int t2, .int t1, .ref 102] zsh s := by
  unfold f_M_worked_J79 at h
  obtain ⟨hi7, h⟩ := zz_ckE h
  refine zz_iast (pc := 79) C rfl zsh_102 hi7 d_M_worked_79 ?_
  refine zz_iinc (lo' := [some (.ref 79), some (.int v1), none, some (.int v3), some (.int (v4 + (1 : Int32))), some (.int v5), none]) (pc := 80) C rfl (zz_inc zki_1) rfl rfl d_M_worked_80 ?_
  refine zz_goto (tgt := 182) (pc := 83) C (by decide) d_M_worked_83 ?_
  refine zz_iinc (lo' := [some (.ref 79), some (.int v1), none, some (.int v3), some (.int (v4 + (1 : Int32))), some (.int (v5 + (1 : Int32))), none]) (pc := 182) C rfl (zz_inc zki_1) rfl rfl d_M_worked_182 ?_
  refine zz_goto (tgt := 12) (pc := 185) C (by decide) d_M_worked_185 ?_
  exact hK12 v1 v3 (v4 + (1 : Int32)) (v5 + (1 : Int32)) (zz_w s 102 (t1.toNatClampNeg) t2) h
set_option maxHeartbeats 4000000 in
set_option maxRecDepth 100000 in
theorem zf_M_worked_J45 {G : zz_G} {l : Launch} {Z : zz_Z} {q : Int32 × zz_S} {s : zz_S} (C : zz_Cx G l "OneBlanketModel" "worked" prog_14_method_35_code 7 (some .int) 3 (some (.int q.1), zsh, q.2) Z) (K12 : Int32 → Int32 → Int32 → Int32 → zz_S → Option (Int32 × zz_S)) (hK12 : ∀ (v1 : Int32) (v3 : Int32) (v4 : Int32) (v5 : Int32) (s : zz_S), K12 v1 v3 v4 v5 s = some q → Z 12 [some (.ref 79), some (.int v1), none, some (.int v3), some (.int v4), some (.int v5), none] [] zsh s) (v1 : Int32) (v3 : Int32) (v4 : Int32) (v5 : Int32) (v6 : Int32) (h : f_M_worked_J45 K12 v1 v3 v4 v5 v6 s = some q) : Z 45 [some (.ref 79), some (.int v1), none, some (.int v3), some (.int v4), some (.int v5), some (.int v6)] [] zsh s := by
  unfold f_M_worked_J45 at h
  refine zz_aload_n (i := 0) (pc := 45) C rfl rfl d_M_worked_45 ?_
  refine zz_getR (pc := 46) C zl_12_82 zsh_79 rfl d_M_worked_46 ?_
  refine zz_iload (i := 4) (pc := 49) C rfl d_M_worked_49 ?_
  refine zz_iload (i := 6) (pc := 51) C rfl d_M_worked_51 ?_
  refine zz_iconst (pc := 53) C zki_1 d_M_worked_53 ?_
  refine zz_icmp_ne (tgt := 67) (pc := 54) C (by decide) d_M_worked_54 (fun hc4 => ?_) (fun hc4 => ?_)
  · rw [if_neg hc4] at h
    refine zz_aload_n (i := 0) (pc := 67) C rfl rfl d_M_worked_67 ?_
    refine zz_getR (pc := 68) C zl_12_79 zsh_79 rfl d_M_worked_68 ?_
    refine zz_aload_n (i := 0) (pc := 71) C rfl rfl d_M_worked_71 ?_
    refine zz_getR (pc := 72) C zl_12_66 zsh_79 rfl d_M_worked_72 ?_
    refine zz_iload (i := 5) (pc := 75) C rfl d_M_worked_75 ?_
    obtain ⟨hi5, h⟩ := zz_ckE h
    refine zz_iald (pc := 77) C rfl zsh_97 hi5 d_M_worked_77 ?_
    obtain ⟨hi6, h⟩ := zz_ckE h
    refine zz_iald (pc := 78) C rfl zsh_101 hi6 d_M_worked_78 ?_
    refine zz_fg C [true, true, false, true, true, true, false] rfl rfl ?_
    exact zf_M_worked_J79 C K12 hK12 v1 v3 v4 v5 v4 (s.1 101 ((s.1 97 (v5.toNatClampNeg)).toNatClampNeg)) h
  · rw [if_pos hc4] at h
    refine zz_aload_n (i := 0) (pc := 57) C rfl rfl d_M_worked_57 ?_
    refine zz_getR (pc := 58) C zl_12_66 zsh_79 rfl d_M_worked_58 ?_
    refine zz_iload (i := 5) (pc := 61) C rfl d_M_worked_61 ?_
    obtain ⟨hi8, h⟩ := zz_ckE h
    refine zz_iald (pc := 63) C rfl zsh_97 hi8 d_M_worked_63 ?_
    refine zz_goto (tgt := 79) (pc := 64) C (by decide) d_M_worked_64 ?_
    refine zz_fg C [true, true, false, true, true, true, false] rfl rfl ?_
    exact zf_M_worked_J79 C K12 hK12 v1 v3 v4 v5 v4 (s.1 97 (v5.toNatClampNeg)) h
set_option maxHeartbeats 4000000 in
set_option maxRecDepth 100000 in
theorem zf_M_worked_J117 {G : zz_G} {l : Launch} {Z : zz_Z} {q : Int32 × zz_S} {s : zz_S} (C : zz_Cx G l "OneBlanketModel" "worked" prog_14_method_35_code 7 (some .int) 3 (some (.int q.1), zsh, q.2) Z) (K12 : Int32 → Int32 → Int32 → Int32 → zz_S → Option (Int32 × zz_S)) (hK12 : ∀ (v1 : Int32) (v3 : Int32) (v4 : Int32) (v5 : Int32) (s : zz_S), K12 v1 v3 v4 v5 s = some q → Z 12 [some (.ref 79), some (.int v1), none, some (.int v3), some (.int v4), some (.int v5), none] [] zsh s) (v1 : Int32) (v3 : Int32) (v4 : Int32) (v5 : Int32) (t1 : Int32) (t2 : Int32) (h : f_M_worked_J117 K12 v1 v3 v4 v5 t1 t2 s = some q) : Z 117 [some (.ref 79), some (.int v1), none, some (.int v3), some (.int v4), some (.int v5), none] [.int t2, .int t1, .ref 102] zsh s := by
  unfold f_M_worked_J117 at h
  obtain ⟨hi18, h⟩ := zz_ckE h
  refine zz_iast (pc := 117) C rfl zsh_102 hi18 d_M_worked_117 ?_
  refine zz_goto (tgt := 182) (pc := 118) C (by decide) d_M_worked_118 ?_
  refine zz_iinc (lo' := [some (.ref 79), some (.int v1), none, some (.int v3), some (.int v4), some (.int (v5 + (1 : Int32))), none]) (pc := 182) C rfl (zz_inc zki_1) rfl rfl d_M_worked_182 ?_
  refine zz_goto (tgt := 12) (pc := 185) C (by decide) d_M_worked_185 ?_
  exact hK12 v1 v3 v4 (v5 + (1 : Int32)) (zz_w s 102 (t1.toNatClampNeg) t2) h
set_option maxHeartbeats 4000000 in
set_option maxRecDepth 100000 in
theorem zf_M_worked_L12 {G : zz_G} {l : Launch} {Z : zz_Z} {q : Int32 × zz_S} (C : zz_Cx G l "OneBlanketModel" "worked" prog_14_method_35_code 7 (some .int) 3 (some (.int q.1), zsh, q.2) Z) : ∀ (n : Nat) (v1 : Int32) (v3 : Int32) (v4 : Int32) (v5 : Int32) (s : zz_S), f_M_worked_L12 n v1 v3 v4 v5 s = some q → Z 12 [some (.ref 79), some (.int v1), none, some (.int v3), some (.int v4), some (.int v5), none] [] zsh s := by
  intro n
  induction n with
  | zero => intro v1 v3 v4 v5 s h; rw [f_M_worked_L12] at h; cases h
  | succ n ih =>
  intro v1 v3 v4 v5 s h
  rw [f_M_worked_L12] at h
  refine zz_iload (i := 5) (pc := 12) C rfl d_M_worked_12 ?_
  refine zz_sipush (pc := 14) C zks_130 d_M_worked_14 ?_
  refine zz_iload_n (i := 1) (pc := 17) C rfl rfl d_M_worked_17 ?_
  refine zz_imul (pc := 18) C d_M_worked_18 ?_
  refine zz_iload_n (i := 3) (pc := 19) C rfl rfl d_M_worked_19 ?_
  refine zz_iadd (pc := 20) C d_M_worked_20 ?_
  refine zz_icmp_ge (tgt := 188) (pc := 21) C (by decide) d_M_worked_21 (fun hc1 => ?_) (fun hc1 => ?_)
  · rw [if_pos hc1] at h
    refine zz_aload_n (i := 0) (pc := 188) C rfl rfl d_M_worked_188 ?_
    refine zz_getR (pc := 189) C zl_12_82 zsh_79 rfl d_M_worked_189 ?_
    refine zz_iconst (pc := 192) C zki_0 d_M_worked_192 ?_
    refine zz_iald (pc := 193) C zkx_0 zsh_102 (by decide) d_M_worked_193 ?_
    replace h := Option.some.inj h
    subst h
    exact zz_ret (pc := 194) C (v := some (.int (s.1 102 0))) d_M_worked_194 (Or.inl ⟨_, _, rfl, rfl, rfl, rfl⟩) rfl
  · rw [if_neg hc1] at h
    refine zz_aload_n (i := 0) (pc := 24) C rfl rfl d_M_worked_24 ?_
    refine zz_getR (pc := 25) C zl_12_63 zsh_79 rfl d_M_worked_25 ?_
    refine zz_iload (i := 5) (pc := 28) C rfl d_M_worked_28 ?_
    obtain ⟨hi2, h⟩ := zz_ckE h
    refine zz_bald (pc := 30) C rfl zsh_96 hi2 d_M_worked_30 ?_
    refine zz_istore (i := 6) (lo' := [some (.ref 79), some (.int v1), none, some (.int v3), some (.int v4), some (.int v5), some (.int (s.1 96 (v5.toNatClampNeg)))]) (pc := 31) C (Nat.le_of_ble_eq_true rfl) rfl rfl d_M_worked_31 ?_
    refine zz_iload (i := 6) (pc := 33) C rfl d_M_worked_33 ?_
    refine zz_iconst (pc := 35) C zki_1 d_M_worked_35 ?_
    refine zz_icmp_eq (tgt := 45) (pc := 36) C (by decide) d_M_worked_36 (fun hc3 => ?_) (fun hc3 => ?_)
    · rw [if_pos hc3] at h
      exact zf_M_worked_J45 C (f_M_worked_L12 n) ih v1 v3 v4 v5 (s.1 96 (v5.toNatClampNeg)) h
    · rw [if_neg hc3] at h
      refine zz_iload (i := 6) (pc := 39) C rfl d_M_worked_39 ?_
      refine zz_iconst (pc := 41) C zki_2 d_M_worked_41 ?_
      refine zz_icmp_ne (tgt := 86) (pc := 42) C (by decide) d_M_worked_42 (fun hc9 => ?_) (fun hc9 => ?_)
      · rw [if_neg hc9] at h
        refine zz_iload (i := 6) (pc := 86) C rfl d_M_worked_86 ?_
        refine zz_iconst (pc := 88) C zki_3 d_M_worked_88 ?_
        refine zz_icmp_ne (tgt := 121) (pc := 89) C (by decide) d_M_worked_89 (fun hc10 => ?_) (fun hc10 => ?_)
        · rw [if_neg hc10] at h
          refine zz_iload (i := 6) (pc := 121) C rfl d_M_worked_121 ?_
          refine zz_iconst (pc := 123) C zki_4 d_M_worked_123 ?_
          refine zz_icmp_ne (tgt := 149) (pc := 124) C (by decide) d_M_worked_124 (fun hc11 => ?_) (fun hc11 => ?_)
          · rw [if_neg hc11] at h
            refine zz_iinc (lo' := [some (.ref 79), some (.int v1), none, some (.int v3), some (.int (v4 + (-1 : Int32))), some (.int v5), some (.int (s.1 96 (v5.toNatClampNeg)))]) (pc := 149) C rfl (zz_inc zki_m1) rfl rfl d_M_worked_149 ?_
            refine zz_aload_n (i := 0) (pc := 152) C rfl rfl d_M_worked_152 ?_
            refine zz_getR (pc := 153) C zl_12_82 zsh_79 rfl d_M_worked_153 ?_
            refine zz_iload (i := 4) (pc := 156) C rfl d_M_worked_156 ?_
            refine zz_iconst (pc := 158) C zki_1 d_M_worked_158 ?_
            refine zz_isub (pc := 159) C d_M_worked_159 ?_
            refine zz_iload (i := 6) (pc := 160) C rfl d_M_worked_160 ?_
            refine zz_aload_n (i := 0) (pc := 162) C rfl rfl d_M_worked_162 ?_
            refine zz_getR (pc := 163) C zl_12_82 zsh_79 rfl d_M_worked_163 ?_
            refine zz_iload (i := 4) (pc := 166) C rfl d_M_worked_166 ?_
            refine zz_iconst (pc := 168) C zki_1 d_M_worked_168 ?_
            refine zz_isub (pc := 169) C d_M_worked_169 ?_
            obtain ⟨hi12, h⟩ := zz_ckE h
            refine zz_iald (pc := 170) C rfl zsh_102 hi12 d_M_worked_170 ?_
            refine zz_aload_n (i := 0) (pc := 171) C rfl rfl d_M_worked_171 ?_
            refine zz_getR (pc := 172) C zl_12_82 zsh_79 rfl d_M_worked_172 ?_
            refine zz_iload (i := 4) (pc := 175) C rfl d_M_worked_175 ?_
            obtain ⟨hi13, h⟩ := zz_ckE h
            refine zz_iald (pc := 177) C rfl zsh_102 hi13 d_M_worked_177 ?_
            obtain ⟨q14, hq14, h⟩ := zz_bdE h
            refine zz_cSi (as := [.int (s.1 96 (v5.toNatClampNeg)), .int (s.1 102 (((v4 + (-1 : Int32)) - (1 : Int32)).toNatClampNeg)), .int (s.1 102 ((v4 + (-1 : Int32)).toNatClampNeg))]) (st := [.int ((v4 + (-1 : Int32)) - (1 : Int32)), .ref 102]) (pc := 178) C (zm_M_twoOf hq14) zcs_M_twoOf zl_12_252 (by omega) (Nat.le_of_ble_eq_true rfl) d_M_worked_178 rfl rfl ?_
            refine zz_iast (pc := 181) C rfl zsh_102 hi12 d_M_worked_181 ?_
            refine zz_iinc (lo' := [some (.ref 79), some (.int v1), none, some (.int v3), some (.int (v4 + (-1 : Int32))), some (.int (v5 + (1 : Int32))), some (.int (s.1 96 (v5.toNatClampNeg)))]) (pc := 182) C rfl (zz_inc zki_1) rfl rfl d_M_worked_182 ?_
            refine zz_goto (tgt := 12) (pc := 185) C (by decide) d_M_worked_185 ?_
            refine zz_fg C [true, true, false, true, true, true, false] rfl rfl ?_
            exact ih v1 v3 (v4 + (-1 : Int32)) (v5 + (1 : Int32)) (zz_w s 102 (((v4 + (-1 : Int32)) - (1 : Int32)).toNatClampNeg) q14) h
          · rw [if_pos hc11] at h
            refine zz_aload_n (i := 0) (pc := 127) C rfl rfl d_M_worked_127 ?_
            refine zz_getR (pc := 128) C zl_12_82 zsh_79 rfl d_M_worked_128 ?_
            refine zz_iload (i := 4) (pc := 131) C rfl d_M_worked_131 ?_
            refine zz_iconst (pc := 133) C zki_1 d_M_worked_133 ?_
            refine zz_isub (pc := 134) C d_M_worked_134 ?_
            refine zz_aload_n (i := 0) (pc := 135) C rfl rfl d_M_worked_135 ?_
            refine zz_getR (pc := 136) C zl_12_82 zsh_79 rfl d_M_worked_136 ?_
            refine zz_iload (i := 4) (pc := 139) C rfl d_M_worked_139 ?_
            refine zz_iconst (pc := 141) C zki_1 d_M_worked_141 ?_
            refine zz_isub (pc := 142) C d_M_worked_142 ?_
            obtain ⟨hi15, h⟩ := zz_ckE h
            refine zz_iald (pc := 143) C rfl zsh_102 hi15 d_M_worked_143 ?_
            refine zz_ineg (pc := 144) C d_M_worked_144 ?_
            refine zz_iast (pc := 145) C rfl zsh_102 hi15 d_M_worked_145 ?_
            refine zz_goto (tgt := 182) (pc := 146) C (by decide) d_M_worked_146 ?_
            refine zz_iinc (lo' := [some (.ref 79), some (.int v1), none, some (.int v3), some (.int v4), some (.int (v5 + (1 : Int32))), some (.int (s.1 96 (v5.toNatClampNeg)))]) (pc := 182) C rfl (zz_inc zki_1) rfl rfl d_M_worked_182 ?_
            refine zz_goto (tgt := 12) (pc := 185) C (by decide) d_M_worked_185 ?_
            refine zz_fg C [true, true, false, true, true, true, false] rfl rfl ?_
            exact ih v1 v3 v4 (v5 + (1 : Int32)) (zz_w s 102 ((v4 - (1 : Int32)).toNatClampNeg) (-(s.1 102 ((v4 - (1 : Int32)).toNatClampNeg)))) h
        · rw [if_pos hc10] at h
          refine zz_aload_n (i := 0) (pc := 92) C rfl rfl d_M_worked_92 ?_
          refine zz_getR (pc := 93) C zl_12_82 zsh_79 rfl d_M_worked_93 ?_
          refine zz_iload (i := 4) (pc := 96) C rfl d_M_worked_96 ?_
          refine zz_iconst (pc := 98) C zki_1 d_M_worked_98 ?_
          refine zz_isub (pc := 99) C d_M_worked_99 ?_
          refine zz_aload_n (i := 0) (pc := 100) C rfl rfl d_M_worked_100 ?_
          refine zz_getR (pc := 101) C zl_12_82 zsh_79 rfl d_M_worked_101 ?_
          refine zz_iload (i := 4) (pc := 104) C rfl d_M_worked_104 ?_
          refine zz_iconst (pc := 106) C zki_1 d_M_worked_106 ?_
          refine zz_isub (pc := 107) C d_M_worked_107 ?_
          obtain ⟨hi16, h⟩ := zz_ckE h
          refine zz_iald (pc := 108) C rfl zsh_102 hi16 d_M_worked_108 ?_
          refine zz_if_ne (tgt := 116) (pc := 109) C (by decide) d_M_worked_109 (fun hc17 => ?_) (fun hc17 => ?_)
          · rw [if_neg hc17] at h
            refine zz_iconst (pc := 116) C zki_0 d_M_worked_116 ?_
            refine zz_fg C [true, true, false, true, true, true, false] rfl rfl ?_
            exact zf_M_worked_J117 C (f_M_worked_L12 n) ih v1 v3 v4 v5 (v4 - (1 : Int32)) (0 : Int32) h
          · rw [if_pos hc17] at h
            refine zz_iconst (pc := 112) C zki_1 d_M_worked_112 ?_
            refine zz_goto (tgt := 117) (pc := 113) C (by decide) d_M_worked_113 ?_
            refine zz_fg C [true, true, false, true, true, true, false] rfl rfl ?_
            exact zf_M_worked_J117 C (f_M_worked_L12 n) ih v1 v3 v4 v5 (v4 - (1 : Int32)) (1 : Int32) h
      · rw [if_pos hc9] at h
        exact zf_M_worked_J45 C (f_M_worked_L12 n) ih v1 v3 v4 v5 (s.1 96 (v5.toNatClampNeg)) h
set_option maxHeartbeats 4000000 in
set_option maxRecDepth 100000 in
theorem zf_M_worked {G : zz_G} {l : Launch} {Z : zz_Z} {q : Int32 × zz_S} {s : zz_S} (C : zz_Cx G l "OneBlanketModel" "worked" prog_14_method_35_code 7 (some .int) 3 (some (.int q.1), zsh, q.2) Z) (a1 : Int32) (a2 : Int32) (a3 : Int32) (h : f_M_worked a1 a2 a3 s = some q) : Z 0 [some (.ref 79), some (.int a1), some (.int a2), some (.int a3), none, none, none] [] zsh s := by
  unfold f_M_worked at h
  refine zz_iconst (pc := 0) C zki_0 d_M_worked_0 ?_
  refine zz_istore (i := 4) (lo' := [some (.ref 79), some (.int a1), some (.int a2), some (.int a3), some (.int (0 : Int32)), none, none]) (pc := 1) C (Nat.le_of_ble_eq_true rfl) rfl rfl d_M_worked_1 ?_
  refine zz_sipush (pc := 3) C zks_130 d_M_worked_3 ?_
  refine zz_iload_n (i := 1) (pc := 6) C rfl rfl d_M_worked_6 ?_
  refine zz_imul (pc := 7) C d_M_worked_7 ?_
  refine zz_iload_n (i := 2) (pc := 8) C rfl rfl d_M_worked_8 ?_
  refine zz_iadd (pc := 9) C d_M_worked_9 ?_
  refine zz_istore (i := 5) (lo' := [some (.ref 79), some (.int a1), some (.int a2), some (.int a3), some (.int (0 : Int32)), some (.int (((130 : Int32) * a1) + a2)), none]) (pc := 10) C (Nat.le_of_ble_eq_true rfl) rfl rfl d_M_worked_10 ?_
  refine zz_fg C [true, true, false, true, true, true, false] rfl rfl ?_
  exact zf_M_worked_L12 C zF a1 a3 (0 : Int32) (((130 : Int32) * a1) + a2) s h
theorem zm_M_worked {G : zz_G} {l : Launch} {s : zz_S} {q : Int32 × zz_S} {a1 : Int32} {a2 : Int32} {a3 : Int32} (h : f_M_worked a1 a2 a3 s = some q) : zz_M G l 3 y_M_worked prog_14_method_35_code 7 (some .int) [.ref 79, .int a1, .int a2, .int a3] zsh s (some (.int q.1), zsh, q.2) :=
  zz_M.intro (by decide) (Nat.le_of_ble_eq_true rfl) (Nat.le_refl _) (Nat.le_refl _) (fun Z C => zf_M_worked C a1 a2 a3 h)
theorem d_M_gives_0 : decode prog_14_method_36_code 0 = .ok (.iconst 0, 1) := by decide +kernel
theorem d_M_gives_1 : decode prog_14_method_36_code 1 = .ok (.istore_n 2, 1) := by decide +kernel
theorem d_M_gives_2 : decode prog_14_method_36_code 2 = .ok (.bipush (61), 2) := by decide +kernel
theorem d_M_gives_4 : decode prog_14_method_36_code 4 = .ok (.iload_n 1, 1) := by decide +kernel
theorem d_M_gives_5 : decode prog_14_method_36_code 5 = .ok (.imul, 1) := by decide +kernel
theorem d_M_gives_6 : decode prog_14_method_36_code 6 = .ok (.istore_n 3, 1) := by decide +kernel
theorem d_M_gives_7 : decode prog_14_method_36_code 7 = .ok (.iload_n 3, 1) := by decide +kernel
theorem d_M_gives_8 : decode prog_14_method_36_code 8 = .ok (.bipush (61), 2) := by decide +kernel
theorem d_M_gives_10 : decode prog_14_method_36_code 10 = .ok (.iload_n 1, 1) := by decide +kernel
theorem d_M_gives_11 : decode prog_14_method_36_code 11 = .ok (.imul, 1) := by decide +kernel
theorem d_M_gives_12 : decode prog_14_method_36_code 12 = .ok (.aload_n 0, 1) := by decide +kernel
theorem d_M_gives_13 : decode prog_14_method_36_code 13 = .ok (.getfield 69, 3) := by decide +kernel
theorem d_M_gives_16 : decode prog_14_method_36_code 16 = .ok (.iload_n 1, 1) := by decide +kernel
theorem d_M_gives_17 : decode prog_14_method_36_code 17 = .ok (.iaload, 1) := by decide +kernel
theorem d_M_gives_18 : decode prog_14_method_36_code 18 = .ok (.iadd, 1) := by decide +kernel
theorem d_M_gives_19 : decode prog_14_method_36_code 19 = .ok (.if_icmp .ge (59), 3) := by decide +kernel
theorem d_M_gives_22 : decode prog_14_method_36_code 22 = .ok (.aload_n 0, 1) := by decide +kernel
theorem d_M_gives_23 : decode prog_14_method_36_code 23 = .ok (.getfield 72, 3) := by decide +kernel
theorem d_M_gives_26 : decode prog_14_method_36_code 26 = .ok (.iload_n 3, 1) := by decide +kernel
theorem d_M_gives_27 : decode prog_14_method_36_code 27 = .ok (.saload, 1) := by decide +kernel
theorem d_M_gives_28 : decode prog_14_method_36_code 28 = .ok (.iload_n 2, 1) := by decide +kernel
theorem d_M_gives_29 : decode prog_14_method_36_code 29 = .ok (.if_icmp .eq (18), 3) := by decide +kernel
theorem d_M_gives_32 : decode prog_14_method_36_code 32 = .ok (.aload_n 0, 1) := by decide +kernel
theorem d_M_gives_33 : decode prog_14_method_36_code 33 = .ok (.iload_n 1, 1) := by decide +kernel
theorem d_M_gives_34 : decode prog_14_method_36_code 34 = .ok (.iload_n 2, 1) := by decide +kernel
theorem d_M_gives_35 : decode prog_14_method_36_code 35 = .ok (.aload_n 0, 1) := by decide +kernel
theorem d_M_gives_36 : decode prog_14_method_36_code 36 = .ok (.getfield 72, 3) := by decide +kernel
theorem d_M_gives_39 : decode prog_14_method_36_code 39 = .ok (.iload_n 3, 1) := by decide +kernel
theorem d_M_gives_40 : decode prog_14_method_36_code 40 = .ok (.saload, 1) := by decide +kernel
theorem d_M_gives_41 : decode prog_14_method_36_code 41 = .ok (.invokevirtual 255, 3) := by decide +kernel
theorem d_M_gives_44 : decode prog_14_method_36_code 44 = .ok (.ifCond .eq (21), 3) := by decide +kernel
theorem d_M_gives_47 : decode prog_14_method_36_code 47 = .ok (.aload_n 0, 1) := by decide +kernel
theorem d_M_gives_48 : decode prog_14_method_36_code 48 = .ok (.iload_n 1, 1) := by decide +kernel
theorem d_M_gives_49 : decode prog_14_method_36_code 49 = .ok (.aload_n 0, 1) := by decide +kernel
theorem d_M_gives_50 : decode prog_14_method_36_code 50 = .ok (.getfield 72, 3) := by decide +kernel
theorem d_M_gives_53 : decode prog_14_method_36_code 53 = .ok (.iload_n 3, 1) := by decide +kernel
theorem d_M_gives_54 : decode prog_14_method_36_code 54 = .ok (.saload, 1) := by decide +kernel
theorem d_M_gives_55 : decode prog_14_method_36_code 55 = .ok (.aload_n 0, 1) := by decide +kernel
theorem d_M_gives_56 : decode prog_14_method_36_code 56 = .ok (.getfield 76, 3) := by decide +kernel
theorem d_M_gives_59 : decode prog_14_method_36_code 59 = .ok (.iload_n 3, 1) := by decide +kernel
theorem d_M_gives_60 : decode prog_14_method_36_code 60 = .ok (.saload, 1) := by decide +kernel
theorem d_M_gives_61 : decode prog_14_method_36_code 61 = .ok (.invokevirtual 255, 3) := by decide +kernel
theorem d_M_gives_64 : decode prog_14_method_36_code 64 = .ok (.ireturn, 1) := by decide +kernel
theorem d_M_gives_65 : decode prog_14_method_36_code 65 = .ok (.aload_n 0, 1) := by decide +kernel
theorem d_M_gives_66 : decode prog_14_method_36_code 66 = .ok (.getfield 76, 3) := by decide +kernel
theorem d_M_gives_69 : decode prog_14_method_36_code 69 = .ok (.iload_n 3, 1) := by decide +kernel
theorem d_M_gives_70 : decode prog_14_method_36_code 70 = .ok (.saload, 1) := by decide +kernel
theorem d_M_gives_71 : decode prog_14_method_36_code 71 = .ok (.istore_n 2, 1) := by decide +kernel
theorem d_M_gives_72 : decode prog_14_method_36_code 72 = .ok (.iinc 3 (1), 3) := by decide +kernel
theorem d_M_gives_75 : decode prog_14_method_36_code 75 = .ok (.goto (-68), 3) := by decide +kernel
theorem d_M_gives_78 : decode prog_14_method_36_code 78 = .ok (.iconst 0, 1) := by decide +kernel
theorem d_M_gives_79 : decode prog_14_method_36_code 79 = .ok (.ireturn, 1) := by decide +kernel
set_option maxHeartbeats 4000000 in
set_option maxRecDepth 100000 in
theorem zf_M_gives_J47 {G : zz_G} {l : Launch} {Z : zz_Z} {q : Int32 × zz_S} {s : zz_S} (C : zz_Cx G l "OneBlanketModel" "gives" prog_14_method_36_code 4 (some .int) 4 (some (.int q.1), zsh, q.2) Z) (v1 : Int32) (v3 : Int32) (h : f_M_gives_J47 v1 v3 s = some q) : Z 47 [some (.ref 79), some (.int v1), none, some (.int v3)] [] zsh s := by
  unfold f_M_gives_J47 at h
  refine zz_aload_n (i := 0) (pc := 47) C rfl rfl d_M_gives_47 ?_
  refine zz_iload_n (i := 1) (pc := 48) C rfl rfl d_M_gives_48 ?_
  refine zz_aload_n (i := 0) (pc := 49) C rfl rfl d_M_gives_49 ?_
  refine zz_getR (pc := 50) C zl_12_72 zsh_79 rfl d_M_gives_50 ?_
  refine zz_iload_n (i := 3) (pc := 53) C rfl rfl d_M_gives_53 ?_
  obtain ⟨hi5, h⟩ := zz_ckE h
  refine zz_sald (pc := 54) C rfl zsh_99 hi5 d_M_gives_54 ?_
  refine zz_aload_n (i := 0) (pc := 55) C rfl rfl d_M_gives_55 ?_
  refine zz_getR (pc := 56) C zl_12_76 zsh_79 rfl d_M_gives_56 ?_
  refine zz_iload_n (i := 3) (pc := 59) C rfl rfl d_M_gives_59 ?_
  refine zz_sald (pc := 60) C rfl zsh_100 hi5 d_M_gives_60 ?_
  obtain ⟨q6, hq6, h⟩ := zz_bdE h
  refine zz_cVi (as := [.int v1, .int (s.1 99 (v3.toNatClampNeg)), .int (s.1 100 (v3.toNatClampNeg))]) (st := []) (pc := 61) C (zm_M_worked hq6) zcv_M_worked zsh_79 zl_12_255 (by omega) (Nat.le_of_ble_eq_true rfl) d_M_gives_61 rfl rfl ?_
  replace h := Option.some.inj h
  subst h
  exact zz_ret (pc := 64) C (v := some (.int q6.1)) d_M_gives_64 (Or.inl ⟨_, _, rfl, rfl, rfl, rfl⟩) rfl
set_option maxHeartbeats 4000000 in
set_option maxRecDepth 100000 in
theorem zf_M_gives_L7 {G : zz_G} {l : Launch} {Z : zz_Z} {q : Int32 × zz_S} (C : zz_Cx G l "OneBlanketModel" "gives" prog_14_method_36_code 4 (some .int) 4 (some (.int q.1), zsh, q.2) Z) : ∀ (n : Nat) (v1 : Int32) (v2 : Int32) (v3 : Int32) (s : zz_S), f_M_gives_L7 n v1 v2 v3 s = some q → Z 7 [some (.ref 79), some (.int v1), some (.int v2), some (.int v3)] [] zsh s := by
  intro n
  induction n with
  | zero => intro v1 v2 v3 s h; rw [f_M_gives_L7] at h; cases h
  | succ n ih =>
  intro v1 v2 v3 s h
  rw [f_M_gives_L7] at h
  refine zz_iload_n (i := 3) (pc := 7) C rfl rfl d_M_gives_7 ?_
  refine zz_bipush (pc := 8) C zkb_61 d_M_gives_8 ?_
  refine zz_iload_n (i := 1) (pc := 10) C rfl rfl d_M_gives_10 ?_
  refine zz_imul (pc := 11) C d_M_gives_11 ?_
  refine zz_aload_n (i := 0) (pc := 12) C rfl rfl d_M_gives_12 ?_
  refine zz_getR (pc := 13) C zl_12_69 zsh_79 rfl d_M_gives_13 ?_
  refine zz_iload_n (i := 1) (pc := 16) C rfl rfl d_M_gives_16 ?_
  obtain ⟨hi1, h⟩ := zz_ckE h
  refine zz_iald (pc := 17) C rfl zsh_98 hi1 d_M_gives_17 ?_
  refine zz_iadd (pc := 18) C d_M_gives_18 ?_
  refine zz_icmp_ge (tgt := 78) (pc := 19) C (by decide) d_M_gives_19 (fun hc2 => ?_) (fun hc2 => ?_)
  · rw [if_pos hc2] at h
    refine zz_iconst (pc := 78) C zki_0 d_M_gives_78 ?_
    replace h := Option.some.inj h
    subst h
    exact zz_ret (pc := 79) C (v := some (.int (0 : Int32))) d_M_gives_79 (Or.inl ⟨_, _, rfl, rfl, rfl, rfl⟩) rfl
  · rw [if_neg hc2] at h
    refine zz_aload_n (i := 0) (pc := 22) C rfl rfl d_M_gives_22 ?_
    refine zz_getR (pc := 23) C zl_12_72 zsh_79 rfl d_M_gives_23 ?_
    refine zz_iload_n (i := 3) (pc := 26) C rfl rfl d_M_gives_26 ?_
    obtain ⟨hi3, h⟩ := zz_ckE h
    refine zz_sald (pc := 27) C rfl zsh_99 hi3 d_M_gives_27 ?_
    refine zz_iload_n (i := 2) (pc := 28) C rfl rfl d_M_gives_28 ?_
    refine zz_icmp_eq (tgt := 47) (pc := 29) C (by decide) d_M_gives_29 (fun hc4 => ?_) (fun hc4 => ?_)
    · rw [if_pos hc4] at h
      refine zz_fg C [true, true, false, true] rfl rfl ?_
      exact zf_M_gives_J47 C v1 v3 h
    · rw [if_neg hc4] at h
      refine zz_aload_n (i := 0) (pc := 32) C rfl rfl d_M_gives_32 ?_
      refine zz_iload_n (i := 1) (pc := 33) C rfl rfl d_M_gives_33 ?_
      refine zz_iload_n (i := 2) (pc := 34) C rfl rfl d_M_gives_34 ?_
      refine zz_aload_n (i := 0) (pc := 35) C rfl rfl d_M_gives_35 ?_
      refine zz_getR (pc := 36) C zl_12_72 zsh_79 rfl d_M_gives_36 ?_
      refine zz_iload_n (i := 3) (pc := 39) C rfl rfl d_M_gives_39 ?_
      refine zz_sald (pc := 40) C rfl zsh_99 hi3 d_M_gives_40 ?_
      obtain ⟨q7, hq7, h⟩ := zz_bdE h
      refine zz_cVi (as := [.int v1, .int v2, .int (s.1 99 (v3.toNatClampNeg))]) (st := []) (pc := 41) C (zm_M_worked hq7) zcv_M_worked zsh_79 zl_12_255 (by omega) (Nat.le_of_ble_eq_true rfl) d_M_gives_41 rfl rfl ?_
      refine zz_if_eq (tgt := 65) (pc := 44) C (by decide) d_M_gives_44 (fun hc8 => ?_) (fun hc8 => ?_)
      · rw [if_pos hc8] at h
        refine zz_aload_n (i := 0) (pc := 65) C rfl rfl d_M_gives_65 ?_
        refine zz_getR (pc := 66) C zl_12_76 zsh_79 rfl d_M_gives_66 ?_
        refine zz_iload_n (i := 3) (pc := 69) C rfl rfl d_M_gives_69 ?_
        refine zz_sald (pc := 70) C rfl zsh_100 hi3 d_M_gives_70 ?_
        refine zz_istore_n (i := 2) (lo' := [some (.ref 79), some (.int v1), some (.int (q7.2.1 100 (v3.toNatClampNeg))), some (.int v3)]) (pc := 71) C rfl (Nat.le_of_ble_eq_true rfl) rfl rfl d_M_gives_71 ?_
        refine zz_iinc (lo' := [some (.ref 79), some (.int v1), some (.int (q7.2.1 100 (v3.toNatClampNeg))), some (.int (v3 + (1 : Int32)))]) (pc := 72) C rfl (zz_inc zki_1) rfl rfl d_M_gives_72 ?_
        refine zz_goto (tgt := 7) (pc := 75) C (by decide) d_M_gives_75 ?_
        exact ih v1 (q7.2.1 100 (v3.toNatClampNeg)) (v3 + (1 : Int32)) q7.2 h
      · rw [if_neg hc8] at h
        refine zz_fg C [true, true, false, true] rfl rfl ?_
        exact zf_M_gives_J47 C v1 v3 h
set_option maxHeartbeats 4000000 in
set_option maxRecDepth 100000 in
theorem zf_M_gives {G : zz_G} {l : Launch} {Z : zz_Z} {q : Int32 × zz_S} {s : zz_S} (C : zz_Cx G l "OneBlanketModel" "gives" prog_14_method_36_code 4 (some .int) 4 (some (.int q.1), zsh, q.2) Z) (a1 : Int32) (h : f_M_gives a1 s = some q) : Z 0 [some (.ref 79), some (.int a1), none, none] [] zsh s := by
  unfold f_M_gives at h
  refine zz_iconst (pc := 0) C zki_0 d_M_gives_0 ?_
  refine zz_istore_n (i := 2) (lo' := [some (.ref 79), some (.int a1), some (.int (0 : Int32)), none]) (pc := 1) C rfl (Nat.le_of_ble_eq_true rfl) rfl rfl d_M_gives_1 ?_
  refine zz_bipush (pc := 2) C zkb_61 d_M_gives_2 ?_
  refine zz_iload_n (i := 1) (pc := 4) C rfl rfl d_M_gives_4 ?_
  refine zz_imul (pc := 5) C d_M_gives_5 ?_
  refine zz_istore_n (i := 3) (lo' := [some (.ref 79), some (.int a1), some (.int (0 : Int32)), some (.int ((61 : Int32) * a1))]) (pc := 6) C rfl (Nat.le_of_ble_eq_true rfl) rfl rfl d_M_gives_6 ?_
  exact zf_M_gives_L7 C zF a1 (0 : Int32) ((61 : Int32) * a1) s h
theorem zm_M_gives {G : zz_G} {l : Launch} {s : zz_S} {q : Int32 × zz_S} {a1 : Int32} (h : f_M_gives a1 s = some q) : zz_M G l 4 y_M_gives prog_14_method_36_code 4 (some .int) [.ref 79, .int a1] zsh s (some (.int q.1), zsh, q.2) :=
  zz_M.intro (by decide) (Nat.le_of_ble_eq_true rfl) (Nat.le_refl _) (Nat.le_refl _) (fun Z C => zf_M_gives C a1 h)
theorem d_M_held_0 : decode prog_14_method_5_code 0 = .ok (.iload_n 0, 1) := by decide +kernel
theorem d_M_held_1 : decode prog_14_method_5_code 1 = .ok (.iload_n 1, 1) := by decide +kernel
theorem d_M_held_2 : decode prog_14_method_5_code 2 = .ok (.if_icmp .ge (7), 3) := by decide +kernel
theorem d_M_held_5 : decode prog_14_method_5_code 5 = .ok (.iload_n 1, 1) := by decide +kernel
theorem d_M_held_6 : decode prog_14_method_5_code 6 = .ok (.goto (13), 3) := by decide +kernel
theorem d_M_held_9 : decode prog_14_method_5_code 9 = .ok (.iload_n 0, 1) := by decide +kernel
theorem d_M_held_10 : decode prog_14_method_5_code 10 = .ok (.iload_n 2, 1) := by decide +kernel
theorem d_M_held_11 : decode prog_14_method_5_code 11 = .ok (.if_icmp .le (7), 3) := by decide +kernel
theorem d_M_held_14 : decode prog_14_method_5_code 14 = .ok (.iload_n 2, 1) := by decide +kernel
theorem d_M_held_15 : decode prog_14_method_5_code 15 = .ok (.goto (4), 3) := by decide +kernel
theorem d_M_held_18 : decode prog_14_method_5_code 18 = .ok (.iload_n 0, 1) := by decide +kernel
theorem d_M_held_19 : decode prog_14_method_5_code 19 = .ok (.ireturn, 1) := by decide +kernel
set_option maxHeartbeats 4000000 in
set_option maxRecDepth 100000 in
theorem zf_M_held {G : zz_G} {l : Launch} {Z : zz_Z} {sh : List zz_Sh} {q : Int32} {s : zz_S} (C : zz_Cx G l "OneBlanketModel" "held" prog_14_method_5_code 3 (some .int) 2 (some (.int q), sh, s) Z) (a0 : Int32) (a1 : Int32) (a2 : Int32) (h : f_M_held a0 a1 a2 = q) : Z 0 [some (.int a0), some (.int a1), some (.int a2)] [] sh s := by
  unfold f_M_held at h
  refine zz_iload_n (i := 0) (pc := 0) C rfl rfl d_M_held_0 ?_
  refine zz_iload_n (i := 1) (pc := 1) C rfl rfl d_M_held_1 ?_
  refine zz_icmp_ge (tgt := 9) (pc := 2) C (by decide) d_M_held_2 (fun hc1 => ?_) (fun hc1 => ?_)
  · rw [if_pos hc1] at h
    refine zz_iload_n (i := 0) (pc := 9) C rfl rfl d_M_held_9 ?_
    refine zz_iload_n (i := 2) (pc := 10) C rfl rfl d_M_held_10 ?_
    refine zz_icmp_le (tgt := 18) (pc := 11) C (by decide) d_M_held_11 (fun hc2 => ?_) (fun hc2 => ?_)
    · rw [if_pos hc2] at h
      refine zz_iload_n (i := 0) (pc := 18) C rfl rfl d_M_held_18 ?_
      subst h
      exact zz_ret (pc := 19) C (v := some (.int a0)) d_M_held_19 (Or.inl ⟨_, _, rfl, rfl, rfl, rfl⟩) rfl
    · rw [if_neg hc2] at h
      refine zz_iload_n (i := 2) (pc := 14) C rfl rfl d_M_held_14 ?_
      refine zz_goto (tgt := 19) (pc := 15) C (by decide) d_M_held_15 ?_
      subst h
      exact zz_ret (pc := 19) C (v := some (.int a2)) d_M_held_19 (Or.inl ⟨_, _, rfl, rfl, rfl, rfl⟩) rfl
  · rw [if_neg hc1] at h
    refine zz_iload_n (i := 1) (pc := 5) C rfl rfl d_M_held_5 ?_
    refine zz_goto (tgt := 19) (pc := 6) C (by decide) d_M_held_6 ?_
    subst h
    exact zz_ret (pc := 19) C (v := some (.int a1)) d_M_held_19 (Or.inl ⟨_, _, rfl, rfl, rfl, rfl⟩) rfl
theorem zm_M_held {G : zz_G} {l : Launch} {sh : List zz_Sh} {s : zz_S} {q : Int32} {a0 : Int32} {a1 : Int32} {a2 : Int32} (h : f_M_held a0 a1 a2 = q) : zz_M G l 2 y_M_held prog_14_method_5_code 3 (some .int) [.int a0, .int a1, .int a2] sh s (some (.int q), sh, s) :=
  zz_M.intro (by decide) (Nat.le_of_ble_eq_true rfl) (Nat.le_refl _) (Nat.le_refl _) (fun Z C => zf_M_held C a0 a1 a2 h)
theorem d_M_under_0 : decode prog_14_method_46_code 0 = .ok (.aload_n 0, 1) := by decide +kernel
theorem d_M_under_1 : decode prog_14_method_46_code 1 = .ok (.getfield 88, 3) := by decide +kernel
theorem d_M_under_4 : decode prog_14_method_46_code 4 = .ok (.iload_n 1, 1) := by decide +kernel
theorem d_M_under_5 : decode prog_14_method_46_code 5 = .ok (.iaload, 1) := by decide +kernel
theorem d_M_under_6 : decode prog_14_method_46_code 6 = .ok (.aload_n 0, 1) := by decide +kernel
theorem d_M_under_7 : decode prog_14_method_46_code 7 = .ok (.getfield 91, 3) := by decide +kernel
theorem d_M_under_10 : decode prog_14_method_46_code 10 = .ok (.iload_n 2, 1) := by decide +kernel
theorem d_M_under_11 : decode prog_14_method_46_code 11 = .ok (.iaload, 1) := by decide +kernel
theorem d_M_under_12 : decode prog_14_method_46_code 12 = .ok (.if_icmp .le (12), 3) := by decide +kernel
theorem d_M_under_15 : decode prog_14_method_46_code 15 = .ok (.aload_n 0, 1) := by decide +kernel
theorem d_M_under_16 : decode prog_14_method_46_code 16 = .ok (.getfield 88, 3) := by decide +kernel
theorem d_M_under_19 : decode prog_14_method_46_code 19 = .ok (.iload_n 1, 1) := by decide +kernel
theorem d_M_under_20 : decode prog_14_method_46_code 20 = .ok (.iaload, 1) := by decide +kernel
theorem d_M_under_21 : decode prog_14_method_46_code 21 = .ok (.goto (9), 3) := by decide +kernel
theorem d_M_under_24 : decode prog_14_method_46_code 24 = .ok (.aload_n 0, 1) := by decide +kernel
theorem d_M_under_25 : decode prog_14_method_46_code 25 = .ok (.getfield 91, 3) := by decide +kernel
theorem d_M_under_28 : decode prog_14_method_46_code 28 = .ok (.iload_n 2, 1) := by decide +kernel
theorem d_M_under_29 : decode prog_14_method_46_code 29 = .ok (.iaload, 1) := by decide +kernel
theorem d_M_under_30 : decode prog_14_method_46_code 30 = .ok (.istore_n 3, 1) := by decide +kernel
theorem d_M_under_31 : decode prog_14_method_46_code 31 = .ok (.aload_n 0, 1) := by decide +kernel
theorem d_M_under_32 : decode prog_14_method_46_code 32 = .ok (.getfield 88, 3) := by decide +kernel
theorem d_M_under_35 : decode prog_14_method_46_code 35 = .ok (.iload_n 1, 1) := by decide +kernel
theorem d_M_under_36 : decode prog_14_method_46_code 36 = .ok (.iaload, 1) := by decide +kernel
theorem d_M_under_37 : decode prog_14_method_46_code 37 = .ok (.aload_n 0, 1) := by decide +kernel
theorem d_M_under_38 : decode prog_14_method_46_code 38 = .ok (.getfield 17, 3) := by decide +kernel
theorem d_M_under_41 : decode prog_14_method_46_code 41 = .ok (.iload_n 1, 1) := by decide +kernel
theorem d_M_under_42 : decode prog_14_method_46_code 42 = .ok (.iaload, 1) := by decide +kernel
theorem d_M_under_43 : decode prog_14_method_46_code 43 = .ok (.iadd, 1) := by decide +kernel
theorem d_M_under_44 : decode prog_14_method_46_code 44 = .ok (.aload_n 0, 1) := by decide +kernel
theorem d_M_under_45 : decode prog_14_method_46_code 45 = .ok (.getfield 91, 3) := by decide +kernel
theorem d_M_under_48 : decode prog_14_method_46_code 48 = .ok (.iload_n 2, 1) := by decide +kernel
theorem d_M_under_49 : decode prog_14_method_46_code 49 = .ok (.iaload, 1) := by decide +kernel
theorem d_M_under_50 : decode prog_14_method_46_code 50 = .ok (.aload_n 0, 1) := by decide +kernel
theorem d_M_under_51 : decode prog_14_method_46_code 51 = .ok (.getfield 29, 3) := by decide +kernel
theorem d_M_under_54 : decode prog_14_method_46_code 54 = .ok (.iload_n 2, 1) := by decide +kernel
theorem d_M_under_55 : decode prog_14_method_46_code 55 = .ok (.iaload, 1) := by decide +kernel
theorem d_M_under_56 : decode prog_14_method_46_code 56 = .ok (.iadd, 1) := by decide +kernel
theorem d_M_under_57 : decode prog_14_method_46_code 57 = .ok (.if_icmp .ge (19), 3) := by decide +kernel
theorem d_M_under_60 : decode prog_14_method_46_code 60 = .ok (.aload_n 0, 1) := by decide +kernel
theorem d_M_under_61 : decode prog_14_method_46_code 61 = .ok (.getfield 88, 3) := by decide +kernel
theorem d_M_under_64 : decode prog_14_method_46_code 64 = .ok (.iload_n 1, 1) := by decide +kernel
theorem d_M_under_65 : decode prog_14_method_46_code 65 = .ok (.iaload, 1) := by decide +kernel
theorem d_M_under_66 : decode prog_14_method_46_code 66 = .ok (.aload_n 0, 1) := by decide +kernel
theorem d_M_under_67 : decode prog_14_method_46_code 67 = .ok (.getfield 17, 3) := by decide +kernel
theorem d_M_under_70 : decode prog_14_method_46_code 70 = .ok (.iload_n 1, 1) := by decide +kernel
theorem d_M_under_71 : decode prog_14_method_46_code 71 = .ok (.iaload, 1) := by decide +kernel
theorem d_M_under_72 : decode prog_14_method_46_code 72 = .ok (.iadd, 1) := by decide +kernel
theorem d_M_under_73 : decode prog_14_method_46_code 73 = .ok (.goto (16), 3) := by decide +kernel
theorem d_M_under_76 : decode prog_14_method_46_code 76 = .ok (.aload_n 0, 1) := by decide +kernel
theorem d_M_under_77 : decode prog_14_method_46_code 77 = .ok (.getfield 91, 3) := by decide +kernel
theorem d_M_under_80 : decode prog_14_method_46_code 80 = .ok (.iload_n 2, 1) := by decide +kernel
theorem d_M_under_81 : decode prog_14_method_46_code 81 = .ok (.iaload, 1) := by decide +kernel
theorem d_M_under_82 : decode prog_14_method_46_code 82 = .ok (.aload_n 0, 1) := by decide +kernel
theorem d_M_under_83 : decode prog_14_method_46_code 83 = .ok (.getfield 29, 3) := by decide +kernel
theorem d_M_under_86 : decode prog_14_method_46_code 86 = .ok (.iload_n 2, 1) := by decide +kernel
theorem d_M_under_87 : decode prog_14_method_46_code 87 = .ok (.iaload, 1) := by decide +kernel
theorem d_M_under_88 : decode prog_14_method_46_code 88 = .ok (.iadd, 1) := by decide +kernel
theorem d_M_under_89 : decode prog_14_method_46_code 89 = .ok (.istore 4, 2) := by decide +kernel
theorem d_M_under_91 : decode prog_14_method_46_code 91 = .ok (.iload 4, 2) := by decide +kernel
theorem d_M_under_93 : decode prog_14_method_46_code 93 = .ok (.iload_n 3, 1) := by decide +kernel
theorem d_M_under_94 : decode prog_14_method_46_code 94 = .ok (.if_icmp .le (10), 3) := by decide +kernel
theorem d_M_under_97 : decode prog_14_method_46_code 97 = .ok (.iload 4, 2) := by decide +kernel
theorem d_M_under_99 : decode prog_14_method_46_code 99 = .ok (.iload_n 3, 1) := by decide +kernel
theorem d_M_under_100 : decode prog_14_method_46_code 100 = .ok (.isub, 1) := by decide +kernel
theorem d_M_under_101 : decode prog_14_method_46_code 101 = .ok (.goto (4), 3) := by decide +kernel
theorem d_M_under_104 : decode prog_14_method_46_code 104 = .ok (.iconst 0, 1) := by decide +kernel
theorem d_M_under_105 : decode prog_14_method_46_code 105 = .ok (.ireturn, 1) := by decide +kernel
set_option maxHeartbeats 4000000 in
set_option maxRecDepth 100000 in
theorem zf_M_under_J89 {G : zz_G} {l : Launch} {Z : zz_Z} {q : Int32} {s : zz_S} (C : zz_Cx G l "OneBlanketModel" "under" prog_14_method_46_code 5 (some .int) 2 (some (.int q), zsh, s) Z) (v3 : Int32) (t0 : Int32) (h : f_M_under_J89 v3 t0 s = some q) : Z 89 [none, none, none, some (.int v3), none] [.int t0] zsh s := by
  unfold f_M_under_J89 at h
  refine zz_istore (i := 4) (lo' := [none, none, none, some (.int v3), some (.int t0)]) (pc := 89) C (Nat.le_of_ble_eq_true rfl) rfl rfl d_M_under_89 ?_
  refine zz_iload (i := 4) (pc := 91) C rfl d_M_under_91 ?_
  refine zz_iload_n (i := 3) (pc := 93) C rfl rfl d_M_under_93 ?_
  refine zz_icmp_le (tgt := 104) (pc := 94) C (by decide) d_M_under_94 (fun hc7 => ?_) (fun hc7 => ?_)
  · rw [if_pos hc7] at h
    refine zz_iconst (pc := 104) C zki_0 d_M_under_104 ?_
    replace h := Option.some.inj h
    subst h
    exact zz_ret (pc := 105) C (v := some (.int (0 : Int32))) d_M_under_105 (Or.inl ⟨_, _, rfl, rfl, rfl, rfl⟩) rfl
  · rw [if_neg hc7] at h
    refine zz_iload (i := 4) (pc := 97) C rfl d_M_under_97 ?_
    refine zz_iload_n (i := 3) (pc := 99) C rfl rfl d_M_under_99 ?_
    refine zz_isub (pc := 100) C d_M_under_100 ?_
    refine zz_goto (tgt := 105) (pc := 101) C (by decide) d_M_under_101 ?_
    replace h := Option.some.inj h
    subst h
    exact zz_ret (pc := 105) C (v := some (.int (t0 - v3))) d_M_under_105 (Or.inl ⟨_, _, rfl, rfl, rfl, rfl⟩) rfl
set_option maxHeartbeats 4000000 in
set_option maxRecDepth 100000 in
theorem zf_M_under_J30 {G : zz_G} {l : Launch} {Z : zz_Z} {q : Int32} {s : zz_S} (C : zz_Cx G l "OneBlanketModel" "under" prog_14_method_46_code 5 (some .int) 2 (some (.int q), zsh, s) Z) (v1 : Int32) (v2 : Int32) (t0 : Int32) (h : f_M_under_J30 v1 v2 t0 s = some q) : Z 30 [some (.ref 79), some (.int v1), some (.int v2), none, none] [.int t0] zsh s := by
  unfold f_M_under_J30 at h
  refine zz_istore_n (i := 3) (lo' := [some (.ref 79), some (.int v1), some (.int v2), some (.int t0), none]) (pc := 30) C rfl (Nat.le_of_ble_eq_true rfl) rfl rfl d_M_under_30 ?_
  refine zz_aload_n (i := 0) (pc := 31) C rfl rfl d_M_under_31 ?_
  refine zz_getR (pc := 32) C zl_12_88 zsh_79 rfl d_M_under_32 ?_
  refine zz_iload_n (i := 1) (pc := 35) C rfl rfl d_M_under_35 ?_
  obtain ⟨hi4, h⟩ := zz_ckE h
  refine zz_iald (pc := 36) C rfl zsh_103 hi4 d_M_under_36 ?_
  refine zz_aload_n (i := 0) (pc := 37) C rfl rfl d_M_under_37 ?_
  refine zz_getR (pc := 38) C zl_12_17 zsh_79 rfl d_M_under_38 ?_
  refine zz_iload_n (i := 1) (pc := 41) C rfl rfl d_M_under_41 ?_
  refine zz_iald (pc := 42) C rfl zsh_81 hi4 d_M_under_42 ?_
  refine zz_iadd (pc := 43) C d_M_under_43 ?_
  refine zz_aload_n (i := 0) (pc := 44) C rfl rfl d_M_under_44 ?_
  refine zz_getR (pc := 45) C zl_12_91 zsh_79 rfl d_M_under_45 ?_
  refine zz_iload_n (i := 2) (pc := 48) C rfl rfl d_M_under_48 ?_
  obtain ⟨hi5, h⟩ := zz_ckE h
  refine zz_iald (pc := 49) C rfl zsh_104 hi5 d_M_under_49 ?_
  refine zz_aload_n (i := 0) (pc := 50) C rfl rfl d_M_under_50 ?_
  refine zz_getR (pc := 51) C zl_12_29 zsh_79 rfl d_M_under_51 ?_
  refine zz_iload_n (i := 2) (pc := 54) C rfl rfl d_M_under_54 ?_
  refine zz_iald (pc := 55) C rfl zsh_85 hi5 d_M_under_55 ?_
  refine zz_iadd (pc := 56) C d_M_under_56 ?_
  refine zz_icmp_ge (tgt := 76) (pc := 57) C (by decide) d_M_under_57 (fun hc6 => ?_) (fun hc6 => ?_)
  · rw [if_pos hc6] at h
    refine zz_aload_n (i := 0) (pc := 76) C rfl rfl d_M_under_76 ?_
    refine zz_getR (pc := 77) C zl_12_91 zsh_79 rfl d_M_under_77 ?_
    refine zz_iload_n (i := 2) (pc := 80) C rfl rfl d_M_under_80 ?_
    refine zz_iald (pc := 81) C rfl zsh_104 hi5 d_M_under_81 ?_
    refine zz_aload_n (i := 0) (pc := 82) C rfl rfl d_M_under_82 ?_
    refine zz_getR (pc := 83) C zl_12_29 zsh_79 rfl d_M_under_83 ?_
    refine zz_iload_n (i := 2) (pc := 86) C rfl rfl d_M_under_86 ?_
    refine zz_iald (pc := 87) C rfl zsh_85 hi5 d_M_under_87 ?_
    refine zz_iadd (pc := 88) C d_M_under_88 ?_
    refine zz_fg C [false, false, false, true, false] rfl rfl ?_
    exact zf_M_under_J89 C t0 ((s.1 104 (v2.toNatClampNeg)) + (s.1 85 (v2.toNatClampNeg))) h
  · rw [if_neg hc6] at h
    refine zz_aload_n (i := 0) (pc := 60) C rfl rfl d_M_under_60 ?_
    refine zz_getR (pc := 61) C zl_12_88 zsh_79 rfl d_M_under_61 ?_
    refine zz_iload_n (i := 1) (pc := 64) C rfl rfl d_M_under_64 ?_
    refine zz_iald (pc := 65) C rfl zsh_103 hi4 d_M_under_65 ?_
    refine zz_aload_n (i := 0) (pc := 66) C rfl rfl d_M_under_66 ?_
    refine zz_getR (pc := 67) C zl_12_17 zsh_79 rfl d_M_under_67 ?_
    refine zz_iload_n (i := 1) (pc := 70) C rfl rfl d_M_under_70 ?_
    refine zz_iald (pc := 71) C rfl zsh_81 hi4 d_M_under_71 ?_
    refine zz_iadd (pc := 72) C d_M_under_72 ?_
    refine zz_goto (tgt := 89) (pc := 73) C (by decide) d_M_under_73 ?_
    refine zz_fg C [false, false, false, true, false] rfl rfl ?_
    exact zf_M_under_J89 C t0 ((s.1 103 (v1.toNatClampNeg)) + (s.1 81 (v1.toNatClampNeg))) h
set_option maxHeartbeats 4000000 in
set_option maxRecDepth 100000 in
theorem zf_M_under {G : zz_G} {l : Launch} {Z : zz_Z} {q : Int32} {s : zz_S} (C : zz_Cx G l "OneBlanketModel" "under" prog_14_method_46_code 5 (some .int) 2 (some (.int q), zsh, s) Z) (a1 : Int32) (a2 : Int32) (h : f_M_under a1 a2 s = some q) : Z 0 [some (.ref 79), some (.int a1), some (.int a2), none, none] [] zsh s := by
  unfold f_M_under at h
  refine zz_aload_n (i := 0) (pc := 0) C rfl rfl d_M_under_0 ?_
  refine zz_getR (pc := 1) C zl_12_88 zsh_79 rfl d_M_under_1 ?_
  refine zz_iload_n (i := 1) (pc := 4) C rfl rfl d_M_under_4 ?_
  obtain ⟨hi1, h⟩ := zz_ckE h
  refine zz_iald (pc := 5) C rfl zsh_103 hi1 d_M_under_5 ?_
  refine zz_aload_n (i := 0) (pc := 6) C rfl rfl d_M_under_6 ?_
  refine zz_getR (pc := 7) C zl_12_91 zsh_79 rfl d_M_under_7 ?_
  refine zz_iload_n (i := 2) (pc := 10) C rfl rfl d_M_under_10 ?_
  obtain ⟨hi2, h⟩ := zz_ckE h
  refine zz_iald (pc := 11) C rfl zsh_104 hi2 d_M_under_11 ?_
  refine zz_icmp_le (tgt := 24) (pc := 12) C (by decide) d_M_under_12 (fun hc3 => ?_) (fun hc3 => ?_)
  · rw [if_pos hc3] at h
    refine zz_aload_n (i := 0) (pc := 24) C rfl rfl d_M_under_24 ?_
    refine zz_getR (pc := 25) C zl_12_91 zsh_79 rfl d_M_under_25 ?_
    refine zz_iload_n (i := 2) (pc := 28) C rfl rfl d_M_under_28 ?_
    refine zz_iald (pc := 29) C rfl zsh_104 hi2 d_M_under_29 ?_
    exact zf_M_under_J30 C a1 a2 (s.1 104 (a2.toNatClampNeg)) h
  · rw [if_neg hc3] at h
    refine zz_aload_n (i := 0) (pc := 15) C rfl rfl d_M_under_15 ?_
    refine zz_getR (pc := 16) C zl_12_88 zsh_79 rfl d_M_under_16 ?_
    refine zz_iload_n (i := 1) (pc := 19) C rfl rfl d_M_under_19 ?_
    refine zz_iald (pc := 20) C rfl zsh_103 hi1 d_M_under_20 ?_
    refine zz_goto (tgt := 30) (pc := 21) C (by decide) d_M_under_21 ?_
    exact zf_M_under_J30 C a1 a2 (s.1 103 (a1.toNatClampNeg)) h
theorem zm_M_under {G : zz_G} {l : Launch} {s : zz_S} {q : Int32} {a1 : Int32} {a2 : Int32} (h : f_M_under a1 a2 s = some q) : zz_M G l 2 y_M_under prog_14_method_46_code 5 (some .int) [.ref 79, .int a1, .int a2] zsh s (some (.int q), zsh, s) :=
  zz_M.intro (by decide) (Nat.le_of_ble_eq_true rfl) (Nat.le_refl _) (Nat.le_refl _) (fun Z C => zf_M_under C a1 a2 h)
theorem d_M_drawBy_0 : decode prog_14_method_49_code 0 = .ok (.iload_n 3, 1) := by decide +kernel
theorem d_M_drawBy_1 : decode prog_14_method_49_code 1 = .ok (.invokestatic 294, 3) := by decide +kernel
theorem d_M_drawBy_4 : decode prog_14_method_49_code 4 = .ok (.istore 6, 2) := by decide +kernel
theorem d_M_drawBy_6 : decode prog_14_method_49_code 6 = .ok (.aload_n 0, 1) := by decide +kernel
theorem d_M_drawBy_7 : decode prog_14_method_49_code 7 = .ok (.iload_n 1, 1) := by decide +kernel
theorem d_M_drawBy_8 : decode prog_14_method_49_code 8 = .ok (.iload_n 2, 1) := by decide +kernel
theorem d_M_drawBy_9 : decode prog_14_method_49_code 9 = .ok (.invokevirtual 291, 3) := by decide +kernel
theorem d_M_drawBy_12 : decode prog_14_method_49_code 12 = .ok (.istore 7, 2) := by decide +kernel
theorem d_M_drawBy_14 : decode prog_14_method_49_code 14 = .ok (.aload_n 0, 1) := by decide +kernel
theorem d_M_drawBy_15 : decode prog_14_method_49_code 15 = .ok (.getfield 85, 3) := by decide +kernel
theorem d_M_drawBy_18 : decode prog_14_method_49_code 18 = .ok (.ifCond .ge (46), 3) := by decide +kernel
theorem d_M_drawBy_21 : decode prog_14_method_49_code 21 = .ok (.iload 4, 2) := by decide +kernel
theorem d_M_drawBy_23 : decode prog_14_method_49_code 23 = .ok (.iconst 1, 1) := by decide +kernel
theorem d_M_drawBy_24 : decode prog_14_method_49_code 24 = .ok (.if_icmp .ne (7), 3) := by decide +kernel
theorem d_M_drawBy_27 : decode prog_14_method_49_code 27 = .ok (.iconst 0, 1) := by decide +kernel
theorem d_M_drawBy_28 : decode prog_14_method_49_code 28 = .ok (.goto (22), 3) := by decide +kernel
theorem d_M_drawBy_31 : decode prog_14_method_49_code 31 = .ok (.iload 6, 2) := by decide +kernel
theorem d_M_drawBy_33 : decode prog_14_method_49_code 33 = .ok (.iload 7, 2) := by decide +kernel
theorem d_M_drawBy_35 : decode prog_14_method_49_code 35 = .ok (.imul, 1) := by decide +kernel
theorem d_M_drawBy_36 : decode prog_14_method_49_code 36 = .ok (.aload_n 0, 1) := by decide +kernel
theorem d_M_drawBy_37 : decode prog_14_method_49_code 37 = .ok (.getfield 17, 3) := by decide +kernel
theorem d_M_drawBy_40 : decode prog_14_method_49_code 40 = .ok (.iload_n 1, 1) := by decide +kernel
theorem d_M_drawBy_41 : decode prog_14_method_49_code 41 = .ok (.iaload, 1) := by decide +kernel
theorem d_M_drawBy_42 : decode prog_14_method_49_code 42 = .ok (.idiv, 1) := by decide +kernel
theorem d_M_drawBy_43 : decode prog_14_method_49_code 43 = .ok (.aload_n 0, 1) := by decide +kernel
theorem d_M_drawBy_44 : decode prog_14_method_49_code 44 = .ok (.getfield 35, 3) := by decide +kernel
theorem d_M_drawBy_47 : decode prog_14_method_49_code 47 = .ok (.iload_n 2, 1) := by decide +kernel
theorem d_M_drawBy_48 : decode prog_14_method_49_code 48 = .ok (.iaload, 1) := by decide +kernel
theorem d_M_drawBy_49 : decode prog_14_method_49_code 49 = .ok (.isub, 1) := by decide +kernel
theorem d_M_drawBy_50 : decode prog_14_method_49_code 50 = .ok (.istore 8, 2) := by decide +kernel
theorem d_M_drawBy_52 : decode prog_14_method_49_code 52 = .ok (.iload 8, 2) := by decide +kernel
theorem d_M_drawBy_54 : decode prog_14_method_49_code 54 = .ok (.ifCond .ge (7), 3) := by decide +kernel
theorem d_M_drawBy_57 : decode prog_14_method_49_code 57 = .ok (.iconst 0, 1) := by decide +kernel
theorem d_M_drawBy_58 : decode prog_14_method_49_code 58 = .ok (.goto (5), 3) := by decide +kernel
theorem d_M_drawBy_61 : decode prog_14_method_49_code 61 = .ok (.iload 8, 2) := by decide +kernel
theorem d_M_drawBy_63 : decode prog_14_method_49_code 63 = .ok (.ireturn, 1) := by decide +kernel
theorem d_M_drawBy_64 : decode prog_14_method_49_code 64 = .ok (.aload_n 0, 1) := by decide +kernel
theorem d_M_drawBy_65 : decode prog_14_method_49_code 65 = .ok (.getfield 79, 3) := by decide +kernel
theorem d_M_drawBy_68 : decode prog_14_method_49_code 68 = .ok (.iconst 0, 1) := by decide +kernel
theorem d_M_drawBy_69 : decode prog_14_method_49_code 69 = .ok (.iload 6, 2) := by decide +kernel
theorem d_M_drawBy_71 : decode prog_14_method_49_code 71 = .ok (.iastore, 1) := by decide +kernel
theorem d_M_drawBy_72 : decode prog_14_method_49_code 72 = .ok (.aload_n 0, 1) := by decide +kernel
theorem d_M_drawBy_73 : decode prog_14_method_49_code 73 = .ok (.getfield 79, 3) := by decide +kernel
theorem d_M_drawBy_76 : decode prog_14_method_49_code 76 = .ok (.iconst 1, 1) := by decide +kernel
theorem d_M_drawBy_77 : decode prog_14_method_49_code 77 = .ok (.iload 7, 2) := by decide +kernel
theorem d_M_drawBy_79 : decode prog_14_method_49_code 79 = .ok (.iastore, 1) := by decide +kernel
theorem d_M_drawBy_80 : decode prog_14_method_49_code 80 = .ok (.aload_n 0, 1) := by decide +kernel
theorem d_M_drawBy_81 : decode prog_14_method_49_code 81 = .ok (.getfield 79, 3) := by decide +kernel
theorem d_M_drawBy_84 : decode prog_14_method_49_code 84 = .ok (.iconst 2, 1) := by decide +kernel
theorem d_M_drawBy_85 : decode prog_14_method_49_code 85 = .ok (.aload_n 0, 1) := by decide +kernel
theorem d_M_drawBy_86 : decode prog_14_method_49_code 86 = .ok (.getfield 29, 3) := by decide +kernel
theorem d_M_drawBy_89 : decode prog_14_method_49_code 89 = .ok (.iload_n 2, 1) := by decide +kernel
theorem d_M_drawBy_90 : decode prog_14_method_49_code 90 = .ok (.iaload, 1) := by decide +kernel
theorem d_M_drawBy_91 : decode prog_14_method_49_code 91 = .ok (.iastore, 1) := by decide +kernel
theorem d_M_drawBy_92 : decode prog_14_method_49_code 92 = .ok (.aload_n 0, 1) := by decide +kernel
theorem d_M_drawBy_93 : decode prog_14_method_49_code 93 = .ok (.getfield 79, 3) := by decide +kernel
theorem d_M_drawBy_96 : decode prog_14_method_49_code 96 = .ok (.iconst 3, 1) := by decide +kernel
theorem d_M_drawBy_97 : decode prog_14_method_49_code 97 = .ok (.aload_n 0, 1) := by decide +kernel
theorem d_M_drawBy_98 : decode prog_14_method_49_code 98 = .ok (.getfield 35, 3) := by decide +kernel
theorem d_M_drawBy_101 : decode prog_14_method_49_code 101 = .ok (.iload_n 2, 1) := by decide +kernel
theorem d_M_drawBy_102 : decode prog_14_method_49_code 102 = .ok (.iaload, 1) := by decide +kernel
theorem d_M_drawBy_103 : decode prog_14_method_49_code 103 = .ok (.iastore, 1) := by decide +kernel
theorem d_M_drawBy_104 : decode prog_14_method_49_code 104 = .ok (.aload_n 0, 1) := by decide +kernel
theorem d_M_drawBy_105 : decode prog_14_method_49_code 105 = .ok (.getfield 79, 3) := by decide +kernel
theorem d_M_drawBy_108 : decode prog_14_method_49_code 108 = .ok (.iconst 4, 1) := by decide +kernel
theorem d_M_drawBy_109 : decode prog_14_method_49_code 109 = .ok (.iload_n 1, 1) := by decide +kernel
theorem d_M_drawBy_110 : decode prog_14_method_49_code 110 = .ok (.iastore, 1) := by decide +kernel
theorem d_M_drawBy_111 : decode prog_14_method_49_code 111 = .ok (.aload_n 0, 1) := by decide +kernel
theorem d_M_drawBy_112 : decode prog_14_method_49_code 112 = .ok (.getfield 79, 3) := by decide +kernel
theorem d_M_drawBy_115 : decode prog_14_method_49_code 115 = .ok (.iconst 5, 1) := by decide +kernel
theorem d_M_drawBy_116 : decode prog_14_method_49_code 116 = .ok (.iload 4, 2) := by decide +kernel
theorem d_M_drawBy_118 : decode prog_14_method_49_code 118 = .ok (.iastore, 1) := by decide +kernel
theorem d_M_drawBy_119 : decode prog_14_method_49_code 119 = .ok (.aload_n 0, 1) := by decide +kernel
theorem d_M_drawBy_120 : decode prog_14_method_49_code 120 = .ok (.getfield 79, 3) := by decide +kernel
theorem d_M_drawBy_123 : decode prog_14_method_49_code 123 = .ok (.bipush (6), 2) := by decide +kernel
theorem d_M_drawBy_125 : decode prog_14_method_49_code 125 = .ok (.iload 5, 2) := by decide +kernel
theorem d_M_drawBy_127 : decode prog_14_method_49_code 127 = .ok (.iastore, 1) := by decide +kernel
theorem d_M_drawBy_128 : decode prog_14_method_49_code 128 = .ok (.aload_n 0, 1) := by decide +kernel
theorem d_M_drawBy_129 : decode prog_14_method_49_code 129 = .ok (.getfield 79, 3) := by decide +kernel
theorem d_M_drawBy_132 : decode prog_14_method_49_code 132 = .ok (.bipush (7), 2) := by decide +kernel
theorem d_M_drawBy_134 : decode prog_14_method_49_code 134 = .ok (.iload 5, 2) := by decide +kernel
theorem d_M_drawBy_136 : decode prog_14_method_49_code 136 = .ok (.bipush (60), 2) := by decide +kernel
theorem d_M_drawBy_138 : decode prog_14_method_49_code 138 = .ok (.idiv, 1) := by decide +kernel
theorem d_M_drawBy_139 : decode prog_14_method_49_code 139 = .ok (.iastore, 1) := by decide +kernel
theorem d_M_drawBy_140 : decode prog_14_method_49_code 140 = .ok (.aload_n 0, 1) := by decide +kernel
theorem d_M_drawBy_141 : decode prog_14_method_49_code 141 = .ok (.aload_n 0, 1) := by decide +kernel
theorem d_M_drawBy_142 : decode prog_14_method_49_code 142 = .ok (.getfield 85, 3) := by decide +kernel
theorem d_M_drawBy_145 : decode prog_14_method_49_code 145 = .ok (.invokevirtual 271, 3) := by decide +kernel
theorem d_M_drawBy_148 : decode prog_14_method_49_code 148 = .ok (.iconst 0, 1) := by decide +kernel
theorem d_M_drawBy_149 : decode prog_14_method_49_code 149 = .ok (.iload 6, 2) := by decide +kernel
theorem d_M_drawBy_151 : decode prog_14_method_49_code 151 = .ok (.invokestatic 274, 3) := by decide +kernel
theorem d_M_drawBy_154 : decode prog_14_method_49_code 154 = .ok (.ireturn, 1) := by decide +kernel
set_option maxHeartbeats 4000000 in
set_option maxRecDepth 100000 in
theorem zf_M_drawBy_J50 {G : zz_G} {l : Launch} {Z : zz_Z} {q : Int32 × zz_S} {s : zz_S} (C : zz_Cx G l "OneBlanketModel" "drawBy" prog_14_method_49_code 9 (some .int) 5 (some (.int q.1), zsh, q.2) Z) (t0 : Int32) (h : f_M_drawBy_J50 t0 s = some q) : Z 50 [none, none, none, none, none, none, none, none, none] [.int t0] zsh s := by
  unfold f_M_drawBy_J50 at h
  refine zz_istore (i := 8) (lo' := [none, none, none, none, none, none, none, none, some (.int t0)]) (pc := 50) C (Nat.le_of_ble_eq_true rfl) rfl rfl d_M_drawBy_50 ?_
  refine zz_iload (i := 8) (pc := 52) C rfl d_M_drawBy_52 ?_
  refine zz_if_ge (tgt := 61) (pc := 54) C (by decide) d_M_drawBy_54 (fun hc9 => ?_) (fun hc9 => ?_)
  · rw [if_pos hc9] at h
    refine zz_iload (i := 8) (pc := 61) C rfl d_M_drawBy_61 ?_
    replace h := Option.some.inj h
    subst h
    exact zz_ret (pc := 63) C (v := some (.int t0)) d_M_drawBy_63 (Or.inl ⟨_, _, rfl, rfl, rfl, rfl⟩) rfl
  · rw [if_neg hc9] at h
    refine zz_iconst (pc := 57) C zki_0 d_M_drawBy_57 ?_
    refine zz_goto (tgt := 63) (pc := 58) C (by decide) d_M_drawBy_58 ?_
    replace h := Option.some.inj h
    subst h
    exact zz_ret (pc := 63) C (v := some (.int (0 : Int32))) d_M_drawBy_63 (Or.inl ⟨_, _, rfl, rfl, rfl, rfl⟩) rfl
set_option maxHeartbeats 4000000 in
set_option maxRecDepth 100000 in
theorem zf_M_drawBy {G : zz_G} {l : Launch} {Z : zz_Z} {q : Int32 × zz_S} {s : zz_S} (C : zz_Cx G l "OneBlanketModel" "drawBy" prog_14_method_49_code 9 (some .int) 5 (some (.int q.1), zsh, q.2) Z) (a1 : Int32) (a2 : Int32) (a3 : Int32) (a4 : Int32) (a5 : Int32) (h : f_M_drawBy a1 a2 a3 a4 a5 s = some q) : Z 0 [some (.ref 79), some (.int a1), some (.int a2), some (.int a3), some (.int a4), some (.int a5), none, none, none] [] zsh s := by
  unfold f_M_drawBy at h
  refine zz_iload_n (i := 3) (pc := 0) C rfl rfl d_M_drawBy_0 ?_
  refine zz_cSi (as := [.int a3]) (st := []) (pc := 1) C (zm_M_sizeOf rfl) zcs_M_sizeOf zl_12_294 (by omega) (Nat.le_of_ble_eq_true rfl) d_M_drawBy_1 rfl rfl ?_
  refine zz_istore (i := 6) (lo' := [some (.ref 79), some (.int a1), some (.int a2), some (.int a3), some (.int a4), some (.int a5), some (.int (f_M_sizeOf a3)), none, none]) (pc := 4) C (Nat.le_of_ble_eq_true rfl) rfl rfl d_M_drawBy_4 ?_
  refine zz_aload_n (i := 0) (pc := 6) C rfl rfl d_M_drawBy_6 ?_
  refine zz_iload_n (i := 1) (pc := 7) C rfl rfl d_M_drawBy_7 ?_
  refine zz_iload_n (i := 2) (pc := 8) C rfl rfl d_M_drawBy_8 ?_
  obtain ⟨q1, hq1, h⟩ := zz_bdE h
  refine zz_cVi (as := [.int a1, .int a2]) (st := []) (pc := 9) C (zm_M_under hq1) zcv_M_under zsh_79 zl_12_291 (by omega) (Nat.le_of_ble_eq_true rfl) d_M_drawBy_9 rfl rfl ?_
  refine zz_istore (i := 7) (lo' := [some (.ref 79), some (.int a1), some (.int a2), some (.int a3), some (.int a4), some (.int a5), some (.int (f_M_sizeOf a3)), some (.int q1), none]) (pc := 12) C (Nat.le_of_ble_eq_true rfl) rfl rfl d_M_drawBy_12 ?_
  refine zz_aload_n (i := 0) (pc := 14) C rfl rfl d_M_drawBy_14 ?_
  refine zz_getI (pc := 15) C zl_12_85 zsh_79 rfl d_M_drawBy_15 ?_
  refine zz_if_ge (tgt := 64) (pc := 18) C (by decide) d_M_drawBy_18 (fun hc2 => ?_) (fun hc2 => ?_)
  · rw [if_pos hc2] at h
    refine zz_aload_n (i := 0) (pc := 64) C rfl rfl d_M_drawBy_64 ?_
    refine zz_getR (pc := 65) C zl_12_79 zsh_79 rfl d_M_drawBy_65 ?_
    refine zz_iconst (pc := 68) C zki_0 d_M_drawBy_68 ?_
    refine zz_iload (i := 6) (pc := 69) C rfl d_M_drawBy_69 ?_
    refine zz_iast (pc := 71) C zkx_0 zsh_101 (by decide) d_M_drawBy_71 ?_
    refine zz_aload_n (i := 0) (pc := 72) C rfl rfl d_M_drawBy_72 ?_
    refine zz_getR (pc := 73) C zl_12_79 zsh_79 rfl d_M_drawBy_73 ?_
    refine zz_iconst (pc := 76) C zki_1 d_M_drawBy_76 ?_
    refine zz_iload (i := 7) (pc := 77) C rfl d_M_drawBy_77 ?_
    refine zz_iast (pc := 79) C zkx_1 zsh_101 (by decide) d_M_drawBy_79 ?_
    refine zz_aload_n (i := 0) (pc := 80) C rfl rfl d_M_drawBy_80 ?_
    refine zz_getR (pc := 81) C zl_12_79 zsh_79 rfl d_M_drawBy_81 ?_
    refine zz_iconst (pc := 84) C zki_2 d_M_drawBy_84 ?_
    refine zz_aload_n (i := 0) (pc := 85) C rfl rfl d_M_drawBy_85 ?_
    refine zz_getR (pc := 86) C zl_12_29 zsh_79 rfl d_M_drawBy_86 ?_
    refine zz_iload_n (i := 2) (pc := 89) C rfl rfl d_M_drawBy_89 ?_
    obtain ⟨hi3, h⟩ := zz_ckE h
    refine zz_ialdv (v := (s.1 85 (a2.toNatClampNeg))) (pc := 90) C rfl zsh_85 hi3 rfl d_M_drawBy_90 ?_
    refine zz_iast (pc := 91) C zkx_2 zsh_101 (by decide) d_M_drawBy_91 ?_
    refine zz_aload_n (i := 0) (pc := 92) C rfl rfl d_M_drawBy_92 ?_
    refine zz_getR (pc := 93) C zl_12_79 zsh_79 rfl d_M_drawBy_93 ?_
    refine zz_iconst (pc := 96) C zki_3 d_M_drawBy_96 ?_
    refine zz_aload_n (i := 0) (pc := 97) C rfl rfl d_M_drawBy_97 ?_
    refine zz_getR (pc := 98) C zl_12_35 zsh_79 rfl d_M_drawBy_98 ?_
    refine zz_iload_n (i := 2) (pc := 101) C rfl rfl d_M_drawBy_101 ?_
    refine zz_ialdv (v := (s.1 87 (a2.toNatClampNeg))) (pc := 102) C rfl zsh_87 hi3 rfl d_M_drawBy_102 ?_
    refine zz_iast (pc := 103) C zkx_3 zsh_101 (by decide) d_M_drawBy_103 ?_
    refine zz_aload_n (i := 0) (pc := 104) C rfl rfl d_M_drawBy_104 ?_
    refine zz_getR (pc := 105) C zl_12_79 zsh_79 rfl d_M_drawBy_105 ?_
    refine zz_iconst (pc := 108) C zki_4 d_M_drawBy_108 ?_
    refine zz_iload_n (i := 1) (pc := 109) C rfl rfl d_M_drawBy_109 ?_
    refine zz_iast (pc := 110) C zkx_4 zsh_101 (by decide) d_M_drawBy_110 ?_
    refine zz_aload_n (i := 0) (pc := 111) C rfl rfl d_M_drawBy_111 ?_
    refine zz_getR (pc := 112) C zl_12_79 zsh_79 rfl d_M_drawBy_112 ?_
    refine zz_iconst (pc := 115) C zki_5 d_M_drawBy_115 ?_
    refine zz_iload (i := 4) (pc := 116) C rfl d_M_drawBy_116 ?_
    refine zz_iast (pc := 118) C zkx_5 zsh_101 (by decide) d_M_drawBy_118 ?_
    refine zz_aload_n (i := 0) (pc := 119) C rfl rfl d_M_drawBy_119 ?_
    refine zz_getR (pc := 120) C zl_12_79 zsh_79 rfl d_M_drawBy_120 ?_
    refine zz_bipush (pc := 123) C zkb_6 d_M_drawBy_123 ?_
    refine zz_iload (i := 5) (pc := 125) C rfl d_M_drawBy_125 ?_
    refine zz_iast (pc := 127) C zkx_6 zsh_101 (by decide) d_M_drawBy_127 ?_
    refine zz_aload_n (i := 0) (pc := 128) C rfl rfl d_M_drawBy_128 ?_
    refine zz_getR (pc := 129) C zl_12_79 zsh_79 rfl d_M_drawBy_129 ?_
    refine zz_bipush (pc := 132) C zkb_7 d_M_drawBy_132 ?_
    refine zz_iload (i := 5) (pc := 134) C rfl d_M_drawBy_134 ?_
    refine zz_bipush (pc := 136) C zkb_60 d_M_drawBy_136 ?_
    refine zz_idiv (pc := 138) C (by decide) d_M_drawBy_138 ?_
    refine zz_iast (pc := 139) C zkx_7 zsh_101 (by decide) d_M_drawBy_139 ?_
    refine zz_aload_n (i := 0) (pc := 140) C rfl rfl d_M_drawBy_140 ?_
    refine zz_aload_n (i := 0) (pc := 141) C rfl rfl d_M_drawBy_141 ?_
    refine zz_getIv (v := (s.1 79 36)) (pc := 142) C zl_12_85 zsh_79 rfl rfl d_M_drawBy_142 ?_
    obtain ⟨q4, hq4, h⟩ := zz_bdE h
    refine zz_cVi (as := [.int (s.1 79 36)]) (st := []) (pc := 145) C (zm_M_gives hq4) zcv_M_gives zsh_79 zl_12_271 (by omega) (Nat.le_of_ble_eq_true rfl) d_M_drawBy_145 rfl rfl ?_
    refine zz_iconst (pc := 148) C zki_0 d_M_drawBy_148 ?_
    refine zz_iload (i := 6) (pc := 149) C rfl d_M_drawBy_149 ?_
    refine zz_cSi (as := [.int q4.1, .int (0 : Int32), .int (f_M_sizeOf a3)]) (st := []) (pc := 151) C (zm_M_held rfl) zcs_M_held zl_12_274 (by omega) (Nat.le_of_ble_eq_true rfl) d_M_drawBy_151 rfl rfl ?_
    replace h := Option.some.inj h
    subst h
    exact zz_ret (pc := 154) C (v := some (.int (f_M_held q4.1 (0 : Int32) (f_M_sizeOf a3)))) d_M_drawBy_154 (Or.inl ⟨_, _, rfl, rfl, rfl, rfl⟩) rfl
  · rw [if_neg hc2] at h
    refine zz_iload (i := 4) (pc := 21) C rfl d_M_drawBy_21 ?_
    refine zz_iconst (pc := 23) C zki_1 d_M_drawBy_23 ?_
    refine zz_icmp_ne (tgt := 31) (pc := 24) C (by decide) d_M_drawBy_24 (fun hc5 => ?_) (fun hc5 => ?_)
    · rw [if_neg hc5] at h
      refine zz_iload (i := 6) (pc := 31) C rfl d_M_drawBy_31 ?_
      refine zz_iload (i := 7) (pc := 33) C rfl d_M_drawBy_33 ?_
      refine zz_imul (pc := 35) C d_M_drawBy_35 ?_
      refine zz_aload_n (i := 0) (pc := 36) C rfl rfl d_M_drawBy_36 ?_
      refine zz_getR (pc := 37) C zl_12_17 zsh_79 rfl d_M_drawBy_37 ?_
      refine zz_iload_n (i := 1) (pc := 40) C rfl rfl d_M_drawBy_40 ?_
      obtain ⟨hi6, h⟩ := zz_ckE h
      refine zz_iald (pc := 41) C rfl zsh_81 hi6 d_M_drawBy_41 ?_
      obtain ⟨hy7, h⟩ := zz_ckN h
      refine zz_idiv (pc := 42) C hy7 d_M_drawBy_42 ?_
      refine zz_aload_n (i := 0) (pc := 43) C rfl rfl d_M_drawBy_43 ?_
      refine zz_getR (pc := 44) C zl_12_35 zsh_79 rfl d_M_drawBy_44 ?_
      refine zz_iload_n (i := 2) (pc := 47) C rfl rfl d_M_drawBy_47 ?_
      obtain ⟨hi8, h⟩ := zz_ckE h
      refine zz_iald (pc := 48) C rfl zsh_87 hi8 d_M_drawBy_48 ?_
      refine zz_isub (pc := 49) C d_M_drawBy_49 ?_
      refine zz_fg C [false, false, false, false, false, false, false, false, false] rfl rfl ?_
      exact zf_M_drawBy_J50 C ((((f_M_sizeOf a3) * q1) / (s.1 81 (a1.toNatClampNeg))) - (s.1 87 (a2.toNatClampNeg))) h
    · rw [if_pos hc5] at h
      refine zz_iconst (pc := 27) C zki_0 d_M_drawBy_27 ?_
      refine zz_goto (tgt := 50) (pc := 28) C (by decide) d_M_drawBy_28 ?_
      refine zz_fg C [false, false, false, false, false, false, false, false, false] rfl rfl ?_
      exact zf_M_drawBy_J50 C (0 : Int32) h
theorem zm_M_drawBy {G : zz_G} {l : Launch} {s : zz_S} {q : Int32 × zz_S} {a1 : Int32} {a2 : Int32} {a3 : Int32} {a4 : Int32} {a5 : Int32} (h : f_M_drawBy a1 a2 a3 a4 a5 s = some q) : zz_M G l 5 y_M_drawBy prog_14_method_49_code 9 (some .int) [.ref 79, .int a1, .int a2, .int a3, .int a4, .int a5] zsh s (some (.int q.1), zsh, q.2) :=
  zz_M.intro (by decide) (Nat.le_of_ble_eq_true rfl) (Nat.le_refl _) (Nat.le_refl _) (fun Z C => zf_M_drawBy C a1 a2 a3 a4 a5 h)
theorem d_M_coveredOf_0 : decode prog_14_method_47_code 0 = .ok (.iconst 0, 1) := by decide +kernel
theorem d_M_coveredOf_1 : decode prog_14_method_47_code 1 = .ok (.istore_n 2, 1) := by decide +kernel
theorem d_M_coveredOf_2 : decode prog_14_method_47_code 2 = .ok (.aload_n 0, 1) := by decide +kernel
theorem d_M_coveredOf_3 : decode prog_14_method_47_code 3 = .ok (.getfield 88, 3) := by decide +kernel
theorem d_M_coveredOf_6 : decode prog_14_method_47_code 6 = .ok (.iload_n 1, 1) := by decide +kernel
theorem d_M_coveredOf_7 : decode prog_14_method_47_code 7 = .ok (.iaload, 1) := by decide +kernel
theorem d_M_coveredOf_8 : decode prog_14_method_47_code 8 = .ok (.istore_n 3, 1) := by decide +kernel
theorem d_M_coveredOf_9 : decode prog_14_method_47_code 9 = .ok (.iload_n 3, 1) := by decide +kernel
theorem d_M_coveredOf_10 : decode prog_14_method_47_code 10 = .ok (.aload_n 0, 1) := by decide +kernel
theorem d_M_coveredOf_11 : decode prog_14_method_47_code 11 = .ok (.getfield 88, 3) := by decide +kernel
theorem d_M_coveredOf_14 : decode prog_14_method_47_code 14 = .ok (.iload_n 1, 1) := by decide +kernel
theorem d_M_coveredOf_15 : decode prog_14_method_47_code 15 = .ok (.iaload, 1) := by decide +kernel
theorem d_M_coveredOf_16 : decode prog_14_method_47_code 16 = .ok (.aload_n 0, 1) := by decide +kernel
theorem d_M_coveredOf_17 : decode prog_14_method_47_code 17 = .ok (.getfield 17, 3) := by decide +kernel
theorem d_M_coveredOf_20 : decode prog_14_method_47_code 20 = .ok (.iload_n 1, 1) := by decide +kernel
theorem d_M_coveredOf_21 : decode prog_14_method_47_code 21 = .ok (.iaload, 1) := by decide +kernel
theorem d_M_coveredOf_22 : decode prog_14_method_47_code 22 = .ok (.iadd, 1) := by decide +kernel
theorem d_M_coveredOf_23 : decode prog_14_method_47_code 23 = .ok (.if_icmp .ge (71), 3) := by decide +kernel
theorem d_M_coveredOf_26 : decode prog_14_method_47_code 26 = .ok (.iconst 0, 1) := by decide +kernel
theorem d_M_coveredOf_27 : decode prog_14_method_47_code 27 = .ok (.istore 4, 2) := by decide +kernel
theorem d_M_coveredOf_29 : decode prog_14_method_47_code 29 = .ok (.iconst 0, 1) := by decide +kernel
theorem d_M_coveredOf_30 : decode prog_14_method_47_code 30 = .ok (.istore 5, 2) := by decide +kernel
theorem d_M_coveredOf_32 : decode prog_14_method_47_code 32 = .ok (.iload 5, 2) := by decide +kernel
theorem d_M_coveredOf_34 : decode prog_14_method_47_code 34 = .ok (.aload_n 0, 1) := by decide +kernel
theorem d_M_coveredOf_35 : decode prog_14_method_47_code 35 = .ok (.getfield 162, 3) := by decide +kernel
theorem d_M_coveredOf_38 : decode prog_14_method_47_code 38 = .ok (.if_icmp .ge (42), 3) := by decide +kernel
theorem d_M_coveredOf_41 : decode prog_14_method_47_code 41 = .ok (.iload_n 3, 1) := by decide +kernel
theorem d_M_coveredOf_42 : decode prog_14_method_47_code 42 = .ok (.aload_n 0, 1) := by decide +kernel
theorem d_M_coveredOf_43 : decode prog_14_method_47_code 43 = .ok (.getfield 91, 3) := by decide +kernel
theorem d_M_coveredOf_46 : decode prog_14_method_47_code 46 = .ok (.iload 5, 2) := by decide +kernel
theorem d_M_coveredOf_48 : decode prog_14_method_47_code 48 = .ok (.iaload, 1) := by decide +kernel
theorem d_M_coveredOf_49 : decode prog_14_method_47_code 49 = .ok (.if_icmp .lt (25), 3) := by decide +kernel
theorem d_M_coveredOf_52 : decode prog_14_method_47_code 52 = .ok (.iload_n 3, 1) := by decide +kernel
theorem d_M_coveredOf_53 : decode prog_14_method_47_code 53 = .ok (.aload_n 0, 1) := by decide +kernel
theorem d_M_coveredOf_54 : decode prog_14_method_47_code 54 = .ok (.getfield 91, 3) := by decide +kernel
theorem d_M_coveredOf_57 : decode prog_14_method_47_code 57 = .ok (.iload 5, 2) := by decide +kernel
theorem d_M_coveredOf_59 : decode prog_14_method_47_code 59 = .ok (.iaload, 1) := by decide +kernel
theorem d_M_coveredOf_60 : decode prog_14_method_47_code 60 = .ok (.aload_n 0, 1) := by decide +kernel
theorem d_M_coveredOf_61 : decode prog_14_method_47_code 61 = .ok (.getfield 29, 3) := by decide +kernel
theorem d_M_coveredOf_64 : decode prog_14_method_47_code 64 = .ok (.iload 5, 2) := by decide +kernel
theorem d_M_coveredOf_66 : decode prog_14_method_47_code 66 = .ok (.iaload, 1) := by decide +kernel
theorem d_M_coveredOf_67 : decode prog_14_method_47_code 67 = .ok (.iadd, 1) := by decide +kernel
theorem d_M_coveredOf_68 : decode prog_14_method_47_code 68 = .ok (.if_icmp .ge (6), 3) := by decide +kernel
theorem d_M_coveredOf_71 : decode prog_14_method_47_code 71 = .ok (.iconst 1, 1) := by decide +kernel
theorem d_M_coveredOf_72 : decode prog_14_method_47_code 72 = .ok (.istore 4, 2) := by decide +kernel
theorem d_M_coveredOf_74 : decode prog_14_method_47_code 74 = .ok (.iinc 5 (1), 3) := by decide +kernel
theorem d_M_coveredOf_77 : decode prog_14_method_47_code 77 = .ok (.goto (-45), 3) := by decide +kernel
theorem d_M_coveredOf_80 : decode prog_14_method_47_code 80 = .ok (.iload 4, 2) := by decide +kernel
theorem d_M_coveredOf_82 : decode prog_14_method_47_code 82 = .ok (.ifCond .eq (6), 3) := by decide +kernel
theorem d_M_coveredOf_85 : decode prog_14_method_47_code 85 = .ok (.iinc 2 (1), 3) := by decide +kernel
theorem d_M_coveredOf_88 : decode prog_14_method_47_code 88 = .ok (.iinc 3 (1), 3) := by decide +kernel
theorem d_M_coveredOf_91 : decode prog_14_method_47_code 91 = .ok (.goto (-82), 3) := by decide +kernel
theorem d_M_coveredOf_94 : decode prog_14_method_47_code 94 = .ok (.iload_n 2, 1) := by decide +kernel
theorem d_M_coveredOf_95 : decode prog_14_method_47_code 95 = .ok (.ireturn, 1) := by decide +kernel
set_option maxHeartbeats 4000000 in
set_option maxRecDepth 100000 in
theorem zf_M_coveredOf_L32 {G : zz_G} {l : Launch} {Z : zz_Z} {q : Int32} {s : zz_S} (C : zz_Cx G l "OneBlanketModel" "coveredOf" prog_14_method_47_code 6 (some .int) 2 (some (.int q), zsh, s) Z) (K9 : Int32 → Int32 → Int32 → Option (Int32)) (hK9 : ∀ (v1 : Int32) (v2 : Int32) (v3 : Int32), K9 v1 v2 v3 = some q → Z 9 [some (.ref 79), some (.int v1), some (.int v2), some (.int v3), none, none] [] zsh s) : ∀ (n : Nat) (v1 : Int32) (v2 : Int32) (v3 : Int32) (v4 : Int32) (v5 : Int32), f_M_coveredOf_L32 K9 s n v1 v2 v3 v4 v5 = some q → Z 32 [some (.ref 79), some (.int v1), some (.int v2), some (.int v3), some (.int v4), some (.int v5)] [] zsh s := by
  intro n
  induction n with
  | zero => intro v1 v2 v3 v4 v5 h; rw [f_M_coveredOf_L32] at h; cases h
  | succ n ih =>
  intro v1 v2 v3 v4 v5 h
  rw [f_M_coveredOf_L32] at h
  refine zz_iload (i := 5) (pc := 32) C rfl d_M_coveredOf_32 ?_
  refine zz_aload_n (i := 0) (pc := 34) C rfl rfl d_M_coveredOf_34 ?_
  refine zz_getI (pc := 35) C zl_12_162 zsh_79 rfl d_M_coveredOf_35 ?_
  refine zz_icmp_ge (tgt := 80) (pc := 38) C (by decide) d_M_coveredOf_38 (fun hc4 => ?_) (fun hc4 => ?_)
  · rw [if_pos hc4] at h
    refine zz_iload (i := 4) (pc := 80) C rfl d_M_coveredOf_80 ?_
    refine zz_if_eq (tgt := 88) (pc := 82) C (by decide) d_M_coveredOf_82 (fun hc5 => ?_) (fun hc5 => ?_)
    · rw [if_pos hc5] at h
      refine zz_iinc (lo' := [some (.ref 79), some (.int v1), some (.int v2), some (.int (v3 + (1 : Int32))), some (.int v4), some (.int v5)]) (pc := 88) C rfl (zz_inc zki_1) rfl rfl d_M_coveredOf_88 ?_
      refine zz_goto (tgt := 9) (pc := 91) C (by decide) d_M_coveredOf_91 ?_
      refine zz_fg C [true, true, true, true, false, false] rfl rfl ?_
      exact hK9 v1 v2 (v3 + (1 : Int32)) h
    · rw [if_neg hc5] at h
      refine zz_iinc (lo' := [some (.ref 79), some (.int v1), some (.int (v2 + (1 : Int32))), some (.int v3), some (.int v4), some (.int v5)]) (pc := 85) C rfl (zz_inc zki_1) rfl rfl d_M_coveredOf_85 ?_
      refine zz_iinc (lo' := [some (.ref 79), some (.int v1), some (.int (v2 + (1 : Int32))), some (.int (v3 + (1 : Int32))), some (.int v4), some (.int v5)]) (pc := 88) C rfl (zz_inc zki_1) rfl rfl d_M_coveredOf_88 ?_
      refine zz_goto (tgt := 9) (pc := 91) C (by decide) d_M_coveredOf_91 ?_
      refine zz_fg C [true, true, true, true, false, false] rfl rfl ?_
      exact hK9 v1 (v2 + (1 : Int32)) (v3 + (1 : Int32)) h
  · rw [if_neg hc4] at h
    refine zz_iload_n (i := 3) (pc := 41) C rfl rfl d_M_coveredOf_41 ?_
    refine zz_aload_n (i := 0) (pc := 42) C rfl rfl d_M_coveredOf_42 ?_
    refine zz_getR (pc := 43) C zl_12_91 zsh_79 rfl d_M_coveredOf_43 ?_
    refine zz_iload (i := 5) (pc := 46) C rfl d_M_coveredOf_46 ?_
    obtain ⟨hi6, h⟩ := zz_ckE h
    refine zz_iald (pc := 48) C rfl zsh_104 hi6 d_M_coveredOf_48 ?_
    refine zz_icmp_lt (tgt := 74) (pc := 49) C (by decide) d_M_coveredOf_49 (fun hc7 => ?_) (fun hc7 => ?_)
    · rw [if_pos hc7] at h
      refine zz_iinc (lo' := [some (.ref 79), some (.int v1), some (.int v2), some (.int v3), some (.int v4), some (.int (v5 + (1 : Int32)))]) (pc := 74) C rfl (zz_inc zki_1) rfl rfl d_M_coveredOf_74 ?_
      refine zz_goto (tgt := 32) (pc := 77) C (by decide) d_M_coveredOf_77 ?_
      exact ih v1 v2 v3 v4 (v5 + (1 : Int32)) h
    · rw [if_neg hc7] at h
      refine zz_iload_n (i := 3) (pc := 52) C rfl rfl d_M_coveredOf_52 ?_
      refine zz_aload_n (i := 0) (pc := 53) C rfl rfl d_M_coveredOf_53 ?_
      refine zz_getR (pc := 54) C zl_12_91 zsh_79 rfl d_M_coveredOf_54 ?_
      refine zz_iload (i := 5) (pc := 57) C rfl d_M_coveredOf_57 ?_
      refine zz_iald (pc := 59) C rfl zsh_104 hi6 d_M_coveredOf_59 ?_
      refine zz_aload_n (i := 0) (pc := 60) C rfl rfl d_M_coveredOf_60 ?_
      refine zz_getR (pc := 61) C zl_12_29 zsh_79 rfl d_M_coveredOf_61 ?_
      refine zz_iload (i := 5) (pc := 64) C rfl d_M_coveredOf_64 ?_
      refine zz_iald (pc := 66) C rfl zsh_85 hi6 d_M_coveredOf_66 ?_
      refine zz_iadd (pc := 67) C d_M_coveredOf_67 ?_
      refine zz_icmp_ge (tgt := 74) (pc := 68) C (by decide) d_M_coveredOf_68 (fun hc8 => ?_) (fun hc8 => ?_)
      · rw [if_pos hc8] at h
        refine zz_iinc (lo' := [some (.ref 79), some (.int v1), some (.int v2), some (.int v3), some (.int v4), some (.int (v5 + (1 : Int32)))]) (pc := 74) C rfl (zz_inc zki_1) rfl rfl d_M_coveredOf_74 ?_
        refine zz_goto (tgt := 32) (pc := 77) C (by decide) d_M_coveredOf_77 ?_
        exact ih v1 v2 v3 v4 (v5 + (1 : Int32)) h
      · rw [if_neg hc8] at h
        refine zz_iconst (pc := 71) C zki_1 d_M_coveredOf_71 ?_
        refine zz_istore (i := 4) (lo' := [some (.ref 79), some (.int v1), some (.int v2), some (.int v3), some (.int (1 : Int32)), some (.int v5)]) (pc := 72) C (Nat.le_of_ble_eq_true rfl) rfl rfl d_M_coveredOf_72 ?_
        refine zz_iinc (lo' := [some (.ref 79), some (.int v1), some (.int v2), some (.int v3), some (.int (1 : Int32)), some (.int (v5 + (1 : Int32)))]) (pc := 74) C rfl (zz_inc zki_1) rfl rfl d_M_coveredOf_74 ?_
        refine zz_goto (tgt := 32) (pc := 77) C (by decide) d_M_coveredOf_77 ?_
        exact ih v1 v2 v3 (1 : Int32) (v5 + (1 : Int32)) h
set_option maxHeartbeats 4000000 in
set_option maxRecDepth 100000 in
theorem zf_M_coveredOf_L9 {G : zz_G} {l : Launch} {Z : zz_Z} {q : Int32} {s : zz_S} (C : zz_Cx G l "OneBlanketModel" "coveredOf" prog_14_method_47_code 6 (some .int) 2 (some (.int q), zsh, s) Z) : ∀ (n : Nat) (v1 : Int32) (v2 : Int32) (v3 : Int32), f_M_coveredOf_L9 s n v1 v2 v3 = some q → Z 9 [some (.ref 79), some (.int v1), some (.int v2), some (.int v3), none, none] [] zsh s := by
  intro n
  induction n with
  | zero => intro v1 v2 v3 h; rw [f_M_coveredOf_L9] at h; cases h
  | succ n ih =>
  intro v1 v2 v3 h
  rw [f_M_coveredOf_L9] at h
  refine zz_iload_n (i := 3) (pc := 9) C rfl rfl d_M_coveredOf_9 ?_
  refine zz_aload_n (i := 0) (pc := 10) C rfl rfl d_M_coveredOf_10 ?_
  refine zz_getR (pc := 11) C zl_12_88 zsh_79 rfl d_M_coveredOf_11 ?_
  refine zz_iload_n (i := 1) (pc := 14) C rfl rfl d_M_coveredOf_14 ?_
  obtain ⟨hi2, h⟩ := zz_ckE h
  refine zz_iald (pc := 15) C rfl zsh_103 hi2 d_M_coveredOf_15 ?_
  refine zz_aload_n (i := 0) (pc := 16) C rfl rfl d_M_coveredOf_16 ?_
  refine zz_getR (pc := 17) C zl_12_17 zsh_79 rfl d_M_coveredOf_17 ?_
  refine zz_iload_n (i := 1) (pc := 20) C rfl rfl d_M_coveredOf_20 ?_
  refine zz_iald (pc := 21) C rfl zsh_81 hi2 d_M_coveredOf_21 ?_
  refine zz_iadd (pc := 22) C d_M_coveredOf_22 ?_
  refine zz_icmp_ge (tgt := 94) (pc := 23) C (by decide) d_M_coveredOf_23 (fun hc3 => ?_) (fun hc3 => ?_)
  · rw [if_pos hc3] at h
    refine zz_iload_n (i := 2) (pc := 94) C rfl rfl d_M_coveredOf_94 ?_
    replace h := Option.some.inj h
    subst h
    exact zz_ret (pc := 95) C (v := some (.int v2)) d_M_coveredOf_95 (Or.inl ⟨_, _, rfl, rfl, rfl, rfl⟩) rfl
  · rw [if_neg hc3] at h
    refine zz_iconst (pc := 26) C zki_0 d_M_coveredOf_26 ?_
    refine zz_istore (i := 4) (lo' := [some (.ref 79), some (.int v1), some (.int v2), some (.int v3), some (.int (0 : Int32)), none]) (pc := 27) C (Nat.le_of_ble_eq_true rfl) rfl rfl d_M_coveredOf_27 ?_
    refine zz_iconst (pc := 29) C zki_0 d_M_coveredOf_29 ?_
    refine zz_istore (i := 5) (lo' := [some (.ref 79), some (.int v1), some (.int v2), some (.int v3), some (.int (0 : Int32)), some (.int (0 : Int32))]) (pc := 30) C (Nat.le_of_ble_eq_true rfl) rfl rfl d_M_coveredOf_30 ?_
    exact zf_M_coveredOf_L32 C (f_M_coveredOf_L9 s n) ih zF v1 v2 v3 (0 : Int32) (0 : Int32) h
set_option maxHeartbeats 4000000 in
set_option maxRecDepth 100000 in
theorem zf_M_coveredOf {G : zz_G} {l : Launch} {Z : zz_Z} {q : Int32} {s : zz_S} (C : zz_Cx G l "OneBlanketModel" "coveredOf" prog_14_method_47_code 6 (some .int) 2 (some (.int q), zsh, s) Z) (a1 : Int32) (h : f_M_coveredOf a1 s = some q) : Z 0 [some (.ref 79), some (.int a1), none, none, none, none] [] zsh s := by
  unfold f_M_coveredOf at h
  refine zz_iconst (pc := 0) C zki_0 d_M_coveredOf_0 ?_
  refine zz_istore_n (i := 2) (lo' := [some (.ref 79), some (.int a1), some (.int (0 : Int32)), none, none, none]) (pc := 1) C rfl (Nat.le_of_ble_eq_true rfl) rfl rfl d_M_coveredOf_1 ?_
  refine zz_aload_n (i := 0) (pc := 2) C rfl rfl d_M_coveredOf_2 ?_
  refine zz_getR (pc := 3) C zl_12_88 zsh_79 rfl d_M_coveredOf_3 ?_
  refine zz_iload_n (i := 1) (pc := 6) C rfl rfl d_M_coveredOf_6 ?_
  obtain ⟨hi1, h⟩ := zz_ckE h
  refine zz_iald (pc := 7) C rfl zsh_103 hi1 d_M_coveredOf_7 ?_
  refine zz_istore_n (i := 3) (lo' := [some (.ref 79), some (.int a1), some (.int (0 : Int32)), some (.int (s.1 103 (a1.toNatClampNeg))), none, none]) (pc := 8) C rfl (Nat.le_of_ble_eq_true rfl) rfl rfl d_M_coveredOf_8 ?_
  exact zf_M_coveredOf_L9 C zF a1 (0 : Int32) (s.1 103 (a1.toNatClampNeg)) h
theorem zm_M_coveredOf {G : zz_G} {l : Launch} {s : zz_S} {q : Int32} {a1 : Int32} (h : f_M_coveredOf a1 s = some q) : zz_M G l 2 y_M_coveredOf prog_14_method_47_code 6 (some .int) [.ref 79, .int a1] zsh s (some (.int q), zsh, s) :=
  zz_M.intro (by decide) (Nat.le_of_ble_eq_true rfl) (Nat.le_refl _) (Nat.le_refl _) (fun Z C => zf_M_coveredOf C a1 h)
theorem d_M_turnNow_0 : decode prog_14_method_50_code 0 = .ok (.iload_n 2, 1) := by decide +kernel
theorem d_M_turnNow_1 : decode prog_14_method_50_code 1 = .ok (.ifCond .ge (7), 3) := by decide +kernel
theorem d_M_turnNow_4 : decode prog_14_method_50_code 4 = .ok (.iconst (-1), 1) := by decide +kernel
theorem d_M_turnNow_5 : decode prog_14_method_50_code 5 = .ok (.goto (4), 3) := by decide +kernel
theorem d_M_turnNow_8 : decode prog_14_method_50_code 8 = .ok (.iconst 1, 1) := by decide +kernel
theorem d_M_turnNow_9 : decode prog_14_method_50_code 9 = .ok (.istore 4, 2) := by decide +kernel
theorem d_M_turnNow_11 : decode prog_14_method_50_code 11 = .ok (.aload_n 0, 1) := by decide +kernel
theorem d_M_turnNow_12 : decode prog_14_method_50_code 12 = .ok (.getfield 94, 3) := by decide +kernel
theorem d_M_turnNow_15 : decode prog_14_method_50_code 15 = .ok (.iload_n 1, 1) := by decide +kernel
theorem d_M_turnNow_16 : decode prog_14_method_50_code 16 = .ok (.iaload, 1) := by decide +kernel
theorem d_M_turnNow_17 : decode prog_14_method_50_code 17 = .ok (.ifCond .eq (18), 3) := by decide +kernel
theorem d_M_turnNow_20 : decode prog_14_method_50_code 20 = .ok (.aload_n 0, 1) := by decide +kernel
theorem d_M_turnNow_21 : decode prog_14_method_50_code 21 = .ok (.getfield 94, 3) := by decide +kernel
theorem d_M_turnNow_24 : decode prog_14_method_50_code 24 = .ok (.iload_n 1, 1) := by decide +kernel
theorem d_M_turnNow_25 : decode prog_14_method_50_code 25 = .ok (.iaload, 1) := by decide +kernel
theorem d_M_turnNow_26 : decode prog_14_method_50_code 26 = .ok (.iload 4, 2) := by decide +kernel
theorem d_M_turnNow_28 : decode prog_14_method_50_code 28 = .ok (.if_icmp .eq (7), 3) := by decide +kernel
theorem d_M_turnNow_31 : decode prog_14_method_50_code 31 = .ok (.iconst 1, 1) := by decide +kernel
theorem d_M_turnNow_32 : decode prog_14_method_50_code 32 = .ok (.goto (4), 3) := by decide +kernel
theorem d_M_turnNow_35 : decode prog_14_method_50_code 35 = .ok (.iconst 0, 1) := by decide +kernel
theorem d_M_turnNow_36 : decode prog_14_method_50_code 36 = .ok (.istore 5, 2) := by decide +kernel
theorem d_M_turnNow_38 : decode prog_14_method_50_code 38 = .ok (.iconst 0, 1) := by decide +kernel
theorem d_M_turnNow_39 : decode prog_14_method_50_code 39 = .ok (.istore 6, 2) := by decide +kernel
theorem d_M_turnNow_41 : decode prog_14_method_50_code 41 = .ok (.iload 6, 2) := by decide +kernel
theorem d_M_turnNow_43 : decode prog_14_method_50_code 43 = .ok (.aload_n 0, 1) := by decide +kernel
theorem d_M_turnNow_44 : decode prog_14_method_50_code 44 = .ok (.getfield 155, 3) := by decide +kernel
theorem d_M_turnNow_47 : decode prog_14_method_50_code 47 = .ok (.if_icmp .ge (22), 3) := by decide +kernel
theorem d_M_turnNow_50 : decode prog_14_method_50_code 50 = .ok (.aload_n 0, 1) := by decide +kernel
theorem d_M_turnNow_51 : decode prog_14_method_50_code 51 = .ok (.getfield 121, 3) := by decide +kernel
theorem d_M_turnNow_54 : decode prog_14_method_50_code 54 = .ok (.iload 6, 2) := by decide +kernel
theorem d_M_turnNow_56 : decode prog_14_method_50_code 56 = .ok (.aload_n 0, 1) := by decide +kernel
theorem d_M_turnNow_57 : decode prog_14_method_50_code 57 = .ok (.iload 6, 2) := by decide +kernel
theorem d_M_turnNow_59 : decode prog_14_method_50_code 59 = .ok (.invokevirtual 297, 3) := by decide +kernel
theorem d_M_turnNow_62 : decode prog_14_method_50_code 62 = .ok (.iastore, 1) := by decide +kernel
theorem d_M_turnNow_63 : decode prog_14_method_50_code 63 = .ok (.iinc 6 (1), 3) := by decide +kernel
theorem d_M_turnNow_66 : decode prog_14_method_50_code 66 = .ok (.goto (-25), 3) := by decide +kernel
theorem d_M_turnNow_69 : decode prog_14_method_50_code 69 = .ok (.iconst 0, 1) := by decide +kernel
theorem d_M_turnNow_70 : decode prog_14_method_50_code 70 = .ok (.istore 6, 2) := by decide +kernel
theorem d_M_turnNow_72 : decode prog_14_method_50_code 72 = .ok (.iload 6, 2) := by decide +kernel
theorem d_M_turnNow_74 : decode prog_14_method_50_code 74 = .ok (.aload_n 0, 1) := by decide +kernel
theorem d_M_turnNow_75 : decode prog_14_method_50_code 75 = .ok (.getfield 162, 3) := by decide +kernel
theorem d_M_turnNow_78 : decode prog_14_method_50_code 78 = .ok (.if_icmp .ge (41), 3) := by decide +kernel
theorem d_M_turnNow_81 : decode prog_14_method_50_code 81 = .ok (.aload_n 0, 1) := by decide +kernel
theorem d_M_turnNow_82 : decode prog_14_method_50_code 82 = .ok (.getfield 97, 3) := by decide +kernel
theorem d_M_turnNow_85 : decode prog_14_method_50_code 85 = .ok (.iload 6, 2) := by decide +kernel
theorem d_M_turnNow_87 : decode prog_14_method_50_code 87 = .ok (.aload_n 0, 1) := by decide +kernel
theorem d_M_turnNow_88 : decode prog_14_method_50_code 88 = .ok (.iload_n 1, 1) := by decide +kernel
theorem d_M_turnNow_89 : decode prog_14_method_50_code 89 = .ok (.iload 6, 2) := by decide +kernel
theorem d_M_turnNow_91 : decode prog_14_method_50_code 91 = .ok (.invokevirtual 291, 3) := by decide +kernel
theorem d_M_turnNow_94 : decode prog_14_method_50_code 94 = .ok (.ifCond .le (17), 3) := by decide +kernel
theorem d_M_turnNow_97 : decode prog_14_method_50_code 97 = .ok (.aload_n 0, 1) := by decide +kernel
theorem d_M_turnNow_98 : decode prog_14_method_50_code 98 = .ok (.iload_n 1, 1) := by decide +kernel
theorem d_M_turnNow_99 : decode prog_14_method_50_code 99 = .ok (.iload 6, 2) := by decide +kernel
theorem d_M_turnNow_101 : decode prog_14_method_50_code 101 = .ok (.iload_n 2, 1) := by decide +kernel
theorem d_M_turnNow_102 : decode prog_14_method_50_code 102 = .ok (.iload 5, 2) := by decide +kernel
theorem d_M_turnNow_104 : decode prog_14_method_50_code 104 = .ok (.iload_n 3, 1) := by decide +kernel
theorem d_M_turnNow_105 : decode prog_14_method_50_code 105 = .ok (.invokevirtual 300, 3) := by decide +kernel
theorem d_M_turnNow_108 : decode prog_14_method_50_code 108 = .ok (.goto (4), 3) := by decide +kernel
theorem d_M_turnNow_111 : decode prog_14_method_50_code 111 = .ok (.iconst 0, 1) := by decide +kernel
theorem d_M_turnNow_112 : decode prog_14_method_50_code 112 = .ok (.iastore, 1) := by decide +kernel
theorem d_M_turnNow_113 : decode prog_14_method_50_code 113 = .ok (.iinc 6 (1), 3) := by decide +kernel
theorem d_M_turnNow_116 : decode prog_14_method_50_code 116 = .ok (.goto (-44), 3) := by decide +kernel
theorem d_M_turnNow_119 : decode prog_14_method_50_code 119 = .ok (.iconst 0, 1) := by decide +kernel
theorem d_M_turnNow_120 : decode prog_14_method_50_code 120 = .ok (.istore 6, 2) := by decide +kernel
theorem d_M_turnNow_122 : decode prog_14_method_50_code 122 = .ok (.iload 6, 2) := by decide +kernel
theorem d_M_turnNow_124 : decode prog_14_method_50_code 124 = .ok (.aload_n 0, 1) := by decide +kernel
theorem d_M_turnNow_125 : decode prog_14_method_50_code 125 = .ok (.getfield 162, 3) := by decide +kernel
theorem d_M_turnNow_128 : decode prog_14_method_50_code 128 = .ok (.if_icmp .ge (53), 3) := by decide +kernel
theorem d_M_turnNow_131 : decode prog_14_method_50_code 131 = .ok (.aload_n 0, 1) := by decide +kernel
theorem d_M_turnNow_132 : decode prog_14_method_50_code 132 = .ok (.getfield 91, 3) := by decide +kernel
theorem d_M_turnNow_135 : decode prog_14_method_50_code 135 = .ok (.iload 6, 2) := by decide +kernel
theorem d_M_turnNow_137 : decode prog_14_method_50_code 137 = .ok (.dup2, 1) := by decide +kernel
theorem d_M_turnNow_138 : decode prog_14_method_50_code 138 = .ok (.iaload, 1) := by decide +kernel
theorem d_M_turnNow_139 : decode prog_14_method_50_code 139 = .ok (.iload 4, 2) := by decide +kernel
theorem d_M_turnNow_141 : decode prog_14_method_50_code 141 = .ok (.aload_n 0, 1) := by decide +kernel
theorem d_M_turnNow_142 : decode prog_14_method_50_code 142 = .ok (.getfield 97, 3) := by decide +kernel
theorem d_M_turnNow_145 : decode prog_14_method_50_code 145 = .ok (.iload 6, 2) := by decide +kernel
theorem d_M_turnNow_147 : decode prog_14_method_50_code 147 = .ok (.iaload, 1) := by decide +kernel
theorem d_M_turnNow_148 : decode prog_14_method_50_code 148 = .ok (.imul, 1) := by decide +kernel
theorem d_M_turnNow_149 : decode prog_14_method_50_code 149 = .ok (.iadd, 1) := by decide +kernel
theorem d_M_turnNow_150 : decode prog_14_method_50_code 150 = .ok (.iastore, 1) := by decide +kernel
theorem d_M_turnNow_151 : decode prog_14_method_50_code 151 = .ok (.aload_n 0, 1) := by decide +kernel
theorem d_M_turnNow_152 : decode prog_14_method_50_code 152 = .ok (.getfield 118, 3) := by decide +kernel
theorem d_M_turnNow_155 : decode prog_14_method_50_code 155 = .ok (.iconst 3, 1) := by decide +kernel
theorem d_M_turnNow_156 : decode prog_14_method_50_code 156 = .ok (.iload_n 1, 1) := by decide +kernel
theorem d_M_turnNow_157 : decode prog_14_method_50_code 157 = .ok (.imul, 1) := by decide +kernel
theorem d_M_turnNow_158 : decode prog_14_method_50_code 158 = .ok (.iload 6, 2) := by decide +kernel
theorem d_M_turnNow_160 : decode prog_14_method_50_code 160 = .ok (.iadd, 1) := by decide +kernel
theorem d_M_turnNow_161 : decode prog_14_method_50_code 161 = .ok (.dup2, 1) := by decide +kernel
theorem d_M_turnNow_162 : decode prog_14_method_50_code 162 = .ok (.iaload, 1) := by decide +kernel
theorem d_M_turnNow_163 : decode prog_14_method_50_code 163 = .ok (.iload 4, 2) := by decide +kernel
theorem d_M_turnNow_165 : decode prog_14_method_50_code 165 = .ok (.aload_n 0, 1) := by decide +kernel
theorem d_M_turnNow_166 : decode prog_14_method_50_code 166 = .ok (.getfield 97, 3) := by decide +kernel
theorem d_M_turnNow_169 : decode prog_14_method_50_code 169 = .ok (.iload 6, 2) := by decide +kernel
theorem d_M_turnNow_171 : decode prog_14_method_50_code 171 = .ok (.iaload, 1) := by decide +kernel
theorem d_M_turnNow_172 : decode prog_14_method_50_code 172 = .ok (.imul, 1) := by decide +kernel
theorem d_M_turnNow_173 : decode prog_14_method_50_code 173 = .ok (.iadd, 1) := by decide +kernel
theorem d_M_turnNow_174 : decode prog_14_method_50_code 174 = .ok (.iastore, 1) := by decide +kernel
theorem d_M_turnNow_175 : decode prog_14_method_50_code 175 = .ok (.iinc 6 (1), 3) := by decide +kernel
theorem d_M_turnNow_178 : decode prog_14_method_50_code 178 = .ok (.goto (-56), 3) := by decide +kernel
theorem d_M_turnNow_181 : decode prog_14_method_50_code 181 = .ok (.aload_n 0, 1) := by decide +kernel
theorem d_M_turnNow_182 : decode prog_14_method_50_code 182 = .ok (.getfield 88, 3) := by decide +kernel
theorem d_M_turnNow_185 : decode prog_14_method_50_code 185 = .ok (.iload_n 1, 1) := by decide +kernel
theorem d_M_turnNow_186 : decode prog_14_method_50_code 186 = .ok (.aload_n 0, 1) := by decide +kernel
theorem d_M_turnNow_187 : decode prog_14_method_50_code 187 = .ok (.getfield 88, 3) := by decide +kernel
theorem d_M_turnNow_190 : decode prog_14_method_50_code 190 = .ok (.iload_n 1, 1) := by decide +kernel
theorem d_M_turnNow_191 : decode prog_14_method_50_code 191 = .ok (.iaload, 1) := by decide +kernel
theorem d_M_turnNow_192 : decode prog_14_method_50_code 192 = .ok (.iload_n 2, 1) := by decide +kernel
theorem d_M_turnNow_193 : decode prog_14_method_50_code 193 = .ok (.iadd, 1) := by decide +kernel
theorem d_M_turnNow_194 : decode prog_14_method_50_code 194 = .ok (.iconst 0, 1) := by decide +kernel
theorem d_M_turnNow_195 : decode prog_14_method_50_code 195 = .ok (.aload_n 0, 1) := by decide +kernel
theorem d_M_turnNow_196 : decode prog_14_method_50_code 196 = .ok (.getfield 7, 3) := by decide +kernel
theorem d_M_turnNow_199 : decode prog_14_method_50_code 199 = .ok (.aload_n 0, 1) := by decide +kernel
theorem d_M_turnNow_200 : decode prog_14_method_50_code 200 = .ok (.getfield 17, 3) := by decide +kernel
theorem d_M_turnNow_203 : decode prog_14_method_50_code 203 = .ok (.iload_n 1, 1) := by decide +kernel
theorem d_M_turnNow_204 : decode prog_14_method_50_code 204 = .ok (.iaload, 1) := by decide +kernel
theorem d_M_turnNow_205 : decode prog_14_method_50_code 205 = .ok (.isub, 1) := by decide +kernel
theorem d_M_turnNow_206 : decode prog_14_method_50_code 206 = .ok (.invokestatic 274, 3) := by decide +kernel
theorem d_M_turnNow_209 : decode prog_14_method_50_code 209 = .ok (.iastore, 1) := by decide +kernel
theorem d_M_turnNow_210 : decode prog_14_method_50_code 210 = .ok (.aload_n 0, 1) := by decide +kernel
theorem d_M_turnNow_211 : decode prog_14_method_50_code 211 = .ok (.getfield 94, 3) := by decide +kernel
theorem d_M_turnNow_214 : decode prog_14_method_50_code 214 = .ok (.iload_n 1, 1) := by decide +kernel
theorem d_M_turnNow_215 : decode prog_14_method_50_code 215 = .ok (.iload 4, 2) := by decide +kernel
theorem d_M_turnNow_217 : decode prog_14_method_50_code 217 = .ok (.iastore, 1) := by decide +kernel
theorem d_M_turnNow_218 : decode prog_14_method_50_code 218 = .ok (.iconst 0, 1) := by decide +kernel
theorem d_M_turnNow_219 : decode prog_14_method_50_code 219 = .ok (.istore 6, 2) := by decide +kernel
theorem d_M_turnNow_221 : decode prog_14_method_50_code 221 = .ok (.iload 6, 2) := by decide +kernel
theorem d_M_turnNow_223 : decode prog_14_method_50_code 223 = .ok (.aload_n 0, 1) := by decide +kernel
theorem d_M_turnNow_224 : decode prog_14_method_50_code 224 = .ok (.getfield 155, 3) := by decide +kernel
theorem d_M_turnNow_227 : decode prog_14_method_50_code 227 = .ok (.if_icmp .ge (70), 3) := by decide +kernel
theorem d_M_turnNow_230 : decode prog_14_method_50_code 230 = .ok (.iload 6, 2) := by decide +kernel
theorem d_M_turnNow_232 : decode prog_14_method_50_code 232 = .ok (.iload_n 1, 1) := by decide +kernel
theorem d_M_turnNow_233 : decode prog_14_method_50_code 233 = .ok (.if_icmp .eq (58), 3) := by decide +kernel
theorem d_M_turnNow_236 : decode prog_14_method_50_code 236 = .ok (.aload_n 0, 1) := by decide +kernel
theorem d_M_turnNow_237 : decode prog_14_method_50_code 237 = .ok (.getfield 112, 3) := by decide +kernel
theorem d_M_turnNow_240 : decode prog_14_method_50_code 240 = .ok (.iload 6, 2) := by decide +kernel
theorem d_M_turnNow_242 : decode prog_14_method_50_code 242 = .ok (.iaload, 1) := by decide +kernel
theorem d_M_turnNow_243 : decode prog_14_method_50_code 243 = .ok (.ifCond .ge (48), 3) := by decide +kernel
theorem d_M_turnNow_246 : decode prog_14_method_50_code 246 = .ok (.iconst 2, 1) := by decide +kernel
theorem d_M_turnNow_247 : decode prog_14_method_50_code 247 = .ok (.aload_n 0, 1) := by decide +kernel
theorem d_M_turnNow_248 : decode prog_14_method_50_code 248 = .ok (.getfield 121, 3) := by decide +kernel
theorem d_M_turnNow_251 : decode prog_14_method_50_code 251 = .ok (.iload 6, 2) := by decide +kernel
theorem d_M_turnNow_253 : decode prog_14_method_50_code 253 = .ok (.iaload, 1) := by decide +kernel
theorem d_M_turnNow_254 : decode prog_14_method_50_code 254 = .ok (.aload_n 0, 1) := by decide +kernel
theorem d_M_turnNow_255 : decode prog_14_method_50_code 255 = .ok (.iload 6, 2) := by decide +kernel
theorem d_M_turnNow_257 : decode prog_14_method_50_code 257 = .ok (.invokevirtual 297, 3) := by decide +kernel
theorem d_M_turnNow_260 : decode prog_14_method_50_code 260 = .ok (.isub, 1) := by decide +kernel
theorem d_M_turnNow_261 : decode prog_14_method_50_code 261 = .ok (.imul, 1) := by decide +kernel
theorem d_M_turnNow_262 : decode prog_14_method_50_code 262 = .ok (.aload_n 0, 1) := by decide +kernel
theorem d_M_turnNow_263 : decode prog_14_method_50_code 263 = .ok (.getfield 17, 3) := by decide +kernel
theorem d_M_turnNow_266 : decode prog_14_method_50_code 266 = .ok (.iload 6, 2) := by decide +kernel
theorem d_M_turnNow_268 : decode prog_14_method_50_code 268 = .ok (.iaload, 1) := by decide +kernel
theorem d_M_turnNow_269 : decode prog_14_method_50_code 269 = .ok (.if_icmp .ge (6), 3) := by decide +kernel
theorem d_M_turnNow_272 : decode prog_14_method_50_code 272 = .ok (.goto (19), 3) := by decide +kernel
theorem d_M_turnNow_275 : decode prog_14_method_50_code 275 = .ok (.aload_n 0, 1) := by decide +kernel
theorem d_M_turnNow_276 : decode prog_14_method_50_code 276 = .ok (.getfield 112, 3) := by decide +kernel
theorem d_M_turnNow_279 : decode prog_14_method_50_code 279 = .ok (.iload 6, 2) := by decide +kernel
theorem d_M_turnNow_281 : decode prog_14_method_50_code 281 = .ok (.iload_n 3, 1) := by decide +kernel
theorem d_M_turnNow_282 : decode prog_14_method_50_code 282 = .ok (.iastore, 1) := by decide +kernel
theorem d_M_turnNow_283 : decode prog_14_method_50_code 283 = .ok (.aload_n 0, 1) := by decide +kernel
theorem d_M_turnNow_284 : decode prog_14_method_50_code 284 = .ok (.getfield 115, 3) := by decide +kernel
theorem d_M_turnNow_287 : decode prog_14_method_50_code 287 = .ok (.iload 6, 2) := by decide +kernel
theorem d_M_turnNow_289 : decode prog_14_method_50_code 289 = .ok (.iload_n 1, 1) := by decide +kernel
theorem d_M_turnNow_290 : decode prog_14_method_50_code 290 = .ok (.iastore, 1) := by decide +kernel
theorem d_M_turnNow_291 : decode prog_14_method_50_code 291 = .ok (.iinc 6 (1), 3) := by decide +kernel
theorem d_M_turnNow_294 : decode prog_14_method_50_code 294 = .ok (.goto (-73), 3) := by decide +kernel
theorem d_M_turnNow_297 : decode prog_14_method_50_code 297 = .ok (.return_, 1) := by decide +kernel
set_option maxHeartbeats 4000000 in
set_option maxRecDepth 100000 in
theorem zf_M_turnNow_L221 {G : zz_G} {l : Launch} {Z : zz_Z} {q : zz_S} (C : zz_Cx G l "OneBlanketModel" "turnNow" prog_14_method_50_code 7 (none) 6 (none, zsh, q) Z) : ∀ (n : Nat) (v1 : Int32) (v3 : Int32) (v6 : Int32) (s : zz_S), f_M_turnNow_L221 n v1 v3 v6 s = some q → Z 221 [some (.ref 79), some (.int v1), none, some (.int v3), none, none, some (.int v6)] [] zsh s := by
  intro n
  induction n with
  | zero => intro v1 v3 v6 s h; rw [f_M_turnNow_L221] at h; cases h
  | succ n ih =>
  intro v1 v3 v6 s h
  rw [f_M_turnNow_L221] at h
  refine zz_iload (i := 6) (pc := 221) C rfl d_M_turnNow_221 ?_
  refine zz_aload_n (i := 0) (pc := 223) C rfl rfl d_M_turnNow_223 ?_
  refine zz_getI (pc := 224) C zl_12_155 zsh_79 rfl d_M_turnNow_224 ?_
  refine zz_icmp_ge (tgt := 297) (pc := 227) C (by decide) d_M_turnNow_227 (fun hc8 => ?_) (fun hc8 => ?_)
  · rw [if_pos hc8] at h
    replace h := Option.some.inj h
    subst h
    exact zz_ret (pc := 297) C (v := none) d_M_turnNow_297 (Or.inr (Or.inr (Or.inr ⟨rfl, rfl, rfl⟩))) rfl
  · rw [if_neg hc8] at h
    refine zz_iload (i := 6) (pc := 230) C rfl d_M_turnNow_230 ?_
    refine zz_iload_n (i := 1) (pc := 232) C rfl rfl d_M_turnNow_232 ?_
    refine zz_icmp_eq (tgt := 291) (pc := 233) C (by decide) d_M_turnNow_233 (fun hc9 => ?_) (fun hc9 => ?_)
    · rw [if_pos hc9] at h
      refine zz_iinc (lo' := [some (.ref 79), some (.int v1), none, some (.int v3), none, none, some (.int (v6 + (1 : Int32)))]) (pc := 291) C rfl (zz_inc zki_1) rfl rfl d_M_turnNow_291 ?_
      refine zz_goto (tgt := 221) (pc := 294) C (by decide) d_M_turnNow_294 ?_
      exact ih v1 v3 (v6 + (1 : Int32)) s h
    · rw [if_neg hc9] at h
      refine zz_aload_n (i := 0) (pc := 236) C rfl rfl d_M_turnNow_236 ?_
      refine zz_getR (pc := 237) C zl_12_112 zsh_79 rfl d_M_turnNow_237 ?_
      refine zz_iload (i := 6) (pc := 240) C rfl d_M_turnNow_240 ?_
      obtain ⟨hi10, h⟩ := zz_ckE h
      refine zz_iald (pc := 242) C rfl zsh_111 hi10 d_M_turnNow_242 ?_
      refine zz_if_ge (tgt := 291) (pc := 243) C (by decide) d_M_turnNow_243 (fun hc11 => ?_) (fun hc11 => ?_)
      · rw [if_pos hc11] at h
        refine zz_iinc (lo' := [some (.ref 79), some (.int v1), none, some (.int v3), none, none, some (.int (v6 + (1 : Int32)))]) (pc := 291) C rfl (zz_inc zki_1) rfl rfl d_M_turnNow_291 ?_
        refine zz_goto (tgt := 221) (pc := 294) C (by decide) d_M_turnNow_294 ?_
        exact ih v1 v3 (v6 + (1 : Int32)) s h
      · rw [if_neg hc11] at h
        refine zz_iconst (pc := 246) C zki_2 d_M_turnNow_246 ?_
        refine zz_aload_n (i := 0) (pc := 247) C rfl rfl d_M_turnNow_247 ?_
        refine zz_getR (pc := 248) C zl_12_121 zsh_79 rfl d_M_turnNow_248 ?_
        refine zz_iload (i := 6) (pc := 251) C rfl d_M_turnNow_251 ?_
        refine zz_iald (pc := 253) C rfl zsh_114 hi10 d_M_turnNow_253 ?_
        refine zz_aload_n (i := 0) (pc := 254) C rfl rfl d_M_turnNow_254 ?_
        refine zz_iload (i := 6) (pc := 255) C rfl d_M_turnNow_255 ?_
        obtain ⟨q12, hq12, h⟩ := zz_bdE h
        refine zz_cVi (as := [.int v6]) (st := [.int (s.1 114 (v6.toNatClampNeg)), .int (2 : Int32)]) (pc := 257) C (zm_M_coveredOf hq12) zcv_M_coveredOf zsh_79 zl_12_297 (by omega) (Nat.le_of_ble_eq_true rfl) d_M_turnNow_257 rfl rfl ?_
        refine zz_isub (pc := 260) C d_M_turnNow_260 ?_
        refine zz_imul (pc := 261) C d_M_turnNow_261 ?_
        refine zz_aload_n (i := 0) (pc := 262) C rfl rfl d_M_turnNow_262 ?_
        refine zz_getR (pc := 263) C zl_12_17 zsh_79 rfl d_M_turnNow_263 ?_
        refine zz_iload (i := 6) (pc := 266) C rfl d_M_turnNow_266 ?_
        refine zz_iald (pc := 268) C rfl zsh_81 hi10 d_M_turnNow_268 ?_
        refine zz_icmp_ge (tgt := 275) (pc := 269) C (by decide) d_M_turnNow_269 (fun hc13 => ?_) (fun hc13 => ?_)
        · rw [if_pos hc13] at h
          refine zz_aload_n (i := 0) (pc := 275) C rfl rfl d_M_turnNow_275 ?_
          refine zz_getR (pc := 276) C zl_12_112 zsh_79 rfl d_M_turnNow_276 ?_
          refine zz_iload (i := 6) (pc := 279) C rfl d_M_turnNow_279 ?_
          refine zz_iload_n (i := 3) (pc := 281) C rfl rfl d_M_turnNow_281 ?_
          refine zz_iast (pc := 282) C rfl zsh_111 hi10 d_M_turnNow_282 ?_
          refine zz_aload_n (i := 0) (pc := 283) C rfl rfl d_M_turnNow_283 ?_
          refine zz_getR (pc := 284) C zl_12_115 zsh_79 rfl d_M_turnNow_284 ?_
          refine zz_iload (i := 6) (pc := 287) C rfl d_M_turnNow_287 ?_
          refine zz_iload_n (i := 1) (pc := 289) C rfl rfl d_M_turnNow_289 ?_
          refine zz_iast (pc := 290) C rfl zsh_112 hi10 d_M_turnNow_290 ?_
          refine zz_iinc (lo' := [some (.ref 79), some (.int v1), none, some (.int v3), none, none, some (.int (v6 + (1 : Int32)))]) (pc := 291) C rfl (zz_inc zki_1) rfl rfl d_M_turnNow_291 ?_
          refine zz_goto (tgt := 221) (pc := 294) C (by decide) d_M_turnNow_294 ?_
          exact ih v1 v3 (v6 + (1 : Int32)) (zz_w (zz_w s 111 (v6.toNatClampNeg) v3) 112 (v6.toNatClampNeg) v1) h
        · rw [if_neg hc13] at h
          refine zz_goto (tgt := 291) (pc := 272) C (by decide) d_M_turnNow_272 ?_
          refine zz_iinc (lo' := [some (.ref 79), some (.int v1), none, some (.int v3), none, none, some (.int (v6 + (1 : Int32)))]) (pc := 291) C rfl (zz_inc zki_1) rfl rfl d_M_turnNow_291 ?_
          refine zz_goto (tgt := 221) (pc := 294) C (by decide) d_M_turnNow_294 ?_
          exact ih v1 v3 (v6 + (1 : Int32)) s h
set_option maxHeartbeats 4000000 in
set_option maxRecDepth 100000 in
theorem zf_M_turnNow_L122 {G : zz_G} {l : Launch} {Z : zz_Z} {q : zz_S} (C : zz_Cx G l "OneBlanketModel" "turnNow" prog_14_method_50_code 7 (none) 6 (none, zsh, q) Z) : ∀ (n : Nat) (v1 : Int32) (v2 : Int32) (v3 : Int32) (v4 : Int32) (v6 : Int32) (s : zz_S), f_M_turnNow_L122 n v1 v2 v3 v4 v6 s = some q → Z 122 [some (.ref 79), some (.int v1), some (.int v2), some (.int v3), some (.int v4), none, some (.int v6)] [] zsh s := by
  intro n
  induction n with
  | zero => intro v1 v2 v3 v4 v6 s h; rw [f_M_turnNow_L122] at h; cases h
  | succ n ih =>
  intro v1 v2 v3 v4 v6 s h
  rw [f_M_turnNow_L122] at h
  refine zz_iload (i := 6) (pc := 122) C rfl d_M_turnNow_122 ?_
  refine zz_aload_n (i := 0) (pc := 124) C rfl rfl d_M_turnNow_124 ?_
  refine zz_getI (pc := 125) C zl_12_162 zsh_79 rfl d_M_turnNow_125 ?_
  refine zz_icmp_ge (tgt := 181) (pc := 128) C (by decide) d_M_turnNow_128 (fun hc6 => ?_) (fun hc6 => ?_)
  · rw [if_pos hc6] at h
    refine zz_aload_n (i := 0) (pc := 181) C rfl rfl d_M_turnNow_181 ?_
    refine zz_getR (pc := 182) C zl_12_88 zsh_79 rfl d_M_turnNow_182 ?_
    refine zz_iload_n (i := 1) (pc := 185) C rfl rfl d_M_turnNow_185 ?_
    refine zz_aload_n (i := 0) (pc := 186) C rfl rfl d_M_turnNow_186 ?_
    refine zz_getR (pc := 187) C zl_12_88 zsh_79 rfl d_M_turnNow_187 ?_
    refine zz_iload_n (i := 1) (pc := 190) C rfl rfl d_M_turnNow_190 ?_
    obtain ⟨hi7, h⟩ := zz_ckE h
    refine zz_iald (pc := 191) C rfl zsh_103 hi7 d_M_turnNow_191 ?_
    refine zz_iload_n (i := 2) (pc := 192) C rfl rfl d_M_turnNow_192 ?_
    refine zz_iadd (pc := 193) C d_M_turnNow_193 ?_
    refine zz_iconst (pc := 194) C zki_0 d_M_turnNow_194 ?_
    refine zz_aload_n (i := 0) (pc := 195) C rfl rfl d_M_turnNow_195 ?_
    refine zz_getI (pc := 196) C zl_12_7 zsh_79 rfl d_M_turnNow_196 ?_
    refine zz_aload_n (i := 0) (pc := 199) C rfl rfl d_M_turnNow_199 ?_
    refine zz_getR (pc := 200) C zl_12_17 zsh_79 rfl d_M_turnNow_200 ?_
    refine zz_iload_n (i := 1) (pc := 203) C rfl rfl d_M_turnNow_203 ?_
    refine zz_iald (pc := 204) C rfl zsh_81 hi7 d_M_turnNow_204 ?_
    refine zz_isub (pc := 205) C d_M_turnNow_205 ?_
    refine zz_cSi (as := [.int ((s.1 103 (v1.toNatClampNeg)) + v2), .int (0 : Int32), .int ((s.1 79 1) - (s.1 81 (v1.toNatClampNeg)))]) (st := [.int v1, .ref 103]) (pc := 206) C (zm_M_held rfl) zcs_M_held zl_12_274 (by omega) (Nat.le_of_ble_eq_true rfl) d_M_turnNow_206 rfl rfl ?_
    refine zz_iast (pc := 209) C rfl zsh_103 hi7 d_M_turnNow_209 ?_
    refine zz_aload_n (i := 0) (pc := 210) C rfl rfl d_M_turnNow_210 ?_
    refine zz_getR (pc := 211) C zl_12_94 zsh_79 rfl d_M_turnNow_211 ?_
    refine zz_iload_n (i := 1) (pc := 214) C rfl rfl d_M_turnNow_214 ?_
    refine zz_iload (i := 4) (pc := 215) C rfl d_M_turnNow_215 ?_
    refine zz_iast (pc := 217) C rfl zsh_105 hi7 d_M_turnNow_217 ?_
    refine zz_iconst (pc := 218) C zki_0 d_M_turnNow_218 ?_
    refine zz_istore (i := 6) (lo' := [some (.ref 79), some (.int v1), some (.int v2), some (.int v3), some (.int v4), none, some (.int (0 : Int32))]) (pc := 219) C (Nat.le_of_ble_eq_true rfl) rfl rfl d_M_turnNow_219 ?_
    refine zz_fg C [true, true, false, true, false, false, true] rfl rfl ?_
    exact zf_M_turnNow_L221 C zF v1 v3 (0 : Int32) (zz_w (zz_w s 103 (v1.toNatClampNeg) (f_M_held ((s.1 103 (v1.toNatClampNeg)) + v2) (0 : Int32) ((s.1 79 1) - (s.1 81 (v1.toNatClampNeg))))) 105 (v1.toNatClampNeg) v4) h
  · rw [if_neg hc6] at h
    refine zz_aload_n (i := 0) (pc := 131) C rfl rfl d_M_turnNow_131 ?_
    refine zz_getR (pc := 132) C zl_12_91 zsh_79 rfl d_M_turnNow_132 ?_
    refine zz_iload (i := 6) (pc := 135) C rfl d_M_turnNow_135 ?_
    refine zz_dup2 (pc := 137) C rfl rfl d_M_turnNow_137 ?_
    obtain ⟨hi14, h⟩ := zz_ckE h
    refine zz_iald (pc := 138) C rfl zsh_104 hi14 d_M_turnNow_138 ?_
    refine zz_iload (i := 4) (pc := 139) C rfl d_M_turnNow_139 ?_
    refine zz_aload_n (i := 0) (pc := 141) C rfl rfl d_M_turnNow_141 ?_
    refine zz_getR (pc := 142) C zl_12_97 zsh_79 rfl d_M_turnNow_142 ?_
    refine zz_iload (i := 6) (pc := 145) C rfl d_M_turnNow_145 ?_
    refine zz_iald (pc := 147) C rfl zsh_106 hi14 d_M_turnNow_147 ?_
    refine zz_imul (pc := 148) C d_M_turnNow_148 ?_
    refine zz_iadd (pc := 149) C d_M_turnNow_149 ?_
    refine zz_iast (pc := 150) C rfl zsh_104 hi14 d_M_turnNow_150 ?_
    refine zz_aload_n (i := 0) (pc := 151) C rfl rfl d_M_turnNow_151 ?_
    refine zz_getR (pc := 152) C zl_12_118 zsh_79 rfl d_M_turnNow_152 ?_
    refine zz_iconst (pc := 155) C zki_3 d_M_turnNow_155 ?_
    refine zz_iload_n (i := 1) (pc := 156) C rfl rfl d_M_turnNow_156 ?_
    refine zz_imul (pc := 157) C d_M_turnNow_157 ?_
    refine zz_iload (i := 6) (pc := 158) C rfl d_M_turnNow_158 ?_
    refine zz_iadd (pc := 160) C d_M_turnNow_160 ?_
    refine zz_dup2 (pc := 161) C rfl rfl d_M_turnNow_161 ?_
    obtain ⟨hi15, h⟩ := zz_ckE h
    refine zz_ialdv (v := (s.1 113 ((((3 : Int32) * v1) + v6).toNatClampNeg))) (pc := 162) C rfl zsh_113 hi15 rfl d_M_turnNow_162 ?_
    refine zz_iload (i := 4) (pc := 163) C rfl d_M_turnNow_163 ?_
    refine zz_aload_n (i := 0) (pc := 165) C rfl rfl d_M_turnNow_165 ?_
    refine zz_getR (pc := 166) C zl_12_97 zsh_79 rfl d_M_turnNow_166 ?_
    refine zz_iload (i := 6) (pc := 169) C rfl d_M_turnNow_169 ?_
    refine zz_ialdv (v := (s.1 106 (v6.toNatClampNeg))) (pc := 171) C rfl zsh_106 hi14 rfl d_M_turnNow_171 ?_
    refine zz_imul (pc := 172) C d_M_turnNow_172 ?_
    refine zz_iadd (pc := 173) C d_M_turnNow_173 ?_
    refine zz_iast (pc := 174) C rfl zsh_113 hi15 d_M_turnNow_174 ?_
    refine zz_iinc (lo' := [some (.ref 79), some (.int v1), some (.int v2), some (.int v3), some (.int v4), none, some (.int (v6 + (1 : Int32)))]) (pc := 175) C rfl (zz_inc zki_1) rfl rfl d_M_turnNow_175 ?_
    refine zz_goto (tgt := 122) (pc := 178) C (by decide) d_M_turnNow_178 ?_
    exact ih v1 v2 v3 v4 (v6 + (1 : Int32)) (zz_w (zz_w s 104 (v6.toNatClampNeg) ((s.1 104 (v6.toNatClampNeg)) + (v4 * (s.1 106 (v6.toNatClampNeg))))) 113 ((((3 : Int32) * v1) + v6).toNatClampNeg) ((s.1 113 ((((3 : Int32) * v1) + v6).toNatClampNeg)) + (v4 * (s.1 106 (v6.toNatClampNeg))))) h
set_option maxHeartbeats 4000000 in
set_option maxRecDepth 100000 in
theorem zf_M_turnNow_J112 {G : zz_G} {l : Launch} {Z : zz_Z} {q : zz_S} {s : zz_S} (C : zz_Cx G l "OneBlanketModel" "turnNow" prog_14_method_50_code 7 (none) 6 (none, zsh, q) Z) (K72 : Int32 → Int32 → Int32 → Int32 → Int32 → Int32 → zz_S → Option (zz_S)) (hK72 : ∀ (v1 : Int32) (v2 : Int32) (v3 : Int32) (v4 : Int32) (v5 : Int32) (v6 : Int32) (s : zz_S), K72 v1 v2 v3 v4 v5 v6 s = some q → Z 72 [some (.ref 79), some (.int v1), some (.int v2), some (.int v3), some (.int v4), some (.int v5), some (.int v6)] [] zsh s) (v1 : Int32) (v2 : Int32) (v3 : Int32) (v4 : Int32) (v5 : Int32) (v6 : Int32) (t1 : Int32) (t2 : Int32) (h : f_M_turnNow_J112 K72 v1 v2 v3 v4 v5 v6 t1 t2 s = some q) : Z 112 [some (.ref 79), some (.int v1), some (.int v2), some (.int v3), some (.int v4), some (.int v5), some (.int v6)] [.int t2, .int t1, .ref 106] zsh s := by
  unfold f_M_turnNow_J112 at h
  obtain ⟨hi18, h⟩ := zz_ckE h
  refine zz_iast (pc := 112) C rfl zsh_106 hi18 d_M_turnNow_112 ?_
  refine zz_iinc (lo' := [some (.ref 79), some (.int v1), some (.int v2), some (.int v3), some (.int v4), some (.int v5), some (.int (v6 + (1 : Int32)))]) (pc := 113) C rfl (zz_inc zki_1) rfl rfl d_M_turnNow_113 ?_
  refine zz_goto (tgt := 72) (pc := 116) C (by decide) d_M_turnNow_116 ?_
  exact hK72 v1 v2 v3 v4 v5 (v6 + (1 : Int32)) (zz_w s 106 (t1.toNatClampNeg) t2) h
set_option maxHeartbeats 4000000 in
set_option maxRecDepth 100000 in
theorem zf_M_turnNow_L72 {G : zz_G} {l : Launch} {Z : zz_Z} {q : zz_S} (C : zz_Cx G l "OneBlanketModel" "turnNow" prog_14_method_50_code 7 (none) 6 (none, zsh, q) Z) : ∀ (n : Nat) (v1 : Int32) (v2 : Int32) (v3 : Int32) (v4 : Int32) (v5 : Int32) (v6 : Int32) (s : zz_S), f_M_turnNow_L72 n v1 v2 v3 v4 v5 v6 s = some q → Z 72 [some (.ref 79), some (.int v1), some (.int v2), some (.int v3), some (.int v4), some (.int v5), some (.int v6)] [] zsh s := by
  intro n
  induction n with
  | zero => intro v1 v2 v3 v4 v5 v6 s h; rw [f_M_turnNow_L72] at h; cases h
  | succ n ih =>
  intro v1 v2 v3 v4 v5 v6 s h
  rw [f_M_turnNow_L72] at h
  refine zz_iload (i := 6) (pc := 72) C rfl d_M_turnNow_72 ?_
  refine zz_aload_n (i := 0) (pc := 74) C rfl rfl d_M_turnNow_74 ?_
  refine zz_getI (pc := 75) C zl_12_162 zsh_79 rfl d_M_turnNow_75 ?_
  refine zz_icmp_ge (tgt := 119) (pc := 78) C (by decide) d_M_turnNow_78 (fun hc5 => ?_) (fun hc5 => ?_)
  · rw [if_pos hc5] at h
    refine zz_iconst (pc := 119) C zki_0 d_M_turnNow_119 ?_
    refine zz_istore (i := 6) (lo' := [some (.ref 79), some (.int v1), some (.int v2), some (.int v3), some (.int v4), some (.int v5), some (.int (0 : Int32))]) (pc := 120) C (Nat.le_of_ble_eq_true rfl) rfl rfl d_M_turnNow_120 ?_
    refine zz_fg C [true, true, true, true, true, false, true] rfl rfl ?_
    exact zf_M_turnNow_L122 C zF v1 v2 v3 v4 (0 : Int32) s h
  · rw [if_neg hc5] at h
    refine zz_aload_n (i := 0) (pc := 81) C rfl rfl d_M_turnNow_81 ?_
    refine zz_getR (pc := 82) C zl_12_97 zsh_79 rfl d_M_turnNow_82 ?_
    refine zz_iload (i := 6) (pc := 85) C rfl d_M_turnNow_85 ?_
    refine zz_aload_n (i := 0) (pc := 87) C rfl rfl d_M_turnNow_87 ?_
    refine zz_iload_n (i := 1) (pc := 88) C rfl rfl d_M_turnNow_88 ?_
    refine zz_iload (i := 6) (pc := 89) C rfl d_M_turnNow_89 ?_
    obtain ⟨q16, hq16, h⟩ := zz_bdE h
    refine zz_cVi (as := [.int v1, .int v6]) (st := [.int v6, .ref 106]) (pc := 91) C (zm_M_under hq16) zcv_M_under zsh_79 zl_12_291 (by omega) (Nat.le_of_ble_eq_true rfl) d_M_turnNow_91 rfl rfl ?_
    refine zz_if_le (tgt := 111) (pc := 94) C (by decide) d_M_turnNow_94 (fun hc17 => ?_) (fun hc17 => ?_)
    · rw [if_pos hc17] at h
      refine zz_iconst (pc := 111) C zki_0 d_M_turnNow_111 ?_
      exact zf_M_turnNow_J112 C (f_M_turnNow_L72 n) ih v1 v2 v3 v4 v5 v6 v6 (0 : Int32) h
    · rw [if_neg hc17] at h
      refine zz_aload_n (i := 0) (pc := 97) C rfl rfl d_M_turnNow_97 ?_
      refine zz_iload_n (i := 1) (pc := 98) C rfl rfl d_M_turnNow_98 ?_
      refine zz_iload (i := 6) (pc := 99) C rfl d_M_turnNow_99 ?_
      refine zz_iload_n (i := 2) (pc := 101) C rfl rfl d_M_turnNow_101 ?_
      refine zz_iload (i := 5) (pc := 102) C rfl d_M_turnNow_102 ?_
      refine zz_iload_n (i := 3) (pc := 104) C rfl rfl d_M_turnNow_104 ?_
      obtain ⟨q19, hq19, h⟩ := zz_bdE h
      refine zz_cVi (as := [.int v1, .int v6, .int v2, .int v5, .int v3]) (st := [.int v6, .ref 106]) (pc := 105) C (zm_M_drawBy hq19) zcv_M_drawBy zsh_79 zl_12_300 (by omega) (Nat.le_of_ble_eq_true rfl) d_M_turnNow_105 rfl rfl ?_
      refine zz_goto (tgt := 112) (pc := 108) C (by decide) d_M_turnNow_108 ?_
      exact zf_M_turnNow_J112 C (f_M_turnNow_L72 n) ih v1 v2 v3 v4 v5 v6 v6 q19.1 h
set_option maxHeartbeats 4000000 in
set_option maxRecDepth 100000 in
theorem zf_M_turnNow_L41 {G : zz_G} {l : Launch} {Z : zz_Z} {q : zz_S} (C : zz_Cx G l "OneBlanketModel" "turnNow" prog_14_method_50_code 7 (none) 6 (none, zsh, q) Z) : ∀ (n : Nat) (v1 : Int32) (v2 : Int32) (v3 : Int32) (v4 : Int32) (v5 : Int32) (v6 : Int32) (s : zz_S), f_M_turnNow_L41 n v1 v2 v3 v4 v5 v6 s = some q → Z 41 [some (.ref 79), some (.int v1), some (.int v2), some (.int v3), some (.int v4), some (.int v5), some (.int v6)] [] zsh s := by
  intro n
  induction n with
  | zero => intro v1 v2 v3 v4 v5 v6 s h; rw [f_M_turnNow_L41] at h; cases h
  | succ n ih =>
  intro v1 v2 v3 v4 v5 v6 s h
  rw [f_M_turnNow_L41] at h
  refine zz_iload (i := 6) (pc := 41) C rfl d_M_turnNow_41 ?_
  refine zz_aload_n (i := 0) (pc := 43) C rfl rfl d_M_turnNow_43 ?_
  refine zz_getI (pc := 44) C zl_12_155 zsh_79 rfl d_M_turnNow_44 ?_
  refine zz_icmp_ge (tgt := 69) (pc := 47) C (by decide) d_M_turnNow_47 (fun hc4 => ?_) (fun hc4 => ?_)
  · rw [if_pos hc4] at h
    refine zz_iconst (pc := 69) C zki_0 d_M_turnNow_69 ?_
    refine zz_istore (i := 6) (lo' := [some (.ref 79), some (.int v1), some (.int v2), some (.int v3), some (.int v4), some (.int v5), some (.int (0 : Int32))]) (pc := 70) C (Nat.le_of_ble_eq_true rfl) rfl rfl d_M_turnNow_70 ?_
    exact zf_M_turnNow_L72 C zF v1 v2 v3 v4 v5 (0 : Int32) s h
  · rw [if_neg hc4] at h
    refine zz_aload_n (i := 0) (pc := 50) C rfl rfl d_M_turnNow_50 ?_
    refine zz_getR (pc := 51) C zl_12_121 zsh_79 rfl d_M_turnNow_51 ?_
    refine zz_iload (i := 6) (pc := 54) C rfl d_M_turnNow_54 ?_
    refine zz_aload_n (i := 0) (pc := 56) C rfl rfl d_M_turnNow_56 ?_
    refine zz_iload (i := 6) (pc := 57) C rfl d_M_turnNow_57 ?_
    obtain ⟨q20, hq20, h⟩ := zz_bdE h
    refine zz_cVi (as := [.int v6]) (st := [.int v6, .ref 114]) (pc := 59) C (zm_M_coveredOf hq20) zcv_M_coveredOf zsh_79 zl_12_297 (by omega) (Nat.le_of_ble_eq_true rfl) d_M_turnNow_59 rfl rfl ?_
    obtain ⟨hi21, h⟩ := zz_ckE h
    refine zz_iast (pc := 62) C rfl zsh_114 hi21 d_M_turnNow_62 ?_
    refine zz_iinc (lo' := [some (.ref 79), some (.int v1), some (.int v2), some (.int v3), some (.int v4), some (.int v5), some (.int (v6 + (1 : Int32)))]) (pc := 63) C rfl (zz_inc zki_1) rfl rfl d_M_turnNow_63 ?_
    refine zz_goto (tgt := 41) (pc := 66) C (by decide) d_M_turnNow_66 ?_
    exact ih v1 v2 v3 v4 v5 (v6 + (1 : Int32)) (zz_w s 114 (v6.toNatClampNeg) q20) h
set_option maxHeartbeats 4000000 in
set_option maxRecDepth 100000 in
theorem zf_M_turnNow_J36 {G : zz_G} {l : Launch} {Z : zz_Z} {q : zz_S} {s : zz_S} (C : zz_Cx G l "OneBlanketModel" "turnNow" prog_14_method_50_code 7 (none) 6 (none, zsh, q) Z) (v1 : Int32) (v2 : Int32) (v3 : Int32) (v4 : Int32) (t0 : Int32) (h : f_M_turnNow_J36 v1 v2 v3 v4 t0 s = some q) : Z 36 [some (.ref 79), some (.int v1), some (.int v2), some (.int v3), some (.int v4), none, none] [.int t0] zsh s := by
  unfold f_M_turnNow_J36 at h
  refine zz_istore (i := 5) (lo' := [some (.ref 79), some (.int v1), some (.int v2), some (.int v3), some (.int v4), some (.int t0), none]) (pc := 36) C (Nat.le_of_ble_eq_true rfl) rfl rfl d_M_turnNow_36 ?_
  refine zz_iconst (pc := 38) C zki_0 d_M_turnNow_38 ?_
  refine zz_istore (i := 6) (lo' := [some (.ref 79), some (.int v1), some (.int v2), some (.int v3), some (.int v4), some (.int t0), some (.int (0 : Int32))]) (pc := 39) C (Nat.le_of_ble_eq_true rfl) rfl rfl d_M_turnNow_39 ?_
  exact zf_M_turnNow_L41 C zF v1 v2 v3 v4 t0 (0 : Int32) s h
set_option maxHeartbeats 4000000 in
set_option maxRecDepth 100000 in
theorem zf_M_turnNow_J35 {G : zz_G} {l : Launch} {Z : zz_Z} {q : zz_S} {s : zz_S} (C : zz_Cx G l "OneBlanketModel" "turnNow" prog_14_method_50_code 7 (none) 6 (none, zsh, q) Z) (v1 : Int32) (v2 : Int32) (v3 : Int32) (v4 : Int32) (h : f_M_turnNow_J35 v1 v2 v3 v4 s = some q) : Z 35 [some (.ref 79), some (.int v1), some (.int v2), some (.int v3), some (.int v4), none, none] [] zsh s := by
  unfold f_M_turnNow_J35 at h
  refine zz_iconst (pc := 35) C zki_0 d_M_turnNow_35 ?_
  exact zf_M_turnNow_J36 C v1 v2 v3 v4 (0 : Int32) h
set_option maxHeartbeats 4000000 in
set_option maxRecDepth 100000 in
theorem zf_M_turnNow_J9 {G : zz_G} {l : Launch} {Z : zz_Z} {q : zz_S} {s : zz_S} (C : zz_Cx G l "OneBlanketModel" "turnNow" prog_14_method_50_code 7 (none) 6 (none, zsh, q) Z) (v1 : Int32) (v2 : Int32) (v3 : Int32) (t0 : Int32) (h : f_M_turnNow_J9 v1 v2 v3 t0 s = some q) : Z 9 [some (.ref 79), some (.int v1), some (.int v2), some (.int v3), none, none, none] [.int t0] zsh s := by
  unfold f_M_turnNow_J9 at h
  refine zz_istore (i := 4) (lo' := [some (.ref 79), some (.int v1), some (.int v2), some (.int v3), some (.int t0), none, none]) (pc := 9) C (Nat.le_of_ble_eq_true rfl) rfl rfl d_M_turnNow_9 ?_
  refine zz_aload_n (i := 0) (pc := 11) C rfl rfl d_M_turnNow_11 ?_
  refine zz_getR (pc := 12) C zl_12_94 zsh_79 rfl d_M_turnNow_12 ?_
  refine zz_iload_n (i := 1) (pc := 15) C rfl rfl d_M_turnNow_15 ?_
  obtain ⟨hi2, h⟩ := zz_ckE h
  refine zz_iald (pc := 16) C rfl zsh_105 hi2 d_M_turnNow_16 ?_
  refine zz_if_eq (tgt := 35) (pc := 17) C (by decide) d_M_turnNow_17 (fun hc3 => ?_) (fun hc3 => ?_)
  · rw [if_pos hc3] at h
    exact zf_M_turnNow_J35 C v1 v2 v3 t0 h
  · rw [if_neg hc3] at h
    refine zz_aload_n (i := 0) (pc := 20) C rfl rfl d_M_turnNow_20 ?_
    refine zz_getR (pc := 21) C zl_12_94 zsh_79 rfl d_M_turnNow_21 ?_
    refine zz_iload_n (i := 1) (pc := 24) C rfl rfl d_M_turnNow_24 ?_
    refine zz_iald (pc := 25) C rfl zsh_105 hi2 d_M_turnNow_25 ?_
    refine zz_iload (i := 4) (pc := 26) C rfl d_M_turnNow_26 ?_
    refine zz_icmp_eq (tgt := 35) (pc := 28) C (by decide) d_M_turnNow_28 (fun hc22 => ?_) (fun hc22 => ?_)
    · rw [if_pos hc22] at h
      exact zf_M_turnNow_J35 C v1 v2 v3 t0 h
    · rw [if_neg hc22] at h
      refine zz_iconst (pc := 31) C zki_1 d_M_turnNow_31 ?_
      refine zz_goto (tgt := 36) (pc := 32) C (by decide) d_M_turnNow_32 ?_
      exact zf_M_turnNow_J36 C v1 v2 v3 t0 (1 : Int32) h
set_option maxHeartbeats 4000000 in
set_option maxRecDepth 100000 in
theorem zf_M_turnNow {G : zz_G} {l : Launch} {Z : zz_Z} {q : zz_S} {s : zz_S} (C : zz_Cx G l "OneBlanketModel" "turnNow" prog_14_method_50_code 7 (none) 6 (none, zsh, q) Z) (a1 : Int32) (a2 : Int32) (a3 : Int32) (h : f_M_turnNow a1 a2 a3 s = some q) : Z 0 [some (.ref 79), some (.int a1), some (.int a2), some (.int a3), none, none, none] [] zsh s := by
  unfold f_M_turnNow at h
  refine zz_iload_n (i := 2) (pc := 0) C rfl rfl d_M_turnNow_0 ?_
  refine zz_if_ge (tgt := 8) (pc := 1) C (by decide) d_M_turnNow_1 (fun hc1 => ?_) (fun hc1 => ?_)
  · rw [if_pos hc1] at h
    refine zz_iconst (pc := 8) C zki_1 d_M_turnNow_8 ?_
    exact zf_M_turnNow_J9 C a1 a2 a3 (1 : Int32) h
  · rw [if_neg hc1] at h
    refine zz_iconst (pc := 4) C zki_m1 d_M_turnNow_4 ?_
    refine zz_goto (tgt := 9) (pc := 5) C (by decide) d_M_turnNow_5 ?_
    exact zf_M_turnNow_J9 C a1 a2 a3 (-1 : Int32) h
theorem zm_M_turnNow {G : zz_G} {l : Launch} {s : zz_S} {q : zz_S} {a1 : Int32} {a2 : Int32} {a3 : Int32} (h : f_M_turnNow a1 a2 a3 s = some q) : zz_M G l 6 y_M_turnNow prog_14_method_50_code 7 (none) [.ref 79, .int a1, .int a2, .int a3] zsh s (none, zsh, q) :=
  zz_M.intro (by decide) (Nat.le_of_ble_eq_true rfl) (Nat.le_refl _) (Nat.le_refl _) (fun Z C => zf_M_turnNow C a1 a2 a3 h)
theorem d_M_minute_0 : decode prog_14_method_53_code 0 = .ok (.iconst 0, 1) := by decide +kernel
theorem d_M_minute_1 : decode prog_14_method_53_code 1 = .ok (.istore_n 2, 1) := by decide +kernel
theorem d_M_minute_2 : decode prog_14_method_53_code 2 = .ok (.iload_n 2, 1) := by decide +kernel
theorem d_M_minute_3 : decode prog_14_method_53_code 3 = .ok (.aload_n 0, 1) := by decide +kernel
theorem d_M_minute_4 : decode prog_14_method_53_code 4 = .ok (.getfield 191, 3) := by decide +kernel
theorem d_M_minute_7 : decode prog_14_method_53_code 7 = .ok (.if_icmp .ge (69), 3) := by decide +kernel
theorem d_M_minute_10 : decode prog_14_method_53_code 10 = .ok (.aload_n 0, 1) := by decide +kernel
theorem d_M_minute_11 : decode prog_14_method_53_code 11 = .ok (.getfield 38, 3) := by decide +kernel
theorem d_M_minute_14 : decode prog_14_method_53_code 14 = .ok (.iload_n 2, 1) := by decide +kernel
theorem d_M_minute_15 : decode prog_14_method_53_code 15 = .ok (.iaload, 1) := by decide +kernel
theorem d_M_minute_16 : decode prog_14_method_53_code 16 = .ok (.iload_n 1, 1) := by decide +kernel
theorem d_M_minute_17 : decode prog_14_method_53_code 17 = .ok (.if_icmp .ne (53), 3) := by decide +kernel
theorem d_M_minute_20 : decode prog_14_method_53_code 20 = .ok (.aload_n 0, 1) := by decide +kernel
theorem d_M_minute_21 : decode prog_14_method_53_code 21 = .ok (.getfield 41, 3) := by decide +kernel
theorem d_M_minute_24 : decode prog_14_method_53_code 24 = .ok (.iload_n 2, 1) := by decide +kernel
theorem d_M_minute_25 : decode prog_14_method_53_code 25 = .ok (.iaload, 1) := by decide +kernel
theorem d_M_minute_26 : decode prog_14_method_53_code 26 = .ok (.aload_n 0, 1) := by decide +kernel
theorem d_M_minute_27 : decode prog_14_method_53_code 27 = .ok (.getfield 155, 3) := by decide +kernel
theorem d_M_minute_30 : decode prog_14_method_53_code 30 = .ok (.if_icmp .ge (40), 3) := by decide +kernel
theorem d_M_minute_33 : decode prog_14_method_53_code 33 = .ok (.aload_n 0, 1) := by decide +kernel
theorem d_M_minute_34 : decode prog_14_method_53_code 34 = .ok (.getfield 124, 3) := by decide +kernel
theorem d_M_minute_37 : decode prog_14_method_53_code 37 = .ok (.ifCond .lt (16), 3) := by decide +kernel
theorem d_M_minute_40 : decode prog_14_method_53_code 40 = .ok (.aload_n 0, 1) := by decide +kernel
theorem d_M_minute_41 : decode prog_14_method_53_code 41 = .ok (.getfield 41, 3) := by decide +kernel
theorem d_M_minute_44 : decode prog_14_method_53_code 44 = .ok (.iload_n 2, 1) := by decide +kernel
theorem d_M_minute_45 : decode prog_14_method_53_code 45 = .ok (.iaload, 1) := by decide +kernel
theorem d_M_minute_46 : decode prog_14_method_53_code 46 = .ok (.aload_n 0, 1) := by decide +kernel
theorem d_M_minute_47 : decode prog_14_method_53_code 47 = .ok (.getfield 124, 3) := by decide +kernel
theorem d_M_minute_50 : decode prog_14_method_53_code 50 = .ok (.if_icmp .ne (20), 3) := by decide +kernel
theorem d_M_minute_53 : decode prog_14_method_53_code 53 = .ok (.aload_n 0, 1) := by decide +kernel
theorem d_M_minute_54 : decode prog_14_method_53_code 54 = .ok (.aload_n 0, 1) := by decide +kernel
theorem d_M_minute_55 : decode prog_14_method_53_code 55 = .ok (.getfield 41, 3) := by decide +kernel
theorem d_M_minute_58 : decode prog_14_method_53_code 58 = .ok (.iload_n 2, 1) := by decide +kernel
theorem d_M_minute_59 : decode prog_14_method_53_code 59 = .ok (.iaload, 1) := by decide +kernel
theorem d_M_minute_60 : decode prog_14_method_53_code 60 = .ok (.aload_n 0, 1) := by decide +kernel
theorem d_M_minute_61 : decode prog_14_method_53_code 61 = .ok (.getfield 44, 3) := by decide +kernel
theorem d_M_minute_64 : decode prog_14_method_53_code 64 = .ok (.iload_n 2, 1) := by decide +kernel
theorem d_M_minute_65 : decode prog_14_method_53_code 65 = .ok (.iaload, 1) := by decide +kernel
theorem d_M_minute_66 : decode prog_14_method_53_code 66 = .ok (.iload_n 1, 1) := by decide +kernel
theorem d_M_minute_67 : decode prog_14_method_53_code 67 = .ok (.invokevirtual 310, 3) := by decide +kernel
theorem d_M_minute_70 : decode prog_14_method_53_code 70 = .ok (.iinc 2 (1), 3) := by decide +kernel
theorem d_M_minute_73 : decode prog_14_method_53_code 73 = .ok (.goto (-71), 3) := by decide +kernel
theorem d_M_minute_76 : decode prog_14_method_53_code 76 = .ok (.return_, 1) := by decide +kernel
set_option maxHeartbeats 4000000 in
set_option maxRecDepth 100000 in
theorem zf_M_minute_J53 {G : zz_G} {l : Launch} {Z : zz_Z} {q : zz_S} {s : zz_S} (C : zz_Cx G l "OneBlanketModel" "minute" prog_14_method_53_code 3 (none) 7 (none, zsh, q) Z) (K2 : Int32 → Int32 → zz_S → Option (zz_S)) (hK2 : ∀ (v1 : Int32) (v2 : Int32) (s : zz_S), K2 v1 v2 s = some q → Z 2 [some (.ref 79), some (.int v1), some (.int v2)] [] zsh s) (v1 : Int32) (v2 : Int32) (h : f_M_minute_J53 K2 v1 v2 s = some q) : Z 53 [some (.ref 79), some (.int v1), some (.int v2)] [] zsh s := by
  unfold f_M_minute_J53 at h
  refine zz_aload_n (i := 0) (pc := 53) C rfl rfl d_M_minute_53 ?_
  refine zz_aload_n (i := 0) (pc := 54) C rfl rfl d_M_minute_54 ?_
  refine zz_getR (pc := 55) C zl_12_41 zsh_79 rfl d_M_minute_55 ?_
  refine zz_iload_n (i := 2) (pc := 58) C rfl rfl d_M_minute_58 ?_
  obtain ⟨hi6, h⟩ := zz_ckE h
  refine zz_iald (pc := 59) C rfl zsh_89 hi6 d_M_minute_59 ?_
  refine zz_aload_n (i := 0) (pc := 60) C rfl rfl d_M_minute_60 ?_
  refine zz_getR (pc := 61) C zl_12_44 zsh_79 rfl d_M_minute_61 ?_
  refine zz_iload_n (i := 2) (pc := 64) C rfl rfl d_M_minute_64 ?_
  refine zz_iald (pc := 65) C rfl zsh_90 hi6 d_M_minute_65 ?_
  refine zz_iload_n (i := 1) (pc := 66) C rfl rfl d_M_minute_66 ?_
  obtain ⟨q7, hq7, h⟩ := zz_bdE h
  refine zz_cVv (as := [.int (s.1 89 (v2.toNatClampNeg)), .int (s.1 90 (v2.toNatClampNeg)), .int v1]) (st := []) (pc := 67) C (zm_M_turnNow hq7) zcv_M_turnNow zsh_79 zl_12_310 (by omega) (Nat.le_of_ble_eq_true rfl) d_M_minute_67 rfl rfl ?_
  refine zz_iinc (lo' := [some (.ref 79), some (.int v1), some (.int (v2 + (1 : Int32)))]) (pc := 70) C rfl (zz_inc zki_1) rfl rfl d_M_minute_70 ?_
  refine zz_goto (tgt := 2) (pc := 73) C (by decide) d_M_minute_73 ?_
  exact hK2 v1 (v2 + (1 : Int32)) q7 h
set_option maxHeartbeats 4000000 in
set_option maxRecDepth 100000 in
theorem zf_M_minute_L2 {G : zz_G} {l : Launch} {Z : zz_Z} {q : zz_S} (C : zz_Cx G l "OneBlanketModel" "minute" prog_14_method_53_code 3 (none) 7 (none, zsh, q) Z) : ∀ (n : Nat) (v1 : Int32) (v2 : Int32) (s : zz_S), f_M_minute_L2 n v1 v2 s = some q → Z 2 [some (.ref 79), some (.int v1), some (.int v2)] [] zsh s := by
  intro n
  induction n with
  | zero => intro v1 v2 s h; rw [f_M_minute_L2] at h; cases h
  | succ n ih =>
  intro v1 v2 s h
  rw [f_M_minute_L2] at h
  refine zz_iload_n (i := 2) (pc := 2) C rfl rfl d_M_minute_2 ?_
  refine zz_aload_n (i := 0) (pc := 3) C rfl rfl d_M_minute_3 ?_
  refine zz_getI (pc := 4) C zl_12_191 zsh_79 rfl d_M_minute_4 ?_
  refine zz_icmp_ge (tgt := 76) (pc := 7) C (by decide) d_M_minute_7 (fun hc1 => ?_) (fun hc1 => ?_)
  · rw [if_pos hc1] at h
    replace h := Option.some.inj h
    subst h
    exact zz_ret (pc := 76) C (v := none) d_M_minute_76 (Or.inr (Or.inr (Or.inr ⟨rfl, rfl, rfl⟩))) rfl
  · rw [if_neg hc1] at h
    refine zz_aload_n (i := 0) (pc := 10) C rfl rfl d_M_minute_10 ?_
    refine zz_getR (pc := 11) C zl_12_38 zsh_79 rfl d_M_minute_11 ?_
    refine zz_iload_n (i := 2) (pc := 14) C rfl rfl d_M_minute_14 ?_
    obtain ⟨hi2, h⟩ := zz_ckE h
    refine zz_iald (pc := 15) C rfl zsh_88 hi2 d_M_minute_15 ?_
    refine zz_iload_n (i := 1) (pc := 16) C rfl rfl d_M_minute_16 ?_
    refine zz_icmp_ne (tgt := 70) (pc := 17) C (by decide) d_M_minute_17 (fun hc3 => ?_) (fun hc3 => ?_)
    · rw [if_neg hc3] at h
      refine zz_iinc (lo' := [some (.ref 79), some (.int v1), some (.int (v2 + (1 : Int32)))]) (pc := 70) C rfl (zz_inc zki_1) rfl rfl d_M_minute_70 ?_
      refine zz_goto (tgt := 2) (pc := 73) C (by decide) d_M_minute_73 ?_
      exact ih v1 (v2 + (1 : Int32)) s h
    · rw [if_pos hc3] at h
      refine zz_aload_n (i := 0) (pc := 20) C rfl rfl d_M_minute_20 ?_
      refine zz_getR (pc := 21) C zl_12_41 zsh_79 rfl d_M_minute_21 ?_
      refine zz_iload_n (i := 2) (pc := 24) C rfl rfl d_M_minute_24 ?_
      refine zz_iald (pc := 25) C rfl zsh_89 hi2 d_M_minute_25 ?_
      refine zz_aload_n (i := 0) (pc := 26) C rfl rfl d_M_minute_26 ?_
      refine zz_getI (pc := 27) C zl_12_155 zsh_79 rfl d_M_minute_27 ?_
      refine zz_icmp_ge (tgt := 70) (pc := 30) C (by decide) d_M_minute_30 (fun hc4 => ?_) (fun hc4 => ?_)
      · rw [if_pos hc4] at h
        refine zz_iinc (lo' := [some (.ref 79), some (.int v1), some (.int (v2 + (1 : Int32)))]) (pc := 70) C rfl (zz_inc zki_1) rfl rfl d_M_minute_70 ?_
        refine zz_goto (tgt := 2) (pc := 73) C (by decide) d_M_minute_73 ?_
        exact ih v1 (v2 + (1 : Int32)) s h
      · rw [if_neg hc4] at h
        refine zz_aload_n (i := 0) (pc := 33) C rfl rfl d_M_minute_33 ?_
        refine zz_getI (pc := 34) C zl_12_124 zsh_79 rfl d_M_minute_34 ?_
        refine zz_if_lt (tgt := 53) (pc := 37) C (by decide) d_M_minute_37 (fun hc5 => ?_) (fun hc5 => ?_)
        · rw [if_pos hc5] at h
          exact zf_M_minute_J53 C (f_M_minute_L2 n) ih v1 v2 h
        · rw [if_neg hc5] at h
          refine zz_aload_n (i := 0) (pc := 40) C rfl rfl d_M_minute_40 ?_
          refine zz_getR (pc := 41) C zl_12_41 zsh_79 rfl d_M_minute_41 ?_
          refine zz_iload_n (i := 2) (pc := 44) C rfl rfl d_M_minute_44 ?_
          refine zz_iald (pc := 45) C rfl zsh_89 hi2 d_M_minute_45 ?_
          refine zz_aload_n (i := 0) (pc := 46) C rfl rfl d_M_minute_46 ?_
          refine zz_getI (pc := 47) C zl_12_124 zsh_79 rfl d_M_minute_47 ?_
          refine zz_icmp_ne (tgt := 70) (pc := 50) C (by decide) d_M_minute_50 (fun hc8 => ?_) (fun hc8 => ?_)
          · rw [if_neg hc8] at h
            refine zz_iinc (lo' := [some (.ref 79), some (.int v1), some (.int (v2 + (1 : Int32)))]) (pc := 70) C rfl (zz_inc zki_1) rfl rfl d_M_minute_70 ?_
            refine zz_goto (tgt := 2) (pc := 73) C (by decide) d_M_minute_73 ?_
            exact ih v1 (v2 + (1 : Int32)) s h
          · rw [if_pos hc8] at h
            exact zf_M_minute_J53 C (f_M_minute_L2 n) ih v1 v2 h
set_option maxHeartbeats 4000000 in
set_option maxRecDepth 100000 in
theorem zf_M_minute {G : zz_G} {l : Launch} {Z : zz_Z} {q : zz_S} {s : zz_S} (C : zz_Cx G l "OneBlanketModel" "minute" prog_14_method_53_code 3 (none) 7 (none, zsh, q) Z) (a1 : Int32) (h : f_M_minute a1 s = some q) : Z 0 [some (.ref 79), some (.int a1), none] [] zsh s := by
  unfold f_M_minute at h
  refine zz_iconst (pc := 0) C zki_0 d_M_minute_0 ?_
  refine zz_istore_n (i := 2) (lo' := [some (.ref 79), some (.int a1), some (.int (0 : Int32))]) (pc := 1) C rfl (Nat.le_of_ble_eq_true rfl) rfl rfl d_M_minute_1 ?_
  exact zf_M_minute_L2 C zF a1 (0 : Int32) s h
theorem zm_M_minute {G : zz_G} {l : Launch} {s : zz_S} {q : zz_S} {a1 : Int32} (h : f_M_minute a1 s = some q) : zz_M G l 7 y_M_minute prog_14_method_53_code 3 (none) [.ref 79, .int a1] zsh s (none, zsh, q) :=
  zz_M.intro (by decide) (Nat.le_of_ble_eq_true rfl) (Nat.le_refl _) (Nat.le_refl _) (fun Z C => zf_M_minute C a1 h)
theorem d_M_warmOf_0 : decode prog_14_method_48_code 0 = .ok (.iload_n 2, 1) := by decide +kernel
theorem d_M_warmOf_1 : decode prog_14_method_48_code 1 = .ok (.aload_n 0, 1) := by decide +kernel
theorem d_M_warmOf_2 : decode prog_14_method_48_code 2 = .ok (.getfield 23, 3) := by decide +kernel
theorem d_M_warmOf_5 : decode prog_14_method_48_code 5 = .ok (.iload_n 1, 1) := by decide +kernel
theorem d_M_warmOf_6 : decode prog_14_method_48_code 6 = .ok (.iaload, 1) := by decide +kernel
theorem d_M_warmOf_7 : decode prog_14_method_48_code 7 = .ok (.iadd, 1) := by decide +kernel
theorem d_M_warmOf_8 : decode prog_14_method_48_code 8 = .ok (.istore_n 3, 1) := by decide +kernel
theorem d_M_warmOf_9 : decode prog_14_method_48_code 9 = .ok (.iconst 0, 1) := by decide +kernel
theorem d_M_warmOf_10 : decode prog_14_method_48_code 10 = .ok (.istore 4, 2) := by decide +kernel
theorem d_M_warmOf_12 : decode prog_14_method_48_code 12 = .ok (.iload 4, 2) := by decide +kernel
theorem d_M_warmOf_14 : decode prog_14_method_48_code 14 = .ok (.aload_n 0, 1) := by decide +kernel
theorem d_M_warmOf_15 : decode prog_14_method_48_code 15 = .ok (.getfield 162, 3) := by decide +kernel
theorem d_M_warmOf_18 : decode prog_14_method_48_code 18 = .ok (.if_icmp .ge (34), 3) := by decide +kernel
theorem d_M_warmOf_21 : decode prog_14_method_48_code 21 = .ok (.iload_n 3, 1) := by decide +kernel
theorem d_M_warmOf_22 : decode prog_14_method_48_code 22 = .ok (.aload_n 0, 1) := by decide +kernel
theorem d_M_warmOf_23 : decode prog_14_method_48_code 23 = .ok (.getfield 32, 3) := by decide +kernel
theorem d_M_warmOf_26 : decode prog_14_method_48_code 26 = .ok (.iload 4, 2) := by decide +kernel
theorem d_M_warmOf_28 : decode prog_14_method_48_code 28 = .ok (.iaload, 1) := by decide +kernel
theorem d_M_warmOf_29 : decode prog_14_method_48_code 29 = .ok (.aload_n 0, 1) := by decide +kernel
theorem d_M_warmOf_30 : decode prog_14_method_48_code 30 = .ok (.iload_n 1, 1) := by decide +kernel
theorem d_M_warmOf_31 : decode prog_14_method_48_code 31 = .ok (.iload 4, 2) := by decide +kernel
theorem d_M_warmOf_33 : decode prog_14_method_48_code 33 = .ok (.invokevirtual 291, 3) := by decide +kernel
theorem d_M_warmOf_36 : decode prog_14_method_48_code 36 = .ok (.imul, 1) := by decide +kernel
theorem d_M_warmOf_37 : decode prog_14_method_48_code 37 = .ok (.aload_n 0, 1) := by decide +kernel
theorem d_M_warmOf_38 : decode prog_14_method_48_code 38 = .ok (.getfield 17, 3) := by decide +kernel
theorem d_M_warmOf_41 : decode prog_14_method_48_code 41 = .ok (.iload_n 1, 1) := by decide +kernel
theorem d_M_warmOf_42 : decode prog_14_method_48_code 42 = .ok (.iaload, 1) := by decide +kernel
theorem d_M_warmOf_43 : decode prog_14_method_48_code 43 = .ok (.idiv, 1) := by decide +kernel
theorem d_M_warmOf_44 : decode prog_14_method_48_code 44 = .ok (.iadd, 1) := by decide +kernel
theorem d_M_warmOf_45 : decode prog_14_method_48_code 45 = .ok (.istore_n 3, 1) := by decide +kernel
theorem d_M_warmOf_46 : decode prog_14_method_48_code 46 = .ok (.iinc 4 (1), 3) := by decide +kernel
theorem d_M_warmOf_49 : decode prog_14_method_48_code 49 = .ok (.goto (-37), 3) := by decide +kernel
theorem d_M_warmOf_52 : decode prog_14_method_48_code 52 = .ok (.iload_n 3, 1) := by decide +kernel
theorem d_M_warmOf_53 : decode prog_14_method_48_code 53 = .ok (.ireturn, 1) := by decide +kernel
set_option maxHeartbeats 4000000 in
set_option maxRecDepth 100000 in
theorem zf_M_warmOf_L12 {G : zz_G} {l : Launch} {Z : zz_Z} {q : Int32} {s : zz_S} (C : zz_Cx G l "OneBlanketModel" "warmOf" prog_14_method_48_code 5 (some .int) 3 (some (.int q), zsh, s) Z) : ∀ (n : Nat) (v1 : Int32) (v3 : Int32) (v4 : Int32), f_M_warmOf_L12 s n v1 v3 v4 = some q → Z 12 [some (.ref 79), some (.int v1), none, some (.int v3), some (.int v4)] [] zsh s := by
  intro n
  induction n with
  | zero => intro v1 v3 v4 h; rw [f_M_warmOf_L12] at h; cases h
  | succ n ih =>
  intro v1 v3 v4 h
  rw [f_M_warmOf_L12] at h
  refine zz_iload (i := 4) (pc := 12) C rfl d_M_warmOf_12 ?_
  refine zz_aload_n (i := 0) (pc := 14) C rfl rfl d_M_warmOf_14 ?_
  refine zz_getI (pc := 15) C zl_12_162 zsh_79 rfl d_M_warmOf_15 ?_
  refine zz_icmp_ge (tgt := 52) (pc := 18) C (by decide) d_M_warmOf_18 (fun hc2 => ?_) (fun hc2 => ?_)
  · rw [if_pos hc2] at h
    refine zz_iload_n (i := 3) (pc := 52) C rfl rfl d_M_warmOf_52 ?_
    replace h := Option.some.inj h
    subst h
    exact zz_ret (pc := 53) C (v := some (.int v3)) d_M_warmOf_53 (Or.inl ⟨_, _, rfl, rfl, rfl, rfl⟩) rfl
  · rw [if_neg hc2] at h
    refine zz_iload_n (i := 3) (pc := 21) C rfl rfl d_M_warmOf_21 ?_
    refine zz_aload_n (i := 0) (pc := 22) C rfl rfl d_M_warmOf_22 ?_
    refine zz_getR (pc := 23) C zl_12_32 zsh_79 rfl d_M_warmOf_23 ?_
    refine zz_iload (i := 4) (pc := 26) C rfl d_M_warmOf_26 ?_
    obtain ⟨hi3, h⟩ := zz_ckE h
    refine zz_iald (pc := 28) C rfl zsh_86 hi3 d_M_warmOf_28 ?_
    refine zz_aload_n (i := 0) (pc := 29) C rfl rfl d_M_warmOf_29 ?_
    refine zz_iload_n (i := 1) (pc := 30) C rfl rfl d_M_warmOf_30 ?_
    refine zz_iload (i := 4) (pc := 31) C rfl d_M_warmOf_31 ?_
    obtain ⟨q4, hq4, h⟩ := zz_bdE h
    refine zz_cVi (as := [.int v1, .int v4]) (st := [.int (s.1 86 (v4.toNatClampNeg)), .int v3]) (pc := 33) C (zm_M_under hq4) zcv_M_under zsh_79 zl_12_291 (by omega) (Nat.le_of_ble_eq_true rfl) d_M_warmOf_33 rfl rfl ?_
    refine zz_imul (pc := 36) C d_M_warmOf_36 ?_
    refine zz_aload_n (i := 0) (pc := 37) C rfl rfl d_M_warmOf_37 ?_
    refine zz_getR (pc := 38) C zl_12_17 zsh_79 rfl d_M_warmOf_38 ?_
    refine zz_iload_n (i := 1) (pc := 41) C rfl rfl d_M_warmOf_41 ?_
    obtain ⟨hi5, h⟩ := zz_ckE h
    refine zz_iald (pc := 42) C rfl zsh_81 hi5 d_M_warmOf_42 ?_
    obtain ⟨hy6, h⟩ := zz_ckN h
    refine zz_idiv (pc := 43) C hy6 d_M_warmOf_43 ?_
    refine zz_iadd (pc := 44) C d_M_warmOf_44 ?_
    refine zz_istore_n (i := 3) (lo' := [some (.ref 79), some (.int v1), none, some (.int (v3 + (((s.1 86 (v4.toNatClampNeg)) * q4) / (s.1 81 (v1.toNatClampNeg))))), some (.int v4)]) (pc := 45) C rfl (Nat.le_of_ble_eq_true rfl) rfl rfl d_M_warmOf_45 ?_
    refine zz_iinc (lo' := [some (.ref 79), some (.int v1), none, some (.int (v3 + (((s.1 86 (v4.toNatClampNeg)) * q4) / (s.1 81 (v1.toNatClampNeg))))), some (.int (v4 + (1 : Int32)))]) (pc := 46) C rfl (zz_inc zki_1) rfl rfl d_M_warmOf_46 ?_
    refine zz_goto (tgt := 12) (pc := 49) C (by decide) d_M_warmOf_49 ?_
    exact ih v1 (v3 + (((s.1 86 (v4.toNatClampNeg)) * q4) / (s.1 81 (v1.toNatClampNeg)))) (v4 + (1 : Int32)) h
set_option maxHeartbeats 4000000 in
set_option maxRecDepth 100000 in
theorem zf_M_warmOf {G : zz_G} {l : Launch} {Z : zz_Z} {q : Int32} {s : zz_S} (C : zz_Cx G l "OneBlanketModel" "warmOf" prog_14_method_48_code 5 (some .int) 3 (some (.int q), zsh, s) Z) (a1 : Int32) (a2 : Int32) (h : f_M_warmOf a1 a2 s = some q) : Z 0 [some (.ref 79), some (.int a1), some (.int a2), none, none] [] zsh s := by
  unfold f_M_warmOf at h
  refine zz_iload_n (i := 2) (pc := 0) C rfl rfl d_M_warmOf_0 ?_
  refine zz_aload_n (i := 0) (pc := 1) C rfl rfl d_M_warmOf_1 ?_
  refine zz_getR (pc := 2) C zl_12_23 zsh_79 rfl d_M_warmOf_2 ?_
  refine zz_iload_n (i := 1) (pc := 5) C rfl rfl d_M_warmOf_5 ?_
  obtain ⟨hi1, h⟩ := zz_ckE h
  refine zz_iald (pc := 6) C rfl zsh_83 hi1 d_M_warmOf_6 ?_
  refine zz_iadd (pc := 7) C d_M_warmOf_7 ?_
  refine zz_istore_n (i := 3) (lo' := [some (.ref 79), some (.int a1), some (.int a2), some (.int (a2 + (s.1 83 (a1.toNatClampNeg)))), none]) (pc := 8) C rfl (Nat.le_of_ble_eq_true rfl) rfl rfl d_M_warmOf_8 ?_
  refine zz_iconst (pc := 9) C zki_0 d_M_warmOf_9 ?_
  refine zz_istore (i := 4) (lo' := [some (.ref 79), some (.int a1), some (.int a2), some (.int (a2 + (s.1 83 (a1.toNatClampNeg)))), some (.int (0 : Int32))]) (pc := 10) C (Nat.le_of_ble_eq_true rfl) rfl rfl d_M_warmOf_10 ?_
  refine zz_fg C [true, true, false, true, true] rfl rfl ?_
  exact zf_M_warmOf_L12 C zF a1 (a2 + (s.1 83 (a1.toNatClampNeg))) (0 : Int32) h
theorem zm_M_warmOf {G : zz_G} {l : Launch} {s : zz_S} {q : Int32} {a1 : Int32} {a2 : Int32} (h : f_M_warmOf a1 a2 s = some q) : zz_M G l 3 y_M_warmOf prog_14_method_48_code 5 (some .int) [.ref 79, .int a1, .int a2] zsh s (some (.int q), zsh, s) :=
  zz_M.intro (by decide) (Nat.le_of_ble_eq_true rfl) (Nat.le_refl _) (Nat.le_refl _) (fun Z C => zf_M_warmOf C a1 a2 h)
