theorem d_Tape_takesOneOf_0 : decode prog_10_method_13_code 0 = .ok (.aload_n 0, 1) := by decide +kernel
theorem d_Tape_takesOneOf_1 : decode prog_10_method_13_code 1 = .ok (.invokevirtual 79, 3) := by decide +kernel
theorem d_Tape_takesOneOf_4 : decode prog_10_method_13_code 4 = .ok (.istore_n 2, 1) := by decide +kernel
theorem d_Tape_takesOneOf_5 : decode prog_10_method_13_code 5 = .ok (.aload_n 1, 1) := by decide +kernel
theorem d_Tape_takesOneOf_6 : decode prog_10_method_13_code 6 = .ok (.iload_n 2, 1) := by decide +kernel
theorem d_Tape_takesOneOf_7 : decode prog_10_method_13_code 7 = .ok (.invokestatic 83, 3) := by decide +kernel
theorem d_Tape_takesOneOf_10 : decode prog_10_method_13_code 10 = .ok (.ifCond .ge (5), 3) := by decide +kernel
theorem d_Tape_takesOneOf_13 : decode prog_10_method_13_code 13 = .ok (.iconst 0, 1) := by decide +kernel
theorem d_Tape_takesOneOf_14 : decode prog_10_method_13_code 14 = .ok (.ireturn, 1) := by decide +kernel
theorem d_Tape_takesOneOf_15 : decode prog_10_method_13_code 15 = .ok (.aload_n 0, 1) := by decide +kernel
theorem d_Tape_takesOneOf_16 : decode prog_10_method_13_code 16 = .ok (.dup, 1) := by decide +kernel
theorem d_Tape_takesOneOf_17 : decode prog_10_method_13_code 17 = .ok (.getfield 26, 3) := by decide +kernel
theorem d_Tape_takesOneOf_20 : decode prog_10_method_13_code 20 = .ok (.iconst 1, 1) := by decide +kernel
theorem d_Tape_takesOneOf_21 : decode prog_10_method_13_code 21 = .ok (.iadd, 1) := by decide +kernel
theorem d_Tape_takesOneOf_22 : decode prog_10_method_13_code 22 = .ok (.putfield 26, 3) := by decide +kernel
theorem d_Tape_takesOneOf_25 : decode prog_10_method_13_code 25 = .ok (.iload_n 2, 1) := by decide +kernel
theorem d_Tape_takesOneOf_26 : decode prog_10_method_13_code 26 = .ok (.ireturn, 1) := by decide +kernel
set_option maxHeartbeats 4000000 in
set_option maxRecDepth 100000 in
theorem zf_Tape_takesOneOf {G : zz_G} {l : Launch} {Z : zz_Z} {q : Int32 × zz_S} {s : zz_S} (C : zz_Cx G l "OneBlanket$Tape" "takesOneOf" prog_10_method_13_code 3 (some .int) 7 (some (.int q.1), zsh, q.2) Z) (a1 : Nat) (ha1 : a1 < 6) (h : f_Tape_takesOneOf a1 s = some q) : Z 0 [some (.ref 44), some (.ref (1300 + a1)), none] [] zsh s := by
  unfold f_Tape_takesOneOf at h
  refine zz_aload_n (i := 0) (pc := 0) C rfl rfl d_Tape_takesOneOf_0 ?_
  obtain ⟨q1, hq1, h⟩ := zz_bdE h
  refine zz_cVi (as := []) (st := []) (pc := 1) C (zm_Tape_peek hq1) zcv_Tape_peek zsh_44 zl_8_79 (by omega) (Nat.le_of_ble_eq_true rfl) d_Tape_takesOneOf_1 rfl rfl ?_
  refine zz_istore_n (i := 2) (lo' := [some (.ref 44), some (.ref (1300 + a1)), some (.int q1)]) (pc := 4) C rfl (Nat.le_of_ble_eq_true rfl) rfl rfl d_Tape_takesOneOf_4 ?_
  refine zz_aload_n (i := 1) (pc := 5) C rfl rfl d_Tape_takesOneOf_5 ?_
  refine zz_iload_n (i := 2) (pc := 6) C rfl rfl d_Tape_takesOneOf_6 ?_
  obtain ⟨q2, hq2, h⟩ := zz_bdE h
  refine zz_cSi (as := [.ref (1300 + a1), .int q1]) (st := []) (pc := 7) C (zm_Tape_placeIn ha1 hq2) zcs_Tape_placeIn zl_8_83 (by omega) (Nat.le_of_ble_eq_true rfl) d_Tape_takesOneOf_7 rfl rfl ?_
  refine zz_if_ge (tgt := 15) (pc := 10) C (by decide) d_Tape_takesOneOf_10 (fun hc3 => ?_) (fun hc3 => ?_)
  · rw [if_pos hc3] at h
    refine zz_aload_n (i := 0) (pc := 15) C rfl rfl d_Tape_takesOneOf_15 ?_
    refine zz_dup (pc := 16) C rfl d_Tape_takesOneOf_16 ?_
    refine zz_getI (pc := 17) C zl_8_26 zsh_44 rfl d_Tape_takesOneOf_17 ?_
    refine zz_iconst (pc := 20) C zki_1 d_Tape_takesOneOf_20 ?_
    refine zz_iadd (pc := 21) C d_Tape_takesOneOf_21 ?_
    refine zz_putI' (pc := 22) C zl_8_26 zpf_8_3 zsh_44 rfl d_Tape_takesOneOf_22 ?_
    refine zz_iload_n (i := 2) (pc := 25) C rfl rfl d_Tape_takesOneOf_25 ?_
    replace h := Option.some.inj h
    subst h
    exact zz_ret (pc := 26) C (v := some (.int q1)) d_Tape_takesOneOf_26 (Or.inl ⟨_, _, rfl, rfl, rfl, rfl⟩) rfl
  · rw [if_neg hc3] at h
    refine zz_iconst (pc := 13) C zki_0 d_Tape_takesOneOf_13 ?_
    replace h := Option.some.inj h
    subst h
    exact zz_ret (pc := 14) C (v := some (.int (0 : Int32))) d_Tape_takesOneOf_14 (Or.inl ⟨_, _, rfl, rfl, rfl, rfl⟩) rfl
theorem zm_Tape_takesOneOf {G : zz_G} {l : Launch} {s : zz_S} {q : Int32 × zz_S} {a1 : Nat} (ha1 : a1 < 6) (h : f_Tape_takesOneOf a1 s = some q) : zz_M G l 7 y_Tape_takesOneOf prog_10_method_13_code 3 (some .int) [.ref 44, .ref (1300 + a1)] zsh s (some (.int q.1), zsh, q.2) :=
  zz_M.intro (by decide) (Nat.le_of_ble_eq_true rfl) (Nat.le_refl _) (Nat.le_refl _) (fun Z C => zf_Tape_takesOneOf C a1 ha1 h)
theorem d_Text_add_0 : decode prog_11_method_2_code 0 = .ok (.aload_n 0, 1) := by decide +kernel
theorem d_Text_add_1 : decode prog_11_method_2_code 1 = .ok (.getfield 18, 3) := by decide +kernel
theorem d_Text_add_4 : decode prog_11_method_2_code 4 = .ok (.bipush (121), 2) := by decide +kernel
theorem d_Text_add_6 : decode prog_11_method_2_code 6 = .ok (.if_icmp .ge (23), 3) := by decide +kernel
theorem d_Text_add_9 : decode prog_11_method_2_code 9 = .ok (.aload_n 0, 1) := by decide +kernel
theorem d_Text_add_10 : decode prog_11_method_2_code 10 = .ok (.getfield 11, 3) := by decide +kernel
theorem d_Text_add_13 : decode prog_11_method_2_code 13 = .ok (.aload_n 0, 1) := by decide +kernel
theorem d_Text_add_14 : decode prog_11_method_2_code 14 = .ok (.getfield 18, 3) := by decide +kernel
theorem d_Text_add_17 : decode prog_11_method_2_code 17 = .ok (.iload_n 1, 1) := by decide +kernel
theorem d_Text_add_18 : decode prog_11_method_2_code 18 = .ok (.iastore, 1) := by decide +kernel
theorem d_Text_add_19 : decode prog_11_method_2_code 19 = .ok (.aload_n 0, 1) := by decide +kernel
theorem d_Text_add_20 : decode prog_11_method_2_code 20 = .ok (.dup, 1) := by decide +kernel
theorem d_Text_add_21 : decode prog_11_method_2_code 21 = .ok (.getfield 18, 3) := by decide +kernel
theorem d_Text_add_24 : decode prog_11_method_2_code 24 = .ok (.iconst 1, 1) := by decide +kernel
theorem d_Text_add_25 : decode prog_11_method_2_code 25 = .ok (.iadd, 1) := by decide +kernel
theorem d_Text_add_26 : decode prog_11_method_2_code 26 = .ok (.putfield 18, 3) := by decide +kernel
theorem d_Text_add_29 : decode prog_11_method_2_code 29 = .ok (.return_, 1) := by decide +kernel
set_option maxHeartbeats 4000000 in
set_option maxRecDepth 100000 in
theorem zf_Text_add {G : zz_G} {l : Launch} {Z : zz_Z} {q : zz_S} {s : zz_S} (C : zz_Cx G l "OneBlanket$Text" "add" prog_11_method_2_code 2 (none) 2 (none, zsh, q) Z) (a1 : Int32) (h : f_Text_add a1 s = some q) : Z 0 [some (.ref 45), some (.int a1)] [] zsh s := by
  unfold f_Text_add at h
  refine zz_aload_n (i := 0) (pc := 0) C rfl rfl d_Text_add_0 ?_
  refine zz_getI (pc := 1) C zl_9_18 zsh_45 rfl d_Text_add_1 ?_
  refine zz_bipush (pc := 4) C zkb_121 d_Text_add_4 ?_
  refine zz_icmp_ge (tgt := 29) (pc := 6) C (by decide) d_Text_add_6 (fun hc1 => ?_) (fun hc1 => ?_)
  · rw [if_pos hc1] at h
    replace h := Option.some.inj h
    subst h
    exact zz_ret (pc := 29) C (v := none) d_Text_add_29 (Or.inr (Or.inr (Or.inr ⟨rfl, rfl, rfl⟩))) rfl
  · rw [if_neg hc1] at h
    refine zz_aload_n (i := 0) (pc := 9) C rfl rfl d_Text_add_9 ?_
    refine zz_getR (pc := 10) C zl_9_11 zsh_45 rfl d_Text_add_10 ?_
    refine zz_aload_n (i := 0) (pc := 13) C rfl rfl d_Text_add_13 ?_
    refine zz_getI (pc := 14) C zl_9_18 zsh_45 rfl d_Text_add_14 ?_
    refine zz_iload_n (i := 1) (pc := 17) C rfl rfl d_Text_add_17 ?_
    obtain ⟨hi2, h⟩ := zz_ckE h
    refine zz_iast (pc := 18) C rfl zsh_46 hi2 d_Text_add_18 ?_
    refine zz_aload_n (i := 0) (pc := 19) C rfl rfl d_Text_add_19 ?_
    refine zz_dup (pc := 20) C rfl d_Text_add_20 ?_
    refine zz_getIv (v := (s.1 45 0)) (pc := 21) C zl_9_18 zsh_45 rfl rfl d_Text_add_21 ?_
    refine zz_iconst (pc := 24) C zki_1 d_Text_add_24 ?_
    refine zz_iadd (pc := 25) C d_Text_add_25 ?_
    refine zz_putI' (pc := 26) C zl_9_18 zpf_9_0 zsh_45 rfl d_Text_add_26 ?_
    replace h := Option.some.inj h
    subst h
    exact zz_ret (pc := 29) C (v := none) d_Text_add_29 (Or.inr (Or.inr (Or.inr ⟨rfl, rfl, rfl⟩))) rfl
theorem zm_Text_add {G : zz_G} {l : Launch} {s : zz_S} {q : zz_S} {a1 : Int32} (h : f_Text_add a1 s = some q) : zz_M G l 2 y_Text_add prog_11_method_2_code 2 (none) [.ref 45, .int a1] zsh s (none, zsh, q) :=
  zz_M.intro (by decide) (Nat.le_of_ble_eq_true rfl) (Nat.le_refl _) (Nat.le_refl _) (fun Z C => zf_Text_add C a1 h)
theorem d_Tape_takes_0 : decode prog_10_method_12_code 0 = .ok (.aload_n 0, 1) := by decide +kernel
theorem d_Tape_takes_1 : decode prog_10_method_12_code 1 = .ok (.invokevirtual 79, 3) := by decide +kernel
theorem d_Tape_takes_4 : decode prog_10_method_12_code 4 = .ok (.iload_n 1, 1) := by decide +kernel
theorem d_Tape_takes_5 : decode prog_10_method_12_code 5 = .ok (.if_icmp .eq (5), 3) := by decide +kernel
theorem d_Tape_takes_8 : decode prog_10_method_12_code 8 = .ok (.iconst 0, 1) := by decide +kernel
theorem d_Tape_takes_9 : decode prog_10_method_12_code 9 = .ok (.ireturn, 1) := by decide +kernel
theorem d_Tape_takes_10 : decode prog_10_method_12_code 10 = .ok (.aload_n 0, 1) := by decide +kernel
theorem d_Tape_takes_11 : decode prog_10_method_12_code 11 = .ok (.dup, 1) := by decide +kernel
theorem d_Tape_takes_12 : decode prog_10_method_12_code 12 = .ok (.getfield 26, 3) := by decide +kernel
theorem d_Tape_takes_15 : decode prog_10_method_12_code 15 = .ok (.iconst 1, 1) := by decide +kernel
theorem d_Tape_takes_16 : decode prog_10_method_12_code 16 = .ok (.iadd, 1) := by decide +kernel
theorem d_Tape_takes_17 : decode prog_10_method_12_code 17 = .ok (.putfield 26, 3) := by decide +kernel
theorem d_Tape_takes_20 : decode prog_10_method_12_code 20 = .ok (.iconst 1, 1) := by decide +kernel
theorem d_Tape_takes_21 : decode prog_10_method_12_code 21 = .ok (.ireturn, 1) := by decide +kernel
set_option maxHeartbeats 4000000 in
set_option maxRecDepth 100000 in
theorem zf_Tape_takes {G : zz_G} {l : Launch} {Z : zz_Z} {q : Int32 × zz_S} {s : zz_S} (C : zz_Cx G l "OneBlanket$Tape" "takes" prog_10_method_12_code 2 (some .boolean) 3 (some (.int q.1), zsh, q.2) Z) (a1 : Int32) (h : f_Tape_takes a1 s = some q) : Z 0 [some (.ref 44), some (.int a1)] [] zsh s := by
  unfold f_Tape_takes at h
  refine zz_aload_n (i := 0) (pc := 0) C rfl rfl d_Tape_takes_0 ?_
  obtain ⟨q1, hq1, h⟩ := zz_bdE h
  refine zz_cVi (as := []) (st := []) (pc := 1) C (zm_Tape_peek hq1) zcv_Tape_peek zsh_44 zl_8_79 (by omega) (Nat.le_of_ble_eq_true rfl) d_Tape_takes_1 rfl rfl ?_
  refine zz_iload_n (i := 1) (pc := 4) C rfl rfl d_Tape_takes_4 ?_
  refine zz_icmp_eq (tgt := 10) (pc := 5) C (by decide) d_Tape_takes_5 (fun hc2 => ?_) (fun hc2 => ?_)
  · rw [if_pos hc2] at h
    refine zz_aload_n (i := 0) (pc := 10) C rfl rfl d_Tape_takes_10 ?_
    refine zz_dup (pc := 11) C rfl d_Tape_takes_11 ?_
    refine zz_getI (pc := 12) C zl_8_26 zsh_44 rfl d_Tape_takes_12 ?_
    refine zz_iconst (pc := 15) C zki_1 d_Tape_takes_15 ?_
    refine zz_iadd (pc := 16) C d_Tape_takes_16 ?_
    refine zz_putI' (pc := 17) C zl_8_26 zpf_8_3 zsh_44 rfl d_Tape_takes_17 ?_
    refine zz_iconst (pc := 20) C zki_1 d_Tape_takes_20 ?_
    replace h := Option.some.inj h
    subst h
    exact zz_ret (pc := 21) C (v := some (.int (1 : Int32))) d_Tape_takes_21 (Or.inl ⟨_, _, rfl, rfl, rfl, (by decide)⟩) rfl
  · rw [if_neg hc2] at h
    refine zz_iconst (pc := 8) C zki_0 d_Tape_takes_8 ?_
    replace h := Option.some.inj h
    subst h
    exact zz_ret (pc := 9) C (v := some (.int (0 : Int32))) d_Tape_takes_9 (Or.inl ⟨_, _, rfl, rfl, rfl, (by decide)⟩) rfl
theorem zm_Tape_takes {G : zz_G} {l : Launch} {s : zz_S} {q : Int32 × zz_S} {a1 : Int32} (h : f_Tape_takes a1 s = some q) : zz_M G l 3 y_Tape_takes prog_10_method_12_code 2 (some .boolean) [.ref 44, .int a1] zsh s (some (.int q.1), zsh, q.2) :=
  zz_M.intro (by decide) (Nat.le_of_ble_eq_true rfl) (Nat.le_refl _) (Nat.le_refl _) (fun Z C => zf_Tape_takes C a1 h)
theorem d_Tape_readNumber_0 : decode prog_10_method_8_code 0 = .ok (.iconst 0, 1) := by decide +kernel
theorem d_Tape_readNumber_1 : decode prog_10_method_8_code 1 = .ok (.istore_n 1, 1) := by decide +kernel
theorem d_Tape_readNumber_2 : decode prog_10_method_8_code 2 = .ok (.iconst 0, 1) := by decide +kernel
theorem d_Tape_readNumber_3 : decode prog_10_method_8_code 3 = .ok (.istore_n 2, 1) := by decide +kernel
theorem d_Tape_readNumber_4 : decode prog_10_method_8_code 4 = .ok (.iload_n 2, 1) := by decide +kernel
theorem d_Tape_readNumber_5 : decode prog_10_method_8_code 5 = .ok (.iconst 4, 1) := by decide +kernel
theorem d_Tape_readNumber_6 : decode prog_10_method_8_code 6 = .ok (.if_icmp .ge (42), 3) := by decide +kernel
theorem d_Tape_readNumber_9 : decode prog_10_method_8_code 9 = .ok (.aload_n 0, 1) := by decide +kernel
theorem d_Tape_readNumber_10 : decode prog_10_method_8_code 10 = .ok (.invokevirtual 79, 3) := by decide +kernel
theorem d_Tape_readNumber_13 : decode prog_10_method_8_code 13 = .ok (.invokestatic 87, 3) := by decide +kernel
theorem d_Tape_readNumber_16 : decode prog_10_method_8_code 16 = .ok (.ifCond .eq (32), 3) := by decide +kernel
theorem d_Tape_readNumber_19 : decode prog_10_method_8_code 19 = .ok (.iload_n 1, 1) := by decide +kernel
theorem d_Tape_readNumber_20 : decode prog_10_method_8_code 20 = .ok (.bipush (10), 2) := by decide +kernel
theorem d_Tape_readNumber_22 : decode prog_10_method_8_code 22 = .ok (.imul, 1) := by decide +kernel
theorem d_Tape_readNumber_23 : decode prog_10_method_8_code 23 = .ok (.aload_n 0, 1) := by decide +kernel
theorem d_Tape_readNumber_24 : decode prog_10_method_8_code 24 = .ok (.invokevirtual 79, 3) := by decide +kernel
theorem d_Tape_readNumber_27 : decode prog_10_method_8_code 27 = .ok (.iadd, 1) := by decide +kernel
theorem d_Tape_readNumber_28 : decode prog_10_method_8_code 28 = .ok (.bipush (48), 2) := by decide +kernel
theorem d_Tape_readNumber_30 : decode prog_10_method_8_code 30 = .ok (.isub, 1) := by decide +kernel
theorem d_Tape_readNumber_31 : decode prog_10_method_8_code 31 = .ok (.istore_n 1, 1) := by decide +kernel
theorem d_Tape_readNumber_32 : decode prog_10_method_8_code 32 = .ok (.aload_n 0, 1) := by decide +kernel
theorem d_Tape_readNumber_33 : decode prog_10_method_8_code 33 = .ok (.dup, 1) := by decide +kernel
theorem d_Tape_readNumber_34 : decode prog_10_method_8_code 34 = .ok (.getfield 26, 3) := by decide +kernel
theorem d_Tape_readNumber_37 : decode prog_10_method_8_code 37 = .ok (.iconst 1, 1) := by decide +kernel
theorem d_Tape_readNumber_38 : decode prog_10_method_8_code 38 = .ok (.iadd, 1) := by decide +kernel
theorem d_Tape_readNumber_39 : decode prog_10_method_8_code 39 = .ok (.putfield 26, 3) := by decide +kernel
theorem d_Tape_readNumber_42 : decode prog_10_method_8_code 42 = .ok (.iinc 2 (1), 3) := by decide +kernel
theorem d_Tape_readNumber_45 : decode prog_10_method_8_code 45 = .ok (.goto (-41), 3) := by decide +kernel
theorem d_Tape_readNumber_48 : decode prog_10_method_8_code 48 = .ok (.aload_n 0, 1) := by decide +kernel
theorem d_Tape_readNumber_49 : decode prog_10_method_8_code 49 = .ok (.getfield 12, 3) := by decide +kernel
theorem d_Tape_readNumber_52 : decode prog_10_method_8_code 52 = .ok (.iload_n 1, 1) := by decide +kernel
theorem d_Tape_readNumber_53 : decode prog_10_method_8_code 53 = .ok (.invokevirtual 49, 3) := by decide +kernel
theorem d_Tape_readNumber_56 : decode prog_10_method_8_code 56 = .ok (.return_, 1) := by decide +kernel
set_option maxHeartbeats 4000000 in
set_option maxRecDepth 100000 in
theorem zf_Tape_readNumber_J48 {G : zz_G} {l : Launch} {Z : zz_Z} {q : zz_S} {s : zz_S} (C : zz_Cx G l "OneBlanket$Tape" "readNumber" prog_10_method_8_code 3 (none) 3 (none, zsh, q) Z) (v1 : Int32) (h : f_Tape_readNumber_J48 v1 s = some q) : Z 48 [some (.ref 44), some (.int v1), none] [] zsh s := by
  unfold f_Tape_readNumber_J48 at h
  refine zz_aload_n (i := 0) (pc := 48) C rfl rfl d_Tape_readNumber_48 ?_
  refine zz_getR (pc := 49) C zl_8_12 zsh_44 rfl d_Tape_readNumber_49 ?_
  refine zz_iload_n (i := 1) (pc := 52) C rfl rfl d_Tape_readNumber_52 ?_
  obtain ⟨q2, hq2, h⟩ := zz_bdE h
  refine zz_cVv (as := [.int v1]) (st := []) (pc := 53) C (zm_Text_add hq2) zcv_Text_add zsh_45 zl_8_49 (by omega) (Nat.le_of_ble_eq_true rfl) d_Tape_readNumber_53 rfl rfl ?_
  replace h := Option.some.inj h
  subst h
  exact zz_ret (pc := 56) C (v := none) d_Tape_readNumber_56 (Or.inr (Or.inr (Or.inr ⟨rfl, rfl, rfl⟩))) rfl
set_option maxHeartbeats 4000000 in
set_option maxRecDepth 100000 in
theorem zf_Tape_readNumber_L4 {G : zz_G} {l : Launch} {Z : zz_Z} {q : zz_S} (C : zz_Cx G l "OneBlanket$Tape" "readNumber" prog_10_method_8_code 3 (none) 3 (none, zsh, q) Z) : ∀ (n : Nat) (v1 : Int32) (v2 : Int32) (s : zz_S), f_Tape_readNumber_L4 n v1 v2 s = some q → Z 4 [some (.ref 44), some (.int v1), some (.int v2)] [] zsh s := by
  intro n
  induction n with
  | zero => intro v1 v2 s h; rw [f_Tape_readNumber_L4] at h; cases h
  | succ n ih =>
  intro v1 v2 s h
  rw [f_Tape_readNumber_L4] at h
  refine zz_iload_n (i := 2) (pc := 4) C rfl rfl d_Tape_readNumber_4 ?_
  refine zz_iconst (pc := 5) C zki_4 d_Tape_readNumber_5 ?_
  refine zz_icmp_ge (tgt := 48) (pc := 6) C (by decide) d_Tape_readNumber_6 (fun hc1 => ?_) (fun hc1 => ?_)
  · rw [if_pos hc1] at h
    refine zz_fg C [true, true, false] rfl rfl ?_
    exact zf_Tape_readNumber_J48 C v1 h
  · rw [if_neg hc1] at h
    refine zz_aload_n (i := 0) (pc := 9) C rfl rfl d_Tape_readNumber_9 ?_
    obtain ⟨q3, hq3, h⟩ := zz_bdE h
    refine zz_cVi (as := []) (st := []) (pc := 10) C (zm_Tape_peek hq3) zcv_Tape_peek zsh_44 zl_8_79 (by omega) (Nat.le_of_ble_eq_true rfl) d_Tape_readNumber_10 rfl rfl ?_
    refine zz_cSi (as := [.int q3]) (st := []) (pc := 13) C (zm_Tape_isDigit rfl) zcs_Tape_isDigit zl_8_87 (by omega) (Nat.le_of_ble_eq_true rfl) d_Tape_readNumber_13 rfl rfl ?_
    refine zz_if_eq (tgt := 48) (pc := 16) C (by decide) d_Tape_readNumber_16 (fun hc4 => ?_) (fun hc4 => ?_)
    · rw [if_pos hc4] at h
      refine zz_fg C [true, true, false] rfl rfl ?_
      exact zf_Tape_readNumber_J48 C v1 h
    · rw [if_neg hc4] at h
      refine zz_iload_n (i := 1) (pc := 19) C rfl rfl d_Tape_readNumber_19 ?_
      refine zz_bipush (pc := 20) C zkb_10 d_Tape_readNumber_20 ?_
      refine zz_imul (pc := 22) C d_Tape_readNumber_22 ?_
      refine zz_aload_n (i := 0) (pc := 23) C rfl rfl d_Tape_readNumber_23 ?_
      obtain ⟨q5, hq5, h⟩ := zz_bdE h
      refine zz_cVi (as := []) (st := [.int (v1 * (10 : Int32))]) (pc := 24) C (zm_Tape_peek hq5) zcv_Tape_peek zsh_44 zl_8_79 (by omega) (Nat.le_of_ble_eq_true rfl) d_Tape_readNumber_24 rfl rfl ?_
      refine zz_iadd (pc := 27) C d_Tape_readNumber_27 ?_
      refine zz_bipush (pc := 28) C zkb_48 d_Tape_readNumber_28 ?_
      refine zz_isub (pc := 30) C d_Tape_readNumber_30 ?_
      refine zz_istore_n (i := 1) (lo' := [some (.ref 44), some (.int (((v1 * (10 : Int32)) + q5) - (48 : Int32))), some (.int v2)]) (pc := 31) C rfl (Nat.le_of_ble_eq_true rfl) rfl rfl d_Tape_readNumber_31 ?_
      refine zz_aload_n (i := 0) (pc := 32) C rfl rfl d_Tape_readNumber_32 ?_
      refine zz_dup (pc := 33) C rfl d_Tape_readNumber_33 ?_
      refine zz_getI (pc := 34) C zl_8_26 zsh_44 rfl d_Tape_readNumber_34 ?_
      refine zz_iconst (pc := 37) C zki_1 d_Tape_readNumber_37 ?_
      refine zz_iadd (pc := 38) C d_Tape_readNumber_38 ?_
      refine zz_putI' (pc := 39) C zl_8_26 zpf_8_3 zsh_44 rfl d_Tape_readNumber_39 ?_
      refine zz_iinc (lo' := [some (.ref 44), some (.int (((v1 * (10 : Int32)) + q5) - (48 : Int32))), some (.int (v2 + (1 : Int32)))]) (pc := 42) C rfl (zz_inc zki_1) rfl rfl d_Tape_readNumber_42 ?_
      refine zz_goto (tgt := 4) (pc := 45) C (by decide) d_Tape_readNumber_45 ?_
      exact ih (((v1 * (10 : Int32)) + q5) - (48 : Int32)) (v2 + (1 : Int32)) (zz_w s 44 3 ((s.1 44 3) + (1 : Int32))) h
set_option maxHeartbeats 4000000 in
set_option maxRecDepth 100000 in
theorem zf_Tape_readNumber {G : zz_G} {l : Launch} {Z : zz_Z} {q : zz_S} {s : zz_S} (C : zz_Cx G l "OneBlanket$Tape" "readNumber" prog_10_method_8_code 3 (none) 3 (none, zsh, q) Z) (h : f_Tape_readNumber s = some q) : Z 0 [some (.ref 44), none, none] [] zsh s := by
  unfold f_Tape_readNumber at h
  refine zz_iconst (pc := 0) C zki_0 d_Tape_readNumber_0 ?_
  refine zz_istore_n (i := 1) (lo' := [some (.ref 44), some (.int (0 : Int32)), none]) (pc := 1) C rfl (Nat.le_of_ble_eq_true rfl) rfl rfl d_Tape_readNumber_1 ?_
  refine zz_iconst (pc := 2) C zki_0 d_Tape_readNumber_2 ?_
  refine zz_istore_n (i := 2) (lo' := [some (.ref 44), some (.int (0 : Int32)), some (.int (0 : Int32))]) (pc := 3) C rfl (Nat.le_of_ble_eq_true rfl) rfl rfl d_Tape_readNumber_3 ?_
  exact zf_Tape_readNumber_L4 C zF (0 : Int32) (0 : Int32) s h
theorem zm_Tape_readNumber {G : zz_G} {l : Launch} {s : zz_S} {q : zz_S} (h : f_Tape_readNumber s = some q) : zz_M G l 3 y_Tape_readNumber prog_10_method_8_code 3 (none) [.ref 44] zsh s (none, zsh, q) :=
  zz_M.intro (by decide) (Nat.le_of_ble_eq_true rfl) (Nat.le_refl _) (Nat.le_refl _) (fun Z C => zf_Tape_readNumber C h)
theorem d_Tape_readOperand_0 : decode prog_10_method_7_code 0 = .ok (.ldc 77, 2) := by decide +kernel
theorem d_Tape_readOperand_2 : decode prog_10_method_7_code 2 = .ok (.aload_n 0, 1) := by decide +kernel
theorem d_Tape_readOperand_3 : decode prog_10_method_7_code 3 = .ok (.invokevirtual 79, 3) := by decide +kernel
theorem d_Tape_readOperand_6 : decode prog_10_method_7_code 6 = .ok (.invokestatic 83, 3) := by decide +kernel
theorem d_Tape_readOperand_9 : decode prog_10_method_7_code 9 = .ok (.istore_n 2, 1) := by decide +kernel
theorem d_Tape_readOperand_10 : decode prog_10_method_7_code 10 = .ok (.aload_n 0, 1) := by decide +kernel
theorem d_Tape_readOperand_11 : decode prog_10_method_7_code 11 = .ok (.invokevirtual 79, 3) := by decide +kernel
theorem d_Tape_readOperand_14 : decode prog_10_method_7_code 14 = .ok (.invokestatic 87, 3) := by decide +kernel
theorem d_Tape_readOperand_17 : decode prog_10_method_7_code 17 = .ok (.ifCond .eq (10), 3) := by decide +kernel
theorem d_Tape_readOperand_20 : decode prog_10_method_7_code 20 = .ok (.aload_n 0, 1) := by decide +kernel
theorem d_Tape_readOperand_21 : decode prog_10_method_7_code 21 = .ok (.invokevirtual 90, 3) := by decide +kernel
theorem d_Tape_readOperand_24 : decode prog_10_method_7_code 24 = .ok (.goto (138), 3) := by decide +kernel
theorem d_Tape_readOperand_27 : decode prog_10_method_7_code 27 = .ok (.iload_n 2, 1) := by decide +kernel
theorem d_Tape_readOperand_28 : decode prog_10_method_7_code 28 = .ok (.ifCond .lt (28), 3) := by decide +kernel
theorem d_Tape_readOperand_31 : decode prog_10_method_7_code 31 = .ok (.aload_n 0, 1) := by decide +kernel
theorem d_Tape_readOperand_32 : decode prog_10_method_7_code 32 = .ok (.dup, 1) := by decide +kernel
theorem d_Tape_readOperand_33 : decode prog_10_method_7_code 33 = .ok (.getfield 26, 3) := by decide +kernel
theorem d_Tape_readOperand_36 : decode prog_10_method_7_code 36 = .ok (.iconst 1, 1) := by decide +kernel
theorem d_Tape_readOperand_37 : decode prog_10_method_7_code 37 = .ok (.iadd, 1) := by decide +kernel
theorem d_Tape_readOperand_38 : decode prog_10_method_7_code 38 = .ok (.putfield 26, 3) := by decide +kernel
theorem d_Tape_readOperand_41 : decode prog_10_method_7_code 41 = .ok (.aload_n 0, 1) := by decide +kernel
theorem d_Tape_readOperand_42 : decode prog_10_method_7_code 42 = .ok (.getfield 12, 3) := by decide +kernel
theorem d_Tape_readOperand_45 : decode prog_10_method_7_code 45 = .ok (.sipush (20000), 3) := by decide +kernel
theorem d_Tape_readOperand_48 : decode prog_10_method_7_code 48 = .ok (.iload_n 2, 1) := by decide +kernel
theorem d_Tape_readOperand_49 : decode prog_10_method_7_code 49 = .ok (.iadd, 1) := by decide +kernel
theorem d_Tape_readOperand_50 : decode prog_10_method_7_code 50 = .ok (.invokevirtual 49, 3) := by decide +kernel
theorem d_Tape_readOperand_53 : decode prog_10_method_7_code 53 = .ok (.goto (109), 3) := by decide +kernel
theorem d_Tape_readOperand_56 : decode prog_10_method_7_code 56 = .ok (.iload_n 1, 1) := by decide +kernel
theorem d_Tape_readOperand_57 : decode prog_10_method_7_code 57 = .ok (.bipush (6), 2) := by decide +kernel
theorem d_Tape_readOperand_59 : decode prog_10_method_7_code 59 = .ok (.if_icmp .lt (10), 3) := by decide +kernel
theorem d_Tape_readOperand_62 : decode prog_10_method_7_code 62 = .ok (.aload_n 0, 1) := by decide +kernel
theorem d_Tape_readOperand_63 : decode prog_10_method_7_code 63 = .ok (.invokevirtual 42, 3) := by decide +kernel
theorem d_Tape_readOperand_66 : decode prog_10_method_7_code 66 = .ok (.goto (96), 3) := by decide +kernel
theorem d_Tape_readOperand_69 : decode prog_10_method_7_code 69 = .ok (.aload_n 0, 1) := by decide +kernel
theorem d_Tape_readOperand_70 : decode prog_10_method_7_code 70 = .ok (.bipush (40), 2) := by decide +kernel
theorem d_Tape_readOperand_72 : decode prog_10_method_7_code 72 = .ok (.invokevirtual 38, 3) := by decide +kernel
theorem d_Tape_readOperand_75 : decode prog_10_method_7_code 75 = .ok (.ifCond .eq (27), 3) := by decide +kernel
theorem d_Tape_readOperand_78 : decode prog_10_method_7_code 78 = .ok (.aload_n 0, 1) := by decide +kernel
theorem d_Tape_readOperand_79 : decode prog_10_method_7_code 79 = .ok (.iconst 0, 1) := by decide +kernel
theorem d_Tape_readOperand_80 : decode prog_10_method_7_code 80 = .ok (.iload_n 1, 1) := by decide +kernel
theorem d_Tape_readOperand_81 : decode prog_10_method_7_code 81 = .ok (.iconst 1, 1) := by decide +kernel
theorem d_Tape_readOperand_82 : decode prog_10_method_7_code 82 = .ok (.iadd, 1) := by decide +kernel
theorem d_Tape_readOperand_83 : decode prog_10_method_7_code 83 = .ok (.invokevirtual 45, 3) := by decide +kernel
theorem d_Tape_readOperand_86 : decode prog_10_method_7_code 86 = .ok (.aload_n 0, 1) := by decide +kernel
theorem d_Tape_readOperand_87 : decode prog_10_method_7_code 87 = .ok (.bipush (41), 2) := by decide +kernel
theorem d_Tape_readOperand_89 : decode prog_10_method_7_code 89 = .ok (.invokevirtual 38, 3) := by decide +kernel
theorem d_Tape_readOperand_92 : decode prog_10_method_7_code 92 = .ok (.ifCond .ne (70), 3) := by decide +kernel
theorem d_Tape_readOperand_95 : decode prog_10_method_7_code 95 = .ok (.aload_n 0, 1) := by decide +kernel
theorem d_Tape_readOperand_96 : decode prog_10_method_7_code 96 = .ok (.invokevirtual 42, 3) := by decide +kernel
theorem d_Tape_readOperand_99 : decode prog_10_method_7_code 99 = .ok (.goto (63), 3) := by decide +kernel
theorem d_Tape_readOperand_102 : decode prog_10_method_7_code 102 = .ok (.aload_n 0, 1) := by decide +kernel
theorem d_Tape_readOperand_103 : decode prog_10_method_7_code 103 = .ok (.bipush (33), 2) := by decide +kernel
theorem d_Tape_readOperand_105 : decode prog_10_method_7_code 105 = .ok (.invokevirtual 38, 3) := by decide +kernel
theorem d_Tape_readOperand_108 : decode prog_10_method_7_code 108 = .ok (.ifCond .eq (22), 3) := by decide +kernel
theorem d_Tape_readOperand_111 : decode prog_10_method_7_code 111 = .ok (.aload_n 0, 1) := by decide +kernel
theorem d_Tape_readOperand_112 : decode prog_10_method_7_code 112 = .ok (.iload_n 1, 1) := by decide +kernel
theorem d_Tape_readOperand_113 : decode prog_10_method_7_code 113 = .ok (.iconst 1, 1) := by decide +kernel
theorem d_Tape_readOperand_114 : decode prog_10_method_7_code 114 = .ok (.iadd, 1) := by decide +kernel
theorem d_Tape_readOperand_115 : decode prog_10_method_7_code 115 = .ok (.invokevirtual 66, 3) := by decide +kernel
theorem d_Tape_readOperand_118 : decode prog_10_method_7_code 118 = .ok (.aload_n 0, 1) := by decide +kernel
theorem d_Tape_readOperand_119 : decode prog_10_method_7_code 119 = .ok (.getfield 12, 3) := by decide +kernel
theorem d_Tape_readOperand_122 : decode prog_10_method_7_code 122 = .ok (.bipush (-33), 2) := by decide +kernel
theorem d_Tape_readOperand_124 : decode prog_10_method_7_code 124 = .ok (.invokevirtual 49, 3) := by decide +kernel
theorem d_Tape_readOperand_127 : decode prog_10_method_7_code 127 = .ok (.goto (35), 3) := by decide +kernel
theorem d_Tape_readOperand_130 : decode prog_10_method_7_code 130 = .ok (.aload_n 0, 1) := by decide +kernel
theorem d_Tape_readOperand_131 : decode prog_10_method_7_code 131 = .ok (.bipush (45), 2) := by decide +kernel
theorem d_Tape_readOperand_133 : decode prog_10_method_7_code 133 = .ok (.invokevirtual 38, 3) := by decide +kernel
theorem d_Tape_readOperand_136 : decode prog_10_method_7_code 136 = .ok (.ifCond .eq (22), 3) := by decide +kernel
theorem d_Tape_readOperand_139 : decode prog_10_method_7_code 139 = .ok (.aload_n 0, 1) := by decide +kernel
theorem d_Tape_readOperand_140 : decode prog_10_method_7_code 140 = .ok (.iload_n 1, 1) := by decide +kernel
theorem d_Tape_readOperand_141 : decode prog_10_method_7_code 141 = .ok (.iconst 1, 1) := by decide +kernel
theorem d_Tape_readOperand_142 : decode prog_10_method_7_code 142 = .ok (.iadd, 1) := by decide +kernel
theorem d_Tape_readOperand_143 : decode prog_10_method_7_code 143 = .ok (.invokevirtual 66, 3) := by decide +kernel
theorem d_Tape_readOperand_146 : decode prog_10_method_7_code 146 = .ok (.aload_n 0, 1) := by decide +kernel
theorem d_Tape_readOperand_147 : decode prog_10_method_7_code 147 = .ok (.getfield 12, 3) := by decide +kernel
theorem d_Tape_readOperand_150 : decode prog_10_method_7_code 150 = .ok (.bipush (-126), 2) := by decide +kernel
theorem d_Tape_readOperand_152 : decode prog_10_method_7_code 152 = .ok (.invokevirtual 49, 3) := by decide +kernel
theorem d_Tape_readOperand_155 : decode prog_10_method_7_code 155 = .ok (.goto (7), 3) := by decide +kernel
theorem d_Tape_readOperand_158 : decode prog_10_method_7_code 158 = .ok (.aload_n 0, 1) := by decide +kernel
theorem d_Tape_readOperand_159 : decode prog_10_method_7_code 159 = .ok (.invokevirtual 42, 3) := by decide +kernel
theorem d_Tape_readOperand_162 : decode prog_10_method_7_code 162 = .ok (.return_, 1) := by decide +kernel
set_option maxHeartbeats 4000000 in
set_option maxRecDepth 100000 in
theorem zf_Tape_readOperand {G : zz_G} {l : Launch} {Z : zz_Z} {dR : Nat} (hdR : 7 ≤ dR) {q : zz_S} {s : zz_S} (C : zz_Cx G l "OneBlanket$Tape" "readOperand" prog_10_method_7_code 3 (none) (dR + 1) (none, zsh, q) Z) (R_Tape_readLevel : Int32 → Int32 → zz_S → Option (zz_S)) (R_Tape_readOperand : Int32 → zz_S → Option (zz_S)) (hR_Tape_readLevel : ∀ (a1 : Int32) (a2 : Int32) (s : zz_S) (q : zz_S), R_Tape_readLevel a1 a2 s = some q → zz_M G l dR y_Tape_readLevel prog_10_method_6_code 5 (none) [.ref 44, .int a1, .int a2] zsh s (none, zsh, q)) (hR_Tape_readOperand : ∀ (a1 : Int32) (s : zz_S) (q : zz_S), R_Tape_readOperand a1 s = some q → zz_M G l dR y_Tape_readOperand prog_10_method_7_code 3 (none) [.ref 44, .int a1] zsh s (none, zsh, q)) (a1 : Int32) (h : f_Tape_readOperand R_Tape_readLevel R_Tape_readOperand a1 s = some q) : Z 0 [some (.ref 44), some (.int a1), none] [] zsh s := by
  unfold f_Tape_readOperand at h
  refine zz_ldcS (i := 0) (tx := "tuwksbmh") (pc := 0) C (by decide) d_Tape_readOperand_0 ?_
  refine zz_aload_n (i := 0) (pc := 2) C rfl rfl d_Tape_readOperand_2 ?_
  obtain ⟨q1, hq1, h⟩ := zz_bdE h
  refine zz_cVi (as := []) (st := [.ref (1300 + 0)]) (pc := 3) C (zm_Tape_peek hq1) zcv_Tape_peek zsh_44 zl_8_79 (by omega) (Nat.le_of_ble_eq_true rfl) d_Tape_readOperand_3 rfl rfl ?_
  obtain ⟨q2, hq2, h⟩ := zz_bdE h
  refine zz_cSi (as := [.ref (1300 + 0), .int q1]) (st := []) (pc := 6) C (zm_Tape_placeIn (by decide) hq2) zcs_Tape_placeIn zl_8_83 (by omega) (Nat.le_of_ble_eq_true rfl) d_Tape_readOperand_6 rfl rfl ?_
  refine zz_istore_n (i := 2) (lo' := [some (.ref 44), some (.int a1), some (.int q2)]) (pc := 9) C rfl (Nat.le_of_ble_eq_true rfl) rfl rfl d_Tape_readOperand_9 ?_
  refine zz_aload_n (i := 0) (pc := 10) C rfl rfl d_Tape_readOperand_10 ?_
  obtain ⟨q3, hq3, h⟩ := zz_bdE h
  refine zz_cVi (as := []) (st := []) (pc := 11) C (zm_Tape_peek hq3) zcv_Tape_peek zsh_44 zl_8_79 (by omega) (Nat.le_of_ble_eq_true rfl) d_Tape_readOperand_11 rfl rfl ?_
  refine zz_cSi (as := [.int q3]) (st := []) (pc := 14) C (zm_Tape_isDigit rfl) zcs_Tape_isDigit zl_8_87 (by omega) (Nat.le_of_ble_eq_true rfl) d_Tape_readOperand_14 rfl rfl ?_
  refine zz_if_eq (tgt := 27) (pc := 17) C (by decide) d_Tape_readOperand_17 (fun hc4 => ?_) (fun hc4 => ?_)
  · rw [if_pos hc4] at h
    refine zz_iload_n (i := 2) (pc := 27) C rfl rfl d_Tape_readOperand_27 ?_
    refine zz_if_lt (tgt := 56) (pc := 28) C (by decide) d_Tape_readOperand_28 (fun hc5 => ?_) (fun hc5 => ?_)
    · rw [if_pos hc5] at h
      refine zz_iload_n (i := 1) (pc := 56) C rfl rfl d_Tape_readOperand_56 ?_
      refine zz_bipush (pc := 57) C zkb_6 d_Tape_readOperand_57 ?_
      refine zz_icmp_lt (tgt := 69) (pc := 59) C (by decide) d_Tape_readOperand_59 (fun hc6 => ?_) (fun hc6 => ?_)
      · rw [if_pos hc6] at h
        refine zz_aload_n (i := 0) (pc := 69) C rfl rfl d_Tape_readOperand_69 ?_
        refine zz_bipush (pc := 70) C zkb_40 d_Tape_readOperand_70 ?_
        obtain ⟨q7, hq7, h⟩ := zz_bdE h
        refine zz_cVi (as := [.int (40 : Int32)]) (st := []) (pc := 72) C (zm_Tape_takes hq7) zcv_Tape_takes zsh_44 zl_8_38 (by omega) (Nat.le_of_ble_eq_true rfl) d_Tape_readOperand_72 rfl rfl ?_
        refine zz_if_eq (tgt := 102) (pc := 75) C (by decide) d_Tape_readOperand_75 (fun hc8 => ?_) (fun hc8 => ?_)
        · rw [if_pos hc8] at h
          refine zz_aload_n (i := 0) (pc := 102) C rfl rfl d_Tape_readOperand_102 ?_
          refine zz_bipush (pc := 103) C zkb_33 d_Tape_readOperand_103 ?_
          obtain ⟨q9, hq9, h⟩ := zz_bdE h
          refine zz_cVi (as := [.int (33 : Int32)]) (st := []) (pc := 105) C (zm_Tape_takes hq9) zcv_Tape_takes zsh_44 zl_8_38 (by omega) (Nat.le_of_ble_eq_true rfl) d_Tape_readOperand_105 rfl rfl ?_
          refine zz_if_eq (tgt := 130) (pc := 108) C (by decide) d_Tape_readOperand_108 (fun hc10 => ?_) (fun hc10 => ?_)
          · rw [if_pos hc10] at h
            refine zz_aload_n (i := 0) (pc := 130) C rfl rfl d_Tape_readOperand_130 ?_
            refine zz_bipush (pc := 131) C zkb_45 d_Tape_readOperand_131 ?_
            obtain ⟨q11, hq11, h⟩ := zz_bdE h
            refine zz_cVi (as := [.int (45 : Int32)]) (st := []) (pc := 133) C (zm_Tape_takes hq11) zcv_Tape_takes zsh_44 zl_8_38 (by omega) (Nat.le_of_ble_eq_true rfl) d_Tape_readOperand_133 rfl rfl ?_
            refine zz_if_eq (tgt := 158) (pc := 136) C (by decide) d_Tape_readOperand_136 (fun hc12 => ?_) (fun hc12 => ?_)
            · rw [if_pos hc12] at h
              refine zz_aload_n (i := 0) (pc := 158) C rfl rfl d_Tape_readOperand_158 ?_
              refine zz_cVv (as := []) (st := []) (pc := 159) C (zm_Tape_fail rfl) zcv_Tape_fail zsh_44 zl_8_42 (by omega) (Nat.le_of_ble_eq_true rfl) d_Tape_readOperand_159 rfl rfl ?_
              replace h := Option.some.inj h
              subst h
              exact zz_ret (pc := 162) C (v := none) d_Tape_readOperand_162 (Or.inr (Or.inr (Or.inr ⟨rfl, rfl, rfl⟩))) rfl
            · rw [if_neg hc12] at h
              refine zz_aload_n (i := 0) (pc := 139) C rfl rfl d_Tape_readOperand_139 ?_
              refine zz_iload_n (i := 1) (pc := 140) C rfl rfl d_Tape_readOperand_140 ?_
              refine zz_iconst (pc := 141) C zki_1 d_Tape_readOperand_141 ?_
              refine zz_iadd (pc := 142) C d_Tape_readOperand_142 ?_
              obtain ⟨q13, hq13, h⟩ := zz_bdE h
              refine zz_cVv (as := [.int (a1 + (1 : Int32))]) (st := []) (pc := 143) C (hR_Tape_readOperand (a1 + (1 : Int32)) q11.2 q13 hq13) zcv_Tape_readOperand zsh_44 zl_8_66 (by omega) (Nat.le_of_ble_eq_true rfl) d_Tape_readOperand_143 rfl rfl ?_
              refine zz_aload_n (i := 0) (pc := 146) C rfl rfl d_Tape_readOperand_146 ?_
              refine zz_getR (pc := 147) C zl_8_12 zsh_44 rfl d_Tape_readOperand_147 ?_
              refine zz_bipush (pc := 150) C zkb_m126 d_Tape_readOperand_150 ?_
              obtain ⟨q14, hq14, h⟩ := zz_bdE h
              refine zz_cVv (as := [.int (-126 : Int32)]) (st := []) (pc := 152) C (zm_Text_add hq14) zcv_Text_add zsh_45 zl_8_49 (by omega) (Nat.le_of_ble_eq_true rfl) d_Tape_readOperand_152 rfl rfl ?_
              refine zz_goto (tgt := 162) (pc := 155) C (by decide) d_Tape_readOperand_155 ?_
              replace h := Option.some.inj h
              subst h
              exact zz_ret (pc := 162) C (v := none) d_Tape_readOperand_162 (Or.inr (Or.inr (Or.inr ⟨rfl, rfl, rfl⟩))) rfl
          · rw [if_neg hc10] at h
            refine zz_aload_n (i := 0) (pc := 111) C rfl rfl d_Tape_readOperand_111 ?_
            refine zz_iload_n (i := 1) (pc := 112) C rfl rfl d_Tape_readOperand_112 ?_
            refine zz_iconst (pc := 113) C zki_1 d_Tape_readOperand_113 ?_
            refine zz_iadd (pc := 114) C d_Tape_readOperand_114 ?_
            obtain ⟨q15, hq15, h⟩ := zz_bdE h
            refine zz_cVv (as := [.int (a1 + (1 : Int32))]) (st := []) (pc := 115) C (hR_Tape_readOperand (a1 + (1 : Int32)) q9.2 q15 hq15) zcv_Tape_readOperand zsh_44 zl_8_66 (by omega) (Nat.le_of_ble_eq_true rfl) d_Tape_readOperand_115 rfl rfl ?_
            refine zz_aload_n (i := 0) (pc := 118) C rfl rfl d_Tape_readOperand_118 ?_
            refine zz_getR (pc := 119) C zl_8_12 zsh_44 rfl d_Tape_readOperand_119 ?_
            refine zz_bipush (pc := 122) C zkb_m33 d_Tape_readOperand_122 ?_
            obtain ⟨q16, hq16, h⟩ := zz_bdE h
            refine zz_cVv (as := [.int (-33 : Int32)]) (st := []) (pc := 124) C (zm_Text_add hq16) zcv_Text_add zsh_45 zl_8_49 (by omega) (Nat.le_of_ble_eq_true rfl) d_Tape_readOperand_124 rfl rfl ?_
            refine zz_goto (tgt := 162) (pc := 127) C (by decide) d_Tape_readOperand_127 ?_
            replace h := Option.some.inj h
            subst h
            exact zz_ret (pc := 162) C (v := none) d_Tape_readOperand_162 (Or.inr (Or.inr (Or.inr ⟨rfl, rfl, rfl⟩))) rfl
        · rw [if_neg hc8] at h
          refine zz_aload_n (i := 0) (pc := 78) C rfl rfl d_Tape_readOperand_78 ?_
          refine zz_iconst (pc := 79) C zki_0 d_Tape_readOperand_79 ?_
          refine zz_iload_n (i := 1) (pc := 80) C rfl rfl d_Tape_readOperand_80 ?_
          refine zz_iconst (pc := 81) C zki_1 d_Tape_readOperand_81 ?_
          refine zz_iadd (pc := 82) C d_Tape_readOperand_82 ?_
          obtain ⟨q17, hq17, h⟩ := zz_bdE h
          refine zz_cVv (as := [.int (0 : Int32), .int (a1 + (1 : Int32))]) (st := []) (pc := 83) C (hR_Tape_readLevel (0 : Int32) (a1 + (1 : Int32)) q7.2 q17 hq17) zcv_Tape_readLevel zsh_44 zl_8_45 (by omega) (Nat.le_of_ble_eq_true rfl) d_Tape_readOperand_83 rfl rfl ?_
          refine zz_aload_n (i := 0) (pc := 86) C rfl rfl d_Tape_readOperand_86 ?_
          refine zz_bipush (pc := 87) C zkb_41 d_Tape_readOperand_87 ?_
          obtain ⟨q18, hq18, h⟩ := zz_bdE h
          refine zz_cVi (as := [.int (41 : Int32)]) (st := []) (pc := 89) C (zm_Tape_takes hq18) zcv_Tape_takes zsh_44 zl_8_38 (by omega) (Nat.le_of_ble_eq_true rfl) d_Tape_readOperand_89 rfl rfl ?_
          refine zz_if_ne (tgt := 162) (pc := 92) C (by decide) d_Tape_readOperand_92 (fun hc19 => ?_) (fun hc19 => ?_)
          · rw [if_neg hc19] at h
            replace h := Option.some.inj h
            subst h
            exact zz_ret (pc := 162) C (v := none) d_Tape_readOperand_162 (Or.inr (Or.inr (Or.inr ⟨rfl, rfl, rfl⟩))) rfl
          · rw [if_pos hc19] at h
            refine zz_aload_n (i := 0) (pc := 95) C rfl rfl d_Tape_readOperand_95 ?_
            refine zz_cVv (as := []) (st := []) (pc := 96) C (zm_Tape_fail rfl) zcv_Tape_fail zsh_44 zl_8_42 (by omega) (Nat.le_of_ble_eq_true rfl) d_Tape_readOperand_96 rfl rfl ?_
            refine zz_goto (tgt := 162) (pc := 99) C (by decide) d_Tape_readOperand_99 ?_
            replace h := Option.some.inj h
            subst h
            exact zz_ret (pc := 162) C (v := none) d_Tape_readOperand_162 (Or.inr (Or.inr (Or.inr ⟨rfl, rfl, rfl⟩))) rfl
      · rw [if_neg hc6] at h
        refine zz_aload_n (i := 0) (pc := 62) C rfl rfl d_Tape_readOperand_62 ?_
        refine zz_cVv (as := []) (st := []) (pc := 63) C (zm_Tape_fail rfl) zcv_Tape_fail zsh_44 zl_8_42 (by omega) (Nat.le_of_ble_eq_true rfl) d_Tape_readOperand_63 rfl rfl ?_
        refine zz_goto (tgt := 162) (pc := 66) C (by decide) d_Tape_readOperand_66 ?_
        replace h := Option.some.inj h
        subst h
        exact zz_ret (pc := 162) C (v := none) d_Tape_readOperand_162 (Or.inr (Or.inr (Or.inr ⟨rfl, rfl, rfl⟩))) rfl
    · rw [if_neg hc5] at h
      refine zz_aload_n (i := 0) (pc := 31) C rfl rfl d_Tape_readOperand_31 ?_
      refine zz_dup (pc := 32) C rfl d_Tape_readOperand_32 ?_
      refine zz_getI (pc := 33) C zl_8_26 zsh_44 rfl d_Tape_readOperand_33 ?_
      refine zz_iconst (pc := 36) C zki_1 d_Tape_readOperand_36 ?_
      refine zz_iadd (pc := 37) C d_Tape_readOperand_37 ?_
      refine zz_putI' (pc := 38) C zl_8_26 zpf_8_3 zsh_44 rfl d_Tape_readOperand_38 ?_
      refine zz_aload_n (i := 0) (pc := 41) C rfl rfl d_Tape_readOperand_41 ?_
      refine zz_getR (pc := 42) C zl_8_12 zsh_44 rfl d_Tape_readOperand_42 ?_
      refine zz_sipush (pc := 45) C zks_20000 d_Tape_readOperand_45 ?_
      refine zz_iload_n (i := 2) (pc := 48) C rfl rfl d_Tape_readOperand_48 ?_
      refine zz_iadd (pc := 49) C d_Tape_readOperand_49 ?_
      obtain ⟨q20, hq20, h⟩ := zz_bdE h
      refine zz_cVv (as := [.int ((20000 : Int32) + q2)]) (st := []) (pc := 50) C (zm_Text_add hq20) zcv_Text_add zsh_45 zl_8_49 (by omega) (Nat.le_of_ble_eq_true rfl) d_Tape_readOperand_50 rfl rfl ?_
      refine zz_goto (tgt := 162) (pc := 53) C (by decide) d_Tape_readOperand_53 ?_
      replace h := Option.some.inj h
      subst h
      exact zz_ret (pc := 162) C (v := none) d_Tape_readOperand_162 (Or.inr (Or.inr (Or.inr ⟨rfl, rfl, rfl⟩))) rfl
  · rw [if_neg hc4] at h
    refine zz_aload_n (i := 0) (pc := 20) C rfl rfl d_Tape_readOperand_20 ?_
    obtain ⟨q21, hq21, h⟩ := zz_bdE h
    refine zz_cVv (as := []) (st := []) (pc := 21) C (zm_Tape_readNumber hq21) zcv_Tape_readNumber zsh_44 zl_8_90 (by omega) (Nat.le_of_ble_eq_true rfl) d_Tape_readOperand_21 rfl rfl ?_
    refine zz_goto (tgt := 162) (pc := 24) C (by decide) d_Tape_readOperand_24 ?_
    replace h := Option.some.inj h
    subst h
    exact zz_ret (pc := 162) C (v := none) d_Tape_readOperand_162 (Or.inr (Or.inr (Or.inr ⟨rfl, rfl, rfl⟩))) rfl
theorem d_Tape_readLevel_0 : decode prog_10_method_6_code 0 = .ok (.iload_n 1, 1) := by decide +kernel
theorem d_Tape_readLevel_1 : decode prog_10_method_6_code 1 = .ok (.iconst 5, 1) := by decide +kernel
theorem d_Tape_readLevel_2 : decode prog_10_method_6_code 2 = .ok (.if_icmp .lt (9), 3) := by decide +kernel
theorem d_Tape_readLevel_5 : decode prog_10_method_6_code 5 = .ok (.aload_n 0, 1) := by decide +kernel
theorem d_Tape_readLevel_6 : decode prog_10_method_6_code 6 = .ok (.iload_n 2, 1) := by decide +kernel
theorem d_Tape_readLevel_7 : decode prog_10_method_6_code 7 = .ok (.invokevirtual 66, 3) := by decide +kernel
theorem d_Tape_readLevel_10 : decode prog_10_method_6_code 10 = .ok (.return_, 1) := by decide +kernel
theorem d_Tape_readLevel_11 : decode prog_10_method_6_code 11 = .ok (.aload_n 0, 1) := by decide +kernel
theorem d_Tape_readLevel_12 : decode prog_10_method_6_code 12 = .ok (.iload_n 1, 1) := by decide +kernel
theorem d_Tape_readLevel_13 : decode prog_10_method_6_code 13 = .ok (.iconst 1, 1) := by decide +kernel
theorem d_Tape_readLevel_14 : decode prog_10_method_6_code 14 = .ok (.iadd, 1) := by decide +kernel
theorem d_Tape_readLevel_15 : decode prog_10_method_6_code 15 = .ok (.iload_n 2, 1) := by decide +kernel
theorem d_Tape_readLevel_16 : decode prog_10_method_6_code 16 = .ok (.invokevirtual 45, 3) := by decide +kernel
theorem d_Tape_readLevel_19 : decode prog_10_method_6_code 19 = .ok (.aload_n 0, 1) := by decide +kernel
theorem d_Tape_readLevel_20 : decode prog_10_method_6_code 20 = .ok (.iload_n 1, 1) := by decide +kernel
theorem d_Tape_readLevel_21 : decode prog_10_method_6_code 21 = .ok (.invokestatic 69, 3) := by decide +kernel
theorem d_Tape_readLevel_24 : decode prog_10_method_6_code 24 = .ok (.invokevirtual 73, 3) := by decide +kernel
theorem d_Tape_readLevel_27 : decode prog_10_method_6_code 27 = .ok (.istore_n 3, 1) := by decide +kernel
theorem d_Tape_readLevel_28 : decode prog_10_method_6_code 28 = .ok (.iconst 0, 1) := by decide +kernel
theorem d_Tape_readLevel_29 : decode prog_10_method_6_code 29 = .ok (.istore 4, 2) := by decide +kernel
theorem d_Tape_readLevel_31 : decode prog_10_method_6_code 31 = .ok (.iload 4, 2) := by decide +kernel
theorem d_Tape_readLevel_33 : decode prog_10_method_6_code 33 = .ok (.bipush (120), 2) := by decide +kernel
theorem d_Tape_readLevel_35 : decode prog_10_method_6_code 35 = .ok (.if_icmp .ge (48), 3) := by decide +kernel
theorem d_Tape_readLevel_38 : decode prog_10_method_6_code 38 = .ok (.iload_n 3, 1) := by decide +kernel
theorem d_Tape_readLevel_39 : decode prog_10_method_6_code 39 = .ok (.ifCond .eq (44), 3) := by decide +kernel
theorem d_Tape_readLevel_42 : decode prog_10_method_6_code 42 = .ok (.aload_n 0, 1) := by decide +kernel
theorem d_Tape_readLevel_43 : decode prog_10_method_6_code 43 = .ok (.iload_n 1, 1) := by decide +kernel
theorem d_Tape_readLevel_44 : decode prog_10_method_6_code 44 = .ok (.iconst 1, 1) := by decide +kernel
theorem d_Tape_readLevel_45 : decode prog_10_method_6_code 45 = .ok (.iadd, 1) := by decide +kernel
theorem d_Tape_readLevel_46 : decode prog_10_method_6_code 46 = .ok (.iload_n 2, 1) := by decide +kernel
theorem d_Tape_readLevel_47 : decode prog_10_method_6_code 47 = .ok (.invokevirtual 45, 3) := by decide +kernel
theorem d_Tape_readLevel_50 : decode prog_10_method_6_code 50 = .ok (.aload_n 0, 1) := by decide +kernel
theorem d_Tape_readLevel_51 : decode prog_10_method_6_code 51 = .ok (.getfield 12, 3) := by decide +kernel
theorem d_Tape_readLevel_54 : decode prog_10_method_6_code 54 = .ok (.iload_n 3, 1) := by decide +kernel
theorem d_Tape_readLevel_55 : decode prog_10_method_6_code 55 = .ok (.ineg, 1) := by decide +kernel
theorem d_Tape_readLevel_56 : decode prog_10_method_6_code 56 = .ok (.invokevirtual 49, 3) := by decide +kernel
theorem d_Tape_readLevel_59 : decode prog_10_method_6_code 59 = .ok (.iload_n 1, 1) := by decide +kernel
theorem d_Tape_readLevel_60 : decode prog_10_method_6_code 60 = .ok (.iconst 2, 1) := by decide +kernel
theorem d_Tape_readLevel_61 : decode prog_10_method_6_code 61 = .ok (.if_icmp .ne (7), 3) := by decide +kernel
theorem d_Tape_readLevel_64 : decode prog_10_method_6_code 64 = .ok (.iconst 0, 1) := by decide +kernel
theorem d_Tape_readLevel_65 : decode prog_10_method_6_code 65 = .ok (.goto (11), 3) := by decide +kernel
theorem d_Tape_readLevel_68 : decode prog_10_method_6_code 68 = .ok (.aload_n 0, 1) := by decide +kernel
theorem d_Tape_readLevel_69 : decode prog_10_method_6_code 69 = .ok (.iload_n 1, 1) := by decide +kernel
theorem d_Tape_readLevel_70 : decode prog_10_method_6_code 70 = .ok (.invokestatic 69, 3) := by decide +kernel
theorem d_Tape_readLevel_73 : decode prog_10_method_6_code 73 = .ok (.invokevirtual 73, 3) := by decide +kernel
theorem d_Tape_readLevel_76 : decode prog_10_method_6_code 76 = .ok (.istore_n 3, 1) := by decide +kernel
theorem d_Tape_readLevel_77 : decode prog_10_method_6_code 77 = .ok (.iinc 4 (1), 3) := by decide +kernel
theorem d_Tape_readLevel_80 : decode prog_10_method_6_code 80 = .ok (.goto (-49), 3) := by decide +kernel
theorem d_Tape_readLevel_83 : decode prog_10_method_6_code 83 = .ok (.return_, 1) := by decide +kernel
set_option maxHeartbeats 4000000 in
set_option maxRecDepth 100000 in
theorem zf_Tape_readLevel_J76 {G : zz_G} {l : Launch} {Z : zz_Z} {dR : Nat} (hdR : 7 ≤ dR) {q : zz_S} {s : zz_S} (C : zz_Cx G l "OneBlanket$Tape" "readLevel" prog_10_method_6_code 5 (none) (dR + 1) (none, zsh, q) Z) (R_Tape_readLevel : Int32 → Int32 → zz_S → Option (zz_S)) (R_Tape_readOperand : Int32 → zz_S → Option (zz_S)) (hR_Tape_readLevel : ∀ (a1 : Int32) (a2 : Int32) (s : zz_S) (q : zz_S), R_Tape_readLevel a1 a2 s = some q → zz_M G l dR y_Tape_readLevel prog_10_method_6_code 5 (none) [.ref 44, .int a1, .int a2] zsh s (none, zsh, q)) (hR_Tape_readOperand : ∀ (a1 : Int32) (s : zz_S) (q : zz_S), R_Tape_readOperand a1 s = some q → zz_M G l dR y_Tape_readOperand prog_10_method_7_code 3 (none) [.ref 44, .int a1] zsh s (none, zsh, q)) (K31 : Int32 → Int32 → Int32 → Int32 → zz_S → Option (zz_S)) (hK31 : ∀ (v1 : Int32) (v2 : Int32) (v3 : Int32) (v4 : Int32) (s : zz_S), K31 v1 v2 v3 v4 s = some q → Z 31 [some (.ref 44), some (.int v1), some (.int v2), some (.int v3), some (.int v4)] [] zsh s) (v1 : Int32) (v2 : Int32) (v4 : Int32) (t0 : Int32) (h : f_Tape_readLevel_J76 R_Tape_readLevel R_Tape_readOperand K31 v1 v2 v4 t0 s = some q) : Z 76 [some (.ref 44), some (.int v1), some (.int v2), none, some (.int v4)] [.int t0] zsh s := by
  unfold f_Tape_readLevel_J76 at h
  refine zz_istore_n (i := 3) (lo' := [some (.ref 44), some (.int v1), some (.int v2), some (.int t0), some (.int v4)]) (pc := 76) C rfl (Nat.le_of_ble_eq_true rfl) rfl rfl d_Tape_readLevel_76 ?_
  refine zz_iinc (lo' := [some (.ref 44), some (.int v1), some (.int v2), some (.int t0), some (.int (v4 + (1 : Int32)))]) (pc := 77) C rfl (zz_inc zki_1) rfl rfl d_Tape_readLevel_77 ?_
  refine zz_goto (tgt := 31) (pc := 80) C (by decide) d_Tape_readLevel_80 ?_
  exact hK31 v1 v2 t0 (v4 + (1 : Int32)) s h
set_option maxHeartbeats 4000000 in
set_option maxRecDepth 100000 in
theorem zf_Tape_readLevel_L31 {G : zz_G} {l : Launch} {Z : zz_Z} {dR : Nat} (hdR : 7 ≤ dR) {q : zz_S} (C : zz_Cx G l "OneBlanket$Tape" "readLevel" prog_10_method_6_code 5 (none) (dR + 1) (none, zsh, q) Z) (R_Tape_readLevel : Int32 → Int32 → zz_S → Option (zz_S)) (R_Tape_readOperand : Int32 → zz_S → Option (zz_S)) (hR_Tape_readLevel : ∀ (a1 : Int32) (a2 : Int32) (s : zz_S) (q : zz_S), R_Tape_readLevel a1 a2 s = some q → zz_M G l dR y_Tape_readLevel prog_10_method_6_code 5 (none) [.ref 44, .int a1, .int a2] zsh s (none, zsh, q)) (hR_Tape_readOperand : ∀ (a1 : Int32) (s : zz_S) (q : zz_S), R_Tape_readOperand a1 s = some q → zz_M G l dR y_Tape_readOperand prog_10_method_7_code 3 (none) [.ref 44, .int a1] zsh s (none, zsh, q)) : ∀ (n : Nat) (v1 : Int32) (v2 : Int32) (v3 : Int32) (v4 : Int32) (s : zz_S), f_Tape_readLevel_L31 R_Tape_readLevel R_Tape_readOperand n v1 v2 v3 v4 s = some q → Z 31 [some (.ref 44), some (.int v1), some (.int v2), some (.int v3), some (.int v4)] [] zsh s := by
  intro n
  induction n with
  | zero => intro v1 v2 v3 v4 s h; rw [f_Tape_readLevel_L31] at h; cases h
  | succ n ih =>
  intro v1 v2 v3 v4 s h
  rw [f_Tape_readLevel_L31] at h
  refine zz_iload (i := 4) (pc := 31) C rfl d_Tape_readLevel_31 ?_
  refine zz_bipush (pc := 33) C zkb_120 d_Tape_readLevel_33 ?_
  refine zz_icmp_ge (tgt := 83) (pc := 35) C (by decide) d_Tape_readLevel_35 (fun hc4 => ?_) (fun hc4 => ?_)
  · rw [if_pos hc4] at h
    replace h := Option.some.inj h
    subst h
    exact zz_ret (pc := 83) C (v := none) d_Tape_readLevel_83 (Or.inr (Or.inr (Or.inr ⟨rfl, rfl, rfl⟩))) rfl
  · rw [if_neg hc4] at h
    refine zz_iload_n (i := 3) (pc := 38) C rfl rfl d_Tape_readLevel_38 ?_
    refine zz_if_eq (tgt := 83) (pc := 39) C (by decide) d_Tape_readLevel_39 (fun hc5 => ?_) (fun hc5 => ?_)
    · rw [if_pos hc5] at h
      replace h := Option.some.inj h
      subst h
      exact zz_ret (pc := 83) C (v := none) d_Tape_readLevel_83 (Or.inr (Or.inr (Or.inr ⟨rfl, rfl, rfl⟩))) rfl
    · rw [if_neg hc5] at h
      refine zz_aload_n (i := 0) (pc := 42) C rfl rfl d_Tape_readLevel_42 ?_
      refine zz_iload_n (i := 1) (pc := 43) C rfl rfl d_Tape_readLevel_43 ?_
      refine zz_iconst (pc := 44) C zki_1 d_Tape_readLevel_44 ?_
      refine zz_iadd (pc := 45) C d_Tape_readLevel_45 ?_
      refine zz_iload_n (i := 2) (pc := 46) C rfl rfl d_Tape_readLevel_46 ?_
      obtain ⟨q6, hq6, h⟩ := zz_bdE h
      refine zz_cVv (as := [.int (v1 + (1 : Int32)), .int v2]) (st := []) (pc := 47) C (hR_Tape_readLevel (v1 + (1 : Int32)) v2 s q6 hq6) zcv_Tape_readLevel zsh_44 zl_8_45 (by omega) (Nat.le_of_ble_eq_true rfl) d_Tape_readLevel_47 rfl rfl ?_
      refine zz_aload_n (i := 0) (pc := 50) C rfl rfl d_Tape_readLevel_50 ?_
      refine zz_getR (pc := 51) C zl_8_12 zsh_44 rfl d_Tape_readLevel_51 ?_
      refine zz_iload_n (i := 3) (pc := 54) C rfl rfl d_Tape_readLevel_54 ?_
      refine zz_ineg (pc := 55) C d_Tape_readLevel_55 ?_
      obtain ⟨q7, hq7, h⟩ := zz_bdE h
      refine zz_cVv (as := [.int (-v3)]) (st := []) (pc := 56) C (zm_Text_add hq7) zcv_Text_add zsh_45 zl_8_49 (by omega) (Nat.le_of_ble_eq_true rfl) d_Tape_readLevel_56 rfl rfl ?_
      refine zz_iload_n (i := 1) (pc := 59) C rfl rfl d_Tape_readLevel_59 ?_
      refine zz_iconst (pc := 60) C zki_2 d_Tape_readLevel_60 ?_
      refine zz_icmp_ne (tgt := 68) (pc := 61) C (by decide) d_Tape_readLevel_61 (fun hc8 => ?_) (fun hc8 => ?_)
      · rw [if_neg hc8] at h
        refine zz_aload_n (i := 0) (pc := 68) C rfl rfl d_Tape_readLevel_68 ?_
        refine zz_iload_n (i := 1) (pc := 69) C rfl rfl d_Tape_readLevel_69 ?_
        refine zz_cSr (as := [.int v1]) (st := [.ref 44]) (pc := 70) C (zm_Tape_signsOf rfl) zcs_Tape_signsOf zl_8_69 (by omega) (Nat.le_of_ble_eq_true rfl) d_Tape_readLevel_70 rfl rfl ?_
        obtain ⟨q9, hq9, h⟩ := zz_bdE h
        refine zz_cVi (as := [.ref (1300 + (f_Tape_signsOf v1))]) (st := []) (pc := 73) C (zm_Tape_takesOneOf (zmem_Tape_signsOf v1) hq9) zcv_Tape_takesOneOf zsh_44 zl_8_73 (by omega) (Nat.le_of_ble_eq_true rfl) d_Tape_readLevel_73 rfl rfl ?_
        refine zz_fg C [true, true, true, false, true] rfl rfl ?_
        exact zf_Tape_readLevel_J76 hdR C R_Tape_readLevel R_Tape_readOperand hR_Tape_readLevel hR_Tape_readOperand (f_Tape_readLevel_L31 R_Tape_readLevel R_Tape_readOperand n) ih v1 v2 v4 q9.1 h
      · rw [if_pos hc8] at h
        refine zz_iconst (pc := 64) C zki_0 d_Tape_readLevel_64 ?_
        refine zz_goto (tgt := 76) (pc := 65) C (by decide) d_Tape_readLevel_65 ?_
        refine zz_fg C [true, true, true, false, true] rfl rfl ?_
        exact zf_Tape_readLevel_J76 hdR C R_Tape_readLevel R_Tape_readOperand hR_Tape_readLevel hR_Tape_readOperand (f_Tape_readLevel_L31 R_Tape_readLevel R_Tape_readOperand n) ih v1 v2 v4 (0 : Int32) h
set_option maxHeartbeats 4000000 in
set_option maxRecDepth 100000 in
theorem zf_Tape_readLevel {G : zz_G} {l : Launch} {Z : zz_Z} {dR : Nat} (hdR : 7 ≤ dR) {q : zz_S} {s : zz_S} (C : zz_Cx G l "OneBlanket$Tape" "readLevel" prog_10_method_6_code 5 (none) (dR + 1) (none, zsh, q) Z) (R_Tape_readLevel : Int32 → Int32 → zz_S → Option (zz_S)) (R_Tape_readOperand : Int32 → zz_S → Option (zz_S)) (hR_Tape_readLevel : ∀ (a1 : Int32) (a2 : Int32) (s : zz_S) (q : zz_S), R_Tape_readLevel a1 a2 s = some q → zz_M G l dR y_Tape_readLevel prog_10_method_6_code 5 (none) [.ref 44, .int a1, .int a2] zsh s (none, zsh, q)) (hR_Tape_readOperand : ∀ (a1 : Int32) (s : zz_S) (q : zz_S), R_Tape_readOperand a1 s = some q → zz_M G l dR y_Tape_readOperand prog_10_method_7_code 3 (none) [.ref 44, .int a1] zsh s (none, zsh, q)) (a1 : Int32) (a2 : Int32) (h : f_Tape_readLevel R_Tape_readLevel R_Tape_readOperand a1 a2 s = some q) : Z 0 [some (.ref 44), some (.int a1), some (.int a2), none, none] [] zsh s := by
  unfold f_Tape_readLevel at h
  refine zz_iload_n (i := 1) (pc := 0) C rfl rfl d_Tape_readLevel_0 ?_
  refine zz_iconst (pc := 1) C zki_5 d_Tape_readLevel_1 ?_
  refine zz_icmp_lt (tgt := 11) (pc := 2) C (by decide) d_Tape_readLevel_2 (fun hc1 => ?_) (fun hc1 => ?_)
  · rw [if_pos hc1] at h
    refine zz_aload_n (i := 0) (pc := 11) C rfl rfl d_Tape_readLevel_11 ?_
    refine zz_iload_n (i := 1) (pc := 12) C rfl rfl d_Tape_readLevel_12 ?_
    refine zz_iconst (pc := 13) C zki_1 d_Tape_readLevel_13 ?_
    refine zz_iadd (pc := 14) C d_Tape_readLevel_14 ?_
    refine zz_iload_n (i := 2) (pc := 15) C rfl rfl d_Tape_readLevel_15 ?_
    obtain ⟨q2, hq2, h⟩ := zz_bdE h
    refine zz_cVv (as := [.int (a1 + (1 : Int32)), .int a2]) (st := []) (pc := 16) C (hR_Tape_readLevel (a1 + (1 : Int32)) a2 s q2 hq2) zcv_Tape_readLevel zsh_44 zl_8_45 (by omega) (Nat.le_of_ble_eq_true rfl) d_Tape_readLevel_16 rfl rfl ?_
    refine zz_aload_n (i := 0) (pc := 19) C rfl rfl d_Tape_readLevel_19 ?_
    refine zz_iload_n (i := 1) (pc := 20) C rfl rfl d_Tape_readLevel_20 ?_
    refine zz_cSr (as := [.int a1]) (st := [.ref 44]) (pc := 21) C (zm_Tape_signsOf rfl) zcs_Tape_signsOf zl_8_69 (by omega) (Nat.le_of_ble_eq_true rfl) d_Tape_readLevel_21 rfl rfl ?_
    obtain ⟨q3, hq3, h⟩ := zz_bdE h
    refine zz_cVi (as := [.ref (1300 + (f_Tape_signsOf a1))]) (st := []) (pc := 24) C (zm_Tape_takesOneOf (zmem_Tape_signsOf a1) hq3) zcv_Tape_takesOneOf zsh_44 zl_8_73 (by omega) (Nat.le_of_ble_eq_true rfl) d_Tape_readLevel_24 rfl rfl ?_
    refine zz_istore_n (i := 3) (lo' := [some (.ref 44), some (.int a1), some (.int a2), some (.int q3.1), none]) (pc := 27) C rfl (Nat.le_of_ble_eq_true rfl) rfl rfl d_Tape_readLevel_27 ?_
    refine zz_iconst (pc := 28) C zki_0 d_Tape_readLevel_28 ?_
    refine zz_istore (i := 4) (lo' := [some (.ref 44), some (.int a1), some (.int a2), some (.int q3.1), some (.int (0 : Int32))]) (pc := 29) C (Nat.le_of_ble_eq_true rfl) rfl rfl d_Tape_readLevel_29 ?_
    exact zf_Tape_readLevel_L31 hdR C R_Tape_readLevel R_Tape_readOperand hR_Tape_readLevel hR_Tape_readOperand zF a1 a2 q3.1 (0 : Int32) q3.2 h
  · rw [if_neg hc1] at h
    refine zz_aload_n (i := 0) (pc := 5) C rfl rfl d_Tape_readLevel_5 ?_
    refine zz_iload_n (i := 2) (pc := 6) C rfl rfl d_Tape_readLevel_6 ?_
    obtain ⟨q10, hq10, h⟩ := zz_bdE h
    refine zz_cVv (as := [.int a2]) (st := []) (pc := 7) C (hR_Tape_readOperand a2 s q10 hq10) zcv_Tape_readOperand zsh_44 zl_8_66 (by omega) (Nat.le_of_ble_eq_true rfl) d_Tape_readLevel_7 rfl rfl ?_
    replace h := Option.some.inj h
    subst h
    exact zz_ret (pc := 10) C (v := none) d_Tape_readLevel_10 (Or.inr (Or.inr (Or.inr ⟨rfl, rfl, rfl⟩))) rfl
theorem zg_Tape_readLevel {G : zz_G} {l : Launch} : ∀ n : Nat, (∀ (a1 : Int32) (a2 : Int32) (s : zz_S) (q : zz_S), g_Tape_readLevel n a1 a2 s = some q → zz_M G l (7 + n) y_Tape_readLevel prog_10_method_6_code 5 (none) [.ref 44, .int a1, .int a2] zsh s (none, zsh, q)) ∧ (∀ (a1 : Int32) (s : zz_S) (q : zz_S), g_Tape_readOperand n a1 s = some q → zz_M G l (7 + n) y_Tape_readOperand prog_10_method_7_code 3 (none) [.ref 44, .int a1] zsh s (none, zsh, q)) := by
  intro n
  induction n with
  | zero =>
    refine ⟨?_, ?_⟩
    · intro a1 a2 s q h; cases h
    · intro a1 s q h; cases h
  | succ n ih =>
    obtain ⟨ih0, ih1⟩ := ih
    refine ⟨?_, ?_⟩
    · intro a1 a2 s q h
      exact zz_M.intro (by decide) (Nat.le_of_ble_eq_true rfl) (Nat.le_refl _) (Nat.le_refl _) (fun Z C => zf_Tape_readLevel (dR := 7 + n) (by omega) C (g_Tape_readLevel n) (g_Tape_readOperand n) ih0 ih1 a1 a2 h)
    · intro a1 s q h
      exact zz_M.intro (by decide) (Nat.le_of_ble_eq_true rfl) (Nat.le_refl _) (Nat.le_refl _) (fun Z C => zf_Tape_readOperand (dR := 7 + n) (by omega) C (g_Tape_readLevel n) (g_Tape_readOperand n) ih0 ih1 a1 h)
theorem zm_Tape_readLevel {G : zz_G} {l : Launch} {s : zz_S} {q : zz_S} {a1 : Int32} {a2 : Int32} (h : g_Tape_readLevel zR a1 a2 s = some q) : zz_M G l 207 y_Tape_readLevel prog_10_method_6_code 5 (none) [.ref 44, .int a1, .int a2] zsh s (none, zsh, q) := (zg_Tape_readLevel zR).1 a1 a2 s q h
theorem zm_Tape_readOperand {G : zz_G} {l : Launch} {s : zz_S} {q : zz_S} {a1 : Int32} (h : g_Tape_readOperand zR a1 s = some q) : zz_M G l 207 y_Tape_readOperand prog_10_method_7_code 3 (none) [.ref 44, .int a1] zsh s (none, zsh, q) := (zg_Tape_readLevel zR).2 a1 s q h
theorem d_Text_skipToEnd_0 : decode prog_11_method_3_code 0 = .ok (.iload_n 1, 1) := by decide +kernel
theorem d_Text_skipToEnd_1 : decode prog_11_method_3_code 1 = .ok (.ifCond .lt (25), 3) := by decide +kernel
theorem d_Text_skipToEnd_4 : decode prog_11_method_3_code 4 = .ok (.iload_n 1, 1) := by decide +kernel
theorem d_Text_skipToEnd_5 : decode prog_11_method_3_code 5 = .ok (.aload_n 0, 1) := by decide +kernel
theorem d_Text_skipToEnd_6 : decode prog_11_method_3_code 6 = .ok (.getfield 18, 3) := by decide +kernel
theorem d_Text_skipToEnd_9 : decode prog_11_method_3_code 9 = .ok (.if_icmp .ge (17), 3) := by decide +kernel
theorem d_Text_skipToEnd_12 : decode prog_11_method_3_code 12 = .ok (.aload_n 0, 1) := by decide +kernel
theorem d_Text_skipToEnd_13 : decode prog_11_method_3_code 13 = .ok (.getfield 11, 3) := by decide +kernel
theorem d_Text_skipToEnd_16 : decode prog_11_method_3_code 16 = .ok (.iload_n 1, 1) := by decide +kernel
theorem d_Text_skipToEnd_17 : decode prog_11_method_3_code 17 = .ok (.sipush (10000), 3) := by decide +kernel
theorem d_Text_skipToEnd_20 : decode prog_11_method_3_code 20 = .ok (.aload_n 0, 1) := by decide +kernel
theorem d_Text_skipToEnd_21 : decode prog_11_method_3_code 21 = .ok (.getfield 18, 3) := by decide +kernel
theorem d_Text_skipToEnd_24 : decode prog_11_method_3_code 24 = .ok (.iadd, 1) := by decide +kernel
theorem d_Text_skipToEnd_25 : decode prog_11_method_3_code 25 = .ok (.iastore, 1) := by decide +kernel
theorem d_Text_skipToEnd_26 : decode prog_11_method_3_code 26 = .ok (.return_, 1) := by decide +kernel
set_option maxHeartbeats 4000000 in
set_option maxRecDepth 100000 in
theorem zf_Text_skipToEnd {G : zz_G} {l : Launch} {Z : zz_Z} {q : zz_S} {s : zz_S} (C : zz_Cx G l "OneBlanket$Text" "skipToEnd" prog_11_method_3_code 2 (none) 2 (none, zsh, q) Z) (a1 : Int32) (h : f_Text_skipToEnd a1 s = some q) : Z 0 [some (.ref 45), some (.int a1)] [] zsh s := by
  unfold f_Text_skipToEnd at h
  refine zz_iload_n (i := 1) (pc := 0) C rfl rfl d_Text_skipToEnd_0 ?_
  refine zz_if_lt (tgt := 26) (pc := 1) C (by decide) d_Text_skipToEnd_1 (fun hc1 => ?_) (fun hc1 => ?_)
  · rw [if_pos hc1] at h
    replace h := Option.some.inj h
    subst h
    exact zz_ret (pc := 26) C (v := none) d_Text_skipToEnd_26 (Or.inr (Or.inr (Or.inr ⟨rfl, rfl, rfl⟩))) rfl
  · rw [if_neg hc1] at h
    refine zz_iload_n (i := 1) (pc := 4) C rfl rfl d_Text_skipToEnd_4 ?_
    refine zz_aload_n (i := 0) (pc := 5) C rfl rfl d_Text_skipToEnd_5 ?_
    refine zz_getI (pc := 6) C zl_9_18 zsh_45 rfl d_Text_skipToEnd_6 ?_
    refine zz_icmp_ge (tgt := 26) (pc := 9) C (by decide) d_Text_skipToEnd_9 (fun hc2 => ?_) (fun hc2 => ?_)
    · rw [if_pos hc2] at h
      replace h := Option.some.inj h
      subst h
      exact zz_ret (pc := 26) C (v := none) d_Text_skipToEnd_26 (Or.inr (Or.inr (Or.inr ⟨rfl, rfl, rfl⟩))) rfl
    · rw [if_neg hc2] at h
      refine zz_aload_n (i := 0) (pc := 12) C rfl rfl d_Text_skipToEnd_12 ?_
      refine zz_getR (pc := 13) C zl_9_11 zsh_45 rfl d_Text_skipToEnd_13 ?_
      refine zz_iload_n (i := 1) (pc := 16) C rfl rfl d_Text_skipToEnd_16 ?_
      refine zz_sipush (pc := 17) C zks_10000 d_Text_skipToEnd_17 ?_
      refine zz_aload_n (i := 0) (pc := 20) C rfl rfl d_Text_skipToEnd_20 ?_
      refine zz_getI (pc := 21) C zl_9_18 zsh_45 rfl d_Text_skipToEnd_21 ?_
      refine zz_iadd (pc := 24) C d_Text_skipToEnd_24 ?_
      obtain ⟨hi3, h⟩ := zz_ckE h
      refine zz_iast (pc := 25) C rfl zsh_46 hi3 d_Text_skipToEnd_25 ?_
      replace h := Option.some.inj h
      subst h
      exact zz_ret (pc := 26) C (v := none) d_Text_skipToEnd_26 (Or.inr (Or.inr (Or.inr ⟨rfl, rfl, rfl⟩))) rfl
theorem zm_Text_skipToEnd {G : zz_G} {l : Launch} {s : zz_S} {q : zz_S} {a1 : Int32} (h : f_Text_skipToEnd a1 s = some q) : zz_M G l 2 y_Text_skipToEnd prog_11_method_3_code 2 (none) [.ref 45, .int a1] zsh s (none, zsh, q) :=
  zz_M.intro (by decide) (Nat.le_of_ble_eq_true rfl) (Nat.le_refl _) (Nat.le_refl _) (fun Z C => zf_Text_skipToEnd C a1 h)
theorem d_Tape_readLine_0 : decode prog_10_method_4_code 0 = .ok (.aload_n 0, 1) := by decide +kernel
theorem d_Tape_readLine_1 : decode prog_10_method_4_code 1 = .ok (.iconst 0, 1) := by decide +kernel
theorem d_Tape_readLine_2 : decode prog_10_method_4_code 2 = .ok (.iconst 0, 1) := by decide +kernel
theorem d_Tape_readLine_3 : decode prog_10_method_4_code 3 = .ok (.invokevirtual 45, 3) := by decide +kernel
theorem d_Tape_readLine_6 : decode prog_10_method_4_code 6 = .ok (.aload_n 0, 1) := by decide +kernel
theorem d_Tape_readLine_7 : decode prog_10_method_4_code 7 = .ok (.bipush (63), 2) := by decide +kernel
theorem d_Tape_readLine_9 : decode prog_10_method_4_code 9 = .ok (.invokevirtual 38, 3) := by decide +kernel
theorem d_Tape_readLine_12 : decode prog_10_method_4_code 12 = .ok (.ifCond .eq (47), 3) := by decide +kernel
theorem d_Tape_readLine_15 : decode prog_10_method_4_code 15 = .ok (.aload_n 0, 1) := by decide +kernel
theorem d_Tape_readLine_16 : decode prog_10_method_4_code 16 = .ok (.getfield 12, 3) := by decide +kernel
theorem d_Tape_readLine_19 : decode prog_10_method_4_code 19 = .ok (.getfield 32, 3) := by decide +kernel
theorem d_Tape_readLine_22 : decode prog_10_method_4_code 22 = .ok (.istore_n 1, 1) := by decide +kernel
theorem d_Tape_readLine_23 : decode prog_10_method_4_code 23 = .ok (.aload_n 0, 1) := by decide +kernel
theorem d_Tape_readLine_24 : decode prog_10_method_4_code 24 = .ok (.getfield 12, 3) := by decide +kernel
theorem d_Tape_readLine_27 : decode prog_10_method_4_code 27 = .ok (.sipush (10000), 3) := by decide +kernel
theorem d_Tape_readLine_30 : decode prog_10_method_4_code 30 = .ok (.invokevirtual 49, 3) := by decide +kernel
theorem d_Tape_readLine_33 : decode prog_10_method_4_code 33 = .ok (.aload_n 0, 1) := by decide +kernel
theorem d_Tape_readLine_34 : decode prog_10_method_4_code 34 = .ok (.iconst 0, 1) := by decide +kernel
theorem d_Tape_readLine_35 : decode prog_10_method_4_code 35 = .ok (.iconst 0, 1) := by decide +kernel
theorem d_Tape_readLine_36 : decode prog_10_method_4_code 36 = .ok (.invokevirtual 45, 3) := by decide +kernel
theorem d_Tape_readLine_39 : decode prog_10_method_4_code 39 = .ok (.aload_n 0, 1) := by decide +kernel
theorem d_Tape_readLine_40 : decode prog_10_method_4_code 40 = .ok (.getfield 12, 3) := by decide +kernel
theorem d_Tape_readLine_43 : decode prog_10_method_4_code 43 = .ok (.bipush (-59), 2) := by decide +kernel
theorem d_Tape_readLine_45 : decode prog_10_method_4_code 45 = .ok (.invokevirtual 49, 3) := by decide +kernel
theorem d_Tape_readLine_48 : decode prog_10_method_4_code 48 = .ok (.aload_n 0, 1) := by decide +kernel
theorem d_Tape_readLine_49 : decode prog_10_method_4_code 49 = .ok (.getfield 12, 3) := by decide +kernel
theorem d_Tape_readLine_52 : decode prog_10_method_4_code 52 = .ok (.iload_n 1, 1) := by decide +kernel
theorem d_Tape_readLine_53 : decode prog_10_method_4_code 53 = .ok (.invokevirtual 53, 3) := by decide +kernel
theorem d_Tape_readLine_56 : decode prog_10_method_4_code 56 = .ok (.goto (12), 3) := by decide +kernel
theorem d_Tape_readLine_59 : decode prog_10_method_4_code 59 = .ok (.aload_n 0, 1) := by decide +kernel
theorem d_Tape_readLine_60 : decode prog_10_method_4_code 60 = .ok (.getfield 12, 3) := by decide +kernel
theorem d_Tape_readLine_63 : decode prog_10_method_4_code 63 = .ok (.bipush (-59), 2) := by decide +kernel
theorem d_Tape_readLine_65 : decode prog_10_method_4_code 65 = .ok (.invokevirtual 49, 3) := by decide +kernel
theorem d_Tape_readLine_68 : decode prog_10_method_4_code 68 = .ok (.return_, 1) := by decide +kernel
set_option maxHeartbeats 4000000 in
set_option maxRecDepth 100000 in
theorem zf_Tape_readLine {G : zz_G} {l : Launch} {Z : zz_Z} {q : zz_S} {s : zz_S} (C : zz_Cx G l "OneBlanket$Tape" "readLine" prog_10_method_4_code 2 (none) 208 (none, zsh, q) Z) (h : f_Tape_readLine s = some q) : Z 0 [some (.ref 44), none] [] zsh s := by
  unfold f_Tape_readLine at h
  refine zz_aload_n (i := 0) (pc := 0) C rfl rfl d_Tape_readLine_0 ?_
  refine zz_iconst (pc := 1) C zki_0 d_Tape_readLine_1 ?_
  refine zz_iconst (pc := 2) C zki_0 d_Tape_readLine_2 ?_
  obtain ⟨q1, hq1, h⟩ := zz_bdE h
  refine zz_cVv (as := [.int (0 : Int32), .int (0 : Int32)]) (st := []) (pc := 3) C (zm_Tape_readLevel hq1) zcv_Tape_readLevel zsh_44 zl_8_45 (by omega) (Nat.le_of_ble_eq_true rfl) d_Tape_readLine_3 rfl rfl ?_
  refine zz_aload_n (i := 0) (pc := 6) C rfl rfl d_Tape_readLine_6 ?_
  refine zz_bipush (pc := 7) C zkb_63 d_Tape_readLine_7 ?_
  obtain ⟨q2, hq2, h⟩ := zz_bdE h
  refine zz_cVi (as := [.int (63 : Int32)]) (st := []) (pc := 9) C (zm_Tape_takes hq2) zcv_Tape_takes zsh_44 zl_8_38 (by omega) (Nat.le_of_ble_eq_true rfl) d_Tape_readLine_9 rfl rfl ?_
  refine zz_if_eq (tgt := 59) (pc := 12) C (by decide) d_Tape_readLine_12 (fun hc3 => ?_) (fun hc3 => ?_)
  · rw [if_pos hc3] at h
    refine zz_aload_n (i := 0) (pc := 59) C rfl rfl d_Tape_readLine_59 ?_
    refine zz_getR (pc := 60) C zl_8_12 zsh_44 rfl d_Tape_readLine_60 ?_
    refine zz_bipush (pc := 63) C zkb_m59 d_Tape_readLine_63 ?_
    obtain ⟨q4, hq4, h⟩ := zz_bdE h
    refine zz_cVv (as := [.int (-59 : Int32)]) (st := []) (pc := 65) C (zm_Text_add hq4) zcv_Text_add zsh_45 zl_8_49 (by omega) (Nat.le_of_ble_eq_true rfl) d_Tape_readLine_65 rfl rfl ?_
    replace h := Option.some.inj h
    subst h
    exact zz_ret (pc := 68) C (v := none) d_Tape_readLine_68 (Or.inr (Or.inr (Or.inr ⟨rfl, rfl, rfl⟩))) rfl
  · rw [if_neg hc3] at h
    refine zz_aload_n (i := 0) (pc := 15) C rfl rfl d_Tape_readLine_15 ?_
    refine zz_getR (pc := 16) C zl_8_12 zsh_44 rfl d_Tape_readLine_16 ?_
    refine zz_getI (pc := 19) C zl_8_32 zsh_45 rfl d_Tape_readLine_19 ?_
    refine zz_istore_n (i := 1) (lo' := [some (.ref 44), some (.int (q2.2.1 45 0))]) (pc := 22) C rfl (Nat.le_of_ble_eq_true rfl) rfl rfl d_Tape_readLine_22 ?_
    refine zz_aload_n (i := 0) (pc := 23) C rfl rfl d_Tape_readLine_23 ?_
    refine zz_getR (pc := 24) C zl_8_12 zsh_44 rfl d_Tape_readLine_24 ?_
    refine zz_sipush (pc := 27) C zks_10000 d_Tape_readLine_27 ?_
    obtain ⟨q5, hq5, h⟩ := zz_bdE h
    refine zz_cVv (as := [.int (10000 : Int32)]) (st := []) (pc := 30) C (zm_Text_add hq5) zcv_Text_add zsh_45 zl_8_49 (by omega) (Nat.le_of_ble_eq_true rfl) d_Tape_readLine_30 rfl rfl ?_
    refine zz_aload_n (i := 0) (pc := 33) C rfl rfl d_Tape_readLine_33 ?_
    refine zz_iconst (pc := 34) C zki_0 d_Tape_readLine_34 ?_
    refine zz_iconst (pc := 35) C zki_0 d_Tape_readLine_35 ?_
    obtain ⟨q6, hq6, h⟩ := zz_bdE h
    refine zz_cVv (as := [.int (0 : Int32), .int (0 : Int32)]) (st := []) (pc := 36) C (zm_Tape_readLevel hq6) zcv_Tape_readLevel zsh_44 zl_8_45 (by omega) (Nat.le_of_ble_eq_true rfl) d_Tape_readLine_36 rfl rfl ?_
    refine zz_aload_n (i := 0) (pc := 39) C rfl rfl d_Tape_readLine_39 ?_
    refine zz_getR (pc := 40) C zl_8_12 zsh_44 rfl d_Tape_readLine_40 ?_
    refine zz_bipush (pc := 43) C zkb_m59 d_Tape_readLine_43 ?_
    obtain ⟨q7, hq7, h⟩ := zz_bdE h
    refine zz_cVv (as := [.int (-59 : Int32)]) (st := []) (pc := 45) C (zm_Text_add hq7) zcv_Text_add zsh_45 zl_8_49 (by omega) (Nat.le_of_ble_eq_true rfl) d_Tape_readLine_45 rfl rfl ?_
    refine zz_aload_n (i := 0) (pc := 48) C rfl rfl d_Tape_readLine_48 ?_
    refine zz_getR (pc := 49) C zl_8_12 zsh_44 rfl d_Tape_readLine_49 ?_
    refine zz_iload_n (i := 1) (pc := 52) C rfl rfl d_Tape_readLine_52 ?_
    obtain ⟨q8, hq8, h⟩ := zz_bdE h
    refine zz_cVv (as := [.int (q2.2.1 45 0)]) (st := []) (pc := 53) C (zm_Text_skipToEnd hq8) zcv_Text_skipToEnd zsh_45 zl_8_53 (by omega) (Nat.le_of_ble_eq_true rfl) d_Tape_readLine_53 rfl rfl ?_
    refine zz_goto (tgt := 68) (pc := 56) C (by decide) d_Tape_readLine_56 ?_
    replace h := Option.some.inj h
    subst h
    exact zz_ret (pc := 68) C (v := none) d_Tape_readLine_68 (Or.inr (Or.inr (Or.inr ⟨rfl, rfl, rfl⟩))) rfl
theorem zm_Tape_readLine {G : zz_G} {l : Launch} {s : zz_S} {q : zz_S} (h : f_Tape_readLine s = some q) : zz_M G l 208 y_Tape_readLine prog_10_method_4_code 2 (none) [.ref 44] zsh s (none, zsh, q) :=
  zz_M.intro (by decide) (Nat.le_of_ble_eq_true rfl) (Nat.le_refl _) (Nat.le_refl _) (fun Z C => zf_Tape_readLine C h)
theorem d_Tape_readAll_0 : decode prog_10_method_3_code 0 = .ok (.aload_n 0, 1) := by decide +kernel
theorem d_Tape_readAll_1 : decode prog_10_method_3_code 1 = .ok (.iconst 0, 1) := by decide +kernel
theorem d_Tape_readAll_2 : decode prog_10_method_3_code 2 = .ok (.putfield 26, 3) := by decide +kernel
theorem d_Tape_readAll_5 : decode prog_10_method_3_code 5 = .ok (.aload_n 0, 1) := by decide +kernel
theorem d_Tape_readAll_6 : decode prog_10_method_3_code 6 = .ok (.iconst (-1), 1) := by decide +kernel
theorem d_Tape_readAll_7 : decode prog_10_method_3_code 7 = .ok (.putfield 29, 3) := by decide +kernel
theorem d_Tape_readAll_10 : decode prog_10_method_3_code 10 = .ok (.aload_n 0, 1) := by decide +kernel
theorem d_Tape_readAll_11 : decode prog_10_method_3_code 11 = .ok (.getfield 12, 3) := by decide +kernel
theorem d_Tape_readAll_14 : decode prog_10_method_3_code 14 = .ok (.iconst 0, 1) := by decide +kernel
theorem d_Tape_readAll_15 : decode prog_10_method_3_code 15 = .ok (.putfield 32, 3) := by decide +kernel
theorem d_Tape_readAll_18 : decode prog_10_method_3_code 18 = .ok (.aload_n 0, 1) := by decide +kernel
theorem d_Tape_readAll_19 : decode prog_10_method_3_code 19 = .ok (.invokevirtual 35, 3) := by decide +kernel
theorem d_Tape_readAll_22 : decode prog_10_method_3_code 22 = .ok (.iconst 0, 1) := by decide +kernel
theorem d_Tape_readAll_23 : decode prog_10_method_3_code 23 = .ok (.istore_n 1, 1) := by decide +kernel
theorem d_Tape_readAll_24 : decode prog_10_method_3_code 24 = .ok (.iload_n 1, 1) := by decide +kernel
theorem d_Tape_readAll_25 : decode prog_10_method_3_code 25 = .ok (.bipush (120), 2) := by decide +kernel
theorem d_Tape_readAll_27 : decode prog_10_method_3_code 27 = .ok (.if_icmp .ge (22), 3) := by decide +kernel
theorem d_Tape_readAll_30 : decode prog_10_method_3_code 30 = .ok (.aload_n 0, 1) := by decide +kernel
theorem d_Tape_readAll_31 : decode prog_10_method_3_code 31 = .ok (.bipush (59), 2) := by decide +kernel
theorem d_Tape_readAll_33 : decode prog_10_method_3_code 33 = .ok (.invokevirtual 38, 3) := by decide +kernel
theorem d_Tape_readAll_36 : decode prog_10_method_3_code 36 = .ok (.ifCond .eq (13), 3) := by decide +kernel
theorem d_Tape_readAll_39 : decode prog_10_method_3_code 39 = .ok (.aload_n 0, 1) := by decide +kernel
theorem d_Tape_readAll_40 : decode prog_10_method_3_code 40 = .ok (.invokevirtual 35, 3) := by decide +kernel
theorem d_Tape_readAll_43 : decode prog_10_method_3_code 43 = .ok (.iinc 1 (1), 3) := by decide +kernel
theorem d_Tape_readAll_46 : decode prog_10_method_3_code 46 = .ok (.goto (-22), 3) := by decide +kernel
theorem d_Tape_readAll_49 : decode prog_10_method_3_code 49 = .ok (.aload_n 0, 1) := by decide +kernel
theorem d_Tape_readAll_50 : decode prog_10_method_3_code 50 = .ok (.getfield 26, 3) := by decide +kernel
theorem d_Tape_readAll_53 : decode prog_10_method_3_code 53 = .ok (.aload_n 0, 1) := by decide +kernel
theorem d_Tape_readAll_54 : decode prog_10_method_3_code 54 = .ok (.getfield 22, 3) := by decide +kernel
theorem d_Tape_readAll_57 : decode prog_10_method_3_code 57 = .ok (.if_icmp .ge (7), 3) := by decide +kernel
theorem d_Tape_readAll_60 : decode prog_10_method_3_code 60 = .ok (.aload_n 0, 1) := by decide +kernel
theorem d_Tape_readAll_61 : decode prog_10_method_3_code 61 = .ok (.invokevirtual 42, 3) := by decide +kernel
theorem d_Tape_readAll_64 : decode prog_10_method_3_code 64 = .ok (.aload_n 0, 1) := by decide +kernel
theorem d_Tape_readAll_65 : decode prog_10_method_3_code 65 = .ok (.iconst 0, 1) := by decide +kernel
theorem d_Tape_readAll_66 : decode prog_10_method_3_code 66 = .ok (.putfield 22, 3) := by decide +kernel
theorem d_Tape_readAll_69 : decode prog_10_method_3_code 69 = .ok (.aload_n 0, 1) := by decide +kernel
theorem d_Tape_readAll_70 : decode prog_10_method_3_code 70 = .ok (.getfield 29, 3) := by decide +kernel
theorem d_Tape_readAll_73 : decode prog_10_method_3_code 73 = .ok (.ireturn, 1) := by decide +kernel
set_option maxHeartbeats 4000000 in
set_option maxRecDepth 100000 in
theorem zf_Tape_readAll_J64 {G : zz_G} {l : Launch} {Z : zz_Z} {q : Int32 × zz_S} {s : zz_S} (C : zz_Cx G l "OneBlanket$Tape" "readAll" prog_10_method_3_code 2 (some .int) 209 (some (.int q.1), zsh, q.2) Z) (h : f_Tape_readAll_J64 s = some q) : Z 64 [some (.ref 44), none] [] zsh s := by
  unfold f_Tape_readAll_J64 at h
  refine zz_aload_n (i := 0) (pc := 64) C rfl rfl d_Tape_readAll_64 ?_
  refine zz_iconst (pc := 65) C zki_0 d_Tape_readAll_65 ?_
  refine zz_putI' (pc := 66) C zl_8_22 zpf_8_0 zsh_44 rfl d_Tape_readAll_66 ?_
  refine zz_aload_n (i := 0) (pc := 69) C rfl rfl d_Tape_readAll_69 ?_
  refine zz_getIv (v := (s.1 44 4)) (pc := 70) C zl_8_29 zsh_44 rfl rfl d_Tape_readAll_70 ?_
  replace h := Option.some.inj h
  subst h
  exact zz_ret (pc := 73) C (v := some (.int (s.1 44 4))) d_Tape_readAll_73 (Or.inl ⟨_, _, rfl, rfl, rfl, rfl⟩) rfl
set_option maxHeartbeats 4000000 in
set_option maxRecDepth 100000 in
theorem zf_Tape_readAll_J49 {G : zz_G} {l : Launch} {Z : zz_Z} {q : Int32 × zz_S} {s : zz_S} (C : zz_Cx G l "OneBlanket$Tape" "readAll" prog_10_method_3_code 2 (some .int) 209 (some (.int q.1), zsh, q.2) Z) (h : f_Tape_readAll_J49 s = some q) : Z 49 [some (.ref 44), none] [] zsh s := by
  unfold f_Tape_readAll_J49 at h
  refine zz_aload_n (i := 0) (pc := 49) C rfl rfl d_Tape_readAll_49 ?_
  refine zz_getI (pc := 50) C zl_8_26 zsh_44 rfl d_Tape_readAll_50 ?_
  refine zz_aload_n (i := 0) (pc := 53) C rfl rfl d_Tape_readAll_53 ?_
  refine zz_getI (pc := 54) C zl_8_22 zsh_44 rfl d_Tape_readAll_54 ?_
  refine zz_icmp_ge (tgt := 64) (pc := 57) C (by decide) d_Tape_readAll_57 (fun hc3 => ?_) (fun hc3 => ?_)
  · rw [if_pos hc3] at h
    exact zf_Tape_readAll_J64 C h
  · rw [if_neg hc3] at h
    refine zz_aload_n (i := 0) (pc := 60) C rfl rfl d_Tape_readAll_60 ?_
    refine zz_cVv (as := []) (st := []) (pc := 61) C (zm_Tape_fail rfl) zcv_Tape_fail zsh_44 zl_8_42 (by omega) (Nat.le_of_ble_eq_true rfl) d_Tape_readAll_61 rfl rfl ?_
    exact zf_Tape_readAll_J64 C h
set_option maxHeartbeats 4000000 in
set_option maxRecDepth 100000 in
theorem zf_Tape_readAll_L24 {G : zz_G} {l : Launch} {Z : zz_Z} {q : Int32 × zz_S} (C : zz_Cx G l "OneBlanket$Tape" "readAll" prog_10_method_3_code 2 (some .int) 209 (some (.int q.1), zsh, q.2) Z) : ∀ (n : Nat) (v1 : Int32) (s : zz_S), f_Tape_readAll_L24 n v1 s = some q → Z 24 [some (.ref 44), some (.int v1)] [] zsh s := by
  intro n
  induction n with
  | zero => intro v1 s h; rw [f_Tape_readAll_L24] at h; cases h
  | succ n ih =>
  intro v1 s h
  rw [f_Tape_readAll_L24] at h
  refine zz_iload_n (i := 1) (pc := 24) C rfl rfl d_Tape_readAll_24 ?_
  refine zz_bipush (pc := 25) C zkb_120 d_Tape_readAll_25 ?_
  refine zz_icmp_ge (tgt := 49) (pc := 27) C (by decide) d_Tape_readAll_27 (fun hc2 => ?_) (fun hc2 => ?_)
  · rw [if_pos hc2] at h
    refine zz_fg C [true, false] rfl rfl ?_
    exact zf_Tape_readAll_J49 C h
  · rw [if_neg hc2] at h
    refine zz_aload_n (i := 0) (pc := 30) C rfl rfl d_Tape_readAll_30 ?_
    refine zz_bipush (pc := 31) C zkb_59 d_Tape_readAll_31 ?_
    obtain ⟨q4, hq4, h⟩ := zz_bdE h
    refine zz_cVi (as := [.int (59 : Int32)]) (st := []) (pc := 33) C (zm_Tape_takes hq4) zcv_Tape_takes zsh_44 zl_8_38 (by omega) (Nat.le_of_ble_eq_true rfl) d_Tape_readAll_33 rfl rfl ?_
    refine zz_if_eq (tgt := 49) (pc := 36) C (by decide) d_Tape_readAll_36 (fun hc5 => ?_) (fun hc5 => ?_)
    · rw [if_pos hc5] at h
      refine zz_fg C [true, false] rfl rfl ?_
      exact zf_Tape_readAll_J49 C h
    · rw [if_neg hc5] at h
      refine zz_aload_n (i := 0) (pc := 39) C rfl rfl d_Tape_readAll_39 ?_
      obtain ⟨q6, hq6, h⟩ := zz_bdE h
      refine zz_cVv (as := []) (st := []) (pc := 40) C (zm_Tape_readLine hq6) zcv_Tape_readLine zsh_44 zl_8_35 (by omega) (Nat.le_of_ble_eq_true rfl) d_Tape_readAll_40 rfl rfl ?_
      refine zz_iinc (lo' := [some (.ref 44), some (.int (v1 + (1 : Int32)))]) (pc := 43) C rfl (zz_inc zki_1) rfl rfl d_Tape_readAll_43 ?_
      refine zz_goto (tgt := 24) (pc := 46) C (by decide) d_Tape_readAll_46 ?_
      exact ih (v1 + (1 : Int32)) q6 h
set_option maxHeartbeats 4000000 in
set_option maxRecDepth 100000 in
theorem zf_Tape_readAll {G : zz_G} {l : Launch} {Z : zz_Z} {q : Int32 × zz_S} {s : zz_S} (C : zz_Cx G l "OneBlanket$Tape" "readAll" prog_10_method_3_code 2 (some .int) 209 (some (.int q.1), zsh, q.2) Z) (h : f_Tape_readAll s = some q) : Z 0 [some (.ref 44), none] [] zsh s := by
  unfold f_Tape_readAll at h
  refine zz_aload_n (i := 0) (pc := 0) C rfl rfl d_Tape_readAll_0 ?_
  refine zz_iconst (pc := 1) C zki_0 d_Tape_readAll_1 ?_
  refine zz_putI' (pc := 2) C zl_8_26 zpf_8_3 zsh_44 rfl d_Tape_readAll_2 ?_
  refine zz_aload_n (i := 0) (pc := 5) C rfl rfl d_Tape_readAll_5 ?_
  refine zz_iconst (pc := 6) C zki_m1 d_Tape_readAll_6 ?_
  refine zz_putI' (pc := 7) C zl_8_29 zpf_8_4 zsh_44 rfl d_Tape_readAll_7 ?_
  refine zz_aload_n (i := 0) (pc := 10) C rfl rfl d_Tape_readAll_10 ?_
  refine zz_getR (pc := 11) C zl_8_12 zsh_44 rfl d_Tape_readAll_11 ?_
  refine zz_iconst (pc := 14) C zki_0 d_Tape_readAll_14 ?_
  refine zz_putI' (pc := 15) C zl_8_32 zpf_9_0 zsh_45 rfl d_Tape_readAll_15 ?_
  refine zz_aload_n (i := 0) (pc := 18) C rfl rfl d_Tape_readAll_18 ?_
  obtain ⟨q1, hq1, h⟩ := zz_bdE h
  refine zz_cVv (as := []) (st := []) (pc := 19) C (zm_Tape_readLine hq1) zcv_Tape_readLine zsh_44 zl_8_35 (by omega) (Nat.le_of_ble_eq_true rfl) d_Tape_readAll_19 rfl rfl ?_
  refine zz_iconst (pc := 22) C zki_0 d_Tape_readAll_22 ?_
  refine zz_istore_n (i := 1) (lo' := [some (.ref 44), some (.int (0 : Int32))]) (pc := 23) C rfl (Nat.le_of_ble_eq_true rfl) rfl rfl d_Tape_readAll_23 ?_
  exact zf_Tape_readAll_L24 C zF (0 : Int32) q1 h
theorem zm_Tape_readAll {G : zz_G} {l : Launch} {s : zz_S} {q : Int32 × zz_S} (h : f_Tape_readAll s = some q) : zz_M G l 209 y_Tape_readAll prog_10_method_3_code 2 (some .int) [.ref 44] zsh s (some (.int q.1), zsh, q.2) :=
  zz_M.intro (by decide) (Nat.le_of_ble_eq_true rfl) (Nat.le_refl _) (Nat.le_refl _) (fun Z C => zf_Tape_readAll C h)
theorem d_Text_become_0 : decode prog_11_method_4_code 0 = .ok (.aload_n 1, 1) := by decide +kernel
theorem d_Text_become_1 : decode prog_11_method_4_code 1 = .ok (.getfield 11, 3) := by decide +kernel
theorem d_Text_become_4 : decode prog_11_method_4_code 4 = .ok (.iconst 0, 1) := by decide +kernel
theorem d_Text_become_5 : decode prog_11_method_4_code 5 = .ok (.aload_n 0, 1) := by decide +kernel
theorem d_Text_become_6 : decode prog_11_method_4_code 6 = .ok (.getfield 11, 3) := by decide +kernel
theorem d_Text_become_9 : decode prog_11_method_4_code 9 = .ok (.iconst 0, 1) := by decide +kernel
theorem d_Text_become_10 : decode prog_11_method_4_code 10 = .ok (.bipush (121), 2) := by decide +kernel
theorem d_Text_become_12 : decode prog_11_method_4_code 12 = .ok (.invokestatic 22, 3) := by decide +kernel
theorem d_Text_become_15 : decode prog_11_method_4_code 15 = .ok (.aload_n 0, 1) := by decide +kernel
theorem d_Text_become_16 : decode prog_11_method_4_code 16 = .ok (.aload_n 1, 1) := by decide +kernel
theorem d_Text_become_17 : decode prog_11_method_4_code 17 = .ok (.getfield 18, 3) := by decide +kernel
theorem d_Text_become_20 : decode prog_11_method_4_code 20 = .ok (.putfield 18, 3) := by decide +kernel
theorem d_Text_become_23 : decode prog_11_method_4_code 23 = .ok (.return_, 1) := by decide +kernel
set_option maxHeartbeats 4000000 in
set_option maxRecDepth 100000 in
theorem zf_Text_become {G : zz_G} {l : Launch} {Z : zz_Z} (hex : G.2.2.2.2 = false) {q : zz_S} {s : zz_S} (C : zz_Cx G l "OneBlanket$Text" "become" prog_11_method_4_code 2 (none) 3 (none, zsh, q) Z) (a0 : Nat) (ha0 : a0 ∈ zS6) (h : f_Text_become a0 s = some q) : Z 0 [some (.ref a0), some (.ref 45)] [] zsh s := by
  unfold f_Text_become at h
  refine zz_aload_n (i := 1) (pc := 0) C rfl rfl d_Text_become_0 ?_
  refine zz_getR (pc := 1) C zl_9_11 zsh_45 rfl d_Text_become_1 ?_
  refine zz_iconst (pc := 4) C zki_0 d_Text_become_4 ?_
  refine zz_aload_n (i := 0) (pc := 5) C rfl rfl d_Text_become_5 ?_
  refine zz_getR (pc := 6) C zl_9_11 (zS6_sh ha0) rfl d_Text_become_6 ?_
  refine zz_iconst (pc := 9) C zki_0 d_Text_become_9 ?_
  refine zz_bipush (pc := 10) C zkb_121 d_Text_become_10 ?_
  refine zz_copyi (st := []) (pc := 12) C hex zsh_46 (zS9_sh (zder_S6_1 ha0)) (by decide) (by decide) (by decide) (by decide) (by decide) zl_9_22 zl_acN zl_acS zl_acI (by omega) (Nat.le_of_ble_eq_true rfl) d_Text_become_12 ?_
  refine zz_aload_n (i := 0) (pc := 15) C rfl rfl d_Text_become_15 ?_
  refine zz_aload_n (i := 1) (pc := 16) C rfl rfl d_Text_become_16 ?_
  refine zz_getI (pc := 17) C zl_9_18 zsh_45 rfl d_Text_become_17 ?_
  refine zz_putI' (pc := 20) C zl_9_18 zpf_9_0 (zS6_sh ha0) rfl d_Text_become_20 ?_
  replace h := Option.some.inj h
  subst h
  exact zz_ret (pc := 23) C (v := none) d_Text_become_23 (Or.inr (Or.inr (Or.inr ⟨rfl, rfl, rfl⟩))) rfl
theorem zm_Text_become {G : zz_G} {l : Launch} {s : zz_S} {q : zz_S} {a0 : Nat} (hex : G.2.2.2.2 = false) (ha0 : a0 ∈ zS6) (h : f_Text_become a0 s = some q) : zz_M G l 3 y_Text_become prog_11_method_4_code 2 (none) [.ref a0, .ref 45] zsh s (none, zsh, q) :=
  zz_M.intro (by decide) (Nat.le_of_ble_eq_true rfl) (Nat.le_refl _) (Nat.le_refl _) (fun Z C => zf_Text_become hex C a0 ha0 h)
theorem d_Turns_add_0 : decode prog_12_method_4_code 0 = .ok (.aload_n 0, 1) := by decide +kernel
theorem d_Turns_add_1 : decode prog_12_method_4_code 1 = .ok (.getfield 9, 3) := by decide +kernel
theorem d_Turns_add_4 : decode prog_12_method_4_code 4 = .ok (.aload_n 0, 1) := by decide +kernel
theorem d_Turns_add_5 : decode prog_12_method_4_code 5 = .ok (.getfield 28, 3) := by decide +kernel
theorem d_Turns_add_8 : decode prog_12_method_4_code 8 = .ok (.iload_n 1, 1) := by decide +kernel
theorem d_Turns_add_9 : decode prog_12_method_4_code 9 = .ok (.iastore, 1) := by decide +kernel
theorem d_Turns_add_10 : decode prog_12_method_4_code 10 = .ok (.aload_n 0, 1) := by decide +kernel
theorem d_Turns_add_11 : decode prog_12_method_4_code 11 = .ok (.getfield 15, 3) := by decide +kernel
theorem d_Turns_add_14 : decode prog_12_method_4_code 14 = .ok (.aload_n 0, 1) := by decide +kernel
theorem d_Turns_add_15 : decode prog_12_method_4_code 15 = .ok (.getfield 28, 3) := by decide +kernel
theorem d_Turns_add_18 : decode prog_12_method_4_code 18 = .ok (.iload_n 2, 1) := by decide +kernel
theorem d_Turns_add_19 : decode prog_12_method_4_code 19 = .ok (.iastore, 1) := by decide +kernel
theorem d_Turns_add_20 : decode prog_12_method_4_code 20 = .ok (.aload_n 0, 1) := by decide +kernel
theorem d_Turns_add_21 : decode prog_12_method_4_code 21 = .ok (.getfield 18, 3) := by decide +kernel
theorem d_Turns_add_24 : decode prog_12_method_4_code 24 = .ok (.aload_n 0, 1) := by decide +kernel
theorem d_Turns_add_25 : decode prog_12_method_4_code 25 = .ok (.getfield 28, 3) := by decide +kernel
theorem d_Turns_add_28 : decode prog_12_method_4_code 28 = .ok (.iload_n 3, 1) := by decide +kernel
theorem d_Turns_add_29 : decode prog_12_method_4_code 29 = .ok (.iastore, 1) := by decide +kernel
theorem d_Turns_add_30 : decode prog_12_method_4_code 30 = .ok (.aload_n 0, 1) := by decide +kernel
theorem d_Turns_add_31 : decode prog_12_method_4_code 31 = .ok (.getfield 28, 3) := by decide +kernel
theorem d_Turns_add_34 : decode prog_12_method_4_code 34 = .ok (.istore 4, 2) := by decide +kernel
theorem d_Turns_add_36 : decode prog_12_method_4_code 36 = .ok (.iload 4, 2) := by decide +kernel
theorem d_Turns_add_38 : decode prog_12_method_4_code 38 = .ok (.ifCond .le (43), 3) := by decide +kernel
theorem d_Turns_add_41 : decode prog_12_method_4_code 41 = .ok (.aload_n 0, 1) := by decide +kernel
theorem d_Turns_add_42 : decode prog_12_method_4_code 42 = .ok (.getfield 9, 3) := by decide +kernel
theorem d_Turns_add_45 : decode prog_12_method_4_code 45 = .ok (.aload_n 0, 1) := by decide +kernel
theorem d_Turns_add_46 : decode prog_12_method_4_code 46 = .ok (.getfield 21, 3) := by decide +kernel
theorem d_Turns_add_49 : decode prog_12_method_4_code 49 = .ok (.iload 4, 2) := by decide +kernel
theorem d_Turns_add_51 : decode prog_12_method_4_code 51 = .ok (.iconst 1, 1) := by decide +kernel
theorem d_Turns_add_52 : decode prog_12_method_4_code 52 = .ok (.isub, 1) := by decide +kernel
theorem d_Turns_add_53 : decode prog_12_method_4_code 53 = .ok (.iaload, 1) := by decide +kernel
theorem d_Turns_add_54 : decode prog_12_method_4_code 54 = .ok (.iaload, 1) := by decide +kernel
theorem d_Turns_add_55 : decode prog_12_method_4_code 55 = .ok (.iload_n 1, 1) := by decide +kernel
theorem d_Turns_add_56 : decode prog_12_method_4_code 56 = .ok (.if_icmp .le (25), 3) := by decide +kernel
theorem d_Turns_add_59 : decode prog_12_method_4_code 59 = .ok (.aload_n 0, 1) := by decide +kernel
theorem d_Turns_add_60 : decode prog_12_method_4_code 60 = .ok (.getfield 21, 3) := by decide +kernel
theorem d_Turns_add_63 : decode prog_12_method_4_code 63 = .ok (.iload 4, 2) := by decide +kernel
theorem d_Turns_add_65 : decode prog_12_method_4_code 65 = .ok (.aload_n 0, 1) := by decide +kernel
theorem d_Turns_add_66 : decode prog_12_method_4_code 66 = .ok (.getfield 21, 3) := by decide +kernel
theorem d_Turns_add_69 : decode prog_12_method_4_code 69 = .ok (.iload 4, 2) := by decide +kernel
theorem d_Turns_add_71 : decode prog_12_method_4_code 71 = .ok (.iconst 1, 1) := by decide +kernel
theorem d_Turns_add_72 : decode prog_12_method_4_code 72 = .ok (.isub, 1) := by decide +kernel
theorem d_Turns_add_73 : decode prog_12_method_4_code 73 = .ok (.iaload, 1) := by decide +kernel
theorem d_Turns_add_74 : decode prog_12_method_4_code 74 = .ok (.iastore, 1) := by decide +kernel
theorem d_Turns_add_75 : decode prog_12_method_4_code 75 = .ok (.iinc 4 (-1), 3) := by decide +kernel
theorem d_Turns_add_78 : decode prog_12_method_4_code 78 = .ok (.goto (-42), 3) := by decide +kernel
theorem d_Turns_add_81 : decode prog_12_method_4_code 81 = .ok (.aload_n 0, 1) := by decide +kernel
theorem d_Turns_add_82 : decode prog_12_method_4_code 82 = .ok (.getfield 21, 3) := by decide +kernel
theorem d_Turns_add_85 : decode prog_12_method_4_code 85 = .ok (.iload 4, 2) := by decide +kernel
theorem d_Turns_add_87 : decode prog_12_method_4_code 87 = .ok (.aload_n 0, 1) := by decide +kernel
theorem d_Turns_add_88 : decode prog_12_method_4_code 88 = .ok (.getfield 28, 3) := by decide +kernel
theorem d_Turns_add_91 : decode prog_12_method_4_code 91 = .ok (.iastore, 1) := by decide +kernel
theorem d_Turns_add_92 : decode prog_12_method_4_code 92 = .ok (.aload_n 0, 1) := by decide +kernel
theorem d_Turns_add_93 : decode prog_12_method_4_code 93 = .ok (.dup, 1) := by decide +kernel
theorem d_Turns_add_94 : decode prog_12_method_4_code 94 = .ok (.getfield 28, 3) := by decide +kernel
theorem d_Turns_add_97 : decode prog_12_method_4_code 97 = .ok (.iconst 1, 1) := by decide +kernel
theorem d_Turns_add_98 : decode prog_12_method_4_code 98 = .ok (.iadd, 1) := by decide +kernel
theorem d_Turns_add_99 : decode prog_12_method_4_code 99 = .ok (.putfield 28, 3) := by decide +kernel
theorem d_Turns_add_102 : decode prog_12_method_4_code 102 = .ok (.aload_n 0, 1) := by decide +kernel
theorem d_Turns_add_103 : decode prog_12_method_4_code 103 = .ok (.getfield 28, 3) := by decide +kernel
theorem d_Turns_add_106 : decode prog_12_method_4_code 106 = .ok (.iconst 1, 1) := by decide +kernel
theorem d_Turns_add_107 : decode prog_12_method_4_code 107 = .ok (.isub, 1) := by decide +kernel
theorem d_Turns_add_108 : decode prog_12_method_4_code 108 = .ok (.ireturn, 1) := by decide +kernel
set_option maxHeartbeats 4000000 in
set_option maxRecDepth 100000 in
theorem zf_Turns_add_J81 {G : zz_G} {l : Launch} {Z : zz_Z} {q : Int32 × zz_S} {s : zz_S} (C : zz_Cx G l "OneBlanket$Turns" "add" prog_12_method_4_code 5 (some .int) 2 (some (.int q.1), zsh, q.2) Z) (v4 : Int32) (h : f_Turns_add_J81 v4 s = some q) : Z 81 [some (.ref 10), none, none, none, some (.int v4)] [] zsh s := by
  unfold f_Turns_add_J81 at h
  refine zz_aload_n (i := 0) (pc := 81) C rfl rfl d_Turns_add_81 ?_
  refine zz_getR (pc := 82) C zl_10_21 zsh_10 rfl d_Turns_add_82 ?_
  refine zz_iload (i := 4) (pc := 85) C rfl d_Turns_add_85 ?_
  refine zz_aload_n (i := 0) (pc := 87) C rfl rfl d_Turns_add_87 ?_
  refine zz_getI (pc := 88) C zl_10_28 zsh_10 rfl d_Turns_add_88 ?_
  obtain ⟨hi3, h⟩ := zz_ckE h
  refine zz_iast (pc := 91) C rfl zsh_14 hi3 d_Turns_add_91 ?_
  refine zz_aload_n (i := 0) (pc := 92) C rfl rfl d_Turns_add_92 ?_
  refine zz_dup (pc := 93) C rfl d_Turns_add_93 ?_
  refine zz_getIv (v := (s.1 10 0)) (pc := 94) C zl_10_28 zsh_10 rfl rfl d_Turns_add_94 ?_
  refine zz_iconst (pc := 97) C zki_1 d_Turns_add_97 ?_
  refine zz_iadd (pc := 98) C d_Turns_add_98 ?_
  refine zz_putI' (pc := 99) C zl_10_28 zpf_10_0 zsh_10 rfl d_Turns_add_99 ?_
  refine zz_aload_n (i := 0) (pc := 102) C rfl rfl d_Turns_add_102 ?_
  refine zz_getIv (v := ((s.1 10 0) + (1 : Int32))) (pc := 103) C zl_10_28 zsh_10 rfl rfl d_Turns_add_103 ?_
  refine zz_iconst (pc := 106) C zki_1 d_Turns_add_106 ?_
  refine zz_isub (pc := 107) C d_Turns_add_107 ?_
  replace h := Option.some.inj h
  subst h
  exact zz_ret (pc := 108) C (v := some (.int (((s.1 10 0) + (1 : Int32)) - (1 : Int32)))) d_Turns_add_108 (Or.inl ⟨_, _, rfl, rfl, rfl, rfl⟩) rfl
set_option maxHeartbeats 4000000 in
set_option maxRecDepth 100000 in
theorem zf_Turns_add_L36 {G : zz_G} {l : Launch} {Z : zz_Z} {q : Int32 × zz_S} (C : zz_Cx G l "OneBlanket$Turns" "add" prog_12_method_4_code 5 (some .int) 2 (some (.int q.1), zsh, q.2) Z) : ∀ (n : Nat) (v1 : Int32) (v4 : Int32) (s : zz_S), f_Turns_add_L36 n v1 v4 s = some q → Z 36 [some (.ref 10), some (.int v1), none, none, some (.int v4)] [] zsh s := by
  intro n
  induction n with
  | zero => intro v1 v4 s h; rw [f_Turns_add_L36] at h; cases h
  | succ n ih =>
  intro v1 v4 s h
  rw [f_Turns_add_L36] at h
  refine zz_iload (i := 4) (pc := 36) C rfl d_Turns_add_36 ?_
  refine zz_if_le (tgt := 81) (pc := 38) C (by decide) d_Turns_add_38 (fun hc2 => ?_) (fun hc2 => ?_)
  · rw [if_pos hc2] at h
    refine zz_fg C [true, false, false, false, true] rfl rfl ?_
    exact zf_Turns_add_J81 C v4 h
  · rw [if_neg hc2] at h
    refine zz_aload_n (i := 0) (pc := 41) C rfl rfl d_Turns_add_41 ?_
    refine zz_getR (pc := 42) C zl_10_9 zsh_10 rfl d_Turns_add_42 ?_
    refine zz_aload_n (i := 0) (pc := 45) C rfl rfl d_Turns_add_45 ?_
    refine zz_getR (pc := 46) C zl_10_21 zsh_10 rfl d_Turns_add_46 ?_
    refine zz_iload (i := 4) (pc := 49) C rfl d_Turns_add_49 ?_
    refine zz_iconst (pc := 51) C zki_1 d_Turns_add_51 ?_
    refine zz_isub (pc := 52) C d_Turns_add_52 ?_
    obtain ⟨hi4, h⟩ := zz_ckE h
    refine zz_iald (pc := 53) C rfl zsh_14 hi4 d_Turns_add_53 ?_
    obtain ⟨hi5, h⟩ := zz_ckE h
    refine zz_iald (pc := 54) C rfl zsh_11 hi5 d_Turns_add_54 ?_
    refine zz_iload_n (i := 1) (pc := 55) C rfl rfl d_Turns_add_55 ?_
    refine zz_icmp_le (tgt := 81) (pc := 56) C (by decide) d_Turns_add_56 (fun hc6 => ?_) (fun hc6 => ?_)
    · rw [if_pos hc6] at h
      refine zz_fg C [true, false, false, false, true] rfl rfl ?_
      exact zf_Turns_add_J81 C v4 h
    · rw [if_neg hc6] at h
      refine zz_aload_n (i := 0) (pc := 59) C rfl rfl d_Turns_add_59 ?_
      refine zz_getR (pc := 60) C zl_10_21 zsh_10 rfl d_Turns_add_60 ?_
      refine zz_iload (i := 4) (pc := 63) C rfl d_Turns_add_63 ?_
      refine zz_aload_n (i := 0) (pc := 65) C rfl rfl d_Turns_add_65 ?_
      refine zz_getR (pc := 66) C zl_10_21 zsh_10 rfl d_Turns_add_66 ?_
      refine zz_iload (i := 4) (pc := 69) C rfl d_Turns_add_69 ?_
      refine zz_iconst (pc := 71) C zki_1 d_Turns_add_71 ?_
      refine zz_isub (pc := 72) C d_Turns_add_72 ?_
      refine zz_iald (pc := 73) C rfl zsh_14 hi4 d_Turns_add_73 ?_
      obtain ⟨hi7, h⟩ := zz_ckE h
      refine zz_iast (pc := 74) C rfl zsh_14 hi7 d_Turns_add_74 ?_
      refine zz_iinc (lo' := [some (.ref 10), some (.int v1), none, none, some (.int (v4 + (-1 : Int32)))]) (pc := 75) C rfl (zz_inc zki_m1) rfl rfl d_Turns_add_75 ?_
      refine zz_goto (tgt := 36) (pc := 78) C (by decide) d_Turns_add_78 ?_
      exact ih v1 (v4 + (-1 : Int32)) (zz_w s 14 (v4.toNatClampNeg) (s.1 14 ((v4 - (1 : Int32)).toNatClampNeg))) h
set_option maxHeartbeats 4000000 in
set_option maxRecDepth 100000 in
theorem zf_Turns_add {G : zz_G} {l : Launch} {Z : zz_Z} {q : Int32 × zz_S} {s : zz_S} (C : zz_Cx G l "OneBlanket$Turns" "add" prog_12_method_4_code 5 (some .int) 2 (some (.int q.1), zsh, q.2) Z) (a1 : Int32) (a2 : Int32) (a3 : Int32) (h : f_Turns_add a1 a2 a3 s = some q) : Z 0 [some (.ref 10), some (.int a1), some (.int a2), some (.int a3), none] [] zsh s := by
  unfold f_Turns_add at h
  refine zz_aload_n (i := 0) (pc := 0) C rfl rfl d_Turns_add_0 ?_
  refine zz_getR (pc := 1) C zl_10_9 zsh_10 rfl d_Turns_add_1 ?_
  refine zz_aload_n (i := 0) (pc := 4) C rfl rfl d_Turns_add_4 ?_
  refine zz_getI (pc := 5) C zl_10_28 zsh_10 rfl d_Turns_add_5 ?_
  refine zz_iload_n (i := 1) (pc := 8) C rfl rfl d_Turns_add_8 ?_
  obtain ⟨hi1, h⟩ := zz_ckE h
  refine zz_iast (pc := 9) C rfl zsh_11 hi1 d_Turns_add_9 ?_
  refine zz_aload_n (i := 0) (pc := 10) C rfl rfl d_Turns_add_10 ?_
  refine zz_getR (pc := 11) C zl_10_15 zsh_10 rfl d_Turns_add_11 ?_
  refine zz_aload_n (i := 0) (pc := 14) C rfl rfl d_Turns_add_14 ?_
  refine zz_getIv (v := (s.1 10 0)) (pc := 15) C zl_10_28 zsh_10 rfl rfl d_Turns_add_15 ?_
  refine zz_iload_n (i := 2) (pc := 18) C rfl rfl d_Turns_add_18 ?_
  refine zz_iast (pc := 19) C rfl zsh_12 hi1 d_Turns_add_19 ?_
  refine zz_aload_n (i := 0) (pc := 20) C rfl rfl d_Turns_add_20 ?_
  refine zz_getR (pc := 21) C zl_10_18 zsh_10 rfl d_Turns_add_21 ?_
  refine zz_aload_n (i := 0) (pc := 24) C rfl rfl d_Turns_add_24 ?_
  refine zz_getIv (v := (s.1 10 0)) (pc := 25) C zl_10_28 zsh_10 rfl rfl d_Turns_add_25 ?_
  refine zz_iload_n (i := 3) (pc := 28) C rfl rfl d_Turns_add_28 ?_
  refine zz_iast (pc := 29) C rfl zsh_13 hi1 d_Turns_add_29 ?_
  refine zz_aload_n (i := 0) (pc := 30) C rfl rfl d_Turns_add_30 ?_
  refine zz_getIv (v := (s.1 10 0)) (pc := 31) C zl_10_28 zsh_10 rfl rfl d_Turns_add_31 ?_
  refine zz_istore (i := 4) (lo' := [some (.ref 10), some (.int a1), some (.int a2), some (.int a3), some (.int (s.1 10 0))]) (pc := 34) C (Nat.le_of_ble_eq_true rfl) rfl rfl d_Turns_add_34 ?_
  refine zz_fg C [true, true, false, false, true] rfl rfl ?_
  exact zf_Turns_add_L36 C zF a1 (s.1 10 0) (zz_w (zz_w (zz_w s 11 ((s.1 10 0).toNatClampNeg) a1) 12 ((s.1 10 0).toNatClampNeg) a2) 13 ((s.1 10 0).toNatClampNeg) a3) h
theorem zm_Turns_add {G : zz_G} {l : Launch} {s : zz_S} {q : Int32 × zz_S} {a1 : Int32} {a2 : Int32} {a3 : Int32} (h : f_Turns_add a1 a2 a3 s = some q) : zz_M G l 2 y_Turns_add prog_12_method_4_code 5 (some .int) [.ref 10, .int a1, .int a2, .int a3] zsh s (some (.int q.1), zsh, q.2) :=
  zz_M.intro (by decide) (Nat.le_of_ble_eq_true rfl) (Nat.le_refl _) (Nat.le_refl _) (fun Z C => zf_Turns_add C a1 a2 a3 h)
theorem d_Turns_has_0 : decode prog_12_method_3_code 0 = .ok (.iload_n 1, 1) := by decide +kernel
theorem d_Turns_has_1 : decode prog_12_method_3_code 1 = .ok (.ifCond .lt (15), 3) := by decide +kernel
theorem d_Turns_has_4 : decode prog_12_method_3_code 4 = .ok (.iload_n 1, 1) := by decide +kernel
theorem d_Turns_has_5 : decode prog_12_method_3_code 5 = .ok (.aload_n 0, 1) := by decide +kernel
theorem d_Turns_has_6 : decode prog_12_method_3_code 6 = .ok (.getfield 28, 3) := by decide +kernel
theorem d_Turns_has_9 : decode prog_12_method_3_code 9 = .ok (.if_icmp .ge (7), 3) := by decide +kernel
theorem d_Turns_has_12 : decode prog_12_method_3_code 12 = .ok (.iconst 1, 1) := by decide +kernel
theorem d_Turns_has_13 : decode prog_12_method_3_code 13 = .ok (.goto (4), 3) := by decide +kernel
theorem d_Turns_has_16 : decode prog_12_method_3_code 16 = .ok (.iconst 0, 1) := by decide +kernel
theorem d_Turns_has_17 : decode prog_12_method_3_code 17 = .ok (.ireturn, 1) := by decide +kernel
set_option maxHeartbeats 4000000 in
set_option maxRecDepth 100000 in
theorem zf_Turns_has {G : zz_G} {l : Launch} {Z : zz_Z} {q : Int32} {s : zz_S} (C : zz_Cx G l "OneBlanket$Turns" "has" prog_12_method_3_code 2 (some .boolean) 2 (some (.int q), zsh, s) Z) (a1 : Int32) (h : f_Turns_has a1 s = q) : Z 0 [some (.ref 10), some (.int a1)] [] zsh s := by
  unfold f_Turns_has at h
  refine zz_iload_n (i := 1) (pc := 0) C rfl rfl d_Turns_has_0 ?_
  refine zz_if_lt (tgt := 16) (pc := 1) C (by decide) d_Turns_has_1 (fun hc1 => ?_) (fun hc1 => ?_)
  · rw [if_pos hc1] at h
    refine zz_iconst (pc := 16) C zki_0 d_Turns_has_16 ?_
    subst h
    exact zz_ret (pc := 17) C (v := some (.int (0 : Int32))) d_Turns_has_17 (Or.inl ⟨_, _, rfl, rfl, rfl, (by decide)⟩) rfl
  · rw [if_neg hc1] at h
    refine zz_iload_n (i := 1) (pc := 4) C rfl rfl d_Turns_has_4 ?_
    refine zz_aload_n (i := 0) (pc := 5) C rfl rfl d_Turns_has_5 ?_
    refine zz_getI (pc := 6) C zl_10_28 zsh_10 rfl d_Turns_has_6 ?_
    refine zz_icmp_ge (tgt := 16) (pc := 9) C (by decide) d_Turns_has_9 (fun hc2 => ?_) (fun hc2 => ?_)
    · rw [if_pos hc2] at h
      refine zz_iconst (pc := 16) C zki_0 d_Turns_has_16 ?_
      subst h
      exact zz_ret (pc := 17) C (v := some (.int (0 : Int32))) d_Turns_has_17 (Or.inl ⟨_, _, rfl, rfl, rfl, (by decide)⟩) rfl
    · rw [if_neg hc2] at h
      refine zz_iconst (pc := 12) C zki_1 d_Turns_has_12 ?_
      refine zz_goto (tgt := 17) (pc := 13) C (by decide) d_Turns_has_13 ?_
      subst h
      exact zz_ret (pc := 17) C (v := some (.int (1 : Int32))) d_Turns_has_17 (Or.inl ⟨_, _, rfl, rfl, rfl, (by decide)⟩) rfl
theorem zm_Turns_has {G : zz_G} {l : Launch} {s : zz_S} {q : Int32} {a1 : Int32} (h : f_Turns_has a1 s = q) : zz_M G l 2 y_Turns_has prog_12_method_3_code 2 (some .boolean) [.ref 10, .int a1] zsh s (some (.int q), zsh, s) :=
  zz_M.intro (by decide) (Nat.le_of_ble_eq_true rfl) (Nat.le_refl _) (Nat.le_refl _) (fun Z C => zf_Turns_has C a1 h)
theorem d_B_isMinute_0 : decode prog_1_method_22_code 0 = .ok (.iload_n 0, 1) := by decide +kernel
theorem d_B_isMinute_1 : decode prog_1_method_22_code 1 = .ok (.ifCond .lt (14), 3) := by decide +kernel
theorem d_B_isMinute_4 : decode prog_1_method_22_code 4 = .ok (.iload_n 0, 1) := by decide +kernel
theorem d_B_isMinute_5 : decode prog_1_method_22_code 5 = .ok (.sipush (479), 3) := by decide +kernel
theorem d_B_isMinute_8 : decode prog_1_method_22_code 8 = .ok (.if_icmp .gt (7), 3) := by decide +kernel
theorem d_B_isMinute_11 : decode prog_1_method_22_code 11 = .ok (.iconst 1, 1) := by decide +kernel
theorem d_B_isMinute_12 : decode prog_1_method_22_code 12 = .ok (.goto (4), 3) := by decide +kernel
theorem d_B_isMinute_15 : decode prog_1_method_22_code 15 = .ok (.iconst 0, 1) := by decide +kernel
theorem d_B_isMinute_16 : decode prog_1_method_22_code 16 = .ok (.ireturn, 1) := by decide +kernel
set_option maxHeartbeats 4000000 in
set_option maxRecDepth 100000 in
theorem zf_B_isMinute {G : zz_G} {l : Launch} {Z : zz_Z} {sh : List zz_Sh} {q : Int32} {s : zz_S} (C : zz_Cx G l "OneBlanket" "isMinute" prog_1_method_22_code 1 (some .boolean) 2 (some (.int q), sh, s) Z) (a0 : Int32) (h : f_B_isMinute a0 = q) : Z 0 [some (.int a0)] [] sh s := by
  unfold f_B_isMinute at h
  refine zz_iload_n (i := 0) (pc := 0) C rfl rfl d_B_isMinute_0 ?_
  refine zz_if_lt (tgt := 15) (pc := 1) C (by decide) d_B_isMinute_1 (fun hc1 => ?_) (fun hc1 => ?_)
  · rw [if_pos hc1] at h
    refine zz_iconst (pc := 15) C zki_0 d_B_isMinute_15 ?_
    subst h
    exact zz_ret (pc := 16) C (v := some (.int (0 : Int32))) d_B_isMinute_16 (Or.inl ⟨_, _, rfl, rfl, rfl, (by decide)⟩) rfl
  · rw [if_neg hc1] at h
    refine zz_iload_n (i := 0) (pc := 4) C rfl rfl d_B_isMinute_4 ?_
    refine zz_sipush (pc := 5) C zks_479 d_B_isMinute_5 ?_
    refine zz_icmp_gt (tgt := 15) (pc := 8) C (by decide) d_B_isMinute_8 (fun hc2 => ?_) (fun hc2 => ?_)
    · rw [if_pos hc2] at h
      refine zz_iconst (pc := 15) C zki_0 d_B_isMinute_15 ?_
      subst h
      exact zz_ret (pc := 16) C (v := some (.int (0 : Int32))) d_B_isMinute_16 (Or.inl ⟨_, _, rfl, rfl, rfl, (by decide)⟩) rfl
    · rw [if_neg hc2] at h
      refine zz_iconst (pc := 11) C zki_1 d_B_isMinute_11 ?_
      refine zz_goto (tgt := 16) (pc := 12) C (by decide) d_B_isMinute_12 ?_
      subst h
      exact zz_ret (pc := 16) C (v := some (.int (1 : Int32))) d_B_isMinute_16 (Or.inl ⟨_, _, rfl, rfl, rfl, (by decide)⟩) rfl
theorem zm_B_isMinute {G : zz_G} {l : Launch} {sh : List zz_Sh} {s : zz_S} {q : Int32} {a0 : Int32} (h : f_B_isMinute a0 = q) : zz_M G l 2 y_B_isMinute prog_1_method_22_code 1 (some .boolean) [.int a0] sh s (some (.int q), sh, s) :=
  zz_M.intro (by decide) (Nat.le_of_ble_eq_true rfl) (Nat.le_refl _) (Nat.le_refl _) (fun Z C => zf_B_isMinute C a0 h)
theorem d_Turns_mayBe_0 : decode prog_12_method_2_code 0 = .ok (.iload_n 0, 1) := by decide +kernel
theorem d_Turns_mayBe_1 : decode prog_12_method_2_code 1 = .ok (.invokestatic 24, 3) := by decide +kernel
theorem d_Turns_mayBe_4 : decode prog_12_method_2_code 4 = .ok (.ifCond .eq (33), 3) := by decide +kernel
theorem d_Turns_mayBe_7 : decode prog_12_method_2_code 7 = .ok (.iload_n 1, 1) := by decide +kernel
theorem d_Turns_mayBe_8 : decode prog_12_method_2_code 8 = .ok (.ifCond .lt (29), 3) := by decide +kernel
theorem d_Turns_mayBe_11 : decode prog_12_method_2_code 11 = .ok (.iload_n 1, 1) := by decide +kernel
theorem d_Turns_mayBe_12 : decode prog_12_method_2_code 12 = .ok (.bipush (6), 2) := by decide +kernel
theorem d_Turns_mayBe_14 : decode prog_12_method_2_code 14 = .ok (.if_icmp .ge (23), 3) := by decide +kernel
theorem d_Turns_mayBe_17 : decode prog_12_method_2_code 17 = .ok (.iload_n 2, 1) := by decide +kernel
theorem d_Turns_mayBe_18 : decode prog_12_method_2_code 18 = .ok (.bipush (-20), 2) := by decide +kernel
theorem d_Turns_mayBe_20 : decode prog_12_method_2_code 20 = .ok (.if_icmp .lt (17), 3) := by decide +kernel
theorem d_Turns_mayBe_23 : decode prog_12_method_2_code 23 = .ok (.iload_n 2, 1) := by decide +kernel
theorem d_Turns_mayBe_24 : decode prog_12_method_2_code 24 = .ok (.bipush (20), 2) := by decide +kernel
theorem d_Turns_mayBe_26 : decode prog_12_method_2_code 26 = .ok (.if_icmp .gt (11), 3) := by decide +kernel
theorem d_Turns_mayBe_29 : decode prog_12_method_2_code 29 = .ok (.iload_n 2, 1) := by decide +kernel
theorem d_Turns_mayBe_30 : decode prog_12_method_2_code 30 = .ok (.ifCond .eq (7), 3) := by decide +kernel
theorem d_Turns_mayBe_33 : decode prog_12_method_2_code 33 = .ok (.iconst 1, 1) := by decide +kernel
theorem d_Turns_mayBe_34 : decode prog_12_method_2_code 34 = .ok (.goto (4), 3) := by decide +kernel
theorem d_Turns_mayBe_37 : decode prog_12_method_2_code 37 = .ok (.iconst 0, 1) := by decide +kernel
theorem d_Turns_mayBe_38 : decode prog_12_method_2_code 38 = .ok (.ireturn, 1) := by decide +kernel
set_option maxHeartbeats 4000000 in
set_option maxRecDepth 100000 in
theorem zf_Turns_mayBe {G : zz_G} {l : Launch} {Z : zz_Z} {sh : List zz_Sh} {q : Int32} {s : zz_S} (C : zz_Cx G l "OneBlanket$Turns" "mayBe" prog_12_method_2_code 3 (some .boolean) 3 (some (.int q), sh, s) Z) (a0 : Int32) (a1 : Int32) (a2 : Int32) (h : f_Turns_mayBe a0 a1 a2 = q) : Z 0 [some (.int a0), some (.int a1), some (.int a2)] [] sh s := by
  unfold f_Turns_mayBe at h
  refine zz_iload_n (i := 0) (pc := 0) C rfl rfl d_Turns_mayBe_0 ?_
  refine zz_cNi (as := [.int a0]) (st := []) (pc := 1) C (zm_B_isMinute rfl) zcs_B_isMinute zl_10_24n (by omega) (Nat.le_of_ble_eq_true rfl) d_Turns_mayBe_1 rfl rfl ?_
  refine zz_if_eq (tgt := 37) (pc := 4) C (by decide) d_Turns_mayBe_4 (fun hc1 => ?_) (fun hc1 => ?_)
  · rw [if_pos hc1] at h
    refine zz_iconst (pc := 37) C zki_0 d_Turns_mayBe_37 ?_
    subst h
    exact zz_ret (pc := 38) C (v := some (.int (0 : Int32))) d_Turns_mayBe_38 (Or.inl ⟨_, _, rfl, rfl, rfl, (by decide)⟩) rfl
  · rw [if_neg hc1] at h
    refine zz_iload_n (i := 1) (pc := 7) C rfl rfl d_Turns_mayBe_7 ?_
    refine zz_if_lt (tgt := 37) (pc := 8) C (by decide) d_Turns_mayBe_8 (fun hc2 => ?_) (fun hc2 => ?_)
    · rw [if_pos hc2] at h
      refine zz_iconst (pc := 37) C zki_0 d_Turns_mayBe_37 ?_
      subst h
      exact zz_ret (pc := 38) C (v := some (.int (0 : Int32))) d_Turns_mayBe_38 (Or.inl ⟨_, _, rfl, rfl, rfl, (by decide)⟩) rfl
    · rw [if_neg hc2] at h
      refine zz_iload_n (i := 1) (pc := 11) C rfl rfl d_Turns_mayBe_11 ?_
      refine zz_bipush (pc := 12) C zkb_6 d_Turns_mayBe_12 ?_
      refine zz_icmp_ge (tgt := 37) (pc := 14) C (by decide) d_Turns_mayBe_14 (fun hc3 => ?_) (fun hc3 => ?_)
      · rw [if_pos hc3] at h
        refine zz_iconst (pc := 37) C zki_0 d_Turns_mayBe_37 ?_
        subst h
        exact zz_ret (pc := 38) C (v := some (.int (0 : Int32))) d_Turns_mayBe_38 (Or.inl ⟨_, _, rfl, rfl, rfl, (by decide)⟩) rfl
      · rw [if_neg hc3] at h
        refine zz_iload_n (i := 2) (pc := 17) C rfl rfl d_Turns_mayBe_17 ?_
        refine zz_bipush (pc := 18) C zkb_m20 d_Turns_mayBe_18 ?_
        refine zz_icmp_lt (tgt := 37) (pc := 20) C (by decide) d_Turns_mayBe_20 (fun hc4 => ?_) (fun hc4 => ?_)
        · rw [if_pos hc4] at h
          refine zz_iconst (pc := 37) C zki_0 d_Turns_mayBe_37 ?_
          subst h
          exact zz_ret (pc := 38) C (v := some (.int (0 : Int32))) d_Turns_mayBe_38 (Or.inl ⟨_, _, rfl, rfl, rfl, (by decide)⟩) rfl
        · rw [if_neg hc4] at h
          refine zz_iload_n (i := 2) (pc := 23) C rfl rfl d_Turns_mayBe_23 ?_
          refine zz_bipush (pc := 24) C zkb_20 d_Turns_mayBe_24 ?_
          refine zz_icmp_gt (tgt := 37) (pc := 26) C (by decide) d_Turns_mayBe_26 (fun hc5 => ?_) (fun hc5 => ?_)
          · rw [if_pos hc5] at h
            refine zz_iconst (pc := 37) C zki_0 d_Turns_mayBe_37 ?_
            subst h
            exact zz_ret (pc := 38) C (v := some (.int (0 : Int32))) d_Turns_mayBe_38 (Or.inl ⟨_, _, rfl, rfl, rfl, (by decide)⟩) rfl
          · rw [if_neg hc5] at h
            refine zz_iload_n (i := 2) (pc := 29) C rfl rfl d_Turns_mayBe_29 ?_
            refine zz_if_eq (tgt := 37) (pc := 30) C (by decide) d_Turns_mayBe_30 (fun hc6 => ?_) (fun hc6 => ?_)
            · rw [if_pos hc6] at h
              refine zz_iconst (pc := 37) C zki_0 d_Turns_mayBe_37 ?_
              subst h
              exact zz_ret (pc := 38) C (v := some (.int (0 : Int32))) d_Turns_mayBe_38 (Or.inl ⟨_, _, rfl, rfl, rfl, (by decide)⟩) rfl
            · rw [if_neg hc6] at h
              refine zz_iconst (pc := 33) C zki_1 d_Turns_mayBe_33 ?_
              refine zz_goto (tgt := 38) (pc := 34) C (by decide) d_Turns_mayBe_34 ?_
              subst h
              exact zz_ret (pc := 38) C (v := some (.int (1 : Int32))) d_Turns_mayBe_38 (Or.inl ⟨_, _, rfl, rfl, rfl, (by decide)⟩) rfl
theorem zm_Turns_mayBe {G : zz_G} {l : Launch} {sh : List zz_Sh} {s : zz_S} {q : Int32} {a0 : Int32} {a1 : Int32} {a2 : Int32} (h : f_Turns_mayBe a0 a1 a2 = q) : zz_M G l 3 y_Turns_mayBe prog_12_method_2_code 3 (some .boolean) [.int a0, .int a1, .int a2] sh s (some (.int q), sh, s) :=
  zz_M.intro (by decide) (Nat.le_of_ble_eq_true rfl) (Nat.le_refl _) (Nat.le_refl _) (fun Z C => zf_Turns_mayBe C a0 a1 a2 h)
theorem d_Turns_ofTurn_0 : decode prog_12_method_5_code 0 = .ok (.iload_n 2, 1) := by decide +kernel
theorem d_Turns_ofTurn_1 : decode prog_12_method_5_code 1 = .ok (.lookupswitch (41) #[(0, 27), (1, 34)], 27) := by decide +kernel
theorem d_Turns_ofTurn_28 : decode prog_12_method_5_code 28 = .ok (.aload_n 0, 1) := by decide +kernel
theorem d_Turns_ofTurn_29 : decode prog_12_method_5_code 29 = .ok (.getfield 9, 3) := by decide +kernel
theorem d_Turns_ofTurn_32 : decode prog_12_method_5_code 32 = .ok (.iload_n 1, 1) := by decide +kernel
theorem d_Turns_ofTurn_33 : decode prog_12_method_5_code 33 = .ok (.iaload, 1) := by decide +kernel
theorem d_Turns_ofTurn_34 : decode prog_12_method_5_code 34 = .ok (.ireturn, 1) := by decide +kernel
theorem d_Turns_ofTurn_35 : decode prog_12_method_5_code 35 = .ok (.aload_n 0, 1) := by decide +kernel
theorem d_Turns_ofTurn_36 : decode prog_12_method_5_code 36 = .ok (.getfield 15, 3) := by decide +kernel
theorem d_Turns_ofTurn_39 : decode prog_12_method_5_code 39 = .ok (.iload_n 1, 1) := by decide +kernel
theorem d_Turns_ofTurn_40 : decode prog_12_method_5_code 40 = .ok (.iaload, 1) := by decide +kernel
theorem d_Turns_ofTurn_41 : decode prog_12_method_5_code 41 = .ok (.ireturn, 1) := by decide +kernel
theorem d_Turns_ofTurn_42 : decode prog_12_method_5_code 42 = .ok (.aload_n 0, 1) := by decide +kernel
theorem d_Turns_ofTurn_43 : decode prog_12_method_5_code 43 = .ok (.getfield 18, 3) := by decide +kernel
theorem d_Turns_ofTurn_46 : decode prog_12_method_5_code 46 = .ok (.iload_n 1, 1) := by decide +kernel
theorem d_Turns_ofTurn_47 : decode prog_12_method_5_code 47 = .ok (.iaload, 1) := by decide +kernel
theorem d_Turns_ofTurn_48 : decode prog_12_method_5_code 48 = .ok (.ireturn, 1) := by decide +kernel
set_option maxHeartbeats 4000000 in
set_option maxRecDepth 100000 in
theorem zf_Turns_ofTurn {G : zz_G} {l : Launch} {Z : zz_Z} {q : Int32} {s : zz_S} (C : zz_Cx G l "OneBlanket$Turns" "ofTurn" prog_12_method_5_code 3 (some .int) 2 (some (.int q), zsh, s) Z) (a1 : Int32) (a2 : Int32) (h : f_Turns_ofTurn a1 a2 s = some q) : Z 0 [some (.ref 10), some (.int a1), some (.int a2)] [] zsh s := by
  unfold f_Turns_ofTurn at h
  refine zz_iload_n (i := 2) (pc := 0) C rfl rfl d_Turns_ofTurn_0 ?_
  by_cases hc1 : a2 = (0 : Int32)
  · rw [if_pos hc1] at h
    refine zz_lookup (tgt := 28) (off := 27) (pc := 1) C (by decide) (by rw [hc1]; decide) (by decide) d_Turns_ofTurn_1 ?_
    refine zz_aload_n (i := 0) (pc := 28) C rfl rfl d_Turns_ofTurn_28 ?_
    refine zz_getR (pc := 29) C zl_10_9 zsh_10 rfl d_Turns_ofTurn_29 ?_
    refine zz_iload_n (i := 1) (pc := 32) C rfl rfl d_Turns_ofTurn_32 ?_
    obtain ⟨hi2, h⟩ := zz_ckE h
    refine zz_iald (pc := 33) C rfl zsh_11 hi2 d_Turns_ofTurn_33 ?_
    replace h := Option.some.inj h
    subst h
    exact zz_ret (pc := 34) C (v := some (.int (s.1 11 (a1.toNatClampNeg)))) d_Turns_ofTurn_34 (Or.inl ⟨_, _, rfl, rfl, rfl, rfl⟩) rfl
  · rw [if_neg hc1] at h
    by_cases hc3 : a2 = (1 : Int32)
    · rw [if_pos hc3] at h
      refine zz_lookup (tgt := 35) (off := 34) (pc := 1) C (by decide) (by rw [hc3]; decide) (by decide) d_Turns_ofTurn_1 ?_
      refine zz_aload_n (i := 0) (pc := 35) C rfl rfl d_Turns_ofTurn_35 ?_
      refine zz_getR (pc := 36) C zl_10_15 zsh_10 rfl d_Turns_ofTurn_36 ?_
      refine zz_iload_n (i := 1) (pc := 39) C rfl rfl d_Turns_ofTurn_39 ?_
      obtain ⟨hi4, h⟩ := zz_ckE h
      refine zz_iald (pc := 40) C rfl zsh_12 hi4 d_Turns_ofTurn_40 ?_
      replace h := Option.some.inj h
      subst h
      exact zz_ret (pc := 41) C (v := some (.int (s.1 12 (a1.toNatClampNeg)))) d_Turns_ofTurn_41 (Or.inl ⟨_, _, rfl, rfl, rfl, rfl⟩) rfl
    · rw [if_neg hc3] at h
      have hc1i : a2.toInt ≠ 0 := fun e => hc1 (Int32.toInt_inj.mp e)
      have hc3i : a2.toInt ≠ 1 := fun e => hc3 (Int32.toInt_inj.mp e)
      refine zz_lookup (tgt := 42) (off := 41) (pc := 1) C (by decide) (zlk_Turns_ofTurn_1 hc1i hc3i) (by decide) d_Turns_ofTurn_1 ?_
      refine zz_aload_n (i := 0) (pc := 42) C rfl rfl d_Turns_ofTurn_42 ?_
      refine zz_getR (pc := 43) C zl_10_18 zsh_10 rfl d_Turns_ofTurn_43 ?_
      refine zz_iload_n (i := 1) (pc := 46) C rfl rfl d_Turns_ofTurn_46 ?_
      obtain ⟨hi5, h⟩ := zz_ckE h
      refine zz_iald (pc := 47) C rfl zsh_13 hi5 d_Turns_ofTurn_47 ?_
      replace h := Option.some.inj h
      subst h
      exact zz_ret (pc := 48) C (v := some (.int (s.1 13 (a1.toNatClampNeg)))) d_Turns_ofTurn_48 (Or.inl ⟨_, _, rfl, rfl, rfl, rfl⟩) rfl
theorem zm_Turns_ofTurn {G : zz_G} {l : Launch} {s : zz_S} {q : Int32} {a1 : Int32} {a2 : Int32} (h : f_Turns_ofTurn a1 a2 s = some q) : zz_M G l 2 y_Turns_ofTurn prog_12_method_5_code 3 (some .int) [.ref 10, .int a1, .int a2] zsh s (some (.int q), zsh, s) :=
  zz_M.intro (by decide) (Nat.le_of_ble_eq_true rfl) (Nat.le_refl _) (Nat.le_refl _) (fun Z C => zf_Turns_ofTurn C a1 a2 h)
theorem d_B_orderAsDigits_0 : decode prog_1_method_28_code 0 = .ok (.iconst 0, 1) := by decide +kernel
theorem d_B_orderAsDigits_1 : decode prog_1_method_28_code 1 = .ok (.istore_n 2, 1) := by decide +kernel
theorem d_B_orderAsDigits_2 : decode prog_1_method_28_code 2 = .ok (.iconst 0, 1) := by decide +kernel
theorem d_B_orderAsDigits_3 : decode prog_1_method_28_code 3 = .ok (.istore_n 3, 1) := by decide +kernel
theorem d_B_orderAsDigits_4 : decode prog_1_method_28_code 4 = .ok (.iload_n 3, 1) := by decide +kernel
theorem d_B_orderAsDigits_5 : decode prog_1_method_28_code 5 = .ok (.iload_n 1, 1) := by decide +kernel
theorem d_B_orderAsDigits_6 : decode prog_1_method_28_code 6 = .ok (.if_icmp .ge (23), 3) := by decide +kernel
theorem d_B_orderAsDigits_9 : decode prog_1_method_28_code 9 = .ok (.iload_n 2, 1) := by decide +kernel
theorem d_B_orderAsDigits_10 : decode prog_1_method_28_code 10 = .ok (.bipush (10), 2) := by decide +kernel
theorem d_B_orderAsDigits_12 : decode prog_1_method_28_code 12 = .ok (.imul, 1) := by decide +kernel
theorem d_B_orderAsDigits_13 : decode prog_1_method_28_code 13 = .ok (.aload_n 0, 1) := by decide +kernel
theorem d_B_orderAsDigits_14 : decode prog_1_method_28_code 14 = .ok (.getfield 72, 3) := by decide +kernel
theorem d_B_orderAsDigits_17 : decode prog_1_method_28_code 17 = .ok (.iload_n 3, 1) := by decide +kernel
theorem d_B_orderAsDigits_18 : decode prog_1_method_28_code 18 = .ok (.iaload, 1) := by decide +kernel
theorem d_B_orderAsDigits_19 : decode prog_1_method_28_code 19 = .ok (.iadd, 1) := by decide +kernel
theorem d_B_orderAsDigits_20 : decode prog_1_method_28_code 20 = .ok (.iconst 1, 1) := by decide +kernel
theorem d_B_orderAsDigits_21 : decode prog_1_method_28_code 21 = .ok (.iadd, 1) := by decide +kernel
theorem d_B_orderAsDigits_22 : decode prog_1_method_28_code 22 = .ok (.istore_n 2, 1) := by decide +kernel
theorem d_B_orderAsDigits_23 : decode prog_1_method_28_code 23 = .ok (.iinc 3 (1), 3) := by decide +kernel
theorem d_B_orderAsDigits_26 : decode prog_1_method_28_code 26 = .ok (.goto (-22), 3) := by decide +kernel
theorem d_B_orderAsDigits_29 : decode prog_1_method_28_code 29 = .ok (.iload_n 2, 1) := by decide +kernel
theorem d_B_orderAsDigits_30 : decode prog_1_method_28_code 30 = .ok (.ireturn, 1) := by decide +kernel
set_option maxHeartbeats 4000000 in
set_option maxRecDepth 100000 in
theorem zf_B_orderAsDigits_L4 {G : zz_G} {l : Launch} {Z : zz_Z} {q : Int32} {s : zz_S} (C : zz_Cx G l "OneBlanket" "orderAsDigits" prog_1_method_28_code 4 (some .int) 2 (some (.int q), zsh, s) Z) : ∀ (n : Nat) (v1 : Int32) (v2 : Int32) (v3 : Int32), f_B_orderAsDigits_L4 s n v1 v2 v3 = some q → Z 4 [some (.ref 0), some (.int v1), some (.int v2), some (.int v3)] [] zsh s := by
  intro n
  induction n with
  | zero => intro v1 v2 v3 h; rw [f_B_orderAsDigits_L4] at h; cases h
  | succ n ih =>
  intro v1 v2 v3 h
  rw [f_B_orderAsDigits_L4] at h
  refine zz_iload_n (i := 3) (pc := 4) C rfl rfl d_B_orderAsDigits_4 ?_
  refine zz_iload_n (i := 1) (pc := 5) C rfl rfl d_B_orderAsDigits_5 ?_
  refine zz_icmp_ge (tgt := 29) (pc := 6) C (by decide) d_B_orderAsDigits_6 (fun hc1 => ?_) (fun hc1 => ?_)
  · rw [if_pos hc1] at h
    refine zz_iload_n (i := 2) (pc := 29) C rfl rfl d_B_orderAsDigits_29 ?_
    replace h := Option.some.inj h
    subst h
    exact zz_ret (pc := 30) C (v := some (.int v2)) d_B_orderAsDigits_30 (Or.inl ⟨_, _, rfl, rfl, rfl, rfl⟩) rfl
  · rw [if_neg hc1] at h
    refine zz_iload_n (i := 2) (pc := 9) C rfl rfl d_B_orderAsDigits_9 ?_
    refine zz_bipush (pc := 10) C zkb_10 d_B_orderAsDigits_10 ?_
    refine zz_imul (pc := 12) C d_B_orderAsDigits_12 ?_
    refine zz_aload_n (i := 0) (pc := 13) C rfl rfl d_B_orderAsDigits_13 ?_
    refine zz_getR (pc := 14) C zl_11_72 zsh_0 rfl d_B_orderAsDigits_14 ?_
    refine zz_iload_n (i := 3) (pc := 17) C rfl rfl d_B_orderAsDigits_17 ?_
    obtain ⟨hi2, h⟩ := zz_ckE h
    refine zz_iald (pc := 18) C rfl zsh_53 hi2 d_B_orderAsDigits_18 ?_
    refine zz_iadd (pc := 19) C d_B_orderAsDigits_19 ?_
    refine zz_iconst (pc := 20) C zki_1 d_B_orderAsDigits_20 ?_
    refine zz_iadd (pc := 21) C d_B_orderAsDigits_21 ?_
    refine zz_istore_n (i := 2) (lo' := [some (.ref 0), some (.int v1), some (.int (((v2 * (10 : Int32)) + (s.1 53 (v3.toNatClampNeg))) + (1 : Int32))), some (.int v3)]) (pc := 22) C rfl (Nat.le_of_ble_eq_true rfl) rfl rfl d_B_orderAsDigits_22 ?_
    refine zz_iinc (lo' := [some (.ref 0), some (.int v1), some (.int (((v2 * (10 : Int32)) + (s.1 53 (v3.toNatClampNeg))) + (1 : Int32))), some (.int (v3 + (1 : Int32)))]) (pc := 23) C rfl (zz_inc zki_1) rfl rfl d_B_orderAsDigits_23 ?_
    refine zz_goto (tgt := 4) (pc := 26) C (by decide) d_B_orderAsDigits_26 ?_
    exact ih v1 (((v2 * (10 : Int32)) + (s.1 53 (v3.toNatClampNeg))) + (1 : Int32)) (v3 + (1 : Int32)) h
set_option maxHeartbeats 4000000 in
set_option maxRecDepth 100000 in
theorem zf_B_orderAsDigits {G : zz_G} {l : Launch} {Z : zz_Z} {q : Int32} {s : zz_S} (C : zz_Cx G l "OneBlanket" "orderAsDigits" prog_1_method_28_code 4 (some .int) 2 (some (.int q), zsh, s) Z) (a1 : Int32) (h : f_B_orderAsDigits a1 s = some q) : Z 0 [some (.ref 0), some (.int a1), none, none] [] zsh s := by
  unfold f_B_orderAsDigits at h
  refine zz_iconst (pc := 0) C zki_0 d_B_orderAsDigits_0 ?_
  refine zz_istore_n (i := 2) (lo' := [some (.ref 0), some (.int a1), some (.int (0 : Int32)), none]) (pc := 1) C rfl (Nat.le_of_ble_eq_true rfl) rfl rfl d_B_orderAsDigits_1 ?_
  refine zz_iconst (pc := 2) C zki_0 d_B_orderAsDigits_2 ?_
  refine zz_istore_n (i := 3) (lo' := [some (.ref 0), some (.int a1), some (.int (0 : Int32)), some (.int (0 : Int32))]) (pc := 3) C rfl (Nat.le_of_ble_eq_true rfl) rfl rfl d_B_orderAsDigits_3 ?_
  exact zf_B_orderAsDigits_L4 C zF a1 (0 : Int32) (0 : Int32) h
theorem zm_B_orderAsDigits {G : zz_G} {l : Launch} {s : zz_S} {q : Int32} {a1 : Int32} (h : f_B_orderAsDigits a1 s = some q) : zz_M G l 2 y_B_orderAsDigits prog_1_method_28_code 4 (some .int) [.ref 0, .int a1] zsh s (some (.int q), zsh, s) :=
  zz_M.intro (by decide) (Nat.le_of_ble_eq_true rfl) (Nat.le_refl _) (Nat.le_refl _) (fun Z C => zf_B_orderAsDigits C a1 h)
theorem d_B_swapInOrder_0 : decode prog_1_method_30_code 0 = .ok (.aload_n 0, 1) := by decide +kernel
theorem d_B_swapInOrder_1 : decode prog_1_method_30_code 1 = .ok (.getfield 72, 3) := by decide +kernel
theorem d_B_swapInOrder_4 : decode prog_1_method_30_code 4 = .ok (.iload_n 1, 1) := by decide +kernel
theorem d_B_swapInOrder_5 : decode prog_1_method_30_code 5 = .ok (.iaload, 1) := by decide +kernel
theorem d_B_swapInOrder_6 : decode prog_1_method_30_code 6 = .ok (.istore_n 3, 1) := by decide +kernel
theorem d_B_swapInOrder_7 : decode prog_1_method_30_code 7 = .ok (.aload_n 0, 1) := by decide +kernel
theorem d_B_swapInOrder_8 : decode prog_1_method_30_code 8 = .ok (.getfield 72, 3) := by decide +kernel
theorem d_B_swapInOrder_11 : decode prog_1_method_30_code 11 = .ok (.iload_n 1, 1) := by decide +kernel
theorem d_B_swapInOrder_12 : decode prog_1_method_30_code 12 = .ok (.aload_n 0, 1) := by decide +kernel
theorem d_B_swapInOrder_13 : decode prog_1_method_30_code 13 = .ok (.getfield 72, 3) := by decide +kernel
theorem d_B_swapInOrder_16 : decode prog_1_method_30_code 16 = .ok (.iload_n 2, 1) := by decide +kernel
theorem d_B_swapInOrder_17 : decode prog_1_method_30_code 17 = .ok (.iaload, 1) := by decide +kernel
theorem d_B_swapInOrder_18 : decode prog_1_method_30_code 18 = .ok (.iastore, 1) := by decide +kernel
theorem d_B_swapInOrder_19 : decode prog_1_method_30_code 19 = .ok (.aload_n 0, 1) := by decide +kernel
theorem d_B_swapInOrder_20 : decode prog_1_method_30_code 20 = .ok (.getfield 72, 3) := by decide +kernel
theorem d_B_swapInOrder_23 : decode prog_1_method_30_code 23 = .ok (.iload_n 2, 1) := by decide +kernel
theorem d_B_swapInOrder_24 : decode prog_1_method_30_code 24 = .ok (.iload_n 3, 1) := by decide +kernel
theorem d_B_swapInOrder_25 : decode prog_1_method_30_code 25 = .ok (.iastore, 1) := by decide +kernel
theorem d_B_swapInOrder_26 : decode prog_1_method_30_code 26 = .ok (.return_, 1) := by decide +kernel
set_option maxHeartbeats 4000000 in
set_option maxRecDepth 100000 in
theorem zf_B_swapInOrder {G : zz_G} {l : Launch} {Z : zz_Z} {q : zz_S} {s : zz_S} (C : zz_Cx G l "OneBlanket" "swapInOrder" prog_1_method_30_code 4 (none) 2 (none, zsh, q) Z) (a1 : Int32) (a2 : Int32) (h : f_B_swapInOrder a1 a2 s = some q) : Z 0 [some (.ref 0), some (.int a1), some (.int a2), none] [] zsh s := by
  unfold f_B_swapInOrder at h
  refine zz_aload_n (i := 0) (pc := 0) C rfl rfl d_B_swapInOrder_0 ?_
  refine zz_getR (pc := 1) C zl_11_72 zsh_0 rfl d_B_swapInOrder_1 ?_
  refine zz_iload_n (i := 1) (pc := 4) C rfl rfl d_B_swapInOrder_4 ?_
  obtain ⟨hi1, h⟩ := zz_ckE h
  refine zz_iald (pc := 5) C rfl zsh_53 hi1 d_B_swapInOrder_5 ?_
  refine zz_istore_n (i := 3) (lo' := [some (.ref 0), some (.int a1), some (.int a2), some (.int (s.1 53 (a1.toNatClampNeg)))]) (pc := 6) C rfl (Nat.le_of_ble_eq_true rfl) rfl rfl d_B_swapInOrder_6 ?_
  refine zz_aload_n (i := 0) (pc := 7) C rfl rfl d_B_swapInOrder_7 ?_
  refine zz_getR (pc := 8) C zl_11_72 zsh_0 rfl d_B_swapInOrder_8 ?_
  refine zz_iload_n (i := 1) (pc := 11) C rfl rfl d_B_swapInOrder_11 ?_
  refine zz_aload_n (i := 0) (pc := 12) C rfl rfl d_B_swapInOrder_12 ?_
  refine zz_getR (pc := 13) C zl_11_72 zsh_0 rfl d_B_swapInOrder_13 ?_
  refine zz_iload_n (i := 2) (pc := 16) C rfl rfl d_B_swapInOrder_16 ?_
  obtain ⟨hi2, h⟩ := zz_ckE h
  refine zz_iald (pc := 17) C rfl zsh_53 hi2 d_B_swapInOrder_17 ?_
  refine zz_iast (pc := 18) C rfl zsh_53 hi1 d_B_swapInOrder_18 ?_
  refine zz_aload_n (i := 0) (pc := 19) C rfl rfl d_B_swapInOrder_19 ?_
  refine zz_getR (pc := 20) C zl_11_72 zsh_0 rfl d_B_swapInOrder_20 ?_
  refine zz_iload_n (i := 2) (pc := 23) C rfl rfl d_B_swapInOrder_23 ?_
  refine zz_iload_n (i := 3) (pc := 24) C rfl rfl d_B_swapInOrder_24 ?_
  refine zz_iast (pc := 25) C rfl zsh_53 hi2 d_B_swapInOrder_25 ?_
  replace h := Option.some.inj h
  subst h
  exact zz_ret (pc := 26) C (v := none) d_B_swapInOrder_26 (Or.inr (Or.inr (Or.inr ⟨rfl, rfl, rfl⟩))) rfl
theorem zm_B_swapInOrder {G : zz_G} {l : Launch} {s : zz_S} {q : zz_S} {a1 : Int32} {a2 : Int32} (h : f_B_swapInOrder a1 a2 s = some q) : zz_M G l 2 y_B_swapInOrder prog_1_method_30_code 4 (none) [.ref 0, .int a1, .int a2] zsh s (none, zsh, q) :=
  zz_M.intro (by decide) (Nat.le_of_ble_eq_true rfl) (Nat.le_refl _) (Nat.le_refl _) (fun Z C => zf_B_swapInOrder C a1 a2 h)
theorem d_B_goToNextOrder_0 : decode prog_1_method_29_code 0 = .ok (.iload_n 1, 1) := by decide +kernel
theorem d_B_goToNextOrder_1 : decode prog_1_method_29_code 1 = .ok (.iconst 2, 1) := by decide +kernel
theorem d_B_goToNextOrder_2 : decode prog_1_method_29_code 2 = .ok (.isub, 1) := by decide +kernel
theorem d_B_goToNextOrder_3 : decode prog_1_method_29_code 3 = .ok (.istore_n 2, 1) := by decide +kernel
theorem d_B_goToNextOrder_4 : decode prog_1_method_29_code 4 = .ok (.iload_n 2, 1) := by decide +kernel
theorem d_B_goToNextOrder_5 : decode prog_1_method_29_code 5 = .ok (.ifCond .lt (26), 3) := by decide +kernel
theorem d_B_goToNextOrder_8 : decode prog_1_method_29_code 8 = .ok (.aload_n 0, 1) := by decide +kernel
theorem d_B_goToNextOrder_9 : decode prog_1_method_29_code 9 = .ok (.getfield 72, 3) := by decide +kernel
theorem d_B_goToNextOrder_12 : decode prog_1_method_29_code 12 = .ok (.iload_n 2, 1) := by decide +kernel
theorem d_B_goToNextOrder_13 : decode prog_1_method_29_code 13 = .ok (.iaload, 1) := by decide +kernel
theorem d_B_goToNextOrder_14 : decode prog_1_method_29_code 14 = .ok (.aload_n 0, 1) := by decide +kernel
theorem d_B_goToNextOrder_15 : decode prog_1_method_29_code 15 = .ok (.getfield 72, 3) := by decide +kernel
theorem d_B_goToNextOrder_18 : decode prog_1_method_29_code 18 = .ok (.iload_n 2, 1) := by decide +kernel
theorem d_B_goToNextOrder_19 : decode prog_1_method_29_code 19 = .ok (.iconst 1, 1) := by decide +kernel
theorem d_B_goToNextOrder_20 : decode prog_1_method_29_code 20 = .ok (.iadd, 1) := by decide +kernel
theorem d_B_goToNextOrder_21 : decode prog_1_method_29_code 21 = .ok (.iaload, 1) := by decide +kernel
theorem d_B_goToNextOrder_22 : decode prog_1_method_29_code 22 = .ok (.if_icmp .le (9), 3) := by decide +kernel
theorem d_B_goToNextOrder_25 : decode prog_1_method_29_code 25 = .ok (.iinc 2 (-1), 3) := by decide +kernel
theorem d_B_goToNextOrder_28 : decode prog_1_method_29_code 28 = .ok (.goto (-24), 3) := by decide +kernel
theorem d_B_goToNextOrder_31 : decode prog_1_method_29_code 31 = .ok (.iload_n 2, 1) := by decide +kernel
theorem d_B_goToNextOrder_32 : decode prog_1_method_29_code 32 = .ok (.ifCond .ge (5), 3) := by decide +kernel
theorem d_B_goToNextOrder_35 : decode prog_1_method_29_code 35 = .ok (.iconst 0, 1) := by decide +kernel
theorem d_B_goToNextOrder_36 : decode prog_1_method_29_code 36 = .ok (.ireturn, 1) := by decide +kernel
theorem d_B_goToNextOrder_37 : decode prog_1_method_29_code 37 = .ok (.iload_n 1, 1) := by decide +kernel
theorem d_B_goToNextOrder_38 : decode prog_1_method_29_code 38 = .ok (.iconst 1, 1) := by decide +kernel
theorem d_B_goToNextOrder_39 : decode prog_1_method_29_code 39 = .ok (.isub, 1) := by decide +kernel
theorem d_B_goToNextOrder_40 : decode prog_1_method_29_code 40 = .ok (.istore_n 3, 1) := by decide +kernel
theorem d_B_goToNextOrder_41 : decode prog_1_method_29_code 41 = .ok (.iload_n 3, 1) := by decide +kernel
theorem d_B_goToNextOrder_42 : decode prog_1_method_29_code 42 = .ok (.iload_n 2, 1) := by decide +kernel
theorem d_B_goToNextOrder_43 : decode prog_1_method_29_code 43 = .ok (.if_icmp .le (24), 3) := by decide +kernel
theorem d_B_goToNextOrder_46 : decode prog_1_method_29_code 46 = .ok (.aload_n 0, 1) := by decide +kernel
theorem d_B_goToNextOrder_47 : decode prog_1_method_29_code 47 = .ok (.getfield 72, 3) := by decide +kernel
theorem d_B_goToNextOrder_50 : decode prog_1_method_29_code 50 = .ok (.iload_n 3, 1) := by decide +kernel
theorem d_B_goToNextOrder_51 : decode prog_1_method_29_code 51 = .ok (.iaload, 1) := by decide +kernel
theorem d_B_goToNextOrder_52 : decode prog_1_method_29_code 52 = .ok (.aload_n 0, 1) := by decide +kernel
theorem d_B_goToNextOrder_53 : decode prog_1_method_29_code 53 = .ok (.getfield 72, 3) := by decide +kernel
theorem d_B_goToNextOrder_56 : decode prog_1_method_29_code 56 = .ok (.iload_n 2, 1) := by decide +kernel
theorem d_B_goToNextOrder_57 : decode prog_1_method_29_code 57 = .ok (.iaload, 1) := by decide +kernel
theorem d_B_goToNextOrder_58 : decode prog_1_method_29_code 58 = .ok (.if_icmp .ge (9), 3) := by decide +kernel
theorem d_B_goToNextOrder_61 : decode prog_1_method_29_code 61 = .ok (.iinc 3 (-1), 3) := by decide +kernel
theorem d_B_goToNextOrder_64 : decode prog_1_method_29_code 64 = .ok (.goto (-23), 3) := by decide +kernel
theorem d_B_goToNextOrder_67 : decode prog_1_method_29_code 67 = .ok (.aload_n 0, 1) := by decide +kernel
theorem d_B_goToNextOrder_68 : decode prog_1_method_29_code 68 = .ok (.iload_n 2, 1) := by decide +kernel
theorem d_B_goToNextOrder_69 : decode prog_1_method_29_code 69 = .ok (.iload_n 3, 1) := by decide +kernel
theorem d_B_goToNextOrder_70 : decode prog_1_method_29_code 70 = .ok (.invokevirtual 280, 3) := by decide +kernel
theorem d_B_goToNextOrder_73 : decode prog_1_method_29_code 73 = .ok (.iload_n 2, 1) := by decide +kernel
theorem d_B_goToNextOrder_74 : decode prog_1_method_29_code 74 = .ok (.iconst 1, 1) := by decide +kernel
theorem d_B_goToNextOrder_75 : decode prog_1_method_29_code 75 = .ok (.iadd, 1) := by decide +kernel
theorem d_B_goToNextOrder_76 : decode prog_1_method_29_code 76 = .ok (.istore 4, 2) := by decide +kernel
theorem d_B_goToNextOrder_78 : decode prog_1_method_29_code 78 = .ok (.iload_n 1, 1) := by decide +kernel
theorem d_B_goToNextOrder_79 : decode prog_1_method_29_code 79 = .ok (.iconst 1, 1) := by decide +kernel
theorem d_B_goToNextOrder_80 : decode prog_1_method_29_code 80 = .ok (.isub, 1) := by decide +kernel
theorem d_B_goToNextOrder_81 : decode prog_1_method_29_code 81 = .ok (.istore 5, 2) := by decide +kernel
theorem d_B_goToNextOrder_83 : decode prog_1_method_29_code 83 = .ok (.iload 4, 2) := by decide +kernel
theorem d_B_goToNextOrder_85 : decode prog_1_method_29_code 85 = .ok (.iload 5, 2) := by decide +kernel
theorem d_B_goToNextOrder_87 : decode prog_1_method_29_code 87 = .ok (.if_icmp .ge (20), 3) := by decide +kernel
theorem d_B_goToNextOrder_90 : decode prog_1_method_29_code 90 = .ok (.aload_n 0, 1) := by decide +kernel
theorem d_B_goToNextOrder_91 : decode prog_1_method_29_code 91 = .ok (.iload 4, 2) := by decide +kernel
theorem d_B_goToNextOrder_93 : decode prog_1_method_29_code 93 = .ok (.iload 5, 2) := by decide +kernel
theorem d_B_goToNextOrder_95 : decode prog_1_method_29_code 95 = .ok (.invokevirtual 280, 3) := by decide +kernel
theorem d_B_goToNextOrder_98 : decode prog_1_method_29_code 98 = .ok (.iinc 4 (1), 3) := by decide +kernel
theorem d_B_goToNextOrder_101 : decode prog_1_method_29_code 101 = .ok (.iinc 5 (-1), 3) := by decide +kernel
theorem d_B_goToNextOrder_104 : decode prog_1_method_29_code 104 = .ok (.goto (-21), 3) := by decide +kernel
theorem d_B_goToNextOrder_107 : decode prog_1_method_29_code 107 = .ok (.iconst 1, 1) := by decide +kernel
theorem d_B_goToNextOrder_108 : decode prog_1_method_29_code 108 = .ok (.ireturn, 1) := by decide +kernel
set_option maxHeartbeats 4000000 in
set_option maxRecDepth 100000 in
theorem zf_B_goToNextOrder_L83 {G : zz_G} {l : Launch} {Z : zz_Z} {q : Int32 × zz_S} (C : zz_Cx G l "OneBlanket" "goToNextOrder" prog_1_method_29_code 6 (some .boolean) 3 (some (.int q.1), zsh, q.2) Z) : ∀ (n : Nat) (v4 : Int32) (v5 : Int32) (s : zz_S), f_B_goToNextOrder_L83 n v4 v5 s = some q → Z 83 [some (.ref 0), none, none, none, some (.int v4), some (.int v5)] [] zsh s := by
  intro n
  induction n with
  | zero => intro v4 v5 s h; rw [f_B_goToNextOrder_L83] at h; cases h
  | succ n ih =>
  intro v4 v5 s h
  rw [f_B_goToNextOrder_L83] at h
  refine zz_iload (i := 4) (pc := 83) C rfl d_B_goToNextOrder_83 ?_
  refine zz_iload (i := 5) (pc := 85) C rfl d_B_goToNextOrder_85 ?_
  refine zz_icmp_ge (tgt := 107) (pc := 87) C (by decide) d_B_goToNextOrder_87 (fun hc5 => ?_) (fun hc5 => ?_)
  · rw [if_pos hc5] at h
    refine zz_iconst (pc := 107) C zki_1 d_B_goToNextOrder_107 ?_
    replace h := Option.some.inj h
    subst h
    exact zz_ret (pc := 108) C (v := some (.int (1 : Int32))) d_B_goToNextOrder_108 (Or.inl ⟨_, _, rfl, rfl, rfl, (by decide)⟩) rfl
  · rw [if_neg hc5] at h
    refine zz_aload_n (i := 0) (pc := 90) C rfl rfl d_B_goToNextOrder_90 ?_
    refine zz_iload (i := 4) (pc := 91) C rfl d_B_goToNextOrder_91 ?_
    refine zz_iload (i := 5) (pc := 93) C rfl d_B_goToNextOrder_93 ?_
    obtain ⟨q6, hq6, h⟩ := zz_bdE h
    refine zz_cVv (as := [.int v4, .int v5]) (st := []) (pc := 95) C (zm_B_swapInOrder hq6) zcv_B_swapInOrder zsh_0 zl_11_280 (by omega) (Nat.le_of_ble_eq_true rfl) d_B_goToNextOrder_95 rfl rfl ?_
    refine zz_iinc (lo' := [some (.ref 0), none, none, none, some (.int (v4 + (1 : Int32))), some (.int v5)]) (pc := 98) C rfl (zz_inc zki_1) rfl rfl d_B_goToNextOrder_98 ?_
    refine zz_iinc (lo' := [some (.ref 0), none, none, none, some (.int (v4 + (1 : Int32))), some (.int (v5 + (-1 : Int32)))]) (pc := 101) C rfl (zz_inc zki_m1) rfl rfl d_B_goToNextOrder_101 ?_
    refine zz_goto (tgt := 83) (pc := 104) C (by decide) d_B_goToNextOrder_104 ?_
    exact ih (v4 + (1 : Int32)) (v5 + (-1 : Int32)) q6 h
set_option maxHeartbeats 4000000 in
set_option maxRecDepth 100000 in
theorem zf_B_goToNextOrder_J67 {G : zz_G} {l : Launch} {Z : zz_Z} {q : Int32 × zz_S} {s : zz_S} (C : zz_Cx G l "OneBlanket" "goToNextOrder" prog_1_method_29_code 6 (some .boolean) 3 (some (.int q.1), zsh, q.2) Z) (v1 : Int32) (v2 : Int32) (v3 : Int32) (h : f_B_goToNextOrder_J67 v1 v2 v3 s = some q) : Z 67 [some (.ref 0), some (.int v1), some (.int v2), some (.int v3), none, none] [] zsh s := by
  unfold f_B_goToNextOrder_J67 at h
  refine zz_aload_n (i := 0) (pc := 67) C rfl rfl d_B_goToNextOrder_67 ?_
  refine zz_iload_n (i := 2) (pc := 68) C rfl rfl d_B_goToNextOrder_68 ?_
  refine zz_iload_n (i := 3) (pc := 69) C rfl rfl d_B_goToNextOrder_69 ?_
  obtain ⟨q4, hq4, h⟩ := zz_bdE h
  refine zz_cVv (as := [.int v2, .int v3]) (st := []) (pc := 70) C (zm_B_swapInOrder hq4) zcv_B_swapInOrder zsh_0 zl_11_280 (by omega) (Nat.le_of_ble_eq_true rfl) d_B_goToNextOrder_70 rfl rfl ?_
  refine zz_iload_n (i := 2) (pc := 73) C rfl rfl d_B_goToNextOrder_73 ?_
  refine zz_iconst (pc := 74) C zki_1 d_B_goToNextOrder_74 ?_
  refine zz_iadd (pc := 75) C d_B_goToNextOrder_75 ?_
  refine zz_istore (i := 4) (lo' := [some (.ref 0), some (.int v1), some (.int v2), some (.int v3), some (.int (v2 + (1 : Int32))), none]) (pc := 76) C (Nat.le_of_ble_eq_true rfl) rfl rfl d_B_goToNextOrder_76 ?_
  refine zz_iload_n (i := 1) (pc := 78) C rfl rfl d_B_goToNextOrder_78 ?_
  refine zz_iconst (pc := 79) C zki_1 d_B_goToNextOrder_79 ?_
  refine zz_isub (pc := 80) C d_B_goToNextOrder_80 ?_
  refine zz_istore (i := 5) (lo' := [some (.ref 0), some (.int v1), some (.int v2), some (.int v3), some (.int (v2 + (1 : Int32))), some (.int (v1 - (1 : Int32)))]) (pc := 81) C (Nat.le_of_ble_eq_true rfl) rfl rfl d_B_goToNextOrder_81 ?_
  refine zz_fg C [true, false, false, false, true, true] rfl rfl ?_
  exact zf_B_goToNextOrder_L83 C zF (v2 + (1 : Int32)) (v1 - (1 : Int32)) q4 h
set_option maxHeartbeats 4000000 in
set_option maxRecDepth 100000 in
theorem zf_B_goToNextOrder_L41 {G : zz_G} {l : Launch} {Z : zz_Z} {q : Int32 × zz_S} (C : zz_Cx G l "OneBlanket" "goToNextOrder" prog_1_method_29_code 6 (some .boolean) 3 (some (.int q.1), zsh, q.2) Z) : ∀ (n : Nat) (v1 : Int32) (v2 : Int32) (v3 : Int32) (s : zz_S), f_B_goToNextOrder_L41 n v1 v2 v3 s = some q → Z 41 [some (.ref 0), some (.int v1), some (.int v2), some (.int v3), none, none] [] zsh s := by
  intro n
  induction n with
  | zero => intro v1 v2 v3 s h; rw [f_B_goToNextOrder_L41] at h; cases h
  | succ n ih =>
  intro v1 v2 v3 s h
  rw [f_B_goToNextOrder_L41] at h
  refine zz_iload_n (i := 3) (pc := 41) C rfl rfl d_B_goToNextOrder_41 ?_
  refine zz_iload_n (i := 2) (pc := 42) C rfl rfl d_B_goToNextOrder_42 ?_
  refine zz_icmp_le (tgt := 67) (pc := 43) C (by decide) d_B_goToNextOrder_43 (fun hc3 => ?_) (fun hc3 => ?_)
  · rw [if_pos hc3] at h
    exact zf_B_goToNextOrder_J67 C v1 v2 v3 h
  · rw [if_neg hc3] at h
    refine zz_aload_n (i := 0) (pc := 46) C rfl rfl d_B_goToNextOrder_46 ?_
    refine zz_getR (pc := 47) C zl_11_72 zsh_0 rfl d_B_goToNextOrder_47 ?_
    refine zz_iload_n (i := 3) (pc := 50) C rfl rfl d_B_goToNextOrder_50 ?_
    obtain ⟨hi7, h⟩ := zz_ckE h
    refine zz_iald (pc := 51) C rfl zsh_53 hi7 d_B_goToNextOrder_51 ?_
    refine zz_aload_n (i := 0) (pc := 52) C rfl rfl d_B_goToNextOrder_52 ?_
    refine zz_getR (pc := 53) C zl_11_72 zsh_0 rfl d_B_goToNextOrder_53 ?_
    refine zz_iload_n (i := 2) (pc := 56) C rfl rfl d_B_goToNextOrder_56 ?_
    obtain ⟨hi8, h⟩ := zz_ckE h
    refine zz_iald (pc := 57) C rfl zsh_53 hi8 d_B_goToNextOrder_57 ?_
    refine zz_icmp_ge (tgt := 67) (pc := 58) C (by decide) d_B_goToNextOrder_58 (fun hc9 => ?_) (fun hc9 => ?_)
    · rw [if_pos hc9] at h
      exact zf_B_goToNextOrder_J67 C v1 v2 v3 h
    · rw [if_neg hc9] at h
      refine zz_iinc (lo' := [some (.ref 0), some (.int v1), some (.int v2), some (.int (v3 + (-1 : Int32))), none, none]) (pc := 61) C rfl (zz_inc zki_m1) rfl rfl d_B_goToNextOrder_61 ?_
      refine zz_goto (tgt := 41) (pc := 64) C (by decide) d_B_goToNextOrder_64 ?_
      exact ih v1 v2 (v3 + (-1 : Int32)) s h
set_option maxHeartbeats 4000000 in
set_option maxRecDepth 100000 in
theorem zf_B_goToNextOrder_J31 {G : zz_G} {l : Launch} {Z : zz_Z} {q : Int32 × zz_S} {s : zz_S} (C : zz_Cx G l "OneBlanket" "goToNextOrder" prog_1_method_29_code 6 (some .boolean) 3 (some (.int q.1), zsh, q.2) Z) (v1 : Int32) (v2 : Int32) (h : f_B_goToNextOrder_J31 v1 v2 s = some q) : Z 31 [some (.ref 0), some (.int v1), some (.int v2), none, none, none] [] zsh s := by
  unfold f_B_goToNextOrder_J31 at h
  refine zz_iload_n (i := 2) (pc := 31) C rfl rfl d_B_goToNextOrder_31 ?_
  refine zz_if_ge (tgt := 37) (pc := 32) C (by decide) d_B_goToNextOrder_32 (fun hc2 => ?_) (fun hc2 => ?_)
  · rw [if_pos hc2] at h
    refine zz_iload_n (i := 1) (pc := 37) C rfl rfl d_B_goToNextOrder_37 ?_
    refine zz_iconst (pc := 38) C zki_1 d_B_goToNextOrder_38 ?_
    refine zz_isub (pc := 39) C d_B_goToNextOrder_39 ?_
    refine zz_istore_n (i := 3) (lo' := [some (.ref 0), some (.int v1), some (.int v2), some (.int (v1 - (1 : Int32))), none, none]) (pc := 40) C rfl (Nat.le_of_ble_eq_true rfl) rfl rfl d_B_goToNextOrder_40 ?_
    exact zf_B_goToNextOrder_L41 C zF v1 v2 (v1 - (1 : Int32)) s h
  · rw [if_neg hc2] at h
    refine zz_iconst (pc := 35) C zki_0 d_B_goToNextOrder_35 ?_
    replace h := Option.some.inj h
    subst h
    exact zz_ret (pc := 36) C (v := some (.int (0 : Int32))) d_B_goToNextOrder_36 (Or.inl ⟨_, _, rfl, rfl, rfl, (by decide)⟩) rfl
set_option maxHeartbeats 4000000 in
set_option maxRecDepth 100000 in
theorem zf_B_goToNextOrder_L4 {G : zz_G} {l : Launch} {Z : zz_Z} {q : Int32 × zz_S} (C : zz_Cx G l "OneBlanket" "goToNextOrder" prog_1_method_29_code 6 (some .boolean) 3 (some (.int q.1), zsh, q.2) Z) : ∀ (n : Nat) (v1 : Int32) (v2 : Int32) (s : zz_S), f_B_goToNextOrder_L4 n v1 v2 s = some q → Z 4 [some (.ref 0), some (.int v1), some (.int v2), none, none, none] [] zsh s := by
  intro n
  induction n with
  | zero => intro v1 v2 s h; rw [f_B_goToNextOrder_L4] at h; cases h
  | succ n ih =>
  intro v1 v2 s h
  rw [f_B_goToNextOrder_L4] at h
  refine zz_iload_n (i := 2) (pc := 4) C rfl rfl d_B_goToNextOrder_4 ?_
  refine zz_if_lt (tgt := 31) (pc := 5) C (by decide) d_B_goToNextOrder_5 (fun hc1 => ?_) (fun hc1 => ?_)
  · rw [if_pos hc1] at h
    exact zf_B_goToNextOrder_J31 C v1 v2 h
  · rw [if_neg hc1] at h
    refine zz_aload_n (i := 0) (pc := 8) C rfl rfl d_B_goToNextOrder_8 ?_
    refine zz_getR (pc := 9) C zl_11_72 zsh_0 rfl d_B_goToNextOrder_9 ?_
    refine zz_iload_n (i := 2) (pc := 12) C rfl rfl d_B_goToNextOrder_12 ?_
    obtain ⟨hi10, h⟩ := zz_ckE h
    refine zz_iald (pc := 13) C rfl zsh_53 hi10 d_B_goToNextOrder_13 ?_
    refine zz_aload_n (i := 0) (pc := 14) C rfl rfl d_B_goToNextOrder_14 ?_
    refine zz_getR (pc := 15) C zl_11_72 zsh_0 rfl d_B_goToNextOrder_15 ?_
    refine zz_iload_n (i := 2) (pc := 18) C rfl rfl d_B_goToNextOrder_18 ?_
    refine zz_iconst (pc := 19) C zki_1 d_B_goToNextOrder_19 ?_
    refine zz_iadd (pc := 20) C d_B_goToNextOrder_20 ?_
    obtain ⟨hi11, h⟩ := zz_ckE h
    refine zz_iald (pc := 21) C rfl zsh_53 hi11 d_B_goToNextOrder_21 ?_
    refine zz_icmp_le (tgt := 31) (pc := 22) C (by decide) d_B_goToNextOrder_22 (fun hc12 => ?_) (fun hc12 => ?_)
    · rw [if_pos hc12] at h
      exact zf_B_goToNextOrder_J31 C v1 v2 h
    · rw [if_neg hc12] at h
      refine zz_iinc (lo' := [some (.ref 0), some (.int v1), some (.int (v2 + (-1 : Int32))), none, none, none]) (pc := 25) C rfl (zz_inc zki_m1) rfl rfl d_B_goToNextOrder_25 ?_
      refine zz_goto (tgt := 4) (pc := 28) C (by decide) d_B_goToNextOrder_28 ?_
      exact ih v1 (v2 + (-1 : Int32)) s h
set_option maxHeartbeats 4000000 in
set_option maxRecDepth 100000 in
theorem zf_B_goToNextOrder {G : zz_G} {l : Launch} {Z : zz_Z} {q : Int32 × zz_S} {s : zz_S} (C : zz_Cx G l "OneBlanket" "goToNextOrder" prog_1_method_29_code 6 (some .boolean) 3 (some (.int q.1), zsh, q.2) Z) (a1 : Int32) (h : f_B_goToNextOrder a1 s = some q) : Z 0 [some (.ref 0), some (.int a1), none, none, none, none] [] zsh s := by
  unfold f_B_goToNextOrder at h
  refine zz_iload_n (i := 1) (pc := 0) C rfl rfl d_B_goToNextOrder_0 ?_
  refine zz_iconst (pc := 1) C zki_2 d_B_goToNextOrder_1 ?_
  refine zz_isub (pc := 2) C d_B_goToNextOrder_2 ?_
  refine zz_istore_n (i := 2) (lo' := [some (.ref 0), some (.int a1), some (.int (a1 - (2 : Int32))), none, none, none]) (pc := 3) C rfl (Nat.le_of_ble_eq_true rfl) rfl rfl d_B_goToNextOrder_3 ?_
  exact zf_B_goToNextOrder_L4 C zF a1 (a1 - (2 : Int32)) s h
theorem zm_B_goToNextOrder {G : zz_G} {l : Launch} {s : zz_S} {q : Int32 × zz_S} {a1 : Int32} (h : f_B_goToNextOrder a1 s = some q) : zz_M G l 3 y_B_goToNextOrder prog_1_method_29_code 6 (some .boolean) [.ref 0, .int a1] zsh s (some (.int q.1), zsh, q.2) :=
  zz_M.intro (by decide) (Nat.le_of_ble_eq_true rfl) (Nat.le_refl _) (Nat.le_refl _) (fun Z C => zf_B_goToNextOrder C a1 h)
theorem d_B_across_0 : decode prog_1_method_27_code 0 = .ok (.iload_n 1, 1) := by decide +kernel
theorem d_B_across_1 : decode prog_1_method_27_code 1 = .ok (.ifCond .lt (8), 3) := by decide +kernel
theorem d_B_across_4 : decode prog_1_method_27_code 4 = .ok (.iload_n 1, 1) := by decide +kernel
theorem d_B_across_5 : decode prog_1_method_27_code 5 = .ok (.iconst 1, 1) := by decide +kernel
theorem d_B_across_6 : decode prog_1_method_27_code 6 = .ok (.if_icmp .le (5), 3) := by decide +kernel
theorem d_B_across_9 : decode prog_1_method_27_code 9 = .ok (.iconst (-1), 1) := by decide +kernel
theorem d_B_across_10 : decode prog_1_method_27_code 10 = .ok (.ireturn, 1) := by decide +kernel
theorem d_B_across_11 : decode prog_1_method_27_code 11 = .ok (.aload_n 0, 1) := by decide +kernel
theorem d_B_across_12 : decode prog_1_method_27_code 12 = .ok (.getfield 12, 3) := by decide +kernel
theorem d_B_across_15 : decode prog_1_method_27_code 15 = .ok (.getfield 85, 3) := by decide +kernel
theorem d_B_across_18 : decode prog_1_method_27_code 18 = .ok (.istore_n 2, 1) := by decide +kernel
theorem d_B_across_19 : decode prog_1_method_27_code 19 = .ok (.iload_n 2, 1) := by decide +kernel
theorem d_B_across_20 : decode prog_1_method_27_code 20 = .ok (.ifCond .ne (6), 3) := by decide +kernel
theorem d_B_across_23 : decode prog_1_method_27_code 23 = .ok (.bipush (-5), 2) := by decide +kernel
theorem d_B_across_25 : decode prog_1_method_27_code 25 = .ok (.ireturn, 1) := by decide +kernel
theorem d_B_across_26 : decode prog_1_method_27_code 26 = .ok (.iconst 0, 1) := by decide +kernel
theorem d_B_across_27 : decode prog_1_method_27_code 27 = .ok (.istore_n 3, 1) := by decide +kernel
theorem d_B_across_28 : decode prog_1_method_27_code 28 = .ok (.iload_n 3, 1) := by decide +kernel
theorem d_B_across_29 : decode prog_1_method_27_code 29 = .ok (.iload_n 2, 1) := by decide +kernel
theorem d_B_across_30 : decode prog_1_method_27_code 30 = .ok (.if_icmp .ge (16), 3) := by decide +kernel
theorem d_B_across_33 : decode prog_1_method_27_code 33 = .ok (.aload_n 0, 1) := by decide +kernel
theorem d_B_across_34 : decode prog_1_method_27_code 34 = .ok (.getfield 72, 3) := by decide +kernel
theorem d_B_across_37 : decode prog_1_method_27_code 37 = .ok (.iload_n 3, 1) := by decide +kernel
theorem d_B_across_38 : decode prog_1_method_27_code 38 = .ok (.iload_n 3, 1) := by decide +kernel
theorem d_B_across_39 : decode prog_1_method_27_code 39 = .ok (.iastore, 1) := by decide +kernel
theorem d_B_across_40 : decode prog_1_method_27_code 40 = .ok (.iinc 3 (1), 3) := by decide +kernel
theorem d_B_across_43 : decode prog_1_method_27_code 43 = .ok (.goto (-15), 3) := by decide +kernel
theorem d_B_across_46 : decode prog_1_method_27_code 46 = .ok (.iconst 0, 1) := by decide +kernel
theorem d_B_across_47 : decode prog_1_method_27_code 47 = .ok (.istore_n 3, 1) := by decide +kernel
theorem d_B_across_48 : decode prog_1_method_27_code 48 = .ok (.iconst (-1), 1) := by decide +kernel
theorem d_B_across_49 : decode prog_1_method_27_code 49 = .ok (.istore 4, 2) := by decide +kernel
theorem d_B_across_51 : decode prog_1_method_27_code 51 = .ok (.iconst 1, 1) := by decide +kernel
theorem d_B_across_52 : decode prog_1_method_27_code 52 = .ok (.istore 5, 2) := by decide +kernel
theorem d_B_across_54 : decode prog_1_method_27_code 54 = .ok (.iconst 0, 1) := by decide +kernel
theorem d_B_across_55 : decode prog_1_method_27_code 55 = .ok (.istore 6, 2) := by decide +kernel
theorem d_B_across_57 : decode prog_1_method_27_code 57 = .ok (.iload 6, 2) := by decide +kernel
theorem d_B_across_59 : decode prog_1_method_27_code 59 = .ok (.sipush (720), 3) := by decide +kernel
theorem d_B_across_62 : decode prog_1_method_27_code 62 = .ok (.if_icmp .ge (91), 3) := by decide +kernel
theorem d_B_across_65 : decode prog_1_method_27_code 65 = .ok (.iload 5, 2) := by decide +kernel
theorem d_B_across_67 : decode prog_1_method_27_code 67 = .ok (.ifCond .eq (86), 3) := by decide +kernel
theorem d_B_across_70 : decode prog_1_method_27_code 70 = .ok (.aload_n 0, 1) := by decide +kernel
theorem d_B_across_71 : decode prog_1_method_27_code 71 = .ok (.getfield 12, 3) := by decide +kernel
theorem d_B_across_74 : decode prog_1_method_27_code 74 = .ok (.aload_n 0, 1) := by decide +kernel
theorem d_B_across_75 : decode prog_1_method_27_code 75 = .ok (.getfield 72, 3) := by decide +kernel
theorem d_B_across_78 : decode prog_1_method_27_code 78 = .ok (.aload_n 0, 1) := by decide +kernel
theorem d_B_across_79 : decode prog_1_method_27_code 79 = .ok (.getfield 76, 3) := by decide +kernel
theorem d_B_across_82 : decode prog_1_method_27_code 82 = .ok (.invokevirtual 270, 3) := by decide +kernel
theorem d_B_across_85 : decode prog_1_method_27_code 85 = .ok (.aload_n 0, 1) := by decide +kernel
theorem d_B_across_86 : decode prog_1_method_27_code 86 = .ok (.getfield 41, 3) := by decide +kernel
theorem d_B_across_89 : decode prog_1_method_27_code 89 = .ok (.aload_n 0, 1) := by decide +kernel
theorem d_B_across_90 : decode prog_1_method_27_code 90 = .ok (.getfield 79, 3) := by decide +kernel
theorem d_B_across_93 : decode prog_1_method_27_code 93 = .ok (.aload_n 0, 1) := by decide +kernel
theorem d_B_across_94 : decode prog_1_method_27_code 94 = .ok (.getfield 76, 3) := by decide +kernel
theorem d_B_across_97 : decode prog_1_method_27_code 97 = .ok (.invokevirtual 245, 3) := by decide +kernel
theorem d_B_across_100 : decode prog_1_method_27_code 100 = .ok (.aload_n 0, 1) := by decide +kernel
theorem d_B_across_101 : decode prog_1_method_27_code 101 = .ok (.getfield 41, 3) := by decide +kernel
theorem d_B_across_104 : decode prog_1_method_27_code 104 = .ok (.sipush (479), 3) := by decide +kernel
theorem d_B_across_107 : decode prog_1_method_27_code 107 = .ok (.invokevirtual 249, 3) := by decide +kernel
theorem d_B_across_110 : decode prog_1_method_27_code 110 = .ok (.aload_n 0, 1) := by decide +kernel
theorem d_B_across_111 : decode prog_1_method_27_code 111 = .ok (.getfield 41, 3) := by decide +kernel
theorem d_B_across_114 : decode prog_1_method_27_code 114 = .ok (.getfield 220, 3) := by decide +kernel
theorem d_B_across_117 : decode prog_1_method_27_code 117 = .ok (.iload_n 2, 1) := by decide +kernel
theorem d_B_across_118 : decode prog_1_method_27_code 118 = .ok (.invokevirtual 267, 3) := by decide +kernel
theorem d_B_across_121 : decode prog_1_method_27_code 121 = .ok (.istore 7, 2) := by decide +kernel
theorem d_B_across_123 : decode prog_1_method_27_code 123 = .ok (.iload 7, 2) := by decide +kernel
theorem d_B_across_125 : decode prog_1_method_27_code 125 = .ok (.iload 4, 2) := by decide +kernel
theorem d_B_across_127 : decode prog_1_method_27_code 127 = .ok (.if_icmp .le (13), 3) := by decide +kernel
theorem d_B_across_130 : decode prog_1_method_27_code 130 = .ok (.iload 7, 2) := by decide +kernel
theorem d_B_across_132 : decode prog_1_method_27_code 132 = .ok (.istore 4, 2) := by decide +kernel
theorem d_B_across_134 : decode prog_1_method_27_code 134 = .ok (.aload_n 0, 1) := by decide +kernel
theorem d_B_across_135 : decode prog_1_method_27_code 135 = .ok (.iload_n 2, 1) := by decide +kernel
theorem d_B_across_136 : decode prog_1_method_27_code 136 = .ok (.invokevirtual 274, 3) := by decide +kernel
theorem d_B_across_139 : decode prog_1_method_27_code 139 = .ok (.istore_n 3, 1) := by decide +kernel
theorem d_B_across_140 : decode prog_1_method_27_code 140 = .ok (.aload_n 0, 1) := by decide +kernel
theorem d_B_across_141 : decode prog_1_method_27_code 141 = .ok (.iload_n 2, 1) := by decide +kernel
theorem d_B_across_142 : decode prog_1_method_27_code 142 = .ok (.invokevirtual 277, 3) := by decide +kernel
theorem d_B_across_145 : decode prog_1_method_27_code 145 = .ok (.istore 5, 2) := by decide +kernel
theorem d_B_across_147 : decode prog_1_method_27_code 147 = .ok (.iinc 6 (1), 3) := by decide +kernel
theorem d_B_across_150 : decode prog_1_method_27_code 150 = .ok (.goto (-93), 3) := by decide +kernel
theorem d_B_across_153 : decode prog_1_method_27_code 153 = .ok (.iload_n 1, 1) := by decide +kernel
theorem d_B_across_154 : decode prog_1_method_27_code 154 = .ok (.ifCond .ne (7), 3) := by decide +kernel
theorem d_B_across_157 : decode prog_1_method_27_code 157 = .ok (.iload_n 3, 1) := by decide +kernel
theorem d_B_across_158 : decode prog_1_method_27_code 158 = .ok (.goto (5), 3) := by decide +kernel
theorem d_B_across_161 : decode prog_1_method_27_code 161 = .ok (.iload 4, 2) := by decide +kernel
theorem d_B_across_163 : decode prog_1_method_27_code 163 = .ok (.ireturn, 1) := by decide +kernel
set_option maxHeartbeats 4000000 in
set_option maxRecDepth 100000 in
theorem zf_B_across_J153 {G : zz_G} {l : Launch} {Z : zz_Z} {q : Int32 × zz_S} {s : zz_S} (C : zz_Cx G l "OneBlanket" "across" prog_1_method_27_code 8 (some .int) 8 (some (.int q.1), zsh, q.2) Z) (v1 : Int32) (v3 : Int32) (v4 : Int32) (h : f_B_across_J153 v1 v3 v4 s = some q) : Z 153 [none, some (.int v1), none, some (.int v3), some (.int v4), none, none, none] [] zsh s := by
  unfold f_B_across_J153 at h
  refine zz_iload_n (i := 1) (pc := 153) C rfl rfl d_B_across_153 ?_
  refine zz_if_ne (tgt := 161) (pc := 154) C (by decide) d_B_across_154 (fun hc6 => ?_) (fun hc6 => ?_)
  · rw [if_neg hc6] at h
    refine zz_iload (i := 4) (pc := 161) C rfl d_B_across_161 ?_
    replace h := Option.some.inj h
    subst h
    exact zz_ret (pc := 163) C (v := some (.int v4)) d_B_across_163 (Or.inl ⟨_, _, rfl, rfl, rfl, rfl⟩) rfl
  · rw [if_pos hc6] at h
    refine zz_iload_n (i := 3) (pc := 157) C rfl rfl d_B_across_157 ?_
    refine zz_goto (tgt := 163) (pc := 158) C (by decide) d_B_across_158 ?_
    replace h := Option.some.inj h
    subst h
    exact zz_ret (pc := 163) C (v := some (.int v3)) d_B_across_163 (Or.inl ⟨_, _, rfl, rfl, rfl, rfl⟩) rfl
set_option maxHeartbeats 4000000 in
set_option maxRecDepth 100000 in
theorem zf_B_across_J140 {G : zz_G} {l : Launch} {Z : zz_Z} {q : Int32 × zz_S} {s : zz_S} (C : zz_Cx G l "OneBlanket" "across" prog_1_method_27_code 8 (some .int) 8 (some (.int q.1), zsh, q.2) Z) (K57 : Int32 → Int32 → Int32 → Int32 → Int32 → Int32 → zz_S → Option (Int32 × zz_S)) (hK57 : ∀ (v1 : Int32) (v2 : Int32) (v3 : Int32) (v4 : Int32) (v5 : Int32) (v6 : Int32) (s : zz_S), K57 v1 v2 v3 v4 v5 v6 s = some q → Z 57 [some (.ref 0), some (.int v1), some (.int v2), some (.int v3), some (.int v4), some (.int v5), some (.int v6), none] [] zsh s) (v1 : Int32) (v2 : Int32) (v3 : Int32) (v4 : Int32) (v6 : Int32) (h : f_B_across_J140 K57 v1 v2 v3 v4 v6 s = some q) : Z 140 [some (.ref 0), some (.int v1), some (.int v2), some (.int v3), some (.int v4), none, some (.int v6), none] [] zsh s := by
  unfold f_B_across_J140 at h
  refine zz_aload_n (i := 0) (pc := 140) C rfl rfl d_B_across_140 ?_
  refine zz_iload_n (i := 2) (pc := 141) C rfl rfl d_B_across_141 ?_
  obtain ⟨q13, hq13, h⟩ := zz_bdE h
  refine zz_cVi (as := [.int v2]) (st := []) (pc := 142) C (zm_B_goToNextOrder hq13) zcv_B_goToNextOrder zsh_0 zl_11_277 (by omega) (Nat.le_of_ble_eq_true rfl) d_B_across_142 rfl rfl ?_
  refine zz_istore (i := 5) (lo' := [some (.ref 0), some (.int v1), some (.int v2), some (.int v3), some (.int v4), some (.int q13.1), some (.int v6), none]) (pc := 145) C (Nat.le_of_ble_eq_true rfl) rfl rfl d_B_across_145 ?_
  refine zz_iinc (lo' := [some (.ref 0), some (.int v1), some (.int v2), some (.int v3), some (.int v4), some (.int q13.1), some (.int (v6 + (1 : Int32))), none]) (pc := 147) C rfl (zz_inc zki_1) rfl rfl d_B_across_147 ?_
  refine zz_goto (tgt := 57) (pc := 150) C (by decide) d_B_across_150 ?_
  exact hK57 v1 v2 v3 v4 q13.1 (v6 + (1 : Int32)) q13.2 h
set_option maxHeartbeats 4000000 in
set_option maxRecDepth 100000 in
theorem zf_B_across_L57 {G : zz_G} {l : Launch} {Z : zz_Z} {q : Int32 × zz_S} (C : zz_Cx G l "OneBlanket" "across" prog_1_method_27_code 8 (some .int) 8 (some (.int q.1), zsh, q.2) Z) : ∀ (n : Nat) (v1 : Int32) (v2 : Int32) (v3 : Int32) (v4 : Int32) (v5 : Int32) (v6 : Int32) (s : zz_S), f_B_across_L57 n v1 v2 v3 v4 v5 v6 s = some q → Z 57 [some (.ref 0), some (.int v1), some (.int v2), some (.int v3), some (.int v4), some (.int v5), some (.int v6), none] [] zsh s := by
  intro n
  induction n with
  | zero => intro v1 v2 v3 v4 v5 v6 s h; rw [f_B_across_L57] at h; cases h
  | succ n ih =>
  intro v1 v2 v3 v4 v5 v6 s h
  rw [f_B_across_L57] at h
  refine zz_iload (i := 6) (pc := 57) C rfl d_B_across_57 ?_
  refine zz_sipush (pc := 59) C zks_720 d_B_across_59 ?_
  refine zz_icmp_ge (tgt := 153) (pc := 62) C (by decide) d_B_across_62 (fun hc5 => ?_) (fun hc5 => ?_)
  · rw [if_pos hc5] at h
    refine zz_fg C [false, true, false, true, true, false, false, false] rfl rfl ?_
    exact zf_B_across_J153 C v1 v3 v4 h
  · rw [if_neg hc5] at h
    refine zz_iload (i := 5) (pc := 65) C rfl d_B_across_65 ?_
    refine zz_if_eq (tgt := 153) (pc := 67) C (by decide) d_B_across_67 (fun hc7 => ?_) (fun hc7 => ?_)
    · rw [if_pos hc7] at h
      refine zz_fg C [false, true, false, true, true, false, false, false] rfl rfl ?_
      exact zf_B_across_J153 C v1 v3 v4 h
    · rw [if_neg hc7] at h
      refine zz_aload_n (i := 0) (pc := 70) C rfl rfl d_B_across_70 ?_
      refine zz_getR (pc := 71) C zl_11_12 zsh_0 rfl d_B_across_71 ?_
      refine zz_aload_n (i := 0) (pc := 74) C rfl rfl d_B_across_74 ?_
      refine zz_getR (pc := 75) C zl_11_72 zsh_0 rfl d_B_across_75 ?_
      refine zz_aload_n (i := 0) (pc := 78) C rfl rfl d_B_across_78 ?_
      refine zz_getR (pc := 79) C zl_11_76 zsh_0 rfl d_B_across_79 ?_
      obtain ⟨q8, hq8, h⟩ := zz_bdE h
      refine zz_cVv (as := [.ref 53, .ref 54]) (st := []) (pc := 82) C (zm_Bed_laySideBySide hq8) zcv_Bed_laySideBySide zsh_1 zl_11_270 (by omega) (Nat.le_of_ble_eq_true rfl) d_B_across_82 rfl rfl ?_
      refine zz_aload_n (i := 0) (pc := 85) C rfl rfl d_B_across_85 ?_
      refine zz_getR (pc := 86) C zl_11_41 zsh_0 rfl d_B_across_86 ?_
      refine zz_aload_n (i := 0) (pc := 89) C rfl rfl d_B_across_89 ?_
      refine zz_getI (pc := 90) C zl_11_79 zsh_0 rfl d_B_across_90 ?_
      refine zz_aload_n (i := 0) (pc := 93) C rfl rfl d_B_across_93 ?_
      refine zz_getR (pc := 94) C zl_11_76 zsh_0 rfl d_B_across_94 ?_
      obtain ⟨q9, hq9, h⟩ := zz_bdE h
      refine zz_cVv (as := [.int (q8.1 0 12), .ref 54]) (st := []) (pc := 97) C (zm_Night_begin (by decide) hq9) zcv_Night_begin zsh_20 zl_11_245 (by omega) (Nat.le_of_ble_eq_true rfl) d_B_across_97 rfl rfl ?_
      refine zz_aload_n (i := 0) (pc := 100) C rfl rfl d_B_across_100 ?_
      refine zz_getR (pc := 101) C zl_11_41 zsh_0 rfl d_B_across_101 ?_
      refine zz_sipush (pc := 104) C zks_479 d_B_across_104 ?_
      obtain ⟨q10, hq10, h⟩ := zz_bdE h
      refine zz_cVv (as := [.int (479 : Int32)]) (st := []) (pc := 107) C (zm_Night_play hq10) zcv_Night_play zsh_20 zl_11_249 (by omega) (Nat.le_of_ble_eq_true rfl) d_B_across_107 rfl rfl ?_
      refine zz_aload_n (i := 0) (pc := 110) C rfl rfl d_B_across_110 ?_
      refine zz_getR (pc := 111) C zl_11_41 zsh_0 rfl d_B_across_111 ?_
      refine zz_getR (pc := 114) C zl_11_220 zsh_20 rfl d_B_across_114 ?_
      refine zz_iload_n (i := 2) (pc := 117) C rfl rfl d_B_across_117 ?_
      obtain ⟨q11, hq11, h⟩ := zz_bdE h
      refine zz_cVi (as := [.int v2]) (st := []) (pc := 118) C (zm_Tally_leastEasy hq11) zcv_Tally_leastEasy zsh_21 zl_11_267 (by omega) (Nat.le_of_ble_eq_true rfl) d_B_across_118 rfl rfl ?_
      refine zz_istore (i := 7) (lo' := [some (.ref 0), some (.int v1), some (.int v2), some (.int v3), some (.int v4), some (.int v5), some (.int v6), some (.int q11)]) (pc := 121) C (Nat.le_of_ble_eq_true rfl) rfl rfl d_B_across_121 ?_
      refine zz_iload (i := 7) (pc := 123) C rfl d_B_across_123 ?_
      refine zz_iload (i := 4) (pc := 125) C rfl d_B_across_125 ?_
      refine zz_icmp_le (tgt := 140) (pc := 127) C (by decide) d_B_across_127 (fun hc12 => ?_) (fun hc12 => ?_)
      · rw [if_pos hc12] at h
        refine zz_fg C [true, true, true, true, true, false, true, false] rfl rfl ?_
        exact zf_B_across_J140 C (f_B_across_L57 n) ih v1 v2 v3 v4 v6 h
      · rw [if_neg hc12] at h
        refine zz_iload (i := 7) (pc := 130) C rfl d_B_across_130 ?_
        refine zz_istore (i := 4) (lo' := [some (.ref 0), some (.int v1), some (.int v2), some (.int v3), some (.int q11), some (.int v5), some (.int v6), some (.int q11)]) (pc := 132) C (Nat.le_of_ble_eq_true rfl) rfl rfl d_B_across_132 ?_
        refine zz_aload_n (i := 0) (pc := 134) C rfl rfl d_B_across_134 ?_
        refine zz_iload_n (i := 2) (pc := 135) C rfl rfl d_B_across_135 ?_
        obtain ⟨q14, hq14, h⟩ := zz_bdE h
        refine zz_cVi (as := [.int v2]) (st := []) (pc := 136) C (zm_B_orderAsDigits hq14) zcv_B_orderAsDigits zsh_0 zl_11_274 (by omega) (Nat.le_of_ble_eq_true rfl) d_B_across_136 rfl rfl ?_
        refine zz_istore_n (i := 3) (lo' := [some (.ref 0), some (.int v1), some (.int v2), some (.int q14), some (.int q11), some (.int v5), some (.int v6), some (.int q11)]) (pc := 139) C rfl (Nat.le_of_ble_eq_true rfl) rfl rfl d_B_across_139 ?_
        refine zz_fg C [true, true, true, true, true, false, true, false] rfl rfl ?_
        exact zf_B_across_J140 C (f_B_across_L57 n) ih v1 v2 q14 q11 v6 h
set_option maxHeartbeats 4000000 in
set_option maxRecDepth 100000 in
theorem zf_B_across_L28 {G : zz_G} {l : Launch} {Z : zz_Z} {q : Int32 × zz_S} (C : zz_Cx G l "OneBlanket" "across" prog_1_method_27_code 8 (some .int) 8 (some (.int q.1), zsh, q.2) Z) : ∀ (n : Nat) (v1 : Int32) (v2 : Int32) (v3 : Int32) (s : zz_S), f_B_across_L28 n v1 v2 v3 s = some q → Z 28 [some (.ref 0), some (.int v1), some (.int v2), some (.int v3), none, none, none, none] [] zsh s := by
  intro n
  induction n with
  | zero => intro v1 v2 v3 s h; rw [f_B_across_L28] at h; cases h
  | succ n ih =>
  intro v1 v2 v3 s h
  rw [f_B_across_L28] at h
  refine zz_iload_n (i := 3) (pc := 28) C rfl rfl d_B_across_28 ?_
  refine zz_iload_n (i := 2) (pc := 29) C rfl rfl d_B_across_29 ?_
  refine zz_icmp_ge (tgt := 46) (pc := 30) C (by decide) d_B_across_30 (fun hc4 => ?_) (fun hc4 => ?_)
  · rw [if_pos hc4] at h
    refine zz_iconst (pc := 46) C zki_0 d_B_across_46 ?_
    refine zz_istore_n (i := 3) (lo' := [some (.ref 0), some (.int v1), some (.int v2), some (.int (0 : Int32)), none, none, none, none]) (pc := 47) C rfl (Nat.le_of_ble_eq_true rfl) rfl rfl d_B_across_47 ?_
    refine zz_iconst (pc := 48) C zki_m1 d_B_across_48 ?_
    refine zz_istore (i := 4) (lo' := [some (.ref 0), some (.int v1), some (.int v2), some (.int (0 : Int32)), some (.int (-1 : Int32)), none, none, none]) (pc := 49) C (Nat.le_of_ble_eq_true rfl) rfl rfl d_B_across_49 ?_
    refine zz_iconst (pc := 51) C zki_1 d_B_across_51 ?_
    refine zz_istore (i := 5) (lo' := [some (.ref 0), some (.int v1), some (.int v2), some (.int (0 : Int32)), some (.int (-1 : Int32)), some (.int (1 : Int32)), none, none]) (pc := 52) C (Nat.le_of_ble_eq_true rfl) rfl rfl d_B_across_52 ?_
    refine zz_iconst (pc := 54) C zki_0 d_B_across_54 ?_
    refine zz_istore (i := 6) (lo' := [some (.ref 0), some (.int v1), some (.int v2), some (.int (0 : Int32)), some (.int (-1 : Int32)), some (.int (1 : Int32)), some (.int (0 : Int32)), none]) (pc := 55) C (Nat.le_of_ble_eq_true rfl) rfl rfl d_B_across_55 ?_
    exact zf_B_across_L57 C zF v1 v2 (0 : Int32) (-1 : Int32) (1 : Int32) (0 : Int32) s h
  · rw [if_neg hc4] at h
    refine zz_aload_n (i := 0) (pc := 33) C rfl rfl d_B_across_33 ?_
    refine zz_getR (pc := 34) C zl_11_72 zsh_0 rfl d_B_across_34 ?_
    refine zz_iload_n (i := 3) (pc := 37) C rfl rfl d_B_across_37 ?_
    refine zz_iload_n (i := 3) (pc := 38) C rfl rfl d_B_across_38 ?_
    obtain ⟨hi15, h⟩ := zz_ckE h
    refine zz_iast (pc := 39) C rfl zsh_53 hi15 d_B_across_39 ?_
    refine zz_iinc (lo' := [some (.ref 0), some (.int v1), some (.int v2), some (.int (v3 + (1 : Int32))), none, none, none, none]) (pc := 40) C rfl (zz_inc zki_1) rfl rfl d_B_across_40 ?_
    refine zz_goto (tgt := 28) (pc := 43) C (by decide) d_B_across_43 ?_
    exact ih v1 v2 (v3 + (1 : Int32)) (zz_w s 53 (v3.toNatClampNeg) v3) h
set_option maxHeartbeats 4000000 in
set_option maxRecDepth 100000 in
theorem zf_B_across {G : zz_G} {l : Launch} {Z : zz_Z} {q : Int32 × zz_S} {s : zz_S} (C : zz_Cx G l "OneBlanket" "across" prog_1_method_27_code 8 (some .int) 8 (some (.int q.1), zsh, q.2) Z) (a1 : Int32) (h : f_B_across a1 s = some q) : Z 0 [some (.ref 0), some (.int a1), none, none, none, none, none, none] [] zsh s := by
  unfold f_B_across at h
  refine zz_iload_n (i := 1) (pc := 0) C rfl rfl d_B_across_0 ?_
  refine zz_if_lt (tgt := 9) (pc := 1) C (by decide) d_B_across_1 (fun hc1 => ?_) (fun hc1 => ?_)
  · rw [if_pos hc1] at h
    refine zz_iconst (pc := 9) C zki_m1 d_B_across_9 ?_
    replace h := Option.some.inj h
    subst h
    exact zz_ret (pc := 10) C (v := some (.int (-1 : Int32))) d_B_across_10 (Or.inl ⟨_, _, rfl, rfl, rfl, rfl⟩) rfl
  · rw [if_neg hc1] at h
    refine zz_iload_n (i := 1) (pc := 4) C rfl rfl d_B_across_4 ?_
    refine zz_iconst (pc := 5) C zki_1 d_B_across_5 ?_
    refine zz_icmp_le (tgt := 11) (pc := 6) C (by decide) d_B_across_6 (fun hc2 => ?_) (fun hc2 => ?_)
    · rw [if_pos hc2] at h
      refine zz_aload_n (i := 0) (pc := 11) C rfl rfl d_B_across_11 ?_
      refine zz_getR (pc := 12) C zl_11_12 zsh_0 rfl d_B_across_12 ?_
      refine zz_getI (pc := 15) C zl_11_85 zsh_1 rfl d_B_across_15 ?_
      refine zz_istore_n (i := 2) (lo' := [some (.ref 0), some (.int a1), some (.int (s.1 1 1)), none, none, none, none, none]) (pc := 18) C rfl (Nat.le_of_ble_eq_true rfl) rfl rfl d_B_across_18 ?_
      refine zz_iload_n (i := 2) (pc := 19) C rfl rfl d_B_across_19 ?_
      refine zz_if_ne (tgt := 26) (pc := 20) C (by decide) d_B_across_20 (fun hc3 => ?_) (fun hc3 => ?_)
      · rw [if_neg hc3] at h
        refine zz_iconst (pc := 26) C zki_0 d_B_across_26 ?_
        refine zz_istore_n (i := 3) (lo' := [some (.ref 0), some (.int a1), some (.int (s.1 1 1)), some (.int (0 : Int32)), none, none, none, none]) (pc := 27) C rfl (Nat.le_of_ble_eq_true rfl) rfl rfl d_B_across_27 ?_
        exact zf_B_across_L28 C zF a1 (s.1 1 1) (0 : Int32) s h
      · rw [if_pos hc3] at h
        refine zz_bipush (pc := 23) C zkb_m5 d_B_across_23 ?_
        replace h := Option.some.inj h
        subst h
        exact zz_ret (pc := 25) C (v := some (.int (-5 : Int32))) d_B_across_25 (Or.inl ⟨_, _, rfl, rfl, rfl, rfl⟩) rfl
    · rw [if_neg hc2] at h
      refine zz_iconst (pc := 9) C zki_m1 d_B_across_9 ?_
      replace h := Option.some.inj h
      subst h
      exact zz_ret (pc := 10) C (v := some (.int (-1 : Int32))) d_B_across_10 (Or.inl ⟨_, _, rfl, rfl, rfl, rfl⟩) rfl
theorem zm_B_across {G : zz_G} {l : Launch} {s : zz_S} {q : Int32 × zz_S} {a1 : Int32} (h : f_B_across a1 s = some q) : zz_M G l 8 y_B_across prog_1_method_27_code 8 (some .int) [.ref 0, .int a1] zsh s (some (.int q.1), zsh, q.2) :=
  zz_M.intro (by decide) (Nat.le_of_ble_eq_true rfl) (Nat.le_refl _) (Nat.le_refl _) (fun Z C => zf_B_across C a1 h)
theorem d_B_act_0 : decode prog_1_method_38_code 0 = .ok (.aload_n 0, 1) := by decide +kernel
theorem d_B_act_1 : decode prog_1_method_38_code 1 = .ok (.getfield 62, 3) := by decide +kernel
theorem d_B_act_4 : decode prog_1_method_38_code 4 = .ok (.iload_n 1, 1) := by decide +kernel
theorem d_B_act_5 : decode prog_1_method_38_code 5 = .ok (.iload_n 2, 1) := by decide +kernel
theorem d_B_act_6 : decode prog_1_method_38_code 6 = .ok (.iload_n 3, 1) := by decide +kernel
theorem d_B_act_7 : decode prog_1_method_38_code 7 = .ok (.invokevirtual 324, 3) := by decide +kernel
theorem d_B_act_10 : decode prog_1_method_38_code 10 = .ok (.ireturn, 1) := by decide +kernel
set_option maxHeartbeats 4000000 in
set_option maxRecDepth 100000 in
theorem zf_B_act {G : zz_G} {l : Launch} {Z : zz_Z} {q : Int32 × zz_S} {s : zz_S} (C : zz_Cx G l "OneBlanket" "act" prog_1_method_38_code 4 (some .int) 204 (some (.int q.1), zsh, q.2) Z) (a1 : Int32) (a2 : Int32) (a3 : Int32) (h : f_B_act a1 a2 a3 s = some q) : Z 0 [some (.ref 0), some (.int a1), some (.int a2), some (.int a3)] [] zsh s := by
  unfold f_B_act at h
  refine zz_aload_n (i := 0) (pc := 0) C rfl rfl d_B_act_0 ?_
  refine zz_getR (pc := 1) C zl_11_62 zsh_0 rfl d_B_act_1 ?_
  refine zz_iload_n (i := 1) (pc := 4) C rfl rfl d_B_act_4 ?_
  refine zz_iload_n (i := 2) (pc := 5) C rfl rfl d_B_act_5 ?_
  refine zz_iload_n (i := 3) (pc := 6) C rfl rfl d_B_act_6 ?_
  obtain ⟨q1, hq1, h⟩ := zz_bdE h
  refine zz_cVi (as := [.int a1, .int a2, .int a3]) (st := []) (pc := 7) C (zm_Bodies_runFirst hq1) zcv_Bodies_runFirst zsh_49 zl_11_324 (by omega) (Nat.le_of_ble_eq_true rfl) d_B_act_7 rfl rfl ?_
  replace h := Option.some.inj h
  subst h
  exact zz_ret (pc := 10) C (v := some (.int q1.1)) d_B_act_10 (Or.inl ⟨_, _, rfl, rfl, rfl, rfl⟩) rfl
theorem zm_B_act {G : zz_G} {l : Launch} {s : zz_S} {q : Int32 × zz_S} {a1 : Int32} {a2 : Int32} {a3 : Int32} (h : f_B_act a1 a2 a3 s = some q) : zz_M G l 204 y_B_act prog_1_method_38_code 4 (some .int) [.ref 0, .int a1, .int a2, .int a3] zsh s (some (.int q.1), zsh, q.2) :=
  zz_M.intro (by decide) (Nat.le_of_ble_eq_true rfl) (Nat.le_refl _) (Nat.le_refl _) (fun Z C => zf_B_act C a1 a2 a3 h)
theorem d_B_isKind_0 : decode prog_1_method_49_code 0 = .ok (.iload_n 0, 1) := by decide +kernel
theorem d_B_isKind_1 : decode prog_1_method_49_code 1 = .ok (.ifCond .lt (13), 3) := by decide +kernel
theorem d_B_isKind_4 : decode prog_1_method_49_code 4 = .ok (.iload_n 0, 1) := by decide +kernel
theorem d_B_isKind_5 : decode prog_1_method_49_code 5 = .ok (.bipush (8), 2) := by decide +kernel
theorem d_B_isKind_7 : decode prog_1_method_49_code 7 = .ok (.if_icmp .ge (7), 3) := by decide +kernel
theorem d_B_isKind_10 : decode prog_1_method_49_code 10 = .ok (.iconst 1, 1) := by decide +kernel
theorem d_B_isKind_11 : decode prog_1_method_49_code 11 = .ok (.goto (4), 3) := by decide +kernel
theorem d_B_isKind_14 : decode prog_1_method_49_code 14 = .ok (.iconst 0, 1) := by decide +kernel
theorem d_B_isKind_15 : decode prog_1_method_49_code 15 = .ok (.ireturn, 1) := by decide +kernel
set_option maxHeartbeats 4000000 in
set_option maxRecDepth 100000 in
theorem zf_B_isKind {G : zz_G} {l : Launch} {Z : zz_Z} {sh : List zz_Sh} {q : Int32} {s : zz_S} (C : zz_Cx G l "OneBlanket" "isKind" prog_1_method_49_code 1 (some .boolean) 2 (some (.int q), sh, s) Z) (a0 : Int32) (h : f_B_isKind a0 = q) : Z 0 [some (.int a0)] [] sh s := by
  unfold f_B_isKind at h
  refine zz_iload_n (i := 0) (pc := 0) C rfl rfl d_B_isKind_0 ?_
  refine zz_if_lt (tgt := 14) (pc := 1) C (by decide) d_B_isKind_1 (fun hc1 => ?_) (fun hc1 => ?_)
  · rw [if_pos hc1] at h
    refine zz_iconst (pc := 14) C zki_0 d_B_isKind_14 ?_
    subst h
    exact zz_ret (pc := 15) C (v := some (.int (0 : Int32))) d_B_isKind_15 (Or.inl ⟨_, _, rfl, rfl, rfl, (by decide)⟩) rfl
  · rw [if_neg hc1] at h
    refine zz_iload_n (i := 0) (pc := 4) C rfl rfl d_B_isKind_4 ?_
    refine zz_bipush (pc := 5) C zkb_8 d_B_isKind_5 ?_
    refine zz_icmp_ge (tgt := 14) (pc := 7) C (by decide) d_B_isKind_7 (fun hc2 => ?_) (fun hc2 => ?_)
    · rw [if_pos hc2] at h
      refine zz_iconst (pc := 14) C zki_0 d_B_isKind_14 ?_
      subst h
      exact zz_ret (pc := 15) C (v := some (.int (0 : Int32))) d_B_isKind_15 (Or.inl ⟨_, _, rfl, rfl, rfl, (by decide)⟩) rfl
    · rw [if_neg hc2] at h
      refine zz_iconst (pc := 10) C zki_1 d_B_isKind_10 ?_
      refine zz_goto (tgt := 15) (pc := 11) C (by decide) d_B_isKind_11 ?_
      subst h
      exact zz_ret (pc := 15) C (v := some (.int (1 : Int32))) d_B_isKind_15 (Or.inl ⟨_, _, rfl, rfl, rfl, (by decide)⟩) rfl
theorem zm_B_isKind {G : zz_G} {l : Launch} {sh : List zz_Sh} {s : zz_S} {q : Int32} {a0 : Int32} (h : f_B_isKind a0 = q) : zz_M G l 2 y_B_isKind prog_1_method_49_code 1 (some .boolean) [.int a0] sh s (some (.int q), sh, s) :=
  zz_M.intro (by decide) (Nat.le_of_ble_eq_true rfl) (Nat.le_refl _) (Nat.le_refl _) (fun Z C => zf_B_isKind C a0 h)
theorem d_B_body_0 : decode prog_1_method_37_code 0 = .ok (.iload_n 1, 1) := by decide +kernel
theorem d_B_body_1 : decode prog_1_method_37_code 1 = .ok (.invokestatic 318, 3) := by decide +kernel
theorem d_B_body_4 : decode prog_1_method_37_code 4 = .ok (.ifCond .ne (5), 3) := by decide +kernel
theorem d_B_body_7 : decode prog_1_method_37_code 7 = .ok (.iconst (-1), 1) := by decide +kernel
theorem d_B_body_8 : decode prog_1_method_37_code 8 = .ok (.ireturn, 1) := by decide +kernel
theorem d_B_body_9 : decode prog_1_method_37_code 9 = .ok (.aload_n 0, 1) := by decide +kernel
theorem d_B_body_10 : decode prog_1_method_37_code 10 = .ok (.getfield 62, 3) := by decide +kernel
theorem d_B_body_13 : decode prog_1_method_37_code 13 = .ok (.getfield 321, 3) := by decide +kernel
theorem d_B_body_16 : decode prog_1_method_37_code 16 = .ok (.bipush (50), 2) := by decide +kernel
theorem d_B_body_18 : decode prog_1_method_37_code 18 = .ok (.if_icmp .lt (6), 3) := by decide +kernel
theorem d_B_body_21 : decode prog_1_method_37_code 21 = .ok (.bipush (-3), 2) := by decide +kernel
theorem d_B_body_23 : decode prog_1_method_37_code 23 = .ok (.ireturn, 1) := by decide +kernel
theorem d_B_body_24 : decode prog_1_method_37_code 24 = .ok (.aload_n 0, 1) := by decide +kernel
theorem d_B_body_25 : decode prog_1_method_37_code 25 = .ok (.getfield 62, 3) := by decide +kernel
theorem d_B_body_28 : decode prog_1_method_37_code 28 = .ok (.iload_n 1, 1) := by decide +kernel
theorem d_B_body_29 : decode prog_1_method_37_code 29 = .ok (.invokevirtual 322, 3) := by decide +kernel
theorem d_B_body_32 : decode prog_1_method_37_code 32 = .ok (.ireturn, 1) := by decide +kernel
set_option maxHeartbeats 4000000 in
set_option maxRecDepth 100000 in
theorem zf_B_body {G : zz_G} {l : Launch} {Z : zz_Z} {q : Int32 × zz_S} {s : zz_S} (C : zz_Cx G l "OneBlanket" "body" prog_1_method_37_code 2 (some .int) 3 (some (.int q.1), zsh, q.2) Z) (a1 : Int32) (h : f_B_body a1 s = some q) : Z 0 [some (.ref 0), some (.int a1)] [] zsh s := by
  unfold f_B_body at h
  refine zz_iload_n (i := 1) (pc := 0) C rfl rfl d_B_body_0 ?_
  refine zz_cSi (as := [.int a1]) (st := []) (pc := 1) C (zm_B_isKind rfl) zcs_B_isKind zl_11_318 (by omega) (Nat.le_of_ble_eq_true rfl) d_B_body_1 rfl rfl ?_
  refine zz_if_ne (tgt := 9) (pc := 4) C (by decide) d_B_body_4 (fun hc1 => ?_) (fun hc1 => ?_)
  · rw [if_neg hc1] at h
    refine zz_aload_n (i := 0) (pc := 9) C rfl rfl d_B_body_9 ?_
    refine zz_getR (pc := 10) C zl_11_62 zsh_0 rfl d_B_body_10 ?_
    refine zz_getI (pc := 13) C zl_11_321 zsh_49 rfl d_B_body_13 ?_
    refine zz_bipush (pc := 16) C zkb_50 d_B_body_16 ?_
    refine zz_icmp_lt (tgt := 24) (pc := 18) C (by decide) d_B_body_18 (fun hc2 => ?_) (fun hc2 => ?_)
    · rw [if_pos hc2] at h
      refine zz_aload_n (i := 0) (pc := 24) C rfl rfl d_B_body_24 ?_
      refine zz_getR (pc := 25) C zl_11_62 zsh_0 rfl d_B_body_25 ?_
      refine zz_iload_n (i := 1) (pc := 28) C rfl rfl d_B_body_28 ?_
      obtain ⟨q3, hq3, h⟩ := zz_bdE h
      refine zz_cVi (as := [.int a1]) (st := []) (pc := 29) C (zm_Bodies_add hq3) zcv_Bodies_add zsh_49 zl_11_322 (by omega) (Nat.le_of_ble_eq_true rfl) d_B_body_29 rfl rfl ?_
      replace h := Option.some.inj h
      subst h
      exact zz_ret (pc := 32) C (v := some (.int q3.1)) d_B_body_32 (Or.inl ⟨_, _, rfl, rfl, rfl, rfl⟩) rfl
    · rw [if_neg hc2] at h
      refine zz_bipush (pc := 21) C zkb_m3 d_B_body_21 ?_
      replace h := Option.some.inj h
      subst h
      exact zz_ret (pc := 23) C (v := some (.int (-3 : Int32))) d_B_body_23 (Or.inl ⟨_, _, rfl, rfl, rfl, rfl⟩) rfl
  · rw [if_pos hc1] at h
    refine zz_iconst (pc := 7) C zki_m1 d_B_body_7 ?_
    replace h := Option.some.inj h
    subst h
    exact zz_ret (pc := 8) C (v := some (.int (-1 : Int32))) d_B_body_8 (Or.inl ⟨_, _, rfl, rfl, rfl, rfl⟩) rfl
theorem zm_B_body {G : zz_G} {l : Launch} {s : zz_S} {q : Int32 × zz_S} {a1 : Int32} (h : f_B_body a1 s = some q) : zz_M G l 3 y_B_body prog_1_method_37_code 2 (some .int) [.ref 0, .int a1] zsh s (some (.int q.1), zsh, q.2) :=
  zz_M.intro (by decide) (Nat.le_of_ble_eq_true rfl) (Nat.le_refl _) (Nat.le_refl _) (fun Z C => zf_B_body C a1 h)
theorem d_B_playTo_0 : decode prog_1_method_23_code 0 = .ok (.aload_n 0, 1) := by decide +kernel
theorem d_B_playTo_1 : decode prog_1_method_23_code 1 = .ok (.getfield 41, 3) := by decide +kernel
theorem d_B_playTo_4 : decode prog_1_method_23_code 4 = .ok (.aload_n 0, 1) := by decide +kernel
theorem d_B_playTo_5 : decode prog_1_method_23_code 5 = .ok (.getfield 79, 3) := by decide +kernel
theorem d_B_playTo_8 : decode prog_1_method_23_code 8 = .ok (.aload_n 0, 1) := by decide +kernel
theorem d_B_playTo_9 : decode prog_1_method_23_code 9 = .ok (.getfield 12, 3) := by decide +kernel
theorem d_B_playTo_12 : decode prog_1_method_23_code 12 = .ok (.getfield 244, 3) := by decide +kernel
theorem d_B_playTo_15 : decode prog_1_method_23_code 15 = .ok (.invokevirtual 245, 3) := by decide +kernel
theorem d_B_playTo_18 : decode prog_1_method_23_code 18 = .ok (.aload_n 0, 1) := by decide +kernel
theorem d_B_playTo_19 : decode prog_1_method_23_code 19 = .ok (.getfield 41, 3) := by decide +kernel
theorem d_B_playTo_22 : decode prog_1_method_23_code 22 = .ok (.iload_n 1, 1) := by decide +kernel
theorem d_B_playTo_23 : decode prog_1_method_23_code 23 = .ok (.invokevirtual 249, 3) := by decide +kernel
theorem d_B_playTo_26 : decode prog_1_method_23_code 26 = .ok (.return_, 1) := by decide +kernel
set_option maxHeartbeats 4000000 in
set_option maxRecDepth 100000 in
theorem zf_B_playTo {G : zz_G} {l : Launch} {Z : zz_Z} {q : zz_S} {s : zz_S} (C : zz_Cx G l "OneBlanket" "playTo" prog_1_method_23_code 2 (none) 8 (none, zsh, q) Z) (a1 : Int32) (h : f_B_playTo a1 s = some q) : Z 0 [some (.ref 0), some (.int a1)] [] zsh s := by
  unfold f_B_playTo at h
  refine zz_aload_n (i := 0) (pc := 0) C rfl rfl d_B_playTo_0 ?_
  refine zz_getR (pc := 1) C zl_11_41 zsh_0 rfl d_B_playTo_1 ?_
  refine zz_aload_n (i := 0) (pc := 4) C rfl rfl d_B_playTo_4 ?_
  refine zz_getI (pc := 5) C zl_11_79 zsh_0 rfl d_B_playTo_5 ?_
  refine zz_aload_n (i := 0) (pc := 8) C rfl rfl d_B_playTo_8 ?_
  refine zz_getR (pc := 9) C zl_11_12 zsh_0 rfl d_B_playTo_9 ?_
  refine zz_getR (pc := 12) C zl_11_244 zsh_1 rfl d_B_playTo_12 ?_
  obtain ⟨q1, hq1, h⟩ := zz_bdE h
  refine zz_cVv (as := [.int (s.1 0 12), .ref 2]) (st := []) (pc := 15) C (zm_Night_begin (by decide) hq1) zcv_Night_begin zsh_20 zl_11_245 (by omega) (Nat.le_of_ble_eq_true rfl) d_B_playTo_15 rfl rfl ?_
  refine zz_aload_n (i := 0) (pc := 18) C rfl rfl d_B_playTo_18 ?_
  refine zz_getR (pc := 19) C zl_11_41 zsh_0 rfl d_B_playTo_19 ?_
  refine zz_iload_n (i := 1) (pc := 22) C rfl rfl d_B_playTo_22 ?_
  obtain ⟨q2, hq2, h⟩ := zz_bdE h
  refine zz_cVv (as := [.int a1]) (st := []) (pc := 23) C (zm_Night_play hq2) zcv_Night_play zsh_20 zl_11_249 (by omega) (Nat.le_of_ble_eq_true rfl) d_B_playTo_23 rfl rfl ?_
  replace h := Option.some.inj h
  subst h
  exact zz_ret (pc := 26) C (v := none) d_B_playTo_26 (Or.inr (Or.inr (Or.inr ⟨rfl, rfl, rfl⟩))) rfl
theorem zm_B_playTo {G : zz_G} {l : Launch} {s : zz_S} {q : zz_S} {a1 : Int32} (h : f_B_playTo a1 s = some q) : zz_M G l 8 y_B_playTo prog_1_method_23_code 2 (none) [.ref 0, .int a1] zsh s (none, zsh, q) :=
  zz_M.intro (by decide) (Nat.le_of_ble_eq_true rfl) (Nat.le_refl _) (Nat.le_refl _) (fun Z C => zf_B_playTo C a1 h)
theorem d_B_broad_0 : decode prog_1_method_24_code 0 = .ok (.aload_n 0, 1) := by decide +kernel
theorem d_B_broad_1 : decode prog_1_method_24_code 1 = .ok (.getfield 12, 3) := by decide +kernel
theorem d_B_broad_4 : decode prog_1_method_24_code 4 = .ok (.iload_n 1, 1) := by decide +kernel
theorem d_B_broad_5 : decode prog_1_method_24_code 5 = .ok (.invokevirtual 105, 3) := by decide +kernel
theorem d_B_broad_8 : decode prog_1_method_24_code 8 = .ok (.ifCond .eq (10), 3) := by decide +kernel
theorem d_B_broad_11 : decode prog_1_method_24_code 11 = .ok (.iload_n 2, 1) := by decide +kernel
theorem d_B_broad_12 : decode prog_1_method_24_code 12 = .ok (.invokestatic 192, 3) := by decide +kernel
theorem d_B_broad_15 : decode prog_1_method_24_code 15 = .ok (.ifCond .ne (5), 3) := by decide +kernel
theorem d_B_broad_18 : decode prog_1_method_24_code 18 = .ok (.iconst (-1), 1) := by decide +kernel
theorem d_B_broad_19 : decode prog_1_method_24_code 19 = .ok (.ireturn, 1) := by decide +kernel
theorem d_B_broad_20 : decode prog_1_method_24_code 20 = .ok (.aload_n 0, 1) := by decide +kernel
theorem d_B_broad_21 : decode prog_1_method_24_code 21 = .ok (.getfield 12, 3) := by decide +kernel
theorem d_B_broad_24 : decode prog_1_method_24_code 24 = .ok (.getfield 252, 3) := by decide +kernel
theorem d_B_broad_27 : decode prog_1_method_24_code 27 = .ok (.iload_n 1, 1) := by decide +kernel
theorem d_B_broad_28 : decode prog_1_method_24_code 28 = .ok (.iaload, 1) := by decide +kernel
theorem d_B_broad_29 : decode prog_1_method_24_code 29 = .ok (.istore_n 3, 1) := by decide +kernel
theorem d_B_broad_30 : decode prog_1_method_24_code 30 = .ok (.bipush (-2), 2) := by decide +kernel
theorem d_B_broad_32 : decode prog_1_method_24_code 32 = .ok (.istore 4, 2) := by decide +kernel
theorem d_B_broad_34 : decode prog_1_method_24_code 34 = .ok (.iconst 5, 1) := by decide +kernel
theorem d_B_broad_35 : decode prog_1_method_24_code 35 = .ok (.istore 5, 2) := by decide +kernel
theorem d_B_broad_37 : decode prog_1_method_24_code 37 = .ok (.iload 5, 2) := by decide +kernel
theorem d_B_broad_39 : decode prog_1_method_24_code 39 = .ok (.bipush (80), 2) := by decide +kernel
theorem d_B_broad_41 : decode prog_1_method_24_code 41 = .ok (.if_icmp .gt (49), 3) := by decide +kernel
theorem d_B_broad_44 : decode prog_1_method_24_code 44 = .ok (.iload 4, 2) := by decide +kernel
theorem d_B_broad_46 : decode prog_1_method_24_code 46 = .ok (.bipush (-2), 2) := by decide +kernel
theorem d_B_broad_48 : decode prog_1_method_24_code 48 = .ok (.if_icmp .ne (42), 3) := by decide +kernel
theorem d_B_broad_51 : decode prog_1_method_24_code 51 = .ok (.aload_n 0, 1) := by decide +kernel
theorem d_B_broad_52 : decode prog_1_method_24_code 52 = .ok (.getfield 12, 3) := by decide +kernel
theorem d_B_broad_55 : decode prog_1_method_24_code 55 = .ok (.getfield 252, 3) := by decide +kernel
theorem d_B_broad_58 : decode prog_1_method_24_code 58 = .ok (.iload_n 1, 1) := by decide +kernel
theorem d_B_broad_59 : decode prog_1_method_24_code 59 = .ok (.iload 5, 2) := by decide +kernel
theorem d_B_broad_61 : decode prog_1_method_24_code 61 = .ok (.iastore, 1) := by decide +kernel
theorem d_B_broad_62 : decode prog_1_method_24_code 62 = .ok (.aload_n 0, 1) := by decide +kernel
theorem d_B_broad_63 : decode prog_1_method_24_code 63 = .ok (.iload_n 2, 1) := by decide +kernel
theorem d_B_broad_64 : decode prog_1_method_24_code 64 = .ok (.invokevirtual 195, 3) := by decide +kernel
theorem d_B_broad_67 : decode prog_1_method_24_code 67 = .ok (.aload_n 0, 1) := by decide +kernel
theorem d_B_broad_68 : decode prog_1_method_24_code 68 = .ok (.getfield 41, 3) := by decide +kernel
theorem d_B_broad_71 : decode prog_1_method_24_code 71 = .ok (.getfield 198, 3) := by decide +kernel
theorem d_B_broad_74 : decode prog_1_method_24_code 74 = .ok (.invokevirtual 255, 3) := by decide +kernel
theorem d_B_broad_77 : decode prog_1_method_24_code 77 = .ok (.ifCond .eq (7), 3) := by decide +kernel
theorem d_B_broad_80 : decode prog_1_method_24_code 80 = .ok (.iload 5, 2) := by decide +kernel
theorem d_B_broad_82 : decode prog_1_method_24_code 82 = .ok (.istore 4, 2) := by decide +kernel
theorem d_B_broad_84 : decode prog_1_method_24_code 84 = .ok (.iinc 5 (1), 3) := by decide +kernel
theorem d_B_broad_87 : decode prog_1_method_24_code 87 = .ok (.goto (-50), 3) := by decide +kernel
theorem d_B_broad_90 : decode prog_1_method_24_code 90 = .ok (.aload_n 0, 1) := by decide +kernel
theorem d_B_broad_91 : decode prog_1_method_24_code 91 = .ok (.getfield 12, 3) := by decide +kernel
theorem d_B_broad_94 : decode prog_1_method_24_code 94 = .ok (.getfield 252, 3) := by decide +kernel
theorem d_B_broad_97 : decode prog_1_method_24_code 97 = .ok (.iload_n 1, 1) := by decide +kernel
theorem d_B_broad_98 : decode prog_1_method_24_code 98 = .ok (.iload_n 3, 1) := by decide +kernel
theorem d_B_broad_99 : decode prog_1_method_24_code 99 = .ok (.iastore, 1) := by decide +kernel
theorem d_B_broad_100 : decode prog_1_method_24_code 100 = .ok (.iload 4, 2) := by decide +kernel
theorem d_B_broad_102 : decode prog_1_method_24_code 102 = .ok (.ireturn, 1) := by decide +kernel
set_option maxHeartbeats 4000000 in
set_option maxRecDepth 100000 in
theorem zf_B_broad_J90 {G : zz_G} {l : Launch} {Z : zz_Z} {q : Int32 × zz_S} {s : zz_S} (C : zz_Cx G l "OneBlanket" "broad" prog_1_method_24_code 6 (some .int) 9 (some (.int q.1), zsh, q.2) Z) (v1 : Int32) (v3 : Int32) (v4 : Int32) (h : f_B_broad_J90 v1 v3 v4 s = some q) : Z 90 [some (.ref 0), some (.int v1), none, some (.int v3), some (.int v4), none] [] zsh s := by
  unfold f_B_broad_J90 at h
  refine zz_aload_n (i := 0) (pc := 90) C rfl rfl d_B_broad_90 ?_
  refine zz_getR (pc := 91) C zl_11_12 zsh_0 rfl d_B_broad_91 ?_
  refine zz_getR (pc := 94) C zl_11_252 zsh_1 rfl d_B_broad_94 ?_
  refine zz_iload_n (i := 1) (pc := 97) C rfl rfl d_B_broad_97 ?_
  refine zz_iload_n (i := 3) (pc := 98) C rfl rfl d_B_broad_98 ?_
  obtain ⟨hi5, h⟩ := zz_ckE h
  refine zz_iast (pc := 99) C rfl zsh_7 hi5 d_B_broad_99 ?_
  refine zz_iload (i := 4) (pc := 100) C rfl d_B_broad_100 ?_
  replace h := Option.some.inj h
  subst h
  exact zz_ret (pc := 102) C (v := some (.int v4)) d_B_broad_102 (Or.inl ⟨_, _, rfl, rfl, rfl, rfl⟩) rfl
set_option maxHeartbeats 4000000 in
set_option maxRecDepth 100000 in
theorem zf_B_broad_L37 {G : zz_G} {l : Launch} {Z : zz_Z} {q : Int32 × zz_S} (C : zz_Cx G l "OneBlanket" "broad" prog_1_method_24_code 6 (some .int) 9 (some (.int q.1), zsh, q.2) Z) : ∀ (n : Nat) (v1 : Int32) (v2 : Int32) (v3 : Int32) (v4 : Int32) (v5 : Int32) (s : zz_S), f_B_broad_L37 n v1 v2 v3 v4 v5 s = some q → Z 37 [some (.ref 0), some (.int v1), some (.int v2), some (.int v3), some (.int v4), some (.int v5)] [] zsh s := by
  intro n
  induction n with
  | zero => intro v1 v2 v3 v4 v5 s h; rw [f_B_broad_L37] at h; cases h
  | succ n ih =>
  intro v1 v2 v3 v4 v5 s h
  rw [f_B_broad_L37] at h
  refine zz_iload (i := 5) (pc := 37) C rfl d_B_broad_37 ?_
  refine zz_bipush (pc := 39) C zkb_80 d_B_broad_39 ?_
  refine zz_icmp_gt (tgt := 90) (pc := 41) C (by decide) d_B_broad_41 (fun hc4 => ?_) (fun hc4 => ?_)
  · rw [if_pos hc4] at h
    refine zz_fg C [true, true, false, true, true, false] rfl rfl ?_
    exact zf_B_broad_J90 C v1 v3 v4 h
  · rw [if_neg hc4] at h
    refine zz_iload (i := 4) (pc := 44) C rfl d_B_broad_44 ?_
    refine zz_bipush (pc := 46) C zkb_m2 d_B_broad_46 ?_
    refine zz_icmp_ne (tgt := 90) (pc := 48) C (by decide) d_B_broad_48 (fun hc6 => ?_) (fun hc6 => ?_)
    · rw [if_neg hc6] at h
      refine zz_fg C [true, true, false, true, true, false] rfl rfl ?_
      exact zf_B_broad_J90 C v1 v3 v4 h
    · rw [if_pos hc6] at h
      refine zz_aload_n (i := 0) (pc := 51) C rfl rfl d_B_broad_51 ?_
      refine zz_getR (pc := 52) C zl_11_12 zsh_0 rfl d_B_broad_52 ?_
      refine zz_getR (pc := 55) C zl_11_252 zsh_1 rfl d_B_broad_55 ?_
      refine zz_iload_n (i := 1) (pc := 58) C rfl rfl d_B_broad_58 ?_
      refine zz_iload (i := 5) (pc := 59) C rfl d_B_broad_59 ?_
      obtain ⟨hi7, h⟩ := zz_ckE h
      refine zz_iast (pc := 61) C rfl zsh_7 hi7 d_B_broad_61 ?_
      refine zz_aload_n (i := 0) (pc := 62) C rfl rfl d_B_broad_62 ?_
      refine zz_iload_n (i := 2) (pc := 63) C rfl rfl d_B_broad_63 ?_
      obtain ⟨q8, hq8, h⟩ := zz_bdE h
      refine zz_cVv (as := [.int v2]) (st := []) (pc := 64) C (zm_B_playTo hq8) zcv_B_playTo zsh_0 zl_11_195 (by omega) (Nat.le_of_ble_eq_true rfl) d_B_broad_64 rfl rfl ?_
      refine zz_aload_n (i := 0) (pc := 67) C rfl rfl d_B_broad_67 ?_
      refine zz_getR (pc := 68) C zl_11_41 zsh_0 rfl d_B_broad_68 ?_
      refine zz_getR (pc := 71) C zl_11_198 zsh_20 rfl d_B_broad_71 ?_
      obtain ⟨q9, hq9, h⟩ := zz_bdE h
      refine zz_cVi (as := []) (st := []) (pc := 74) C (zm_Lie_isNoneBare hq9) zcv_Lie_isNoneBare zsh_32 zl_11_255 (by omega) (Nat.le_of_ble_eq_true rfl) d_B_broad_74 rfl rfl ?_
      refine zz_if_eq (tgt := 84) (pc := 77) C (by decide) d_B_broad_77 (fun hc10 => ?_) (fun hc10 => ?_)
      · rw [if_pos hc10] at h
        refine zz_iinc (lo' := [some (.ref 0), some (.int v1), some (.int v2), some (.int v3), some (.int v4), some (.int (v5 + (1 : Int32)))]) (pc := 84) C rfl (zz_inc zki_1) rfl rfl d_B_broad_84 ?_
        refine zz_goto (tgt := 37) (pc := 87) C (by decide) d_B_broad_87 ?_
        exact ih v1 v2 v3 v4 (v5 + (1 : Int32)) q8 h
      · rw [if_neg hc10] at h
        refine zz_iload (i := 5) (pc := 80) C rfl d_B_broad_80 ?_
        refine zz_istore (i := 4) (lo' := [some (.ref 0), some (.int v1), some (.int v2), some (.int v3), some (.int v5), some (.int v5)]) (pc := 82) C (Nat.le_of_ble_eq_true rfl) rfl rfl d_B_broad_82 ?_
        refine zz_iinc (lo' := [some (.ref 0), some (.int v1), some (.int v2), some (.int v3), some (.int v5), some (.int (v5 + (1 : Int32)))]) (pc := 84) C rfl (zz_inc zki_1) rfl rfl d_B_broad_84 ?_
        refine zz_goto (tgt := 37) (pc := 87) C (by decide) d_B_broad_87 ?_
        exact ih v1 v2 v3 v5 (v5 + (1 : Int32)) q8 h
set_option maxHeartbeats 4000000 in
set_option maxRecDepth 100000 in
theorem zf_B_broad {G : zz_G} {l : Launch} {Z : zz_Z} {q : Int32 × zz_S} {s : zz_S} (C : zz_Cx G l "OneBlanket" "broad" prog_1_method_24_code 6 (some .int) 9 (some (.int q.1), zsh, q.2) Z) (a1 : Int32) (a2 : Int32) (h : f_B_broad a1 a2 s = some q) : Z 0 [some (.ref 0), some (.int a1), some (.int a2), none, none, none] [] zsh s := by
  unfold f_B_broad at h
  refine zz_aload_n (i := 0) (pc := 0) C rfl rfl d_B_broad_0 ?_
  refine zz_getR (pc := 1) C zl_11_12 zsh_0 rfl d_B_broad_1 ?_
  refine zz_iload_n (i := 1) (pc := 4) C rfl rfl d_B_broad_4 ?_
  refine zz_cVi (as := [.int a1]) (st := []) (pc := 5) C (zm_Bed_hasCover rfl) zcv_Bed_hasCover zsh_1 zl_11_105 (by omega) (Nat.le_of_ble_eq_true rfl) d_B_broad_5 rfl rfl ?_
  refine zz_if_eq (tgt := 18) (pc := 8) C (by decide) d_B_broad_8 (fun hc1 => ?_) (fun hc1 => ?_)
  · rw [if_pos hc1] at h
    refine zz_iconst (pc := 18) C zki_m1 d_B_broad_18 ?_
    replace h := Option.some.inj h
    subst h
    exact zz_ret (pc := 19) C (v := some (.int (-1 : Int32))) d_B_broad_19 (Or.inl ⟨_, _, rfl, rfl, rfl, rfl⟩) rfl
  · rw [if_neg hc1] at h
    refine zz_iload_n (i := 2) (pc := 11) C rfl rfl d_B_broad_11 ?_
    refine zz_cSi (as := [.int a2]) (st := []) (pc := 12) C (zm_B_isMinute rfl) zcs_B_isMinute zl_11_192 (by omega) (Nat.le_of_ble_eq_true rfl) d_B_broad_12 rfl rfl ?_
    refine zz_if_ne (tgt := 20) (pc := 15) C (by decide) d_B_broad_15 (fun hc2 => ?_) (fun hc2 => ?_)
    · rw [if_neg hc2] at h
      refine zz_aload_n (i := 0) (pc := 20) C rfl rfl d_B_broad_20 ?_
      refine zz_getR (pc := 21) C zl_11_12 zsh_0 rfl d_B_broad_21 ?_
      refine zz_getR (pc := 24) C zl_11_252 zsh_1 rfl d_B_broad_24 ?_
      refine zz_iload_n (i := 1) (pc := 27) C rfl rfl d_B_broad_27 ?_
      obtain ⟨hi3, h⟩ := zz_ckE h
      refine zz_iald (pc := 28) C rfl zsh_7 hi3 d_B_broad_28 ?_
      refine zz_istore_n (i := 3) (lo' := [some (.ref 0), some (.int a1), some (.int a2), some (.int (s.1 7 (a1.toNatClampNeg))), none, none]) (pc := 29) C rfl (Nat.le_of_ble_eq_true rfl) rfl rfl d_B_broad_29 ?_
      refine zz_bipush (pc := 30) C zkb_m2 d_B_broad_30 ?_
      refine zz_istore (i := 4) (lo' := [some (.ref 0), some (.int a1), some (.int a2), some (.int (s.1 7 (a1.toNatClampNeg))), some (.int (-2 : Int32)), none]) (pc := 32) C (Nat.le_of_ble_eq_true rfl) rfl rfl d_B_broad_32 ?_
      refine zz_iconst (pc := 34) C zki_5 d_B_broad_34 ?_
      refine zz_istore (i := 5) (lo' := [some (.ref 0), some (.int a1), some (.int a2), some (.int (s.1 7 (a1.toNatClampNeg))), some (.int (-2 : Int32)), some (.int (5 : Int32))]) (pc := 35) C (Nat.le_of_ble_eq_true rfl) rfl rfl d_B_broad_35 ?_
      exact zf_B_broad_L37 C zF a1 a2 (s.1 7 (a1.toNatClampNeg)) (-2 : Int32) (5 : Int32) s h
    · rw [if_pos hc2] at h
      refine zz_iconst (pc := 18) C zki_m1 d_B_broad_18 ?_
      replace h := Option.some.inj h
      subst h
      exact zz_ret (pc := 19) C (v := some (.int (-1 : Int32))) d_B_broad_19 (Or.inl ⟨_, _, rfl, rfl, rfl, rfl⟩) rfl
theorem zm_B_broad {G : zz_G} {l : Launch} {s : zz_S} {q : Int32 × zz_S} {a1 : Int32} {a2 : Int32} (h : f_B_broad a1 a2 s = some q) : zz_M G l 9 y_B_broad prog_1_method_24_code 6 (some .int) [.ref 0, .int a1, .int a2] zsh s (some (.int q.1), zsh, q.2) :=
  zz_M.intro (by decide) (Nat.le_of_ble_eq_true rfl) (Nat.le_refl _) (Nat.le_refl _) (fun Z C => zf_B_broad C a1 a2 h)
