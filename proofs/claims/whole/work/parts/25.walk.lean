theorem d_B_put_0 : decode prog_1_method_42_code 0 = .ok (.aload_n 0, 1) := by decide +kernel
theorem d_B_put_1 : decode prog_1_method_42_code 1 = .ok (.iload_n 1, 1) := by decide +kernel
theorem d_B_put_2 : decode prog_1_method_42_code 2 = .ok (.iload_n 2, 1) := by decide +kernel
theorem d_B_put_3 : decode prog_1_method_42_code 3 = .ok (.invokevirtual 342, 3) := by decide +kernel
theorem d_B_put_6 : decode prog_1_method_42_code 6 = .ok (.istore 5, 2) := by decide +kernel
theorem d_B_put_8 : decode prog_1_method_42_code 8 = .ok (.iload 5, 2) := by decide +kernel
theorem d_B_put_10 : decode prog_1_method_42_code 10 = .ok (.ifCond .eq (6), 3) := by decide +kernel
theorem d_B_put_13 : decode prog_1_method_42_code 13 = .ok (.iload 5, 2) := by decide +kernel
theorem d_B_put_15 : decode prog_1_method_42_code 15 = .ok (.ireturn, 1) := by decide +kernel
theorem d_B_put_16 : decode prog_1_method_42_code 16 = .ok (.aload_n 0, 1) := by decide +kernel
theorem d_B_put_17 : decode prog_1_method_42_code 17 = .ok (.getfield 68, 3) := by decide +kernel
theorem d_B_put_20 : decode prog_1_method_42_code 20 = .ok (.iload_n 1, 1) := by decide +kernel
theorem d_B_put_21 : decode prog_1_method_42_code 21 = .ok (.aaload, 1) := by decide +kernel
theorem d_B_put_22 : decode prog_1_method_42_code 22 = .ok (.iload_n 2, 1) := by decide +kernel
theorem d_B_put_23 : decode prog_1_method_42_code 23 = .ok (.lload_n 3, 1) := by decide +kernel
theorem d_B_put_24 : decode prog_1_method_42_code 24 = .ok (.invokevirtual 345, 3) := by decide +kernel
theorem d_B_put_27 : decode prog_1_method_42_code 27 = .ok (.iconst 1, 1) := by decide +kernel
theorem d_B_put_28 : decode prog_1_method_42_code 28 = .ok (.ireturn, 1) := by decide +kernel
set_option maxHeartbeats 4000000 in
set_option maxRecDepth 100000 in
theorem zf_B_put {G : zz_G} {l : Launch} {Z : zz_Z} {q : Int32 × zz_S} {s : zz_S} (C : zz_Cx G l "OneBlanket" "put" prog_1_method_42_code 6 (some .int) 4 (some (.int q.1), zsh, q.2) Z) (a1 : Int32) (a2 : Int32) (a3 : Int64) (h : f_B_put a1 a2 a3 s = some q) : Z 0 [some (.ref 0), some (.int a1), some (.int a2), some (.long a3), none, none] [] zsh s := by
  unfold f_B_put at h
  refine zz_aload_n (i := 0) (pc := 0) C rfl rfl d_B_put_0 ?_
  refine zz_iload_n (i := 1) (pc := 1) C rfl rfl d_B_put_1 ?_
  refine zz_iload_n (i := 2) (pc := 2) C rfl rfl d_B_put_2 ?_
  obtain ⟨q1, hq1, h⟩ := zz_bdE h
  refine zz_cVi (as := [.int a1, .int a2]) (st := []) (pc := 3) C (zm_B_refusalOfPlace hq1) zcv_B_refusalOfPlace zsh_0 zl_11_342 (by omega) (Nat.le_of_ble_eq_true rfl) d_B_put_3 rfl rfl ?_
  refine zz_istore (i := 5) (lo' := [some (.ref 0), some (.int a1), some (.int a2), some (.long a3), none, some (.int q1)]) (pc := 6) C (Nat.le_of_ble_eq_true rfl) rfl rfl d_B_put_6 ?_
  refine zz_iload (i := 5) (pc := 8) C rfl d_B_put_8 ?_
  refine zz_if_eq (tgt := 16) (pc := 10) C (by decide) d_B_put_10 (fun hc2 => ?_) (fun hc2 => ?_)
  · rw [if_pos hc2] at h
    refine zz_aload_n (i := 0) (pc := 16) C rfl rfl d_B_put_16 ?_
    refine zz_getR (pc := 17) C zl_11_68 zsh_0 rfl d_B_put_17 ?_
    refine zz_iload_n (i := 1) (pc := 20) C rfl rfl d_B_put_20 ?_
    obtain ⟨hi3, h⟩ := zz_ckE h
    refine zz_aald (pc := 21) C rfl zsh_52 (Cn := "OneBlanket$Shelf") ⟨by decide, by decide, rfl⟩ zra_52 hi3 d_B_put_21 ?_
    refine zz_iload_n (i := 2) (pc := 22) C rfl rfl d_B_put_22 ?_
    refine zz_lload_n (i := 3) (pc := 23) C rfl rfl d_B_put_23 ?_
    obtain ⟨q4, hq4, h⟩ := zz_bdE h
    refine zz_cVv (as := [.int a2, .long a3]) (st := []) (pc := 24) C (zm_Shelf_set (zrm_52 hi3) hq4) zcv_Shelf_set (zS7_sh (zrm_52 hi3)) zl_11_345 (by omega) (Nat.le_of_ble_eq_true rfl) d_B_put_24 rfl rfl ?_
    refine zz_iconst (pc := 27) C zki_1 d_B_put_27 ?_
    replace h := Option.some.inj h
    subst h
    exact zz_ret (pc := 28) C (v := some (.int (1 : Int32))) d_B_put_28 (Or.inl ⟨_, _, rfl, rfl, rfl, rfl⟩) rfl
  · rw [if_neg hc2] at h
    refine zz_iload (i := 5) (pc := 13) C rfl d_B_put_13 ?_
    replace h := Option.some.inj h
    subst h
    exact zz_ret (pc := 15) C (v := some (.int q1)) d_B_put_15 (Or.inl ⟨_, _, rfl, rfl, rfl, rfl⟩) rfl
theorem zm_B_put {G : zz_G} {l : Launch} {s : zz_S} {q : Int32 × zz_S} {a1 : Int32} {a2 : Int32} {a3 : Int64} (h : f_B_put a1 a2 a3 s = some q) : zz_M G l 4 y_B_put prog_1_method_42_code 6 (some .int) [.ref 0, .int a1, .int a2, .long a3] zsh s (some (.int q.1), zsh, q.2) :=
  zz_M.intro (by decide) (Nat.le_of_ble_eq_true rfl) (Nat.le_refl _) (Nat.le_refl _) (fun Z C => zf_B_put C a1 a2 a3 h)
theorem d_B_redo_0 : decode prog_1_method_36_code 0 = .ok (.aload_n 0, 1) := by decide +kernel
theorem d_B_redo_1 : decode prog_1_method_36_code 1 = .ok (.getfield 48, 3) := by decide +kernel
theorem d_B_redo_4 : decode prog_1_method_36_code 4 = .ok (.getfield 305, 3) := by decide +kernel
theorem d_B_redo_7 : decode prog_1_method_36_code 7 = .ok (.aload_n 0, 1) := by decide +kernel
theorem d_B_redo_8 : decode prog_1_method_36_code 8 = .ok (.getfield 48, 3) := by decide +kernel
theorem d_B_redo_11 : decode prog_1_method_36_code 11 = .ok (.getfield 312, 3) := by decide +kernel
theorem d_B_redo_14 : decode prog_1_method_36_code 14 = .ok (.if_icmp .ne (6), 3) := by decide +kernel
theorem d_B_redo_17 : decode prog_1_method_36_code 17 = .ok (.bipush (-5), 2) := by decide +kernel
theorem d_B_redo_19 : decode prog_1_method_36_code 19 = .ok (.ireturn, 1) := by decide +kernel
theorem d_B_redo_20 : decode prog_1_method_36_code 20 = .ok (.aload_n 0, 1) := by decide +kernel
theorem d_B_redo_21 : decode prog_1_method_36_code 21 = .ok (.getfield 48, 3) := by decide +kernel
theorem d_B_redo_24 : decode prog_1_method_36_code 24 = .ok (.aload_n 0, 1) := by decide +kernel
theorem d_B_redo_25 : decode prog_1_method_36_code 25 = .ok (.getfield 12, 3) := by decide +kernel
theorem d_B_redo_28 : decode prog_1_method_36_code 28 = .ok (.invokevirtual 315, 3) := by decide +kernel
theorem d_B_redo_31 : decode prog_1_method_36_code 31 = .ok (.aload_n 0, 1) := by decide +kernel
theorem d_B_redo_32 : decode prog_1_method_36_code 32 = .ok (.getfield 48, 3) := by decide +kernel
theorem d_B_redo_35 : decode prog_1_method_36_code 35 = .ok (.getfield 312, 3) := by decide +kernel
theorem d_B_redo_38 : decode prog_1_method_36_code 38 = .ok (.aload_n 0, 1) := by decide +kernel
theorem d_B_redo_39 : decode prog_1_method_36_code 39 = .ok (.getfield 48, 3) := by decide +kernel
theorem d_B_redo_42 : decode prog_1_method_36_code 42 = .ok (.getfield 305, 3) := by decide +kernel
theorem d_B_redo_45 : decode prog_1_method_36_code 45 = .ok (.isub, 1) := by decide +kernel
theorem d_B_redo_46 : decode prog_1_method_36_code 46 = .ok (.ireturn, 1) := by decide +kernel
set_option maxHeartbeats 4000000 in
set_option maxRecDepth 100000 in
theorem zf_B_redo {G : zz_G} {l : Launch} {Z : zz_Z} {q : Int32 × zz_S} {s : zz_S} (C : zz_Cx G l "OneBlanket" "redo" prog_1_method_36_code 1 (some .int) 4 (some (.int q.1), zsh, q.2) Z) (h : f_B_redo s = some q) : Z 0 [some (.ref 0)] [] zsh s := by
  unfold f_B_redo at h
  refine zz_aload_n (i := 0) (pc := 0) C rfl rfl d_B_redo_0 ?_
  refine zz_getR (pc := 1) C zl_11_48 zsh_0 rfl d_B_redo_1 ?_
  refine zz_getI (pc := 4) C zl_11_305 zsh_39 rfl d_B_redo_4 ?_
  refine zz_aload_n (i := 0) (pc := 7) C rfl rfl d_B_redo_7 ?_
  refine zz_getR (pc := 8) C zl_11_48 zsh_0 rfl d_B_redo_8 ?_
  refine zz_getI (pc := 11) C zl_11_312 zsh_39 rfl d_B_redo_11 ?_
  refine zz_icmp_ne (tgt := 20) (pc := 14) C (by decide) d_B_redo_14 (fun hc1 => ?_) (fun hc1 => ?_)
  · rw [if_neg hc1] at h
    refine zz_aload_n (i := 0) (pc := 20) C rfl rfl d_B_redo_20 ?_
    refine zz_getR (pc := 21) C zl_11_48 zsh_0 rfl d_B_redo_21 ?_
    refine zz_aload_n (i := 0) (pc := 24) C rfl rfl d_B_redo_24 ?_
    refine zz_getR (pc := 25) C zl_11_12 zsh_0 rfl d_B_redo_25 ?_
    obtain ⟨q2, hq2, h⟩ := zz_bdE h
    refine zz_cVv (as := [.ref 1]) (st := []) (pc := 28) C (zm_Changes_doAgain hq2) zcv_Changes_doAgain zsh_39 zl_11_315 (by omega) (Nat.le_of_ble_eq_true rfl) d_B_redo_28 rfl rfl ?_
    refine zz_aload_n (i := 0) (pc := 31) C rfl rfl d_B_redo_31 ?_
    refine zz_getR (pc := 32) C zl_11_48 zsh_0 rfl d_B_redo_32 ?_
    refine zz_getI (pc := 35) C zl_11_312 zsh_39 rfl d_B_redo_35 ?_
    refine zz_aload_n (i := 0) (pc := 38) C rfl rfl d_B_redo_38 ?_
    refine zz_getR (pc := 39) C zl_11_48 zsh_0 rfl d_B_redo_39 ?_
    refine zz_getI (pc := 42) C zl_11_305 zsh_39 rfl d_B_redo_42 ?_
    refine zz_isub (pc := 45) C d_B_redo_45 ?_
    replace h := Option.some.inj h
    subst h
    exact zz_ret (pc := 46) C (v := some (.int ((q2.1 39 1) - (q2.1 39 0)))) d_B_redo_46 (Or.inl ⟨_, _, rfl, rfl, rfl, rfl⟩) rfl
  · rw [if_pos hc1] at h
    refine zz_bipush (pc := 17) C zkb_m5 d_B_redo_17 ?_
    replace h := Option.some.inj h
    subst h
    exact zz_ret (pc := 19) C (v := some (.int (-5 : Int32))) d_B_redo_19 (Or.inl ⟨_, _, rfl, rfl, rfl, rfl⟩) rfl
theorem zm_B_redo {G : zz_G} {l : Launch} {s : zz_S} {q : Int32 × zz_S} (h : f_B_redo s = some q) : zz_M G l 4 y_B_redo prog_1_method_36_code 1 (some .int) [.ref 0] zsh s (some (.int q.1), zsh, q.2) :=
  zz_M.intro (by decide) (Nat.le_of_ble_eq_true rfl) (Nat.le_refl _) (Nat.le_refl _) (fun Z C => zf_B_redo C h)
theorem d_B_room_0 : decode prog_1_method_11_code 0 = .ok (.aload_n 0, 1) := by decide +kernel
theorem d_B_room_1 : decode prog_1_method_11_code 1 = .ok (.getfield 55, 3) := by decide +kernel
theorem d_B_room_4 : decode prog_1_method_11_code 4 = .ok (.invokevirtual 146, 3) := by decide +kernel
theorem d_B_room_7 : decode prog_1_method_11_code 7 = .ok (.istore_n 1, 1) := by decide +kernel
theorem d_B_room_8 : decode prog_1_method_11_code 8 = .ok (.iload_n 1, 1) := by decide +kernel
theorem d_B_room_9 : decode prog_1_method_11_code 9 = .ok (.ifCond .lt (8), 3) := by decide +kernel
theorem d_B_room_12 : decode prog_1_method_11_code 12 = .ok (.bipush (-100), 2) := by decide +kernel
theorem d_B_room_14 : decode prog_1_method_11_code 14 = .ok (.iload_n 1, 1) := by decide +kernel
theorem d_B_room_15 : decode prog_1_method_11_code 15 = .ok (.isub, 1) := by decide +kernel
theorem d_B_room_16 : decode prog_1_method_11_code 16 = .ok (.ireturn, 1) := by decide +kernel
theorem d_B_room_17 : decode prog_1_method_11_code 17 = .ok (.aload_n 0, 1) := by decide +kernel
theorem d_B_room_18 : decode prog_1_method_11_code 18 = .ok (.getfield 26, 3) := by decide +kernel
theorem d_B_room_21 : decode prog_1_method_11_code 21 = .ok (.aload_n 0, 1) := by decide +kernel
theorem d_B_room_22 : decode prog_1_method_11_code 22 = .ok (.getfield 55, 3) := by decide +kernel
theorem d_B_room_25 : decode prog_1_method_11_code 25 = .ok (.getfield 150, 3) := by decide +kernel
theorem d_B_room_28 : decode prog_1_method_11_code 28 = .ok (.invokevirtual 158, 3) := by decide +kernel
theorem d_B_room_31 : decode prog_1_method_11_code 31 = .ok (.iconst 1, 1) := by decide +kernel
theorem d_B_room_32 : decode prog_1_method_11_code 32 = .ok (.ireturn, 1) := by decide +kernel
set_option maxHeartbeats 4000000 in
set_option maxRecDepth 100000 in
theorem zf_B_room {G : zz_G} {l : Launch} {Z : zz_Z} {q : Int32 × zz_S} {s : zz_S} (C : zz_Cx G l "OneBlanket" "room" prog_1_method_11_code 2 (some .int) 210 (some (.int q.1), zsh, q.2) Z) (h : f_B_room s = some q) : Z 0 [some (.ref 0), none] [] zsh s := by
  unfold f_B_room at h
  refine zz_aload_n (i := 0) (pc := 0) C rfl rfl d_B_room_0 ?_
  refine zz_getR (pc := 1) C zl_11_55 zsh_0 rfl d_B_room_1 ?_
  obtain ⟨q1, hq1, h⟩ := zz_bdE h
  refine zz_cVi (as := []) (st := []) (pc := 4) C (zm_Tape_readAll hq1) zcv_Tape_readAll zsh_44 zl_11_146 (by omega) (Nat.le_of_ble_eq_true rfl) d_B_room_4 rfl rfl ?_
  refine zz_istore_n (i := 1) (lo' := [some (.ref 0), some (.int q1.1)]) (pc := 7) C rfl (Nat.le_of_ble_eq_true rfl) rfl rfl d_B_room_7 ?_
  refine zz_iload_n (i := 1) (pc := 8) C rfl rfl d_B_room_8 ?_
  refine zz_if_lt (tgt := 17) (pc := 9) C (by decide) d_B_room_9 (fun hc2 => ?_) (fun hc2 => ?_)
  · rw [if_pos hc2] at h
    refine zz_aload_n (i := 0) (pc := 17) C rfl rfl d_B_room_17 ?_
    refine zz_getR (pc := 18) C zl_11_26 zsh_0 rfl d_B_room_18 ?_
    refine zz_aload_n (i := 0) (pc := 21) C rfl rfl d_B_room_21 ?_
    refine zz_getR (pc := 22) C zl_11_55 zsh_0 rfl d_B_room_22 ?_
    refine zz_getR (pc := 25) C zl_11_150 zsh_44 rfl d_B_room_25 ?_
    obtain ⟨q3, hq3, h⟩ := zz_bdE h
    refine zz_cVv (as := [.ref 45]) (st := []) (pc := 28) C (zm_Room_warmBy hq3) zcv_Room_warmBy zsh_15 zl_11_158 (by omega) (Nat.le_of_ble_eq_true rfl) d_B_room_28 rfl rfl ?_
    refine zz_iconst (pc := 31) C zki_1 d_B_room_31 ?_
    replace h := Option.some.inj h
    subst h
    exact zz_ret (pc := 32) C (v := some (.int (1 : Int32))) d_B_room_32 (Or.inl ⟨_, _, rfl, rfl, rfl, rfl⟩) rfl
  · rw [if_neg hc2] at h
    refine zz_bipush (pc := 12) C zkb_m100 d_B_room_12 ?_
    refine zz_iload_n (i := 1) (pc := 14) C rfl rfl d_B_room_14 ?_
    refine zz_isub (pc := 15) C d_B_room_15 ?_
    replace h := Option.some.inj h
    subst h
    exact zz_ret (pc := 16) C (v := some (.int ((-100 : Int32) - q1.1))) d_B_room_16 (Or.inl ⟨_, _, rfl, rfl, rfl, rfl⟩) rfl
theorem zm_B_room {G : zz_G} {l : Launch} {s : zz_S} {q : Int32 × zz_S} (h : f_B_room s = some q) : zz_M G l 210 y_B_room prog_1_method_11_code 2 (some .int) [.ref 0] zsh s (some (.int q.1), zsh, q.2) :=
  zz_M.intro (by decide) (Nat.le_of_ble_eq_true rfl) (Nat.le_refl _) (Nat.le_refl _) (fun Z C => zf_B_room C h)
theorem d_B_row_0 : decode prog_1_method_41_code 0 = .ok (.iload_n 1, 1) := by decide +kernel
theorem d_B_row_1 : decode prog_1_method_41_code 1 = .ok (.invokestatic 171, 3) := by decide +kernel
theorem d_B_row_4 : decode prog_1_method_41_code 4 = .ok (.ifCond .eq (18), 3) := by decide +kernel
theorem d_B_row_7 : decode prog_1_method_41_code 7 = .ok (.iload_n 2, 1) := by decide +kernel
theorem d_B_row_8 : decode prog_1_method_41_code 8 = .ok (.ifCond .lt (14), 3) := by decide +kernel
theorem d_B_row_11 : decode prog_1_method_41_code 11 = .ok (.iload_n 2, 1) := by decide +kernel
theorem d_B_row_12 : decode prog_1_method_41_code 12 = .ok (.iconst 4, 1) := by decide +kernel
theorem d_B_row_13 : decode prog_1_method_41_code 13 = .ok (.if_icmp .gt (9), 3) := by decide +kernel
theorem d_B_row_16 : decode prog_1_method_41_code 16 = .ok (.iload_n 3, 1) := by decide +kernel
theorem d_B_row_17 : decode prog_1_method_41_code 17 = .ok (.bipush (60), 2) := by decide +kernel
theorem d_B_row_19 : decode prog_1_method_41_code 19 = .ok (.if_icmp .le (5), 3) := by decide +kernel
theorem d_B_row_22 : decode prog_1_method_41_code 22 = .ok (.iconst (-1), 1) := by decide +kernel
theorem d_B_row_23 : decode prog_1_method_41_code 23 = .ok (.ireturn, 1) := by decide +kernel
theorem d_B_row_24 : decode prog_1_method_41_code 24 = .ok (.iload_n 3, 1) := by decide +kernel
theorem d_B_row_25 : decode prog_1_method_41_code 25 = .ok (.ifCond .ge (6), 3) := by decide +kernel
theorem d_B_row_28 : decode prog_1_method_41_code 28 = .ok (.bipush (-14), 2) := by decide +kernel
theorem d_B_row_30 : decode prog_1_method_41_code 30 = .ok (.ireturn, 1) := by decide +kernel
theorem d_B_row_31 : decode prog_1_method_41_code 31 = .ok (.aload_n 0, 1) := by decide +kernel
theorem d_B_row_32 : decode prog_1_method_41_code 32 = .ok (.getfield 68, 3) := by decide +kernel
theorem d_B_row_35 : decode prog_1_method_41_code 35 = .ok (.iload_n 1, 1) := by decide +kernel
theorem d_B_row_36 : decode prog_1_method_41_code 36 = .ok (.aaload, 1) := by decide +kernel
theorem d_B_row_37 : decode prog_1_method_41_code 37 = .ok (.iload_n 2, 1) := by decide +kernel
theorem d_B_row_38 : decode prog_1_method_41_code 38 = .ok (.iload_n 3, 1) := by decide +kernel
theorem d_B_row_39 : decode prog_1_method_41_code 39 = .ok (.invokevirtual 339, 3) := by decide +kernel
theorem d_B_row_42 : decode prog_1_method_41_code 42 = .ok (.iconst 1, 1) := by decide +kernel
theorem d_B_row_43 : decode prog_1_method_41_code 43 = .ok (.ireturn, 1) := by decide +kernel
set_option maxHeartbeats 4000000 in
set_option maxRecDepth 100000 in
theorem zf_B_row {G : zz_G} {l : Launch} {Z : zz_Z} {q : Int32 × zz_S} {s : zz_S} (C : zz_Cx G l "OneBlanket" "row" prog_1_method_41_code 4 (some .int) 4 (some (.int q.1), zsh, q.2) Z) (a1 : Int32) (a2 : Int32) (a3 : Int32) (h : f_B_row a1 a2 a3 s = some q) : Z 0 [some (.ref 0), some (.int a1), some (.int a2), some (.int a3)] [] zsh s := by
  unfold f_B_row at h
  refine zz_iload_n (i := 1) (pc := 0) C rfl rfl d_B_row_0 ?_
  refine zz_cSi (as := [.int a1]) (st := []) (pc := 1) C (zm_B_hasShelf rfl) zcs_B_hasShelf zl_11_171 (by omega) (Nat.le_of_ble_eq_true rfl) d_B_row_1 rfl rfl ?_
  refine zz_if_eq (tgt := 22) (pc := 4) C (by decide) d_B_row_4 (fun hc1 => ?_) (fun hc1 => ?_)
  · rw [if_pos hc1] at h
    refine zz_iconst (pc := 22) C zki_m1 d_B_row_22 ?_
    replace h := Option.some.inj h
    subst h
    exact zz_ret (pc := 23) C (v := some (.int (-1 : Int32))) d_B_row_23 (Or.inl ⟨_, _, rfl, rfl, rfl, rfl⟩) rfl
  · rw [if_neg hc1] at h
    refine zz_iload_n (i := 2) (pc := 7) C rfl rfl d_B_row_7 ?_
    refine zz_if_lt (tgt := 22) (pc := 8) C (by decide) d_B_row_8 (fun hc2 => ?_) (fun hc2 => ?_)
    · rw [if_pos hc2] at h
      refine zz_iconst (pc := 22) C zki_m1 d_B_row_22 ?_
      replace h := Option.some.inj h
      subst h
      exact zz_ret (pc := 23) C (v := some (.int (-1 : Int32))) d_B_row_23 (Or.inl ⟨_, _, rfl, rfl, rfl, rfl⟩) rfl
    · rw [if_neg hc2] at h
      refine zz_iload_n (i := 2) (pc := 11) C rfl rfl d_B_row_11 ?_
      refine zz_iconst (pc := 12) C zki_4 d_B_row_12 ?_
      refine zz_icmp_gt (tgt := 22) (pc := 13) C (by decide) d_B_row_13 (fun hc3 => ?_) (fun hc3 => ?_)
      · rw [if_pos hc3] at h
        refine zz_iconst (pc := 22) C zki_m1 d_B_row_22 ?_
        replace h := Option.some.inj h
        subst h
        exact zz_ret (pc := 23) C (v := some (.int (-1 : Int32))) d_B_row_23 (Or.inl ⟨_, _, rfl, rfl, rfl, rfl⟩) rfl
      · rw [if_neg hc3] at h
        refine zz_iload_n (i := 3) (pc := 16) C rfl rfl d_B_row_16 ?_
        refine zz_bipush (pc := 17) C zkb_60 d_B_row_17 ?_
        refine zz_icmp_le (tgt := 24) (pc := 19) C (by decide) d_B_row_19 (fun hc4 => ?_) (fun hc4 => ?_)
        · rw [if_pos hc4] at h
          refine zz_iload_n (i := 3) (pc := 24) C rfl rfl d_B_row_24 ?_
          refine zz_if_ge (tgt := 31) (pc := 25) C (by decide) d_B_row_25 (fun hc5 => ?_) (fun hc5 => ?_)
          · rw [if_pos hc5] at h
            refine zz_aload_n (i := 0) (pc := 31) C rfl rfl d_B_row_31 ?_
            refine zz_getR (pc := 32) C zl_11_68 zsh_0 rfl d_B_row_32 ?_
            refine zz_iload_n (i := 1) (pc := 35) C rfl rfl d_B_row_35 ?_
            obtain ⟨hi6, h⟩ := zz_ckE h
            refine zz_aald (pc := 36) C rfl zsh_52 (Cn := "OneBlanket$Shelf") ⟨by decide, by decide, rfl⟩ zra_52 hi6 d_B_row_36 ?_
            refine zz_iload_n (i := 2) (pc := 37) C rfl rfl d_B_row_37 ?_
            refine zz_iload_n (i := 3) (pc := 38) C rfl rfl d_B_row_38 ?_
            refine zz_cVv (as := [.int a2, .int a3]) (st := []) (pc := 39) C (zm_Shelf_holdRow (zrm_52 hi6) rfl) zcv_Shelf_holdRow (zS7_sh (zrm_52 hi6)) zl_11_339 (by omega) (Nat.le_of_ble_eq_true rfl) d_B_row_39 rfl rfl ?_
            refine zz_iconst (pc := 42) C zki_1 d_B_row_42 ?_
            replace h := Option.some.inj h
            subst h
            exact zz_ret (pc := 43) C (v := some (.int (1 : Int32))) d_B_row_43 (Or.inl ⟨_, _, rfl, rfl, rfl, rfl⟩) rfl
          · rw [if_neg hc5] at h
            refine zz_bipush (pc := 28) C zkb_m14 d_B_row_28 ?_
            replace h := Option.some.inj h
            subst h
            exact zz_ret (pc := 30) C (v := some (.int (-14 : Int32))) d_B_row_30 (Or.inl ⟨_, _, rfl, rfl, rfl, rfl⟩) rfl
        · rw [if_neg hc4] at h
          refine zz_iconst (pc := 22) C zki_m1 d_B_row_22 ?_
          replace h := Option.some.inj h
          subst h
          exact zz_ret (pc := 23) C (v := some (.int (-1 : Int32))) d_B_row_23 (Or.inl ⟨_, _, rfl, rfl, rfl, rfl⟩) rfl
theorem zm_B_row {G : zz_G} {l : Launch} {s : zz_S} {q : Int32 × zz_S} {a1 : Int32} {a2 : Int32} {a3 : Int32} (h : f_B_row a1 a2 a3 s = some q) : zz_M G l 4 y_B_row prog_1_method_41_code 4 (some .int) [.ref 0, .int a1, .int a2, .int a3] zsh s (some (.int q.1), zsh, q.2) :=
  zz_M.intro (by decide) (Nat.le_of_ble_eq_true rfl) (Nat.le_refl _) (Nat.le_refl _) (fun Z C => zf_B_row C a1 a2 a3 h)
theorem d_B_shift_0 : decode prog_1_method_45_code 0 = .ok (.iload_n 1, 1) := by decide +kernel
theorem d_B_shift_1 : decode prog_1_method_45_code 1 = .ok (.invokestatic 171, 3) := by decide +kernel
theorem d_B_shift_4 : decode prog_1_method_45_code 4 = .ok (.ifCond .eq (10), 3) := by decide +kernel
theorem d_B_shift_7 : decode prog_1_method_45_code 7 = .ok (.iload_n 3, 1) := by decide +kernel
theorem d_B_shift_8 : decode prog_1_method_45_code 8 = .ok (.invokestatic 171, 3) := by decide +kernel
theorem d_B_shift_11 : decode prog_1_method_45_code 11 = .ok (.ifCond .ne (5), 3) := by decide +kernel
theorem d_B_shift_14 : decode prog_1_method_45_code 14 = .ok (.iconst (-1), 1) := by decide +kernel
theorem d_B_shift_15 : decode prog_1_method_45_code 15 = .ok (.ireturn, 1) := by decide +kernel
theorem d_B_shift_16 : decode prog_1_method_45_code 16 = .ok (.aload_n 0, 1) := by decide +kernel
theorem d_B_shift_17 : decode prog_1_method_45_code 17 = .ok (.getfield 68, 3) := by decide +kernel
theorem d_B_shift_20 : decode prog_1_method_45_code 20 = .ok (.iload_n 1, 1) := by decide +kernel
theorem d_B_shift_21 : decode prog_1_method_45_code 21 = .ok (.aaload, 1) := by decide +kernel
theorem d_B_shift_22 : decode prog_1_method_45_code 22 = .ok (.astore 6, 2) := by decide +kernel
theorem d_B_shift_24 : decode prog_1_method_45_code 24 = .ok (.aload_n 0, 1) := by decide +kernel
theorem d_B_shift_25 : decode prog_1_method_45_code 25 = .ok (.getfield 68, 3) := by decide +kernel
theorem d_B_shift_28 : decode prog_1_method_45_code 28 = .ok (.iload_n 3, 1) := by decide +kernel
theorem d_B_shift_29 : decode prog_1_method_45_code 29 = .ok (.aaload, 1) := by decide +kernel
theorem d_B_shift_30 : decode prog_1_method_45_code 30 = .ok (.astore 7, 2) := by decide +kernel
theorem d_B_shift_32 : decode prog_1_method_45_code 32 = .ok (.aload 6, 2) := by decide +kernel
theorem d_B_shift_34 : decode prog_1_method_45_code 34 = .ok (.invokevirtual 174, 3) := by decide +kernel
theorem d_B_shift_37 : decode prog_1_method_45_code 37 = .ok (.ifCond .ne (11), 3) := by decide +kernel
theorem d_B_shift_40 : decode prog_1_method_45_code 40 = .ok (.aload 7, 2) := by decide +kernel
theorem d_B_shift_42 : decode prog_1_method_45_code 42 = .ok (.invokevirtual 174, 3) := by decide +kernel
theorem d_B_shift_45 : decode prog_1_method_45_code 45 = .ok (.ifCond .eq (6), 3) := by decide +kernel
theorem d_B_shift_48 : decode prog_1_method_45_code 48 = .ok (.bipush (-11), 2) := by decide +kernel
theorem d_B_shift_50 : decode prog_1_method_45_code 50 = .ok (.ireturn, 1) := by decide +kernel
theorem d_B_shift_51 : decode prog_1_method_45_code 51 = .ok (.aload 6, 2) := by decide +kernel
theorem d_B_shift_53 : decode prog_1_method_45_code 53 = .ok (.invokevirtual 353, 3) := by decide +kernel
theorem d_B_shift_56 : decode prog_1_method_45_code 56 = .ok (.ifCond .eq (16), 3) := by decide +kernel
theorem d_B_shift_59 : decode prog_1_method_45_code 59 = .ok (.aload 7, 2) := by decide +kernel
theorem d_B_shift_61 : decode prog_1_method_45_code 61 = .ok (.aload 6, 2) := by decide +kernel
theorem d_B_shift_63 : decode prog_1_method_45_code 63 = .ok (.getfield 356, 3) := by decide +kernel
theorem d_B_shift_66 : decode prog_1_method_45_code 66 = .ok (.invokevirtual 178, 3) := by decide +kernel
theorem d_B_shift_69 : decode prog_1_method_45_code 69 = .ok (.ifCond .ne (6), 3) := by decide +kernel
theorem d_B_shift_72 : decode prog_1_method_45_code 72 = .ok (.bipush (-12), 2) := by decide +kernel
theorem d_B_shift_74 : decode prog_1_method_45_code 74 = .ok (.ireturn, 1) := by decide +kernel
theorem d_B_shift_75 : decode prog_1_method_45_code 75 = .ok (.aload 6, 2) := by decide +kernel
theorem d_B_shift_77 : decode prog_1_method_45_code 77 = .ok (.iload_n 2, 1) := by decide +kernel
theorem d_B_shift_78 : decode prog_1_method_45_code 78 = .ok (.iload 5, 2) := by decide +kernel
theorem d_B_shift_80 : decode prog_1_method_45_code 80 = .ok (.invokevirtual 359, 3) := by decide +kernel
theorem d_B_shift_83 : decode prog_1_method_45_code 83 = .ok (.ifCond .eq (15), 3) := by decide +kernel
theorem d_B_shift_86 : decode prog_1_method_45_code 86 = .ok (.aload 7, 2) := by decide +kernel
theorem d_B_shift_88 : decode prog_1_method_45_code 88 = .ok (.iload 4, 2) := by decide +kernel
theorem d_B_shift_90 : decode prog_1_method_45_code 90 = .ok (.iload 5, 2) := by decide +kernel
theorem d_B_shift_92 : decode prog_1_method_45_code 92 = .ok (.invokevirtual 359, 3) := by decide +kernel
theorem d_B_shift_95 : decode prog_1_method_45_code 95 = .ok (.ifCond .ne (6), 3) := by decide +kernel
theorem d_B_shift_98 : decode prog_1_method_45_code 98 = .ok (.bipush (-13), 2) := by decide +kernel
theorem d_B_shift_100 : decode prog_1_method_45_code 100 = .ok (.ireturn, 1) := by decide +kernel
theorem d_B_shift_101 : decode prog_1_method_45_code 101 = .ok (.aload 6, 2) := by decide +kernel
theorem d_B_shift_103 : decode prog_1_method_45_code 103 = .ok (.getfield 188, 3) := by decide +kernel
theorem d_B_shift_106 : decode prog_1_method_45_code 106 = .ok (.iload_n 2, 1) := by decide +kernel
theorem d_B_shift_107 : decode prog_1_method_45_code 107 = .ok (.aload 7, 2) := by decide +kernel
theorem d_B_shift_109 : decode prog_1_method_45_code 109 = .ok (.getfield 188, 3) := by decide +kernel
theorem d_B_shift_112 : decode prog_1_method_45_code 112 = .ok (.iload 4, 2) := by decide +kernel
theorem d_B_shift_114 : decode prog_1_method_45_code 114 = .ok (.iload 5, 2) := by decide +kernel
theorem d_B_shift_116 : decode prog_1_method_45_code 116 = .ok (.invokestatic 362, 3) := by decide +kernel
theorem d_B_shift_119 : decode prog_1_method_45_code 119 = .ok (.iload 5, 2) := by decide +kernel
theorem d_B_shift_121 : decode prog_1_method_45_code 121 = .ok (.ireturn, 1) := by decide +kernel
set_option maxHeartbeats 4000000 in
set_option maxRecDepth 100000 in
theorem zf_B_shift {G : zz_G} {l : Launch} {Z : zz_Z} (hex : G.2.2.2.2 = false) {q : Int32 × zz_S} {s : zz_S} (C : zz_Cx G l "OneBlanket" "shift" prog_1_method_45_code 8 (some .int) 3 (some (.int q.1), zsh, q.2) Z) (a1 : Int32) (a2 : Int32) (a3 : Int32) (a4 : Int32) (a5 : Int32) (h : f_B_shift a1 a2 a3 a4 a5 s = some q) : Z 0 [some (.ref 0), some (.int a1), some (.int a2), some (.int a3), some (.int a4), some (.int a5), none, none] [] zsh s := by
  unfold f_B_shift at h
  refine zz_iload_n (i := 1) (pc := 0) C rfl rfl d_B_shift_0 ?_
  refine zz_cSi (as := [.int a1]) (st := []) (pc := 1) C (zm_B_hasShelf rfl) zcs_B_hasShelf zl_11_171 (by omega) (Nat.le_of_ble_eq_true rfl) d_B_shift_1 rfl rfl ?_
  refine zz_if_eq (tgt := 14) (pc := 4) C (by decide) d_B_shift_4 (fun hc1 => ?_) (fun hc1 => ?_)
  · rw [if_pos hc1] at h
    refine zz_iconst (pc := 14) C zki_m1 d_B_shift_14 ?_
    replace h := Option.some.inj h
    subst h
    exact zz_ret (pc := 15) C (v := some (.int (-1 : Int32))) d_B_shift_15 (Or.inl ⟨_, _, rfl, rfl, rfl, rfl⟩) rfl
  · rw [if_neg hc1] at h
    refine zz_iload_n (i := 3) (pc := 7) C rfl rfl d_B_shift_7 ?_
    refine zz_cSi (as := [.int a3]) (st := []) (pc := 8) C (zm_B_hasShelf rfl) zcs_B_hasShelf zl_11_171 (by omega) (Nat.le_of_ble_eq_true rfl) d_B_shift_8 rfl rfl ?_
    refine zz_if_ne (tgt := 16) (pc := 11) C (by decide) d_B_shift_11 (fun hc2 => ?_) (fun hc2 => ?_)
    · rw [if_neg hc2] at h
      refine zz_aload_n (i := 0) (pc := 16) C rfl rfl d_B_shift_16 ?_
      refine zz_getR (pc := 17) C zl_11_68 zsh_0 rfl d_B_shift_17 ?_
      refine zz_iload_n (i := 1) (pc := 20) C rfl rfl d_B_shift_20 ?_
      obtain ⟨hi3, h⟩ := zz_ckE h
      refine zz_aald (pc := 21) C rfl zsh_52 (Cn := "OneBlanket$Shelf") ⟨by decide, by decide, rfl⟩ zra_52 hi3 d_B_shift_21 ?_
      refine zz_astore (i := 6) (lo' := [some (.ref 0), some (.int a1), some (.int a2), some (.int a3), some (.int a4), some (.int a5), some (.ref (zr_52 a1)), none]) (pc := 22) C (Nat.le_of_ble_eq_true rfl) rfl rfl d_B_shift_22 ?_
      refine zz_aload_n (i := 0) (pc := 24) C rfl rfl d_B_shift_24 ?_
      refine zz_getR (pc := 25) C zl_11_68 zsh_0 rfl d_B_shift_25 ?_
      refine zz_iload_n (i := 3) (pc := 28) C rfl rfl d_B_shift_28 ?_
      obtain ⟨hi4, h⟩ := zz_ckE h
      refine zz_aald (pc := 29) C rfl zsh_52 (Cn := "OneBlanket$Shelf") ⟨by decide, by decide, rfl⟩ zra_52 hi4 d_B_shift_29 ?_
      refine zz_astore (i := 7) (lo' := [some (.ref 0), some (.int a1), some (.int a2), some (.int a3), some (.int a4), some (.int a5), some (.ref (zr_52 a1)), some (.ref (zr_52 a3))]) (pc := 30) C (Nat.le_of_ble_eq_true rfl) rfl rfl d_B_shift_30 ?_
      refine zz_aload (i := 6) (pc := 32) C rfl d_B_shift_32 ?_
      refine zz_cVi (as := []) (st := []) (pc := 34) C (zm_Shelf_isEmpty (zrm_52 hi3) rfl) zcv_Shelf_isEmpty (zS7_sh (zrm_52 hi3)) zl_11_174 (by omega) (Nat.le_of_ble_eq_true rfl) d_B_shift_34 rfl rfl ?_
      refine zz_if_ne (tgt := 48) (pc := 37) C (by decide) d_B_shift_37 (fun hc5 => ?_) (fun hc5 => ?_)
      · rw [if_neg hc5] at h
        refine zz_bipush (pc := 48) C zkb_m11 d_B_shift_48 ?_
        replace h := Option.some.inj h
        subst h
        exact zz_ret (pc := 50) C (v := some (.int (-11 : Int32))) d_B_shift_50 (Or.inl ⟨_, _, rfl, rfl, rfl, rfl⟩) rfl
      · rw [if_pos hc5] at h
        refine zz_aload (i := 7) (pc := 40) C rfl d_B_shift_40 ?_
        refine zz_cVi (as := []) (st := []) (pc := 42) C (zm_Shelf_isEmpty (zrm_52 hi4) rfl) zcv_Shelf_isEmpty (zS7_sh (zrm_52 hi4)) zl_11_174 (by omega) (Nat.le_of_ble_eq_true rfl) d_B_shift_42 rfl rfl ?_
        refine zz_if_eq (tgt := 51) (pc := 45) C (by decide) d_B_shift_45 (fun hc6 => ?_) (fun hc6 => ?_)
        · rw [if_pos hc6] at h
          refine zz_aload (i := 6) (pc := 51) C rfl d_B_shift_51 ?_
          refine zz_cVi (as := []) (st := []) (pc := 53) C (zm_Shelf_isRow (zrm_52 hi3) rfl) zcv_Shelf_isRow (zS7_sh (zrm_52 hi3)) zl_11_353 (by omega) (Nat.le_of_ble_eq_true rfl) d_B_shift_53 rfl rfl ?_
          refine zz_if_eq (tgt := 72) (pc := 56) C (by decide) d_B_shift_56 (fun hc7 => ?_) (fun hc7 => ?_)
          · rw [if_pos hc7] at h
            refine zz_bipush (pc := 72) C zkb_m12 d_B_shift_72 ?_
            replace h := Option.some.inj h
            subst h
            exact zz_ret (pc := 74) C (v := some (.int (-12 : Int32))) d_B_shift_74 (Or.inl ⟨_, _, rfl, rfl, rfl, rfl⟩) rfl
          · rw [if_neg hc7] at h
            refine zz_aload (i := 7) (pc := 59) C rfl d_B_shift_59 ?_
            refine zz_aload (i := 6) (pc := 61) C rfl d_B_shift_61 ?_
            refine zz_getI (pc := 63) C zl_11_356 (zS7_sh (zrm_52 hi3)) rfl d_B_shift_63 ?_
            refine zz_cVi (as := [.int (s.1 (zr_52 a1) 2)]) (st := []) (pc := 66) C (zm_Shelf_isRowOf (zrm_52 hi4) rfl) zcv_Shelf_isRowOf (zS7_sh (zrm_52 hi4)) zl_11_178 (by omega) (Nat.le_of_ble_eq_true rfl) d_B_shift_66 rfl rfl ?_
            refine zz_if_ne (tgt := 75) (pc := 69) C (by decide) d_B_shift_69 (fun hc8 => ?_) (fun hc8 => ?_)
            · rw [if_neg hc8] at h
              refine zz_aload (i := 6) (pc := 75) C rfl d_B_shift_75 ?_
              refine zz_iload_n (i := 2) (pc := 77) C rfl rfl d_B_shift_77 ?_
              refine zz_iload (i := 5) (pc := 78) C rfl d_B_shift_78 ?_
              refine zz_cVi (as := [.int a2, .int a5]) (st := []) (pc := 80) C (zm_Shelf_hasPlaces (zrm_52 hi3) rfl) zcv_Shelf_hasPlaces (zS7_sh (zrm_52 hi3)) zl_11_359 (by omega) (Nat.le_of_ble_eq_true rfl) d_B_shift_80 rfl rfl ?_
              refine zz_if_eq (tgt := 98) (pc := 83) C (by decide) d_B_shift_83 (fun hc9 => ?_) (fun hc9 => ?_)
              · rw [if_pos hc9] at h
                refine zz_bipush (pc := 98) C zkb_m13 d_B_shift_98 ?_
                replace h := Option.some.inj h
                subst h
                exact zz_ret (pc := 100) C (v := some (.int (-13 : Int32))) d_B_shift_100 (Or.inl ⟨_, _, rfl, rfl, rfl, rfl⟩) rfl
              · rw [if_neg hc9] at h
                refine zz_aload (i := 7) (pc := 86) C rfl d_B_shift_86 ?_
                refine zz_iload (i := 4) (pc := 88) C rfl d_B_shift_88 ?_
                refine zz_iload (i := 5) (pc := 90) C rfl d_B_shift_90 ?_
                refine zz_cVi (as := [.int a4, .int a5]) (st := []) (pc := 92) C (zm_Shelf_hasPlaces (zrm_52 hi4) rfl) zcv_Shelf_hasPlaces (zS7_sh (zrm_52 hi4)) zl_11_359 (by omega) (Nat.le_of_ble_eq_true rfl) d_B_shift_92 rfl rfl ?_
                refine zz_if_ne (tgt := 101) (pc := 95) C (by decide) d_B_shift_95 (fun hc10 => ?_) (fun hc10 => ?_)
                · rw [if_neg hc10] at h
                  refine zz_aload (i := 6) (pc := 101) C rfl d_B_shift_101 ?_
                  refine zz_getR (pc := 103) C zl_11_188 (zS7_sh (zrm_52 hi3)) rfl d_B_shift_103 ?_
                  refine zz_iload_n (i := 2) (pc := 106) C rfl rfl d_B_shift_106 ?_
                  refine zz_aload (i := 7) (pc := 107) C rfl d_B_shift_107 ?_
                  refine zz_getR (pc := 109) C zl_11_188 (zS7_sh (zrm_52 hi4)) rfl d_B_shift_109 ?_
                  refine zz_iload (i := 4) (pc := 112) C rfl d_B_shift_112 ?_
                  refine zz_iload (i := 5) (pc := 114) C rfl d_B_shift_114 ?_
                  obtain ⟨hc11, h⟩ := zz_ckE h
                  obtain ⟨hc111, hc112, hc113, hc114, hc115⟩ := zz_cpk_spec hc11
                  refine zz_copyl (st := []) (pc := 116) C hex (zS8_sh (zder_S7_1 (zrm_52 hi3))) (zS8_sh (zder_S7_1 (zrm_52 hi4))) hc111 hc112 hc113 hc114 hc115 zl_11_362 zl_acN zl_acS zl_acI (by omega) (Nat.le_of_ble_eq_true rfl) d_B_shift_116 ?_
                  refine zz_iload (i := 5) (pc := 119) C rfl d_B_shift_119 ?_
                  replace h := Option.some.inj h
                  subst h
                  exact zz_ret (pc := 121) C (v := some (.int a5)) d_B_shift_121 (Or.inl ⟨_, _, rfl, rfl, rfl, rfl⟩) rfl
                · rw [if_pos hc10] at h
                  refine zz_bipush (pc := 98) C zkb_m13 d_B_shift_98 ?_
                  replace h := Option.some.inj h
                  subst h
                  exact zz_ret (pc := 100) C (v := some (.int (-13 : Int32))) d_B_shift_100 (Or.inl ⟨_, _, rfl, rfl, rfl, rfl⟩) rfl
            · rw [if_pos hc8] at h
              refine zz_bipush (pc := 72) C zkb_m12 d_B_shift_72 ?_
              replace h := Option.some.inj h
              subst h
              exact zz_ret (pc := 74) C (v := some (.int (-12 : Int32))) d_B_shift_74 (Or.inl ⟨_, _, rfl, rfl, rfl, rfl⟩) rfl
        · rw [if_neg hc6] at h
          refine zz_bipush (pc := 48) C zkb_m11 d_B_shift_48 ?_
          replace h := Option.some.inj h
          subst h
          exact zz_ret (pc := 50) C (v := some (.int (-11 : Int32))) d_B_shift_50 (Or.inl ⟨_, _, rfl, rfl, rfl, rfl⟩) rfl
    · rw [if_pos hc2] at h
      refine zz_iconst (pc := 14) C zki_m1 d_B_shift_14 ?_
      replace h := Option.some.inj h
      subst h
      exact zz_ret (pc := 15) C (v := some (.int (-1 : Int32))) d_B_shift_15 (Or.inl ⟨_, _, rfl, rfl, rfl, rfl⟩) rfl
theorem zm_B_shift {G : zz_G} {l : Launch} {s : zz_S} {q : Int32 × zz_S} {a1 : Int32} {a2 : Int32} {a3 : Int32} {a4 : Int32} {a5 : Int32} (hex : G.2.2.2.2 = false) (h : f_B_shift a1 a2 a3 a4 a5 s = some q) : zz_M G l 3 y_B_shift prog_1_method_45_code 8 (some .int) [.ref 0, .int a1, .int a2, .int a3, .int a4, .int a5] zsh s (some (.int q.1), zsh, q.2) :=
  zz_M.intro (by decide) (Nat.le_of_ble_eq_true rfl) (Nat.le_refl _) (Nat.le_refl _) (fun Z C => zf_B_shift hex C a1 a2 a3 a4 a5 h)
theorem d_B_sleeper_0 : decode prog_1_method_3_code 0 = .ok (.iload_n 1, 1) := by decide +kernel
theorem d_B_sleeper_1 : decode prog_1_method_3_code 1 = .ok (.ifCond .lt (14), 3) := by decide +kernel
theorem d_B_sleeper_4 : decode prog_1_method_3_code 4 = .ok (.iload_n 2, 1) := by decide +kernel
theorem d_B_sleeper_5 : decode prog_1_method_3_code 5 = .ok (.ifCond .lt (10), 3) := by decide +kernel
theorem d_B_sleeper_8 : decode prog_1_method_3_code 8 = .ok (.iload_n 2, 1) := by decide +kernel
theorem d_B_sleeper_9 : decode prog_1_method_3_code 9 = .ok (.sipush (9999), 3) := by decide +kernel
theorem d_B_sleeper_12 : decode prog_1_method_3_code 12 = .ok (.if_icmp .le (5), 3) := by decide +kernel
theorem d_B_sleeper_15 : decode prog_1_method_3_code 15 = .ok (.iconst (-1), 1) := by decide +kernel
theorem d_B_sleeper_16 : decode prog_1_method_3_code 16 = .ok (.ireturn, 1) := by decide +kernel
theorem d_B_sleeper_17 : decode prog_1_method_3_code 17 = .ok (.iload_n 1, 1) := by decide +kernel
theorem d_B_sleeper_18 : decode prog_1_method_3_code 18 = .ok (.bipush (100), 2) := by decide +kernel
theorem d_B_sleeper_20 : decode prog_1_method_3_code 20 = .ok (.idiv, 1) := by decide +kernel
theorem d_B_sleeper_21 : decode prog_1_method_3_code 21 = .ok (.istore_n 3, 1) := by decide +kernel
theorem d_B_sleeper_22 : decode prog_1_method_3_code 22 = .ok (.iload_n 1, 1) := by decide +kernel
theorem d_B_sleeper_23 : decode prog_1_method_3_code 23 = .ok (.bipush (100), 2) := by decide +kernel
theorem d_B_sleeper_25 : decode prog_1_method_3_code 25 = .ok (.irem, 1) := by decide +kernel
theorem d_B_sleeper_26 : decode prog_1_method_3_code 26 = .ok (.istore 4, 2) := by decide +kernel
theorem d_B_sleeper_28 : decode prog_1_method_3_code 28 = .ok (.iload 4, 2) := by decide +kernel
theorem d_B_sleeper_30 : decode prog_1_method_3_code 30 = .ok (.iconst 4, 1) := by decide +kernel
theorem d_B_sleeper_31 : decode prog_1_method_3_code 31 = .ok (.if_icmp .lt (24), 3) := by decide +kernel
theorem d_B_sleeper_34 : decode prog_1_method_3_code 34 = .ok (.iload 4, 2) := by decide +kernel
theorem d_B_sleeper_36 : decode prog_1_method_3_code 36 = .ok (.bipush (20), 2) := by decide +kernel
theorem d_B_sleeper_38 : decode prog_1_method_3_code 38 = .ok (.if_icmp .gt (17), 3) := by decide +kernel
theorem d_B_sleeper_41 : decode prog_1_method_3_code 41 = .ok (.iload_n 3, 1) := by decide +kernel
theorem d_B_sleeper_42 : decode prog_1_method_3_code 42 = .ok (.aload_n 0, 1) := by decide +kernel
theorem d_B_sleeper_43 : decode prog_1_method_3_code 43 = .ok (.getfield 12, 3) := by decide +kernel
theorem d_B_sleeper_46 : decode prog_1_method_3_code 46 = .ok (.getfield 88, 3) := by decide +kernel
theorem d_B_sleeper_49 : decode prog_1_method_3_code 49 = .ok (.iload 4, 2) := by decide +kernel
theorem d_B_sleeper_51 : decode prog_1_method_3_code 51 = .ok (.isub, 1) := by decide +kernel
theorem d_B_sleeper_52 : decode prog_1_method_3_code 52 = .ok (.if_icmp .le (5), 3) := by decide +kernel
theorem d_B_sleeper_55 : decode prog_1_method_3_code 55 = .ok (.iconst (-1), 1) := by decide +kernel
theorem d_B_sleeper_56 : decode prog_1_method_3_code 56 = .ok (.ireturn, 1) := by decide +kernel
theorem d_B_sleeper_57 : decode prog_1_method_3_code 57 = .ok (.aload_n 0, 1) := by decide +kernel
theorem d_B_sleeper_58 : decode prog_1_method_3_code 58 = .ok (.getfield 12, 3) := by decide +kernel
theorem d_B_sleeper_61 : decode prog_1_method_3_code 61 = .ok (.getfield 85, 3) := by decide +kernel
theorem d_B_sleeper_64 : decode prog_1_method_3_code 64 = .ok (.bipush (6), 2) := by decide +kernel
theorem d_B_sleeper_66 : decode prog_1_method_3_code 66 = .ok (.if_icmp .lt (6), 3) := by decide +kernel
theorem d_B_sleeper_69 : decode prog_1_method_3_code 69 = .ok (.bipush (-3), 2) := by decide +kernel
theorem d_B_sleeper_71 : decode prog_1_method_3_code 71 = .ok (.ireturn, 1) := by decide +kernel
theorem d_B_sleeper_72 : decode prog_1_method_3_code 72 = .ok (.aload_n 0, 1) := by decide +kernel
theorem d_B_sleeper_73 : decode prog_1_method_3_code 73 = .ok (.getfield 12, 3) := by decide +kernel
theorem d_B_sleeper_76 : decode prog_1_method_3_code 76 = .ok (.iload_n 3, 1) := by decide +kernel
theorem d_B_sleeper_77 : decode prog_1_method_3_code 77 = .ok (.iload 4, 2) := by decide +kernel
theorem d_B_sleeper_79 : decode prog_1_method_3_code 79 = .ok (.iload_n 2, 1) := by decide +kernel
theorem d_B_sleeper_80 : decode prog_1_method_3_code 80 = .ok (.bipush (100), 2) := by decide +kernel
theorem d_B_sleeper_82 : decode prog_1_method_3_code 82 = .ok (.idiv, 1) := by decide +kernel
theorem d_B_sleeper_83 : decode prog_1_method_3_code 83 = .ok (.iload_n 2, 1) := by decide +kernel
theorem d_B_sleeper_84 : decode prog_1_method_3_code 84 = .ok (.bipush (100), 2) := by decide +kernel
theorem d_B_sleeper_86 : decode prog_1_method_3_code 86 = .ok (.irem, 1) := by decide +kernel
theorem d_B_sleeper_87 : decode prog_1_method_3_code 87 = .ok (.invokevirtual 91, 3) := by decide +kernel
theorem d_B_sleeper_90 : decode prog_1_method_3_code 90 = .ok (.ireturn, 1) := by decide +kernel
set_option maxHeartbeats 4000000 in
set_option maxRecDepth 100000 in
theorem zf_B_sleeper {G : zz_G} {l : Launch} {Z : zz_Z} {q : Int32 × zz_S} {s : zz_S} (C : zz_Cx G l "OneBlanket" "sleeper" prog_1_method_3_code 5 (some .int) 3 (some (.int q.1), zsh, q.2) Z) (a1 : Int32) (a2 : Int32) (h : f_B_sleeper a1 a2 s = some q) : Z 0 [some (.ref 0), some (.int a1), some (.int a2), none, none] [] zsh s := by
  unfold f_B_sleeper at h
  refine zz_iload_n (i := 1) (pc := 0) C rfl rfl d_B_sleeper_0 ?_
  refine zz_if_lt (tgt := 15) (pc := 1) C (by decide) d_B_sleeper_1 (fun hc1 => ?_) (fun hc1 => ?_)
  · rw [if_pos hc1] at h
    refine zz_iconst (pc := 15) C zki_m1 d_B_sleeper_15 ?_
    replace h := Option.some.inj h
    subst h
    exact zz_ret (pc := 16) C (v := some (.int (-1 : Int32))) d_B_sleeper_16 (Or.inl ⟨_, _, rfl, rfl, rfl, rfl⟩) rfl
  · rw [if_neg hc1] at h
    refine zz_iload_n (i := 2) (pc := 4) C rfl rfl d_B_sleeper_4 ?_
    refine zz_if_lt (tgt := 15) (pc := 5) C (by decide) d_B_sleeper_5 (fun hc2 => ?_) (fun hc2 => ?_)
    · rw [if_pos hc2] at h
      refine zz_iconst (pc := 15) C zki_m1 d_B_sleeper_15 ?_
      replace h := Option.some.inj h
      subst h
      exact zz_ret (pc := 16) C (v := some (.int (-1 : Int32))) d_B_sleeper_16 (Or.inl ⟨_, _, rfl, rfl, rfl, rfl⟩) rfl
    · rw [if_neg hc2] at h
      refine zz_iload_n (i := 2) (pc := 8) C rfl rfl d_B_sleeper_8 ?_
      refine zz_sipush (pc := 9) C zks_9999 d_B_sleeper_9 ?_
      refine zz_icmp_le (tgt := 17) (pc := 12) C (by decide) d_B_sleeper_12 (fun hc3 => ?_) (fun hc3 => ?_)
      · rw [if_pos hc3] at h
        refine zz_iload_n (i := 1) (pc := 17) C rfl rfl d_B_sleeper_17 ?_
        refine zz_bipush (pc := 18) C zkb_100 d_B_sleeper_18 ?_
        refine zz_idiv (pc := 20) C (by decide) d_B_sleeper_20 ?_
        refine zz_istore_n (i := 3) (lo' := [some (.ref 0), some (.int a1), some (.int a2), some (.int (a1 / (100 : Int32))), none]) (pc := 21) C rfl (Nat.le_of_ble_eq_true rfl) rfl rfl d_B_sleeper_21 ?_
        refine zz_iload_n (i := 1) (pc := 22) C rfl rfl d_B_sleeper_22 ?_
        refine zz_bipush (pc := 23) C zkb_100 d_B_sleeper_23 ?_
        refine zz_irem (pc := 25) C (by decide) d_B_sleeper_25 ?_
        refine zz_istore (i := 4) (lo' := [some (.ref 0), some (.int a1), some (.int a2), some (.int (a1 / (100 : Int32))), some (.int (a1 % (100 : Int32)))]) (pc := 26) C (Nat.le_of_ble_eq_true rfl) rfl rfl d_B_sleeper_26 ?_
        refine zz_iload (i := 4) (pc := 28) C rfl d_B_sleeper_28 ?_
        refine zz_iconst (pc := 30) C zki_4 d_B_sleeper_30 ?_
        refine zz_icmp_lt (tgt := 55) (pc := 31) C (by decide) d_B_sleeper_31 (fun hc4 => ?_) (fun hc4 => ?_)
        · rw [if_pos hc4] at h
          refine zz_iconst (pc := 55) C zki_m1 d_B_sleeper_55 ?_
          replace h := Option.some.inj h
          subst h
          exact zz_ret (pc := 56) C (v := some (.int (-1 : Int32))) d_B_sleeper_56 (Or.inl ⟨_, _, rfl, rfl, rfl, rfl⟩) rfl
        · rw [if_neg hc4] at h
          refine zz_iload (i := 4) (pc := 34) C rfl d_B_sleeper_34 ?_
          refine zz_bipush (pc := 36) C zkb_20 d_B_sleeper_36 ?_
          refine zz_icmp_gt (tgt := 55) (pc := 38) C (by decide) d_B_sleeper_38 (fun hc5 => ?_) (fun hc5 => ?_)
          · rw [if_pos hc5] at h
            refine zz_iconst (pc := 55) C zki_m1 d_B_sleeper_55 ?_
            replace h := Option.some.inj h
            subst h
            exact zz_ret (pc := 56) C (v := some (.int (-1 : Int32))) d_B_sleeper_56 (Or.inl ⟨_, _, rfl, rfl, rfl, rfl⟩) rfl
          · rw [if_neg hc5] at h
            refine zz_iload_n (i := 3) (pc := 41) C rfl rfl d_B_sleeper_41 ?_
            refine zz_aload_n (i := 0) (pc := 42) C rfl rfl d_B_sleeper_42 ?_
            refine zz_getR (pc := 43) C zl_11_12 zsh_0 rfl d_B_sleeper_43 ?_
            refine zz_getI (pc := 46) C zl_11_88 zsh_1 rfl d_B_sleeper_46 ?_
            refine zz_iload (i := 4) (pc := 49) C rfl d_B_sleeper_49 ?_
            refine zz_isub (pc := 51) C d_B_sleeper_51 ?_
            refine zz_icmp_le (tgt := 57) (pc := 52) C (by decide) d_B_sleeper_52 (fun hc6 => ?_) (fun hc6 => ?_)
            · rw [if_pos hc6] at h
              refine zz_aload_n (i := 0) (pc := 57) C rfl rfl d_B_sleeper_57 ?_
              refine zz_getR (pc := 58) C zl_11_12 zsh_0 rfl d_B_sleeper_58 ?_
              refine zz_getI (pc := 61) C zl_11_85 zsh_1 rfl d_B_sleeper_61 ?_
              refine zz_bipush (pc := 64) C zkb_6 d_B_sleeper_64 ?_
              refine zz_icmp_lt (tgt := 72) (pc := 66) C (by decide) d_B_sleeper_66 (fun hc7 => ?_) (fun hc7 => ?_)
              · rw [if_pos hc7] at h
                refine zz_aload_n (i := 0) (pc := 72) C rfl rfl d_B_sleeper_72 ?_
                refine zz_getR (pc := 73) C zl_11_12 zsh_0 rfl d_B_sleeper_73 ?_
                refine zz_iload_n (i := 3) (pc := 76) C rfl rfl d_B_sleeper_76 ?_
                refine zz_iload (i := 4) (pc := 77) C rfl d_B_sleeper_77 ?_
                refine zz_iload_n (i := 2) (pc := 79) C rfl rfl d_B_sleeper_79 ?_
                refine zz_bipush (pc := 80) C zkb_100 d_B_sleeper_80 ?_
                refine zz_idiv (pc := 82) C (by decide) d_B_sleeper_82 ?_
                refine zz_iload_n (i := 2) (pc := 83) C rfl rfl d_B_sleeper_83 ?_
                refine zz_bipush (pc := 84) C zkb_100 d_B_sleeper_84 ?_
                refine zz_irem (pc := 86) C (by decide) d_B_sleeper_86 ?_
                obtain ⟨q8, hq8, h⟩ := zz_bdE h
                refine zz_cVi (as := [.int (a1 / (100 : Int32)), .int (a1 % (100 : Int32)), .int (a2 / (100 : Int32)), .int (a2 % (100 : Int32))]) (st := []) (pc := 87) C (zm_Bed_addSleeper hq8) zcv_Bed_addSleeper zsh_1 zl_11_91 (by omega) (Nat.le_of_ble_eq_true rfl) d_B_sleeper_87 rfl rfl ?_
                replace h := Option.some.inj h
                subst h
                exact zz_ret (pc := 90) C (v := some (.int q8.1)) d_B_sleeper_90 (Or.inl ⟨_, _, rfl, rfl, rfl, rfl⟩) rfl
              · rw [if_neg hc7] at h
                refine zz_bipush (pc := 69) C zkb_m3 d_B_sleeper_69 ?_
                replace h := Option.some.inj h
                subst h
                exact zz_ret (pc := 71) C (v := some (.int (-3 : Int32))) d_B_sleeper_71 (Or.inl ⟨_, _, rfl, rfl, rfl, rfl⟩) rfl
            · rw [if_neg hc6] at h
              refine zz_iconst (pc := 55) C zki_m1 d_B_sleeper_55 ?_
              replace h := Option.some.inj h
              subst h
              exact zz_ret (pc := 56) C (v := some (.int (-1 : Int32))) d_B_sleeper_56 (Or.inl ⟨_, _, rfl, rfl, rfl, rfl⟩) rfl
      · rw [if_neg hc3] at h
        refine zz_iconst (pc := 15) C zki_m1 d_B_sleeper_15 ?_
        replace h := Option.some.inj h
        subst h
        exact zz_ret (pc := 16) C (v := some (.int (-1 : Int32))) d_B_sleeper_16 (Or.inl ⟨_, _, rfl, rfl, rfl, rfl⟩) rfl
theorem zm_B_sleeper {G : zz_G} {l : Launch} {s : zz_S} {q : Int32 × zz_S} {a1 : Int32} {a2 : Int32} (h : f_B_sleeper a1 a2 s = some q) : zz_M G l 3 y_B_sleeper prog_1_method_3_code 5 (some .int) [.ref 0, .int a1, .int a2] zsh s (some (.int q.1), zsh, q.2) :=
  zz_M.intro (by decide) (Nat.le_of_ble_eq_true rfl) (Nat.le_refl _) (Nat.le_refl _) (fun Z C => zf_B_sleeper C a1 a2 h)
theorem d_B_sleeps_0 : decode prog_1_method_18_code 0 = .ok (.aload_n 0, 1) := by decide +kernel
theorem d_B_sleeps_1 : decode prog_1_method_18_code 1 = .ok (.getfield 12, 3) := by decide +kernel
theorem d_B_sleeps_4 : decode prog_1_method_18_code 4 = .ok (.iload_n 1, 1) := by decide +kernel
theorem d_B_sleeps_5 : decode prog_1_method_18_code 5 = .ok (.invokevirtual 101, 3) := by decide +kernel
theorem d_B_sleeps_8 : decode prog_1_method_18_code 8 = .ok (.ifCond .eq (10), 3) := by decide +kernel
theorem d_B_sleeps_11 : decode prog_1_method_18_code 11 = .ok (.iload_n 2, 1) := by decide +kernel
theorem d_B_sleeps_12 : decode prog_1_method_18_code 12 = .ok (.invokestatic 192, 3) := by decide +kernel
theorem d_B_sleeps_15 : decode prog_1_method_18_code 15 = .ok (.ifCond .ne (6), 3) := by decide +kernel
theorem d_B_sleeps_18 : decode prog_1_method_18_code 18 = .ok (.ldc 127, 2) := by decide +kernel
theorem d_B_sleeps_20 : decode prog_1_method_18_code 20 = .ok (.ireturn, 1) := by decide +kernel
theorem d_B_sleeps_21 : decode prog_1_method_18_code 21 = .ok (.iload_n 3, 1) := by decide +kernel
theorem d_B_sleeps_22 : decode prog_1_method_18_code 22 = .ok (.ifCond .lt (8), 3) := by decide +kernel
theorem d_B_sleeps_25 : decode prog_1_method_18_code 25 = .ok (.iload_n 3, 1) := by decide +kernel
theorem d_B_sleeps_26 : decode prog_1_method_18_code 26 = .ok (.iconst 3, 1) := by decide +kernel
theorem d_B_sleeps_27 : decode prog_1_method_18_code 27 = .ok (.if_icmp .le (6), 3) := by decide +kernel
theorem d_B_sleeps_30 : decode prog_1_method_18_code 30 = .ok (.ldc 127, 2) := by decide +kernel
theorem d_B_sleeps_32 : decode prog_1_method_18_code 32 = .ok (.ireturn, 1) := by decide +kernel
theorem d_B_sleeps_33 : decode prog_1_method_18_code 33 = .ok (.aload_n 0, 1) := by decide +kernel
theorem d_B_sleeps_34 : decode prog_1_method_18_code 34 = .ok (.iload_n 2, 1) := by decide +kernel
theorem d_B_sleeps_35 : decode prog_1_method_18_code 35 = .ok (.invokevirtual 195, 3) := by decide +kernel
theorem d_B_sleeps_38 : decode prog_1_method_18_code 38 = .ok (.aload_n 0, 1) := by decide +kernel
theorem d_B_sleeps_39 : decode prog_1_method_18_code 39 = .ok (.getfield 41, 3) := by decide +kernel
theorem d_B_sleeps_42 : decode prog_1_method_18_code 42 = .ok (.iload_n 1, 1) := by decide +kernel
theorem d_B_sleeps_43 : decode prog_1_method_18_code 43 = .ok (.iload_n 2, 1) := by decide +kernel
theorem d_B_sleeps_44 : decode prog_1_method_18_code 44 = .ok (.invokevirtual 207, 3) := by decide +kernel
theorem d_B_sleeps_47 : decode prog_1_method_18_code 47 = .ok (.istore 4, 2) := by decide +kernel
theorem d_B_sleeps_49 : decode prog_1_method_18_code 49 = .ok (.iload_n 3, 1) := by decide +kernel
theorem d_B_sleeps_50 : decode prog_1_method_18_code 50 = .ok (.tableswitch (55) (0) (2) #[26, 39, 52], 26) := by decide +kernel
theorem d_B_sleeps_76 : decode prog_1_method_18_code 76 = .ok (.aload_n 0, 1) := by decide +kernel
theorem d_B_sleeps_77 : decode prog_1_method_18_code 77 = .ok (.getfield 41, 3) := by decide +kernel
theorem d_B_sleeps_80 : decode prog_1_method_18_code 80 = .ok (.getfield 198, 3) := by decide +kernel
theorem d_B_sleeps_83 : decode prog_1_method_18_code 83 = .ok (.getfield 210, 3) := by decide +kernel
theorem d_B_sleeps_86 : decode prog_1_method_18_code 86 = .ok (.iload_n 1, 1) := by decide +kernel
theorem d_B_sleeps_87 : decode prog_1_method_18_code 87 = .ok (.iaload, 1) := by decide +kernel
theorem d_B_sleeps_88 : decode prog_1_method_18_code 88 = .ok (.ireturn, 1) := by decide +kernel
theorem d_B_sleeps_89 : decode prog_1_method_18_code 89 = .ok (.aload_n 0, 1) := by decide +kernel
theorem d_B_sleeps_90 : decode prog_1_method_18_code 90 = .ok (.getfield 41, 3) := by decide +kernel
theorem d_B_sleeps_93 : decode prog_1_method_18_code 93 = .ok (.getfield 198, 3) := by decide +kernel
theorem d_B_sleeps_96 : decode prog_1_method_18_code 96 = .ok (.getfield 213, 3) := by decide +kernel
theorem d_B_sleeps_99 : decode prog_1_method_18_code 99 = .ok (.iload_n 1, 1) := by decide +kernel
theorem d_B_sleeps_100 : decode prog_1_method_18_code 100 = .ok (.iaload, 1) := by decide +kernel
theorem d_B_sleeps_101 : decode prog_1_method_18_code 101 = .ok (.ireturn, 1) := by decide +kernel
theorem d_B_sleeps_102 : decode prog_1_method_18_code 102 = .ok (.iload 4, 2) := by decide +kernel
theorem d_B_sleeps_104 : decode prog_1_method_18_code 104 = .ok (.ireturn, 1) := by decide +kernel
theorem d_B_sleeps_105 : decode prog_1_method_18_code 105 = .ok (.aload_n 0, 1) := by decide +kernel
theorem d_B_sleeps_106 : decode prog_1_method_18_code 106 = .ok (.getfield 12, 3) := by decide +kernel
theorem d_B_sleeps_109 : decode prog_1_method_18_code 109 = .ok (.iload_n 1, 1) := by decide +kernel
theorem d_B_sleeps_110 : decode prog_1_method_18_code 110 = .ok (.iload 4, 2) := by decide +kernel
theorem d_B_sleeps_112 : decode prog_1_method_18_code 112 = .ok (.invokevirtual 216, 3) := by decide +kernel
theorem d_B_sleeps_115 : decode prog_1_method_18_code 115 = .ok (.ifCond .eq (7), 3) := by decide +kernel
theorem d_B_sleeps_118 : decode prog_1_method_18_code 118 = .ok (.iconst 1, 1) := by decide +kernel
theorem d_B_sleeps_119 : decode prog_1_method_18_code 119 = .ok (.goto (4), 3) := by decide +kernel
theorem d_B_sleeps_122 : decode prog_1_method_18_code 122 = .ok (.iconst 0, 1) := by decide +kernel
theorem d_B_sleeps_123 : decode prog_1_method_18_code 123 = .ok (.ireturn, 1) := by decide +kernel
set_option maxHeartbeats 4000000 in
set_option maxRecDepth 100000 in
theorem zf_B_sleeps {G : zz_G} {l : Launch} {Z : zz_Z} {q : Int32 × zz_S} {s : zz_S} (C : zz_Cx G l "OneBlanket" "sleeps" prog_1_method_18_code 5 (some .int) 9 (some (.int q.1), zsh, q.2) Z) (a1 : Int32) (a2 : Int32) (a3 : Int32) (h : f_B_sleeps a1 a2 a3 s = some q) : Z 0 [some (.ref 0), some (.int a1), some (.int a2), some (.int a3), none] [] zsh s := by
  unfold f_B_sleeps at h
  refine zz_aload_n (i := 0) (pc := 0) C rfl rfl d_B_sleeps_0 ?_
  refine zz_getR (pc := 1) C zl_11_12 zsh_0 rfl d_B_sleeps_1 ?_
  refine zz_iload_n (i := 1) (pc := 4) C rfl rfl d_B_sleeps_4 ?_
  refine zz_cVi (as := [.int a1]) (st := []) (pc := 5) C (zm_Bed_hasSleeper rfl) zcv_Bed_hasSleeper zsh_1 zl_11_101 (by omega) (Nat.le_of_ble_eq_true rfl) d_B_sleeps_5 rfl rfl ?_
  refine zz_if_eq (tgt := 18) (pc := 8) C (by decide) d_B_sleeps_8 (fun hc1 => ?_) (fun hc1 => ?_)
  · rw [if_pos hc1] at h
    refine zz_ldc (pc := 18) C zl_11_127 d_B_sleeps_18 ?_
    replace h := Option.some.inj h
    subst h
    exact zz_ret (pc := 20) C (v := some (.int (-2000000000 : Int32))) d_B_sleeps_20 (Or.inl ⟨_, _, rfl, rfl, rfl, rfl⟩) rfl
  · rw [if_neg hc1] at h
    refine zz_iload_n (i := 2) (pc := 11) C rfl rfl d_B_sleeps_11 ?_
    refine zz_cSi (as := [.int a2]) (st := []) (pc := 12) C (zm_B_isMinute rfl) zcs_B_isMinute zl_11_192 (by omega) (Nat.le_of_ble_eq_true rfl) d_B_sleeps_12 rfl rfl ?_
    refine zz_if_ne (tgt := 21) (pc := 15) C (by decide) d_B_sleeps_15 (fun hc2 => ?_) (fun hc2 => ?_)
    · rw [if_neg hc2] at h
      refine zz_iload_n (i := 3) (pc := 21) C rfl rfl d_B_sleeps_21 ?_
      refine zz_if_lt (tgt := 30) (pc := 22) C (by decide) d_B_sleeps_22 (fun hc3 => ?_) (fun hc3 => ?_)
      · rw [if_pos hc3] at h
        refine zz_ldc (pc := 30) C zl_11_127 d_B_sleeps_30 ?_
        replace h := Option.some.inj h
        subst h
        exact zz_ret (pc := 32) C (v := some (.int (-2000000000 : Int32))) d_B_sleeps_32 (Or.inl ⟨_, _, rfl, rfl, rfl, rfl⟩) rfl
      · rw [if_neg hc3] at h
        refine zz_iload_n (i := 3) (pc := 25) C rfl rfl d_B_sleeps_25 ?_
        refine zz_iconst (pc := 26) C zki_3 d_B_sleeps_26 ?_
        refine zz_icmp_le (tgt := 33) (pc := 27) C (by decide) d_B_sleeps_27 (fun hc4 => ?_) (fun hc4 => ?_)
        · rw [if_pos hc4] at h
          refine zz_aload_n (i := 0) (pc := 33) C rfl rfl d_B_sleeps_33 ?_
          refine zz_iload_n (i := 2) (pc := 34) C rfl rfl d_B_sleeps_34 ?_
          obtain ⟨q5, hq5, h⟩ := zz_bdE h
          refine zz_cVv (as := [.int a2]) (st := []) (pc := 35) C (zm_B_playTo hq5) zcv_B_playTo zsh_0 zl_11_195 (by omega) (Nat.le_of_ble_eq_true rfl) d_B_sleeps_35 rfl rfl ?_
          refine zz_aload_n (i := 0) (pc := 38) C rfl rfl d_B_sleeps_38 ?_
          refine zz_getR (pc := 39) C zl_11_41 zsh_0 rfl d_B_sleeps_39 ?_
          refine zz_iload_n (i := 1) (pc := 42) C rfl rfl d_B_sleeps_42 ?_
          refine zz_iload_n (i := 2) (pc := 43) C rfl rfl d_B_sleeps_43 ?_
          obtain ⟨q6, hq6, h⟩ := zz_bdE h
          refine zz_cVi (as := [.int a1, .int a2]) (st := []) (pc := 44) C (zm_Night_warmOf hq6) zcv_Night_warmOf zsh_20 zl_11_207 (by omega) (Nat.le_of_ble_eq_true rfl) d_B_sleeps_44 rfl rfl ?_
          refine zz_istore (i := 4) (lo' := [some (.ref 0), some (.int a1), some (.int a2), some (.int a3), some (.int q6)]) (pc := 47) C (Nat.le_of_ble_eq_true rfl) rfl rfl d_B_sleeps_47 ?_
          refine zz_iload_n (i := 3) (pc := 49) C rfl rfl d_B_sleeps_49 ?_
          by_cases hc7 : a3 = (0 : Int32)
          · rw [if_pos hc7] at h
            refine zz_tableIn (tgt := 76) (off := 26) (pc := 50) C (by rw [hc7]; decide) (by rw [hc7]; decide) (by rw [hc7]; decide) (by decide) d_B_sleeps_50 ?_
            refine zz_aload_n (i := 0) (pc := 76) C rfl rfl d_B_sleeps_76 ?_
            refine zz_getR (pc := 77) C zl_11_41 zsh_0 rfl d_B_sleeps_77 ?_
            refine zz_getR (pc := 80) C zl_11_198 zsh_20 rfl d_B_sleeps_80 ?_
            refine zz_getR (pc := 83) C zl_11_210 zsh_32 rfl d_B_sleeps_83 ?_
            refine zz_iload_n (i := 1) (pc := 86) C rfl rfl d_B_sleeps_86 ?_
            obtain ⟨hi8, h⟩ := zz_ckE h
            refine zz_iald (pc := 87) C rfl zsh_33 hi8 d_B_sleeps_87 ?_
            replace h := Option.some.inj h
            subst h
            exact zz_ret (pc := 88) C (v := some (.int (q5.1 33 (a1.toNatClampNeg)))) d_B_sleeps_88 (Or.inl ⟨_, _, rfl, rfl, rfl, rfl⟩) rfl
          · rw [if_neg hc7] at h
            by_cases hc9 : a3 = (1 : Int32)
            · rw [if_pos hc9] at h
              refine zz_tableIn (tgt := 89) (off := 39) (pc := 50) C (by rw [hc9]; decide) (by rw [hc9]; decide) (by rw [hc9]; decide) (by decide) d_B_sleeps_50 ?_
              refine zz_aload_n (i := 0) (pc := 89) C rfl rfl d_B_sleeps_89 ?_
              refine zz_getR (pc := 90) C zl_11_41 zsh_0 rfl d_B_sleeps_90 ?_
              refine zz_getR (pc := 93) C zl_11_198 zsh_20 rfl d_B_sleeps_93 ?_
              refine zz_getR (pc := 96) C zl_11_213 zsh_32 rfl d_B_sleeps_96 ?_
              refine zz_iload_n (i := 1) (pc := 99) C rfl rfl d_B_sleeps_99 ?_
              obtain ⟨hi10, h⟩ := zz_ckE h
              refine zz_iald (pc := 100) C rfl zsh_34 hi10 d_B_sleeps_100 ?_
              replace h := Option.some.inj h
              subst h
              exact zz_ret (pc := 101) C (v := some (.int (q5.1 34 (a1.toNatClampNeg)))) d_B_sleeps_101 (Or.inl ⟨_, _, rfl, rfl, rfl, rfl⟩) rfl
            · rw [if_neg hc9] at h
              by_cases hc11 : a3 = (2 : Int32)
              · rw [if_pos hc11] at h
                refine zz_tableIn (tgt := 102) (off := 52) (pc := 50) C (by rw [hc11]; decide) (by rw [hc11]; decide) (by rw [hc11]; decide) (by decide) d_B_sleeps_50 ?_
                refine zz_iload (i := 4) (pc := 102) C rfl d_B_sleeps_102 ?_
                replace h := Option.some.inj h
                subst h
                exact zz_ret (pc := 104) C (v := some (.int q6)) d_B_sleeps_104 (Or.inl ⟨_, _, rfl, rfl, rfl, rfl⟩) rfl
              · rw [if_neg hc11] at h
                have hc7i : a3.toInt ≠ 0 := fun e => hc7 (Int32.toInt_inj.mp e)
                have hc9i : a3.toInt ≠ 1 := fun e => hc9 (Int32.toInt_inj.mp e)
                have hc11i : a3.toInt ≠ 2 := fun e => hc11 (Int32.toInt_inj.mp e)
                refine zz_tableOut (tgt := 105) (pc := 50) C (by omega) (by decide) d_B_sleeps_50 ?_
                refine zz_aload_n (i := 0) (pc := 105) C rfl rfl d_B_sleeps_105 ?_
                refine zz_getR (pc := 106) C zl_11_12 zsh_0 rfl d_B_sleeps_106 ?_
                refine zz_iload_n (i := 1) (pc := 109) C rfl rfl d_B_sleeps_109 ?_
                refine zz_iload (i := 4) (pc := 110) C rfl d_B_sleeps_110 ?_
                obtain ⟨q12, hq12, h⟩ := zz_bdE h
                refine zz_cVi (as := [.int a1, .int q6]) (st := []) (pc := 112) C (zm_Bed_isEasy hq12) zcv_Bed_isEasy zsh_1 zl_11_216 (by omega) (Nat.le_of_ble_eq_true rfl) d_B_sleeps_112 rfl rfl ?_
                refine zz_if_eq (tgt := 122) (pc := 115) C (by decide) d_B_sleeps_115 (fun hc13 => ?_) (fun hc13 => ?_)
                · rw [if_pos hc13] at h
                  refine zz_iconst (pc := 122) C zki_0 d_B_sleeps_122 ?_
                  replace h := Option.some.inj h
                  subst h
                  exact zz_ret (pc := 123) C (v := some (.int (0 : Int32))) d_B_sleeps_123 (Or.inl ⟨_, _, rfl, rfl, rfl, rfl⟩) rfl
                · rw [if_neg hc13] at h
                  refine zz_iconst (pc := 118) C zki_1 d_B_sleeps_118 ?_
                  refine zz_goto (tgt := 123) (pc := 119) C (by decide) d_B_sleeps_119 ?_
                  replace h := Option.some.inj h
                  subst h
                  exact zz_ret (pc := 123) C (v := some (.int (1 : Int32))) d_B_sleeps_123 (Or.inl ⟨_, _, rfl, rfl, rfl, rfl⟩) rfl
        · rw [if_neg hc4] at h
          refine zz_ldc (pc := 30) C zl_11_127 d_B_sleeps_30 ?_
          replace h := Option.some.inj h
          subst h
          exact zz_ret (pc := 32) C (v := some (.int (-2000000000 : Int32))) d_B_sleeps_32 (Or.inl ⟨_, _, rfl, rfl, rfl, rfl⟩) rfl
    · rw [if_pos hc2] at h
      refine zz_ldc (pc := 18) C zl_11_127 d_B_sleeps_18 ?_
      replace h := Option.some.inj h
      subst h
      exact zz_ret (pc := 20) C (v := some (.int (-2000000000 : Int32))) d_B_sleeps_20 (Or.inl ⟨_, _, rfl, rfl, rfl, rfl⟩) rfl
theorem zm_B_sleeps {G : zz_G} {l : Launch} {s : zz_S} {q : Int32 × zz_S} {a1 : Int32} {a2 : Int32} {a3 : Int32} (h : f_B_sleeps a1 a2 a3 s = some q) : zz_M G l 9 y_B_sleeps prog_1_method_18_code 5 (some .int) [.ref 0, .int a1, .int a2, .int a3] zsh s (some (.int q.1), zsh, q.2) :=
  zz_M.intro (by decide) (Nat.le_of_ble_eq_true rfl) (Nat.le_refl _) (Nat.le_refl _) (fun Z C => zf_B_sleeps C a1 a2 a3 h)
theorem d_B_taken_0 : decode prog_1_method_46_code 0 = .ok (.iload_n 1, 1) := by decide +kernel
theorem d_B_taken_1 : decode prog_1_method_46_code 1 = .ok (.invokestatic 171, 3) := by decide +kernel
theorem d_B_taken_4 : decode prog_1_method_46_code 4 = .ok (.ifCond .eq (10), 3) := by decide +kernel
theorem d_B_taken_7 : decode prog_1_method_46_code 7 = .ok (.iload_n 2, 1) := by decide +kernel
theorem d_B_taken_8 : decode prog_1_method_46_code 8 = .ok (.invokestatic 318, 3) := by decide +kernel
theorem d_B_taken_11 : decode prog_1_method_46_code 11 = .ok (.ifCond .ne (5), 3) := by decide +kernel
theorem d_B_taken_14 : decode prog_1_method_46_code 14 = .ok (.iconst (-1), 1) := by decide +kernel
theorem d_B_taken_15 : decode prog_1_method_46_code 15 = .ok (.ireturn, 1) := by decide +kernel
theorem d_B_taken_16 : decode prog_1_method_46_code 16 = .ok (.aload_n 0, 1) := by decide +kernel
theorem d_B_taken_17 : decode prog_1_method_46_code 17 = .ok (.getfield 68, 3) := by decide +kernel
theorem d_B_taken_20 : decode prog_1_method_46_code 20 = .ok (.iload_n 1, 1) := by decide +kernel
theorem d_B_taken_21 : decode prog_1_method_46_code 21 = .ok (.aaload, 1) := by decide +kernel
theorem d_B_taken_22 : decode prog_1_method_46_code 22 = .ok (.astore_n 3, 1) := by decide +kernel
theorem d_B_taken_23 : decode prog_1_method_46_code 23 = .ok (.aload_n 3, 1) := by decide +kernel
theorem d_B_taken_24 : decode prog_1_method_46_code 24 = .ok (.invokevirtual 174, 3) := by decide +kernel
theorem d_B_taken_27 : decode prog_1_method_46_code 27 = .ok (.ifCond .eq (6), 3) := by decide +kernel
theorem d_B_taken_30 : decode prog_1_method_46_code 30 = .ok (.bipush (-11), 2) := by decide +kernel
theorem d_B_taken_32 : decode prog_1_method_46_code 32 = .ok (.ireturn, 1) := by decide +kernel
theorem d_B_taken_33 : decode prog_1_method_46_code 33 = .ok (.aload_n 3, 1) := by decide +kernel
theorem d_B_taken_34 : decode prog_1_method_46_code 34 = .ok (.invokevirtual 368, 3) := by decide +kernel
theorem d_B_taken_37 : decode prog_1_method_46_code 37 = .ok (.ifCond .eq (22), 3) := by decide +kernel
theorem d_B_taken_40 : decode prog_1_method_46_code 40 = .ok (.aload_n 0, 1) := by decide +kernel
theorem d_B_taken_41 : decode prog_1_method_46_code 41 = .ok (.getfield 62, 3) := by decide +kernel
theorem d_B_taken_44 : decode prog_1_method_46_code 44 = .ok (.getfield 371, 3) := by decide +kernel
theorem d_B_taken_47 : decode prog_1_method_46_code 47 = .ok (.aload_n 3, 1) := by decide +kernel
theorem d_B_taken_48 : decode prog_1_method_46_code 48 = .ok (.getfield 374, 3) := by decide +kernel
theorem d_B_taken_51 : decode prog_1_method_46_code 51 = .ok (.iaload, 1) := by decide +kernel
theorem d_B_taken_52 : decode prog_1_method_46_code 52 = .ok (.iload_n 2, 1) := by decide +kernel
theorem d_B_taken_53 : decode prog_1_method_46_code 53 = .ok (.invokestatic 377, 3) := by decide +kernel
theorem d_B_taken_56 : decode prog_1_method_46_code 56 = .ok (.ifCond .ne (6), 3) := by decide +kernel
theorem d_B_taken_59 : decode prog_1_method_46_code 59 = .ok (.bipush (-12), 2) := by decide +kernel
theorem d_B_taken_61 : decode prog_1_method_46_code 61 = .ok (.ireturn, 1) := by decide +kernel
theorem d_B_taken_62 : decode prog_1_method_46_code 62 = .ok (.aload_n 0, 1) := by decide +kernel
theorem d_B_taken_63 : decode prog_1_method_46_code 63 = .ok (.getfield 62, 3) := by decide +kernel
theorem d_B_taken_66 : decode prog_1_method_46_code 66 = .ok (.getfield 371, 3) := by decide +kernel
theorem d_B_taken_69 : decode prog_1_method_46_code 69 = .ok (.aload_n 3, 1) := by decide +kernel
theorem d_B_taken_70 : decode prog_1_method_46_code 70 = .ok (.getfield 374, 3) := by decide +kernel
theorem d_B_taken_73 : decode prog_1_method_46_code 73 = .ok (.iaload, 1) := by decide +kernel
theorem d_B_taken_74 : decode prog_1_method_46_code 74 = .ok (.ireturn, 1) := by decide +kernel
set_option maxHeartbeats 4000000 in
set_option maxRecDepth 100000 in
theorem zf_B_taken {G : zz_G} {l : Launch} {Z : zz_Z} {q : Int32} {s : zz_S} (C : zz_Cx G l "OneBlanket" "taken" prog_1_method_46_code 4 (some .int) 3 (some (.int q), zsh, s) Z) (a1 : Int32) (a2 : Int32) (h : f_B_taken a1 a2 s = some q) : Z 0 [some (.ref 0), some (.int a1), some (.int a2), none] [] zsh s := by
  unfold f_B_taken at h
  refine zz_iload_n (i := 1) (pc := 0) C rfl rfl d_B_taken_0 ?_
  refine zz_cSi (as := [.int a1]) (st := []) (pc := 1) C (zm_B_hasShelf rfl) zcs_B_hasShelf zl_11_171 (by omega) (Nat.le_of_ble_eq_true rfl) d_B_taken_1 rfl rfl ?_
  refine zz_if_eq (tgt := 14) (pc := 4) C (by decide) d_B_taken_4 (fun hc1 => ?_) (fun hc1 => ?_)
  · rw [if_pos hc1] at h
    refine zz_iconst (pc := 14) C zki_m1 d_B_taken_14 ?_
    replace h := Option.some.inj h
    subst h
    exact zz_ret (pc := 15) C (v := some (.int (-1 : Int32))) d_B_taken_15 (Or.inl ⟨_, _, rfl, rfl, rfl, rfl⟩) rfl
  · rw [if_neg hc1] at h
    refine zz_iload_n (i := 2) (pc := 7) C rfl rfl d_B_taken_7 ?_
    refine zz_cSi (as := [.int a2]) (st := []) (pc := 8) C (zm_B_isKind rfl) zcs_B_isKind zl_11_318 (by omega) (Nat.le_of_ble_eq_true rfl) d_B_taken_8 rfl rfl ?_
    refine zz_if_ne (tgt := 16) (pc := 11) C (by decide) d_B_taken_11 (fun hc2 => ?_) (fun hc2 => ?_)
    · rw [if_neg hc2] at h
      refine zz_aload_n (i := 0) (pc := 16) C rfl rfl d_B_taken_16 ?_
      refine zz_getR (pc := 17) C zl_11_68 zsh_0 rfl d_B_taken_17 ?_
      refine zz_iload_n (i := 1) (pc := 20) C rfl rfl d_B_taken_20 ?_
      obtain ⟨hi3, h⟩ := zz_ckE h
      refine zz_aald (pc := 21) C rfl zsh_52 (Cn := "OneBlanket$Shelf") ⟨by decide, by decide, rfl⟩ zra_52 hi3 d_B_taken_21 ?_
      refine zz_astore_n (i := 3) (lo' := [some (.ref 0), some (.int a1), some (.int a2), some (.ref (zr_52 a1))]) (pc := 22) C rfl (Nat.le_of_ble_eq_true rfl) rfl rfl d_B_taken_22 ?_
      refine zz_aload_n (i := 3) (pc := 23) C rfl rfl d_B_taken_23 ?_
      refine zz_cVi (as := []) (st := []) (pc := 24) C (zm_Shelf_isEmpty (zrm_52 hi3) rfl) zcv_Shelf_isEmpty (zS7_sh (zrm_52 hi3)) zl_11_174 (by omega) (Nat.le_of_ble_eq_true rfl) d_B_taken_24 rfl rfl ?_
      refine zz_if_eq (tgt := 33) (pc := 27) C (by decide) d_B_taken_27 (fun hc4 => ?_) (fun hc4 => ?_)
      · rw [if_pos hc4] at h
        refine zz_aload_n (i := 3) (pc := 33) C rfl rfl d_B_taken_33 ?_
        refine zz_cVi (as := []) (st := []) (pc := 34) C (zm_Shelf_isBody (zrm_52 hi3) rfl) zcv_Shelf_isBody (zS7_sh (zrm_52 hi3)) zl_11_368 (by omega) (Nat.le_of_ble_eq_true rfl) d_B_taken_34 rfl rfl ?_
        refine zz_if_eq (tgt := 59) (pc := 37) C (by decide) d_B_taken_37 (fun hc5 => ?_) (fun hc5 => ?_)
        · rw [if_pos hc5] at h
          refine zz_bipush (pc := 59) C zkb_m12 d_B_taken_59 ?_
          replace h := Option.some.inj h
          subst h
          exact zz_ret (pc := 61) C (v := some (.int (-12 : Int32))) d_B_taken_61 (Or.inl ⟨_, _, rfl, rfl, rfl, rfl⟩) rfl
        · rw [if_neg hc5] at h
          refine zz_aload_n (i := 0) (pc := 40) C rfl rfl d_B_taken_40 ?_
          refine zz_getR (pc := 41) C zl_11_62 zsh_0 rfl d_B_taken_41 ?_
          refine zz_getR (pc := 44) C zl_11_371 zsh_49 rfl d_B_taken_44 ?_
          refine zz_aload_n (i := 3) (pc := 47) C rfl rfl d_B_taken_47 ?_
          refine zz_getI (pc := 48) C zl_11_374 (zS7_sh (zrm_52 hi3)) rfl d_B_taken_48 ?_
          obtain ⟨hi6, h⟩ := zz_ckE h
          refine zz_iald (pc := 51) C rfl zsh_50 hi6 d_B_taken_51 ?_
          refine zz_iload_n (i := 2) (pc := 52) C rfl rfl d_B_taken_52 ?_
          obtain ⟨q7, hq7, h⟩ := zz_bdE h
          refine zz_cSi (as := [.int (s.1 50 ((s.1 (zr_52 a1) 1).toNatClampNeg)), .int a2]) (st := []) (pc := 53) C (zm_Bodies_isUnder hq7) zcs_Bodies_isUnder zl_11_377 (by omega) (Nat.le_of_ble_eq_true rfl) d_B_taken_53 rfl rfl ?_
          refine zz_if_ne (tgt := 62) (pc := 56) C (by decide) d_B_taken_56 (fun hc8 => ?_) (fun hc8 => ?_)
          · rw [if_neg hc8] at h
            refine zz_aload_n (i := 0) (pc := 62) C rfl rfl d_B_taken_62 ?_
            refine zz_getR (pc := 63) C zl_11_62 zsh_0 rfl d_B_taken_63 ?_
            refine zz_getR (pc := 66) C zl_11_371 zsh_49 rfl d_B_taken_66 ?_
            refine zz_aload_n (i := 3) (pc := 69) C rfl rfl d_B_taken_69 ?_
            refine zz_getI (pc := 70) C zl_11_374 (zS7_sh (zrm_52 hi3)) rfl d_B_taken_70 ?_
            refine zz_iald (pc := 73) C rfl zsh_50 hi6 d_B_taken_73 ?_
            replace h := Option.some.inj h
            subst h
            exact zz_ret (pc := 74) C (v := some (.int (s.1 50 ((s.1 (zr_52 a1) 1).toNatClampNeg)))) d_B_taken_74 (Or.inl ⟨_, _, rfl, rfl, rfl, rfl⟩) rfl
          · rw [if_pos hc8] at h
            refine zz_bipush (pc := 59) C zkb_m12 d_B_taken_59 ?_
            replace h := Option.some.inj h
            subst h
            exact zz_ret (pc := 61) C (v := some (.int (-12 : Int32))) d_B_taken_61 (Or.inl ⟨_, _, rfl, rfl, rfl, rfl⟩) rfl
      · rw [if_neg hc4] at h
        refine zz_bipush (pc := 30) C zkb_m11 d_B_taken_30 ?_
        replace h := Option.some.inj h
        subst h
        exact zz_ret (pc := 32) C (v := some (.int (-11 : Int32))) d_B_taken_32 (Or.inl ⟨_, _, rfl, rfl, rfl, rfl⟩) rfl
    · rw [if_pos hc2] at h
      refine zz_iconst (pc := 14) C zki_m1 d_B_taken_14 ?_
      replace h := Option.some.inj h
      subst h
      exact zz_ret (pc := 15) C (v := some (.int (-1 : Int32))) d_B_taken_15 (Or.inl ⟨_, _, rfl, rfl, rfl, rfl⟩) rfl
theorem zm_B_taken {G : zz_G} {l : Launch} {s : zz_S} {q : Int32} {a1 : Int32} {a2 : Int32} (h : f_B_taken a1 a2 s = some q) : zz_M G l 3 y_B_taken prog_1_method_46_code 4 (some .int) [.ref 0, .int a1, .int a2] zsh s (some (.int q), zsh, s) :=
  zz_M.intro (by decide) (Nat.le_of_ble_eq_true rfl) (Nat.le_refl _) (Nat.le_refl _) (fun Z C => zf_B_taken C a1 a2 h)
theorem d_B_took_0 : decode prog_1_method_21_code 0 = .ok (.iload_n 1, 1) := by decide +kernel
theorem d_B_took_1 : decode prog_1_method_21_code 1 = .ok (.ifCond .lt (31), 3) := by decide +kernel
theorem d_B_took_4 : decode prog_1_method_21_code 4 = .ok (.aload_n 0, 1) := by decide +kernel
theorem d_B_took_5 : decode prog_1_method_21_code 5 = .ok (.getfield 12, 3) := by decide +kernel
theorem d_B_took_8 : decode prog_1_method_21_code 8 = .ok (.iload_n 1, 1) := by decide +kernel
theorem d_B_took_9 : decode prog_1_method_21_code 9 = .ok (.bipush (10), 2) := by decide +kernel
theorem d_B_took_11 : decode prog_1_method_21_code 11 = .ok (.idiv, 1) := by decide +kernel
theorem d_B_took_12 : decode prog_1_method_21_code 12 = .ok (.invokevirtual 101, 3) := by decide +kernel
theorem d_B_took_15 : decode prog_1_method_21_code 15 = .ok (.ifCond .eq (17), 3) := by decide +kernel
theorem d_B_took_18 : decode prog_1_method_21_code 18 = .ok (.aload_n 0, 1) := by decide +kernel
theorem d_B_took_19 : decode prog_1_method_21_code 19 = .ok (.getfield 12, 3) := by decide +kernel
theorem d_B_took_22 : decode prog_1_method_21_code 22 = .ok (.iload_n 1, 1) := by decide +kernel
theorem d_B_took_23 : decode prog_1_method_21_code 23 = .ok (.bipush (10), 2) := by decide +kernel
theorem d_B_took_25 : decode prog_1_method_21_code 25 = .ok (.irem, 1) := by decide +kernel
theorem d_B_took_26 : decode prog_1_method_21_code 26 = .ok (.invokevirtual 105, 3) := by decide +kernel
theorem d_B_took_29 : decode prog_1_method_21_code 29 = .ok (.ifCond .ne (6), 3) := by decide +kernel
theorem d_B_took_32 : decode prog_1_method_21_code 32 = .ok (.ldc 127, 2) := by decide +kernel
theorem d_B_took_34 : decode prog_1_method_21_code 34 = .ok (.ireturn, 1) := by decide +kernel
theorem d_B_took_35 : decode prog_1_method_21_code 35 = .ok (.aload_n 0, 1) := by decide +kernel
theorem d_B_took_36 : decode prog_1_method_21_code 36 = .ok (.sipush (479), 3) := by decide +kernel
theorem d_B_took_39 : decode prog_1_method_21_code 39 = .ok (.invokevirtual 195, 3) := by decide +kernel
theorem d_B_took_42 : decode prog_1_method_21_code 42 = .ok (.aload_n 0, 1) := by decide +kernel
theorem d_B_took_43 : decode prog_1_method_21_code 43 = .ok (.getfield 41, 3) := by decide +kernel
theorem d_B_took_46 : decode prog_1_method_21_code 46 = .ok (.getfield 241, 3) := by decide +kernel
theorem d_B_took_49 : decode prog_1_method_21_code 49 = .ok (.iload_n 1, 1) := by decide +kernel
theorem d_B_took_50 : decode prog_1_method_21_code 50 = .ok (.bipush (10), 2) := by decide +kernel
theorem d_B_took_52 : decode prog_1_method_21_code 52 = .ok (.idiv, 1) := by decide +kernel
theorem d_B_took_53 : decode prog_1_method_21_code 53 = .ok (.iconst 3, 1) := by decide +kernel
theorem d_B_took_54 : decode prog_1_method_21_code 54 = .ok (.imul, 1) := by decide +kernel
theorem d_B_took_55 : decode prog_1_method_21_code 55 = .ok (.iload_n 1, 1) := by decide +kernel
theorem d_B_took_56 : decode prog_1_method_21_code 56 = .ok (.bipush (10), 2) := by decide +kernel
theorem d_B_took_58 : decode prog_1_method_21_code 58 = .ok (.irem, 1) := by decide +kernel
theorem d_B_took_59 : decode prog_1_method_21_code 59 = .ok (.iadd, 1) := by decide +kernel
theorem d_B_took_60 : decode prog_1_method_21_code 60 = .ok (.iaload, 1) := by decide +kernel
theorem d_B_took_61 : decode prog_1_method_21_code 61 = .ok (.ireturn, 1) := by decide +kernel
set_option maxHeartbeats 4000000 in
set_option maxRecDepth 100000 in
theorem zf_B_took {G : zz_G} {l : Launch} {Z : zz_Z} {q : Int32 × zz_S} {s : zz_S} (C : zz_Cx G l "OneBlanket" "took" prog_1_method_21_code 2 (some .int) 9 (some (.int q.1), zsh, q.2) Z) (a1 : Int32) (h : f_B_took a1 s = some q) : Z 0 [some (.ref 0), some (.int a1)] [] zsh s := by
  unfold f_B_took at h
  refine zz_iload_n (i := 1) (pc := 0) C rfl rfl d_B_took_0 ?_
  refine zz_if_lt (tgt := 32) (pc := 1) C (by decide) d_B_took_1 (fun hc1 => ?_) (fun hc1 => ?_)
  · rw [if_pos hc1] at h
    refine zz_ldc (pc := 32) C zl_11_127 d_B_took_32 ?_
    replace h := Option.some.inj h
    subst h
    exact zz_ret (pc := 34) C (v := some (.int (-2000000000 : Int32))) d_B_took_34 (Or.inl ⟨_, _, rfl, rfl, rfl, rfl⟩) rfl
  · rw [if_neg hc1] at h
    refine zz_aload_n (i := 0) (pc := 4) C rfl rfl d_B_took_4 ?_
    refine zz_getR (pc := 5) C zl_11_12 zsh_0 rfl d_B_took_5 ?_
    refine zz_iload_n (i := 1) (pc := 8) C rfl rfl d_B_took_8 ?_
    refine zz_bipush (pc := 9) C zkb_10 d_B_took_9 ?_
    refine zz_idiv (pc := 11) C (by decide) d_B_took_11 ?_
    refine zz_cVi (as := [.int (a1 / (10 : Int32))]) (st := []) (pc := 12) C (zm_Bed_hasSleeper rfl) zcv_Bed_hasSleeper zsh_1 zl_11_101 (by omega) (Nat.le_of_ble_eq_true rfl) d_B_took_12 rfl rfl ?_
    refine zz_if_eq (tgt := 32) (pc := 15) C (by decide) d_B_took_15 (fun hc2 => ?_) (fun hc2 => ?_)
    · rw [if_pos hc2] at h
      refine zz_ldc (pc := 32) C zl_11_127 d_B_took_32 ?_
      replace h := Option.some.inj h
      subst h
      exact zz_ret (pc := 34) C (v := some (.int (-2000000000 : Int32))) d_B_took_34 (Or.inl ⟨_, _, rfl, rfl, rfl, rfl⟩) rfl
    · rw [if_neg hc2] at h
      refine zz_aload_n (i := 0) (pc := 18) C rfl rfl d_B_took_18 ?_
      refine zz_getR (pc := 19) C zl_11_12 zsh_0 rfl d_B_took_19 ?_
      refine zz_iload_n (i := 1) (pc := 22) C rfl rfl d_B_took_22 ?_
      refine zz_bipush (pc := 23) C zkb_10 d_B_took_23 ?_
      refine zz_irem (pc := 25) C (by decide) d_B_took_25 ?_
      refine zz_cVi (as := [.int (a1 % (10 : Int32))]) (st := []) (pc := 26) C (zm_Bed_hasCover rfl) zcv_Bed_hasCover zsh_1 zl_11_105 (by omega) (Nat.le_of_ble_eq_true rfl) d_B_took_26 rfl rfl ?_
      refine zz_if_ne (tgt := 35) (pc := 29) C (by decide) d_B_took_29 (fun hc3 => ?_) (fun hc3 => ?_)
      · rw [if_neg hc3] at h
        refine zz_aload_n (i := 0) (pc := 35) C rfl rfl d_B_took_35 ?_
        refine zz_sipush (pc := 36) C zks_479 d_B_took_36 ?_
        obtain ⟨q4, hq4, h⟩ := zz_bdE h
        refine zz_cVv (as := [.int (479 : Int32)]) (st := []) (pc := 39) C (zm_B_playTo hq4) zcv_B_playTo zsh_0 zl_11_195 (by omega) (Nat.le_of_ble_eq_true rfl) d_B_took_39 rfl rfl ?_
        refine zz_aload_n (i := 0) (pc := 42) C rfl rfl d_B_took_42 ?_
        refine zz_getR (pc := 43) C zl_11_41 zsh_0 rfl d_B_took_43 ?_
        refine zz_getR (pc := 46) C zl_11_241 zsh_20 rfl d_B_took_46 ?_
        refine zz_iload_n (i := 1) (pc := 49) C rfl rfl d_B_took_49 ?_
        refine zz_bipush (pc := 50) C zkb_10 d_B_took_50 ?_
        refine zz_idiv (pc := 52) C (by decide) d_B_took_52 ?_
        refine zz_iconst (pc := 53) C zki_3 d_B_took_53 ?_
        refine zz_imul (pc := 54) C d_B_took_54 ?_
        refine zz_iload_n (i := 1) (pc := 55) C rfl rfl d_B_took_55 ?_
        refine zz_bipush (pc := 56) C zkb_10 d_B_took_56 ?_
        refine zz_irem (pc := 58) C (by decide) d_B_took_58 ?_
        refine zz_iadd (pc := 59) C d_B_took_59 ?_
        obtain ⟨hi5, h⟩ := zz_ckE h
        refine zz_iald (pc := 60) C rfl zsh_28 hi5 d_B_took_60 ?_
        replace h := Option.some.inj h
        subst h
        exact zz_ret (pc := 61) C (v := some (.int (q4.1 28 ((((a1 / (10 : Int32)) * (3 : Int32)) + (a1 % (10 : Int32))).toNatClampNeg)))) d_B_took_61 (Or.inl ⟨_, _, rfl, rfl, rfl, rfl⟩) rfl
      · rw [if_pos hc3] at h
        refine zz_ldc (pc := 32) C zl_11_127 d_B_took_32 ?_
        replace h := Option.some.inj h
        subst h
        exact zz_ret (pc := 34) C (v := some (.int (-2000000000 : Int32))) d_B_took_34 (Or.inl ⟨_, _, rfl, rfl, rfl, rfl⟩) rfl
theorem zm_B_took {G : zz_G} {l : Launch} {s : zz_S} {q : Int32 × zz_S} {a1 : Int32} (h : f_B_took a1 s = some q) : zz_M G l 9 y_B_took prog_1_method_21_code 2 (some .int) [.ref 0, .int a1] zsh s (some (.int q.1), zsh, q.2) :=
  zz_M.intro (by decide) (Nat.le_of_ble_eq_true rfl) (Nat.le_refl _) (Nat.le_refl _) (fun Z C => zf_B_took C a1 h)
theorem d_B_tossedFrom_0 : decode prog_1_method_15_code 0 = .ok (.iconst 0, 1) := by decide +kernel
theorem d_B_tossedFrom_1 : decode prog_1_method_15_code 1 = .ok (.istore 4, 2) := by decide +kernel
theorem d_B_tossedFrom_3 : decode prog_1_method_15_code 3 = .ok (.iload 4, 2) := by decide +kernel
theorem d_B_tossedFrom_5 : decode prog_1_method_15_code 5 = .ok (.iload_n 3, 1) := by decide +kernel
theorem d_B_tossedFrom_6 : decode prog_1_method_15_code 6 = .ok (.if_icmp .ge (97), 3) := by decide +kernel
theorem d_B_tossedFrom_9 : decode prog_1_method_15_code 9 = .ok (.iload_n 2, 1) := by decide +kernel
theorem d_B_tossedFrom_10 : decode prog_1_method_15_code 10 = .ok (.aload_n 1, 1) := by decide +kernel
theorem d_B_tossedFrom_11 : decode prog_1_method_15_code 11 = .ok (.getfield 185, 3) := by decide +kernel
theorem d_B_tossedFrom_14 : decode prog_1_method_15_code 14 = .ok (.iconst 3, 1) := by decide +kernel
theorem d_B_tossedFrom_15 : decode prog_1_method_15_code 15 = .ok (.isub, 1) := by decide +kernel
theorem d_B_tossedFrom_16 : decode prog_1_method_15_code 16 = .ok (.if_icmp .gt (15), 3) := by decide +kernel
theorem d_B_tossedFrom_19 : decode prog_1_method_15_code 19 = .ok (.aload_n 0, 1) := by decide +kernel
theorem d_B_tossedFrom_20 : decode prog_1_method_15_code 20 = .ok (.getfield 19, 3) := by decide +kernel
theorem d_B_tossedFrom_23 : decode prog_1_method_15_code 23 = .ok (.getfield 165, 3) := by decide +kernel
theorem d_B_tossedFrom_26 : decode prog_1_method_15_code 26 = .ok (.bipush (60), 2) := by decide +kernel
theorem d_B_tossedFrom_28 : decode prog_1_method_15_code 28 = .ok (.if_icmp .lt (6), 3) := by decide +kernel
theorem d_B_tossedFrom_31 : decode prog_1_method_15_code 31 = .ok (.iload 4, 2) := by decide +kernel
theorem d_B_tossedFrom_33 : decode prog_1_method_15_code 33 = .ok (.ireturn, 1) := by decide +kernel
theorem d_B_tossedFrom_34 : decode prog_1_method_15_code 34 = .ok (.aload_n 1, 1) := by decide +kernel
theorem d_B_tossedFrom_35 : decode prog_1_method_15_code 35 = .ok (.getfield 188, 3) := by decide +kernel
theorem d_B_tossedFrom_38 : decode prog_1_method_15_code 38 = .ok (.iload_n 2, 1) := by decide +kernel
theorem d_B_tossedFrom_39 : decode prog_1_method_15_code 39 = .ok (.laload, 1) := by decide +kernel
theorem d_B_tossedFrom_40 : decode prog_1_method_15_code 40 = .ok (.l2i, 1) := by decide +kernel
theorem d_B_tossedFrom_41 : decode prog_1_method_15_code 41 = .ok (.istore 5, 2) := by decide +kernel
theorem d_B_tossedFrom_43 : decode prog_1_method_15_code 43 = .ok (.aload_n 1, 1) := by decide +kernel
theorem d_B_tossedFrom_44 : decode prog_1_method_15_code 44 = .ok (.getfield 188, 3) := by decide +kernel
theorem d_B_tossedFrom_47 : decode prog_1_method_15_code 47 = .ok (.iload_n 2, 1) := by decide +kernel
theorem d_B_tossedFrom_48 : decode prog_1_method_15_code 48 = .ok (.iconst 1, 1) := by decide +kernel
theorem d_B_tossedFrom_49 : decode prog_1_method_15_code 49 = .ok (.iadd, 1) := by decide +kernel
theorem d_B_tossedFrom_50 : decode prog_1_method_15_code 50 = .ok (.laload, 1) := by decide +kernel
theorem d_B_tossedFrom_51 : decode prog_1_method_15_code 51 = .ok (.l2i, 1) := by decide +kernel
theorem d_B_tossedFrom_52 : decode prog_1_method_15_code 52 = .ok (.istore 6, 2) := by decide +kernel
theorem d_B_tossedFrom_54 : decode prog_1_method_15_code 54 = .ok (.aload_n 1, 1) := by decide +kernel
theorem d_B_tossedFrom_55 : decode prog_1_method_15_code 55 = .ok (.getfield 188, 3) := by decide +kernel
theorem d_B_tossedFrom_58 : decode prog_1_method_15_code 58 = .ok (.iload_n 2, 1) := by decide +kernel
theorem d_B_tossedFrom_59 : decode prog_1_method_15_code 59 = .ok (.iconst 2, 1) := by decide +kernel
theorem d_B_tossedFrom_60 : decode prog_1_method_15_code 60 = .ok (.iadd, 1) := by decide +kernel
theorem d_B_tossedFrom_61 : decode prog_1_method_15_code 61 = .ok (.laload, 1) := by decide +kernel
theorem d_B_tossedFrom_62 : decode prog_1_method_15_code 62 = .ok (.l2i, 1) := by decide +kernel
theorem d_B_tossedFrom_63 : decode prog_1_method_15_code 63 = .ok (.istore 7, 2) := by decide +kernel
theorem d_B_tossedFrom_65 : decode prog_1_method_15_code 65 = .ok (.iload 5, 2) := by decide +kernel
theorem d_B_tossedFrom_67 : decode prog_1_method_15_code 67 = .ok (.iload 6, 2) := by decide +kernel
theorem d_B_tossedFrom_69 : decode prog_1_method_15_code 69 = .ok (.iload 7, 2) := by decide +kernel
theorem d_B_tossedFrom_71 : decode prog_1_method_15_code 71 = .ok (.invokestatic 161, 3) := by decide +kernel
theorem d_B_tossedFrom_74 : decode prog_1_method_15_code 74 = .ok (.ifCond .ne (6), 3) := by decide +kernel
theorem d_B_tossedFrom_77 : decode prog_1_method_15_code 77 = .ok (.iload 4, 2) := by decide +kernel
theorem d_B_tossedFrom_79 : decode prog_1_method_15_code 79 = .ok (.ireturn, 1) := by decide +kernel
theorem d_B_tossedFrom_80 : decode prog_1_method_15_code 80 = .ok (.aload_n 0, 1) := by decide +kernel
theorem d_B_tossedFrom_81 : decode prog_1_method_15_code 81 = .ok (.getfield 19, 3) := by decide +kernel
theorem d_B_tossedFrom_84 : decode prog_1_method_15_code 84 = .ok (.iload 5, 2) := by decide +kernel
theorem d_B_tossedFrom_86 : decode prog_1_method_15_code 86 = .ok (.iload 6, 2) := by decide +kernel
theorem d_B_tossedFrom_88 : decode prog_1_method_15_code 88 = .ok (.iload 7, 2) := by decide +kernel
theorem d_B_tossedFrom_90 : decode prog_1_method_15_code 90 = .ok (.invokevirtual 168, 3) := by decide +kernel
theorem d_B_tossedFrom_93 : decode prog_1_method_15_code 93 = .ok (.pop, 1) := by decide +kernel
theorem d_B_tossedFrom_94 : decode prog_1_method_15_code 94 = .ok (.iinc 2 (3), 3) := by decide +kernel
theorem d_B_tossedFrom_97 : decode prog_1_method_15_code 97 = .ok (.iinc 4 (1), 3) := by decide +kernel
theorem d_B_tossedFrom_100 : decode prog_1_method_15_code 100 = .ok (.goto (-97), 3) := by decide +kernel
theorem d_B_tossedFrom_103 : decode prog_1_method_15_code 103 = .ok (.iload_n 3, 1) := by decide +kernel
theorem d_B_tossedFrom_104 : decode prog_1_method_15_code 104 = .ok (.ireturn, 1) := by decide +kernel
set_option maxHeartbeats 4000000 in
set_option maxRecDepth 100000 in
theorem zf_B_tossedFrom_L3 {G : zz_G} {l : Launch} {Z : zz_Z} {q : Int32 × zz_S} (C : zz_Cx G l "OneBlanket" "tossedFrom" prog_1_method_15_code 8 (some .int) 4 (some (.int q.1), zsh, q.2) Z) : ∀ (n : Nat) (v1 : Nat) (v2 : Int32) (v3 : Int32) (v4 : Int32) (s : zz_S) (hv1 : v1 ∈ zS7), f_B_tossedFrom_L3 n v1 v2 v3 v4 s = some q → Z 3 [some (.ref 0), some (.ref v1), some (.int v2), some (.int v3), some (.int v4), none, none, none] [] zsh s := by
  intro n
  induction n with
  | zero => intro v1 v2 v3 v4 s hv1 h; rw [f_B_tossedFrom_L3] at h; cases h
  | succ n ih =>
  intro v1 v2 v3 v4 s hv1 h
  rw [f_B_tossedFrom_L3] at h
  refine zz_iload (i := 4) (pc := 3) C rfl d_B_tossedFrom_3 ?_
  refine zz_iload_n (i := 3) (pc := 5) C rfl rfl d_B_tossedFrom_5 ?_
  refine zz_icmp_ge (tgt := 103) (pc := 6) C (by decide) d_B_tossedFrom_6 (fun hc1 => ?_) (fun hc1 => ?_)
  · rw [if_pos hc1] at h
    refine zz_iload_n (i := 3) (pc := 103) C rfl rfl d_B_tossedFrom_103 ?_
    replace h := Option.some.inj h
    subst h
    exact zz_ret (pc := 104) C (v := some (.int v3)) d_B_tossedFrom_104 (Or.inl ⟨_, _, rfl, rfl, rfl, rfl⟩) rfl
  · rw [if_neg hc1] at h
    refine zz_iload_n (i := 2) (pc := 9) C rfl rfl d_B_tossedFrom_9 ?_
    refine zz_aload_n (i := 1) (pc := 10) C rfl rfl d_B_tossedFrom_10 ?_
    refine zz_getI (pc := 11) C zl_11_185 (zS7_sh hv1) rfl d_B_tossedFrom_11 ?_
    refine zz_iconst (pc := 14) C zki_3 d_B_tossedFrom_14 ?_
    refine zz_isub (pc := 15) C d_B_tossedFrom_15 ?_
    refine zz_icmp_gt (tgt := 31) (pc := 16) C (by decide) d_B_tossedFrom_16 (fun hc2 => ?_) (fun hc2 => ?_)
    · rw [if_pos hc2] at h
      refine zz_iload (i := 4) (pc := 31) C rfl d_B_tossedFrom_31 ?_
      replace h := Option.some.inj h
      subst h
      exact zz_ret (pc := 33) C (v := some (.int v4)) d_B_tossedFrom_33 (Or.inl ⟨_, _, rfl, rfl, rfl, rfl⟩) rfl
    · rw [if_neg hc2] at h
      refine zz_aload_n (i := 0) (pc := 19) C rfl rfl d_B_tossedFrom_19 ?_
      refine zz_getR (pc := 20) C zl_11_19 zsh_0 rfl d_B_tossedFrom_20 ?_
      refine zz_getI (pc := 23) C zl_11_165 zsh_10 rfl d_B_tossedFrom_23 ?_
      refine zz_bipush (pc := 26) C zkb_60 d_B_tossedFrom_26 ?_
      refine zz_icmp_lt (tgt := 34) (pc := 28) C (by decide) d_B_tossedFrom_28 (fun hc3 => ?_) (fun hc3 => ?_)
      · rw [if_pos hc3] at h
        refine zz_aload_n (i := 1) (pc := 34) C rfl rfl d_B_tossedFrom_34 ?_
        refine zz_getR (pc := 35) C zl_11_188 (zS7_sh hv1) rfl d_B_tossedFrom_35 ?_
        refine zz_iload_n (i := 2) (pc := 38) C rfl rfl d_B_tossedFrom_38 ?_
        obtain ⟨hi4, h⟩ := zz_ckE h
        refine zz_lald (pc := 39) C rfl (zS8_sh (zder_S7_1 hv1)) hi4 d_B_tossedFrom_39 ?_
        refine zz_l2i (pc := 40) C d_B_tossedFrom_40 ?_
        refine zz_istore (i := 5) (lo' := [some (.ref 0), some (.ref v1), some (.int v2), some (.int v3), some (.int v4), some (.int (s.2 (v1 + 1) (v2.toNatClampNeg)).toInt32), none, none]) (pc := 41) C (Nat.le_of_ble_eq_true rfl) rfl rfl d_B_tossedFrom_41 ?_
        refine zz_aload_n (i := 1) (pc := 43) C rfl rfl d_B_tossedFrom_43 ?_
        refine zz_getR (pc := 44) C zl_11_188 (zS7_sh hv1) rfl d_B_tossedFrom_44 ?_
        refine zz_iload_n (i := 2) (pc := 47) C rfl rfl d_B_tossedFrom_47 ?_
        refine zz_iconst (pc := 48) C zki_1 d_B_tossedFrom_48 ?_
        refine zz_iadd (pc := 49) C d_B_tossedFrom_49 ?_
        obtain ⟨hi5, h⟩ := zz_ckE h
        refine zz_lald (pc := 50) C rfl (zS8_sh (zder_S7_1 hv1)) hi5 d_B_tossedFrom_50 ?_
        refine zz_l2i (pc := 51) C d_B_tossedFrom_51 ?_
        refine zz_istore (i := 6) (lo' := [some (.ref 0), some (.ref v1), some (.int v2), some (.int v3), some (.int v4), some (.int (s.2 (v1 + 1) (v2.toNatClampNeg)).toInt32), some (.int (s.2 (v1 + 1) ((v2 + (1 : Int32)).toNatClampNeg)).toInt32), none]) (pc := 52) C (Nat.le_of_ble_eq_true rfl) rfl rfl d_B_tossedFrom_52 ?_
        refine zz_aload_n (i := 1) (pc := 54) C rfl rfl d_B_tossedFrom_54 ?_
        refine zz_getR (pc := 55) C zl_11_188 (zS7_sh hv1) rfl d_B_tossedFrom_55 ?_
        refine zz_iload_n (i := 2) (pc := 58) C rfl rfl d_B_tossedFrom_58 ?_
        refine zz_iconst (pc := 59) C zki_2 d_B_tossedFrom_59 ?_
        refine zz_iadd (pc := 60) C d_B_tossedFrom_60 ?_
        obtain ⟨hi6, h⟩ := zz_ckE h
        refine zz_lald (pc := 61) C rfl (zS8_sh (zder_S7_1 hv1)) hi6 d_B_tossedFrom_61 ?_
        refine zz_l2i (pc := 62) C d_B_tossedFrom_62 ?_
        refine zz_istore (i := 7) (lo' := [some (.ref 0), some (.ref v1), some (.int v2), some (.int v3), some (.int v4), some (.int (s.2 (v1 + 1) (v2.toNatClampNeg)).toInt32), some (.int (s.2 (v1 + 1) ((v2 + (1 : Int32)).toNatClampNeg)).toInt32), some (.int (s.2 (v1 + 1) ((v2 + (2 : Int32)).toNatClampNeg)).toInt32)]) (pc := 63) C (Nat.le_of_ble_eq_true rfl) rfl rfl d_B_tossedFrom_63 ?_
        refine zz_iload (i := 5) (pc := 65) C rfl d_B_tossedFrom_65 ?_
        refine zz_iload (i := 6) (pc := 67) C rfl d_B_tossedFrom_67 ?_
        refine zz_iload (i := 7) (pc := 69) C rfl d_B_tossedFrom_69 ?_
        refine zz_cSi (as := [.int (s.2 (v1 + 1) (v2.toNatClampNeg)).toInt32, .int (s.2 (v1 + 1) ((v2 + (1 : Int32)).toNatClampNeg)).toInt32, .int (s.2 (v1 + 1) ((v2 + (2 : Int32)).toNatClampNeg)).toInt32]) (st := []) (pc := 71) C (zm_Turns_mayBe rfl) zcs_Turns_mayBe zl_11_161 (by omega) (Nat.le_of_ble_eq_true rfl) d_B_tossedFrom_71 rfl rfl ?_
        refine zz_if_ne (tgt := 80) (pc := 74) C (by decide) d_B_tossedFrom_74 (fun hc7 => ?_) (fun hc7 => ?_)
        · rw [if_neg hc7] at h
          refine zz_aload_n (i := 0) (pc := 80) C rfl rfl d_B_tossedFrom_80 ?_
          refine zz_getR (pc := 81) C zl_11_19 zsh_0 rfl d_B_tossedFrom_81 ?_
          refine zz_iload (i := 5) (pc := 84) C rfl d_B_tossedFrom_84 ?_
          refine zz_iload (i := 6) (pc := 86) C rfl d_B_tossedFrom_86 ?_
          refine zz_iload (i := 7) (pc := 88) C rfl d_B_tossedFrom_88 ?_
          obtain ⟨q8, hq8, h⟩ := zz_bdE h
          refine zz_cVi (as := [.int (s.2 (v1 + 1) (v2.toNatClampNeg)).toInt32, .int (s.2 (v1 + 1) ((v2 + (1 : Int32)).toNatClampNeg)).toInt32, .int (s.2 (v1 + 1) ((v2 + (2 : Int32)).toNatClampNeg)).toInt32]) (st := []) (pc := 90) C (zm_Turns_add hq8) zcv_Turns_add zsh_10 zl_11_168 (by omega) (Nat.le_of_ble_eq_true rfl) d_B_tossedFrom_90 rfl rfl ?_
          refine zz_pop (pc := 93) C rfl d_B_tossedFrom_93 ?_
          refine zz_iinc (lo' := [some (.ref 0), some (.ref v1), some (.int (v2 + (3 : Int32))), some (.int v3), some (.int v4), some (.int (s.2 (v1 + 1) (v2.toNatClampNeg)).toInt32), some (.int (s.2 (v1 + 1) ((v2 + (1 : Int32)).toNatClampNeg)).toInt32), some (.int (s.2 (v1 + 1) ((v2 + (2 : Int32)).toNatClampNeg)).toInt32)]) (pc := 94) C rfl (zz_inc zki_3) rfl rfl d_B_tossedFrom_94 ?_
          refine zz_iinc (lo' := [some (.ref 0), some (.ref v1), some (.int (v2 + (3 : Int32))), some (.int v3), some (.int (v4 + (1 : Int32))), some (.int (s.2 (v1 + 1) (v2.toNatClampNeg)).toInt32), some (.int (s.2 (v1 + 1) ((v2 + (1 : Int32)).toNatClampNeg)).toInt32), some (.int (s.2 (v1 + 1) ((v2 + (2 : Int32)).toNatClampNeg)).toInt32)]) (pc := 97) C rfl (zz_inc zki_1) rfl rfl d_B_tossedFrom_97 ?_
          refine zz_goto (tgt := 3) (pc := 100) C (by decide) d_B_tossedFrom_100 ?_
          refine zz_fg C [true, true, true, true, true, false, false, false] rfl rfl ?_
          exact ih v1 (v2 + (3 : Int32)) v3 (v4 + (1 : Int32)) q8.2 hv1 h
        · rw [if_pos hc7] at h
          refine zz_iload (i := 4) (pc := 77) C rfl d_B_tossedFrom_77 ?_
          replace h := Option.some.inj h
          subst h
          exact zz_ret (pc := 79) C (v := some (.int v4)) d_B_tossedFrom_79 (Or.inl ⟨_, _, rfl, rfl, rfl, rfl⟩) rfl
      · rw [if_neg hc3] at h
        refine zz_iload (i := 4) (pc := 31) C rfl d_B_tossedFrom_31 ?_
        replace h := Option.some.inj h
        subst h
        exact zz_ret (pc := 33) C (v := some (.int v4)) d_B_tossedFrom_33 (Or.inl ⟨_, _, rfl, rfl, rfl, rfl⟩) rfl
set_option maxHeartbeats 4000000 in
set_option maxRecDepth 100000 in
theorem zf_B_tossedFrom {G : zz_G} {l : Launch} {Z : zz_Z} {q : Int32 × zz_S} {s : zz_S} (C : zz_Cx G l "OneBlanket" "tossedFrom" prog_1_method_15_code 8 (some .int) 4 (some (.int q.1), zsh, q.2) Z) (a1 : Nat) (a2 : Int32) (a3 : Int32) (ha1 : a1 ∈ zS7) (h : f_B_tossedFrom a1 a2 a3 s = some q) : Z 0 [some (.ref 0), some (.ref a1), some (.int a2), some (.int a3), none, none, none, none] [] zsh s := by
  unfold f_B_tossedFrom at h
  refine zz_iconst (pc := 0) C zki_0 d_B_tossedFrom_0 ?_
  refine zz_istore (i := 4) (lo' := [some (.ref 0), some (.ref a1), some (.int a2), some (.int a3), some (.int (0 : Int32)), none, none, none]) (pc := 1) C (Nat.le_of_ble_eq_true rfl) rfl rfl d_B_tossedFrom_1 ?_
  exact zf_B_tossedFrom_L3 C zF a1 a2 a3 (0 : Int32) s ha1 h
theorem zm_B_tossedFrom {G : zz_G} {l : Launch} {s : zz_S} {q : Int32 × zz_S} {a1 : Nat} {a2 : Int32} {a3 : Int32} (ha1 : a1 ∈ zS7) (h : f_B_tossedFrom a1 a2 a3 s = some q) : zz_M G l 4 y_B_tossedFrom prog_1_method_15_code 8 (some .int) [.ref 0, .ref a1, .int a2, .int a3] zsh s (some (.int q.1), zsh, q.2) :=
  zz_M.intro (by decide) (Nat.le_of_ble_eq_true rfl) (Nat.le_refl _) (Nat.le_refl _) (fun Z C => zf_B_tossedFrom C a1 a2 a3 ha1 h)
theorem d_B_tosses_0 : decode prog_1_method_14_code 0 = .ok (.iload_n 1, 1) := by decide +kernel
theorem d_B_tosses_1 : decode prog_1_method_14_code 1 = .ok (.invokestatic 171, 3) := by decide +kernel
theorem d_B_tosses_4 : decode prog_1_method_14_code 4 = .ok (.ifCond .eq (14), 3) := by decide +kernel
theorem d_B_tosses_7 : decode prog_1_method_14_code 7 = .ok (.iload_n 3, 1) := by decide +kernel
theorem d_B_tosses_8 : decode prog_1_method_14_code 8 = .ok (.iconst 1, 1) := by decide +kernel
theorem d_B_tosses_9 : decode prog_1_method_14_code 9 = .ok (.if_icmp .lt (9), 3) := by decide +kernel
theorem d_B_tosses_12 : decode prog_1_method_14_code 12 = .ok (.iload_n 3, 1) := by decide +kernel
theorem d_B_tosses_13 : decode prog_1_method_14_code 13 = .ok (.bipush (20), 2) := by decide +kernel
theorem d_B_tosses_15 : decode prog_1_method_14_code 15 = .ok (.if_icmp .le (5), 3) := by decide +kernel
theorem d_B_tosses_18 : decode prog_1_method_14_code 18 = .ok (.iconst (-1), 1) := by decide +kernel
theorem d_B_tosses_19 : decode prog_1_method_14_code 19 = .ok (.ireturn, 1) := by decide +kernel
theorem d_B_tosses_20 : decode prog_1_method_14_code 20 = .ok (.aload_n 0, 1) := by decide +kernel
theorem d_B_tosses_21 : decode prog_1_method_14_code 21 = .ok (.getfield 68, 3) := by decide +kernel
theorem d_B_tosses_24 : decode prog_1_method_14_code 24 = .ok (.iload_n 1, 1) := by decide +kernel
theorem d_B_tosses_25 : decode prog_1_method_14_code 25 = .ok (.aaload, 1) := by decide +kernel
theorem d_B_tosses_26 : decode prog_1_method_14_code 26 = .ok (.astore 4, 2) := by decide +kernel
theorem d_B_tosses_28 : decode prog_1_method_14_code 28 = .ok (.aload 4, 2) := by decide +kernel
theorem d_B_tosses_30 : decode prog_1_method_14_code 30 = .ok (.invokevirtual 174, 3) := by decide +kernel
theorem d_B_tosses_33 : decode prog_1_method_14_code 33 = .ok (.ifCond .eq (5), 3) := by decide +kernel
theorem d_B_tosses_36 : decode prog_1_method_14_code 36 = .ok (.iconst 0, 1) := by decide +kernel
theorem d_B_tosses_37 : decode prog_1_method_14_code 37 = .ok (.ireturn, 1) := by decide +kernel
theorem d_B_tosses_38 : decode prog_1_method_14_code 38 = .ok (.aload 4, 2) := by decide +kernel
theorem d_B_tosses_40 : decode prog_1_method_14_code 40 = .ok (.iconst 1, 1) := by decide +kernel
theorem d_B_tosses_41 : decode prog_1_method_14_code 41 = .ok (.invokevirtual 178, 3) := by decide +kernel
theorem d_B_tosses_44 : decode prog_1_method_14_code 44 = .ok (.ifCond .ne (6), 3) := by decide +kernel
theorem d_B_tosses_47 : decode prog_1_method_14_code 47 = .ok (.bipush (-12), 2) := by decide +kernel
theorem d_B_tosses_49 : decode prog_1_method_14_code 49 = .ok (.ireturn, 1) := by decide +kernel
theorem d_B_tosses_50 : decode prog_1_method_14_code 50 = .ok (.iload_n 2, 1) := by decide +kernel
theorem d_B_tosses_51 : decode prog_1_method_14_code 51 = .ok (.ifCond .ge (5), 3) := by decide +kernel
theorem d_B_tosses_54 : decode prog_1_method_14_code 54 = .ok (.iconst 0, 1) := by decide +kernel
theorem d_B_tosses_55 : decode prog_1_method_14_code 55 = .ok (.ireturn, 1) := by decide +kernel
theorem d_B_tosses_56 : decode prog_1_method_14_code 56 = .ok (.aload_n 0, 1) := by decide +kernel
theorem d_B_tosses_57 : decode prog_1_method_14_code 57 = .ok (.aload 4, 2) := by decide +kernel
theorem d_B_tosses_59 : decode prog_1_method_14_code 59 = .ok (.iload_n 2, 1) := by decide +kernel
theorem d_B_tosses_60 : decode prog_1_method_14_code 60 = .ok (.iload_n 3, 1) := by decide +kernel
theorem d_B_tosses_61 : decode prog_1_method_14_code 61 = .ok (.invokevirtual 181, 3) := by decide +kernel
theorem d_B_tosses_64 : decode prog_1_method_14_code 64 = .ok (.ireturn, 1) := by decide +kernel
set_option maxHeartbeats 4000000 in
set_option maxRecDepth 100000 in
theorem zf_B_tosses {G : zz_G} {l : Launch} {Z : zz_Z} {q : Int32 × zz_S} {s : zz_S} (C : zz_Cx G l "OneBlanket" "tosses" prog_1_method_14_code 5 (some .int) 5 (some (.int q.1), zsh, q.2) Z) (a1 : Int32) (a2 : Int32) (a3 : Int32) (h : f_B_tosses a1 a2 a3 s = some q) : Z 0 [some (.ref 0), some (.int a1), some (.int a2), some (.int a3), none] [] zsh s := by
  unfold f_B_tosses at h
  refine zz_iload_n (i := 1) (pc := 0) C rfl rfl d_B_tosses_0 ?_
  refine zz_cSi (as := [.int a1]) (st := []) (pc := 1) C (zm_B_hasShelf rfl) zcs_B_hasShelf zl_11_171 (by omega) (Nat.le_of_ble_eq_true rfl) d_B_tosses_1 rfl rfl ?_
  refine zz_if_eq (tgt := 18) (pc := 4) C (by decide) d_B_tosses_4 (fun hc1 => ?_) (fun hc1 => ?_)
  · rw [if_pos hc1] at h
    refine zz_iconst (pc := 18) C zki_m1 d_B_tosses_18 ?_
    replace h := Option.some.inj h
    subst h
    exact zz_ret (pc := 19) C (v := some (.int (-1 : Int32))) d_B_tosses_19 (Or.inl ⟨_, _, rfl, rfl, rfl, rfl⟩) rfl
  · rw [if_neg hc1] at h
    refine zz_iload_n (i := 3) (pc := 7) C rfl rfl d_B_tosses_7 ?_
    refine zz_iconst (pc := 8) C zki_1 d_B_tosses_8 ?_
    refine zz_icmp_lt (tgt := 18) (pc := 9) C (by decide) d_B_tosses_9 (fun hc2 => ?_) (fun hc2 => ?_)
    · rw [if_pos hc2] at h
      refine zz_iconst (pc := 18) C zki_m1 d_B_tosses_18 ?_
      replace h := Option.some.inj h
      subst h
      exact zz_ret (pc := 19) C (v := some (.int (-1 : Int32))) d_B_tosses_19 (Or.inl ⟨_, _, rfl, rfl, rfl, rfl⟩) rfl
    · rw [if_neg hc2] at h
      refine zz_iload_n (i := 3) (pc := 12) C rfl rfl d_B_tosses_12 ?_
      refine zz_bipush (pc := 13) C zkb_20 d_B_tosses_13 ?_
      refine zz_icmp_le (tgt := 20) (pc := 15) C (by decide) d_B_tosses_15 (fun hc3 => ?_) (fun hc3 => ?_)
      · rw [if_pos hc3] at h
        refine zz_aload_n (i := 0) (pc := 20) C rfl rfl d_B_tosses_20 ?_
        refine zz_getR (pc := 21) C zl_11_68 zsh_0 rfl d_B_tosses_21 ?_
        refine zz_iload_n (i := 1) (pc := 24) C rfl rfl d_B_tosses_24 ?_
        obtain ⟨hi4, h⟩ := zz_ckE h
        refine zz_aald (pc := 25) C rfl zsh_52 (Cn := "OneBlanket$Shelf") ⟨by decide, by decide, rfl⟩ zra_52 hi4 d_B_tosses_25 ?_
        refine zz_astore (i := 4) (lo' := [some (.ref 0), some (.int a1), some (.int a2), some (.int a3), some (.ref (zr_52 a1))]) (pc := 26) C (Nat.le_of_ble_eq_true rfl) rfl rfl d_B_tosses_26 ?_
        refine zz_aload (i := 4) (pc := 28) C rfl d_B_tosses_28 ?_
        refine zz_cVi (as := []) (st := []) (pc := 30) C (zm_Shelf_isEmpty (zrm_52 hi4) rfl) zcv_Shelf_isEmpty (zS7_sh (zrm_52 hi4)) zl_11_174 (by omega) (Nat.le_of_ble_eq_true rfl) d_B_tosses_30 rfl rfl ?_
        refine zz_if_eq (tgt := 38) (pc := 33) C (by decide) d_B_tosses_33 (fun hc5 => ?_) (fun hc5 => ?_)
        · rw [if_pos hc5] at h
          refine zz_aload (i := 4) (pc := 38) C rfl d_B_tosses_38 ?_
          refine zz_iconst (pc := 40) C zki_1 d_B_tosses_40 ?_
          refine zz_cVi (as := [.int (1 : Int32)]) (st := []) (pc := 41) C (zm_Shelf_isRowOf (zrm_52 hi4) rfl) zcv_Shelf_isRowOf (zS7_sh (zrm_52 hi4)) zl_11_178 (by omega) (Nat.le_of_ble_eq_true rfl) d_B_tosses_41 rfl rfl ?_
          refine zz_if_ne (tgt := 50) (pc := 44) C (by decide) d_B_tosses_44 (fun hc6 => ?_) (fun hc6 => ?_)
          · rw [if_neg hc6] at h
            refine zz_iload_n (i := 2) (pc := 50) C rfl rfl d_B_tosses_50 ?_
            refine zz_if_ge (tgt := 56) (pc := 51) C (by decide) d_B_tosses_51 (fun hc7 => ?_) (fun hc7 => ?_)
            · rw [if_pos hc7] at h
              refine zz_aload_n (i := 0) (pc := 56) C rfl rfl d_B_tosses_56 ?_
              refine zz_aload (i := 4) (pc := 57) C rfl d_B_tosses_57 ?_
              refine zz_iload_n (i := 2) (pc := 59) C rfl rfl d_B_tosses_59 ?_
              refine zz_iload_n (i := 3) (pc := 60) C rfl rfl d_B_tosses_60 ?_
              obtain ⟨q8, hq8, h⟩ := zz_bdE h
              refine zz_cVi (as := [.ref (zr_52 a1), .int a2, .int a3]) (st := []) (pc := 61) C (zm_B_tossedFrom (zrm_52 hi4) hq8) zcv_B_tossedFrom zsh_0 zl_11_181 (by omega) (Nat.le_of_ble_eq_true rfl) d_B_tosses_61 rfl rfl ?_
              replace h := Option.some.inj h
              subst h
              exact zz_ret (pc := 64) C (v := some (.int q8.1)) d_B_tosses_64 (Or.inl ⟨_, _, rfl, rfl, rfl, rfl⟩) rfl
            · rw [if_neg hc7] at h
              refine zz_iconst (pc := 54) C zki_0 d_B_tosses_54 ?_
              replace h := Option.some.inj h
              subst h
              exact zz_ret (pc := 55) C (v := some (.int (0 : Int32))) d_B_tosses_55 (Or.inl ⟨_, _, rfl, rfl, rfl, rfl⟩) rfl
          · rw [if_pos hc6] at h
            refine zz_bipush (pc := 47) C zkb_m12 d_B_tosses_47 ?_
            replace h := Option.some.inj h
            subst h
            exact zz_ret (pc := 49) C (v := some (.int (-12 : Int32))) d_B_tosses_49 (Or.inl ⟨_, _, rfl, rfl, rfl, rfl⟩) rfl
        · rw [if_neg hc5] at h
          refine zz_iconst (pc := 36) C zki_0 d_B_tosses_36 ?_
          replace h := Option.some.inj h
          subst h
          exact zz_ret (pc := 37) C (v := some (.int (0 : Int32))) d_B_tosses_37 (Or.inl ⟨_, _, rfl, rfl, rfl, rfl⟩) rfl
      · rw [if_neg hc3] at h
        refine zz_iconst (pc := 18) C zki_m1 d_B_tosses_18 ?_
        replace h := Option.some.inj h
        subst h
        exact zz_ret (pc := 19) C (v := some (.int (-1 : Int32))) d_B_tosses_19 (Or.inl ⟨_, _, rfl, rfl, rfl, rfl⟩) rfl
theorem zm_B_tosses {G : zz_G} {l : Launch} {s : zz_S} {q : Int32 × zz_S} {a1 : Int32} {a2 : Int32} {a3 : Int32} (h : f_B_tosses a1 a2 a3 s = some q) : zz_M G l 5 y_B_tosses prog_1_method_14_code 5 (some .int) [.ref 0, .int a1, .int a2, .int a3] zsh s (some (.int q.1), zsh, q.2) :=
  zz_M.intro (by decide) (Nat.le_of_ble_eq_true rfl) (Nat.le_refl _) (Nat.le_refl _) (fun Z C => zf_B_tosses C a1 a2 a3 h)
theorem d_B_trace_0 : decode prog_1_method_39_code 0 = .ok (.iload_n 1, 1) := by decide +kernel
theorem d_B_trace_1 : decode prog_1_method_39_code 1 = .ok (.ifCond .lt (20), 3) := by decide +kernel
theorem d_B_trace_4 : decode prog_1_method_39_code 4 = .ok (.iload_n 1, 1) := by decide +kernel
theorem d_B_trace_5 : decode prog_1_method_39_code 5 = .ok (.bipush (24), 2) := by decide +kernel
theorem d_B_trace_7 : decode prog_1_method_39_code 7 = .ok (.if_icmp .ge (14), 3) := by decide +kernel
theorem d_B_trace_10 : decode prog_1_method_39_code 10 = .ok (.iload_n 1, 1) := by decide +kernel
theorem d_B_trace_11 : decode prog_1_method_39_code 11 = .ok (.aload_n 0, 1) := by decide +kernel
theorem d_B_trace_12 : decode prog_1_method_39_code 12 = .ok (.getfield 62, 3) := by decide +kernel
theorem d_B_trace_15 : decode prog_1_method_39_code 15 = .ok (.getfield 327, 3) := by decide +kernel
theorem d_B_trace_18 : decode prog_1_method_39_code 18 = .ok (.if_icmp .lt (5), 3) := by decide +kernel
theorem d_B_trace_21 : decode prog_1_method_39_code 21 = .ok (.iconst (-1), 1) := by decide +kernel
theorem d_B_trace_22 : decode prog_1_method_39_code 22 = .ok (.ireturn, 1) := by decide +kernel
theorem d_B_trace_23 : decode prog_1_method_39_code 23 = .ok (.aload_n 0, 1) := by decide +kernel
theorem d_B_trace_24 : decode prog_1_method_39_code 24 = .ok (.getfield 62, 3) := by decide +kernel
theorem d_B_trace_27 : decode prog_1_method_39_code 27 = .ok (.getfield 330, 3) := by decide +kernel
theorem d_B_trace_30 : decode prog_1_method_39_code 30 = .ok (.iload_n 1, 1) := by decide +kernel
theorem d_B_trace_31 : decode prog_1_method_39_code 31 = .ok (.iaload, 1) := by decide +kernel
theorem d_B_trace_32 : decode prog_1_method_39_code 32 = .ok (.ireturn, 1) := by decide +kernel
set_option maxHeartbeats 4000000 in
set_option maxRecDepth 100000 in
theorem zf_B_trace {G : zz_G} {l : Launch} {Z : zz_Z} {q : Int32} {s : zz_S} (C : zz_Cx G l "OneBlanket" "trace" prog_1_method_39_code 2 (some .int) 2 (some (.int q), zsh, s) Z) (a1 : Int32) (h : f_B_trace a1 s = some q) : Z 0 [some (.ref 0), some (.int a1)] [] zsh s := by
  unfold f_B_trace at h
  refine zz_iload_n (i := 1) (pc := 0) C rfl rfl d_B_trace_0 ?_
  refine zz_if_lt (tgt := 21) (pc := 1) C (by decide) d_B_trace_1 (fun hc1 => ?_) (fun hc1 => ?_)
  · rw [if_pos hc1] at h
    refine zz_iconst (pc := 21) C zki_m1 d_B_trace_21 ?_
    replace h := Option.some.inj h
    subst h
    exact zz_ret (pc := 22) C (v := some (.int (-1 : Int32))) d_B_trace_22 (Or.inl ⟨_, _, rfl, rfl, rfl, rfl⟩) rfl
  · rw [if_neg hc1] at h
    refine zz_iload_n (i := 1) (pc := 4) C rfl rfl d_B_trace_4 ?_
    refine zz_bipush (pc := 5) C zkb_24 d_B_trace_5 ?_
    refine zz_icmp_ge (tgt := 21) (pc := 7) C (by decide) d_B_trace_7 (fun hc2 => ?_) (fun hc2 => ?_)
    · rw [if_pos hc2] at h
      refine zz_iconst (pc := 21) C zki_m1 d_B_trace_21 ?_
      replace h := Option.some.inj h
      subst h
      exact zz_ret (pc := 22) C (v := some (.int (-1 : Int32))) d_B_trace_22 (Or.inl ⟨_, _, rfl, rfl, rfl, rfl⟩) rfl
    · rw [if_neg hc2] at h
      refine zz_iload_n (i := 1) (pc := 10) C rfl rfl d_B_trace_10 ?_
      refine zz_aload_n (i := 0) (pc := 11) C rfl rfl d_B_trace_11 ?_
      refine zz_getR (pc := 12) C zl_11_62 zsh_0 rfl d_B_trace_12 ?_
      refine zz_getI (pc := 15) C zl_11_327 zsh_49 rfl d_B_trace_15 ?_
      refine zz_icmp_lt (tgt := 23) (pc := 18) C (by decide) d_B_trace_18 (fun hc3 => ?_) (fun hc3 => ?_)
      · rw [if_pos hc3] at h
        refine zz_aload_n (i := 0) (pc := 23) C rfl rfl d_B_trace_23 ?_
        refine zz_getR (pc := 24) C zl_11_62 zsh_0 rfl d_B_trace_24 ?_
        refine zz_getR (pc := 27) C zl_11_330 zsh_49 rfl d_B_trace_27 ?_
        refine zz_iload_n (i := 1) (pc := 30) C rfl rfl d_B_trace_30 ?_
        obtain ⟨hi4, h⟩ := zz_ckE h
        refine zz_iald (pc := 31) C rfl zsh_51 hi4 d_B_trace_31 ?_
        replace h := Option.some.inj h
        subst h
        exact zz_ret (pc := 32) C (v := some (.int (s.1 51 (a1.toNatClampNeg)))) d_B_trace_32 (Or.inl ⟨_, _, rfl, rfl, rfl, rfl⟩) rfl
      · rw [if_neg hc3] at h
        refine zz_iconst (pc := 21) C zki_m1 d_B_trace_21 ?_
        replace h := Option.some.inj h
        subst h
        exact zz_ret (pc := 22) C (v := some (.int (-1 : Int32))) d_B_trace_22 (Or.inl ⟨_, _, rfl, rfl, rfl, rfl⟩) rfl
theorem zm_B_trace {G : zz_G} {l : Launch} {s : zz_S} {q : Int32} {a1 : Int32} (h : f_B_trace a1 s = some q) : zz_M G l 2 y_B_trace prog_1_method_39_code 2 (some .int) [.ref 0, .int a1] zsh s (some (.int q), zsh, s) :=
  zz_M.intro (by decide) (Nat.le_of_ble_eq_true rfl) (Nat.le_refl _) (Nat.le_refl _) (fun Z C => zf_B_trace C a1 h)
theorem d_B_tucked_0 : decode prog_1_method_25_code 0 = .ok (.aload_n 0, 1) := by decide +kernel
theorem d_B_tucked_1 : decode prog_1_method_25_code 1 = .ok (.getfield 12, 3) := by decide +kernel
theorem d_B_tucked_4 : decode prog_1_method_25_code 4 = .ok (.iload_n 1, 1) := by decide +kernel
theorem d_B_tucked_5 : decode prog_1_method_25_code 5 = .ok (.invokevirtual 105, 3) := by decide +kernel
theorem d_B_tucked_8 : decode prog_1_method_25_code 8 = .ok (.ifCond .eq (12), 3) := by decide +kernel
theorem d_B_tucked_11 : decode prog_1_method_25_code 11 = .ok (.iload_n 2, 1) := by decide +kernel
theorem d_B_tucked_12 : decode prog_1_method_25_code 12 = .ok (.ifCond .lt (8), 3) := by decide +kernel
theorem d_B_tucked_15 : decode prog_1_method_25_code 15 = .ok (.iload_n 2, 1) := by decide +kernel
theorem d_B_tucked_16 : decode prog_1_method_25_code 16 = .ok (.iconst 1, 1) := by decide +kernel
theorem d_B_tucked_17 : decode prog_1_method_25_code 17 = .ok (.if_icmp .le (5), 3) := by decide +kernel
theorem d_B_tucked_20 : decode prog_1_method_25_code 20 = .ok (.iconst (-1), 1) := by decide +kernel
theorem d_B_tucked_21 : decode prog_1_method_25_code 21 = .ok (.ireturn, 1) := by decide +kernel
theorem d_B_tucked_22 : decode prog_1_method_25_code 22 = .ok (.aload_n 0, 1) := by decide +kernel
theorem d_B_tucked_23 : decode prog_1_method_25_code 23 = .ok (.getfield 12, 3) := by decide +kernel
theorem d_B_tucked_26 : decode prog_1_method_25_code 26 = .ok (.getfield 258, 3) := by decide +kernel
theorem d_B_tucked_29 : decode prog_1_method_25_code 29 = .ok (.iload_n 1, 1) := by decide +kernel
theorem d_B_tucked_30 : decode prog_1_method_25_code 30 = .ok (.iaload, 1) := by decide +kernel
theorem d_B_tucked_31 : decode prog_1_method_25_code 31 = .ok (.istore_n 3, 1) := by decide +kernel
theorem d_B_tucked_32 : decode prog_1_method_25_code 32 = .ok (.iconst 0, 1) := by decide +kernel
theorem d_B_tucked_33 : decode prog_1_method_25_code 33 = .ok (.istore 4, 2) := by decide +kernel
theorem d_B_tucked_35 : decode prog_1_method_25_code 35 = .ok (.iconst (-1), 1) := by decide +kernel
theorem d_B_tucked_36 : decode prog_1_method_25_code 36 = .ok (.istore 5, 2) := by decide +kernel
theorem d_B_tucked_38 : decode prog_1_method_25_code 38 = .ok (.iconst 0, 1) := by decide +kernel
theorem d_B_tucked_39 : decode prog_1_method_25_code 39 = .ok (.istore 6, 2) := by decide +kernel
theorem d_B_tucked_41 : decode prog_1_method_25_code 41 = .ok (.iload 6, 2) := by decide +kernel
theorem d_B_tucked_43 : decode prog_1_method_25_code 43 = .ok (.bipush (9), 2) := by decide +kernel
theorem d_B_tucked_45 : decode prog_1_method_25_code 45 = .ok (.if_icmp .gt (61), 3) := by decide +kernel
theorem d_B_tucked_48 : decode prog_1_method_25_code 48 = .ok (.aload_n 0, 1) := by decide +kernel
theorem d_B_tucked_49 : decode prog_1_method_25_code 49 = .ok (.getfield 12, 3) := by decide +kernel
theorem d_B_tucked_52 : decode prog_1_method_25_code 52 = .ok (.getfield 258, 3) := by decide +kernel
theorem d_B_tucked_55 : decode prog_1_method_25_code 55 = .ok (.iload_n 1, 1) := by decide +kernel
theorem d_B_tucked_56 : decode prog_1_method_25_code 56 = .ok (.iload 6, 2) := by decide +kernel
theorem d_B_tucked_58 : decode prog_1_method_25_code 58 = .ok (.iastore, 1) := by decide +kernel
theorem d_B_tucked_59 : decode prog_1_method_25_code 59 = .ok (.aload_n 0, 1) := by decide +kernel
theorem d_B_tucked_60 : decode prog_1_method_25_code 60 = .ok (.sipush (479), 3) := by decide +kernel
theorem d_B_tucked_63 : decode prog_1_method_25_code 63 = .ok (.invokevirtual 195, 3) := by decide +kernel
theorem d_B_tucked_66 : decode prog_1_method_25_code 66 = .ok (.aload_n 0, 1) := by decide +kernel
theorem d_B_tucked_67 : decode prog_1_method_25_code 67 = .ok (.getfield 41, 3) := by decide +kernel
theorem d_B_tucked_70 : decode prog_1_method_25_code 70 = .ok (.getfield 220, 3) := by decide +kernel
theorem d_B_tucked_73 : decode prog_1_method_25_code 73 = .ok (.aload_n 0, 1) := by decide +kernel
theorem d_B_tucked_74 : decode prog_1_method_25_code 74 = .ok (.getfield 12, 3) := by decide +kernel
theorem d_B_tucked_77 : decode prog_1_method_25_code 77 = .ok (.getfield 85, 3) := by decide +kernel
theorem d_B_tucked_80 : decode prog_1_method_25_code 80 = .ok (.invokevirtual 261, 3) := by decide +kernel
theorem d_B_tucked_83 : decode prog_1_method_25_code 83 = .ok (.istore 7, 2) := by decide +kernel
theorem d_B_tucked_85 : decode prog_1_method_25_code 85 = .ok (.iload 7, 2) := by decide +kernel
theorem d_B_tucked_87 : decode prog_1_method_25_code 87 = .ok (.iload 5, 2) := by decide +kernel
theorem d_B_tucked_89 : decode prog_1_method_25_code 89 = .ok (.if_icmp .le (11), 3) := by decide +kernel
theorem d_B_tucked_92 : decode prog_1_method_25_code 92 = .ok (.iload 7, 2) := by decide +kernel
theorem d_B_tucked_94 : decode prog_1_method_25_code 94 = .ok (.istore 5, 2) := by decide +kernel
theorem d_B_tucked_96 : decode prog_1_method_25_code 96 = .ok (.iload 6, 2) := by decide +kernel
theorem d_B_tucked_98 : decode prog_1_method_25_code 98 = .ok (.istore 4, 2) := by decide +kernel
theorem d_B_tucked_100 : decode prog_1_method_25_code 100 = .ok (.iinc 6 (1), 3) := by decide +kernel
theorem d_B_tucked_103 : decode prog_1_method_25_code 103 = .ok (.goto (-62), 3) := by decide +kernel
theorem d_B_tucked_106 : decode prog_1_method_25_code 106 = .ok (.aload_n 0, 1) := by decide +kernel
theorem d_B_tucked_107 : decode prog_1_method_25_code 107 = .ok (.getfield 12, 3) := by decide +kernel
theorem d_B_tucked_110 : decode prog_1_method_25_code 110 = .ok (.getfield 258, 3) := by decide +kernel
theorem d_B_tucked_113 : decode prog_1_method_25_code 113 = .ok (.iload_n 1, 1) := by decide +kernel
theorem d_B_tucked_114 : decode prog_1_method_25_code 114 = .ok (.iload_n 3, 1) := by decide +kernel
theorem d_B_tucked_115 : decode prog_1_method_25_code 115 = .ok (.iastore, 1) := by decide +kernel
theorem d_B_tucked_116 : decode prog_1_method_25_code 116 = .ok (.iload_n 2, 1) := by decide +kernel
theorem d_B_tucked_117 : decode prog_1_method_25_code 117 = .ok (.ifCond .ne (8), 3) := by decide +kernel
theorem d_B_tucked_120 : decode prog_1_method_25_code 120 = .ok (.iload 4, 2) := by decide +kernel
theorem d_B_tucked_122 : decode prog_1_method_25_code 122 = .ok (.goto (5), 3) := by decide +kernel
theorem d_B_tucked_125 : decode prog_1_method_25_code 125 = .ok (.iload 5, 2) := by decide +kernel
theorem d_B_tucked_127 : decode prog_1_method_25_code 127 = .ok (.ireturn, 1) := by decide +kernel
set_option maxHeartbeats 4000000 in
set_option maxRecDepth 100000 in
theorem zf_B_tucked_L41 {G : zz_G} {l : Launch} {Z : zz_Z} {q : Int32 × zz_S} (C : zz_Cx G l "OneBlanket" "tucked" prog_1_method_25_code 8 (some .int) 9 (some (.int q.1), zsh, q.2) Z) : ∀ (n : Nat) (v1 : Int32) (v2 : Int32) (v3 : Int32) (v4 : Int32) (v5 : Int32) (v6 : Int32) (s : zz_S), f_B_tucked_L41 n v1 v2 v3 v4 v5 v6 s = some q → Z 41 [some (.ref 0), some (.int v1), some (.int v2), some (.int v3), some (.int v4), some (.int v5), some (.int v6), none] [] zsh s := by
  intro n
  induction n with
  | zero => intro v1 v2 v3 v4 v5 v6 s h; rw [f_B_tucked_L41] at h; cases h
  | succ n ih =>
  intro v1 v2 v3 v4 v5 v6 s h
  rw [f_B_tucked_L41] at h
  refine zz_iload (i := 6) (pc := 41) C rfl d_B_tucked_41 ?_
  refine zz_bipush (pc := 43) C zkb_9 d_B_tucked_43 ?_
  refine zz_icmp_gt (tgt := 106) (pc := 45) C (by decide) d_B_tucked_45 (fun hc5 => ?_) (fun hc5 => ?_)
  · rw [if_pos hc5] at h
    refine zz_aload_n (i := 0) (pc := 106) C rfl rfl d_B_tucked_106 ?_
    refine zz_getR (pc := 107) C zl_11_12 zsh_0 rfl d_B_tucked_107 ?_
    refine zz_getR (pc := 110) C zl_11_258 zsh_1 rfl d_B_tucked_110 ?_
    refine zz_iload_n (i := 1) (pc := 113) C rfl rfl d_B_tucked_113 ?_
    refine zz_iload_n (i := 3) (pc := 114) C rfl rfl d_B_tucked_114 ?_
    obtain ⟨hi6, h⟩ := zz_ckE h
    refine zz_iast (pc := 115) C rfl zsh_9 hi6 d_B_tucked_115 ?_
    refine zz_iload_n (i := 2) (pc := 116) C rfl rfl d_B_tucked_116 ?_
    refine zz_if_ne (tgt := 125) (pc := 117) C (by decide) d_B_tucked_117 (fun hc7 => ?_) (fun hc7 => ?_)
    · rw [if_neg hc7] at h
      refine zz_iload (i := 5) (pc := 125) C rfl d_B_tucked_125 ?_
      replace h := Option.some.inj h
      subst h
      exact zz_ret (pc := 127) C (v := some (.int v5)) d_B_tucked_127 (Or.inl ⟨_, _, rfl, rfl, rfl, rfl⟩) rfl
    · rw [if_pos hc7] at h
      refine zz_iload (i := 4) (pc := 120) C rfl d_B_tucked_120 ?_
      refine zz_goto (tgt := 127) (pc := 122) C (by decide) d_B_tucked_122 ?_
      replace h := Option.some.inj h
      subst h
      exact zz_ret (pc := 127) C (v := some (.int v4)) d_B_tucked_127 (Or.inl ⟨_, _, rfl, rfl, rfl, rfl⟩) rfl
  · rw [if_neg hc5] at h
    refine zz_aload_n (i := 0) (pc := 48) C rfl rfl d_B_tucked_48 ?_
    refine zz_getR (pc := 49) C zl_11_12 zsh_0 rfl d_B_tucked_49 ?_
    refine zz_getR (pc := 52) C zl_11_258 zsh_1 rfl d_B_tucked_52 ?_
    refine zz_iload_n (i := 1) (pc := 55) C rfl rfl d_B_tucked_55 ?_
    refine zz_iload (i := 6) (pc := 56) C rfl d_B_tucked_56 ?_
    obtain ⟨hi8, h⟩ := zz_ckE h
    refine zz_iast (pc := 58) C rfl zsh_9 hi8 d_B_tucked_58 ?_
    refine zz_aload_n (i := 0) (pc := 59) C rfl rfl d_B_tucked_59 ?_
    refine zz_sipush (pc := 60) C zks_479 d_B_tucked_60 ?_
    obtain ⟨q9, hq9, h⟩ := zz_bdE h
    refine zz_cVv (as := [.int (479 : Int32)]) (st := []) (pc := 63) C (zm_B_playTo hq9) zcv_B_playTo zsh_0 zl_11_195 (by omega) (Nat.le_of_ble_eq_true rfl) d_B_tucked_63 rfl rfl ?_
    refine zz_aload_n (i := 0) (pc := 66) C rfl rfl d_B_tucked_66 ?_
    refine zz_getR (pc := 67) C zl_11_41 zsh_0 rfl d_B_tucked_67 ?_
    refine zz_getR (pc := 70) C zl_11_220 zsh_20 rfl d_B_tucked_70 ?_
    refine zz_aload_n (i := 0) (pc := 73) C rfl rfl d_B_tucked_73 ?_
    refine zz_getR (pc := 74) C zl_11_12 zsh_0 rfl d_B_tucked_74 ?_
    refine zz_getI (pc := 77) C zl_11_85 zsh_1 rfl d_B_tucked_77 ?_
    obtain ⟨q10, hq10, h⟩ := zz_bdE h
    refine zz_cVi (as := [.int (q9.1 1 1)]) (st := []) (pc := 80) C (zm_Tally_easyOfAll hq10) zcv_Tally_easyOfAll zsh_21 zl_11_261 (by omega) (Nat.le_of_ble_eq_true rfl) d_B_tucked_80 rfl rfl ?_
    refine zz_istore (i := 7) (lo' := [some (.ref 0), some (.int v1), some (.int v2), some (.int v3), some (.int v4), some (.int v5), some (.int v6), some (.int q10)]) (pc := 83) C (Nat.le_of_ble_eq_true rfl) rfl rfl d_B_tucked_83 ?_
    refine zz_iload (i := 7) (pc := 85) C rfl d_B_tucked_85 ?_
    refine zz_iload (i := 5) (pc := 87) C rfl d_B_tucked_87 ?_
    refine zz_icmp_le (tgt := 100) (pc := 89) C (by decide) d_B_tucked_89 (fun hc11 => ?_) (fun hc11 => ?_)
    · rw [if_pos hc11] at h
      refine zz_iinc (lo' := [some (.ref 0), some (.int v1), some (.int v2), some (.int v3), some (.int v4), some (.int v5), some (.int (v6 + (1 : Int32))), some (.int q10)]) (pc := 100) C rfl (zz_inc zki_1) rfl rfl d_B_tucked_100 ?_
      refine zz_goto (tgt := 41) (pc := 103) C (by decide) d_B_tucked_103 ?_
      refine zz_fg C [true, true, true, true, true, true, true, false] rfl rfl ?_
      exact ih v1 v2 v3 v4 v5 (v6 + (1 : Int32)) q9 h
    · rw [if_neg hc11] at h
      refine zz_iload (i := 7) (pc := 92) C rfl d_B_tucked_92 ?_
      refine zz_istore (i := 5) (lo' := [some (.ref 0), some (.int v1), some (.int v2), some (.int v3), some (.int v4), some (.int q10), some (.int v6), some (.int q10)]) (pc := 94) C (Nat.le_of_ble_eq_true rfl) rfl rfl d_B_tucked_94 ?_
      refine zz_iload (i := 6) (pc := 96) C rfl d_B_tucked_96 ?_
      refine zz_istore (i := 4) (lo' := [some (.ref 0), some (.int v1), some (.int v2), some (.int v3), some (.int v6), some (.int q10), some (.int v6), some (.int q10)]) (pc := 98) C (Nat.le_of_ble_eq_true rfl) rfl rfl d_B_tucked_98 ?_
      refine zz_iinc (lo' := [some (.ref 0), some (.int v1), some (.int v2), some (.int v3), some (.int v6), some (.int q10), some (.int (v6 + (1 : Int32))), some (.int q10)]) (pc := 100) C rfl (zz_inc zki_1) rfl rfl d_B_tucked_100 ?_
      refine zz_goto (tgt := 41) (pc := 103) C (by decide) d_B_tucked_103 ?_
      refine zz_fg C [true, true, true, true, true, true, true, false] rfl rfl ?_
      exact ih v1 v2 v3 v6 q10 (v6 + (1 : Int32)) q9 h
set_option maxHeartbeats 4000000 in
set_option maxRecDepth 100000 in
theorem zf_B_tucked {G : zz_G} {l : Launch} {Z : zz_Z} {q : Int32 × zz_S} {s : zz_S} (C : zz_Cx G l "OneBlanket" "tucked" prog_1_method_25_code 8 (some .int) 9 (some (.int q.1), zsh, q.2) Z) (a1 : Int32) (a2 : Int32) (h : f_B_tucked a1 a2 s = some q) : Z 0 [some (.ref 0), some (.int a1), some (.int a2), none, none, none, none, none] [] zsh s := by
  unfold f_B_tucked at h
  refine zz_aload_n (i := 0) (pc := 0) C rfl rfl d_B_tucked_0 ?_
  refine zz_getR (pc := 1) C zl_11_12 zsh_0 rfl d_B_tucked_1 ?_
  refine zz_iload_n (i := 1) (pc := 4) C rfl rfl d_B_tucked_4 ?_
  refine zz_cVi (as := [.int a1]) (st := []) (pc := 5) C (zm_Bed_hasCover rfl) zcv_Bed_hasCover zsh_1 zl_11_105 (by omega) (Nat.le_of_ble_eq_true rfl) d_B_tucked_5 rfl rfl ?_
  refine zz_if_eq (tgt := 20) (pc := 8) C (by decide) d_B_tucked_8 (fun hc1 => ?_) (fun hc1 => ?_)
  · rw [if_pos hc1] at h
    refine zz_iconst (pc := 20) C zki_m1 d_B_tucked_20 ?_
    replace h := Option.some.inj h
    subst h
    exact zz_ret (pc := 21) C (v := some (.int (-1 : Int32))) d_B_tucked_21 (Or.inl ⟨_, _, rfl, rfl, rfl, rfl⟩) rfl
  · rw [if_neg hc1] at h
    refine zz_iload_n (i := 2) (pc := 11) C rfl rfl d_B_tucked_11 ?_
    refine zz_if_lt (tgt := 20) (pc := 12) C (by decide) d_B_tucked_12 (fun hc2 => ?_) (fun hc2 => ?_)
    · rw [if_pos hc2] at h
      refine zz_iconst (pc := 20) C zki_m1 d_B_tucked_20 ?_
      replace h := Option.some.inj h
      subst h
      exact zz_ret (pc := 21) C (v := some (.int (-1 : Int32))) d_B_tucked_21 (Or.inl ⟨_, _, rfl, rfl, rfl, rfl⟩) rfl
    · rw [if_neg hc2] at h
      refine zz_iload_n (i := 2) (pc := 15) C rfl rfl d_B_tucked_15 ?_
      refine zz_iconst (pc := 16) C zki_1 d_B_tucked_16 ?_
      refine zz_icmp_le (tgt := 22) (pc := 17) C (by decide) d_B_tucked_17 (fun hc3 => ?_) (fun hc3 => ?_)
      · rw [if_pos hc3] at h
        refine zz_aload_n (i := 0) (pc := 22) C rfl rfl d_B_tucked_22 ?_
        refine zz_getR (pc := 23) C zl_11_12 zsh_0 rfl d_B_tucked_23 ?_
        refine zz_getR (pc := 26) C zl_11_258 zsh_1 rfl d_B_tucked_26 ?_
        refine zz_iload_n (i := 1) (pc := 29) C rfl rfl d_B_tucked_29 ?_
        obtain ⟨hi4, h⟩ := zz_ckE h
        refine zz_iald (pc := 30) C rfl zsh_9 hi4 d_B_tucked_30 ?_
        refine zz_istore_n (i := 3) (lo' := [some (.ref 0), some (.int a1), some (.int a2), some (.int (s.1 9 (a1.toNatClampNeg))), none, none, none, none]) (pc := 31) C rfl (Nat.le_of_ble_eq_true rfl) rfl rfl d_B_tucked_31 ?_
        refine zz_iconst (pc := 32) C zki_0 d_B_tucked_32 ?_
        refine zz_istore (i := 4) (lo' := [some (.ref 0), some (.int a1), some (.int a2), some (.int (s.1 9 (a1.toNatClampNeg))), some (.int (0 : Int32)), none, none, none]) (pc := 33) C (Nat.le_of_ble_eq_true rfl) rfl rfl d_B_tucked_33 ?_
        refine zz_iconst (pc := 35) C zki_m1 d_B_tucked_35 ?_
        refine zz_istore (i := 5) (lo' := [some (.ref 0), some (.int a1), some (.int a2), some (.int (s.1 9 (a1.toNatClampNeg))), some (.int (0 : Int32)), some (.int (-1 : Int32)), none, none]) (pc := 36) C (Nat.le_of_ble_eq_true rfl) rfl rfl d_B_tucked_36 ?_
        refine zz_iconst (pc := 38) C zki_0 d_B_tucked_38 ?_
        refine zz_istore (i := 6) (lo' := [some (.ref 0), some (.int a1), some (.int a2), some (.int (s.1 9 (a1.toNatClampNeg))), some (.int (0 : Int32)), some (.int (-1 : Int32)), some (.int (0 : Int32)), none]) (pc := 39) C (Nat.le_of_ble_eq_true rfl) rfl rfl d_B_tucked_39 ?_
        exact zf_B_tucked_L41 C zF a1 a2 (s.1 9 (a1.toNatClampNeg)) (0 : Int32) (-1 : Int32) (0 : Int32) s h
      · rw [if_neg hc3] at h
        refine zz_iconst (pc := 20) C zki_m1 d_B_tucked_20 ?_
        replace h := Option.some.inj h
        subst h
        exact zz_ret (pc := 21) C (v := some (.int (-1 : Int32))) d_B_tucked_21 (Or.inl ⟨_, _, rfl, rfl, rfl, rfl⟩) rfl
theorem zm_B_tucked {G : zz_G} {l : Launch} {s : zz_S} {q : Int32 × zz_S} {a1 : Int32} {a2 : Int32} (h : f_B_tucked a1 a2 s = some q) : zz_M G l 9 y_B_tucked prog_1_method_25_code 8 (some .int) [.ref 0, .int a1, .int a2] zsh s (some (.int q.1), zsh, q.2) :=
  zz_M.intro (by decide) (Nat.le_of_ble_eq_true rfl) (Nat.le_refl _) (Nat.le_refl _) (fun Z C => zf_B_tucked C a1 a2 h)
theorem d_B_turn_0 : decode prog_1_method_13_code 0 = .ok (.iload_n 1, 1) := by decide +kernel
theorem d_B_turn_1 : decode prog_1_method_13_code 1 = .ok (.iload_n 2, 1) := by decide +kernel
theorem d_B_turn_2 : decode prog_1_method_13_code 2 = .ok (.iload_n 3, 1) := by decide +kernel
theorem d_B_turn_3 : decode prog_1_method_13_code 3 = .ok (.invokestatic 161, 3) := by decide +kernel
theorem d_B_turn_6 : decode prog_1_method_13_code 6 = .ok (.ifCond .ne (5), 3) := by decide +kernel
theorem d_B_turn_9 : decode prog_1_method_13_code 9 = .ok (.iconst (-1), 1) := by decide +kernel
theorem d_B_turn_10 : decode prog_1_method_13_code 10 = .ok (.ireturn, 1) := by decide +kernel
theorem d_B_turn_11 : decode prog_1_method_13_code 11 = .ok (.aload_n 0, 1) := by decide +kernel
theorem d_B_turn_12 : decode prog_1_method_13_code 12 = .ok (.getfield 19, 3) := by decide +kernel
theorem d_B_turn_15 : decode prog_1_method_13_code 15 = .ok (.getfield 165, 3) := by decide +kernel
theorem d_B_turn_18 : decode prog_1_method_13_code 18 = .ok (.bipush (60), 2) := by decide +kernel
theorem d_B_turn_20 : decode prog_1_method_13_code 20 = .ok (.if_icmp .lt (6), 3) := by decide +kernel
theorem d_B_turn_23 : decode prog_1_method_13_code 23 = .ok (.bipush (-3), 2) := by decide +kernel
theorem d_B_turn_25 : decode prog_1_method_13_code 25 = .ok (.ireturn, 1) := by decide +kernel
theorem d_B_turn_26 : decode prog_1_method_13_code 26 = .ok (.aload_n 0, 1) := by decide +kernel
theorem d_B_turn_27 : decode prog_1_method_13_code 27 = .ok (.getfield 19, 3) := by decide +kernel
theorem d_B_turn_30 : decode prog_1_method_13_code 30 = .ok (.iload_n 1, 1) := by decide +kernel
theorem d_B_turn_31 : decode prog_1_method_13_code 31 = .ok (.iload_n 2, 1) := by decide +kernel
theorem d_B_turn_32 : decode prog_1_method_13_code 32 = .ok (.iload_n 3, 1) := by decide +kernel
theorem d_B_turn_33 : decode prog_1_method_13_code 33 = .ok (.invokevirtual 168, 3) := by decide +kernel
theorem d_B_turn_36 : decode prog_1_method_13_code 36 = .ok (.ireturn, 1) := by decide +kernel
set_option maxHeartbeats 4000000 in
set_option maxRecDepth 100000 in
theorem zf_B_turn {G : zz_G} {l : Launch} {Z : zz_Z} {q : Int32 × zz_S} {s : zz_S} (C : zz_Cx G l "OneBlanket" "turn" prog_1_method_13_code 4 (some .int) 4 (some (.int q.1), zsh, q.2) Z) (a1 : Int32) (a2 : Int32) (a3 : Int32) (h : f_B_turn a1 a2 a3 s = some q) : Z 0 [some (.ref 0), some (.int a1), some (.int a2), some (.int a3)] [] zsh s := by
  unfold f_B_turn at h
  refine zz_iload_n (i := 1) (pc := 0) C rfl rfl d_B_turn_0 ?_
  refine zz_iload_n (i := 2) (pc := 1) C rfl rfl d_B_turn_1 ?_
  refine zz_iload_n (i := 3) (pc := 2) C rfl rfl d_B_turn_2 ?_
  refine zz_cSi (as := [.int a1, .int a2, .int a3]) (st := []) (pc := 3) C (zm_Turns_mayBe rfl) zcs_Turns_mayBe zl_11_161 (by omega) (Nat.le_of_ble_eq_true rfl) d_B_turn_3 rfl rfl ?_
  refine zz_if_ne (tgt := 11) (pc := 6) C (by decide) d_B_turn_6 (fun hc1 => ?_) (fun hc1 => ?_)
  · rw [if_neg hc1] at h
    refine zz_aload_n (i := 0) (pc := 11) C rfl rfl d_B_turn_11 ?_
    refine zz_getR (pc := 12) C zl_11_19 zsh_0 rfl d_B_turn_12 ?_
    refine zz_getI (pc := 15) C zl_11_165 zsh_10 rfl d_B_turn_15 ?_
    refine zz_bipush (pc := 18) C zkb_60 d_B_turn_18 ?_
    refine zz_icmp_lt (tgt := 26) (pc := 20) C (by decide) d_B_turn_20 (fun hc2 => ?_) (fun hc2 => ?_)
    · rw [if_pos hc2] at h
      refine zz_aload_n (i := 0) (pc := 26) C rfl rfl d_B_turn_26 ?_
      refine zz_getR (pc := 27) C zl_11_19 zsh_0 rfl d_B_turn_27 ?_
      refine zz_iload_n (i := 1) (pc := 30) C rfl rfl d_B_turn_30 ?_
      refine zz_iload_n (i := 2) (pc := 31) C rfl rfl d_B_turn_31 ?_
      refine zz_iload_n (i := 3) (pc := 32) C rfl rfl d_B_turn_32 ?_
      obtain ⟨q3, hq3, h⟩ := zz_bdE h
      refine zz_cVi (as := [.int a1, .int a2, .int a3]) (st := []) (pc := 33) C (zm_Turns_add hq3) zcv_Turns_add zsh_10 zl_11_168 (by omega) (Nat.le_of_ble_eq_true rfl) d_B_turn_33 rfl rfl ?_
      replace h := Option.some.inj h
      subst h
      exact zz_ret (pc := 36) C (v := some (.int q3.1)) d_B_turn_36 (Or.inl ⟨_, _, rfl, rfl, rfl, rfl⟩) rfl
    · rw [if_neg hc2] at h
      refine zz_bipush (pc := 23) C zkb_m3 d_B_turn_23 ?_
      replace h := Option.some.inj h
      subst h
      exact zz_ret (pc := 25) C (v := some (.int (-3 : Int32))) d_B_turn_25 (Or.inl ⟨_, _, rfl, rfl, rfl, rfl⟩) rfl
  · rw [if_pos hc1] at h
    refine zz_iconst (pc := 9) C zki_m1 d_B_turn_9 ?_
    replace h := Option.some.inj h
    subst h
    exact zz_ret (pc := 10) C (v := some (.int (-1 : Int32))) d_B_turn_10 (Or.inl ⟨_, _, rfl, rfl, rfl, rfl⟩) rfl
theorem zm_B_turn {G : zz_G} {l : Launch} {s : zz_S} {q : Int32 × zz_S} {a1 : Int32} {a2 : Int32} {a3 : Int32} (h : f_B_turn a1 a2 a3 s = some q) : zz_M G l 4 y_B_turn prog_1_method_13_code 4 (some .int) [.ref 0, .int a1, .int a2, .int a3] zsh s (some (.int q.1), zsh, q.2) :=
  zz_M.intro (by decide) (Nat.le_of_ble_eq_true rfl) (Nat.le_refl _) (Nat.le_refl _) (fun Z C => zf_B_turn C a1 a2 a3 h)
theorem d_B_undo_0 : decode prog_1_method_35_code 0 = .ok (.aload_n 0, 1) := by decide +kernel
theorem d_B_undo_1 : decode prog_1_method_35_code 1 = .ok (.getfield 48, 3) := by decide +kernel
theorem d_B_undo_4 : decode prog_1_method_35_code 4 = .ok (.getfield 305, 3) := by decide +kernel
theorem d_B_undo_7 : decode prog_1_method_35_code 7 = .ok (.ifCond .ne (6), 3) := by decide +kernel
theorem d_B_undo_10 : decode prog_1_method_35_code 10 = .ok (.bipush (-5), 2) := by decide +kernel
theorem d_B_undo_12 : decode prog_1_method_35_code 12 = .ok (.ireturn, 1) := by decide +kernel
theorem d_B_undo_13 : decode prog_1_method_35_code 13 = .ok (.aload_n 0, 1) := by decide +kernel
theorem d_B_undo_14 : decode prog_1_method_35_code 14 = .ok (.getfield 48, 3) := by decide +kernel
theorem d_B_undo_17 : decode prog_1_method_35_code 17 = .ok (.aload_n 0, 1) := by decide +kernel
theorem d_B_undo_18 : decode prog_1_method_35_code 18 = .ok (.getfield 12, 3) := by decide +kernel
theorem d_B_undo_21 : decode prog_1_method_35_code 21 = .ok (.invokevirtual 308, 3) := by decide +kernel
theorem d_B_undo_24 : decode prog_1_method_35_code 24 = .ok (.aload_n 0, 1) := by decide +kernel
theorem d_B_undo_25 : decode prog_1_method_35_code 25 = .ok (.getfield 48, 3) := by decide +kernel
theorem d_B_undo_28 : decode prog_1_method_35_code 28 = .ok (.getfield 305, 3) := by decide +kernel
theorem d_B_undo_31 : decode prog_1_method_35_code 31 = .ok (.ireturn, 1) := by decide +kernel
set_option maxHeartbeats 4000000 in
set_option maxRecDepth 100000 in
theorem zf_B_undo {G : zz_G} {l : Launch} {Z : zz_Z} {q : Int32 × zz_S} {s : zz_S} (C : zz_Cx G l "OneBlanket" "undo" prog_1_method_35_code 1 (some .int) 4 (some (.int q.1), zsh, q.2) Z) (h : f_B_undo s = some q) : Z 0 [some (.ref 0)] [] zsh s := by
  unfold f_B_undo at h
  refine zz_aload_n (i := 0) (pc := 0) C rfl rfl d_B_undo_0 ?_
  refine zz_getR (pc := 1) C zl_11_48 zsh_0 rfl d_B_undo_1 ?_
  refine zz_getI (pc := 4) C zl_11_305 zsh_39 rfl d_B_undo_4 ?_
  refine zz_if_ne (tgt := 13) (pc := 7) C (by decide) d_B_undo_7 (fun hc1 => ?_) (fun hc1 => ?_)
  · rw [if_neg hc1] at h
    refine zz_aload_n (i := 0) (pc := 13) C rfl rfl d_B_undo_13 ?_
    refine zz_getR (pc := 14) C zl_11_48 zsh_0 rfl d_B_undo_14 ?_
    refine zz_aload_n (i := 0) (pc := 17) C rfl rfl d_B_undo_17 ?_
    refine zz_getR (pc := 18) C zl_11_12 zsh_0 rfl d_B_undo_18 ?_
    obtain ⟨q2, hq2, h⟩ := zz_bdE h
    refine zz_cVv (as := [.ref 1]) (st := []) (pc := 21) C (zm_Changes_takeBack hq2) zcv_Changes_takeBack zsh_39 zl_11_308 (by omega) (Nat.le_of_ble_eq_true rfl) d_B_undo_21 rfl rfl ?_
    refine zz_aload_n (i := 0) (pc := 24) C rfl rfl d_B_undo_24 ?_
    refine zz_getR (pc := 25) C zl_11_48 zsh_0 rfl d_B_undo_25 ?_
    refine zz_getI (pc := 28) C zl_11_305 zsh_39 rfl d_B_undo_28 ?_
    replace h := Option.some.inj h
    subst h
    exact zz_ret (pc := 31) C (v := some (.int (q2.1 39 0))) d_B_undo_31 (Or.inl ⟨_, _, rfl, rfl, rfl, rfl⟩) rfl
  · rw [if_pos hc1] at h
    refine zz_bipush (pc := 10) C zkb_m5 d_B_undo_10 ?_
    replace h := Option.some.inj h
    subst h
    exact zz_ret (pc := 12) C (v := some (.int (-5 : Int32))) d_B_undo_12 (Or.inl ⟨_, _, rfl, rfl, rfl, rfl⟩) rfl
theorem zm_B_undo {G : zz_G} {l : Launch} {s : zz_S} {q : Int32 × zz_S} (h : f_B_undo s = some q) : zz_M G l 4 y_B_undo prog_1_method_35_code 1 (some .int) [.ref 0] zsh s (some (.int q.1), zsh, q.2) :=
  zz_M.intro (by decide) (Nat.le_of_ble_eq_true rfl) (Nat.le_refl _) (Nat.le_refl _) (fun Z C => zf_B_undo C h)
theorem d_B_wakes_0 : decode prog_1_method_20_code 0 = .ok (.aload_n 0, 1) := by decide +kernel
theorem d_B_wakes_1 : decode prog_1_method_20_code 1 = .ok (.getfield 12, 3) := by decide +kernel
theorem d_B_wakes_4 : decode prog_1_method_20_code 4 = .ok (.iload_n 1, 1) := by decide +kernel
theorem d_B_wakes_5 : decode prog_1_method_20_code 5 = .ok (.invokevirtual 101, 3) := by decide +kernel
theorem d_B_wakes_8 : decode prog_1_method_20_code 8 = .ok (.ifCond .eq (12), 3) := by decide +kernel
theorem d_B_wakes_11 : decode prog_1_method_20_code 11 = .ok (.iload_n 2, 1) := by decide +kernel
theorem d_B_wakes_12 : decode prog_1_method_20_code 12 = .ok (.ifCond .lt (8), 3) := by decide +kernel
theorem d_B_wakes_15 : decode prog_1_method_20_code 15 = .ok (.iload_n 2, 1) := by decide +kernel
theorem d_B_wakes_16 : decode prog_1_method_20_code 16 = .ok (.iconst 1, 1) := by decide +kernel
theorem d_B_wakes_17 : decode prog_1_method_20_code 17 = .ok (.if_icmp .le (6), 3) := by decide +kernel
theorem d_B_wakes_20 : decode prog_1_method_20_code 20 = .ok (.ldc 127, 2) := by decide +kernel
theorem d_B_wakes_22 : decode prog_1_method_20_code 22 = .ok (.ireturn, 1) := by decide +kernel
theorem d_B_wakes_23 : decode prog_1_method_20_code 23 = .ok (.aload_n 0, 1) := by decide +kernel
theorem d_B_wakes_24 : decode prog_1_method_20_code 24 = .ok (.sipush (479), 3) := by decide +kernel
theorem d_B_wakes_27 : decode prog_1_method_20_code 27 = .ok (.invokevirtual 195, 3) := by decide +kernel
theorem d_B_wakes_30 : decode prog_1_method_20_code 30 = .ok (.iload_n 2, 1) := by decide +kernel
theorem d_B_wakes_31 : decode prog_1_method_20_code 31 = .ok (.ifCond .ne (18), 3) := by decide +kernel
theorem d_B_wakes_34 : decode prog_1_method_20_code 34 = .ok (.aload_n 0, 1) := by decide +kernel
theorem d_B_wakes_35 : decode prog_1_method_20_code 35 = .ok (.getfield 41, 3) := by decide +kernel
theorem d_B_wakes_38 : decode prog_1_method_20_code 38 = .ok (.getfield 220, 3) := by decide +kernel
theorem d_B_wakes_41 : decode prog_1_method_20_code 41 = .ok (.getfield 235, 3) := by decide +kernel
theorem d_B_wakes_44 : decode prog_1_method_20_code 44 = .ok (.iload_n 1, 1) := by decide +kernel
theorem d_B_wakes_45 : decode prog_1_method_20_code 45 = .ok (.iaload, 1) := by decide +kernel
theorem d_B_wakes_46 : decode prog_1_method_20_code 46 = .ok (.goto (15), 3) := by decide +kernel
theorem d_B_wakes_49 : decode prog_1_method_20_code 49 = .ok (.aload_n 0, 1) := by decide +kernel
theorem d_B_wakes_50 : decode prog_1_method_20_code 50 = .ok (.getfield 41, 3) := by decide +kernel
theorem d_B_wakes_53 : decode prog_1_method_20_code 53 = .ok (.getfield 220, 3) := by decide +kernel
theorem d_B_wakes_56 : decode prog_1_method_20_code 56 = .ok (.getfield 238, 3) := by decide +kernel
theorem d_B_wakes_59 : decode prog_1_method_20_code 59 = .ok (.iload_n 1, 1) := by decide +kernel
theorem d_B_wakes_60 : decode prog_1_method_20_code 60 = .ok (.iaload, 1) := by decide +kernel
theorem d_B_wakes_61 : decode prog_1_method_20_code 61 = .ok (.ireturn, 1) := by decide +kernel
set_option maxHeartbeats 4000000 in
set_option maxRecDepth 100000 in
theorem zf_B_wakes {G : zz_G} {l : Launch} {Z : zz_Z} {q : Int32 × zz_S} {s : zz_S} (C : zz_Cx G l "OneBlanket" "wakes" prog_1_method_20_code 3 (some .int) 9 (some (.int q.1), zsh, q.2) Z) (a1 : Int32) (a2 : Int32) (h : f_B_wakes a1 a2 s = some q) : Z 0 [some (.ref 0), some (.int a1), some (.int a2)] [] zsh s := by
  unfold f_B_wakes at h
  refine zz_aload_n (i := 0) (pc := 0) C rfl rfl d_B_wakes_0 ?_
  refine zz_getR (pc := 1) C zl_11_12 zsh_0 rfl d_B_wakes_1 ?_
  refine zz_iload_n (i := 1) (pc := 4) C rfl rfl d_B_wakes_4 ?_
  refine zz_cVi (as := [.int a1]) (st := []) (pc := 5) C (zm_Bed_hasSleeper rfl) zcv_Bed_hasSleeper zsh_1 zl_11_101 (by omega) (Nat.le_of_ble_eq_true rfl) d_B_wakes_5 rfl rfl ?_
  refine zz_if_eq (tgt := 20) (pc := 8) C (by decide) d_B_wakes_8 (fun hc1 => ?_) (fun hc1 => ?_)
  · rw [if_pos hc1] at h
    refine zz_ldc (pc := 20) C zl_11_127 d_B_wakes_20 ?_
    replace h := Option.some.inj h
    subst h
    exact zz_ret (pc := 22) C (v := some (.int (-2000000000 : Int32))) d_B_wakes_22 (Or.inl ⟨_, _, rfl, rfl, rfl, rfl⟩) rfl
  · rw [if_neg hc1] at h
    refine zz_iload_n (i := 2) (pc := 11) C rfl rfl d_B_wakes_11 ?_
    refine zz_if_lt (tgt := 20) (pc := 12) C (by decide) d_B_wakes_12 (fun hc2 => ?_) (fun hc2 => ?_)
    · rw [if_pos hc2] at h
      refine zz_ldc (pc := 20) C zl_11_127 d_B_wakes_20 ?_
      replace h := Option.some.inj h
      subst h
      exact zz_ret (pc := 22) C (v := some (.int (-2000000000 : Int32))) d_B_wakes_22 (Or.inl ⟨_, _, rfl, rfl, rfl, rfl⟩) rfl
    · rw [if_neg hc2] at h
      refine zz_iload_n (i := 2) (pc := 15) C rfl rfl d_B_wakes_15 ?_
      refine zz_iconst (pc := 16) C zki_1 d_B_wakes_16 ?_
      refine zz_icmp_le (tgt := 23) (pc := 17) C (by decide) d_B_wakes_17 (fun hc3 => ?_) (fun hc3 => ?_)
      · rw [if_pos hc3] at h
        refine zz_aload_n (i := 0) (pc := 23) C rfl rfl d_B_wakes_23 ?_
        refine zz_sipush (pc := 24) C zks_479 d_B_wakes_24 ?_
        obtain ⟨q4, hq4, h⟩ := zz_bdE h
        refine zz_cVv (as := [.int (479 : Int32)]) (st := []) (pc := 27) C (zm_B_playTo hq4) zcv_B_playTo zsh_0 zl_11_195 (by omega) (Nat.le_of_ble_eq_true rfl) d_B_wakes_27 rfl rfl ?_
        refine zz_iload_n (i := 2) (pc := 30) C rfl rfl d_B_wakes_30 ?_
        refine zz_if_ne (tgt := 49) (pc := 31) C (by decide) d_B_wakes_31 (fun hc5 => ?_) (fun hc5 => ?_)
        · rw [if_neg hc5] at h
          refine zz_aload_n (i := 0) (pc := 49) C rfl rfl d_B_wakes_49 ?_
          refine zz_getR (pc := 50) C zl_11_41 zsh_0 rfl d_B_wakes_50 ?_
          refine zz_getR (pc := 53) C zl_11_220 zsh_20 rfl d_B_wakes_53 ?_
          refine zz_getR (pc := 56) C zl_11_238 zsh_21 rfl d_B_wakes_56 ?_
          refine zz_iload_n (i := 1) (pc := 59) C rfl rfl d_B_wakes_59 ?_
          obtain ⟨hi6, h⟩ := zz_ckE h
          refine zz_iald (pc := 60) C rfl zsh_26 hi6 d_B_wakes_60 ?_
          replace h := Option.some.inj h
          subst h
          exact zz_ret (pc := 61) C (v := some (.int (q4.1 26 (a1.toNatClampNeg)))) d_B_wakes_61 (Or.inl ⟨_, _, rfl, rfl, rfl, rfl⟩) rfl
        · rw [if_pos hc5] at h
          refine zz_aload_n (i := 0) (pc := 34) C rfl rfl d_B_wakes_34 ?_
          refine zz_getR (pc := 35) C zl_11_41 zsh_0 rfl d_B_wakes_35 ?_
          refine zz_getR (pc := 38) C zl_11_220 zsh_20 rfl d_B_wakes_38 ?_
          refine zz_getR (pc := 41) C zl_11_235 zsh_21 rfl d_B_wakes_41 ?_
          refine zz_iload_n (i := 1) (pc := 44) C rfl rfl d_B_wakes_44 ?_
          obtain ⟨hi7, h⟩ := zz_ckE h
          refine zz_iald (pc := 45) C rfl zsh_25 hi7 d_B_wakes_45 ?_
          refine zz_goto (tgt := 61) (pc := 46) C (by decide) d_B_wakes_46 ?_
          replace h := Option.some.inj h
          subst h
          exact zz_ret (pc := 61) C (v := some (.int (q4.1 25 (a1.toNatClampNeg)))) d_B_wakes_61 (Or.inl ⟨_, _, rfl, rfl, rfl, rfl⟩) rfl
      · rw [if_neg hc3] at h
        refine zz_ldc (pc := 20) C zl_11_127 d_B_wakes_20 ?_
        replace h := Option.some.inj h
        subst h
        exact zz_ret (pc := 22) C (v := some (.int (-2000000000 : Int32))) d_B_wakes_22 (Or.inl ⟨_, _, rfl, rfl, rfl, rfl⟩) rfl
theorem zm_B_wakes {G : zz_G} {l : Launch} {s : zz_S} {q : Int32 × zz_S} {a1 : Int32} {a2 : Int32} (h : f_B_wakes a1 a2 s = some q) : zz_M G l 9 y_B_wakes prog_1_method_20_code 3 (some .int) [.ref 0, .int a1, .int a2] zsh s (some (.int q.1), zsh, q.2) :=
  zz_M.intro (by decide) (Nat.le_of_ble_eq_true rfl) (Nat.le_refl _) (Nat.le_refl _) (fun Z C => zf_B_wakes C a1 a2 h)
theorem d_B_wide_0 : decode prog_1_method_2_code 0 = .ok (.iload_n 1, 1) := by decide +kernel
theorem d_B_wide_1 : decode prog_1_method_2_code 1 = .ok (.bipush (20), 2) := by decide +kernel
theorem d_B_wide_3 : decode prog_1_method_2_code 3 = .ok (.if_icmp .lt (9), 3) := by decide +kernel
theorem d_B_wide_6 : decode prog_1_method_2_code 6 = .ok (.iload_n 1, 1) := by decide +kernel
theorem d_B_wide_7 : decode prog_1_method_2_code 7 = .ok (.bipush (60), 2) := by decide +kernel
theorem d_B_wide_9 : decode prog_1_method_2_code 9 = .ok (.if_icmp .le (5), 3) := by decide +kernel
theorem d_B_wide_12 : decode prog_1_method_2_code 12 = .ok (.iconst (-1), 1) := by decide +kernel
theorem d_B_wide_13 : decode prog_1_method_2_code 13 = .ok (.ireturn, 1) := by decide +kernel
theorem d_B_wide_14 : decode prog_1_method_2_code 14 = .ok (.aload_n 0, 1) := by decide +kernel
theorem d_B_wide_15 : decode prog_1_method_2_code 15 = .ok (.getfield 12, 3) := by decide +kernel
theorem d_B_wide_18 : decode prog_1_method_2_code 18 = .ok (.getfield 85, 3) := by decide +kernel
theorem d_B_wide_21 : decode prog_1_method_2_code 21 = .ok (.ifCond .le (6), 3) := by decide +kernel
theorem d_B_wide_24 : decode prog_1_method_2_code 24 = .ok (.bipush (-5), 2) := by decide +kernel
theorem d_B_wide_26 : decode prog_1_method_2_code 26 = .ok (.ireturn, 1) := by decide +kernel
theorem d_B_wide_27 : decode prog_1_method_2_code 27 = .ok (.aload_n 0, 1) := by decide +kernel
theorem d_B_wide_28 : decode prog_1_method_2_code 28 = .ok (.getfield 12, 3) := by decide +kernel
theorem d_B_wide_31 : decode prog_1_method_2_code 31 = .ok (.getfield 88, 3) := by decide +kernel
theorem d_B_wide_34 : decode prog_1_method_2_code 34 = .ok (.istore_n 2, 1) := by decide +kernel
theorem d_B_wide_35 : decode prog_1_method_2_code 35 = .ok (.aload_n 0, 1) := by decide +kernel
theorem d_B_wide_36 : decode prog_1_method_2_code 36 = .ok (.getfield 12, 3) := by decide +kernel
theorem d_B_wide_39 : decode prog_1_method_2_code 39 = .ok (.iload_n 1, 1) := by decide +kernel
theorem d_B_wide_40 : decode prog_1_method_2_code 40 = .ok (.putfield 88, 3) := by decide +kernel
theorem d_B_wide_43 : decode prog_1_method_2_code 43 = .ok (.iload_n 2, 1) := by decide +kernel
theorem d_B_wide_44 : decode prog_1_method_2_code 44 = .ok (.ireturn, 1) := by decide +kernel
set_option maxHeartbeats 4000000 in
set_option maxRecDepth 100000 in
theorem zf_B_wide {G : zz_G} {l : Launch} {Z : zz_Z} {q : Int32 × zz_S} {s : zz_S} (C : zz_Cx G l "OneBlanket" "wide" prog_1_method_2_code 3 (some .int) 2 (some (.int q.1), zsh, q.2) Z) (a1 : Int32) (h : f_B_wide a1 s = some q) : Z 0 [some (.ref 0), some (.int a1), none] [] zsh s := by
  unfold f_B_wide at h
  refine zz_iload_n (i := 1) (pc := 0) C rfl rfl d_B_wide_0 ?_
  refine zz_bipush (pc := 1) C zkb_20 d_B_wide_1 ?_
  refine zz_icmp_lt (tgt := 12) (pc := 3) C (by decide) d_B_wide_3 (fun hc1 => ?_) (fun hc1 => ?_)
  · rw [if_pos hc1] at h
    refine zz_iconst (pc := 12) C zki_m1 d_B_wide_12 ?_
    replace h := Option.some.inj h
    subst h
    exact zz_ret (pc := 13) C (v := some (.int (-1 : Int32))) d_B_wide_13 (Or.inl ⟨_, _, rfl, rfl, rfl, rfl⟩) rfl
  · rw [if_neg hc1] at h
    refine zz_iload_n (i := 1) (pc := 6) C rfl rfl d_B_wide_6 ?_
    refine zz_bipush (pc := 7) C zkb_60 d_B_wide_7 ?_
    refine zz_icmp_le (tgt := 14) (pc := 9) C (by decide) d_B_wide_9 (fun hc2 => ?_) (fun hc2 => ?_)
    · rw [if_pos hc2] at h
      refine zz_aload_n (i := 0) (pc := 14) C rfl rfl d_B_wide_14 ?_
      refine zz_getR (pc := 15) C zl_11_12 zsh_0 rfl d_B_wide_15 ?_
      refine zz_getI (pc := 18) C zl_11_85 zsh_1 rfl d_B_wide_18 ?_
      refine zz_if_le (tgt := 27) (pc := 21) C (by decide) d_B_wide_21 (fun hc3 => ?_) (fun hc3 => ?_)
      · rw [if_pos hc3] at h
        refine zz_aload_n (i := 0) (pc := 27) C rfl rfl d_B_wide_27 ?_
        refine zz_getR (pc := 28) C zl_11_12 zsh_0 rfl d_B_wide_28 ?_
        refine zz_getI (pc := 31) C zl_11_88 zsh_1 rfl d_B_wide_31 ?_
        refine zz_istore_n (i := 2) (lo' := [some (.ref 0), some (.int a1), some (.int (s.1 1 0))]) (pc := 34) C rfl (Nat.le_of_ble_eq_true rfl) rfl rfl d_B_wide_34 ?_
        refine zz_aload_n (i := 0) (pc := 35) C rfl rfl d_B_wide_35 ?_
        refine zz_getR (pc := 36) C zl_11_12 zsh_0 rfl d_B_wide_36 ?_
        refine zz_iload_n (i := 1) (pc := 39) C rfl rfl d_B_wide_39 ?_
        refine zz_putI' (pc := 40) C zl_11_88 zpf_0_0 zsh_1 rfl d_B_wide_40 ?_
        refine zz_iload_n (i := 2) (pc := 43) C rfl rfl d_B_wide_43 ?_
        replace h := Option.some.inj h
        subst h
        exact zz_ret (pc := 44) C (v := some (.int (s.1 1 0))) d_B_wide_44 (Or.inl ⟨_, _, rfl, rfl, rfl, rfl⟩) rfl
      · rw [if_neg hc3] at h
        refine zz_bipush (pc := 24) C zkb_m5 d_B_wide_24 ?_
        replace h := Option.some.inj h
        subst h
        exact zz_ret (pc := 26) C (v := some (.int (-5 : Int32))) d_B_wide_26 (Or.inl ⟨_, _, rfl, rfl, rfl, rfl⟩) rfl
    · rw [if_neg hc2] at h
      refine zz_iconst (pc := 12) C zki_m1 d_B_wide_12 ?_
      replace h := Option.some.inj h
      subst h
      exact zz_ret (pc := 13) C (v := some (.int (-1 : Int32))) d_B_wide_13 (Or.inl ⟨_, _, rfl, rfl, rfl, rfl⟩) rfl
theorem zm_B_wide {G : zz_G} {l : Launch} {s : zz_S} {q : Int32 × zz_S} {a1 : Int32} (h : f_B_wide a1 s = some q) : zz_M G l 2 y_B_wide prog_1_method_2_code 3 (some .int) [.ref 0, .int a1] zsh s (some (.int q.1), zsh, q.2) :=
  zz_M.intro (by decide) (Nat.le_of_ble_eq_true rfl) (Nat.le_refl _) (Nat.le_refl _) (fun Z C => zf_B_wide C a1 h)
theorem d_B_window_0 : decode prog_1_method_26_code 0 = .ok (.iload_n 1, 1) := by decide +kernel
theorem d_B_window_1 : decode prog_1_method_26_code 1 = .ok (.ifCond .lt (18), 3) := by decide +kernel
theorem d_B_window_4 : decode prog_1_method_26_code 4 = .ok (.iload_n 1, 1) := by decide +kernel
theorem d_B_window_5 : decode prog_1_method_26_code 5 = .ok (.iconst 1, 1) := by decide +kernel
theorem d_B_window_6 : decode prog_1_method_26_code 6 = .ok (.if_icmp .gt (13), 3) := by decide +kernel
theorem d_B_window_9 : decode prog_1_method_26_code 9 = .ok (.aload_n 0, 1) := by decide +kernel
theorem d_B_window_10 : decode prog_1_method_26_code 10 = .ok (.getfield 12, 3) := by decide +kernel
theorem d_B_window_13 : decode prog_1_method_26_code 13 = .ok (.getfield 85, 3) := by decide +kernel
theorem d_B_window_16 : decode prog_1_method_26_code 16 = .ok (.ifCond .ne (6), 3) := by decide +kernel
theorem d_B_window_19 : decode prog_1_method_26_code 19 = .ok (.ldc 127, 2) := by decide +kernel
theorem d_B_window_21 : decode prog_1_method_26_code 21 = .ok (.ireturn, 1) := by decide +kernel
theorem d_B_window_22 : decode prog_1_method_26_code 22 = .ok (.iconst 0, 1) := by decide +kernel
theorem d_B_window_23 : decode prog_1_method_26_code 23 = .ok (.istore_n 2, 1) := by decide +kernel
theorem d_B_window_24 : decode prog_1_method_26_code 24 = .ok (.iconst (-1), 1) := by decide +kernel
theorem d_B_window_25 : decode prog_1_method_26_code 25 = .ok (.istore_n 3, 1) := by decide +kernel
theorem d_B_window_26 : decode prog_1_method_26_code 26 = .ok (.bipush (-9), 2) := by decide +kernel
theorem d_B_window_28 : decode prog_1_method_26_code 28 = .ok (.istore 4, 2) := by decide +kernel
theorem d_B_window_30 : decode prog_1_method_26_code 30 = .ok (.iload 4, 2) := by decide +kernel
theorem d_B_window_32 : decode prog_1_method_26_code 32 = .ok (.bipush (9), 2) := by decide +kernel
theorem d_B_window_34 : decode prog_1_method_26_code 34 = .ok (.if_icmp .gt (77), 3) := by decide +kernel
theorem d_B_window_37 : decode prog_1_method_26_code 37 = .ok (.aload_n 0, 1) := by decide +kernel
theorem d_B_window_38 : decode prog_1_method_26_code 38 = .ok (.getfield 41, 3) := by decide +kernel
theorem d_B_window_41 : decode prog_1_method_26_code 41 = .ok (.aload_n 0, 1) := by decide +kernel
theorem d_B_window_42 : decode prog_1_method_26_code 42 = .ok (.getfield 79, 3) := by decide +kernel
theorem d_B_window_45 : decode prog_1_method_26_code 45 = .ok (.aload_n 0, 1) := by decide +kernel
theorem d_B_window_46 : decode prog_1_method_26_code 46 = .ok (.getfield 12, 3) := by decide +kernel
theorem d_B_window_49 : decode prog_1_method_26_code 49 = .ok (.getfield 244, 3) := by decide +kernel
theorem d_B_window_52 : decode prog_1_method_26_code 52 = .ok (.invokevirtual 245, 3) := by decide +kernel
theorem d_B_window_55 : decode prog_1_method_26_code 55 = .ok (.aload_n 0, 1) := by decide +kernel
theorem d_B_window_56 : decode prog_1_method_26_code 56 = .ok (.getfield 41, 3) := by decide +kernel
theorem d_B_window_59 : decode prog_1_method_26_code 59 = .ok (.iload 4, 2) := by decide +kernel
theorem d_B_window_61 : decode prog_1_method_26_code 61 = .ok (.putfield 264, 3) := by decide +kernel
theorem d_B_window_64 : decode prog_1_method_26_code 64 = .ok (.aload_n 0, 1) := by decide +kernel
theorem d_B_window_65 : decode prog_1_method_26_code 65 = .ok (.getfield 41, 3) := by decide +kernel
theorem d_B_window_68 : decode prog_1_method_26_code 68 = .ok (.sipush (479), 3) := by decide +kernel
theorem d_B_window_71 : decode prog_1_method_26_code 71 = .ok (.invokevirtual 249, 3) := by decide +kernel
theorem d_B_window_74 : decode prog_1_method_26_code 74 = .ok (.aload_n 0, 1) := by decide +kernel
theorem d_B_window_75 : decode prog_1_method_26_code 75 = .ok (.getfield 41, 3) := by decide +kernel
theorem d_B_window_78 : decode prog_1_method_26_code 78 = .ok (.getfield 220, 3) := by decide +kernel
theorem d_B_window_81 : decode prog_1_method_26_code 81 = .ok (.aload_n 0, 1) := by decide +kernel
theorem d_B_window_82 : decode prog_1_method_26_code 82 = .ok (.getfield 12, 3) := by decide +kernel
theorem d_B_window_85 : decode prog_1_method_26_code 85 = .ok (.getfield 85, 3) := by decide +kernel
theorem d_B_window_88 : decode prog_1_method_26_code 88 = .ok (.invokevirtual 267, 3) := by decide +kernel
theorem d_B_window_91 : decode prog_1_method_26_code 91 = .ok (.istore 5, 2) := by decide +kernel
theorem d_B_window_93 : decode prog_1_method_26_code 93 = .ok (.iload 5, 2) := by decide +kernel
theorem d_B_window_95 : decode prog_1_method_26_code 95 = .ok (.iload_n 3, 1) := by decide +kernel
theorem d_B_window_96 : decode prog_1_method_26_code 96 = .ok (.if_icmp .le (9), 3) := by decide +kernel
theorem d_B_window_99 : decode prog_1_method_26_code 99 = .ok (.iload 5, 2) := by decide +kernel
theorem d_B_window_101 : decode prog_1_method_26_code 101 = .ok (.istore_n 3, 1) := by decide +kernel
theorem d_B_window_102 : decode prog_1_method_26_code 102 = .ok (.iload 4, 2) := by decide +kernel
theorem d_B_window_104 : decode prog_1_method_26_code 104 = .ok (.istore_n 2, 1) := by decide +kernel
theorem d_B_window_105 : decode prog_1_method_26_code 105 = .ok (.iinc 4 (1), 3) := by decide +kernel
theorem d_B_window_108 : decode prog_1_method_26_code 108 = .ok (.goto (-78), 3) := by decide +kernel
theorem d_B_window_111 : decode prog_1_method_26_code 111 = .ok (.iload_n 1, 1) := by decide +kernel
theorem d_B_window_112 : decode prog_1_method_26_code 112 = .ok (.ifCond .ne (7), 3) := by decide +kernel
theorem d_B_window_115 : decode prog_1_method_26_code 115 = .ok (.iload_n 2, 1) := by decide +kernel
theorem d_B_window_116 : decode prog_1_method_26_code 116 = .ok (.goto (4), 3) := by decide +kernel
theorem d_B_window_119 : decode prog_1_method_26_code 119 = .ok (.iload_n 3, 1) := by decide +kernel
theorem d_B_window_120 : decode prog_1_method_26_code 120 = .ok (.ireturn, 1) := by decide +kernel
set_option maxHeartbeats 4000000 in
set_option maxRecDepth 100000 in
theorem zf_B_window_L30 {G : zz_G} {l : Launch} {Z : zz_Z} {q : Int32 × zz_S} (C : zz_Cx G l "OneBlanket" "window" prog_1_method_26_code 6 (some .int) 8 (some (.int q.1), zsh, q.2) Z) : ∀ (n : Nat) (v1 : Int32) (v2 : Int32) (v3 : Int32) (v4 : Int32) (s : zz_S), f_B_window_L30 n v1 v2 v3 v4 s = some q → Z 30 [some (.ref 0), some (.int v1), some (.int v2), some (.int v3), some (.int v4), none] [] zsh s := by
  intro n
  induction n with
  | zero => intro v1 v2 v3 v4 s h; rw [f_B_window_L30] at h; cases h
  | succ n ih =>
  intro v1 v2 v3 v4 s h
  rw [f_B_window_L30] at h
  refine zz_iload (i := 4) (pc := 30) C rfl d_B_window_30 ?_
  refine zz_bipush (pc := 32) C zkb_9 d_B_window_32 ?_
  refine zz_icmp_gt (tgt := 111) (pc := 34) C (by decide) d_B_window_34 (fun hc4 => ?_) (fun hc4 => ?_)
  · rw [if_pos hc4] at h
    refine zz_iload_n (i := 1) (pc := 111) C rfl rfl d_B_window_111 ?_
    refine zz_if_ne (tgt := 119) (pc := 112) C (by decide) d_B_window_112 (fun hc5 => ?_) (fun hc5 => ?_)
    · rw [if_neg hc5] at h
      refine zz_iload_n (i := 3) (pc := 119) C rfl rfl d_B_window_119 ?_
      replace h := Option.some.inj h
      subst h
      exact zz_ret (pc := 120) C (v := some (.int v3)) d_B_window_120 (Or.inl ⟨_, _, rfl, rfl, rfl, rfl⟩) rfl
    · rw [if_pos hc5] at h
      refine zz_iload_n (i := 2) (pc := 115) C rfl rfl d_B_window_115 ?_
      refine zz_goto (tgt := 120) (pc := 116) C (by decide) d_B_window_116 ?_
      replace h := Option.some.inj h
      subst h
      exact zz_ret (pc := 120) C (v := some (.int v2)) d_B_window_120 (Or.inl ⟨_, _, rfl, rfl, rfl, rfl⟩) rfl
  · rw [if_neg hc4] at h
    refine zz_aload_n (i := 0) (pc := 37) C rfl rfl d_B_window_37 ?_
    refine zz_getR (pc := 38) C zl_11_41 zsh_0 rfl d_B_window_38 ?_
    refine zz_aload_n (i := 0) (pc := 41) C rfl rfl d_B_window_41 ?_
    refine zz_getI (pc := 42) C zl_11_79 zsh_0 rfl d_B_window_42 ?_
    refine zz_aload_n (i := 0) (pc := 45) C rfl rfl d_B_window_45 ?_
    refine zz_getR (pc := 46) C zl_11_12 zsh_0 rfl d_B_window_46 ?_
    refine zz_getR (pc := 49) C zl_11_244 zsh_1 rfl d_B_window_49 ?_
    obtain ⟨q6, hq6, h⟩ := zz_bdE h
    refine zz_cVv (as := [.int (s.1 0 12), .ref 2]) (st := []) (pc := 52) C (zm_Night_begin (by decide) hq6) zcv_Night_begin zsh_20 zl_11_245 (by omega) (Nat.le_of_ble_eq_true rfl) d_B_window_52 rfl rfl ?_
    refine zz_aload_n (i := 0) (pc := 55) C rfl rfl d_B_window_55 ?_
    refine zz_getR (pc := 56) C zl_11_41 zsh_0 rfl d_B_window_56 ?_
    refine zz_iload (i := 4) (pc := 59) C rfl d_B_window_59 ?_
    refine zz_putI' (pc := 61) C zl_11_264 zpf_4_13 zsh_20 rfl d_B_window_61 ?_
    refine zz_aload_n (i := 0) (pc := 64) C rfl rfl d_B_window_64 ?_
    refine zz_getR (pc := 65) C zl_11_41 zsh_0 rfl d_B_window_65 ?_
    refine zz_sipush (pc := 68) C zks_479 d_B_window_68 ?_
    obtain ⟨q7, hq7, h⟩ := zz_bdE h
    refine zz_cVv (as := [.int (479 : Int32)]) (st := []) (pc := 71) C (zm_Night_play hq7) zcv_Night_play zsh_20 zl_11_249 (by omega) (Nat.le_of_ble_eq_true rfl) d_B_window_71 rfl rfl ?_
    refine zz_aload_n (i := 0) (pc := 74) C rfl rfl d_B_window_74 ?_
    refine zz_getR (pc := 75) C zl_11_41 zsh_0 rfl d_B_window_75 ?_
    refine zz_getR (pc := 78) C zl_11_220 zsh_20 rfl d_B_window_78 ?_
    refine zz_aload_n (i := 0) (pc := 81) C rfl rfl d_B_window_81 ?_
    refine zz_getR (pc := 82) C zl_11_12 zsh_0 rfl d_B_window_82 ?_
    refine zz_getI (pc := 85) C zl_11_85 zsh_1 rfl d_B_window_85 ?_
    obtain ⟨q8, hq8, h⟩ := zz_bdE h
    refine zz_cVi (as := [.int (q7.1 1 1)]) (st := []) (pc := 88) C (zm_Tally_leastEasy hq8) zcv_Tally_leastEasy zsh_21 zl_11_267 (by omega) (Nat.le_of_ble_eq_true rfl) d_B_window_88 rfl rfl ?_
    refine zz_istore (i := 5) (lo' := [some (.ref 0), some (.int v1), some (.int v2), some (.int v3), some (.int v4), some (.int q8)]) (pc := 91) C (Nat.le_of_ble_eq_true rfl) rfl rfl d_B_window_91 ?_
    refine zz_iload (i := 5) (pc := 93) C rfl d_B_window_93 ?_
    refine zz_iload_n (i := 3) (pc := 95) C rfl rfl d_B_window_95 ?_
    refine zz_icmp_le (tgt := 105) (pc := 96) C (by decide) d_B_window_96 (fun hc9 => ?_) (fun hc9 => ?_)
    · rw [if_pos hc9] at h
      refine zz_iinc (lo' := [some (.ref 0), some (.int v1), some (.int v2), some (.int v3), some (.int (v4 + (1 : Int32))), some (.int q8)]) (pc := 105) C rfl (zz_inc zki_1) rfl rfl d_B_window_105 ?_
      refine zz_goto (tgt := 30) (pc := 108) C (by decide) d_B_window_108 ?_
      refine zz_fg C [true, true, true, true, true, false] rfl rfl ?_
      exact ih v1 v2 v3 (v4 + (1 : Int32)) q7 h
    · rw [if_neg hc9] at h
      refine zz_iload (i := 5) (pc := 99) C rfl d_B_window_99 ?_
      refine zz_istore_n (i := 3) (lo' := [some (.ref 0), some (.int v1), some (.int v2), some (.int q8), some (.int v4), some (.int q8)]) (pc := 101) C rfl (Nat.le_of_ble_eq_true rfl) rfl rfl d_B_window_101 ?_
      refine zz_iload (i := 4) (pc := 102) C rfl d_B_window_102 ?_
      refine zz_istore_n (i := 2) (lo' := [some (.ref 0), some (.int v1), some (.int v4), some (.int q8), some (.int v4), some (.int q8)]) (pc := 104) C rfl (Nat.le_of_ble_eq_true rfl) rfl rfl d_B_window_104 ?_
      refine zz_iinc (lo' := [some (.ref 0), some (.int v1), some (.int v4), some (.int q8), some (.int (v4 + (1 : Int32))), some (.int q8)]) (pc := 105) C rfl (zz_inc zki_1) rfl rfl d_B_window_105 ?_
      refine zz_goto (tgt := 30) (pc := 108) C (by decide) d_B_window_108 ?_
      refine zz_fg C [true, true, true, true, true, false] rfl rfl ?_
      exact ih v1 v4 q8 (v4 + (1 : Int32)) q7 h
set_option maxHeartbeats 4000000 in
set_option maxRecDepth 100000 in
theorem zf_B_window {G : zz_G} {l : Launch} {Z : zz_Z} {q : Int32 × zz_S} {s : zz_S} (C : zz_Cx G l "OneBlanket" "window" prog_1_method_26_code 6 (some .int) 8 (some (.int q.1), zsh, q.2) Z) (a1 : Int32) (h : f_B_window a1 s = some q) : Z 0 [some (.ref 0), some (.int a1), none, none, none, none] [] zsh s := by
  unfold f_B_window at h
  refine zz_iload_n (i := 1) (pc := 0) C rfl rfl d_B_window_0 ?_
  refine zz_if_lt (tgt := 19) (pc := 1) C (by decide) d_B_window_1 (fun hc1 => ?_) (fun hc1 => ?_)
  · rw [if_pos hc1] at h
    refine zz_ldc (pc := 19) C zl_11_127 d_B_window_19 ?_
    replace h := Option.some.inj h
    subst h
    exact zz_ret (pc := 21) C (v := some (.int (-2000000000 : Int32))) d_B_window_21 (Or.inl ⟨_, _, rfl, rfl, rfl, rfl⟩) rfl
  · rw [if_neg hc1] at h
    refine zz_iload_n (i := 1) (pc := 4) C rfl rfl d_B_window_4 ?_
    refine zz_iconst (pc := 5) C zki_1 d_B_window_5 ?_
    refine zz_icmp_gt (tgt := 19) (pc := 6) C (by decide) d_B_window_6 (fun hc2 => ?_) (fun hc2 => ?_)
    · rw [if_pos hc2] at h
      refine zz_ldc (pc := 19) C zl_11_127 d_B_window_19 ?_
      replace h := Option.some.inj h
      subst h
      exact zz_ret (pc := 21) C (v := some (.int (-2000000000 : Int32))) d_B_window_21 (Or.inl ⟨_, _, rfl, rfl, rfl, rfl⟩) rfl
    · rw [if_neg hc2] at h
      refine zz_aload_n (i := 0) (pc := 9) C rfl rfl d_B_window_9 ?_
      refine zz_getR (pc := 10) C zl_11_12 zsh_0 rfl d_B_window_10 ?_
      refine zz_getI (pc := 13) C zl_11_85 zsh_1 rfl d_B_window_13 ?_
      refine zz_if_ne (tgt := 22) (pc := 16) C (by decide) d_B_window_16 (fun hc3 => ?_) (fun hc3 => ?_)
      · rw [if_neg hc3] at h
        refine zz_iconst (pc := 22) C zki_0 d_B_window_22 ?_
        refine zz_istore_n (i := 2) (lo' := [some (.ref 0), some (.int a1), some (.int (0 : Int32)), none, none, none]) (pc := 23) C rfl (Nat.le_of_ble_eq_true rfl) rfl rfl d_B_window_23 ?_
        refine zz_iconst (pc := 24) C zki_m1 d_B_window_24 ?_
        refine zz_istore_n (i := 3) (lo' := [some (.ref 0), some (.int a1), some (.int (0 : Int32)), some (.int (-1 : Int32)), none, none]) (pc := 25) C rfl (Nat.le_of_ble_eq_true rfl) rfl rfl d_B_window_25 ?_
        refine zz_bipush (pc := 26) C zkb_m9 d_B_window_26 ?_
        refine zz_istore (i := 4) (lo' := [some (.ref 0), some (.int a1), some (.int (0 : Int32)), some (.int (-1 : Int32)), some (.int (-9 : Int32)), none]) (pc := 28) C (Nat.le_of_ble_eq_true rfl) rfl rfl d_B_window_28 ?_
        exact zf_B_window_L30 C zF a1 (0 : Int32) (-1 : Int32) (-9 : Int32) s h
      · rw [if_pos hc3] at h
        refine zz_ldc (pc := 19) C zl_11_127 d_B_window_19 ?_
        replace h := Option.some.inj h
        subst h
        exact zz_ret (pc := 21) C (v := some (.int (-2000000000 : Int32))) d_B_window_21 (Or.inl ⟨_, _, rfl, rfl, rfl, rfl⟩) rfl
theorem zm_B_window {G : zz_G} {l : Launch} {s : zz_S} {q : Int32 × zz_S} {a1 : Int32} (h : f_B_window a1 s = some q) : zz_M G l 8 y_B_window prog_1_method_26_code 6 (some .int) [.ref 0, .int a1] zsh s (some (.int q.1), zsh, q.2) :=
  zz_M.intro (by decide) (Nat.le_of_ble_eq_true rfl) (Nat.le_refl _) (Nat.le_refl _) (fun Z C => zf_B_window C a1 h)
theorem d_M_begin_0 : decode prog_14_method_51_code 0 = .ok (.iconst 0, 1) := by decide +kernel
theorem d_M_begin_1 : decode prog_14_method_51_code 1 = .ok (.istore_n 1, 1) := by decide +kernel
theorem d_M_begin_2 : decode prog_14_method_51_code 2 = .ok (.iload_n 1, 1) := by decide +kernel
theorem d_M_begin_3 : decode prog_14_method_51_code 3 = .ok (.bipush (6), 2) := by decide +kernel
theorem d_M_begin_5 : decode prog_14_method_51_code 5 = .ok (.if_icmp .ge (72), 3) := by decide +kernel
theorem d_M_begin_8 : decode prog_14_method_51_code 8 = .ok (.aload_n 0, 1) := by decide +kernel
theorem d_M_begin_9 : decode prog_14_method_51_code 9 = .ok (.getfield 88, 3) := by decide +kernel
theorem d_M_begin_12 : decode prog_14_method_51_code 12 = .ok (.iload_n 1, 1) := by decide +kernel
theorem d_M_begin_13 : decode prog_14_method_51_code 13 = .ok (.aload_n 0, 1) := by decide +kernel
theorem d_M_begin_14 : decode prog_14_method_51_code 14 = .ok (.getfield 13, 3) := by decide +kernel
theorem d_M_begin_17 : decode prog_14_method_51_code 17 = .ok (.iload_n 1, 1) := by decide +kernel
theorem d_M_begin_18 : decode prog_14_method_51_code 18 = .ok (.iaload, 1) := by decide +kernel
theorem d_M_begin_19 : decode prog_14_method_51_code 19 = .ok (.iastore, 1) := by decide +kernel
theorem d_M_begin_20 : decode prog_14_method_51_code 20 = .ok (.aload_n 0, 1) := by decide +kernel
theorem d_M_begin_21 : decode prog_14_method_51_code 21 = .ok (.getfield 94, 3) := by decide +kernel
theorem d_M_begin_24 : decode prog_14_method_51_code 24 = .ok (.iload_n 1, 1) := by decide +kernel
theorem d_M_begin_25 : decode prog_14_method_51_code 25 = .ok (.iconst 0, 1) := by decide +kernel
theorem d_M_begin_26 : decode prog_14_method_51_code 26 = .ok (.iastore, 1) := by decide +kernel
theorem d_M_begin_27 : decode prog_14_method_51_code 27 = .ok (.aload_n 0, 1) := by decide +kernel
theorem d_M_begin_28 : decode prog_14_method_51_code 28 = .ok (.getfield 100, 3) := by decide +kernel
theorem d_M_begin_31 : decode prog_14_method_51_code 31 = .ok (.iload_n 1, 1) := by decide +kernel
theorem d_M_begin_32 : decode prog_14_method_51_code 32 = .ok (.iconst 0, 1) := by decide +kernel
theorem d_M_begin_33 : decode prog_14_method_51_code 33 = .ok (.iastore, 1) := by decide +kernel
theorem d_M_begin_34 : decode prog_14_method_51_code 34 = .ok (.aload_n 0, 1) := by decide +kernel
theorem d_M_begin_35 : decode prog_14_method_51_code 35 = .ok (.getfield 103, 3) := by decide +kernel
theorem d_M_begin_38 : decode prog_14_method_51_code 38 = .ok (.iload_n 1, 1) := by decide +kernel
theorem d_M_begin_39 : decode prog_14_method_51_code 39 = .ok (.iconst 0, 1) := by decide +kernel
theorem d_M_begin_40 : decode prog_14_method_51_code 40 = .ok (.iastore, 1) := by decide +kernel
theorem d_M_begin_41 : decode prog_14_method_51_code 41 = .ok (.aload_n 0, 1) := by decide +kernel
theorem d_M_begin_42 : decode prog_14_method_51_code 42 = .ok (.getfield 106, 3) := by decide +kernel
theorem d_M_begin_45 : decode prog_14_method_51_code 45 = .ok (.iload_n 1, 1) := by decide +kernel
theorem d_M_begin_46 : decode prog_14_method_51_code 46 = .ok (.iconst 0, 1) := by decide +kernel
theorem d_M_begin_47 : decode prog_14_method_51_code 47 = .ok (.iastore, 1) := by decide +kernel
theorem d_M_begin_48 : decode prog_14_method_51_code 48 = .ok (.aload_n 0, 1) := by decide +kernel
theorem d_M_begin_49 : decode prog_14_method_51_code 49 = .ok (.getfield 109, 3) := by decide +kernel
theorem d_M_begin_52 : decode prog_14_method_51_code 52 = .ok (.iload_n 1, 1) := by decide +kernel
theorem d_M_begin_53 : decode prog_14_method_51_code 53 = .ok (.iconst 0, 1) := by decide +kernel
theorem d_M_begin_54 : decode prog_14_method_51_code 54 = .ok (.iastore, 1) := by decide +kernel
theorem d_M_begin_55 : decode prog_14_method_51_code 55 = .ok (.aload_n 0, 1) := by decide +kernel
theorem d_M_begin_56 : decode prog_14_method_51_code 56 = .ok (.getfield 112, 3) := by decide +kernel
theorem d_M_begin_59 : decode prog_14_method_51_code 59 = .ok (.iload_n 1, 1) := by decide +kernel
theorem d_M_begin_60 : decode prog_14_method_51_code 60 = .ok (.bipush (-2), 2) := by decide +kernel
theorem d_M_begin_62 : decode prog_14_method_51_code 62 = .ok (.iastore, 1) := by decide +kernel
theorem d_M_begin_63 : decode prog_14_method_51_code 63 = .ok (.aload_n 0, 1) := by decide +kernel
theorem d_M_begin_64 : decode prog_14_method_51_code 64 = .ok (.getfield 115, 3) := by decide +kernel
theorem d_M_begin_67 : decode prog_14_method_51_code 67 = .ok (.iload_n 1, 1) := by decide +kernel
theorem d_M_begin_68 : decode prog_14_method_51_code 68 = .ok (.bipush (-2), 2) := by decide +kernel
theorem d_M_begin_70 : decode prog_14_method_51_code 70 = .ok (.iastore, 1) := by decide +kernel
theorem d_M_begin_71 : decode prog_14_method_51_code 71 = .ok (.iinc 1 (1), 3) := by decide +kernel
theorem d_M_begin_74 : decode prog_14_method_51_code 74 = .ok (.goto (-72), 3) := by decide +kernel
theorem d_M_begin_77 : decode prog_14_method_51_code 77 = .ok (.iconst 0, 1) := by decide +kernel
theorem d_M_begin_78 : decode prog_14_method_51_code 78 = .ok (.istore_n 1, 1) := by decide +kernel
theorem d_M_begin_79 : decode prog_14_method_51_code 79 = .ok (.iload_n 1, 1) := by decide +kernel
theorem d_M_begin_80 : decode prog_14_method_51_code 80 = .ok (.iconst 3, 1) := by decide +kernel
theorem d_M_begin_81 : decode prog_14_method_51_code 81 = .ok (.if_icmp .ge (21), 3) := by decide +kernel
theorem d_M_begin_84 : decode prog_14_method_51_code 84 = .ok (.aload_n 0, 1) := by decide +kernel
theorem d_M_begin_85 : decode prog_14_method_51_code 85 = .ok (.getfield 91, 3) := by decide +kernel
theorem d_M_begin_88 : decode prog_14_method_51_code 88 = .ok (.iload_n 1, 1) := by decide +kernel
theorem d_M_begin_89 : decode prog_14_method_51_code 89 = .ok (.aload_n 0, 1) := by decide +kernel
theorem d_M_begin_90 : decode prog_14_method_51_code 90 = .ok (.getfield 26, 3) := by decide +kernel
theorem d_M_begin_93 : decode prog_14_method_51_code 93 = .ok (.iload_n 1, 1) := by decide +kernel
theorem d_M_begin_94 : decode prog_14_method_51_code 94 = .ok (.iaload, 1) := by decide +kernel
theorem d_M_begin_95 : decode prog_14_method_51_code 95 = .ok (.iastore, 1) := by decide +kernel
theorem d_M_begin_96 : decode prog_14_method_51_code 96 = .ok (.iinc 1 (1), 3) := by decide +kernel
theorem d_M_begin_99 : decode prog_14_method_51_code 99 = .ok (.goto (-20), 3) := by decide +kernel
theorem d_M_begin_102 : decode prog_14_method_51_code 102 = .ok (.iconst 0, 1) := by decide +kernel
theorem d_M_begin_103 : decode prog_14_method_51_code 103 = .ok (.istore_n 1, 1) := by decide +kernel
theorem d_M_begin_104 : decode prog_14_method_51_code 104 = .ok (.iload_n 1, 1) := by decide +kernel
theorem d_M_begin_105 : decode prog_14_method_51_code 105 = .ok (.bipush (18), 2) := by decide +kernel
theorem d_M_begin_107 : decode prog_14_method_51_code 107 = .ok (.if_icmp .ge (16), 3) := by decide +kernel
theorem d_M_begin_110 : decode prog_14_method_51_code 110 = .ok (.aload_n 0, 1) := by decide +kernel
theorem d_M_begin_111 : decode prog_14_method_51_code 111 = .ok (.getfield 118, 3) := by decide +kernel
theorem d_M_begin_114 : decode prog_14_method_51_code 114 = .ok (.iload_n 1, 1) := by decide +kernel
theorem d_M_begin_115 : decode prog_14_method_51_code 115 = .ok (.iconst 0, 1) := by decide +kernel
theorem d_M_begin_116 : decode prog_14_method_51_code 116 = .ok (.iastore, 1) := by decide +kernel
theorem d_M_begin_117 : decode prog_14_method_51_code 117 = .ok (.iinc 1 (1), 3) := by decide +kernel
theorem d_M_begin_120 : decode prog_14_method_51_code 120 = .ok (.goto (-16), 3) := by decide +kernel
theorem d_M_begin_123 : decode prog_14_method_51_code 123 = .ok (.return_, 1) := by decide +kernel
set_option maxHeartbeats 4000000 in
set_option maxRecDepth 100000 in
theorem zf_M_begin_L104 {G : zz_G} {l : Launch} {Z : zz_Z} {q : zz_S} (C : zz_Cx G l "OneBlanketModel" "begin" prog_14_method_51_code 2 (none) 2 (none, zsh, q) Z) : ∀ (n : Nat) (v1 : Int32) (s : zz_S), f_M_begin_L104 n v1 s = some q → Z 104 [some (.ref 79), some (.int v1)] [] zsh s := by
  intro n
  induction n with
  | zero => intro v1 s h; rw [f_M_begin_L104] at h; cases h
  | succ n ih =>
  intro v1 s h
  rw [f_M_begin_L104] at h
  refine zz_iload_n (i := 1) (pc := 104) C rfl rfl d_M_begin_104 ?_
  refine zz_bipush (pc := 105) C zkb_18 d_M_begin_105 ?_
  refine zz_icmp_ge (tgt := 123) (pc := 107) C (by decide) d_M_begin_107 (fun hc3 => ?_) (fun hc3 => ?_)
  · rw [if_pos hc3] at h
    replace h := Option.some.inj h
    subst h
    exact zz_ret (pc := 123) C (v := none) d_M_begin_123 (Or.inr (Or.inr (Or.inr ⟨rfl, rfl, rfl⟩))) rfl
  · rw [if_neg hc3] at h
    refine zz_aload_n (i := 0) (pc := 110) C rfl rfl d_M_begin_110 ?_
    refine zz_getR (pc := 111) C zl_12_118 zsh_79 rfl d_M_begin_111 ?_
    refine zz_iload_n (i := 1) (pc := 114) C rfl rfl d_M_begin_114 ?_
    refine zz_iconst (pc := 115) C zki_0 d_M_begin_115 ?_
    obtain ⟨hi4, h⟩ := zz_ckE h
    refine zz_iast (pc := 116) C rfl zsh_113 hi4 d_M_begin_116 ?_
    refine zz_iinc (lo' := [some (.ref 79), some (.int (v1 + (1 : Int32)))]) (pc := 117) C rfl (zz_inc zki_1) rfl rfl d_M_begin_117 ?_
    refine zz_goto (tgt := 104) (pc := 120) C (by decide) d_M_begin_120 ?_
    exact ih (v1 + (1 : Int32)) (zz_w s 113 (v1.toNatClampNeg) (0 : Int32)) h
set_option maxHeartbeats 4000000 in
set_option maxRecDepth 100000 in
theorem zf_M_begin_L79 {G : zz_G} {l : Launch} {Z : zz_Z} {q : zz_S} (C : zz_Cx G l "OneBlanketModel" "begin" prog_14_method_51_code 2 (none) 2 (none, zsh, q) Z) : ∀ (n : Nat) (v1 : Int32) (s : zz_S), f_M_begin_L79 n v1 s = some q → Z 79 [some (.ref 79), some (.int v1)] [] zsh s := by
  intro n
  induction n with
  | zero => intro v1 s h; rw [f_M_begin_L79] at h; cases h
  | succ n ih =>
  intro v1 s h
  rw [f_M_begin_L79] at h
  refine zz_iload_n (i := 1) (pc := 79) C rfl rfl d_M_begin_79 ?_
  refine zz_iconst (pc := 80) C zki_3 d_M_begin_80 ?_
  refine zz_icmp_ge (tgt := 102) (pc := 81) C (by decide) d_M_begin_81 (fun hc2 => ?_) (fun hc2 => ?_)
  · rw [if_pos hc2] at h
    refine zz_iconst (pc := 102) C zki_0 d_M_begin_102 ?_
    refine zz_istore_n (i := 1) (lo' := [some (.ref 79), some (.int (0 : Int32))]) (pc := 103) C rfl (Nat.le_of_ble_eq_true rfl) rfl rfl d_M_begin_103 ?_
    exact zf_M_begin_L104 C zF (0 : Int32) s h
  · rw [if_neg hc2] at h
    refine zz_aload_n (i := 0) (pc := 84) C rfl rfl d_M_begin_84 ?_
    refine zz_getR (pc := 85) C zl_12_91 zsh_79 rfl d_M_begin_85 ?_
    refine zz_iload_n (i := 1) (pc := 88) C rfl rfl d_M_begin_88 ?_
    refine zz_aload_n (i := 0) (pc := 89) C rfl rfl d_M_begin_89 ?_
    refine zz_getR (pc := 90) C zl_12_26 zsh_79 rfl d_M_begin_90 ?_
    refine zz_iload_n (i := 1) (pc := 93) C rfl rfl d_M_begin_93 ?_
    obtain ⟨hi5, h⟩ := zz_ckE h
    refine zz_iald (pc := 94) C rfl zsh_84 hi5 d_M_begin_94 ?_
    refine zz_iast (pc := 95) C rfl zsh_104 hi5 d_M_begin_95 ?_
    refine zz_iinc (lo' := [some (.ref 79), some (.int (v1 + (1 : Int32)))]) (pc := 96) C rfl (zz_inc zki_1) rfl rfl d_M_begin_96 ?_
    refine zz_goto (tgt := 79) (pc := 99) C (by decide) d_M_begin_99 ?_
    exact ih (v1 + (1 : Int32)) (zz_w s 104 (v1.toNatClampNeg) (s.1 84 (v1.toNatClampNeg))) h
set_option maxHeartbeats 4000000 in
set_option maxRecDepth 100000 in
theorem zf_M_begin_L2 {G : zz_G} {l : Launch} {Z : zz_Z} {q : zz_S} (C : zz_Cx G l "OneBlanketModel" "begin" prog_14_method_51_code 2 (none) 2 (none, zsh, q) Z) : ∀ (n : Nat) (v1 : Int32) (s : zz_S), f_M_begin_L2 n v1 s = some q → Z 2 [some (.ref 79), some (.int v1)] [] zsh s := by
  intro n
  induction n with
  | zero => intro v1 s h; rw [f_M_begin_L2] at h; cases h
  | succ n ih =>
  intro v1 s h
  rw [f_M_begin_L2] at h
  refine zz_iload_n (i := 1) (pc := 2) C rfl rfl d_M_begin_2 ?_
  refine zz_bipush (pc := 3) C zkb_6 d_M_begin_3 ?_
  refine zz_icmp_ge (tgt := 77) (pc := 5) C (by decide) d_M_begin_5 (fun hc1 => ?_) (fun hc1 => ?_)
  · rw [if_pos hc1] at h
    refine zz_iconst (pc := 77) C zki_0 d_M_begin_77 ?_
    refine zz_istore_n (i := 1) (lo' := [some (.ref 79), some (.int (0 : Int32))]) (pc := 78) C rfl (Nat.le_of_ble_eq_true rfl) rfl rfl d_M_begin_78 ?_
    exact zf_M_begin_L79 C zF (0 : Int32) s h
  · rw [if_neg hc1] at h
    refine zz_aload_n (i := 0) (pc := 8) C rfl rfl d_M_begin_8 ?_
    refine zz_getR (pc := 9) C zl_12_88 zsh_79 rfl d_M_begin_9 ?_
    refine zz_iload_n (i := 1) (pc := 12) C rfl rfl d_M_begin_12 ?_
    refine zz_aload_n (i := 0) (pc := 13) C rfl rfl d_M_begin_13 ?_
    refine zz_getR (pc := 14) C zl_12_13 zsh_79 rfl d_M_begin_14 ?_
    refine zz_iload_n (i := 1) (pc := 17) C rfl rfl d_M_begin_17 ?_
    obtain ⟨hi6, h⟩ := zz_ckE h
    refine zz_iald (pc := 18) C rfl zsh_80 hi6 d_M_begin_18 ?_
    refine zz_iast (pc := 19) C rfl zsh_103 hi6 d_M_begin_19 ?_
    refine zz_aload_n (i := 0) (pc := 20) C rfl rfl d_M_begin_20 ?_
    refine zz_getR (pc := 21) C zl_12_94 zsh_79 rfl d_M_begin_21 ?_
    refine zz_iload_n (i := 1) (pc := 24) C rfl rfl d_M_begin_24 ?_
    refine zz_iconst (pc := 25) C zki_0 d_M_begin_25 ?_
    refine zz_iast (pc := 26) C rfl zsh_105 hi6 d_M_begin_26 ?_
    refine zz_aload_n (i := 0) (pc := 27) C rfl rfl d_M_begin_27 ?_
    refine zz_getR (pc := 28) C zl_12_100 zsh_79 rfl d_M_begin_28 ?_
    refine zz_iload_n (i := 1) (pc := 31) C rfl rfl d_M_begin_31 ?_
    refine zz_iconst (pc := 32) C zki_0 d_M_begin_32 ?_
    refine zz_iast (pc := 33) C rfl zsh_107 hi6 d_M_begin_33 ?_
    refine zz_aload_n (i := 0) (pc := 34) C rfl rfl d_M_begin_34 ?_
    refine zz_getR (pc := 35) C zl_12_103 zsh_79 rfl d_M_begin_35 ?_
    refine zz_iload_n (i := 1) (pc := 38) C rfl rfl d_M_begin_38 ?_
    refine zz_iconst (pc := 39) C zki_0 d_M_begin_39 ?_
    refine zz_iast (pc := 40) C rfl zsh_108 hi6 d_M_begin_40 ?_
    refine zz_aload_n (i := 0) (pc := 41) C rfl rfl d_M_begin_41 ?_
    refine zz_getR (pc := 42) C zl_12_106 zsh_79 rfl d_M_begin_42 ?_
    refine zz_iload_n (i := 1) (pc := 45) C rfl rfl d_M_begin_45 ?_
    refine zz_iconst (pc := 46) C zki_0 d_M_begin_46 ?_
    refine zz_iast (pc := 47) C rfl zsh_109 hi6 d_M_begin_47 ?_
    refine zz_aload_n (i := 0) (pc := 48) C rfl rfl d_M_begin_48 ?_
    refine zz_getR (pc := 49) C zl_12_109 zsh_79 rfl d_M_begin_49 ?_
    refine zz_iload_n (i := 1) (pc := 52) C rfl rfl d_M_begin_52 ?_
    refine zz_iconst (pc := 53) C zki_0 d_M_begin_53 ?_
    refine zz_iast (pc := 54) C rfl zsh_110 hi6 d_M_begin_54 ?_
    refine zz_aload_n (i := 0) (pc := 55) C rfl rfl d_M_begin_55 ?_
    refine zz_getR (pc := 56) C zl_12_112 zsh_79 rfl d_M_begin_56 ?_
    refine zz_iload_n (i := 1) (pc := 59) C rfl rfl d_M_begin_59 ?_
    refine zz_bipush (pc := 60) C zkb_m2 d_M_begin_60 ?_
    refine zz_iast (pc := 62) C rfl zsh_111 hi6 d_M_begin_62 ?_
    refine zz_aload_n (i := 0) (pc := 63) C rfl rfl d_M_begin_63 ?_
    refine zz_getR (pc := 64) C zl_12_115 zsh_79 rfl d_M_begin_64 ?_
    refine zz_iload_n (i := 1) (pc := 67) C rfl rfl d_M_begin_67 ?_
    refine zz_bipush (pc := 68) C zkb_m2 d_M_begin_68 ?_
    refine zz_iast (pc := 70) C rfl zsh_112 hi6 d_M_begin_70 ?_
    refine zz_iinc (lo' := [some (.ref 79), some (.int (v1 + (1 : Int32)))]) (pc := 71) C rfl (zz_inc zki_1) rfl rfl d_M_begin_71 ?_
    refine zz_goto (tgt := 2) (pc := 74) C (by decide) d_M_begin_74 ?_
    exact ih (v1 + (1 : Int32)) (zz_w (zz_w (zz_w (zz_w (zz_w (zz_w (zz_w (zz_w s 103 (v1.toNatClampNeg) (s.1 80 (v1.toNatClampNeg))) 105 (v1.toNatClampNeg) (0 : Int32)) 107 (v1.toNatClampNeg) (0 : Int32)) 108 (v1.toNatClampNeg) (0 : Int32)) 109 (v1.toNatClampNeg) (0 : Int32)) 110 (v1.toNatClampNeg) (0 : Int32)) 111 (v1.toNatClampNeg) (-2 : Int32)) 112 (v1.toNatClampNeg) (-2 : Int32)) h
set_option maxHeartbeats 4000000 in
set_option maxRecDepth 100000 in
theorem zf_M_begin {G : zz_G} {l : Launch} {Z : zz_Z} {q : zz_S} {s : zz_S} (C : zz_Cx G l "OneBlanketModel" "begin" prog_14_method_51_code 2 (none) 2 (none, zsh, q) Z) (h : f_M_begin s = some q) : Z 0 [some (.ref 79), none] [] zsh s := by
  unfold f_M_begin at h
  refine zz_iconst (pc := 0) C zki_0 d_M_begin_0 ?_
  refine zz_istore_n (i := 1) (lo' := [some (.ref 79), some (.int (0 : Int32))]) (pc := 1) C rfl (Nat.le_of_ble_eq_true rfl) rfl rfl d_M_begin_1 ?_
  exact zf_M_begin_L2 C zF (0 : Int32) s h
theorem zm_M_begin {G : zz_G} {l : Launch} {s : zz_S} {q : zz_S} (h : f_M_begin s = some q) : zz_M G l 2 y_M_begin prog_14_method_51_code 2 (none) [.ref 79] zsh s (none, zsh, q) :=
  zz_M.intro (by decide) (Nat.le_of_ble_eq_true rfl) (Nat.le_refl _) (Nat.le_refl _) (fun Z C => zf_M_begin C h)
