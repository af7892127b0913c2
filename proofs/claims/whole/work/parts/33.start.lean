theorem d_Law_p_0 : decode code 0 = .ok (.new 7, 3) := by decide +kernel
theorem d_Law_p_3 : decode code 3 = .ok (.dup, 1) := by decide +kernel
theorem d_Law_p_4 : decode code 4 = .ok (.invokespecial 9, 3) := by decide +kernel
theorem d_Law_p_7 : decode code 7 = .ok (.astore_n 1, 1) := by decide +kernel
theorem d_Law_p_8 : decode code 8 = .ok (.new 10, 3) := by decide +kernel
theorem d_Law_p_11 : decode code 11 = .ok (.dup, 1) := by decide +kernel
theorem d_Law_p_12 : decode code 12 = .ok (.invokespecial 12, 3) := by decide +kernel
theorem d_Law_p_15 : decode code 15 = .ok (.astore_n 2, 1) := by decide +kernel
theorem d_Law_p_16 : decode code 16 = .ok (.iconst 0, 1) := by decide +kernel
theorem d_Law_p_17 : decode code 17 = .ok (.istore_n 3, 1) := by decide +kernel
set_option maxHeartbeats 4000000 in
set_option maxRecDepth 100000 in
/-- the law, to its loop: both objects are made -/
theorem zk_law {G : zz_G} {l : Launch} {s : zz_S} {Z : zz_Z} {d : Nat} {nm : String} {fv : Option Value} {fs : zz_S} {rt : Option FieldType} (hd : 70 ≤ d) (hex : G.2.2.2.2 = true) (C : zz_Cx G l "OneBlanketLaw" nm code 4 rt d (fv, zsh, fs) Z) (hZ : Z 18 [some (.ref 1500), some (.ref 0), some (.ref 79), some (.int (0 : Int32))] [] zsh (zg_142 s)) : Z 0 [some (.ref 1500), none, none, none] [] zc_0 (zg_0 s) := by
  have hzz : zc_249 = zsh := by decide +kernel
  rw [← hzz] at hZ C
  refine zz_newK (n := 0) (sh' := zc_1) (σ' := zg_1 s) (pc := 0) C hex (by decide +kernel) rfl rfl rfl zbl_11 zl_Law_7 zin_11 zit_11 (by decide +kernel) (show zc_0.length + 1 ≤ zc_249.length by decide +kernel) (show zz_sl zc_0 + zz_N 11 ≤ zz_sl zc_249 by decide +kernel) d_Law_p_0 ?_
  refine zz_dup (pc := 3) C rfl d_Law_p_3 ?_
  refine zz_callI (st := [.ref 0]) (o := 0) (c0 := .inl (11, [some none, some none, some none, some none, some none, some none, some none, some none, some none, some none, some none, none, none])) (as := []) (fc := (none, zc_162, zg_89 s)) (pc := 4) C (by decide +kernel) zl_Law_9 zci_B_init.2 rfl rfl (zk_21 hex) zci_B_init.1 rfl (by omega) (show zc_162.length ≤ zc_249.length by decide +kernel) (show zz_sl zc_162 ≤ zz_sl zc_249 by decide +kernel) (Nat.le_of_ble_eq_true rfl) d_Law_p_4 ?_ rfl
  change Z 7 [some (.ref 1500), none, none, none] [.ref 0] zc_162 (zg_89 s)
  refine zz_astore_n (i := 1) (lo' := [some (.ref 1500), some (.ref 0), none, none]) (pc := 7) C rfl (Nat.le_of_ble_eq_true rfl) rfl rfl d_Law_p_7 ?_
  refine zz_newK (n := 79) (sh' := zc_163) (σ' := zg_90 s) (pc := 8) C hex (by decide +kernel) rfl rfl rfl zbl_12 zl_Law_10 zin_12 zit_12 (by decide +kernel) (show zc_162.length + 1 ≤ zc_249.length by decide +kernel) (show zz_sl zc_162 + zz_N 12 ≤ zz_sl zc_249 by decide +kernel) d_Law_p_8 ?_
  refine zz_dup (pc := 11) C rfl d_Law_p_11 ?_
  refine zz_callI (st := [.ref 79]) (o := 79) (c0 := .inl (12, [none, none, none, some none, some none, some none, some none, none, some none, some none, some none, some none, none, some none, some none, some none, none, none, some none, some none, some none, some none, some none, none, none, none, none, none, some none, some none, some none, some none, some none, some none, some none, none, none, none, none, some none, some none, some none, some none, some none, some none, some none, some none, some none, some none, some none, some none, none, some none, some none, none, none, some none, none, some none, some none, some none, some none, some none])) (as := []) (fc := (none, zc_249, zg_142 s)) (pc := 12) C (by decide +kernel) zl_Law_12 zci_M_init.2 rfl rfl (zk_22 hex) zci_M_init.1 rfl (by omega) (show zc_249.length ≤ zc_249.length by decide +kernel) (show zz_sl zc_249 ≤ zz_sl zc_249 by decide +kernel) (Nat.le_of_ble_eq_true rfl) d_Law_p_12 ?_ rfl
  change Z 15 [some (.ref 1500), some (.ref 0), none, none] [.ref 79] zc_249 (zg_142 s)
  refine zz_astore_n (i := 2) (lo' := [some (.ref 1500), some (.ref 0), some (.ref 79), none]) (pc := 15) C rfl (Nat.le_of_ble_eq_true rfl) rfl rfl d_Law_p_15 ?_
  refine zz_iconst (pc := 16) C zki_0 d_Law_p_16 ?_
  refine zz_istore_n (i := 3) (lo' := [some (.ref 1500), some (.ref 0), some (.ref 79), some (.int (0 : Int32))]) (pc := 17) C rfl (Nat.le_of_ble_eq_true rfl) rfl rfl d_Law_p_17 ?_
  exact hZ
