/-! the script, and the law's loop -/
def zz_Sc (G : zz_G) (l : Launch) (cc : ByteArray) (xr xn : Nat) (xs : Nat → Int32) (Z : zz_Z) : Prop := ∃ (p : Program) (e : Env) (R : Room) (s : State) (m : MethodId) (args : Array Value) (below : List Frame) (meth : Method) (c : Code) (Q : State → Prop) (nL k0 n0 : Nat), Z = zz_W G p l e R s m args below meth c Q nL k0 n0 ∧ p.tables.exec = Jvm.exec ∧ c.code = cc ∧ va_X (zz_ad G xr) xn xs s s.heap ∧ zz_ad G xr < s.heap.size ∧ ¬ zz_A G (zz_ad G xr)
section ZL
variable {G : zz_G} {l : Launch} {own nm : String} {cc : ByteArray} {nL d : Nat} {ret : Option FieldType} {fin : zz_Fin} {Z : zz_Z} {pc : Nat} {lo : List (Option Value)} {st : List Value} {sh : List zz_Sh} {σ : zz_S} {xr xn : Nat} {xs : Nat → Int32}
theorem zz_sld (C : zz_Cx G l own nm cc nL ret d fin Z) (hxs : zz_Sc G l cc xr xn xs Z) {i : Int32} {kx : Nat} (hkx : i.toNatClampNeg = kx) (hi : zz_in i xn = true) (hd : decode cc pc = .ok (.iaload, 1)) (kk : Z (pc + 1) lo (.int (xs kx) :: st) sh σ) : Z pc lo (.int i :: .ref xr :: st) sh σ := by
  obtain ⟨p, e, R, s, m, args, below, meth, c, Q, nL', k0, n0, rfl, hx, hb, hX, hbl, hbA⟩ := hxs
  intro hlen H locs ls cells slots hRep hS hl hc hs
  subst hkx
  exact va_sld hx hb hX hbl hbA hS (zz_in_spec hi) hd (kk hlen H locs ls cells slots hRep hS hl hc hs)
theorem zz_slen (C : zz_Cx G l own nm cc nL ret d fin Z) (hxs : zz_Sc G l cc xr xn xs Z) (hd : decode cc pc = .ok (.arraylength, 1)) (kk : Z (pc + 1) lo (.int (Int32.ofNat xn) :: st) sh σ) : Z pc lo (.ref xr :: st) sh σ := by
  obtain ⟨p, e, R, s, m, args, below, meth, c, Q, nL', k0, n0, rfl, hx, hb, hX, hbl, hbA⟩ := hxs
  intro hlen H locs ls cells slots hRep hS hl hc hs
  exact va_slen hx hb hX hbl hbA hS hd (kk hlen H locs ls cells slots hRep hS hl hc hs)
end ZL
set_option maxRecDepth 100000 in
theorem zl_Law_13 : Cond.methodLink "OneBlanketLaw" 13 y_B_wide ∈ zz_T := zz_mem 521 (by decide +kernel) (by decide +kernel)
set_option maxRecDepth 100000 in
theorem zcv_B_wide : zz_CV y_B_wide prog_1_method_2_code 3 (some .int) 1 11 := ⟨⟨zz_mem 524 (by decide +kernel) (by decide +kernel), zz_mem 79 (by decide +kernel) (by decide +kernel), ⟨by decide +kernel, by decide +kernel, by decide +kernel⟩, by decide⟩, zz_mem 522 (by decide +kernel) (by decide +kernel), zz_mem 523 (by decide +kernel) (by decide +kernel), rfl⟩
set_option maxRecDepth 100000 in
theorem zl_Law_17 : Cond.methodLink "OneBlanketLaw" 17 y_M_wide ∈ zz_T := zz_mem 1356 (by decide +kernel) (by decide +kernel)
set_option maxRecDepth 100000 in
theorem zcv_M_wide : zz_CV y_M_wide prog_14_method_9_code 3 (some .int) 1 12 := ⟨⟨zz_mem 1359 (by decide +kernel) (by decide +kernel), zz_mem 93 (by decide +kernel) (by decide +kernel), ⟨by decide +kernel, by decide +kernel, by decide +kernel⟩, by decide⟩, zz_mem 1357 (by decide +kernel) (by decide +kernel), zz_mem 1358 (by decide +kernel) (by decide +kernel), rfl⟩
set_option maxRecDepth 100000 in
theorem zl_Law_18 : Cond.methodLink "OneBlanketLaw" 18 y_B_sleeper ∈ zz_T := zz_mem 525 (by decide +kernel) (by decide +kernel)
set_option maxRecDepth 100000 in
theorem zcv_B_sleeper : zz_CV y_B_sleeper prog_1_method_3_code 5 (some .int) 2 11 := ⟨⟨zz_mem 528 (by decide +kernel) (by decide +kernel), zz_mem 79 (by decide +kernel) (by decide +kernel), ⟨by decide +kernel, by decide +kernel, by decide +kernel⟩, by decide⟩, zz_mem 526 (by decide +kernel) (by decide +kernel), zz_mem 527 (by decide +kernel) (by decide +kernel), rfl⟩
set_option maxRecDepth 100000 in
theorem zl_Law_22 : Cond.methodLink "OneBlanketLaw" 22 y_M_sleeper ∈ zz_T := zz_mem 1363 (by decide +kernel) (by decide +kernel)
set_option maxRecDepth 100000 in
theorem zcv_M_sleeper : zz_CV y_M_sleeper prog_14_method_10_code 3 (some .int) 2 12 := ⟨⟨zz_mem 1366 (by decide +kernel) (by decide +kernel), zz_mem 93 (by decide +kernel) (by decide +kernel), ⟨by decide +kernel, by decide +kernel, by decide +kernel⟩, by decide⟩, zz_mem 1364 (by decide +kernel) (by decide +kernel), zz_mem 1365 (by decide +kernel) (by decide +kernel), rfl⟩
set_option maxRecDepth 100000 in
theorem zl_Law_23 : Cond.methodLink "OneBlanketLaw" 23 y_B_cover ∈ zz_T := zz_mem 533 (by decide +kernel) (by decide +kernel)
set_option maxRecDepth 100000 in
theorem zcv_B_cover : zz_CV y_B_cover prog_1_method_4_code 6 (some .int) 3 11 := ⟨⟨zz_mem 536 (by decide +kernel) (by decide +kernel), zz_mem 79 (by decide +kernel) (by decide +kernel), ⟨by decide +kernel, by decide +kernel, by decide +kernel⟩, by decide⟩, zz_mem 534 (by decide +kernel) (by decide +kernel), zz_mem 535 (by decide +kernel) (by decide +kernel), rfl⟩
set_option maxRecDepth 100000 in
theorem zl_Law_27 : Cond.methodLink "OneBlanketLaw" 27 y_M_cover ∈ zz_T := zz_mem 1367 (by decide +kernel) (by decide +kernel)
set_option maxRecDepth 100000 in
theorem zcv_M_cover : zz_CV y_M_cover prog_14_method_11_code 4 (some .int) 3 12 := ⟨⟨zz_mem 1370 (by decide +kernel) (by decide +kernel), zz_mem 93 (by decide +kernel) (by decide +kernel), ⟨by decide +kernel, by decide +kernel, by decide +kernel⟩, by decide⟩, zz_mem 1368 (by decide +kernel) (by decide +kernel), zz_mem 1369 (by decide +kernel) (by decide +kernel), rfl⟩
set_option maxRecDepth 100000 in
theorem zl_Law_28 : Cond.methodLink "OneBlanketLaw" 28 y_B_mend ∈ zz_T := zz_mem 541 (by decide +kernel) (by decide +kernel)
set_option maxRecDepth 100000 in
theorem zcv_B_mend : zz_CV y_B_mend prog_1_method_5_code 7 (some .int) 3 11 := ⟨⟨zz_mem 544 (by decide +kernel) (by decide +kernel), zz_mem 79 (by decide +kernel) (by decide +kernel), ⟨by decide +kernel, by decide +kernel, by decide +kernel⟩, by decide⟩, zz_mem 542 (by decide +kernel) (by decide +kernel), zz_mem 543 (by decide +kernel) (by decide +kernel), rfl⟩
set_option maxRecDepth 100000 in
theorem zl_Law_31 : Cond.methodLink "OneBlanketLaw" 31 y_M_mend ∈ zz_T := zz_mem 1383 (by decide +kernel) (by decide +kernel)
set_option maxRecDepth 100000 in
theorem zcv_M_mend : zz_CV y_M_mend prog_14_method_17_code 4 (some .int) 3 12 := ⟨⟨zz_mem 1386 (by decide +kernel) (by decide +kernel), zz_mem 93 (by decide +kernel) (by decide +kernel), ⟨by decide +kernel, by decide +kernel, by decide +kernel⟩, by decide⟩, zz_mem 1384 (by decide +kernel) (by decide +kernel), zz_mem 1385 (by decide +kernel) (by decide +kernel), rfl⟩
set_option maxRecDepth 100000 in
theorem zl_Law_32 : Cond.methodLink "OneBlanketLaw" 32 y_B_of ∈ zz_T := zz_mem 574 (by decide +kernel) (by decide +kernel)
set_option maxRecDepth 100000 in
theorem zcv_B_of : zz_CV y_B_of prog_1_method_8_code 3 (some .int) 2 11 := ⟨⟨zz_mem 577 (by decide +kernel) (by decide +kernel), zz_mem 79 (by decide +kernel) (by decide +kernel), ⟨by decide +kernel, by decide +kernel, by decide +kernel⟩, by decide⟩, zz_mem 575 (by decide +kernel) (by decide +kernel), zz_mem 576 (by decide +kernel) (by decide +kernel), rfl⟩
set_option maxRecDepth 100000 in
theorem zl_Law_35 : Cond.methodLink "OneBlanketLaw" 35 y_M_of ∈ zz_T := zz_mem 1403 (by decide +kernel) (by decide +kernel)
set_option maxRecDepth 100000 in
theorem zcv_M_of : zz_CV y_M_of prog_14_method_18_code 3 (some .int) 2 12 := ⟨⟨zz_mem 1406 (by decide +kernel) (by decide +kernel), zz_mem 93 (by decide +kernel) (by decide +kernel), ⟨by decide +kernel, by decide +kernel, by decide +kernel⟩, by decide⟩, zz_mem 1404 (by decide +kernel) (by decide +kernel), zz_mem 1405 (by decide +kernel) (by decide +kernel), rfl⟩
set_option maxRecDepth 100000 in
theorem zl_Law_36 : Cond.methodLink "OneBlanketLaw" 36 y_B_feed ∈ zz_T := zz_mem 595 (by decide +kernel) (by decide +kernel)
set_option maxRecDepth 100000 in
theorem zcv_B_feed : zz_CV y_B_feed prog_1_method_9_code 2 (some .int) 1 11 := ⟨⟨zz_mem 598 (by decide +kernel) (by decide +kernel), zz_mem 79 (by decide +kernel) (by decide +kernel), ⟨by decide +kernel, by decide +kernel, by decide +kernel⟩, by decide⟩, zz_mem 596 (by decide +kernel) (by decide +kernel), zz_mem 597 (by decide +kernel) (by decide +kernel), rfl⟩
set_option maxRecDepth 100000 in
theorem zl_Law_39 : Cond.methodLink "OneBlanketLaw" 39 y_M_feed ∈ zz_T := zz_mem 1408 (by decide +kernel) (by decide +kernel)
set_option maxRecDepth 100000 in
theorem zcv_M_feed : zz_CV y_M_feed prog_14_method_19_code 2 (some .int) 1 12 := ⟨⟨zz_mem 1411 (by decide +kernel) (by decide +kernel), zz_mem 93 (by decide +kernel) (by decide +kernel), ⟨by decide +kernel, by decide +kernel, by decide +kernel⟩, by decide⟩, zz_mem 1409 (by decide +kernel) (by decide +kernel), zz_mem 1410 (by decide +kernel) (by decide +kernel), rfl⟩
set_option maxRecDepth 100000 in
theorem zl_Law_40 : Cond.methodLink "OneBlanketLaw" 40 y_B_law ∈ zz_T := zz_mem 603 (by decide +kernel) (by decide +kernel)
set_option maxRecDepth 100000 in
theorem zcv_B_law : zz_CV y_B_law prog_1_method_10_code 2 (some .int) 0 11 := ⟨⟨zz_mem 606 (by decide +kernel) (by decide +kernel), zz_mem 79 (by decide +kernel) (by decide +kernel), ⟨by decide +kernel, by decide +kernel, by decide +kernel⟩, by decide⟩, zz_mem 604 (by decide +kernel) (by decide +kernel), zz_mem 605 (by decide +kernel) (by decide +kernel), rfl⟩
set_option maxRecDepth 100000 in
theorem zl_Law_44 : Cond.methodLink "OneBlanketLaw" 44 y_M_law ∈ zz_T := zz_mem 1412 (by decide +kernel) (by decide +kernel)
set_option maxRecDepth 100000 in
theorem zcv_M_law : zz_CV y_M_law prog_14_method_37_code 2 (some .int) 0 12 := ⟨⟨zz_mem 1415 (by decide +kernel) (by decide +kernel), zz_mem 93 (by decide +kernel) (by decide +kernel), ⟨by decide +kernel, by decide +kernel, by decide +kernel⟩, by decide⟩, zz_mem 1413 (by decide +kernel) (by decide +kernel), zz_mem 1414 (by decide +kernel) (by decide +kernel), rfl⟩
set_option maxRecDepth 100000 in
theorem zl_Law_45 : Cond.methodLink "OneBlanketLaw" 45 y_B_room ∈ zz_T := zz_mem 748 (by decide +kernel) (by decide +kernel)
set_option maxRecDepth 100000 in
theorem zcv_B_room : zz_CV y_B_room prog_1_method_11_code 2 (some .int) 0 11 := ⟨⟨zz_mem 751 (by decide +kernel) (by decide +kernel), zz_mem 79 (by decide +kernel) (by decide +kernel), ⟨by decide +kernel, by decide +kernel, by decide +kernel⟩, by decide⟩, zz_mem 749 (by decide +kernel) (by decide +kernel), zz_mem 750 (by decide +kernel) (by decide +kernel), rfl⟩
set_option maxRecDepth 100000 in
theorem zl_Law_48 : Cond.methodLink "OneBlanketLaw" 48 y_M_room ∈ zz_T := zz_mem 1471 (by decide +kernel) (by decide +kernel)
set_option maxRecDepth 100000 in
theorem zcv_M_room : zz_CV y_M_room prog_14_method_38_code 2 (some .int) 0 12 := ⟨⟨zz_mem 1474 (by decide +kernel) (by decide +kernel), zz_mem 93 (by decide +kernel) (by decide +kernel), ⟨by decide +kernel, by decide +kernel, by decide +kernel⟩, by decide⟩, zz_mem 1472 (by decide +kernel) (by decide +kernel), zz_mem 1473 (by decide +kernel) (by decide +kernel), rfl⟩
set_option maxRecDepth 100000 in
theorem zl_Law_49 : Cond.methodLink "OneBlanketLaw" 49 y_B_force ∈ zz_T := zz_mem 766 (by decide +kernel) (by decide +kernel)
set_option maxRecDepth 100000 in
theorem zcv_B_force : zz_CV y_B_force prog_1_method_12_code 3 (some .int) 1 11 := ⟨⟨zz_mem 769 (by decide +kernel) (by decide +kernel), zz_mem 79 (by decide +kernel) (by decide +kernel), ⟨by decide +kernel, by decide +kernel, by decide +kernel⟩, by decide⟩, zz_mem 767 (by decide +kernel) (by decide +kernel), zz_mem 768 (by decide +kernel) (by decide +kernel), rfl⟩
set_option maxRecDepth 100000 in
theorem zl_Law_52 : Cond.methodLink "OneBlanketLaw" 52 y_M_force ∈ zz_T := zz_mem 1475 (by decide +kernel) (by decide +kernel)
set_option maxRecDepth 100000 in
theorem zcv_M_force : zz_CV y_M_force prog_14_method_39_code 3 (some .int) 1 12 := ⟨⟨zz_mem 1478 (by decide +kernel) (by decide +kernel), zz_mem 93 (by decide +kernel) (by decide +kernel), ⟨by decide +kernel, by decide +kernel, by decide +kernel⟩, by decide⟩, zz_mem 1476 (by decide +kernel) (by decide +kernel), zz_mem 1477 (by decide +kernel) (by decide +kernel), rfl⟩
set_option maxRecDepth 100000 in
theorem zl_Law_53 : Cond.methodLink "OneBlanketLaw" 53 y_B_turn ∈ zz_T := zz_mem 770 (by decide +kernel) (by decide +kernel)
set_option maxRecDepth 100000 in
theorem zcv_B_turn : zz_CV y_B_turn prog_1_method_13_code 4 (some .int) 3 11 := ⟨⟨zz_mem 773 (by decide +kernel) (by decide +kernel), zz_mem 79 (by decide +kernel) (by decide +kernel), ⟨by decide +kernel, by decide +kernel, by decide +kernel⟩, by decide⟩, zz_mem 771 (by decide +kernel) (by decide +kernel), zz_mem 772 (by decide +kernel) (by decide +kernel), rfl⟩
set_option maxRecDepth 100000 in
theorem zl_Law_56 : Cond.methodLink "OneBlanketLaw" 56 y_M_turn ∈ zz_T := zz_mem 1479 (by decide +kernel) (by decide +kernel)
set_option maxRecDepth 100000 in
theorem zcv_M_turn : zz_CV y_M_turn prog_14_method_43_code 4 (some .int) 3 12 := ⟨⟨zz_mem 1482 (by decide +kernel) (by decide +kernel), zz_mem 93 (by decide +kernel) (by decide +kernel), ⟨by decide +kernel, by decide +kernel, by decide +kernel⟩, by decide⟩, zz_mem 1480 (by decide +kernel) (by decide +kernel), zz_mem 1481 (by decide +kernel) (by decide +kernel), rfl⟩
set_option maxRecDepth 100000 in
theorem zl_Law_57 : Cond.methodLink "OneBlanketLaw" 57 y_B_tosses ∈ zz_T := zz_mem 784 (by decide +kernel) (by decide +kernel)
set_option maxRecDepth 100000 in
theorem zcv_B_tosses : zz_CV y_B_tosses prog_1_method_14_code 5 (some .int) 3 11 := ⟨⟨zz_mem 787 (by decide +kernel) (by decide +kernel), zz_mem 79 (by decide +kernel) (by decide +kernel), ⟨by decide +kernel, by decide +kernel, by decide +kernel⟩, by decide⟩, zz_mem 785 (by decide +kernel) (by decide +kernel), zz_mem 786 (by decide +kernel) (by decide +kernel), rfl⟩
set_option maxRecDepth 100000 in
theorem zl_Law_60 : Cond.methodLink "OneBlanketLaw" 60 y_M_tosses ∈ zz_T := zz_mem 1493 (by decide +kernel) (by decide +kernel)
set_option maxRecDepth 100000 in
theorem zcv_M_tosses : zz_CV y_M_tosses prog_14_method_44_code 8 (some .int) 3 12 := ⟨⟨zz_mem 1496 (by decide +kernel) (by decide +kernel), zz_mem 93 (by decide +kernel) (by decide +kernel), ⟨by decide +kernel, by decide +kernel, by decide +kernel⟩, by decide⟩, zz_mem 1494 (by decide +kernel) (by decide +kernel), zz_mem 1495 (by decide +kernel) (by decide +kernel), rfl⟩
set_option maxRecDepth 100000 in
theorem zl_Law_61 : Cond.methodLink "OneBlanketLaw" 61 y_B_clear ∈ zz_T := zz_mem 803 (by decide +kernel) (by decide +kernel)
set_option maxRecDepth 100000 in
theorem zcv_B_clear : zz_CV y_B_clear prog_1_method_16_code 2 (some .int) 0 11 := ⟨⟨zz_mem 806 (by decide +kernel) (by decide +kernel), zz_mem 79 (by decide +kernel) (by decide +kernel), ⟨by decide +kernel, by decide +kernel, by decide +kernel⟩, by decide⟩, zz_mem 804 (by decide +kernel) (by decide +kernel), zz_mem 805 (by decide +kernel) (by decide +kernel), rfl⟩
set_option maxRecDepth 100000 in
theorem zl_Law_64 : Cond.methodLink "OneBlanketLaw" 64 y_M_clear ∈ zz_T := zz_mem 1501 (by decide +kernel) (by decide +kernel)
set_option maxRecDepth 100000 in
theorem zcv_M_clear : zz_CV y_M_clear prog_14_method_45_code 2 (some .int) 0 12 := ⟨⟨zz_mem 1504 (by decide +kernel) (by decide +kernel), zz_mem 93 (by decide +kernel) (by decide +kernel), ⟨by decide +kernel, by decide +kernel, by decide +kernel⟩, by decide⟩, zz_mem 1502 (by decide +kernel) (by decide +kernel), zz_mem 1503 (by decide +kernel) (by decide +kernel), rfl⟩
set_option maxRecDepth 100000 in
theorem zl_Law_65 : Cond.methodLink "OneBlanketLaw" 65 y_B_lies ∈ zz_T := zz_mem 807 (by decide +kernel) (by decide +kernel)
set_option maxRecDepth 100000 in
theorem zcv_B_lies : zz_CV y_B_lies prog_1_method_17_code 3 (some .int) 2 11 := ⟨⟨zz_mem 810 (by decide +kernel) (by decide +kernel), zz_mem 79 (by decide +kernel) (by decide +kernel), ⟨by decide +kernel, by decide +kernel, by decide +kernel⟩, by decide⟩, zz_mem 808 (by decide +kernel) (by decide +kernel), zz_mem 809 (by decide +kernel) (by decide +kernel), rfl⟩
set_option maxRecDepth 100000 in
theorem zl_Law_68 : Cond.methodLink "OneBlanketLaw" 68 y_M_lies ∈ zz_T := zz_mem 1505 (by decide +kernel) (by decide +kernel)
set_option maxRecDepth 100000 in
theorem zcv_M_lies : zz_CV y_M_lies prog_14_method_55_code 3 (some .int) 2 12 := ⟨⟨zz_mem 1508 (by decide +kernel) (by decide +kernel), zz_mem 93 (by decide +kernel) (by decide +kernel), ⟨by decide +kernel, by decide +kernel, by decide +kernel⟩, by decide⟩, zz_mem 1506 (by decide +kernel) (by decide +kernel), zz_mem 1507 (by decide +kernel) (by decide +kernel), rfl⟩
set_option maxRecDepth 100000 in
theorem zl_Law_69 : Cond.methodLink "OneBlanketLaw" 69 y_B_sleeps ∈ zz_T := zz_mem 946 (by decide +kernel) (by decide +kernel)
set_option maxRecDepth 100000 in
theorem zcv_B_sleeps : zz_CV y_B_sleeps prog_1_method_18_code 5 (some .int) 3 11 := ⟨⟨zz_mem 949 (by decide +kernel) (by decide +kernel), zz_mem 79 (by decide +kernel) (by decide +kernel), ⟨by decide +kernel, by decide +kernel, by decide +kernel⟩, by decide⟩, zz_mem 947 (by decide +kernel) (by decide +kernel), zz_mem 948 (by decide +kernel) (by decide +kernel), rfl⟩
set_option maxRecDepth 100000 in
theorem zl_Law_72 : Cond.methodLink "OneBlanketLaw" 72 y_M_sleeps ∈ zz_T := zz_mem 1566 (by decide +kernel) (by decide +kernel)
set_option maxRecDepth 100000 in
theorem zcv_M_sleeps : zz_CV y_M_sleeps prog_14_method_56_code 5 (some .int) 3 12 := ⟨⟨zz_mem 1569 (by decide +kernel) (by decide +kernel), zz_mem 93 (by decide +kernel) (by decide +kernel), ⟨by decide +kernel, by decide +kernel, by decide +kernel⟩, by decide⟩, zz_mem 1567 (by decide +kernel) (by decide +kernel), zz_mem 1568 (by decide +kernel) (by decide +kernel), rfl⟩
set_option maxRecDepth 100000 in
theorem zl_Law_73 : Cond.methodLink "OneBlanketLaw" 73 y_B_minutes ∈ zz_T := zz_mem 952 (by decide +kernel) (by decide +kernel)
set_option maxRecDepth 100000 in
theorem zcv_B_minutes : zz_CV y_B_minutes prog_1_method_19_code 3 (some .int) 2 11 := ⟨⟨zz_mem 955 (by decide +kernel) (by decide +kernel), zz_mem 79 (by decide +kernel) (by decide +kernel), ⟨by decide +kernel, by decide +kernel, by decide +kernel⟩, by decide⟩, zz_mem 953 (by decide +kernel) (by decide +kernel), zz_mem 954 (by decide +kernel) (by decide +kernel), rfl⟩
set_option maxRecDepth 100000 in
theorem zl_Law_76 : Cond.methodLink "OneBlanketLaw" 76 y_M_minutes ∈ zz_T := zz_mem 1570 (by decide +kernel) (by decide +kernel)
set_option maxRecDepth 100000 in
theorem zcv_M_minutes : zz_CV y_M_minutes prog_14_method_57_code 3 (some .int) 2 12 := ⟨⟨zz_mem 1573 (by decide +kernel) (by decide +kernel), zz_mem 93 (by decide +kernel) (by decide +kernel), ⟨by decide +kernel, by decide +kernel, by decide +kernel⟩, by decide⟩, zz_mem 1571 (by decide +kernel) (by decide +kernel), zz_mem 1572 (by decide +kernel) (by decide +kernel), rfl⟩
set_option maxRecDepth 100000 in
theorem zl_Law_77 : Cond.methodLink "OneBlanketLaw" 77 y_B_wakes ∈ zz_T := zz_mem 956 (by decide +kernel) (by decide +kernel)
set_option maxRecDepth 100000 in
theorem zcv_B_wakes : zz_CV y_B_wakes prog_1_method_20_code 3 (some .int) 2 11 := ⟨⟨zz_mem 959 (by decide +kernel) (by decide +kernel), zz_mem 79 (by decide +kernel) (by decide +kernel), ⟨by decide +kernel, by decide +kernel, by decide +kernel⟩, by decide⟩, zz_mem 957 (by decide +kernel) (by decide +kernel), zz_mem 958 (by decide +kernel) (by decide +kernel), rfl⟩
set_option maxRecDepth 100000 in
theorem zl_Law_80 : Cond.methodLink "OneBlanketLaw" 80 y_M_wakes ∈ zz_T := zz_mem 1574 (by decide +kernel) (by decide +kernel)
set_option maxRecDepth 100000 in
theorem zcv_M_wakes : zz_CV y_M_wakes prog_14_method_58_code 3 (some .int) 2 12 := ⟨⟨zz_mem 1577 (by decide +kernel) (by decide +kernel), zz_mem 93 (by decide +kernel) (by decide +kernel), ⟨by decide +kernel, by decide +kernel, by decide +kernel⟩, by decide⟩, zz_mem 1575 (by decide +kernel) (by decide +kernel), zz_mem 1576 (by decide +kernel) (by decide +kernel), rfl⟩
set_option maxRecDepth 100000 in
theorem zl_Law_81 : Cond.methodLink "OneBlanketLaw" 81 y_B_took ∈ zz_T := zz_mem 960 (by decide +kernel) (by decide +kernel)
set_option maxRecDepth 100000 in
theorem zcv_B_took : zz_CV y_B_took prog_1_method_21_code 2 (some .int) 1 11 := ⟨⟨zz_mem 963 (by decide +kernel) (by decide +kernel), zz_mem 79 (by decide +kernel) (by decide +kernel), ⟨by decide +kernel, by decide +kernel, by decide +kernel⟩, by decide⟩, zz_mem 961 (by decide +kernel) (by decide +kernel), zz_mem 962 (by decide +kernel) (by decide +kernel), rfl⟩
set_option maxRecDepth 100000 in
theorem zl_Law_84 : Cond.methodLink "OneBlanketLaw" 84 y_M_took ∈ zz_T := zz_mem 1578 (by decide +kernel) (by decide +kernel)
set_option maxRecDepth 100000 in
theorem zcv_M_took : zz_CV y_M_took prog_14_method_59_code 2 (some .int) 1 12 := ⟨⟨zz_mem 1581 (by decide +kernel) (by decide +kernel), zz_mem 93 (by decide +kernel) (by decide +kernel), ⟨by decide +kernel, by decide +kernel, by decide +kernel⟩, by decide⟩, zz_mem 1579 (by decide +kernel) (by decide +kernel), zz_mem 1580 (by decide +kernel) (by decide +kernel), rfl⟩
set_option maxRecDepth 100000 in
theorem zl_Law_85 : Cond.methodLink "OneBlanketLaw" 85 y_B_broad ∈ zz_T := zz_mem 964 (by decide +kernel) (by decide +kernel)
set_option maxRecDepth 100000 in
theorem zcv_B_broad : zz_CV y_B_broad prog_1_method_24_code 6 (some .int) 2 11 := ⟨⟨zz_mem 967 (by decide +kernel) (by decide +kernel), zz_mem 79 (by decide +kernel) (by decide +kernel), ⟨by decide +kernel, by decide +kernel, by decide +kernel⟩, by decide⟩, zz_mem 965 (by decide +kernel) (by decide +kernel), zz_mem 966 (by decide +kernel) (by decide +kernel), rfl⟩
set_option maxRecDepth 100000 in
theorem zl_Law_88 : Cond.methodLink "OneBlanketLaw" 88 y_M_broad ∈ zz_T := zz_mem 1582 (by decide +kernel) (by decide +kernel)
set_option maxRecDepth 100000 in
theorem zcv_M_broad : zz_CV y_M_broad prog_14_method_61_code 6 (some .int) 2 12 := ⟨⟨zz_mem 1585 (by decide +kernel) (by decide +kernel), zz_mem 93 (by decide +kernel) (by decide +kernel), ⟨by decide +kernel, by decide +kernel, by decide +kernel⟩, by decide⟩, zz_mem 1583 (by decide +kernel) (by decide +kernel), zz_mem 1584 (by decide +kernel) (by decide +kernel), rfl⟩
set_option maxRecDepth 100000 in
theorem zl_Law_89 : Cond.methodLink "OneBlanketLaw" 89 y_B_tucked ∈ zz_T := zz_mem 973 (by decide +kernel) (by decide +kernel)
set_option maxRecDepth 100000 in
theorem zcv_B_tucked : zz_CV y_B_tucked prog_1_method_25_code 8 (some .int) 2 11 := ⟨⟨zz_mem 976 (by decide +kernel) (by decide +kernel), zz_mem 79 (by decide +kernel) (by decide +kernel), ⟨by decide +kernel, by decide +kernel, by decide +kernel⟩, by decide⟩, zz_mem 974 (by decide +kernel) (by decide +kernel), zz_mem 975 (by decide +kernel) (by decide +kernel), rfl⟩
set_option maxRecDepth 100000 in
theorem zl_Law_92 : Cond.methodLink "OneBlanketLaw" 92 y_M_tucked ∈ zz_T := zz_mem 1590 (by decide +kernel) (by decide +kernel)
set_option maxRecDepth 100000 in
theorem zcv_M_tucked : zz_CV y_M_tucked prog_14_method_64_code 8 (some .int) 2 12 := ⟨⟨zz_mem 1593 (by decide +kernel) (by decide +kernel), zz_mem 93 (by decide +kernel) (by decide +kernel), ⟨by decide +kernel, by decide +kernel, by decide +kernel⟩, by decide⟩, zz_mem 1591 (by decide +kernel) (by decide +kernel), zz_mem 1592 (by decide +kernel) (by decide +kernel), rfl⟩
set_option maxRecDepth 100000 in
theorem zl_Law_93 : Cond.methodLink "OneBlanketLaw" 93 y_B_window ∈ zz_T := zz_mem 981 (by decide +kernel) (by decide +kernel)
set_option maxRecDepth 100000 in
theorem zcv_B_window : zz_CV y_B_window prog_1_method_26_code 6 (some .int) 1 11 := ⟨⟨zz_mem 984 (by decide +kernel) (by decide +kernel), zz_mem 79 (by decide +kernel) (by decide +kernel), ⟨by decide +kernel, by decide +kernel, by decide +kernel⟩, by decide⟩, zz_mem 982 (by decide +kernel) (by decide +kernel), zz_mem 983 (by decide +kernel) (by decide +kernel), rfl⟩
set_option maxRecDepth 100000 in
theorem zl_Law_96 : Cond.methodLink "OneBlanketLaw" 96 y_M_window ∈ zz_T := zz_mem 1598 (by decide +kernel) (by decide +kernel)
set_option maxRecDepth 100000 in
theorem zcv_M_window : zz_CV y_M_window prog_14_method_65_code 6 (some .int) 1 12 := ⟨⟨zz_mem 1601 (by decide +kernel) (by decide +kernel), zz_mem 93 (by decide +kernel) (by decide +kernel), ⟨by decide +kernel, by decide +kernel, by decide +kernel⟩, by decide⟩, zz_mem 1599 (by decide +kernel) (by decide +kernel), zz_mem 1600 (by decide +kernel) (by decide +kernel), rfl⟩
set_option maxRecDepth 100000 in
theorem zl_Law_97 : Cond.methodLink "OneBlanketLaw" 97 y_B_across ∈ zz_T := zz_mem 990 (by decide +kernel) (by decide +kernel)
set_option maxRecDepth 100000 in
theorem zcv_B_across : zz_CV y_B_across prog_1_method_27_code 8 (some .int) 1 11 := ⟨⟨zz_mem 993 (by decide +kernel) (by decide +kernel), zz_mem 79 (by decide +kernel) (by decide +kernel), ⟨by decide +kernel, by decide +kernel, by decide +kernel⟩, by decide⟩, zz_mem 991 (by decide +kernel) (by decide +kernel), zz_mem 992 (by decide +kernel) (by decide +kernel), rfl⟩
set_option maxRecDepth 100000 in
theorem zl_Law_100 : Cond.methodLink "OneBlanketLaw" 100 y_M_across ∈ zz_T := zz_mem 1606 (by decide +kernel) (by decide +kernel)
set_option maxRecDepth 100000 in
theorem zcv_M_across : zz_CV y_M_across prog_14_method_67_code 10 (some .int) 1 12 := ⟨⟨zz_mem 1609 (by decide +kernel) (by decide +kernel), zz_mem 93 (by decide +kernel) (by decide +kernel), ⟨by decide +kernel, by decide +kernel, by decide +kernel⟩, by decide⟩, zz_mem 1607 (by decide +kernel) (by decide +kernel), zz_mem 1608 (by decide +kernel) (by decide +kernel), rfl⟩
set_option maxRecDepth 100000 in
theorem zl_Law_101 : Cond.methodLink "OneBlanketLaw" 101 y_B_drawn ∈ zz_T := zz_mem 1011 (by decide +kernel) (by decide +kernel)
set_option maxRecDepth 100000 in
theorem zcv_B_drawn : zz_CV y_B_drawn prog_1_method_31_code 11 (some .int) 4 11 := ⟨⟨zz_mem 1014 (by decide +kernel) (by decide +kernel), zz_mem 79 (by decide +kernel) (by decide +kernel), ⟨by decide +kernel, by decide +kernel, by decide +kernel⟩, by decide⟩, zz_mem 1012 (by decide +kernel) (by decide +kernel), zz_mem 1013 (by decide +kernel) (by decide +kernel), rfl⟩
set_option maxRecDepth 100000 in
theorem zl_Law_105 : Cond.methodLink "OneBlanketLaw" 105 y_M_drawn ∈ zz_T := zz_mem 1614 (by decide +kernel) (by decide +kernel)
set_option maxRecDepth 100000 in
theorem zcv_M_drawn : zz_CV y_M_drawn prog_14_method_70_code 7 (some .int) 4 12 := ⟨⟨zz_mem 1617 (by decide +kernel) (by decide +kernel), zz_mem 93 (by decide +kernel) (by decide +kernel), ⟨by decide +kernel, by decide +kernel, by decide +kernel⟩, by decide⟩, zz_mem 1615 (by decide +kernel) (by decide +kernel), zz_mem 1616 (by decide +kernel) (by decide +kernel), rfl⟩
set_option maxRecDepth 100000 in
theorem zl_Law_106 : Cond.methodLink "OneBlanketLaw" 106 y_B_morning ∈ zz_T := zz_mem 1019 (by decide +kernel) (by decide +kernel)
set_option maxRecDepth 100000 in
theorem zcv_B_morning : zz_CV y_B_morning prog_1_method_32_code 8 (some .int) 3 11 := ⟨⟨zz_mem 1022 (by decide +kernel) (by decide +kernel), zz_mem 79 (by decide +kernel) (by decide +kernel), ⟨by decide +kernel, by decide +kernel, by decide +kernel⟩, by decide⟩, zz_mem 1020 (by decide +kernel) (by decide +kernel), zz_mem 1021 (by decide +kernel) (by decide +kernel), rfl⟩
set_option maxRecDepth 100000 in
theorem zl_Law_109 : Cond.methodLink "OneBlanketLaw" 109 y_M_morning ∈ zz_T := zz_mem 1627 (by decide +kernel) (by decide +kernel)
set_option maxRecDepth 100000 in
theorem zcv_M_morning : zz_CV y_M_morning prog_14_method_71_code 8 (some .int) 3 12 := ⟨⟨zz_mem 1630 (by decide +kernel) (by decide +kernel), zz_mem 93 (by decide +kernel) (by decide +kernel), ⟨by decide +kernel, by decide +kernel, by decide +kernel⟩, by decide⟩, zz_mem 1628 (by decide +kernel) (by decide +kernel), zz_mem 1629 (by decide +kernel) (by decide +kernel), rfl⟩
set_option maxRecDepth 100000 in
theorem zl_Law_110 : Cond.methodLink "OneBlanketLaw" 110 y_B_film ∈ zz_T := zz_mem 1024 (by decide +kernel) (by decide +kernel)
set_option maxRecDepth 100000 in
theorem zcv_B_film : zz_CV y_B_film prog_1_method_33_code 5 (some .int) 1 11 := ⟨⟨zz_mem 1027 (by decide +kernel) (by decide +kernel), zz_mem 79 (by decide +kernel) (by decide +kernel), ⟨by decide +kernel, by decide +kernel, by decide +kernel⟩, by decide⟩, zz_mem 1025 (by decide +kernel) (by decide +kernel), zz_mem 1026 (by decide +kernel) (by decide +kernel), rfl⟩
set_option maxRecDepth 100000 in
theorem zl_Law_113 : Cond.methodLink "OneBlanketLaw" 113 y_M_film ∈ zz_T := zz_mem 1631 (by decide +kernel) (by decide +kernel)
set_option maxRecDepth 100000 in
theorem zcv_M_film : zz_CV y_M_film prog_14_method_73_code 5 (some .int) 1 12 := ⟨⟨zz_mem 1634 (by decide +kernel) (by decide +kernel), zz_mem 93 (by decide +kernel) (by decide +kernel), ⟨by decide +kernel, by decide +kernel, by decide +kernel⟩, by decide⟩, zz_mem 1632 (by decide +kernel) (by decide +kernel), zz_mem 1633 (by decide +kernel) (by decide +kernel), rfl⟩
set_option maxRecDepth 100000 in
theorem zl_Law_114 : Cond.methodLink "OneBlanketLaw" 114 y_B_undo ∈ zz_T := zz_mem 1033 (by decide +kernel) (by decide +kernel)
set_option maxRecDepth 100000 in
theorem zcv_B_undo : zz_CV y_B_undo prog_1_method_35_code 1 (some .int) 0 11 := ⟨⟨zz_mem 1036 (by decide +kernel) (by decide +kernel), zz_mem 79 (by decide +kernel) (by decide +kernel), ⟨by decide +kernel, by decide +kernel, by decide +kernel⟩, by decide⟩, zz_mem 1034 (by decide +kernel) (by decide +kernel), zz_mem 1035 (by decide +kernel) (by decide +kernel), rfl⟩
set_option maxRecDepth 100000 in
theorem zl_Law_117 : Cond.methodLink "OneBlanketLaw" 117 y_M_undo ∈ zz_T := zz_mem 1371 (by decide +kernel) (by decide +kernel)
set_option maxRecDepth 100000 in
theorem zcv_M_undo : zz_CV y_M_undo prog_14_method_15_code 1 (some .int) 0 12 := ⟨⟨zz_mem 1374 (by decide +kernel) (by decide +kernel), zz_mem 93 (by decide +kernel) (by decide +kernel), ⟨by decide +kernel, by decide +kernel, by decide +kernel⟩, by decide⟩, zz_mem 1372 (by decide +kernel) (by decide +kernel), zz_mem 1373 (by decide +kernel) (by decide +kernel), rfl⟩
set_option maxRecDepth 100000 in
theorem zl_Law_118 : Cond.methodLink "OneBlanketLaw" 118 y_B_redo ∈ zz_T := zz_mem 1042 (by decide +kernel) (by decide +kernel)
set_option maxRecDepth 100000 in
theorem zcv_B_redo : zz_CV y_B_redo prog_1_method_36_code 1 (some .int) 0 11 := ⟨⟨zz_mem 1045 (by decide +kernel) (by decide +kernel), zz_mem 79 (by decide +kernel) (by decide +kernel), ⟨by decide +kernel, by decide +kernel, by decide +kernel⟩, by decide⟩, zz_mem 1043 (by decide +kernel) (by decide +kernel), zz_mem 1044 (by decide +kernel) (by decide +kernel), rfl⟩
set_option maxRecDepth 100000 in
theorem zl_Law_121 : Cond.methodLink "OneBlanketLaw" 121 y_M_redo ∈ zz_T := zz_mem 1379 (by decide +kernel) (by decide +kernel)
set_option maxRecDepth 100000 in
theorem zcv_M_redo : zz_CV y_M_redo prog_14_method_16_code 1 (some .int) 0 12 := ⟨⟨zz_mem 1382 (by decide +kernel) (by decide +kernel), zz_mem 93 (by decide +kernel) (by decide +kernel), ⟨by decide +kernel, by decide +kernel, by decide +kernel⟩, by decide⟩, zz_mem 1380 (by decide +kernel) (by decide +kernel), zz_mem 1381 (by decide +kernel) (by decide +kernel), rfl⟩
set_option maxRecDepth 100000 in
theorem zl_Law_122 : Cond.methodLink "OneBlanketLaw" 122 y_B_body ∈ zz_T := zz_mem 1050 (by decide +kernel) (by decide +kernel)
set_option maxRecDepth 100000 in
theorem zcv_B_body : zz_CV y_B_body prog_1_method_37_code 2 (some .int) 1 11 := ⟨⟨zz_mem 1053 (by decide +kernel) (by decide +kernel), zz_mem 79 (by decide +kernel) (by decide +kernel), ⟨by decide +kernel, by decide +kernel, by decide +kernel⟩, by decide⟩, zz_mem 1051 (by decide +kernel) (by decide +kernel), zz_mem 1052 (by decide +kernel) (by decide +kernel), rfl⟩
set_option maxRecDepth 100000 in
theorem zl_Law_125 : Cond.methodLink "OneBlanketLaw" 125 y_M_body ∈ zz_T := zz_mem 1643 (by decide +kernel) (by decide +kernel)
set_option maxRecDepth 100000 in
theorem zcv_M_body : zz_CV y_M_body prog_14_method_77_code 2 (some .int) 1 12 := ⟨⟨zz_mem 1646 (by decide +kernel) (by decide +kernel), zz_mem 93 (by decide +kernel) (by decide +kernel), ⟨by decide +kernel, by decide +kernel, by decide +kernel⟩, by decide⟩, zz_mem 1644 (by decide +kernel) (by decide +kernel), zz_mem 1645 (by decide +kernel) (by decide +kernel), rfl⟩
set_option maxRecDepth 100000 in
theorem zl_Law_126 : Cond.methodLink "OneBlanketLaw" 126 y_B_act ∈ zz_T := zz_mem 1061 (by decide +kernel) (by decide +kernel)
set_option maxRecDepth 100000 in
theorem zcv_B_act : zz_CV y_B_act prog_1_method_38_code 4 (some .int) 3 11 := ⟨⟨zz_mem 1064 (by decide +kernel) (by decide +kernel), zz_mem 79 (by decide +kernel) (by decide +kernel), ⟨by decide +kernel, by decide +kernel, by decide +kernel⟩, by decide⟩, zz_mem 1062 (by decide +kernel) (by decide +kernel), zz_mem 1063 (by decide +kernel) (by decide +kernel), rfl⟩
set_option maxRecDepth 100000 in
theorem zl_Law_129 : Cond.methodLink "OneBlanketLaw" 129 y_M_act ∈ zz_T := zz_mem 1647 (by decide +kernel) (by decide +kernel)
set_option maxRecDepth 100000 in
theorem zcv_M_act : zz_CV y_M_act prog_14_method_90_code 4 (some .int) 3 12 := ⟨⟨zz_mem 1650 (by decide +kernel) (by decide +kernel), zz_mem 93 (by decide +kernel) (by decide +kernel), ⟨by decide +kernel, by decide +kernel, by decide +kernel⟩, by decide⟩, zz_mem 1648 (by decide +kernel) (by decide +kernel), zz_mem 1649 (by decide +kernel) (by decide +kernel), rfl⟩
set_option maxRecDepth 100000 in
theorem zl_Law_130 : Cond.methodLink "OneBlanketLaw" 130 y_B_trace ∈ zz_T := zz_mem 1088 (by decide +kernel) (by decide +kernel)
set_option maxRecDepth 100000 in
theorem zcv_B_trace : zz_CV y_B_trace prog_1_method_39_code 2 (some .int) 1 11 := ⟨⟨zz_mem 1091 (by decide +kernel) (by decide +kernel), zz_mem 79 (by decide +kernel) (by decide +kernel), ⟨by decide +kernel, by decide +kernel, by decide +kernel⟩, by decide⟩, zz_mem 1089 (by decide +kernel) (by decide +kernel), zz_mem 1090 (by decide +kernel) (by decide +kernel), rfl⟩
set_option maxRecDepth 100000 in
theorem zl_Law_133 : Cond.methodLink "OneBlanketLaw" 133 y_M_trace ∈ zz_T := zz_mem 1639 (by decide +kernel) (by decide +kernel)
set_option maxRecDepth 100000 in
theorem zcv_M_trace : zz_CV y_M_trace prog_14_method_76_code 2 (some .int) 1 12 := ⟨⟨zz_mem 1642 (by decide +kernel) (by decide +kernel), zz_mem 93 (by decide +kernel) (by decide +kernel), ⟨by decide +kernel, by decide +kernel, by decide +kernel⟩, by decide⟩, zz_mem 1640 (by decide +kernel) (by decide +kernel), zz_mem 1641 (by decide +kernel) (by decide +kernel), rfl⟩
set_option maxRecDepth 100000 in
theorem zl_Law_134 : Cond.methodLink "OneBlanketLaw" 134 y_B_keep ∈ zz_T := zz_mem 1092 (by decide +kernel) (by decide +kernel)
set_option maxRecDepth 100000 in
theorem zcv_B_keep : zz_CV y_B_keep prog_1_method_40_code 3 (some .int) 2 11 := ⟨⟨zz_mem 1095 (by decide +kernel) (by decide +kernel), zz_mem 79 (by decide +kernel) (by decide +kernel), ⟨by decide +kernel, by decide +kernel, by decide +kernel⟩, by decide⟩, zz_mem 1093 (by decide +kernel) (by decide +kernel), zz_mem 1094 (by decide +kernel) (by decide +kernel), rfl⟩
set_option maxRecDepth 100000 in
theorem zl_Law_137 : Cond.methodLink "OneBlanketLaw" 137 y_M_keep ∈ zz_T := zz_mem 1710 (by decide +kernel) (by decide +kernel)
set_option maxRecDepth 100000 in
theorem zcv_M_keep : zz_CV y_M_keep prog_14_method_93_code 3 (some .int) 2 12 := ⟨⟨zz_mem 1713 (by decide +kernel) (by decide +kernel), zz_mem 93 (by decide +kernel) (by decide +kernel), ⟨by decide +kernel, by decide +kernel, by decide +kernel⟩, by decide⟩, zz_mem 1711 (by decide +kernel) (by decide +kernel), zz_mem 1712 (by decide +kernel) (by decide +kernel), rfl⟩
set_option maxRecDepth 100000 in
theorem zl_Law_138 : Cond.methodLink "OneBlanketLaw" 138 y_B_row ∈ zz_T := zz_mem 1104 (by decide +kernel) (by decide +kernel)
set_option maxRecDepth 100000 in
theorem zcv_B_row : zz_CV y_B_row prog_1_method_41_code 4 (some .int) 3 11 := ⟨⟨zz_mem 1107 (by decide +kernel) (by decide +kernel), zz_mem 79 (by decide +kernel) (by decide +kernel), ⟨by decide +kernel, by decide +kernel, by decide +kernel⟩, by decide⟩, zz_mem 1105 (by decide +kernel) (by decide +kernel), zz_mem 1106 (by decide +kernel) (by decide +kernel), rfl⟩
set_option maxRecDepth 100000 in
theorem zl_Law_141 : Cond.methodLink "OneBlanketLaw" 141 y_M_row ∈ zz_T := zz_mem 1714 (by decide +kernel) (by decide +kernel)
set_option maxRecDepth 100000 in
theorem zcv_M_row : zz_CV y_M_row prog_14_method_94_code 5 (some .int) 3 12 := ⟨⟨zz_mem 1717 (by decide +kernel) (by decide +kernel), zz_mem 93 (by decide +kernel) (by decide +kernel), ⟨by decide +kernel, by decide +kernel, by decide +kernel⟩, by decide⟩, zz_mem 1715 (by decide +kernel) (by decide +kernel), zz_mem 1716 (by decide +kernel) (by decide +kernel), rfl⟩
set_option maxRecDepth 100000 in
theorem zl_Law_142 : Jvm.Cond.constantLong "OneBlanketLaw" 142 (4294967295 : Int64) ∈ zz_T := zz_mem 1739 (by decide +kernel) (by decide +kernel)
set_option maxRecDepth 100000 in
theorem zl_Law_144 : Cond.methodLink "OneBlanketLaw" 144 y_B_put ∈ zz_T := zz_mem 1115 (by decide +kernel) (by decide +kernel)
set_option maxRecDepth 100000 in
theorem zcv_B_put : zz_CV y_B_put prog_1_method_42_code 6 (some .int) 3 11 := ⟨⟨zz_mem 1118 (by decide +kernel) (by decide +kernel), zz_mem 79 (by decide +kernel) (by decide +kernel), ⟨by decide +kernel, by decide +kernel, by decide +kernel⟩, by decide⟩, zz_mem 1116 (by decide +kernel) (by decide +kernel), zz_mem 1117 (by decide +kernel) (by decide +kernel), rfl⟩
set_option maxRecDepth 100000 in
theorem zl_Law_148 : Cond.methodLink "OneBlanketLaw" 148 y_M_put ∈ zz_T := zz_mem 1718 (by decide +kernel) (by decide +kernel)
set_option maxRecDepth 100000 in
theorem zcv_M_put : zz_CV y_M_put prog_14_method_96_code 7 (some .int) 3 12 := ⟨⟨zz_mem 1721 (by decide +kernel) (by decide +kernel), zz_mem 93 (by decide +kernel) (by decide +kernel), ⟨by decide +kernel, by decide +kernel, by decide +kernel⟩, by decide⟩, zz_mem 1719 (by decide +kernel) (by decide +kernel), zz_mem 1720 (by decide +kernel) (by decide +kernel), rfl⟩
set_option maxRecDepth 100000 in
theorem zl_Law_149 : Cond.methodLink "OneBlanketLaw" 149 y_B_element ∈ zz_T := zz_mem 1131 (by decide +kernel) (by decide +kernel)
set_option maxRecDepth 100000 in
theorem zcv_B_element : zz_CV y_B_element prog_1_method_43_code 3 (some .long) 2 11 := ⟨⟨zz_mem 1134 (by decide +kernel) (by decide +kernel), zz_mem 79 (by decide +kernel) (by decide +kernel), ⟨by decide +kernel, by decide +kernel, by decide +kernel⟩, by decide⟩, zz_mem 1132 (by decide +kernel) (by decide +kernel), zz_mem 1133 (by decide +kernel) (by decide +kernel), rfl⟩
set_option maxRecDepth 100000 in
theorem zl_Law_153 : Cond.methodLink "OneBlanketLaw" 153 y_M_element ∈ zz_T := zz_mem 1726 (by decide +kernel) (by decide +kernel)
set_option maxRecDepth 100000 in
theorem zcv_M_element : zz_CV y_M_element prog_14_method_97_code 3 (some .long) 2 12 := ⟨⟨zz_mem 1729 (by decide +kernel) (by decide +kernel), zz_mem 93 (by decide +kernel) (by decide +kernel), ⟨by decide +kernel, by decide +kernel, by decide +kernel⟩, by decide⟩, zz_mem 1727 (by decide +kernel) (by decide +kernel), zz_mem 1728 (by decide +kernel) (by decide +kernel), rfl⟩
set_option maxRecDepth 100000 in
theorem zl_Law_154 : Cond.methodLink "OneBlanketLaw" 154 y_B_shift ∈ zz_T := zz_mem 1136 (by decide +kernel) (by decide +kernel)
set_option maxRecDepth 100000 in
theorem zcv_B_shift : zz_CV y_B_shift prog_1_method_45_code 8 (some .int) 5 11 := ⟨⟨zz_mem 1139 (by decide +kernel) (by decide +kernel), zz_mem 79 (by decide +kernel) (by decide +kernel), ⟨by decide +kernel, by decide +kernel, by decide +kernel⟩, by decide⟩, zz_mem 1137 (by decide +kernel) (by decide +kernel), zz_mem 1138 (by decide +kernel) (by decide +kernel), rfl⟩
set_option maxRecDepth 100000 in
theorem zl_Law_158 : Cond.methodLink "OneBlanketLaw" 158 y_M_shift ∈ zz_T := zz_mem 1731 (by decide +kernel) (by decide +kernel)
set_option maxRecDepth 100000 in
theorem zcv_M_shift : zz_CV y_M_shift prog_14_method_98_code 7 (some .int) 5 12 := ⟨⟨zz_mem 1734 (by decide +kernel) (by decide +kernel), zz_mem 93 (by decide +kernel) (by decide +kernel), ⟨by decide +kernel, by decide +kernel, by decide +kernel⟩, by decide⟩, zz_mem 1732 (by decide +kernel) (by decide +kernel), zz_mem 1733 (by decide +kernel) (by decide +kernel), rfl⟩
set_option maxRecDepth 100000 in
theorem zl_Law_159 : Cond.methodLink "OneBlanketLaw" 159 y_B_taken ∈ zz_T := zz_mem 1145 (by decide +kernel) (by decide +kernel)
set_option maxRecDepth 100000 in
theorem zcv_B_taken : zz_CV y_B_taken prog_1_method_46_code 4 (some .int) 2 11 := ⟨⟨zz_mem 1148 (by decide +kernel) (by decide +kernel), zz_mem 79 (by decide +kernel) (by decide +kernel), ⟨by decide +kernel, by decide +kernel, by decide +kernel⟩, by decide⟩, zz_mem 1146 (by decide +kernel) (by decide +kernel), zz_mem 1147 (by decide +kernel) (by decide +kernel), rfl⟩
set_option maxRecDepth 100000 in
theorem zl_Law_162 : Cond.methodLink "OneBlanketLaw" 162 y_M_taken ∈ zz_T := zz_mem 1735 (by decide +kernel) (by decide +kernel)
set_option maxRecDepth 100000 in
theorem zcv_M_taken : zz_CV y_M_taken prog_14_method_99_code 3 (some .int) 2 12 := ⟨⟨zz_mem 1738 (by decide +kernel) (by decide +kernel), zz_mem 93 (by decide +kernel) (by decide +kernel), ⟨by decide +kernel, by decide +kernel, by decide +kernel⟩, by decide⟩, zz_mem 1736 (by decide +kernel) (by decide +kernel), zz_mem 1737 (by decide +kernel) (by decide +kernel), rfl⟩
set_option maxRecDepth 100000 in
theorem zl_Law_163 : Cond.methodLink "OneBlanketLaw" 163 y_B_count ∈ zz_T := zz_mem 1156 (by decide +kernel) (by decide +kernel)
set_option maxRecDepth 100000 in
theorem zcv_B_count : zz_CV y_B_count prog_1_method_47_code 2 (some .int) 1 11 := ⟨⟨zz_mem 1159 (by decide +kernel) (by decide +kernel), zz_mem 79 (by decide +kernel) (by decide +kernel), ⟨by decide +kernel, by decide +kernel, by decide +kernel⟩, by decide⟩, zz_mem 1157 (by decide +kernel) (by decide +kernel), zz_mem 1158 (by decide +kernel) (by decide +kernel), rfl⟩
set_option maxRecDepth 100000 in
theorem zl_Law_166 : Cond.methodLink "OneBlanketLaw" 166 y_M_count ∈ zz_T := zz_mem 1706 (by decide +kernel) (by decide +kernel)
set_option maxRecDepth 100000 in
theorem zcv_M_count : zz_CV y_M_count prog_14_method_91_code 2 (some .int) 1 12 := ⟨⟨zz_mem 1709 (by decide +kernel) (by decide +kernel), zz_mem 93 (by decide +kernel) (by decide +kernel), ⟨by decide +kernel, by decide +kernel, by decide +kernel⟩, by decide⟩, zz_mem 1707 (by decide +kernel) (by decide +kernel), zz_mem 1708 (by decide +kernel) (by decide +kernel), rfl⟩
theorem zki_6 : Int32.ofInt (6) = (6 : Int32) := by decide
theorem d_Law_law_18 : decode code 18 = .ok (.iload_n 3, 1) := by decide +kernel
theorem d_Law_law_19 : decode code 19 = .ok (.aload_n 0, 1) := by decide +kernel
theorem d_Law_law_20 : decode code 20 = .ok (.arraylength, 1) := by decide +kernel
theorem d_Law_law_21 : decode code 21 = .ok (.bipush (6), 2) := by decide +kernel
theorem d_Law_law_23 : decode code 23 = .ok (.isub, 1) := by decide +kernel
theorem d_Law_law_24 : decode code 24 = .ok (.if_icmp .gt (1333), 3) := by decide +kernel
theorem d_Law_law_27 : decode code 27 = .ok (.aload_n 0, 1) := by decide +kernel
theorem d_Law_law_28 : decode code 28 = .ok (.iload_n 3, 1) := by decide +kernel
theorem d_Law_law_29 : decode code 29 = .ok (.iaload, 1) := by decide +kernel
theorem d_Law_law_30 : decode code 30 = .ok (.bipush (63), 2) := by decide +kernel
theorem d_Law_law_32 : decode code 32 = .ok (.iand, 1) := by decide +kernel
theorem d_Law_law_33 : decode code 33 = .ok (.tableswitch (1318) (0) (35) #[159, 182, 215, 258, 301, 334, 357, 370, 383, 406, 449, 492, 505, 538, 581, 614, 647, 670, 703, 736, 759, 782, 835, 878, 901, 914, 927, 950, 993, 1016, 1049, 1092, 1165, 1199, 1262, 1295], 159) := by decide +kernel
theorem d_Law_law_192 : decode code 192 = .ok (.aload_n 1, 1) := by decide +kernel
theorem d_Law_law_193 : decode code 193 = .ok (.aload_n 0, 1) := by decide +kernel
theorem d_Law_law_194 : decode code 194 = .ok (.iload_n 3, 1) := by decide +kernel
theorem d_Law_law_195 : decode code 195 = .ok (.iconst 1, 1) := by decide +kernel
theorem d_Law_law_196 : decode code 196 = .ok (.iadd, 1) := by decide +kernel
theorem d_Law_law_197 : decode code 197 = .ok (.iaload, 1) := by decide +kernel
theorem d_Law_law_198 : decode code 198 = .ok (.invokevirtual 13, 3) := by decide +kernel
theorem d_Law_law_201 : decode code 201 = .ok (.aload_n 2, 1) := by decide +kernel
theorem d_Law_law_202 : decode code 202 = .ok (.aload_n 0, 1) := by decide +kernel
theorem d_Law_law_203 : decode code 203 = .ok (.iload_n 3, 1) := by decide +kernel
theorem d_Law_law_204 : decode code 204 = .ok (.iconst 1, 1) := by decide +kernel
theorem d_Law_law_205 : decode code 205 = .ok (.iadd, 1) := by decide +kernel
theorem d_Law_law_206 : decode code 206 = .ok (.iaload, 1) := by decide +kernel
theorem d_Law_law_207 : decode code 207 = .ok (.invokevirtual 17, 3) := by decide +kernel
theorem d_Law_law_210 : decode code 210 = .ok (.if_icmp .eq (1141), 3) := by decide +kernel
theorem d_Law_law_213 : decode code 213 = .ok (.iconst 0, 1) := by decide +kernel
theorem d_Law_law_214 : decode code 214 = .ok (.ireturn, 1) := by decide +kernel
theorem d_Law_law_215 : decode code 215 = .ok (.aload_n 1, 1) := by decide +kernel
theorem d_Law_law_216 : decode code 216 = .ok (.aload_n 0, 1) := by decide +kernel
theorem d_Law_law_217 : decode code 217 = .ok (.iload_n 3, 1) := by decide +kernel
theorem d_Law_law_218 : decode code 218 = .ok (.iconst 1, 1) := by decide +kernel
theorem d_Law_law_219 : decode code 219 = .ok (.iadd, 1) := by decide +kernel
theorem d_Law_law_220 : decode code 220 = .ok (.iaload, 1) := by decide +kernel
theorem d_Law_law_221 : decode code 221 = .ok (.aload_n 0, 1) := by decide +kernel
theorem d_Law_law_222 : decode code 222 = .ok (.iload_n 3, 1) := by decide +kernel
theorem d_Law_law_223 : decode code 223 = .ok (.iconst 2, 1) := by decide +kernel
theorem d_Law_law_224 : decode code 224 = .ok (.iadd, 1) := by decide +kernel
theorem d_Law_law_225 : decode code 225 = .ok (.iaload, 1) := by decide +kernel
theorem d_Law_law_226 : decode code 226 = .ok (.invokevirtual 18, 3) := by decide +kernel
theorem d_Law_law_229 : decode code 229 = .ok (.aload_n 2, 1) := by decide +kernel
theorem d_Law_law_230 : decode code 230 = .ok (.aload_n 0, 1) := by decide +kernel
theorem d_Law_law_231 : decode code 231 = .ok (.iload_n 3, 1) := by decide +kernel
theorem d_Law_law_232 : decode code 232 = .ok (.iconst 1, 1) := by decide +kernel
theorem d_Law_law_233 : decode code 233 = .ok (.iadd, 1) := by decide +kernel
theorem d_Law_law_234 : decode code 234 = .ok (.iaload, 1) := by decide +kernel
theorem d_Law_law_235 : decode code 235 = .ok (.aload_n 0, 1) := by decide +kernel
theorem d_Law_law_236 : decode code 236 = .ok (.iload_n 3, 1) := by decide +kernel
theorem d_Law_law_237 : decode code 237 = .ok (.iconst 2, 1) := by decide +kernel
theorem d_Law_law_238 : decode code 238 = .ok (.iadd, 1) := by decide +kernel
theorem d_Law_law_239 : decode code 239 = .ok (.iaload, 1) := by decide +kernel
theorem d_Law_law_240 : decode code 240 = .ok (.invokevirtual 22, 3) := by decide +kernel
theorem d_Law_law_243 : decode code 243 = .ok (.if_icmp .eq (1108), 3) := by decide +kernel
theorem d_Law_law_246 : decode code 246 = .ok (.iconst 0, 1) := by decide +kernel
theorem d_Law_law_247 : decode code 247 = .ok (.ireturn, 1) := by decide +kernel
theorem d_Law_law_248 : decode code 248 = .ok (.aload_n 1, 1) := by decide +kernel
theorem d_Law_law_249 : decode code 249 = .ok (.aload_n 0, 1) := by decide +kernel
theorem d_Law_law_250 : decode code 250 = .ok (.iload_n 3, 1) := by decide +kernel
theorem d_Law_law_251 : decode code 251 = .ok (.iconst 1, 1) := by decide +kernel
theorem d_Law_law_252 : decode code 252 = .ok (.iadd, 1) := by decide +kernel
theorem d_Law_law_253 : decode code 253 = .ok (.iaload, 1) := by decide +kernel
theorem d_Law_law_254 : decode code 254 = .ok (.aload_n 0, 1) := by decide +kernel
theorem d_Law_law_255 : decode code 255 = .ok (.iload_n 3, 1) := by decide +kernel
theorem d_Law_law_256 : decode code 256 = .ok (.iconst 2, 1) := by decide +kernel
theorem d_Law_law_257 : decode code 257 = .ok (.iadd, 1) := by decide +kernel
theorem d_Law_law_258 : decode code 258 = .ok (.iaload, 1) := by decide +kernel
theorem d_Law_law_259 : decode code 259 = .ok (.aload_n 0, 1) := by decide +kernel
theorem d_Law_law_260 : decode code 260 = .ok (.iload_n 3, 1) := by decide +kernel
theorem d_Law_law_261 : decode code 261 = .ok (.iconst 3, 1) := by decide +kernel
theorem d_Law_law_262 : decode code 262 = .ok (.iadd, 1) := by decide +kernel
theorem d_Law_law_263 : decode code 263 = .ok (.iaload, 1) := by decide +kernel
theorem d_Law_law_264 : decode code 264 = .ok (.invokevirtual 23, 3) := by decide +kernel
theorem d_Law_law_267 : decode code 267 = .ok (.aload_n 2, 1) := by decide +kernel
theorem d_Law_law_268 : decode code 268 = .ok (.aload_n 0, 1) := by decide +kernel
theorem d_Law_law_269 : decode code 269 = .ok (.iload_n 3, 1) := by decide +kernel
theorem d_Law_law_270 : decode code 270 = .ok (.iconst 1, 1) := by decide +kernel
theorem d_Law_law_271 : decode code 271 = .ok (.iadd, 1) := by decide +kernel
theorem d_Law_law_272 : decode code 272 = .ok (.iaload, 1) := by decide +kernel
theorem d_Law_law_273 : decode code 273 = .ok (.aload_n 0, 1) := by decide +kernel
theorem d_Law_law_274 : decode code 274 = .ok (.iload_n 3, 1) := by decide +kernel
theorem d_Law_law_275 : decode code 275 = .ok (.iconst 2, 1) := by decide +kernel
theorem d_Law_law_276 : decode code 276 = .ok (.iadd, 1) := by decide +kernel
theorem d_Law_law_277 : decode code 277 = .ok (.iaload, 1) := by decide +kernel
theorem d_Law_law_278 : decode code 278 = .ok (.aload_n 0, 1) := by decide +kernel
theorem d_Law_law_279 : decode code 279 = .ok (.iload_n 3, 1) := by decide +kernel
theorem d_Law_law_280 : decode code 280 = .ok (.iconst 3, 1) := by decide +kernel
theorem d_Law_law_281 : decode code 281 = .ok (.iadd, 1) := by decide +kernel
theorem d_Law_law_282 : decode code 282 = .ok (.iaload, 1) := by decide +kernel
theorem d_Law_law_283 : decode code 283 = .ok (.invokevirtual 27, 3) := by decide +kernel
theorem d_Law_law_286 : decode code 286 = .ok (.if_icmp .eq (1065), 3) := by decide +kernel
theorem d_Law_law_289 : decode code 289 = .ok (.iconst 0, 1) := by decide +kernel
theorem d_Law_law_290 : decode code 290 = .ok (.ireturn, 1) := by decide +kernel
theorem d_Law_law_291 : decode code 291 = .ok (.aload_n 1, 1) := by decide +kernel
theorem d_Law_law_292 : decode code 292 = .ok (.aload_n 0, 1) := by decide +kernel
theorem d_Law_law_293 : decode code 293 = .ok (.iload_n 3, 1) := by decide +kernel
theorem d_Law_law_294 : decode code 294 = .ok (.iconst 1, 1) := by decide +kernel
theorem d_Law_law_295 : decode code 295 = .ok (.iadd, 1) := by decide +kernel
theorem d_Law_law_296 : decode code 296 = .ok (.iaload, 1) := by decide +kernel
theorem d_Law_law_297 : decode code 297 = .ok (.aload_n 0, 1) := by decide +kernel
theorem d_Law_law_298 : decode code 298 = .ok (.iload_n 3, 1) := by decide +kernel
theorem d_Law_law_299 : decode code 299 = .ok (.iconst 2, 1) := by decide +kernel
theorem d_Law_law_300 : decode code 300 = .ok (.iadd, 1) := by decide +kernel
theorem d_Law_law_301 : decode code 301 = .ok (.iaload, 1) := by decide +kernel
theorem d_Law_law_302 : decode code 302 = .ok (.aload_n 0, 1) := by decide +kernel
theorem d_Law_law_303 : decode code 303 = .ok (.iload_n 3, 1) := by decide +kernel
theorem d_Law_law_304 : decode code 304 = .ok (.iconst 3, 1) := by decide +kernel
theorem d_Law_law_305 : decode code 305 = .ok (.iadd, 1) := by decide +kernel
theorem d_Law_law_306 : decode code 306 = .ok (.iaload, 1) := by decide +kernel
theorem d_Law_law_307 : decode code 307 = .ok (.invokevirtual 28, 3) := by decide +kernel
theorem d_Law_law_310 : decode code 310 = .ok (.aload_n 2, 1) := by decide +kernel
theorem d_Law_law_311 : decode code 311 = .ok (.aload_n 0, 1) := by decide +kernel
theorem d_Law_law_312 : decode code 312 = .ok (.iload_n 3, 1) := by decide +kernel
theorem d_Law_law_313 : decode code 313 = .ok (.iconst 1, 1) := by decide +kernel
theorem d_Law_law_314 : decode code 314 = .ok (.iadd, 1) := by decide +kernel
theorem d_Law_law_315 : decode code 315 = .ok (.iaload, 1) := by decide +kernel
theorem d_Law_law_316 : decode code 316 = .ok (.aload_n 0, 1) := by decide +kernel
theorem d_Law_law_317 : decode code 317 = .ok (.iload_n 3, 1) := by decide +kernel
theorem d_Law_law_318 : decode code 318 = .ok (.iconst 2, 1) := by decide +kernel
theorem d_Law_law_319 : decode code 319 = .ok (.iadd, 1) := by decide +kernel
theorem d_Law_law_320 : decode code 320 = .ok (.iaload, 1) := by decide +kernel
theorem d_Law_law_321 : decode code 321 = .ok (.aload_n 0, 1) := by decide +kernel
theorem d_Law_law_322 : decode code 322 = .ok (.iload_n 3, 1) := by decide +kernel
theorem d_Law_law_323 : decode code 323 = .ok (.iconst 3, 1) := by decide +kernel
theorem d_Law_law_324 : decode code 324 = .ok (.iadd, 1) := by decide +kernel
theorem d_Law_law_325 : decode code 325 = .ok (.iaload, 1) := by decide +kernel
theorem d_Law_law_326 : decode code 326 = .ok (.invokevirtual 31, 3) := by decide +kernel
theorem d_Law_law_329 : decode code 329 = .ok (.if_icmp .eq (1022), 3) := by decide +kernel
theorem d_Law_law_332 : decode code 332 = .ok (.iconst 0, 1) := by decide +kernel
theorem d_Law_law_333 : decode code 333 = .ok (.ireturn, 1) := by decide +kernel
theorem d_Law_law_334 : decode code 334 = .ok (.aload_n 1, 1) := by decide +kernel
theorem d_Law_law_335 : decode code 335 = .ok (.aload_n 0, 1) := by decide +kernel
theorem d_Law_law_336 : decode code 336 = .ok (.iload_n 3, 1) := by decide +kernel
theorem d_Law_law_337 : decode code 337 = .ok (.iconst 1, 1) := by decide +kernel
theorem d_Law_law_338 : decode code 338 = .ok (.iadd, 1) := by decide +kernel
theorem d_Law_law_339 : decode code 339 = .ok (.iaload, 1) := by decide +kernel
theorem d_Law_law_340 : decode code 340 = .ok (.aload_n 0, 1) := by decide +kernel
theorem d_Law_law_341 : decode code 341 = .ok (.iload_n 3, 1) := by decide +kernel
theorem d_Law_law_342 : decode code 342 = .ok (.iconst 2, 1) := by decide +kernel
theorem d_Law_law_343 : decode code 343 = .ok (.iadd, 1) := by decide +kernel
theorem d_Law_law_344 : decode code 344 = .ok (.iaload, 1) := by decide +kernel
theorem d_Law_law_345 : decode code 345 = .ok (.invokevirtual 32, 3) := by decide +kernel
theorem d_Law_law_348 : decode code 348 = .ok (.aload_n 2, 1) := by decide +kernel
theorem d_Law_law_349 : decode code 349 = .ok (.aload_n 0, 1) := by decide +kernel
theorem d_Law_law_350 : decode code 350 = .ok (.iload_n 3, 1) := by decide +kernel
theorem d_Law_law_351 : decode code 351 = .ok (.iconst 1, 1) := by decide +kernel
theorem d_Law_law_352 : decode code 352 = .ok (.iadd, 1) := by decide +kernel
theorem d_Law_law_353 : decode code 353 = .ok (.iaload, 1) := by decide +kernel
theorem d_Law_law_354 : decode code 354 = .ok (.aload_n 0, 1) := by decide +kernel
theorem d_Law_law_355 : decode code 355 = .ok (.iload_n 3, 1) := by decide +kernel
theorem d_Law_law_356 : decode code 356 = .ok (.iconst 2, 1) := by decide +kernel
theorem d_Law_law_357 : decode code 357 = .ok (.iadd, 1) := by decide +kernel
theorem d_Law_law_358 : decode code 358 = .ok (.iaload, 1) := by decide +kernel
theorem d_Law_law_359 : decode code 359 = .ok (.invokevirtual 35, 3) := by decide +kernel
theorem d_Law_law_362 : decode code 362 = .ok (.if_icmp .eq (989), 3) := by decide +kernel
theorem d_Law_law_365 : decode code 365 = .ok (.iconst 0, 1) := by decide +kernel
theorem d_Law_law_366 : decode code 366 = .ok (.ireturn, 1) := by decide +kernel
theorem d_Law_law_367 : decode code 367 = .ok (.aload_n 1, 1) := by decide +kernel
theorem d_Law_law_368 : decode code 368 = .ok (.aload_n 0, 1) := by decide +kernel
theorem d_Law_law_369 : decode code 369 = .ok (.iload_n 3, 1) := by decide +kernel
theorem d_Law_law_370 : decode code 370 = .ok (.iconst 1, 1) := by decide +kernel
theorem d_Law_law_371 : decode code 371 = .ok (.iadd, 1) := by decide +kernel
theorem d_Law_law_372 : decode code 372 = .ok (.iaload, 1) := by decide +kernel
theorem d_Law_law_373 : decode code 373 = .ok (.invokevirtual 36, 3) := by decide +kernel
theorem d_Law_law_376 : decode code 376 = .ok (.aload_n 2, 1) := by decide +kernel
theorem d_Law_law_377 : decode code 377 = .ok (.aload_n 0, 1) := by decide +kernel
theorem d_Law_law_378 : decode code 378 = .ok (.iload_n 3, 1) := by decide +kernel
theorem d_Law_law_379 : decode code 379 = .ok (.iconst 1, 1) := by decide +kernel
theorem d_Law_law_380 : decode code 380 = .ok (.iadd, 1) := by decide +kernel
theorem d_Law_law_381 : decode code 381 = .ok (.iaload, 1) := by decide +kernel
theorem d_Law_law_382 : decode code 382 = .ok (.invokevirtual 39, 3) := by decide +kernel
theorem d_Law_law_385 : decode code 385 = .ok (.if_icmp .eq (966), 3) := by decide +kernel
theorem d_Law_law_388 : decode code 388 = .ok (.iconst 0, 1) := by decide +kernel
theorem d_Law_law_389 : decode code 389 = .ok (.ireturn, 1) := by decide +kernel
theorem d_Law_law_390 : decode code 390 = .ok (.aload_n 1, 1) := by decide +kernel
theorem d_Law_law_391 : decode code 391 = .ok (.invokevirtual 40, 3) := by decide +kernel
theorem d_Law_law_394 : decode code 394 = .ok (.aload_n 2, 1) := by decide +kernel
theorem d_Law_law_395 : decode code 395 = .ok (.invokevirtual 44, 3) := by decide +kernel
theorem d_Law_law_398 : decode code 398 = .ok (.if_icmp .eq (953), 3) := by decide +kernel
theorem d_Law_law_401 : decode code 401 = .ok (.iconst 0, 1) := by decide +kernel
theorem d_Law_law_402 : decode code 402 = .ok (.ireturn, 1) := by decide +kernel
theorem d_Law_law_403 : decode code 403 = .ok (.aload_n 1, 1) := by decide +kernel
theorem d_Law_law_404 : decode code 404 = .ok (.invokevirtual 45, 3) := by decide +kernel
theorem d_Law_law_407 : decode code 407 = .ok (.aload_n 2, 1) := by decide +kernel
theorem d_Law_law_408 : decode code 408 = .ok (.invokevirtual 48, 3) := by decide +kernel
theorem d_Law_law_411 : decode code 411 = .ok (.if_icmp .eq (940), 3) := by decide +kernel
theorem d_Law_law_414 : decode code 414 = .ok (.iconst 0, 1) := by decide +kernel
theorem d_Law_law_415 : decode code 415 = .ok (.ireturn, 1) := by decide +kernel
theorem d_Law_law_416 : decode code 416 = .ok (.aload_n 1, 1) := by decide +kernel
theorem d_Law_law_417 : decode code 417 = .ok (.aload_n 0, 1) := by decide +kernel
theorem d_Law_law_418 : decode code 418 = .ok (.iload_n 3, 1) := by decide +kernel
theorem d_Law_law_419 : decode code 419 = .ok (.iconst 1, 1) := by decide +kernel
theorem d_Law_law_420 : decode code 420 = .ok (.iadd, 1) := by decide +kernel
theorem d_Law_law_421 : decode code 421 = .ok (.iaload, 1) := by decide +kernel
theorem d_Law_law_422 : decode code 422 = .ok (.invokevirtual 49, 3) := by decide +kernel
theorem d_Law_law_425 : decode code 425 = .ok (.aload_n 2, 1) := by decide +kernel
theorem d_Law_law_426 : decode code 426 = .ok (.aload_n 0, 1) := by decide +kernel
theorem d_Law_law_427 : decode code 427 = .ok (.iload_n 3, 1) := by decide +kernel
theorem d_Law_law_428 : decode code 428 = .ok (.iconst 1, 1) := by decide +kernel
theorem d_Law_law_429 : decode code 429 = .ok (.iadd, 1) := by decide +kernel
theorem d_Law_law_430 : decode code 430 = .ok (.iaload, 1) := by decide +kernel
theorem d_Law_law_431 : decode code 431 = .ok (.invokevirtual 52, 3) := by decide +kernel
theorem d_Law_law_434 : decode code 434 = .ok (.if_icmp .eq (917), 3) := by decide +kernel
theorem d_Law_law_437 : decode code 437 = .ok (.iconst 0, 1) := by decide +kernel
theorem d_Law_law_438 : decode code 438 = .ok (.ireturn, 1) := by decide +kernel
theorem d_Law_law_439 : decode code 439 = .ok (.aload_n 1, 1) := by decide +kernel
theorem d_Law_law_440 : decode code 440 = .ok (.aload_n 0, 1) := by decide +kernel
theorem d_Law_law_441 : decode code 441 = .ok (.iload_n 3, 1) := by decide +kernel
theorem d_Law_law_442 : decode code 442 = .ok (.iconst 1, 1) := by decide +kernel
theorem d_Law_law_443 : decode code 443 = .ok (.iadd, 1) := by decide +kernel
theorem d_Law_law_444 : decode code 444 = .ok (.iaload, 1) := by decide +kernel
theorem d_Law_law_445 : decode code 445 = .ok (.aload_n 0, 1) := by decide +kernel
theorem d_Law_law_446 : decode code 446 = .ok (.iload_n 3, 1) := by decide +kernel
theorem d_Law_law_447 : decode code 447 = .ok (.iconst 2, 1) := by decide +kernel
theorem d_Law_law_448 : decode code 448 = .ok (.iadd, 1) := by decide +kernel
theorem d_Law_law_449 : decode code 449 = .ok (.iaload, 1) := by decide +kernel
theorem d_Law_law_450 : decode code 450 = .ok (.aload_n 0, 1) := by decide +kernel
theorem d_Law_law_451 : decode code 451 = .ok (.iload_n 3, 1) := by decide +kernel
theorem d_Law_law_452 : decode code 452 = .ok (.iconst 3, 1) := by decide +kernel
theorem d_Law_law_453 : decode code 453 = .ok (.iadd, 1) := by decide +kernel
theorem d_Law_law_454 : decode code 454 = .ok (.iaload, 1) := by decide +kernel
theorem d_Law_law_455 : decode code 455 = .ok (.invokevirtual 53, 3) := by decide +kernel
theorem d_Law_law_458 : decode code 458 = .ok (.aload_n 2, 1) := by decide +kernel
theorem d_Law_law_459 : decode code 459 = .ok (.aload_n 0, 1) := by decide +kernel
theorem d_Law_law_460 : decode code 460 = .ok (.iload_n 3, 1) := by decide +kernel
theorem d_Law_law_461 : decode code 461 = .ok (.iconst 1, 1) := by decide +kernel
theorem d_Law_law_462 : decode code 462 = .ok (.iadd, 1) := by decide +kernel
theorem d_Law_law_463 : decode code 463 = .ok (.iaload, 1) := by decide +kernel
theorem d_Law_law_464 : decode code 464 = .ok (.aload_n 0, 1) := by decide +kernel
theorem d_Law_law_465 : decode code 465 = .ok (.iload_n 3, 1) := by decide +kernel
theorem d_Law_law_466 : decode code 466 = .ok (.iconst 2, 1) := by decide +kernel
theorem d_Law_law_467 : decode code 467 = .ok (.iadd, 1) := by decide +kernel
theorem d_Law_law_468 : decode code 468 = .ok (.iaload, 1) := by decide +kernel
theorem d_Law_law_469 : decode code 469 = .ok (.aload_n 0, 1) := by decide +kernel
theorem d_Law_law_470 : decode code 470 = .ok (.iload_n 3, 1) := by decide +kernel
theorem d_Law_law_471 : decode code 471 = .ok (.iconst 3, 1) := by decide +kernel
theorem d_Law_law_472 : decode code 472 = .ok (.iadd, 1) := by decide +kernel
theorem d_Law_law_473 : decode code 473 = .ok (.iaload, 1) := by decide +kernel
theorem d_Law_law_474 : decode code 474 = .ok (.invokevirtual 56, 3) := by decide +kernel
theorem d_Law_law_477 : decode code 477 = .ok (.if_icmp .eq (874), 3) := by decide +kernel
theorem d_Law_law_480 : decode code 480 = .ok (.iconst 0, 1) := by decide +kernel
theorem d_Law_law_481 : decode code 481 = .ok (.ireturn, 1) := by decide +kernel
theorem d_Law_law_482 : decode code 482 = .ok (.aload_n 1, 1) := by decide +kernel
theorem d_Law_law_483 : decode code 483 = .ok (.aload_n 0, 1) := by decide +kernel
theorem d_Law_law_484 : decode code 484 = .ok (.iload_n 3, 1) := by decide +kernel
theorem d_Law_law_485 : decode code 485 = .ok (.iconst 1, 1) := by decide +kernel
theorem d_Law_law_486 : decode code 486 = .ok (.iadd, 1) := by decide +kernel
theorem d_Law_law_487 : decode code 487 = .ok (.iaload, 1) := by decide +kernel
theorem d_Law_law_488 : decode code 488 = .ok (.aload_n 0, 1) := by decide +kernel
theorem d_Law_law_489 : decode code 489 = .ok (.iload_n 3, 1) := by decide +kernel
theorem d_Law_law_490 : decode code 490 = .ok (.iconst 2, 1) := by decide +kernel
theorem d_Law_law_491 : decode code 491 = .ok (.iadd, 1) := by decide +kernel
theorem d_Law_law_492 : decode code 492 = .ok (.iaload, 1) := by decide +kernel
theorem d_Law_law_493 : decode code 493 = .ok (.aload_n 0, 1) := by decide +kernel
theorem d_Law_law_494 : decode code 494 = .ok (.iload_n 3, 1) := by decide +kernel
theorem d_Law_law_495 : decode code 495 = .ok (.iconst 3, 1) := by decide +kernel
theorem d_Law_law_496 : decode code 496 = .ok (.iadd, 1) := by decide +kernel
theorem d_Law_law_497 : decode code 497 = .ok (.iaload, 1) := by decide +kernel
theorem d_Law_law_498 : decode code 498 = .ok (.invokevirtual 57, 3) := by decide +kernel
theorem d_Law_law_501 : decode code 501 = .ok (.aload_n 2, 1) := by decide +kernel
theorem d_Law_law_502 : decode code 502 = .ok (.aload_n 0, 1) := by decide +kernel
theorem d_Law_law_503 : decode code 503 = .ok (.iload_n 3, 1) := by decide +kernel
theorem d_Law_law_504 : decode code 504 = .ok (.iconst 1, 1) := by decide +kernel
theorem d_Law_law_505 : decode code 505 = .ok (.iadd, 1) := by decide +kernel
theorem d_Law_law_506 : decode code 506 = .ok (.iaload, 1) := by decide +kernel
theorem d_Law_law_507 : decode code 507 = .ok (.aload_n 0, 1) := by decide +kernel
theorem d_Law_law_508 : decode code 508 = .ok (.iload_n 3, 1) := by decide +kernel
theorem d_Law_law_509 : decode code 509 = .ok (.iconst 2, 1) := by decide +kernel
theorem d_Law_law_510 : decode code 510 = .ok (.iadd, 1) := by decide +kernel
theorem d_Law_law_511 : decode code 511 = .ok (.iaload, 1) := by decide +kernel
theorem d_Law_law_512 : decode code 512 = .ok (.aload_n 0, 1) := by decide +kernel
theorem d_Law_law_513 : decode code 513 = .ok (.iload_n 3, 1) := by decide +kernel
theorem d_Law_law_514 : decode code 514 = .ok (.iconst 3, 1) := by decide +kernel
theorem d_Law_law_515 : decode code 515 = .ok (.iadd, 1) := by decide +kernel
theorem d_Law_law_516 : decode code 516 = .ok (.iaload, 1) := by decide +kernel
theorem d_Law_law_517 : decode code 517 = .ok (.invokevirtual 60, 3) := by decide +kernel
theorem d_Law_law_520 : decode code 520 = .ok (.if_icmp .eq (831), 3) := by decide +kernel
theorem d_Law_law_523 : decode code 523 = .ok (.iconst 0, 1) := by decide +kernel
theorem d_Law_law_524 : decode code 524 = .ok (.ireturn, 1) := by decide +kernel
theorem d_Law_law_525 : decode code 525 = .ok (.aload_n 1, 1) := by decide +kernel
theorem d_Law_law_526 : decode code 526 = .ok (.invokevirtual 61, 3) := by decide +kernel
theorem d_Law_law_529 : decode code 529 = .ok (.aload_n 2, 1) := by decide +kernel
theorem d_Law_law_530 : decode code 530 = .ok (.invokevirtual 64, 3) := by decide +kernel
theorem d_Law_law_533 : decode code 533 = .ok (.if_icmp .eq (818), 3) := by decide +kernel
theorem d_Law_law_536 : decode code 536 = .ok (.iconst 0, 1) := by decide +kernel
theorem d_Law_law_537 : decode code 537 = .ok (.ireturn, 1) := by decide +kernel
theorem d_Law_law_538 : decode code 538 = .ok (.aload_n 1, 1) := by decide +kernel
theorem d_Law_law_539 : decode code 539 = .ok (.aload_n 0, 1) := by decide +kernel
theorem d_Law_law_540 : decode code 540 = .ok (.iload_n 3, 1) := by decide +kernel
theorem d_Law_law_541 : decode code 541 = .ok (.iconst 1, 1) := by decide +kernel
theorem d_Law_law_542 : decode code 542 = .ok (.iadd, 1) := by decide +kernel
theorem d_Law_law_543 : decode code 543 = .ok (.iaload, 1) := by decide +kernel
theorem d_Law_law_544 : decode code 544 = .ok (.aload_n 0, 1) := by decide +kernel
theorem d_Law_law_545 : decode code 545 = .ok (.iload_n 3, 1) := by decide +kernel
theorem d_Law_law_546 : decode code 546 = .ok (.iconst 2, 1) := by decide +kernel
theorem d_Law_law_547 : decode code 547 = .ok (.iadd, 1) := by decide +kernel
theorem d_Law_law_548 : decode code 548 = .ok (.iaload, 1) := by decide +kernel
theorem d_Law_law_549 : decode code 549 = .ok (.invokevirtual 65, 3) := by decide +kernel
theorem d_Law_law_552 : decode code 552 = .ok (.aload_n 2, 1) := by decide +kernel
theorem d_Law_law_553 : decode code 553 = .ok (.aload_n 0, 1) := by decide +kernel
theorem d_Law_law_554 : decode code 554 = .ok (.iload_n 3, 1) := by decide +kernel
theorem d_Law_law_555 : decode code 555 = .ok (.iconst 1, 1) := by decide +kernel
theorem d_Law_law_556 : decode code 556 = .ok (.iadd, 1) := by decide +kernel
theorem d_Law_law_557 : decode code 557 = .ok (.iaload, 1) := by decide +kernel
theorem d_Law_law_558 : decode code 558 = .ok (.aload_n 0, 1) := by decide +kernel
theorem d_Law_law_559 : decode code 559 = .ok (.iload_n 3, 1) := by decide +kernel
theorem d_Law_law_560 : decode code 560 = .ok (.iconst 2, 1) := by decide +kernel
theorem d_Law_law_561 : decode code 561 = .ok (.iadd, 1) := by decide +kernel
theorem d_Law_law_562 : decode code 562 = .ok (.iaload, 1) := by decide +kernel
theorem d_Law_law_563 : decode code 563 = .ok (.invokevirtual 68, 3) := by decide +kernel
theorem d_Law_law_566 : decode code 566 = .ok (.if_icmp .eq (785), 3) := by decide +kernel
theorem d_Law_law_569 : decode code 569 = .ok (.iconst 0, 1) := by decide +kernel
theorem d_Law_law_570 : decode code 570 = .ok (.ireturn, 1) := by decide +kernel
theorem d_Law_law_571 : decode code 571 = .ok (.aload_n 1, 1) := by decide +kernel
theorem d_Law_law_572 : decode code 572 = .ok (.aload_n 0, 1) := by decide +kernel
theorem d_Law_law_573 : decode code 573 = .ok (.iload_n 3, 1) := by decide +kernel
theorem d_Law_law_574 : decode code 574 = .ok (.iconst 1, 1) := by decide +kernel
theorem d_Law_law_575 : decode code 575 = .ok (.iadd, 1) := by decide +kernel
theorem d_Law_law_576 : decode code 576 = .ok (.iaload, 1) := by decide +kernel
theorem d_Law_law_577 : decode code 577 = .ok (.aload_n 0, 1) := by decide +kernel
theorem d_Law_law_578 : decode code 578 = .ok (.iload_n 3, 1) := by decide +kernel
theorem d_Law_law_579 : decode code 579 = .ok (.iconst 2, 1) := by decide +kernel
theorem d_Law_law_580 : decode code 580 = .ok (.iadd, 1) := by decide +kernel
theorem d_Law_law_581 : decode code 581 = .ok (.iaload, 1) := by decide +kernel
theorem d_Law_law_582 : decode code 582 = .ok (.aload_n 0, 1) := by decide +kernel
theorem d_Law_law_583 : decode code 583 = .ok (.iload_n 3, 1) := by decide +kernel
theorem d_Law_law_584 : decode code 584 = .ok (.iconst 3, 1) := by decide +kernel
theorem d_Law_law_585 : decode code 585 = .ok (.iadd, 1) := by decide +kernel
theorem d_Law_law_586 : decode code 586 = .ok (.iaload, 1) := by decide +kernel
theorem d_Law_law_587 : decode code 587 = .ok (.invokevirtual 69, 3) := by decide +kernel
theorem d_Law_law_590 : decode code 590 = .ok (.aload_n 2, 1) := by decide +kernel
theorem d_Law_law_591 : decode code 591 = .ok (.aload_n 0, 1) := by decide +kernel
theorem d_Law_law_592 : decode code 592 = .ok (.iload_n 3, 1) := by decide +kernel
theorem d_Law_law_593 : decode code 593 = .ok (.iconst 1, 1) := by decide +kernel
theorem d_Law_law_594 : decode code 594 = .ok (.iadd, 1) := by decide +kernel
theorem d_Law_law_595 : decode code 595 = .ok (.iaload, 1) := by decide +kernel
theorem d_Law_law_596 : decode code 596 = .ok (.aload_n 0, 1) := by decide +kernel
theorem d_Law_law_597 : decode code 597 = .ok (.iload_n 3, 1) := by decide +kernel
theorem d_Law_law_598 : decode code 598 = .ok (.iconst 2, 1) := by decide +kernel
theorem d_Law_law_599 : decode code 599 = .ok (.iadd, 1) := by decide +kernel
theorem d_Law_law_600 : decode code 600 = .ok (.iaload, 1) := by decide +kernel
theorem d_Law_law_601 : decode code 601 = .ok (.aload_n 0, 1) := by decide +kernel
theorem d_Law_law_602 : decode code 602 = .ok (.iload_n 3, 1) := by decide +kernel
theorem d_Law_law_603 : decode code 603 = .ok (.iconst 3, 1) := by decide +kernel
theorem d_Law_law_604 : decode code 604 = .ok (.iadd, 1) := by decide +kernel
theorem d_Law_law_605 : decode code 605 = .ok (.iaload, 1) := by decide +kernel
theorem d_Law_law_606 : decode code 606 = .ok (.invokevirtual 72, 3) := by decide +kernel
theorem d_Law_law_609 : decode code 609 = .ok (.if_icmp .eq (742), 3) := by decide +kernel
theorem d_Law_law_612 : decode code 612 = .ok (.iconst 0, 1) := by decide +kernel
theorem d_Law_law_613 : decode code 613 = .ok (.ireturn, 1) := by decide +kernel
theorem d_Law_law_614 : decode code 614 = .ok (.aload_n 1, 1) := by decide +kernel
theorem d_Law_law_615 : decode code 615 = .ok (.aload_n 0, 1) := by decide +kernel
theorem d_Law_law_616 : decode code 616 = .ok (.iload_n 3, 1) := by decide +kernel
theorem d_Law_law_617 : decode code 617 = .ok (.iconst 1, 1) := by decide +kernel
theorem d_Law_law_618 : decode code 618 = .ok (.iadd, 1) := by decide +kernel
theorem d_Law_law_619 : decode code 619 = .ok (.iaload, 1) := by decide +kernel
theorem d_Law_law_620 : decode code 620 = .ok (.aload_n 0, 1) := by decide +kernel
theorem d_Law_law_621 : decode code 621 = .ok (.iload_n 3, 1) := by decide +kernel
theorem d_Law_law_622 : decode code 622 = .ok (.iconst 2, 1) := by decide +kernel
theorem d_Law_law_623 : decode code 623 = .ok (.iadd, 1) := by decide +kernel
theorem d_Law_law_624 : decode code 624 = .ok (.iaload, 1) := by decide +kernel
theorem d_Law_law_625 : decode code 625 = .ok (.invokevirtual 73, 3) := by decide +kernel
theorem d_Law_law_628 : decode code 628 = .ok (.aload_n 2, 1) := by decide +kernel
theorem d_Law_law_629 : decode code 629 = .ok (.aload_n 0, 1) := by decide +kernel
theorem d_Law_law_630 : decode code 630 = .ok (.iload_n 3, 1) := by decide +kernel
theorem d_Law_law_631 : decode code 631 = .ok (.iconst 1, 1) := by decide +kernel
theorem d_Law_law_632 : decode code 632 = .ok (.iadd, 1) := by decide +kernel
theorem d_Law_law_633 : decode code 633 = .ok (.iaload, 1) := by decide +kernel
theorem d_Law_law_634 : decode code 634 = .ok (.aload_n 0, 1) := by decide +kernel
theorem d_Law_law_635 : decode code 635 = .ok (.iload_n 3, 1) := by decide +kernel
theorem d_Law_law_636 : decode code 636 = .ok (.iconst 2, 1) := by decide +kernel
theorem d_Law_law_637 : decode code 637 = .ok (.iadd, 1) := by decide +kernel
theorem d_Law_law_638 : decode code 638 = .ok (.iaload, 1) := by decide +kernel
theorem d_Law_law_639 : decode code 639 = .ok (.invokevirtual 76, 3) := by decide +kernel
theorem d_Law_law_642 : decode code 642 = .ok (.if_icmp .eq (709), 3) := by decide +kernel
theorem d_Law_law_645 : decode code 645 = .ok (.iconst 0, 1) := by decide +kernel
theorem d_Law_law_646 : decode code 646 = .ok (.ireturn, 1) := by decide +kernel
theorem d_Law_law_647 : decode code 647 = .ok (.aload_n 1, 1) := by decide +kernel
theorem d_Law_law_648 : decode code 648 = .ok (.aload_n 0, 1) := by decide +kernel
theorem d_Law_law_649 : decode code 649 = .ok (.iload_n 3, 1) := by decide +kernel
theorem d_Law_law_650 : decode code 650 = .ok (.iconst 1, 1) := by decide +kernel
theorem d_Law_law_651 : decode code 651 = .ok (.iadd, 1) := by decide +kernel
theorem d_Law_law_652 : decode code 652 = .ok (.iaload, 1) := by decide +kernel
theorem d_Law_law_653 : decode code 653 = .ok (.aload_n 0, 1) := by decide +kernel
theorem d_Law_law_654 : decode code 654 = .ok (.iload_n 3, 1) := by decide +kernel
theorem d_Law_law_655 : decode code 655 = .ok (.iconst 2, 1) := by decide +kernel
theorem d_Law_law_656 : decode code 656 = .ok (.iadd, 1) := by decide +kernel
theorem d_Law_law_657 : decode code 657 = .ok (.iaload, 1) := by decide +kernel
theorem d_Law_law_658 : decode code 658 = .ok (.invokevirtual 77, 3) := by decide +kernel
theorem d_Law_law_661 : decode code 661 = .ok (.aload_n 2, 1) := by decide +kernel
theorem d_Law_law_662 : decode code 662 = .ok (.aload_n 0, 1) := by decide +kernel
theorem d_Law_law_663 : decode code 663 = .ok (.iload_n 3, 1) := by decide +kernel
theorem d_Law_law_664 : decode code 664 = .ok (.iconst 1, 1) := by decide +kernel
theorem d_Law_law_665 : decode code 665 = .ok (.iadd, 1) := by decide +kernel
theorem d_Law_law_666 : decode code 666 = .ok (.iaload, 1) := by decide +kernel
theorem d_Law_law_667 : decode code 667 = .ok (.aload_n 0, 1) := by decide +kernel
theorem d_Law_law_668 : decode code 668 = .ok (.iload_n 3, 1) := by decide +kernel
theorem d_Law_law_669 : decode code 669 = .ok (.iconst 2, 1) := by decide +kernel
theorem d_Law_law_670 : decode code 670 = .ok (.iadd, 1) := by decide +kernel
theorem d_Law_law_671 : decode code 671 = .ok (.iaload, 1) := by decide +kernel
theorem d_Law_law_672 : decode code 672 = .ok (.invokevirtual 80, 3) := by decide +kernel
theorem d_Law_law_675 : decode code 675 = .ok (.if_icmp .eq (676), 3) := by decide +kernel
theorem d_Law_law_678 : decode code 678 = .ok (.iconst 0, 1) := by decide +kernel
theorem d_Law_law_679 : decode code 679 = .ok (.ireturn, 1) := by decide +kernel
theorem d_Law_law_680 : decode code 680 = .ok (.aload_n 1, 1) := by decide +kernel
theorem d_Law_law_681 : decode code 681 = .ok (.aload_n 0, 1) := by decide +kernel
theorem d_Law_law_682 : decode code 682 = .ok (.iload_n 3, 1) := by decide +kernel
theorem d_Law_law_683 : decode code 683 = .ok (.iconst 1, 1) := by decide +kernel
theorem d_Law_law_684 : decode code 684 = .ok (.iadd, 1) := by decide +kernel
theorem d_Law_law_685 : decode code 685 = .ok (.iaload, 1) := by decide +kernel
theorem d_Law_law_686 : decode code 686 = .ok (.invokevirtual 81, 3) := by decide +kernel
theorem d_Law_law_689 : decode code 689 = .ok (.aload_n 2, 1) := by decide +kernel
theorem d_Law_law_690 : decode code 690 = .ok (.aload_n 0, 1) := by decide +kernel
theorem d_Law_law_691 : decode code 691 = .ok (.iload_n 3, 1) := by decide +kernel
theorem d_Law_law_692 : decode code 692 = .ok (.iconst 1, 1) := by decide +kernel
theorem d_Law_law_693 : decode code 693 = .ok (.iadd, 1) := by decide +kernel
theorem d_Law_law_694 : decode code 694 = .ok (.iaload, 1) := by decide +kernel
theorem d_Law_law_695 : decode code 695 = .ok (.invokevirtual 84, 3) := by decide +kernel
theorem d_Law_law_698 : decode code 698 = .ok (.if_icmp .eq (653), 3) := by decide +kernel
theorem d_Law_law_701 : decode code 701 = .ok (.iconst 0, 1) := by decide +kernel
theorem d_Law_law_702 : decode code 702 = .ok (.ireturn, 1) := by decide +kernel
theorem d_Law_law_703 : decode code 703 = .ok (.aload_n 1, 1) := by decide +kernel
theorem d_Law_law_704 : decode code 704 = .ok (.aload_n 0, 1) := by decide +kernel
theorem d_Law_law_705 : decode code 705 = .ok (.iload_n 3, 1) := by decide +kernel
theorem d_Law_law_706 : decode code 706 = .ok (.iconst 1, 1) := by decide +kernel
theorem d_Law_law_707 : decode code 707 = .ok (.iadd, 1) := by decide +kernel
theorem d_Law_law_708 : decode code 708 = .ok (.iaload, 1) := by decide +kernel
theorem d_Law_law_709 : decode code 709 = .ok (.aload_n 0, 1) := by decide +kernel
theorem d_Law_law_710 : decode code 710 = .ok (.iload_n 3, 1) := by decide +kernel
theorem d_Law_law_711 : decode code 711 = .ok (.iconst 2, 1) := by decide +kernel
theorem d_Law_law_712 : decode code 712 = .ok (.iadd, 1) := by decide +kernel
theorem d_Law_law_713 : decode code 713 = .ok (.iaload, 1) := by decide +kernel
theorem d_Law_law_714 : decode code 714 = .ok (.invokevirtual 85, 3) := by decide +kernel
theorem d_Law_law_717 : decode code 717 = .ok (.aload_n 2, 1) := by decide +kernel
theorem d_Law_law_718 : decode code 718 = .ok (.aload_n 0, 1) := by decide +kernel
theorem d_Law_law_719 : decode code 719 = .ok (.iload_n 3, 1) := by decide +kernel
theorem d_Law_law_720 : decode code 720 = .ok (.iconst 1, 1) := by decide +kernel
theorem d_Law_law_721 : decode code 721 = .ok (.iadd, 1) := by decide +kernel
theorem d_Law_law_722 : decode code 722 = .ok (.iaload, 1) := by decide +kernel
theorem d_Law_law_723 : decode code 723 = .ok (.aload_n 0, 1) := by decide +kernel
theorem d_Law_law_724 : decode code 724 = .ok (.iload_n 3, 1) := by decide +kernel
theorem d_Law_law_725 : decode code 725 = .ok (.iconst 2, 1) := by decide +kernel
theorem d_Law_law_726 : decode code 726 = .ok (.iadd, 1) := by decide +kernel
theorem d_Law_law_727 : decode code 727 = .ok (.iaload, 1) := by decide +kernel
theorem d_Law_law_728 : decode code 728 = .ok (.invokevirtual 88, 3) := by decide +kernel
theorem d_Law_law_731 : decode code 731 = .ok (.if_icmp .eq (620), 3) := by decide +kernel
theorem d_Law_law_734 : decode code 734 = .ok (.iconst 0, 1) := by decide +kernel
theorem d_Law_law_735 : decode code 735 = .ok (.ireturn, 1) := by decide +kernel
theorem d_Law_law_736 : decode code 736 = .ok (.aload_n 1, 1) := by decide +kernel
theorem d_Law_law_737 : decode code 737 = .ok (.aload_n 0, 1) := by decide +kernel
theorem d_Law_law_738 : decode code 738 = .ok (.iload_n 3, 1) := by decide +kernel
theorem d_Law_law_739 : decode code 739 = .ok (.iconst 1, 1) := by decide +kernel
theorem d_Law_law_740 : decode code 740 = .ok (.iadd, 1) := by decide +kernel
theorem d_Law_law_741 : decode code 741 = .ok (.iaload, 1) := by decide +kernel
theorem d_Law_law_742 : decode code 742 = .ok (.aload_n 0, 1) := by decide +kernel
theorem d_Law_law_743 : decode code 743 = .ok (.iload_n 3, 1) := by decide +kernel
theorem d_Law_law_744 : decode code 744 = .ok (.iconst 2, 1) := by decide +kernel
theorem d_Law_law_745 : decode code 745 = .ok (.iadd, 1) := by decide +kernel
theorem d_Law_law_746 : decode code 746 = .ok (.iaload, 1) := by decide +kernel
theorem d_Law_law_747 : decode code 747 = .ok (.invokevirtual 89, 3) := by decide +kernel
theorem d_Law_law_750 : decode code 750 = .ok (.aload_n 2, 1) := by decide +kernel
theorem d_Law_law_751 : decode code 751 = .ok (.aload_n 0, 1) := by decide +kernel
theorem d_Law_law_752 : decode code 752 = .ok (.iload_n 3, 1) := by decide +kernel
theorem d_Law_law_753 : decode code 753 = .ok (.iconst 1, 1) := by decide +kernel
theorem d_Law_law_754 : decode code 754 = .ok (.iadd, 1) := by decide +kernel
theorem d_Law_law_755 : decode code 755 = .ok (.iaload, 1) := by decide +kernel
theorem d_Law_law_756 : decode code 756 = .ok (.aload_n 0, 1) := by decide +kernel
theorem d_Law_law_757 : decode code 757 = .ok (.iload_n 3, 1) := by decide +kernel
theorem d_Law_law_758 : decode code 758 = .ok (.iconst 2, 1) := by decide +kernel
theorem d_Law_law_759 : decode code 759 = .ok (.iadd, 1) := by decide +kernel
theorem d_Law_law_760 : decode code 760 = .ok (.iaload, 1) := by decide +kernel
theorem d_Law_law_761 : decode code 761 = .ok (.invokevirtual 92, 3) := by decide +kernel
theorem d_Law_law_764 : decode code 764 = .ok (.if_icmp .eq (587), 3) := by decide +kernel
theorem d_Law_law_767 : decode code 767 = .ok (.iconst 0, 1) := by decide +kernel
theorem d_Law_law_768 : decode code 768 = .ok (.ireturn, 1) := by decide +kernel
theorem d_Law_law_769 : decode code 769 = .ok (.aload_n 1, 1) := by decide +kernel
theorem d_Law_law_770 : decode code 770 = .ok (.aload_n 0, 1) := by decide +kernel
theorem d_Law_law_771 : decode code 771 = .ok (.iload_n 3, 1) := by decide +kernel
theorem d_Law_law_772 : decode code 772 = .ok (.iconst 1, 1) := by decide +kernel
theorem d_Law_law_773 : decode code 773 = .ok (.iadd, 1) := by decide +kernel
theorem d_Law_law_774 : decode code 774 = .ok (.iaload, 1) := by decide +kernel
theorem d_Law_law_775 : decode code 775 = .ok (.invokevirtual 93, 3) := by decide +kernel
theorem d_Law_law_778 : decode code 778 = .ok (.aload_n 2, 1) := by decide +kernel
theorem d_Law_law_779 : decode code 779 = .ok (.aload_n 0, 1) := by decide +kernel
theorem d_Law_law_780 : decode code 780 = .ok (.iload_n 3, 1) := by decide +kernel
theorem d_Law_law_781 : decode code 781 = .ok (.iconst 1, 1) := by decide +kernel
theorem d_Law_law_782 : decode code 782 = .ok (.iadd, 1) := by decide +kernel
theorem d_Law_law_783 : decode code 783 = .ok (.iaload, 1) := by decide +kernel
theorem d_Law_law_784 : decode code 784 = .ok (.invokevirtual 96, 3) := by decide +kernel
theorem d_Law_law_787 : decode code 787 = .ok (.if_icmp .eq (564), 3) := by decide +kernel
theorem d_Law_law_790 : decode code 790 = .ok (.iconst 0, 1) := by decide +kernel
theorem d_Law_law_791 : decode code 791 = .ok (.ireturn, 1) := by decide +kernel
theorem d_Law_law_792 : decode code 792 = .ok (.aload_n 1, 1) := by decide +kernel
theorem d_Law_law_793 : decode code 793 = .ok (.aload_n 0, 1) := by decide +kernel
theorem d_Law_law_794 : decode code 794 = .ok (.iload_n 3, 1) := by decide +kernel
theorem d_Law_law_795 : decode code 795 = .ok (.iconst 1, 1) := by decide +kernel
theorem d_Law_law_796 : decode code 796 = .ok (.iadd, 1) := by decide +kernel
theorem d_Law_law_797 : decode code 797 = .ok (.iaload, 1) := by decide +kernel
theorem d_Law_law_798 : decode code 798 = .ok (.invokevirtual 97, 3) := by decide +kernel
theorem d_Law_law_801 : decode code 801 = .ok (.aload_n 2, 1) := by decide +kernel
theorem d_Law_law_802 : decode code 802 = .ok (.aload_n 0, 1) := by decide +kernel
theorem d_Law_law_803 : decode code 803 = .ok (.iload_n 3, 1) := by decide +kernel
theorem d_Law_law_804 : decode code 804 = .ok (.iconst 1, 1) := by decide +kernel
theorem d_Law_law_805 : decode code 805 = .ok (.iadd, 1) := by decide +kernel
theorem d_Law_law_806 : decode code 806 = .ok (.iaload, 1) := by decide +kernel
theorem d_Law_law_807 : decode code 807 = .ok (.invokevirtual 100, 3) := by decide +kernel
theorem d_Law_law_810 : decode code 810 = .ok (.if_icmp .eq (541), 3) := by decide +kernel
theorem d_Law_law_813 : decode code 813 = .ok (.iconst 0, 1) := by decide +kernel
theorem d_Law_law_814 : decode code 814 = .ok (.ireturn, 1) := by decide +kernel
theorem d_Law_law_815 : decode code 815 = .ok (.aload_n 1, 1) := by decide +kernel
theorem d_Law_law_816 : decode code 816 = .ok (.aload_n 0, 1) := by decide +kernel
theorem d_Law_law_817 : decode code 817 = .ok (.iload_n 3, 1) := by decide +kernel
theorem d_Law_law_818 : decode code 818 = .ok (.iconst 1, 1) := by decide +kernel
theorem d_Law_law_819 : decode code 819 = .ok (.iadd, 1) := by decide +kernel
theorem d_Law_law_820 : decode code 820 = .ok (.iaload, 1) := by decide +kernel
theorem d_Law_law_821 : decode code 821 = .ok (.aload_n 0, 1) := by decide +kernel
theorem d_Law_law_822 : decode code 822 = .ok (.iload_n 3, 1) := by decide +kernel
theorem d_Law_law_823 : decode code 823 = .ok (.iconst 2, 1) := by decide +kernel
theorem d_Law_law_824 : decode code 824 = .ok (.iadd, 1) := by decide +kernel
theorem d_Law_law_825 : decode code 825 = .ok (.iaload, 1) := by decide +kernel
theorem d_Law_law_826 : decode code 826 = .ok (.aload_n 0, 1) := by decide +kernel
theorem d_Law_law_827 : decode code 827 = .ok (.iload_n 3, 1) := by decide +kernel
theorem d_Law_law_828 : decode code 828 = .ok (.iconst 3, 1) := by decide +kernel
theorem d_Law_law_829 : decode code 829 = .ok (.iadd, 1) := by decide +kernel
theorem d_Law_law_830 : decode code 830 = .ok (.iaload, 1) := by decide +kernel
theorem d_Law_law_831 : decode code 831 = .ok (.aload_n 0, 1) := by decide +kernel
theorem d_Law_law_832 : decode code 832 = .ok (.iload_n 3, 1) := by decide +kernel
theorem d_Law_law_833 : decode code 833 = .ok (.iconst 4, 1) := by decide +kernel
theorem d_Law_law_834 : decode code 834 = .ok (.iadd, 1) := by decide +kernel
theorem d_Law_law_835 : decode code 835 = .ok (.iaload, 1) := by decide +kernel
theorem d_Law_law_836 : decode code 836 = .ok (.invokevirtual 101, 3) := by decide +kernel
theorem d_Law_law_839 : decode code 839 = .ok (.aload_n 2, 1) := by decide +kernel
theorem d_Law_law_840 : decode code 840 = .ok (.aload_n 0, 1) := by decide +kernel
theorem d_Law_law_841 : decode code 841 = .ok (.iload_n 3, 1) := by decide +kernel
theorem d_Law_law_842 : decode code 842 = .ok (.iconst 1, 1) := by decide +kernel
theorem d_Law_law_843 : decode code 843 = .ok (.iadd, 1) := by decide +kernel
theorem d_Law_law_844 : decode code 844 = .ok (.iaload, 1) := by decide +kernel
theorem d_Law_law_845 : decode code 845 = .ok (.aload_n 0, 1) := by decide +kernel
theorem d_Law_law_846 : decode code 846 = .ok (.iload_n 3, 1) := by decide +kernel
theorem d_Law_law_847 : decode code 847 = .ok (.iconst 2, 1) := by decide +kernel
theorem d_Law_law_848 : decode code 848 = .ok (.iadd, 1) := by decide +kernel
theorem d_Law_law_849 : decode code 849 = .ok (.iaload, 1) := by decide +kernel
theorem d_Law_law_850 : decode code 850 = .ok (.aload_n 0, 1) := by decide +kernel
theorem d_Law_law_851 : decode code 851 = .ok (.iload_n 3, 1) := by decide +kernel
theorem d_Law_law_852 : decode code 852 = .ok (.iconst 3, 1) := by decide +kernel
theorem d_Law_law_853 : decode code 853 = .ok (.iadd, 1) := by decide +kernel
theorem d_Law_law_854 : decode code 854 = .ok (.iaload, 1) := by decide +kernel
theorem d_Law_law_855 : decode code 855 = .ok (.aload_n 0, 1) := by decide +kernel
theorem d_Law_law_856 : decode code 856 = .ok (.iload_n 3, 1) := by decide +kernel
theorem d_Law_law_857 : decode code 857 = .ok (.iconst 4, 1) := by decide +kernel
theorem d_Law_law_858 : decode code 858 = .ok (.iadd, 1) := by decide +kernel
theorem d_Law_law_859 : decode code 859 = .ok (.iaload, 1) := by decide +kernel
theorem d_Law_law_860 : decode code 860 = .ok (.invokevirtual 105, 3) := by decide +kernel
theorem d_Law_law_863 : decode code 863 = .ok (.if_icmp .eq (488), 3) := by decide +kernel
theorem d_Law_law_866 : decode code 866 = .ok (.iconst 0, 1) := by decide +kernel
theorem d_Law_law_867 : decode code 867 = .ok (.ireturn, 1) := by decide +kernel
theorem d_Law_law_868 : decode code 868 = .ok (.aload_n 1, 1) := by decide +kernel
theorem d_Law_law_869 : decode code 869 = .ok (.aload_n 0, 1) := by decide +kernel
theorem d_Law_law_870 : decode code 870 = .ok (.iload_n 3, 1) := by decide +kernel
theorem d_Law_law_871 : decode code 871 = .ok (.iconst 1, 1) := by decide +kernel
theorem d_Law_law_872 : decode code 872 = .ok (.iadd, 1) := by decide +kernel
theorem d_Law_law_873 : decode code 873 = .ok (.iaload, 1) := by decide +kernel
theorem d_Law_law_874 : decode code 874 = .ok (.aload_n 0, 1) := by decide +kernel
theorem d_Law_law_875 : decode code 875 = .ok (.iload_n 3, 1) := by decide +kernel
theorem d_Law_law_876 : decode code 876 = .ok (.iconst 2, 1) := by decide +kernel
theorem d_Law_law_877 : decode code 877 = .ok (.iadd, 1) := by decide +kernel
theorem d_Law_law_878 : decode code 878 = .ok (.iaload, 1) := by decide +kernel
theorem d_Law_law_879 : decode code 879 = .ok (.aload_n 0, 1) := by decide +kernel
theorem d_Law_law_880 : decode code 880 = .ok (.iload_n 3, 1) := by decide +kernel
theorem d_Law_law_881 : decode code 881 = .ok (.iconst 3, 1) := by decide +kernel
theorem d_Law_law_882 : decode code 882 = .ok (.iadd, 1) := by decide +kernel
theorem d_Law_law_883 : decode code 883 = .ok (.iaload, 1) := by decide +kernel
theorem d_Law_law_884 : decode code 884 = .ok (.invokevirtual 106, 3) := by decide +kernel
theorem d_Law_law_887 : decode code 887 = .ok (.aload_n 2, 1) := by decide +kernel
theorem d_Law_law_888 : decode code 888 = .ok (.aload_n 0, 1) := by decide +kernel
theorem d_Law_law_889 : decode code 889 = .ok (.iload_n 3, 1) := by decide +kernel
theorem d_Law_law_890 : decode code 890 = .ok (.iconst 1, 1) := by decide +kernel
theorem d_Law_law_891 : decode code 891 = .ok (.iadd, 1) := by decide +kernel
theorem d_Law_law_892 : decode code 892 = .ok (.iaload, 1) := by decide +kernel
theorem d_Law_law_893 : decode code 893 = .ok (.aload_n 0, 1) := by decide +kernel
theorem d_Law_law_894 : decode code 894 = .ok (.iload_n 3, 1) := by decide +kernel
theorem d_Law_law_895 : decode code 895 = .ok (.iconst 2, 1) := by decide +kernel
theorem d_Law_law_896 : decode code 896 = .ok (.iadd, 1) := by decide +kernel
theorem d_Law_law_897 : decode code 897 = .ok (.iaload, 1) := by decide +kernel
theorem d_Law_law_898 : decode code 898 = .ok (.aload_n 0, 1) := by decide +kernel
theorem d_Law_law_899 : decode code 899 = .ok (.iload_n 3, 1) := by decide +kernel
theorem d_Law_law_900 : decode code 900 = .ok (.iconst 3, 1) := by decide +kernel
theorem d_Law_law_901 : decode code 901 = .ok (.iadd, 1) := by decide +kernel
theorem d_Law_law_902 : decode code 902 = .ok (.iaload, 1) := by decide +kernel
theorem d_Law_law_903 : decode code 903 = .ok (.invokevirtual 109, 3) := by decide +kernel
theorem d_Law_law_906 : decode code 906 = .ok (.if_icmp .eq (445), 3) := by decide +kernel
theorem d_Law_law_909 : decode code 909 = .ok (.iconst 0, 1) := by decide +kernel
theorem d_Law_law_910 : decode code 910 = .ok (.ireturn, 1) := by decide +kernel
theorem d_Law_law_911 : decode code 911 = .ok (.aload_n 1, 1) := by decide +kernel
theorem d_Law_law_912 : decode code 912 = .ok (.aload_n 0, 1) := by decide +kernel
theorem d_Law_law_913 : decode code 913 = .ok (.iload_n 3, 1) := by decide +kernel
theorem d_Law_law_914 : decode code 914 = .ok (.iconst 1, 1) := by decide +kernel
theorem d_Law_law_915 : decode code 915 = .ok (.iadd, 1) := by decide +kernel
theorem d_Law_law_916 : decode code 916 = .ok (.iaload, 1) := by decide +kernel
theorem d_Law_law_917 : decode code 917 = .ok (.invokevirtual 110, 3) := by decide +kernel
theorem d_Law_law_920 : decode code 920 = .ok (.aload_n 2, 1) := by decide +kernel
theorem d_Law_law_921 : decode code 921 = .ok (.aload_n 0, 1) := by decide +kernel
theorem d_Law_law_922 : decode code 922 = .ok (.iload_n 3, 1) := by decide +kernel
theorem d_Law_law_923 : decode code 923 = .ok (.iconst 1, 1) := by decide +kernel
theorem d_Law_law_924 : decode code 924 = .ok (.iadd, 1) := by decide +kernel
theorem d_Law_law_925 : decode code 925 = .ok (.iaload, 1) := by decide +kernel
theorem d_Law_law_926 : decode code 926 = .ok (.invokevirtual 113, 3) := by decide +kernel
theorem d_Law_law_929 : decode code 929 = .ok (.if_icmp .eq (422), 3) := by decide +kernel
theorem d_Law_law_932 : decode code 932 = .ok (.iconst 0, 1) := by decide +kernel
theorem d_Law_law_933 : decode code 933 = .ok (.ireturn, 1) := by decide +kernel
theorem d_Law_law_934 : decode code 934 = .ok (.aload_n 1, 1) := by decide +kernel
theorem d_Law_law_935 : decode code 935 = .ok (.invokevirtual 114, 3) := by decide +kernel
theorem d_Law_law_938 : decode code 938 = .ok (.aload_n 2, 1) := by decide +kernel
theorem d_Law_law_939 : decode code 939 = .ok (.invokevirtual 117, 3) := by decide +kernel
theorem d_Law_law_942 : decode code 942 = .ok (.if_icmp .eq (409), 3) := by decide +kernel
theorem d_Law_law_945 : decode code 945 = .ok (.iconst 0, 1) := by decide +kernel
theorem d_Law_law_946 : decode code 946 = .ok (.ireturn, 1) := by decide +kernel
theorem d_Law_law_947 : decode code 947 = .ok (.aload_n 1, 1) := by decide +kernel
theorem d_Law_law_948 : decode code 948 = .ok (.invokevirtual 118, 3) := by decide +kernel
theorem d_Law_law_951 : decode code 951 = .ok (.aload_n 2, 1) := by decide +kernel
theorem d_Law_law_952 : decode code 952 = .ok (.invokevirtual 121, 3) := by decide +kernel
theorem d_Law_law_955 : decode code 955 = .ok (.if_icmp .eq (396), 3) := by decide +kernel
theorem d_Law_law_958 : decode code 958 = .ok (.iconst 0, 1) := by decide +kernel
theorem d_Law_law_959 : decode code 959 = .ok (.ireturn, 1) := by decide +kernel
theorem d_Law_law_960 : decode code 960 = .ok (.aload_n 1, 1) := by decide +kernel
theorem d_Law_law_961 : decode code 961 = .ok (.aload_n 0, 1) := by decide +kernel
theorem d_Law_law_962 : decode code 962 = .ok (.iload_n 3, 1) := by decide +kernel
theorem d_Law_law_963 : decode code 963 = .ok (.iconst 1, 1) := by decide +kernel
theorem d_Law_law_964 : decode code 964 = .ok (.iadd, 1) := by decide +kernel
theorem d_Law_law_965 : decode code 965 = .ok (.iaload, 1) := by decide +kernel
theorem d_Law_law_966 : decode code 966 = .ok (.invokevirtual 122, 3) := by decide +kernel
theorem d_Law_law_969 : decode code 969 = .ok (.aload_n 2, 1) := by decide +kernel
theorem d_Law_law_970 : decode code 970 = .ok (.aload_n 0, 1) := by decide +kernel
theorem d_Law_law_971 : decode code 971 = .ok (.iload_n 3, 1) := by decide +kernel
theorem d_Law_law_972 : decode code 972 = .ok (.iconst 1, 1) := by decide +kernel
theorem d_Law_law_973 : decode code 973 = .ok (.iadd, 1) := by decide +kernel
theorem d_Law_law_974 : decode code 974 = .ok (.iaload, 1) := by decide +kernel
theorem d_Law_law_975 : decode code 975 = .ok (.invokevirtual 125, 3) := by decide +kernel
theorem d_Law_law_978 : decode code 978 = .ok (.if_icmp .eq (373), 3) := by decide +kernel
theorem d_Law_law_981 : decode code 981 = .ok (.iconst 0, 1) := by decide +kernel
theorem d_Law_law_982 : decode code 982 = .ok (.ireturn, 1) := by decide +kernel
theorem d_Law_law_983 : decode code 983 = .ok (.aload_n 1, 1) := by decide +kernel
theorem d_Law_law_984 : decode code 984 = .ok (.aload_n 0, 1) := by decide +kernel
theorem d_Law_law_985 : decode code 985 = .ok (.iload_n 3, 1) := by decide +kernel
theorem d_Law_law_986 : decode code 986 = .ok (.iconst 1, 1) := by decide +kernel
theorem d_Law_law_987 : decode code 987 = .ok (.iadd, 1) := by decide +kernel
theorem d_Law_law_988 : decode code 988 = .ok (.iaload, 1) := by decide +kernel
theorem d_Law_law_989 : decode code 989 = .ok (.aload_n 0, 1) := by decide +kernel
theorem d_Law_law_990 : decode code 990 = .ok (.iload_n 3, 1) := by decide +kernel
theorem d_Law_law_991 : decode code 991 = .ok (.iconst 2, 1) := by decide +kernel
theorem d_Law_law_992 : decode code 992 = .ok (.iadd, 1) := by decide +kernel
theorem d_Law_law_993 : decode code 993 = .ok (.iaload, 1) := by decide +kernel
theorem d_Law_law_994 : decode code 994 = .ok (.aload_n 0, 1) := by decide +kernel
theorem d_Law_law_995 : decode code 995 = .ok (.iload_n 3, 1) := by decide +kernel
theorem d_Law_law_996 : decode code 996 = .ok (.iconst 3, 1) := by decide +kernel
theorem d_Law_law_997 : decode code 997 = .ok (.iadd, 1) := by decide +kernel
theorem d_Law_law_998 : decode code 998 = .ok (.iaload, 1) := by decide +kernel
theorem d_Law_law_999 : decode code 999 = .ok (.invokevirtual 126, 3) := by decide +kernel
theorem d_Law_law_1002 : decode code 1002 = .ok (.aload_n 2, 1) := by decide +kernel
theorem d_Law_law_1003 : decode code 1003 = .ok (.aload_n 0, 1) := by decide +kernel
theorem d_Law_law_1004 : decode code 1004 = .ok (.iload_n 3, 1) := by decide +kernel
theorem d_Law_law_1005 : decode code 1005 = .ok (.iconst 1, 1) := by decide +kernel
theorem d_Law_law_1006 : decode code 1006 = .ok (.iadd, 1) := by decide +kernel
theorem d_Law_law_1007 : decode code 1007 = .ok (.iaload, 1) := by decide +kernel
theorem d_Law_law_1008 : decode code 1008 = .ok (.aload_n 0, 1) := by decide +kernel
theorem d_Law_law_1009 : decode code 1009 = .ok (.iload_n 3, 1) := by decide +kernel
theorem d_Law_law_1010 : decode code 1010 = .ok (.iconst 2, 1) := by decide +kernel
theorem d_Law_law_1011 : decode code 1011 = .ok (.iadd, 1) := by decide +kernel
theorem d_Law_law_1012 : decode code 1012 = .ok (.iaload, 1) := by decide +kernel
theorem d_Law_law_1013 : decode code 1013 = .ok (.aload_n 0, 1) := by decide +kernel
theorem d_Law_law_1014 : decode code 1014 = .ok (.iload_n 3, 1) := by decide +kernel
theorem d_Law_law_1015 : decode code 1015 = .ok (.iconst 3, 1) := by decide +kernel
theorem d_Law_law_1016 : decode code 1016 = .ok (.iadd, 1) := by decide +kernel
theorem d_Law_law_1017 : decode code 1017 = .ok (.iaload, 1) := by decide +kernel
theorem d_Law_law_1018 : decode code 1018 = .ok (.invokevirtual 129, 3) := by decide +kernel
theorem d_Law_law_1021 : decode code 1021 = .ok (.if_icmp .eq (330), 3) := by decide +kernel
theorem d_Law_law_1024 : decode code 1024 = .ok (.iconst 0, 1) := by decide +kernel
theorem d_Law_law_1025 : decode code 1025 = .ok (.ireturn, 1) := by decide +kernel
theorem d_Law_law_1026 : decode code 1026 = .ok (.aload_n 1, 1) := by decide +kernel
theorem d_Law_law_1027 : decode code 1027 = .ok (.aload_n 0, 1) := by decide +kernel
theorem d_Law_law_1028 : decode code 1028 = .ok (.iload_n 3, 1) := by decide +kernel
theorem d_Law_law_1029 : decode code 1029 = .ok (.iconst 1, 1) := by decide +kernel
theorem d_Law_law_1030 : decode code 1030 = .ok (.iadd, 1) := by decide +kernel
theorem d_Law_law_1031 : decode code 1031 = .ok (.iaload, 1) := by decide +kernel
theorem d_Law_law_1032 : decode code 1032 = .ok (.invokevirtual 130, 3) := by decide +kernel
theorem d_Law_law_1035 : decode code 1035 = .ok (.aload_n 2, 1) := by decide +kernel
theorem d_Law_law_1036 : decode code 1036 = .ok (.aload_n 0, 1) := by decide +kernel
theorem d_Law_law_1037 : decode code 1037 = .ok (.iload_n 3, 1) := by decide +kernel
theorem d_Law_law_1038 : decode code 1038 = .ok (.iconst 1, 1) := by decide +kernel
theorem d_Law_law_1039 : decode code 1039 = .ok (.iadd, 1) := by decide +kernel
theorem d_Law_law_1040 : decode code 1040 = .ok (.iaload, 1) := by decide +kernel
theorem d_Law_law_1041 : decode code 1041 = .ok (.invokevirtual 133, 3) := by decide +kernel
theorem d_Law_law_1044 : decode code 1044 = .ok (.if_icmp .eq (307), 3) := by decide +kernel
theorem d_Law_law_1047 : decode code 1047 = .ok (.iconst 0, 1) := by decide +kernel
theorem d_Law_law_1048 : decode code 1048 = .ok (.ireturn, 1) := by decide +kernel
theorem d_Law_law_1049 : decode code 1049 = .ok (.aload_n 1, 1) := by decide +kernel
theorem d_Law_law_1050 : decode code 1050 = .ok (.aload_n 0, 1) := by decide +kernel
theorem d_Law_law_1051 : decode code 1051 = .ok (.iload_n 3, 1) := by decide +kernel
theorem d_Law_law_1052 : decode code 1052 = .ok (.iconst 1, 1) := by decide +kernel
theorem d_Law_law_1053 : decode code 1053 = .ok (.iadd, 1) := by decide +kernel
theorem d_Law_law_1054 : decode code 1054 = .ok (.iaload, 1) := by decide +kernel
theorem d_Law_law_1055 : decode code 1055 = .ok (.aload_n 0, 1) := by decide +kernel
theorem d_Law_law_1056 : decode code 1056 = .ok (.iload_n 3, 1) := by decide +kernel
theorem d_Law_law_1057 : decode code 1057 = .ok (.iconst 2, 1) := by decide +kernel
theorem d_Law_law_1058 : decode code 1058 = .ok (.iadd, 1) := by decide +kernel
theorem d_Law_law_1059 : decode code 1059 = .ok (.iaload, 1) := by decide +kernel
theorem d_Law_law_1060 : decode code 1060 = .ok (.invokevirtual 134, 3) := by decide +kernel
theorem d_Law_law_1063 : decode code 1063 = .ok (.aload_n 2, 1) := by decide +kernel
theorem d_Law_law_1064 : decode code 1064 = .ok (.aload_n 0, 1) := by decide +kernel
theorem d_Law_law_1065 : decode code 1065 = .ok (.iload_n 3, 1) := by decide +kernel
theorem d_Law_law_1066 : decode code 1066 = .ok (.iconst 1, 1) := by decide +kernel
theorem d_Law_law_1067 : decode code 1067 = .ok (.iadd, 1) := by decide +kernel
theorem d_Law_law_1068 : decode code 1068 = .ok (.iaload, 1) := by decide +kernel
theorem d_Law_law_1069 : decode code 1069 = .ok (.aload_n 0, 1) := by decide +kernel
theorem d_Law_law_1070 : decode code 1070 = .ok (.iload_n 3, 1) := by decide +kernel
theorem d_Law_law_1071 : decode code 1071 = .ok (.iconst 2, 1) := by decide +kernel
theorem d_Law_law_1072 : decode code 1072 = .ok (.iadd, 1) := by decide +kernel
theorem d_Law_law_1073 : decode code 1073 = .ok (.iaload, 1) := by decide +kernel
theorem d_Law_law_1074 : decode code 1074 = .ok (.invokevirtual 137, 3) := by decide +kernel
theorem d_Law_law_1077 : decode code 1077 = .ok (.if_icmp .eq (274), 3) := by decide +kernel
theorem d_Law_law_1080 : decode code 1080 = .ok (.iconst 0, 1) := by decide +kernel
theorem d_Law_law_1081 : decode code 1081 = .ok (.ireturn, 1) := by decide +kernel
theorem d_Law_law_1082 : decode code 1082 = .ok (.aload_n 1, 1) := by decide +kernel
theorem d_Law_law_1083 : decode code 1083 = .ok (.aload_n 0, 1) := by decide +kernel
theorem d_Law_law_1084 : decode code 1084 = .ok (.iload_n 3, 1) := by decide +kernel
theorem d_Law_law_1085 : decode code 1085 = .ok (.iconst 1, 1) := by decide +kernel
theorem d_Law_law_1086 : decode code 1086 = .ok (.iadd, 1) := by decide +kernel
theorem d_Law_law_1087 : decode code 1087 = .ok (.iaload, 1) := by decide +kernel
theorem d_Law_law_1088 : decode code 1088 = .ok (.aload_n 0, 1) := by decide +kernel
theorem d_Law_law_1089 : decode code 1089 = .ok (.iload_n 3, 1) := by decide +kernel
theorem d_Law_law_1090 : decode code 1090 = .ok (.iconst 2, 1) := by decide +kernel
theorem d_Law_law_1091 : decode code 1091 = .ok (.iadd, 1) := by decide +kernel
theorem d_Law_law_1092 : decode code 1092 = .ok (.iaload, 1) := by decide +kernel
theorem d_Law_law_1093 : decode code 1093 = .ok (.aload_n 0, 1) := by decide +kernel
theorem d_Law_law_1094 : decode code 1094 = .ok (.iload_n 3, 1) := by decide +kernel
theorem d_Law_law_1095 : decode code 1095 = .ok (.iconst 3, 1) := by decide +kernel
theorem d_Law_law_1096 : decode code 1096 = .ok (.iadd, 1) := by decide +kernel
theorem d_Law_law_1097 : decode code 1097 = .ok (.iaload, 1) := by decide +kernel
theorem d_Law_law_1098 : decode code 1098 = .ok (.invokevirtual 138, 3) := by decide +kernel
theorem d_Law_law_1101 : decode code 1101 = .ok (.aload_n 2, 1) := by decide +kernel
theorem d_Law_law_1102 : decode code 1102 = .ok (.aload_n 0, 1) := by decide +kernel
theorem d_Law_law_1103 : decode code 1103 = .ok (.iload_n 3, 1) := by decide +kernel
theorem d_Law_law_1104 : decode code 1104 = .ok (.iconst 1, 1) := by decide +kernel
theorem d_Law_law_1105 : decode code 1105 = .ok (.iadd, 1) := by decide +kernel
theorem d_Law_law_1106 : decode code 1106 = .ok (.iaload, 1) := by decide +kernel
theorem d_Law_law_1107 : decode code 1107 = .ok (.aload_n 0, 1) := by decide +kernel
theorem d_Law_law_1108 : decode code 1108 = .ok (.iload_n 3, 1) := by decide +kernel
theorem d_Law_law_1109 : decode code 1109 = .ok (.iconst 2, 1) := by decide +kernel
theorem d_Law_law_1110 : decode code 1110 = .ok (.iadd, 1) := by decide +kernel
theorem d_Law_law_1111 : decode code 1111 = .ok (.iaload, 1) := by decide +kernel
theorem d_Law_law_1112 : decode code 1112 = .ok (.aload_n 0, 1) := by decide +kernel
theorem d_Law_law_1113 : decode code 1113 = .ok (.iload_n 3, 1) := by decide +kernel
theorem d_Law_law_1114 : decode code 1114 = .ok (.iconst 3, 1) := by decide +kernel
theorem d_Law_law_1115 : decode code 1115 = .ok (.iadd, 1) := by decide +kernel
theorem d_Law_law_1116 : decode code 1116 = .ok (.iaload, 1) := by decide +kernel
theorem d_Law_law_1117 : decode code 1117 = .ok (.invokevirtual 141, 3) := by decide +kernel
theorem d_Law_law_1120 : decode code 1120 = .ok (.if_icmp .eq (231), 3) := by decide +kernel
theorem d_Law_law_1123 : decode code 1123 = .ok (.iconst 0, 1) := by decide +kernel
theorem d_Law_law_1124 : decode code 1124 = .ok (.ireturn, 1) := by decide +kernel
theorem d_Law_law_1125 : decode code 1125 = .ok (.aload_n 1, 1) := by decide +kernel
theorem d_Law_law_1126 : decode code 1126 = .ok (.aload_n 0, 1) := by decide +kernel
theorem d_Law_law_1127 : decode code 1127 = .ok (.iload_n 3, 1) := by decide +kernel
theorem d_Law_law_1128 : decode code 1128 = .ok (.iconst 1, 1) := by decide +kernel
theorem d_Law_law_1129 : decode code 1129 = .ok (.iadd, 1) := by decide +kernel
theorem d_Law_law_1130 : decode code 1130 = .ok (.iaload, 1) := by decide +kernel
theorem d_Law_law_1131 : decode code 1131 = .ok (.aload_n 0, 1) := by decide +kernel
theorem d_Law_law_1132 : decode code 1132 = .ok (.iload_n 3, 1) := by decide +kernel
theorem d_Law_law_1133 : decode code 1133 = .ok (.iconst 2, 1) := by decide +kernel
theorem d_Law_law_1134 : decode code 1134 = .ok (.iadd, 1) := by decide +kernel
theorem d_Law_law_1135 : decode code 1135 = .ok (.iaload, 1) := by decide +kernel
theorem d_Law_law_1136 : decode code 1136 = .ok (.aload_n 0, 1) := by decide +kernel
theorem d_Law_law_1137 : decode code 1137 = .ok (.iload_n 3, 1) := by decide +kernel
theorem d_Law_law_1138 : decode code 1138 = .ok (.iconst 3, 1) := by decide +kernel
theorem d_Law_law_1139 : decode code 1139 = .ok (.iadd, 1) := by decide +kernel
theorem d_Law_law_1140 : decode code 1140 = .ok (.iaload, 1) := by decide +kernel
theorem d_Law_law_1141 : decode code 1141 = .ok (.i2l, 1) := by decide +kernel
theorem d_Law_law_1142 : decode code 1142 = .ok (.bipush (32), 2) := by decide +kernel
theorem d_Law_law_1144 : decode code 1144 = .ok (.lshl, 1) := by decide +kernel
theorem d_Law_law_1145 : decode code 1145 = .ok (.aload_n 0, 1) := by decide +kernel
theorem d_Law_law_1146 : decode code 1146 = .ok (.iload_n 3, 1) := by decide +kernel
theorem d_Law_law_1147 : decode code 1147 = .ok (.iconst 4, 1) := by decide +kernel
theorem d_Law_law_1148 : decode code 1148 = .ok (.iadd, 1) := by decide +kernel
theorem d_Law_law_1149 : decode code 1149 = .ok (.iaload, 1) := by decide +kernel
theorem d_Law_law_1150 : decode code 1150 = .ok (.i2l, 1) := by decide +kernel
theorem d_Law_law_1151 : decode code 1151 = .ok (.ldc2_w 142, 3) := by decide +kernel
theorem d_Law_law_1154 : decode code 1154 = .ok (.land, 1) := by decide +kernel
theorem d_Law_law_1155 : decode code 1155 = .ok (.lor, 1) := by decide +kernel
theorem d_Law_law_1156 : decode code 1156 = .ok (.invokevirtual 144, 3) := by decide +kernel
theorem d_Law_law_1159 : decode code 1159 = .ok (.aload_n 2, 1) := by decide +kernel
theorem d_Law_law_1160 : decode code 1160 = .ok (.aload_n 0, 1) := by decide +kernel
theorem d_Law_law_1161 : decode code 1161 = .ok (.iload_n 3, 1) := by decide +kernel
theorem d_Law_law_1162 : decode code 1162 = .ok (.iconst 1, 1) := by decide +kernel
theorem d_Law_law_1163 : decode code 1163 = .ok (.iadd, 1) := by decide +kernel
theorem d_Law_law_1164 : decode code 1164 = .ok (.iaload, 1) := by decide +kernel
theorem d_Law_law_1165 : decode code 1165 = .ok (.aload_n 0, 1) := by decide +kernel
theorem d_Law_law_1166 : decode code 1166 = .ok (.iload_n 3, 1) := by decide +kernel
theorem d_Law_law_1167 : decode code 1167 = .ok (.iconst 2, 1) := by decide +kernel
theorem d_Law_law_1168 : decode code 1168 = .ok (.iadd, 1) := by decide +kernel
theorem d_Law_law_1169 : decode code 1169 = .ok (.iaload, 1) := by decide +kernel
theorem d_Law_law_1170 : decode code 1170 = .ok (.aload_n 0, 1) := by decide +kernel
theorem d_Law_law_1171 : decode code 1171 = .ok (.iload_n 3, 1) := by decide +kernel
theorem d_Law_law_1172 : decode code 1172 = .ok (.iconst 3, 1) := by decide +kernel
theorem d_Law_law_1173 : decode code 1173 = .ok (.iadd, 1) := by decide +kernel
theorem d_Law_law_1174 : decode code 1174 = .ok (.iaload, 1) := by decide +kernel
theorem d_Law_law_1175 : decode code 1175 = .ok (.i2l, 1) := by decide +kernel
theorem d_Law_law_1176 : decode code 1176 = .ok (.bipush (32), 2) := by decide +kernel
theorem d_Law_law_1178 : decode code 1178 = .ok (.lshl, 1) := by decide +kernel
theorem d_Law_law_1179 : decode code 1179 = .ok (.aload_n 0, 1) := by decide +kernel
theorem d_Law_law_1180 : decode code 1180 = .ok (.iload_n 3, 1) := by decide +kernel
theorem d_Law_law_1181 : decode code 1181 = .ok (.iconst 4, 1) := by decide +kernel
theorem d_Law_law_1182 : decode code 1182 = .ok (.iadd, 1) := by decide +kernel
theorem d_Law_law_1183 : decode code 1183 = .ok (.iaload, 1) := by decide +kernel
theorem d_Law_law_1184 : decode code 1184 = .ok (.i2l, 1) := by decide +kernel
theorem d_Law_law_1185 : decode code 1185 = .ok (.ldc2_w 142, 3) := by decide +kernel
theorem d_Law_law_1188 : decode code 1188 = .ok (.land, 1) := by decide +kernel
theorem d_Law_law_1189 : decode code 1189 = .ok (.lor, 1) := by decide +kernel
theorem d_Law_law_1190 : decode code 1190 = .ok (.invokevirtual 148, 3) := by decide +kernel
theorem d_Law_law_1193 : decode code 1193 = .ok (.if_icmp .eq (158), 3) := by decide +kernel
theorem d_Law_law_1196 : decode code 1196 = .ok (.iconst 0, 1) := by decide +kernel
theorem d_Law_law_1197 : decode code 1197 = .ok (.ireturn, 1) := by decide +kernel
theorem d_Law_law_1198 : decode code 1198 = .ok (.aload_n 1, 1) := by decide +kernel
theorem d_Law_law_1199 : decode code 1199 = .ok (.aload_n 0, 1) := by decide +kernel
theorem d_Law_law_1200 : decode code 1200 = .ok (.iload_n 3, 1) := by decide +kernel
theorem d_Law_law_1201 : decode code 1201 = .ok (.iconst 1, 1) := by decide +kernel
theorem d_Law_law_1202 : decode code 1202 = .ok (.iadd, 1) := by decide +kernel
theorem d_Law_law_1203 : decode code 1203 = .ok (.iaload, 1) := by decide +kernel
theorem d_Law_law_1204 : decode code 1204 = .ok (.aload_n 0, 1) := by decide +kernel
theorem d_Law_law_1205 : decode code 1205 = .ok (.iload_n 3, 1) := by decide +kernel
theorem d_Law_law_1206 : decode code 1206 = .ok (.iconst 2, 1) := by decide +kernel
theorem d_Law_law_1207 : decode code 1207 = .ok (.iadd, 1) := by decide +kernel
theorem d_Law_law_1208 : decode code 1208 = .ok (.iaload, 1) := by decide +kernel
theorem d_Law_law_1209 : decode code 1209 = .ok (.invokevirtual 149, 3) := by decide +kernel
theorem d_Law_law_1212 : decode code 1212 = .ok (.aload_n 2, 1) := by decide +kernel
theorem d_Law_law_1213 : decode code 1213 = .ok (.aload_n 0, 1) := by decide +kernel
theorem d_Law_law_1214 : decode code 1214 = .ok (.iload_n 3, 1) := by decide +kernel
theorem d_Law_law_1215 : decode code 1215 = .ok (.iconst 1, 1) := by decide +kernel
theorem d_Law_law_1216 : decode code 1216 = .ok (.iadd, 1) := by decide +kernel
theorem d_Law_law_1217 : decode code 1217 = .ok (.iaload, 1) := by decide +kernel
theorem d_Law_law_1218 : decode code 1218 = .ok (.aload_n 0, 1) := by decide +kernel
theorem d_Law_law_1219 : decode code 1219 = .ok (.iload_n 3, 1) := by decide +kernel
theorem d_Law_law_1220 : decode code 1220 = .ok (.iconst 2, 1) := by decide +kernel
theorem d_Law_law_1221 : decode code 1221 = .ok (.iadd, 1) := by decide +kernel
theorem d_Law_law_1222 : decode code 1222 = .ok (.iaload, 1) := by decide +kernel
theorem d_Law_law_1223 : decode code 1223 = .ok (.invokevirtual 153, 3) := by decide +kernel
theorem d_Law_law_1226 : decode code 1226 = .ok (.lcmp, 1) := by decide +kernel
theorem d_Law_law_1227 : decode code 1227 = .ok (.ifCond .eq (124), 3) := by decide +kernel
theorem d_Law_law_1230 : decode code 1230 = .ok (.iconst 0, 1) := by decide +kernel
theorem d_Law_law_1231 : decode code 1231 = .ok (.ireturn, 1) := by decide +kernel
theorem d_Law_law_1232 : decode code 1232 = .ok (.aload_n 1, 1) := by decide +kernel
theorem d_Law_law_1233 : decode code 1233 = .ok (.aload_n 0, 1) := by decide +kernel
theorem d_Law_law_1234 : decode code 1234 = .ok (.iload_n 3, 1) := by decide +kernel
theorem d_Law_law_1235 : decode code 1235 = .ok (.iconst 1, 1) := by decide +kernel
theorem d_Law_law_1236 : decode code 1236 = .ok (.iadd, 1) := by decide +kernel
theorem d_Law_law_1237 : decode code 1237 = .ok (.iaload, 1) := by decide +kernel
theorem d_Law_law_1238 : decode code 1238 = .ok (.aload_n 0, 1) := by decide +kernel
theorem d_Law_law_1239 : decode code 1239 = .ok (.iload_n 3, 1) := by decide +kernel
theorem d_Law_law_1240 : decode code 1240 = .ok (.iconst 2, 1) := by decide +kernel
theorem d_Law_law_1241 : decode code 1241 = .ok (.iadd, 1) := by decide +kernel
theorem d_Law_law_1242 : decode code 1242 = .ok (.iaload, 1) := by decide +kernel
theorem d_Law_law_1243 : decode code 1243 = .ok (.aload_n 0, 1) := by decide +kernel
theorem d_Law_law_1244 : decode code 1244 = .ok (.iload_n 3, 1) := by decide +kernel
theorem d_Law_law_1245 : decode code 1245 = .ok (.iconst 3, 1) := by decide +kernel
theorem d_Law_law_1246 : decode code 1246 = .ok (.iadd, 1) := by decide +kernel
theorem d_Law_law_1247 : decode code 1247 = .ok (.iaload, 1) := by decide +kernel
theorem d_Law_law_1248 : decode code 1248 = .ok (.aload_n 0, 1) := by decide +kernel
theorem d_Law_law_1249 : decode code 1249 = .ok (.iload_n 3, 1) := by decide +kernel
theorem d_Law_law_1250 : decode code 1250 = .ok (.iconst 4, 1) := by decide +kernel
theorem d_Law_law_1251 : decode code 1251 = .ok (.iadd, 1) := by decide +kernel
theorem d_Law_law_1252 : decode code 1252 = .ok (.iaload, 1) := by decide +kernel
theorem d_Law_law_1253 : decode code 1253 = .ok (.aload_n 0, 1) := by decide +kernel
theorem d_Law_law_1254 : decode code 1254 = .ok (.iload_n 3, 1) := by decide +kernel
theorem d_Law_law_1255 : decode code 1255 = .ok (.iconst 5, 1) := by decide +kernel
theorem d_Law_law_1256 : decode code 1256 = .ok (.iadd, 1) := by decide +kernel
theorem d_Law_law_1257 : decode code 1257 = .ok (.iaload, 1) := by decide +kernel
theorem d_Law_law_1258 : decode code 1258 = .ok (.invokevirtual 154, 3) := by decide +kernel
theorem d_Law_law_1261 : decode code 1261 = .ok (.aload_n 2, 1) := by decide +kernel
theorem d_Law_law_1262 : decode code 1262 = .ok (.aload_n 0, 1) := by decide +kernel
theorem d_Law_law_1263 : decode code 1263 = .ok (.iload_n 3, 1) := by decide +kernel
theorem d_Law_law_1264 : decode code 1264 = .ok (.iconst 1, 1) := by decide +kernel
theorem d_Law_law_1265 : decode code 1265 = .ok (.iadd, 1) := by decide +kernel
theorem d_Law_law_1266 : decode code 1266 = .ok (.iaload, 1) := by decide +kernel
theorem d_Law_law_1267 : decode code 1267 = .ok (.aload_n 0, 1) := by decide +kernel
theorem d_Law_law_1268 : decode code 1268 = .ok (.iload_n 3, 1) := by decide +kernel
theorem d_Law_law_1269 : decode code 1269 = .ok (.iconst 2, 1) := by decide +kernel
theorem d_Law_law_1270 : decode code 1270 = .ok (.iadd, 1) := by decide +kernel
theorem d_Law_law_1271 : decode code 1271 = .ok (.iaload, 1) := by decide +kernel
theorem d_Law_law_1272 : decode code 1272 = .ok (.aload_n 0, 1) := by decide +kernel
theorem d_Law_law_1273 : decode code 1273 = .ok (.iload_n 3, 1) := by decide +kernel
theorem d_Law_law_1274 : decode code 1274 = .ok (.iconst 3, 1) := by decide +kernel
theorem d_Law_law_1275 : decode code 1275 = .ok (.iadd, 1) := by decide +kernel
theorem d_Law_law_1276 : decode code 1276 = .ok (.iaload, 1) := by decide +kernel
theorem d_Law_law_1277 : decode code 1277 = .ok (.aload_n 0, 1) := by decide +kernel
theorem d_Law_law_1278 : decode code 1278 = .ok (.iload_n 3, 1) := by decide +kernel
theorem d_Law_law_1279 : decode code 1279 = .ok (.iconst 4, 1) := by decide +kernel
theorem d_Law_law_1280 : decode code 1280 = .ok (.iadd, 1) := by decide +kernel
theorem d_Law_law_1281 : decode code 1281 = .ok (.iaload, 1) := by decide +kernel
theorem d_Law_law_1282 : decode code 1282 = .ok (.aload_n 0, 1) := by decide +kernel
theorem d_Law_law_1283 : decode code 1283 = .ok (.iload_n 3, 1) := by decide +kernel
theorem d_Law_law_1284 : decode code 1284 = .ok (.iconst 5, 1) := by decide +kernel
theorem d_Law_law_1285 : decode code 1285 = .ok (.iadd, 1) := by decide +kernel
theorem d_Law_law_1286 : decode code 1286 = .ok (.iaload, 1) := by decide +kernel
theorem d_Law_law_1287 : decode code 1287 = .ok (.invokevirtual 158, 3) := by decide +kernel
theorem d_Law_law_1290 : decode code 1290 = .ok (.if_icmp .eq (61), 3) := by decide +kernel
theorem d_Law_law_1293 : decode code 1293 = .ok (.iconst 0, 1) := by decide +kernel
theorem d_Law_law_1294 : decode code 1294 = .ok (.ireturn, 1) := by decide +kernel
theorem d_Law_law_1295 : decode code 1295 = .ok (.aload_n 1, 1) := by decide +kernel
theorem d_Law_law_1296 : decode code 1296 = .ok (.aload_n 0, 1) := by decide +kernel
theorem d_Law_law_1297 : decode code 1297 = .ok (.iload_n 3, 1) := by decide +kernel
theorem d_Law_law_1298 : decode code 1298 = .ok (.iconst 1, 1) := by decide +kernel
theorem d_Law_law_1299 : decode code 1299 = .ok (.iadd, 1) := by decide +kernel
theorem d_Law_law_1300 : decode code 1300 = .ok (.iaload, 1) := by decide +kernel
theorem d_Law_law_1301 : decode code 1301 = .ok (.aload_n 0, 1) := by decide +kernel
theorem d_Law_law_1302 : decode code 1302 = .ok (.iload_n 3, 1) := by decide +kernel
theorem d_Law_law_1303 : decode code 1303 = .ok (.iconst 2, 1) := by decide +kernel
theorem d_Law_law_1304 : decode code 1304 = .ok (.iadd, 1) := by decide +kernel
theorem d_Law_law_1305 : decode code 1305 = .ok (.iaload, 1) := by decide +kernel
theorem d_Law_law_1306 : decode code 1306 = .ok (.invokevirtual 159, 3) := by decide +kernel
theorem d_Law_law_1309 : decode code 1309 = .ok (.aload_n 2, 1) := by decide +kernel
theorem d_Law_law_1310 : decode code 1310 = .ok (.aload_n 0, 1) := by decide +kernel
theorem d_Law_law_1311 : decode code 1311 = .ok (.iload_n 3, 1) := by decide +kernel
theorem d_Law_law_1312 : decode code 1312 = .ok (.iconst 1, 1) := by decide +kernel
theorem d_Law_law_1313 : decode code 1313 = .ok (.iadd, 1) := by decide +kernel
theorem d_Law_law_1314 : decode code 1314 = .ok (.iaload, 1) := by decide +kernel
theorem d_Law_law_1315 : decode code 1315 = .ok (.aload_n 0, 1) := by decide +kernel
theorem d_Law_law_1316 : decode code 1316 = .ok (.iload_n 3, 1) := by decide +kernel
theorem d_Law_law_1317 : decode code 1317 = .ok (.iconst 2, 1) := by decide +kernel
theorem d_Law_law_1318 : decode code 1318 = .ok (.iadd, 1) := by decide +kernel
theorem d_Law_law_1319 : decode code 1319 = .ok (.iaload, 1) := by decide +kernel
theorem d_Law_law_1320 : decode code 1320 = .ok (.invokevirtual 162, 3) := by decide +kernel
theorem d_Law_law_1323 : decode code 1323 = .ok (.if_icmp .eq (28), 3) := by decide +kernel
theorem d_Law_law_1326 : decode code 1326 = .ok (.iconst 0, 1) := by decide +kernel
theorem d_Law_law_1327 : decode code 1327 = .ok (.ireturn, 1) := by decide +kernel
theorem d_Law_law_1328 : decode code 1328 = .ok (.aload_n 1, 1) := by decide +kernel
theorem d_Law_law_1329 : decode code 1329 = .ok (.aload_n 0, 1) := by decide +kernel
theorem d_Law_law_1330 : decode code 1330 = .ok (.iload_n 3, 1) := by decide +kernel
theorem d_Law_law_1331 : decode code 1331 = .ok (.iconst 1, 1) := by decide +kernel
theorem d_Law_law_1332 : decode code 1332 = .ok (.iadd, 1) := by decide +kernel
theorem d_Law_law_1333 : decode code 1333 = .ok (.iaload, 1) := by decide +kernel
theorem d_Law_law_1334 : decode code 1334 = .ok (.invokevirtual 163, 3) := by decide +kernel
theorem d_Law_law_1337 : decode code 1337 = .ok (.aload_n 2, 1) := by decide +kernel
theorem d_Law_law_1338 : decode code 1338 = .ok (.aload_n 0, 1) := by decide +kernel
theorem d_Law_law_1339 : decode code 1339 = .ok (.iload_n 3, 1) := by decide +kernel
theorem d_Law_law_1340 : decode code 1340 = .ok (.iconst 1, 1) := by decide +kernel
theorem d_Law_law_1341 : decode code 1341 = .ok (.iadd, 1) := by decide +kernel
theorem d_Law_law_1342 : decode code 1342 = .ok (.iaload, 1) := by decide +kernel
theorem d_Law_law_1343 : decode code 1343 = .ok (.invokevirtual 166, 3) := by decide +kernel
theorem d_Law_law_1346 : decode code 1346 = .ok (.if_icmp .eq (5), 3) := by decide +kernel
theorem d_Law_law_1349 : decode code 1349 = .ok (.iconst 0, 1) := by decide +kernel
theorem d_Law_law_1350 : decode code 1350 = .ok (.ireturn, 1) := by decide +kernel
theorem d_Law_law_1351 : decode code 1351 = .ok (.iinc 3 (6), 3) := by decide +kernel
theorem d_Law_law_1354 : decode code 1354 = .ok (.goto (-1336), 3) := by decide +kernel
theorem d_Law_law_1357 : decode code 1357 = .ok (.iconst 1, 1) := by decide +kernel
theorem d_Law_law_1358 : decode code 1358 = .ok (.ireturn, 1) := by decide +kernel
def f_Law_law_L18 (xn : Nat) (xs : Nat → Int32) : Nat → Int32 → zz_S → Option (Int32 × zz_S)
  | 0, _, _ => none
  | n + 1, v3, s =>
  if ((Int32.ofNat xn) - (6 : Int32)) < v3 then
    some ((1 : Int32), s)
  else
    if zz_in v3 xn = true then
    if ((xs v3.toNatClampNeg) &&& (63 : Int32)) = (0 : Int32) then
      if zz_in (v3 + (1 : Int32)) xn = true then
      (f_B_wide (xs (v3 + (1 : Int32)).toNatClampNeg) s).bind fun q5 =>
      (f_M_wide (xs (v3 + (1 : Int32)).toNatClampNeg) q5.2).bind fun q6 =>
      if q5.1 = q6.1 then
        f_Law_law_L18 xn xs n (v3 + (6 : Int32)) q6.2
      else
        some ((0 : Int32), q6.2)
      else none
    else
    if ((xs v3.toNatClampNeg) &&& (63 : Int32)) = (1 : Int32) then
      if zz_in (v3 + (1 : Int32)) xn = true then
      if zz_in (v3 + (2 : Int32)) xn = true then
      (f_B_sleeper (xs (v3 + (1 : Int32)).toNatClampNeg) (xs (v3 + (2 : Int32)).toNatClampNeg) s).bind fun q11 =>
      (f_M_sleeper (xs (v3 + (1 : Int32)).toNatClampNeg) (xs (v3 + (2 : Int32)).toNatClampNeg) q11.2).bind fun q12 =>
      if q11.1 = q12.1 then
        f_Law_law_L18 xn xs n (v3 + (6 : Int32)) q12.2
      else
        some ((0 : Int32), q12.2)
      else none
      else none
    else
    if ((xs v3.toNatClampNeg) &&& (63 : Int32)) = (2 : Int32) then
      if zz_in (v3 + (1 : Int32)) xn = true then
      if zz_in (v3 + (2 : Int32)) xn = true then
      if zz_in (v3 + (3 : Int32)) xn = true then
      (f_B_cover (xs (v3 + (1 : Int32)).toNatClampNeg) (xs (v3 + (2 : Int32)).toNatClampNeg) (xs (v3 + (3 : Int32)).toNatClampNeg) s).bind fun q18 =>
      (f_M_cover (xs (v3 + (1 : Int32)).toNatClampNeg) (xs (v3 + (2 : Int32)).toNatClampNeg) (xs (v3 + (3 : Int32)).toNatClampNeg) q18.2).bind fun q19 =>
      if q18.1 = q19.1 then
        f_Law_law_L18 xn xs n (v3 + (6 : Int32)) q19.2
      else
        some ((0 : Int32), q19.2)
      else none
      else none
      else none
    else
    if ((xs v3.toNatClampNeg) &&& (63 : Int32)) = (3 : Int32) then
      if zz_in (v3 + (1 : Int32)) xn = true then
      if zz_in (v3 + (2 : Int32)) xn = true then
      if zz_in (v3 + (3 : Int32)) xn = true then
      (f_B_mend (xs (v3 + (1 : Int32)).toNatClampNeg) (xs (v3 + (2 : Int32)).toNatClampNeg) (xs (v3 + (3 : Int32)).toNatClampNeg) s).bind fun q25 =>
      (f_M_mend (xs (v3 + (1 : Int32)).toNatClampNeg) (xs (v3 + (2 : Int32)).toNatClampNeg) (xs (v3 + (3 : Int32)).toNatClampNeg) q25.2).bind fun q26 =>
      if q25.1 = q26.1 then
        f_Law_law_L18 xn xs n (v3 + (6 : Int32)) q26.2
      else
        some ((0 : Int32), q26.2)
      else none
      else none
      else none
    else
    if ((xs v3.toNatClampNeg) &&& (63 : Int32)) = (4 : Int32) then
      if zz_in (v3 + (1 : Int32)) xn = true then
      if zz_in (v3 + (2 : Int32)) xn = true then
      (f_B_of (xs (v3 + (1 : Int32)).toNatClampNeg) (xs (v3 + (2 : Int32)).toNatClampNeg) s).bind fun q31 =>
      (f_M_of (xs (v3 + (1 : Int32)).toNatClampNeg) (xs (v3 + (2 : Int32)).toNatClampNeg) s).bind fun q32 =>
      if q31 = q32 then
        f_Law_law_L18 xn xs n (v3 + (6 : Int32)) s
      else
        some ((0 : Int32), s)
      else none
      else none
    else
    if ((xs v3.toNatClampNeg) &&& (63 : Int32)) = (5 : Int32) then
      if zz_in (v3 + (1 : Int32)) xn = true then
      (f_B_feed (xs (v3 + (1 : Int32)).toNatClampNeg) s).bind fun q36 =>
      (f_M_feed (xs (v3 + (1 : Int32)).toNatClampNeg) q36.2).bind fun q37 =>
      if q36.1 = q37.1 then
        f_Law_law_L18 xn xs n (v3 + (6 : Int32)) q37.2
      else
        some ((0 : Int32), q37.2)
      else none
    else
    if ((xs v3.toNatClampNeg) &&& (63 : Int32)) = (6 : Int32) then
      (f_B_law s).bind fun q40 =>
      (f_M_law q40.2).bind fun q41 =>
      if q40.1 = q41.1 then
        f_Law_law_L18 xn xs n (v3 + (6 : Int32)) q41.2
      else
        some ((0 : Int32), q41.2)
    else
    if ((xs v3.toNatClampNeg) &&& (63 : Int32)) = (7 : Int32) then
      (f_B_room s).bind fun q44 =>
      (f_M_room q44.2).bind fun q45 =>
      if q44.1 = q45.1 then
        f_Law_law_L18 xn xs n (v3 + (6 : Int32)) q45.2
      else
        some ((0 : Int32), q45.2)
    else
    if ((xs v3.toNatClampNeg) &&& (63 : Int32)) = (8 : Int32) then
      if zz_in (v3 + (1 : Int32)) xn = true then
      (f_B_force (xs (v3 + (1 : Int32)).toNatClampNeg) s).bind fun q49 =>
      (f_M_force (xs (v3 + (1 : Int32)).toNatClampNeg) q49.2).bind fun q50 =>
      if q49.1 = q50.1 then
        f_Law_law_L18 xn xs n (v3 + (6 : Int32)) q50.2
      else
        some ((0 : Int32), q50.2)
      else none
    else
    if ((xs v3.toNatClampNeg) &&& (63 : Int32)) = (9 : Int32) then
      if zz_in (v3 + (1 : Int32)) xn = true then
      if zz_in (v3 + (2 : Int32)) xn = true then
      if zz_in (v3 + (3 : Int32)) xn = true then
      (f_B_turn (xs (v3 + (1 : Int32)).toNatClampNeg) (xs (v3 + (2 : Int32)).toNatClampNeg) (xs (v3 + (3 : Int32)).toNatClampNeg) s).bind fun q56 =>
      (f_M_turn (xs (v3 + (1 : Int32)).toNatClampNeg) (xs (v3 + (2 : Int32)).toNatClampNeg) (xs (v3 + (3 : Int32)).toNatClampNeg) q56.2).bind fun q57 =>
      if q56.1 = q57.1 then
        f_Law_law_L18 xn xs n (v3 + (6 : Int32)) q57.2
      else
        some ((0 : Int32), q57.2)
      else none
      else none
      else none
    else
    if ((xs v3.toNatClampNeg) &&& (63 : Int32)) = (10 : Int32) then
      if zz_in (v3 + (1 : Int32)) xn = true then
      if zz_in (v3 + (2 : Int32)) xn = true then
      if zz_in (v3 + (3 : Int32)) xn = true then
      (f_B_tosses (xs (v3 + (1 : Int32)).toNatClampNeg) (xs (v3 + (2 : Int32)).toNatClampNeg) (xs (v3 + (3 : Int32)).toNatClampNeg) s).bind fun q63 =>
      (f_M_tosses (xs (v3 + (1 : Int32)).toNatClampNeg) (xs (v3 + (2 : Int32)).toNatClampNeg) (xs (v3 + (3 : Int32)).toNatClampNeg) q63.2).bind fun q64 =>
      if q63.1 = q64.1 then
        f_Law_law_L18 xn xs n (v3 + (6 : Int32)) q64.2
      else
        some ((0 : Int32), q64.2)
      else none
      else none
      else none
    else
    if ((xs v3.toNatClampNeg) &&& (63 : Int32)) = (11 : Int32) then
      (f_B_clear s).bind fun q67 =>
      (f_M_clear q67.2).bind fun q68 =>
      if q67.1 = q68.1 then
        f_Law_law_L18 xn xs n (v3 + (6 : Int32)) q68.2
      else
        some ((0 : Int32), q68.2)
    else
    if ((xs v3.toNatClampNeg) &&& (63 : Int32)) = (12 : Int32) then
      if zz_in (v3 + (1 : Int32)) xn = true then
      if zz_in (v3 + (2 : Int32)) xn = true then
      (f_B_lies (xs (v3 + (1 : Int32)).toNatClampNeg) (xs (v3 + (2 : Int32)).toNatClampNeg) s).bind fun q73 =>
      (f_M_lies (xs (v3 + (1 : Int32)).toNatClampNeg) (xs (v3 + (2 : Int32)).toNatClampNeg) q73.2).bind fun q74 =>
      if q73.1 = q74.1 then
        f_Law_law_L18 xn xs n (v3 + (6 : Int32)) q74.2
      else
        some ((0 : Int32), q74.2)
      else none
      else none
    else
    if ((xs v3.toNatClampNeg) &&& (63 : Int32)) = (13 : Int32) then
      if zz_in (v3 + (1 : Int32)) xn = true then
      if zz_in (v3 + (2 : Int32)) xn = true then
      if zz_in (v3 + (3 : Int32)) xn = true then
      (f_B_sleeps (xs (v3 + (1 : Int32)).toNatClampNeg) (xs (v3 + (2 : Int32)).toNatClampNeg) (xs (v3 + (3 : Int32)).toNatClampNeg) s).bind fun q80 =>
      (f_M_sleeps (xs (v3 + (1 : Int32)).toNatClampNeg) (xs (v3 + (2 : Int32)).toNatClampNeg) (xs (v3 + (3 : Int32)).toNatClampNeg) q80.2).bind fun q81 =>
      if q80.1 = q81.1 then
        f_Law_law_L18 xn xs n (v3 + (6 : Int32)) q81.2
      else
        some ((0 : Int32), q81.2)
      else none
      else none
      else none
    else
    if ((xs v3.toNatClampNeg) &&& (63 : Int32)) = (14 : Int32) then
      if zz_in (v3 + (1 : Int32)) xn = true then
      if zz_in (v3 + (2 : Int32)) xn = true then
      (f_B_minutes (xs (v3 + (1 : Int32)).toNatClampNeg) (xs (v3 + (2 : Int32)).toNatClampNeg) s).bind fun q86 =>
      (f_M_minutes (xs (v3 + (1 : Int32)).toNatClampNeg) (xs (v3 + (2 : Int32)).toNatClampNeg) q86.2).bind fun q87 =>
      if q86.1 = q87.1 then
        f_Law_law_L18 xn xs n (v3 + (6 : Int32)) q87.2
      else
        some ((0 : Int32), q87.2)
      else none
      else none
    else
    if ((xs v3.toNatClampNeg) &&& (63 : Int32)) = (15 : Int32) then
      if zz_in (v3 + (1 : Int32)) xn = true then
      if zz_in (v3 + (2 : Int32)) xn = true then
      (f_B_wakes (xs (v3 + (1 : Int32)).toNatClampNeg) (xs (v3 + (2 : Int32)).toNatClampNeg) s).bind fun q92 =>
      (f_M_wakes (xs (v3 + (1 : Int32)).toNatClampNeg) (xs (v3 + (2 : Int32)).toNatClampNeg) q92.2).bind fun q93 =>
      if q92.1 = q93.1 then
        f_Law_law_L18 xn xs n (v3 + (6 : Int32)) q93.2
      else
        some ((0 : Int32), q93.2)
      else none
      else none
    else
    if ((xs v3.toNatClampNeg) &&& (63 : Int32)) = (16 : Int32) then
      if zz_in (v3 + (1 : Int32)) xn = true then
      (f_B_took (xs (v3 + (1 : Int32)).toNatClampNeg) s).bind fun q97 =>
      (f_M_took (xs (v3 + (1 : Int32)).toNatClampNeg) q97.2).bind fun q98 =>
      if q97.1 = q98.1 then
        f_Law_law_L18 xn xs n (v3 + (6 : Int32)) q98.2
      else
        some ((0 : Int32), q98.2)
      else none
    else
    if ((xs v3.toNatClampNeg) &&& (63 : Int32)) = (17 : Int32) then
      if zz_in (v3 + (1 : Int32)) xn = true then
      if zz_in (v3 + (2 : Int32)) xn = true then
      (f_B_broad (xs (v3 + (1 : Int32)).toNatClampNeg) (xs (v3 + (2 : Int32)).toNatClampNeg) s).bind fun q103 =>
      (f_M_broad (xs (v3 + (1 : Int32)).toNatClampNeg) (xs (v3 + (2 : Int32)).toNatClampNeg) q103.2).bind fun q104 =>
      if q103.1 = q104.1 then
        f_Law_law_L18 xn xs n (v3 + (6 : Int32)) q104.2
      else
        some ((0 : Int32), q104.2)
      else none
      else none
    else
    if ((xs v3.toNatClampNeg) &&& (63 : Int32)) = (18 : Int32) then
      if zz_in (v3 + (1 : Int32)) xn = true then
      if zz_in (v3 + (2 : Int32)) xn = true then
      (f_B_tucked (xs (v3 + (1 : Int32)).toNatClampNeg) (xs (v3 + (2 : Int32)).toNatClampNeg) s).bind fun q109 =>
      (f_M_tucked (xs (v3 + (1 : Int32)).toNatClampNeg) (xs (v3 + (2 : Int32)).toNatClampNeg) q109.2).bind fun q110 =>
      if q109.1 = q110.1 then
        f_Law_law_L18 xn xs n (v3 + (6 : Int32)) q110.2
      else
        some ((0 : Int32), q110.2)
      else none
      else none
    else
    if ((xs v3.toNatClampNeg) &&& (63 : Int32)) = (19 : Int32) then
      if zz_in (v3 + (1 : Int32)) xn = true then
      (f_B_window (xs (v3 + (1 : Int32)).toNatClampNeg) s).bind fun q114 =>
      (f_M_window (xs (v3 + (1 : Int32)).toNatClampNeg) q114.2).bind fun q115 =>
      if q114.1 = q115.1 then
        f_Law_law_L18 xn xs n (v3 + (6 : Int32)) q115.2
      else
        some ((0 : Int32), q115.2)
      else none
    else
    if ((xs v3.toNatClampNeg) &&& (63 : Int32)) = (20 : Int32) then
      if zz_in (v3 + (1 : Int32)) xn = true then
      (f_B_across (xs (v3 + (1 : Int32)).toNatClampNeg) s).bind fun q119 =>
      (f_M_across (xs (v3 + (1 : Int32)).toNatClampNeg) q119.2).bind fun q120 =>
      if q119.1 = q120.1 then
        f_Law_law_L18 xn xs n (v3 + (6 : Int32)) q120.2
      else
        some ((0 : Int32), q120.2)
      else none
    else
    if ((xs v3.toNatClampNeg) &&& (63 : Int32)) = (21 : Int32) then
      if zz_in (v3 + (1 : Int32)) xn = true then
      if zz_in (v3 + (2 : Int32)) xn = true then
      if zz_in (v3 + (3 : Int32)) xn = true then
      if zz_in (v3 + (4 : Int32)) xn = true then
      (f_B_drawn (xs (v3 + (1 : Int32)).toNatClampNeg) (xs (v3 + (2 : Int32)).toNatClampNeg) (xs (v3 + (3 : Int32)).toNatClampNeg) (xs (v3 + (4 : Int32)).toNatClampNeg) s).bind fun q127 =>
      (f_M_drawn (xs (v3 + (1 : Int32)).toNatClampNeg) (xs (v3 + (2 : Int32)).toNatClampNeg) (xs (v3 + (3 : Int32)).toNatClampNeg) (xs (v3 + (4 : Int32)).toNatClampNeg) q127.2).bind fun q128 =>
      if q127.1 = q128.1 then
        f_Law_law_L18 xn xs n (v3 + (6 : Int32)) q128.2
      else
        some ((0 : Int32), q128.2)
      else none
      else none
      else none
      else none
    else
    if ((xs v3.toNatClampNeg) &&& (63 : Int32)) = (22 : Int32) then
      if zz_in (v3 + (1 : Int32)) xn = true then
      if zz_in (v3 + (2 : Int32)) xn = true then
      if zz_in (v3 + (3 : Int32)) xn = true then
      (f_B_morning (xs (v3 + (1 : Int32)).toNatClampNeg) (xs (v3 + (2 : Int32)).toNatClampNeg) (xs (v3 + (3 : Int32)).toNatClampNeg) s).bind fun q134 =>
      (f_M_morning (xs (v3 + (1 : Int32)).toNatClampNeg) (xs (v3 + (2 : Int32)).toNatClampNeg) (xs (v3 + (3 : Int32)).toNatClampNeg) q134.2).bind fun q135 =>
      if q134.1 = q135.1 then
        f_Law_law_L18 xn xs n (v3 + (6 : Int32)) q135.2
      else
        some ((0 : Int32), q135.2)
      else none
      else none
      else none
    else
    if ((xs v3.toNatClampNeg) &&& (63 : Int32)) = (23 : Int32) then
      if zz_in (v3 + (1 : Int32)) xn = true then
      (f_B_film (xs (v3 + (1 : Int32)).toNatClampNeg) s).bind fun q139 =>
      (f_M_film (xs (v3 + (1 : Int32)).toNatClampNeg) q139.2).bind fun q140 =>
      if q139.1 = q140.1 then
        f_Law_law_L18 xn xs n (v3 + (6 : Int32)) q140.2
      else
        some ((0 : Int32), q140.2)
      else none
    else
    if ((xs v3.toNatClampNeg) &&& (63 : Int32)) = (24 : Int32) then
      (f_B_undo s).bind fun q143 =>
      (f_M_undo q143.2).bind fun q144 =>
      if q143.1 = q144.1 then
        f_Law_law_L18 xn xs n (v3 + (6 : Int32)) q144.2
      else
        some ((0 : Int32), q144.2)
    else
    if ((xs v3.toNatClampNeg) &&& (63 : Int32)) = (25 : Int32) then
      (f_B_redo s).bind fun q147 =>
      (f_M_redo q147.2).bind fun q148 =>
      if q147.1 = q148.1 then
        f_Law_law_L18 xn xs n (v3 + (6 : Int32)) q148.2
      else
        some ((0 : Int32), q148.2)
    else
    if ((xs v3.toNatClampNeg) &&& (63 : Int32)) = (26 : Int32) then
      if zz_in (v3 + (1 : Int32)) xn = true then
      (f_B_body (xs (v3 + (1 : Int32)).toNatClampNeg) s).bind fun q152 =>
      (f_M_body (xs (v3 + (1 : Int32)).toNatClampNeg) q152.2).bind fun q153 =>
      if q152.1 = q153.1 then
        f_Law_law_L18 xn xs n (v3 + (6 : Int32)) q153.2
      else
        some ((0 : Int32), q153.2)
      else none
    else
    if ((xs v3.toNatClampNeg) &&& (63 : Int32)) = (27 : Int32) then
      if zz_in (v3 + (1 : Int32)) xn = true then
      if zz_in (v3 + (2 : Int32)) xn = true then
      if zz_in (v3 + (3 : Int32)) xn = true then
      (f_B_act (xs (v3 + (1 : Int32)).toNatClampNeg) (xs (v3 + (2 : Int32)).toNatClampNeg) (xs (v3 + (3 : Int32)).toNatClampNeg) s).bind fun q159 =>
      (f_M_act (xs (v3 + (1 : Int32)).toNatClampNeg) (xs (v3 + (2 : Int32)).toNatClampNeg) (xs (v3 + (3 : Int32)).toNatClampNeg) q159.2).bind fun q160 =>
      if q159.1 = q160.1 then
        f_Law_law_L18 xn xs n (v3 + (6 : Int32)) q160.2
      else
        some ((0 : Int32), q160.2)
      else none
      else none
      else none
    else
    if ((xs v3.toNatClampNeg) &&& (63 : Int32)) = (28 : Int32) then
      if zz_in (v3 + (1 : Int32)) xn = true then
      (f_B_trace (xs (v3 + (1 : Int32)).toNatClampNeg) s).bind fun q164 =>
      (f_M_trace (xs (v3 + (1 : Int32)).toNatClampNeg) s).bind fun q165 =>
      if q164 = q165 then
        f_Law_law_L18 xn xs n (v3 + (6 : Int32)) s
      else
        some ((0 : Int32), s)
      else none
    else
    if ((xs v3.toNatClampNeg) &&& (63 : Int32)) = (29 : Int32) then
      if zz_in (v3 + (1 : Int32)) xn = true then
      if zz_in (v3 + (2 : Int32)) xn = true then
      (f_B_keep (xs (v3 + (1 : Int32)).toNatClampNeg) (xs (v3 + (2 : Int32)).toNatClampNeg) s).bind fun q170 =>
      (f_M_keep (xs (v3 + (1 : Int32)).toNatClampNeg) (xs (v3 + (2 : Int32)).toNatClampNeg) q170.2).bind fun q171 =>
      if q170.1 = q171.1 then
        f_Law_law_L18 xn xs n (v3 + (6 : Int32)) q171.2
      else
        some ((0 : Int32), q171.2)
      else none
      else none
    else
    if ((xs v3.toNatClampNeg) &&& (63 : Int32)) = (30 : Int32) then
      if zz_in (v3 + (1 : Int32)) xn = true then
      if zz_in (v3 + (2 : Int32)) xn = true then
      if zz_in (v3 + (3 : Int32)) xn = true then
      (f_B_row (xs (v3 + (1 : Int32)).toNatClampNeg) (xs (v3 + (2 : Int32)).toNatClampNeg) (xs (v3 + (3 : Int32)).toNatClampNeg) s).bind fun q177 =>
      (f_M_row (xs (v3 + (1 : Int32)).toNatClampNeg) (xs (v3 + (2 : Int32)).toNatClampNeg) (xs (v3 + (3 : Int32)).toNatClampNeg) q177.2).bind fun q178 =>
      if q177.1 = q178.1 then
        f_Law_law_L18 xn xs n (v3 + (6 : Int32)) q178.2
      else
        some ((0 : Int32), q178.2)
      else none
      else none
      else none
    else
    if ((xs v3.toNatClampNeg) &&& (63 : Int32)) = (31 : Int32) then
      if zz_in (v3 + (1 : Int32)) xn = true then
      if zz_in (v3 + (2 : Int32)) xn = true then
      if zz_in (v3 + (3 : Int32)) xn = true then
      if zz_in (v3 + (4 : Int32)) xn = true then
      (f_B_put (xs (v3 + (1 : Int32)).toNatClampNeg) (xs (v3 + (2 : Int32)).toNatClampNeg) (((xs (v3 + (3 : Int32)).toNatClampNeg).toInt64 <<< ((32 : Int32).toInt64 &&& 63)) ||| ((xs (v3 + (4 : Int32)).toNatClampNeg).toInt64 &&& (4294967295 : Int64))) s).bind fun q185 =>
      (f_M_put (xs (v3 + (1 : Int32)).toNatClampNeg) (xs (v3 + (2 : Int32)).toNatClampNeg) (((xs (v3 + (3 : Int32)).toNatClampNeg).toInt64 <<< ((32 : Int32).toInt64 &&& 63)) ||| ((xs (v3 + (4 : Int32)).toNatClampNeg).toInt64 &&& (4294967295 : Int64))) q185.2).bind fun q186 =>
      if q185.1 = q186.1 then
        f_Law_law_L18 xn xs n (v3 + (6 : Int32)) q186.2
      else
        some ((0 : Int32), q186.2)
      else none
      else none
      else none
      else none
    else
    if ((xs v3.toNatClampNeg) &&& (63 : Int32)) = (32 : Int32) then
      if zz_in (v3 + (1 : Int32)) xn = true then
      if zz_in (v3 + (2 : Int32)) xn = true then
      (f_B_element (xs (v3 + (1 : Int32)).toNatClampNeg) (xs (v3 + (2 : Int32)).toNatClampNeg) s).bind fun q191 =>
      (f_M_element (xs (v3 + (1 : Int32)).toNatClampNeg) (xs (v3 + (2 : Int32)).toNatClampNeg) s).bind fun q192 =>
      if (lg_cmp q191 q192) = 0 then
        f_Law_law_L18 xn xs n (v3 + (6 : Int32)) s
      else
        some ((0 : Int32), s)
      else none
      else none
    else
    if ((xs v3.toNatClampNeg) &&& (63 : Int32)) = (33 : Int32) then
      if zz_in (v3 + (1 : Int32)) xn = true then
      if zz_in (v3 + (2 : Int32)) xn = true then
      if zz_in (v3 + (3 : Int32)) xn = true then
      if zz_in (v3 + (4 : Int32)) xn = true then
      if zz_in (v3 + (5 : Int32)) xn = true then
      (f_B_shift (xs (v3 + (1 : Int32)).toNatClampNeg) (xs (v3 + (2 : Int32)).toNatClampNeg) (xs (v3 + (3 : Int32)).toNatClampNeg) (xs (v3 + (4 : Int32)).toNatClampNeg) (xs (v3 + (5 : Int32)).toNatClampNeg) s).bind fun q200 =>
      (f_M_shift (xs (v3 + (1 : Int32)).toNatClampNeg) (xs (v3 + (2 : Int32)).toNatClampNeg) (xs (v3 + (3 : Int32)).toNatClampNeg) (xs (v3 + (4 : Int32)).toNatClampNeg) (xs (v3 + (5 : Int32)).toNatClampNeg) q200.2).bind fun q201 =>
      if q200.1 = q201.1 then
        f_Law_law_L18 xn xs n (v3 + (6 : Int32)) q201.2
      else
        some ((0 : Int32), q201.2)
      else none
      else none
      else none
      else none
      else none
    else
    if ((xs v3.toNatClampNeg) &&& (63 : Int32)) = (34 : Int32) then
      if zz_in (v3 + (1 : Int32)) xn = true then
      if zz_in (v3 + (2 : Int32)) xn = true then
      (f_B_taken (xs (v3 + (1 : Int32)).toNatClampNeg) (xs (v3 + (2 : Int32)).toNatClampNeg) s).bind fun q206 =>
      (f_M_taken (xs (v3 + (1 : Int32)).toNatClampNeg) (xs (v3 + (2 : Int32)).toNatClampNeg) s).bind fun q207 =>
      if q206 = q207 then
        f_Law_law_L18 xn xs n (v3 + (6 : Int32)) s
      else
        some ((0 : Int32), s)
      else none
      else none
    else
    if ((xs v3.toNatClampNeg) &&& (63 : Int32)) = (35 : Int32) then
      if zz_in (v3 + (1 : Int32)) xn = true then
      if (f_B_count (xs (v3 + (1 : Int32)).toNatClampNeg) s) = (f_M_count (xs (v3 + (1 : Int32)).toNatClampNeg) s) then
        f_Law_law_L18 xn xs n (v3 + (6 : Int32)) s
      else
        some ((0 : Int32), s)
      else none
    else
    f_Law_law_L18 xn xs n (v3 + (6 : Int32)) s
    else none
set_option maxHeartbeats 4000000 in
set_option maxRecDepth 100000 in
theorem zf_Law_law_L18 {G : zz_G} {l : Launch} {Z : zz_Z} {nm : String} (hex : G.2.2.2.2 = false) {q : Int32 × zz_S} (C : zz_Cx G l "OneBlanketLaw" nm code 4 (some .boolean) 300 (some (.int q.1), zsh, q.2) Z) (xn : Nat) (xs : Nat → Int32) (hxs : zz_Sc G l code 1500 xn xs Z) : ∀ (n : Nat) (v3 : Int32) (s : zz_S), f_Law_law_L18 xn xs n v3 s = some q → Z 18 [some (.ref 1500), some (.ref 0), some (.ref 79), some (.int v3)] [] zsh s := by
  intro n
  induction n with
  | zero => intro v3 s h; rw [f_Law_law_L18] at h; cases h
  | succ n ih =>
  intro v3 s h
  rw [f_Law_law_L18] at h
  refine zz_iload_n (i := 3) (pc := 18) C rfl rfl d_Law_law_18 ?_
  refine zz_aload_n (i := 0) (pc := 19) C rfl rfl d_Law_law_19 ?_
  refine zz_slen (pc := 20) C hxs d_Law_law_20 ?_
  refine zz_bipush (pc := 21) C zkb_6 d_Law_law_21 ?_
  refine zz_isub (pc := 23) C d_Law_law_23 ?_
  refine zz_icmp_gt (tgt := 1357) (pc := 24) C (by decide) d_Law_law_24 (fun hc1 => ?_) (fun hc1 => ?_)
  · rw [if_pos hc1] at h
    refine zz_iconst (pc := 1357) C zki_1 d_Law_law_1357 ?_
    replace h := Option.some.inj h
    subst h
    exact zz_ret (pc := 1358) C (v := some (.int (1 : Int32))) d_Law_law_1358 (Or.inl ⟨_, _, rfl, rfl, rfl, (by decide)⟩) rfl
  · rw [if_neg hc1] at h
    refine zz_aload_n (i := 0) (pc := 27) C rfl rfl d_Law_law_27 ?_
    refine zz_iload_n (i := 3) (pc := 28) C rfl rfl d_Law_law_28 ?_
    obtain ⟨hi2, h⟩ := zz_ckE h
    refine zz_sld (pc := 29) C hxs rfl hi2 d_Law_law_29 ?_
    refine zz_bipush (pc := 30) C zkb_63 d_Law_law_30 ?_
    refine zz_iand (pc := 32) C d_Law_law_32 ?_
    by_cases hc3 : ((xs v3.toNatClampNeg) &&& (63 : Int32)) = (0 : Int32)
    · rw [if_pos hc3] at h
      refine zz_tableIn (tgt := 192) (off := 159) (pc := 33) C (by rw [hc3]; decide) (by rw [hc3]; decide) (by rw [hc3]; decide) (by decide) d_Law_law_33 ?_
      refine zz_aload_n (i := 1) (pc := 192) C rfl rfl d_Law_law_192 ?_
      refine zz_aload_n (i := 0) (pc := 193) C rfl rfl d_Law_law_193 ?_
      refine zz_iload_n (i := 3) (pc := 194) C rfl rfl d_Law_law_194 ?_
      refine zz_iconst (pc := 195) C zki_1 d_Law_law_195 ?_
      refine zz_iadd (pc := 196) C d_Law_law_196 ?_
      obtain ⟨hi4, h⟩ := zz_ckE h
      refine zz_sld (pc := 197) C hxs rfl hi4 d_Law_law_197 ?_
      obtain ⟨q5, hq5, h⟩ := zz_bdE h
      refine zz_cVi (as := [.int (xs (v3 + (1 : Int32)).toNatClampNeg)]) (st := []) (pc := 198) C (zm_B_wide hq5) zcv_B_wide zsh_0 zl_Law_13 (by omega) (Nat.le_of_ble_eq_true rfl) d_Law_law_198 rfl rfl ?_
      refine zz_aload_n (i := 2) (pc := 201) C rfl rfl d_Law_law_201 ?_
      refine zz_aload_n (i := 0) (pc := 202) C rfl rfl d_Law_law_202 ?_
      refine zz_iload_n (i := 3) (pc := 203) C rfl rfl d_Law_law_203 ?_
      refine zz_iconst (pc := 204) C zki_1 d_Law_law_204 ?_
      refine zz_iadd (pc := 205) C d_Law_law_205 ?_
      refine zz_sld (pc := 206) C hxs rfl hi4 d_Law_law_206 ?_
      obtain ⟨q6, hq6, h⟩ := zz_bdE h
      refine zz_cVi (as := [.int (xs (v3 + (1 : Int32)).toNatClampNeg)]) (st := [.int q5.1]) (pc := 207) C (zm_M_wide hq6) zcv_M_wide zsh_79 zl_Law_17 (by omega) (Nat.le_of_ble_eq_true rfl) d_Law_law_207 rfl rfl ?_
      refine zz_icmp_eq (tgt := 1351) (pc := 210) C (by decide) d_Law_law_210 (fun hc7 => ?_) (fun hc7 => ?_)
      · rw [if_pos hc7] at h
        refine zz_iinc (lo' := [some (.ref 1500), some (.ref 0), some (.ref 79), some (.int (v3 + (6 : Int32)))]) (pc := 1351) C rfl (zz_inc zki_6) rfl rfl d_Law_law_1351 ?_
        refine zz_goto (tgt := 18) (pc := 1354) C (by decide) d_Law_law_1354 ?_
        exact ih (v3 + (6 : Int32)) q6.2 h
      · rw [if_neg hc7] at h
        refine zz_iconst (pc := 213) C zki_0 d_Law_law_213 ?_
        replace h := Option.some.inj h
        subst h
        exact zz_ret (pc := 214) C (v := some (.int (0 : Int32))) d_Law_law_214 (Or.inl ⟨_, _, rfl, rfl, rfl, (by decide)⟩) rfl
    · rw [if_neg hc3] at h
      by_cases hc8 : ((xs v3.toNatClampNeg) &&& (63 : Int32)) = (1 : Int32)
      · rw [if_pos hc8] at h
        refine zz_tableIn (tgt := 215) (off := 182) (pc := 33) C (by rw [hc8]; decide) (by rw [hc8]; decide) (by rw [hc8]; decide) (by decide) d_Law_law_33 ?_
        refine zz_aload_n (i := 1) (pc := 215) C rfl rfl d_Law_law_215 ?_
        refine zz_aload_n (i := 0) (pc := 216) C rfl rfl d_Law_law_216 ?_
        refine zz_iload_n (i := 3) (pc := 217) C rfl rfl d_Law_law_217 ?_
        refine zz_iconst (pc := 218) C zki_1 d_Law_law_218 ?_
        refine zz_iadd (pc := 219) C d_Law_law_219 ?_
        obtain ⟨hi9, h⟩ := zz_ckE h
        refine zz_sld (pc := 220) C hxs rfl hi9 d_Law_law_220 ?_
        refine zz_aload_n (i := 0) (pc := 221) C rfl rfl d_Law_law_221 ?_
        refine zz_iload_n (i := 3) (pc := 222) C rfl rfl d_Law_law_222 ?_
        refine zz_iconst (pc := 223) C zki_2 d_Law_law_223 ?_
        refine zz_iadd (pc := 224) C d_Law_law_224 ?_
        obtain ⟨hi10, h⟩ := zz_ckE h
        refine zz_sld (pc := 225) C hxs rfl hi10 d_Law_law_225 ?_
        obtain ⟨q11, hq11, h⟩ := zz_bdE h
        refine zz_cVi (as := [.int (xs (v3 + (1 : Int32)).toNatClampNeg), .int (xs (v3 + (2 : Int32)).toNatClampNeg)]) (st := []) (pc := 226) C (zm_B_sleeper hq11) zcv_B_sleeper zsh_0 zl_Law_18 (by omega) (Nat.le_of_ble_eq_true rfl) d_Law_law_226 rfl rfl ?_
        refine zz_aload_n (i := 2) (pc := 229) C rfl rfl d_Law_law_229 ?_
        refine zz_aload_n (i := 0) (pc := 230) C rfl rfl d_Law_law_230 ?_
        refine zz_iload_n (i := 3) (pc := 231) C rfl rfl d_Law_law_231 ?_
        refine zz_iconst (pc := 232) C zki_1 d_Law_law_232 ?_
        refine zz_iadd (pc := 233) C d_Law_law_233 ?_
        refine zz_sld (pc := 234) C hxs rfl hi9 d_Law_law_234 ?_
        refine zz_aload_n (i := 0) (pc := 235) C rfl rfl d_Law_law_235 ?_
        refine zz_iload_n (i := 3) (pc := 236) C rfl rfl d_Law_law_236 ?_
        refine zz_iconst (pc := 237) C zki_2 d_Law_law_237 ?_
        refine zz_iadd (pc := 238) C d_Law_law_238 ?_
        refine zz_sld (pc := 239) C hxs rfl hi10 d_Law_law_239 ?_
        obtain ⟨q12, hq12, h⟩ := zz_bdE h
        refine zz_cVi (as := [.int (xs (v3 + (1 : Int32)).toNatClampNeg), .int (xs (v3 + (2 : Int32)).toNatClampNeg)]) (st := [.int q11.1]) (pc := 240) C (zm_M_sleeper hq12) zcv_M_sleeper zsh_79 zl_Law_22 (by omega) (Nat.le_of_ble_eq_true rfl) d_Law_law_240 rfl rfl ?_
        refine zz_icmp_eq (tgt := 1351) (pc := 243) C (by decide) d_Law_law_243 (fun hc13 => ?_) (fun hc13 => ?_)
        · rw [if_pos hc13] at h
          refine zz_iinc (lo' := [some (.ref 1500), some (.ref 0), some (.ref 79), some (.int (v3 + (6 : Int32)))]) (pc := 1351) C rfl (zz_inc zki_6) rfl rfl d_Law_law_1351 ?_
          refine zz_goto (tgt := 18) (pc := 1354) C (by decide) d_Law_law_1354 ?_
          exact ih (v3 + (6 : Int32)) q12.2 h
        · rw [if_neg hc13] at h
          refine zz_iconst (pc := 246) C zki_0 d_Law_law_246 ?_
          replace h := Option.some.inj h
          subst h
          exact zz_ret (pc := 247) C (v := some (.int (0 : Int32))) d_Law_law_247 (Or.inl ⟨_, _, rfl, rfl, rfl, (by decide)⟩) rfl
      · rw [if_neg hc8] at h
        by_cases hc14 : ((xs v3.toNatClampNeg) &&& (63 : Int32)) = (2 : Int32)
        · rw [if_pos hc14] at h
          refine zz_tableIn (tgt := 248) (off := 215) (pc := 33) C (by rw [hc14]; decide) (by rw [hc14]; decide) (by rw [hc14]; decide) (by decide) d_Law_law_33 ?_
          refine zz_aload_n (i := 1) (pc := 248) C rfl rfl d_Law_law_248 ?_
          refine zz_aload_n (i := 0) (pc := 249) C rfl rfl d_Law_law_249 ?_
          refine zz_iload_n (i := 3) (pc := 250) C rfl rfl d_Law_law_250 ?_
          refine zz_iconst (pc := 251) C zki_1 d_Law_law_251 ?_
          refine zz_iadd (pc := 252) C d_Law_law_252 ?_
          obtain ⟨hi15, h⟩ := zz_ckE h
          refine zz_sld (pc := 253) C hxs rfl hi15 d_Law_law_253 ?_
          refine zz_aload_n (i := 0) (pc := 254) C rfl rfl d_Law_law_254 ?_
          refine zz_iload_n (i := 3) (pc := 255) C rfl rfl d_Law_law_255 ?_
          refine zz_iconst (pc := 256) C zki_2 d_Law_law_256 ?_
          refine zz_iadd (pc := 257) C d_Law_law_257 ?_
          obtain ⟨hi16, h⟩ := zz_ckE h
          refine zz_sld (pc := 258) C hxs rfl hi16 d_Law_law_258 ?_
          refine zz_aload_n (i := 0) (pc := 259) C rfl rfl d_Law_law_259 ?_
          refine zz_iload_n (i := 3) (pc := 260) C rfl rfl d_Law_law_260 ?_
          refine zz_iconst (pc := 261) C zki_3 d_Law_law_261 ?_
          refine zz_iadd (pc := 262) C d_Law_law_262 ?_
          obtain ⟨hi17, h⟩ := zz_ckE h
          refine zz_sld (pc := 263) C hxs rfl hi17 d_Law_law_263 ?_
          obtain ⟨q18, hq18, h⟩ := zz_bdE h
          refine zz_cVi (as := [.int (xs (v3 + (1 : Int32)).toNatClampNeg), .int (xs (v3 + (2 : Int32)).toNatClampNeg), .int (xs (v3 + (3 : Int32)).toNatClampNeg)]) (st := []) (pc := 264) C (zm_B_cover hq18) zcv_B_cover zsh_0 zl_Law_23 (by omega) (Nat.le_of_ble_eq_true rfl) d_Law_law_264 rfl rfl ?_
          refine zz_aload_n (i := 2) (pc := 267) C rfl rfl d_Law_law_267 ?_
          refine zz_aload_n (i := 0) (pc := 268) C rfl rfl d_Law_law_268 ?_
          refine zz_iload_n (i := 3) (pc := 269) C rfl rfl d_Law_law_269 ?_
          refine zz_iconst (pc := 270) C zki_1 d_Law_law_270 ?_
          refine zz_iadd (pc := 271) C d_Law_law_271 ?_
          refine zz_sld (pc := 272) C hxs rfl hi15 d_Law_law_272 ?_
          refine zz_aload_n (i := 0) (pc := 273) C rfl rfl d_Law_law_273 ?_
          refine zz_iload_n (i := 3) (pc := 274) C rfl rfl d_Law_law_274 ?_
          refine zz_iconst (pc := 275) C zki_2 d_Law_law_275 ?_
          refine zz_iadd (pc := 276) C d_Law_law_276 ?_
          refine zz_sld (pc := 277) C hxs rfl hi16 d_Law_law_277 ?_
          refine zz_aload_n (i := 0) (pc := 278) C rfl rfl d_Law_law_278 ?_
          refine zz_iload_n (i := 3) (pc := 279) C rfl rfl d_Law_law_279 ?_
          refine zz_iconst (pc := 280) C zki_3 d_Law_law_280 ?_
          refine zz_iadd (pc := 281) C d_Law_law_281 ?_
          refine zz_sld (pc := 282) C hxs rfl hi17 d_Law_law_282 ?_
          obtain ⟨q19, hq19, h⟩ := zz_bdE h
          refine zz_cVi (as := [.int (xs (v3 + (1 : Int32)).toNatClampNeg), .int (xs (v3 + (2 : Int32)).toNatClampNeg), .int (xs (v3 + (3 : Int32)).toNatClampNeg)]) (st := [.int q18.1]) (pc := 283) C (zm_M_cover hq19) zcv_M_cover zsh_79 zl_Law_27 (by omega) (Nat.le_of_ble_eq_true rfl) d_Law_law_283 rfl rfl ?_
          refine zz_icmp_eq (tgt := 1351) (pc := 286) C (by decide) d_Law_law_286 (fun hc20 => ?_) (fun hc20 => ?_)
          · rw [if_pos hc20] at h
            refine zz_iinc (lo' := [some (.ref 1500), some (.ref 0), some (.ref 79), some (.int (v3 + (6 : Int32)))]) (pc := 1351) C rfl (zz_inc zki_6) rfl rfl d_Law_law_1351 ?_
            refine zz_goto (tgt := 18) (pc := 1354) C (by decide) d_Law_law_1354 ?_
            exact ih (v3 + (6 : Int32)) q19.2 h
          · rw [if_neg hc20] at h
            refine zz_iconst (pc := 289) C zki_0 d_Law_law_289 ?_
            replace h := Option.some.inj h
            subst h
            exact zz_ret (pc := 290) C (v := some (.int (0 : Int32))) d_Law_law_290 (Or.inl ⟨_, _, rfl, rfl, rfl, (by decide)⟩) rfl
        · rw [if_neg hc14] at h
          by_cases hc21 : ((xs v3.toNatClampNeg) &&& (63 : Int32)) = (3 : Int32)
          · rw [if_pos hc21] at h
            refine zz_tableIn (tgt := 291) (off := 258) (pc := 33) C (by rw [hc21]; decide) (by rw [hc21]; decide) (by rw [hc21]; decide) (by decide) d_Law_law_33 ?_
            refine zz_aload_n (i := 1) (pc := 291) C rfl rfl d_Law_law_291 ?_
            refine zz_aload_n (i := 0) (pc := 292) C rfl rfl d_Law_law_292 ?_
            refine zz_iload_n (i := 3) (pc := 293) C rfl rfl d_Law_law_293 ?_
            refine zz_iconst (pc := 294) C zki_1 d_Law_law_294 ?_
            refine zz_iadd (pc := 295) C d_Law_law_295 ?_
            obtain ⟨hi22, h⟩ := zz_ckE h
            refine zz_sld (pc := 296) C hxs rfl hi22 d_Law_law_296 ?_
            refine zz_aload_n (i := 0) (pc := 297) C rfl rfl d_Law_law_297 ?_
            refine zz_iload_n (i := 3) (pc := 298) C rfl rfl d_Law_law_298 ?_
            refine zz_iconst (pc := 299) C zki_2 d_Law_law_299 ?_
            refine zz_iadd (pc := 300) C d_Law_law_300 ?_
            obtain ⟨hi23, h⟩ := zz_ckE h
            refine zz_sld (pc := 301) C hxs rfl hi23 d_Law_law_301 ?_
            refine zz_aload_n (i := 0) (pc := 302) C rfl rfl d_Law_law_302 ?_
            refine zz_iload_n (i := 3) (pc := 303) C rfl rfl d_Law_law_303 ?_
            refine zz_iconst (pc := 304) C zki_3 d_Law_law_304 ?_
            refine zz_iadd (pc := 305) C d_Law_law_305 ?_
            obtain ⟨hi24, h⟩ := zz_ckE h
            refine zz_sld (pc := 306) C hxs rfl hi24 d_Law_law_306 ?_
            obtain ⟨q25, hq25, h⟩ := zz_bdE h
            refine zz_cVi (as := [.int (xs (v3 + (1 : Int32)).toNatClampNeg), .int (xs (v3 + (2 : Int32)).toNatClampNeg), .int (xs (v3 + (3 : Int32)).toNatClampNeg)]) (st := []) (pc := 307) C (zm_B_mend hex hq25) zcv_B_mend zsh_0 zl_Law_28 (by omega) (Nat.le_of_ble_eq_true rfl) d_Law_law_307 rfl rfl ?_
            refine zz_aload_n (i := 2) (pc := 310) C rfl rfl d_Law_law_310 ?_
            refine zz_aload_n (i := 0) (pc := 311) C rfl rfl d_Law_law_311 ?_
            refine zz_iload_n (i := 3) (pc := 312) C rfl rfl d_Law_law_312 ?_
            refine zz_iconst (pc := 313) C zki_1 d_Law_law_313 ?_
            refine zz_iadd (pc := 314) C d_Law_law_314 ?_
            refine zz_sld (pc := 315) C hxs rfl hi22 d_Law_law_315 ?_
            refine zz_aload_n (i := 0) (pc := 316) C rfl rfl d_Law_law_316 ?_
            refine zz_iload_n (i := 3) (pc := 317) C rfl rfl d_Law_law_317 ?_
            refine zz_iconst (pc := 318) C zki_2 d_Law_law_318 ?_
            refine zz_iadd (pc := 319) C d_Law_law_319 ?_
            refine zz_sld (pc := 320) C hxs rfl hi23 d_Law_law_320 ?_
            refine zz_aload_n (i := 0) (pc := 321) C rfl rfl d_Law_law_321 ?_
            refine zz_iload_n (i := 3) (pc := 322) C rfl rfl d_Law_law_322 ?_
            refine zz_iconst (pc := 323) C zki_3 d_Law_law_323 ?_
            refine zz_iadd (pc := 324) C d_Law_law_324 ?_
            refine zz_sld (pc := 325) C hxs rfl hi24 d_Law_law_325 ?_
            obtain ⟨q26, hq26, h⟩ := zz_bdE h
            refine zz_cVi (as := [.int (xs (v3 + (1 : Int32)).toNatClampNeg), .int (xs (v3 + (2 : Int32)).toNatClampNeg), .int (xs (v3 + (3 : Int32)).toNatClampNeg)]) (st := [.int q25.1]) (pc := 326) C (zm_M_mend hq26) zcv_M_mend zsh_79 zl_Law_31 (by omega) (Nat.le_of_ble_eq_true rfl) d_Law_law_326 rfl rfl ?_
            refine zz_icmp_eq (tgt := 1351) (pc := 329) C (by decide) d_Law_law_329 (fun hc27 => ?_) (fun hc27 => ?_)
            · rw [if_pos hc27] at h
              refine zz_iinc (lo' := [some (.ref 1500), some (.ref 0), some (.ref 79), some (.int (v3 + (6 : Int32)))]) (pc := 1351) C rfl (zz_inc zki_6) rfl rfl d_Law_law_1351 ?_
              refine zz_goto (tgt := 18) (pc := 1354) C (by decide) d_Law_law_1354 ?_
              exact ih (v3 + (6 : Int32)) q26.2 h
            · rw [if_neg hc27] at h
              refine zz_iconst (pc := 332) C zki_0 d_Law_law_332 ?_
              replace h := Option.some.inj h
              subst h
              exact zz_ret (pc := 333) C (v := some (.int (0 : Int32))) d_Law_law_333 (Or.inl ⟨_, _, rfl, rfl, rfl, (by decide)⟩) rfl
          · rw [if_neg hc21] at h
            by_cases hc28 : ((xs v3.toNatClampNeg) &&& (63 : Int32)) = (4 : Int32)
            · rw [if_pos hc28] at h
              refine zz_tableIn (tgt := 334) (off := 301) (pc := 33) C (by rw [hc28]; decide) (by rw [hc28]; decide) (by rw [hc28]; decide) (by decide) d_Law_law_33 ?_
              refine zz_aload_n (i := 1) (pc := 334) C rfl rfl d_Law_law_334 ?_
              refine zz_aload_n (i := 0) (pc := 335) C rfl rfl d_Law_law_335 ?_
              refine zz_iload_n (i := 3) (pc := 336) C rfl rfl d_Law_law_336 ?_
              refine zz_iconst (pc := 337) C zki_1 d_Law_law_337 ?_
              refine zz_iadd (pc := 338) C d_Law_law_338 ?_
              obtain ⟨hi29, h⟩ := zz_ckE h
              refine zz_sld (pc := 339) C hxs rfl hi29 d_Law_law_339 ?_
              refine zz_aload_n (i := 0) (pc := 340) C rfl rfl d_Law_law_340 ?_
              refine zz_iload_n (i := 3) (pc := 341) C rfl rfl d_Law_law_341 ?_
              refine zz_iconst (pc := 342) C zki_2 d_Law_law_342 ?_
              refine zz_iadd (pc := 343) C d_Law_law_343 ?_
              obtain ⟨hi30, h⟩ := zz_ckE h
              refine zz_sld (pc := 344) C hxs rfl hi30 d_Law_law_344 ?_
              obtain ⟨q31, hq31, h⟩ := zz_bdE h
              refine zz_cVi (as := [.int (xs (v3 + (1 : Int32)).toNatClampNeg), .int (xs (v3 + (2 : Int32)).toNatClampNeg)]) (st := []) (pc := 345) C (zm_B_of hq31) zcv_B_of zsh_0 zl_Law_32 (by omega) (Nat.le_of_ble_eq_true rfl) d_Law_law_345 rfl rfl ?_
              refine zz_aload_n (i := 2) (pc := 348) C rfl rfl d_Law_law_348 ?_
              refine zz_aload_n (i := 0) (pc := 349) C rfl rfl d_Law_law_349 ?_
              refine zz_iload_n (i := 3) (pc := 350) C rfl rfl d_Law_law_350 ?_
              refine zz_iconst (pc := 351) C zki_1 d_Law_law_351 ?_
              refine zz_iadd (pc := 352) C d_Law_law_352 ?_
              refine zz_sld (pc := 353) C hxs rfl hi29 d_Law_law_353 ?_
              refine zz_aload_n (i := 0) (pc := 354) C rfl rfl d_Law_law_354 ?_
              refine zz_iload_n (i := 3) (pc := 355) C rfl rfl d_Law_law_355 ?_
              refine zz_iconst (pc := 356) C zki_2 d_Law_law_356 ?_
              refine zz_iadd (pc := 357) C d_Law_law_357 ?_
              refine zz_sld (pc := 358) C hxs rfl hi30 d_Law_law_358 ?_
              obtain ⟨q32, hq32, h⟩ := zz_bdE h
              refine zz_cVi (as := [.int (xs (v3 + (1 : Int32)).toNatClampNeg), .int (xs (v3 + (2 : Int32)).toNatClampNeg)]) (st := [.int q31]) (pc := 359) C (zm_M_of hq32) zcv_M_of zsh_79 zl_Law_35 (by omega) (Nat.le_of_ble_eq_true rfl) d_Law_law_359 rfl rfl ?_
              refine zz_icmp_eq (tgt := 1351) (pc := 362) C (by decide) d_Law_law_362 (fun hc33 => ?_) (fun hc33 => ?_)
              · rw [if_pos hc33] at h
                refine zz_iinc (lo' := [some (.ref 1500), some (.ref 0), some (.ref 79), some (.int (v3 + (6 : Int32)))]) (pc := 1351) C rfl (zz_inc zki_6) rfl rfl d_Law_law_1351 ?_
                refine zz_goto (tgt := 18) (pc := 1354) C (by decide) d_Law_law_1354 ?_
                exact ih (v3 + (6 : Int32)) s h
              · rw [if_neg hc33] at h
                refine zz_iconst (pc := 365) C zki_0 d_Law_law_365 ?_
                replace h := Option.some.inj h
                subst h
                exact zz_ret (pc := 366) C (v := some (.int (0 : Int32))) d_Law_law_366 (Or.inl ⟨_, _, rfl, rfl, rfl, (by decide)⟩) rfl
            · rw [if_neg hc28] at h
              by_cases hc34 : ((xs v3.toNatClampNeg) &&& (63 : Int32)) = (5 : Int32)
              · rw [if_pos hc34] at h
                refine zz_tableIn (tgt := 367) (off := 334) (pc := 33) C (by rw [hc34]; decide) (by rw [hc34]; decide) (by rw [hc34]; decide) (by decide) d_Law_law_33 ?_
                refine zz_aload_n (i := 1) (pc := 367) C rfl rfl d_Law_law_367 ?_
                refine zz_aload_n (i := 0) (pc := 368) C rfl rfl d_Law_law_368 ?_
                refine zz_iload_n (i := 3) (pc := 369) C rfl rfl d_Law_law_369 ?_
                refine zz_iconst (pc := 370) C zki_1 d_Law_law_370 ?_
                refine zz_iadd (pc := 371) C d_Law_law_371 ?_
                obtain ⟨hi35, h⟩ := zz_ckE h
                refine zz_sld (pc := 372) C hxs rfl hi35 d_Law_law_372 ?_
                obtain ⟨q36, hq36, h⟩ := zz_bdE h
                refine zz_cVi (as := [.int (xs (v3 + (1 : Int32)).toNatClampNeg)]) (st := []) (pc := 373) C (zm_B_feed hq36) zcv_B_feed zsh_0 zl_Law_36 (by omega) (Nat.le_of_ble_eq_true rfl) d_Law_law_373 rfl rfl ?_
                refine zz_aload_n (i := 2) (pc := 376) C rfl rfl d_Law_law_376 ?_
                refine zz_aload_n (i := 0) (pc := 377) C rfl rfl d_Law_law_377 ?_
                refine zz_iload_n (i := 3) (pc := 378) C rfl rfl d_Law_law_378 ?_
                refine zz_iconst (pc := 379) C zki_1 d_Law_law_379 ?_
                refine zz_iadd (pc := 380) C d_Law_law_380 ?_
                refine zz_sld (pc := 381) C hxs rfl hi35 d_Law_law_381 ?_
                obtain ⟨q37, hq37, h⟩ := zz_bdE h
                refine zz_cVi (as := [.int (xs (v3 + (1 : Int32)).toNatClampNeg)]) (st := [.int q36.1]) (pc := 382) C (zm_M_feed hq37) zcv_M_feed zsh_79 zl_Law_39 (by omega) (Nat.le_of_ble_eq_true rfl) d_Law_law_382 rfl rfl ?_
                refine zz_icmp_eq (tgt := 1351) (pc := 385) C (by decide) d_Law_law_385 (fun hc38 => ?_) (fun hc38 => ?_)
                · rw [if_pos hc38] at h
                  refine zz_iinc (lo' := [some (.ref 1500), some (.ref 0), some (.ref 79), some (.int (v3 + (6 : Int32)))]) (pc := 1351) C rfl (zz_inc zki_6) rfl rfl d_Law_law_1351 ?_
                  refine zz_goto (tgt := 18) (pc := 1354) C (by decide) d_Law_law_1354 ?_
                  exact ih (v3 + (6 : Int32)) q37.2 h
                · rw [if_neg hc38] at h
                  refine zz_iconst (pc := 388) C zki_0 d_Law_law_388 ?_
                  replace h := Option.some.inj h
                  subst h
                  exact zz_ret (pc := 389) C (v := some (.int (0 : Int32))) d_Law_law_389 (Or.inl ⟨_, _, rfl, rfl, rfl, (by decide)⟩) rfl
              · rw [if_neg hc34] at h
                by_cases hc39 : ((xs v3.toNatClampNeg) &&& (63 : Int32)) = (6 : Int32)
                · rw [if_pos hc39] at h
                  refine zz_tableIn (tgt := 390) (off := 357) (pc := 33) C (by rw [hc39]; decide) (by rw [hc39]; decide) (by rw [hc39]; decide) (by decide) d_Law_law_33 ?_
                  refine zz_aload_n (i := 1) (pc := 390) C rfl rfl d_Law_law_390 ?_
                  obtain ⟨q40, hq40, h⟩ := zz_bdE h
                  refine zz_cVi (as := []) (st := []) (pc := 391) C (zm_B_law hex hq40) zcv_B_law zsh_0 zl_Law_40 (by omega) (Nat.le_of_ble_eq_true rfl) d_Law_law_391 rfl rfl ?_
                  refine zz_aload_n (i := 2) (pc := 394) C rfl rfl d_Law_law_394 ?_
                  obtain ⟨q41, hq41, h⟩ := zz_bdE h
                  refine zz_cVi (as := []) (st := [.int q40.1]) (pc := 395) C (zm_M_law hq41) zcv_M_law zsh_79 zl_Law_44 (by omega) (Nat.le_of_ble_eq_true rfl) d_Law_law_395 rfl rfl ?_
                  refine zz_icmp_eq (tgt := 1351) (pc := 398) C (by decide) d_Law_law_398 (fun hc42 => ?_) (fun hc42 => ?_)
                  · rw [if_pos hc42] at h
                    refine zz_iinc (lo' := [some (.ref 1500), some (.ref 0), some (.ref 79), some (.int (v3 + (6 : Int32)))]) (pc := 1351) C rfl (zz_inc zki_6) rfl rfl d_Law_law_1351 ?_
                    refine zz_goto (tgt := 18) (pc := 1354) C (by decide) d_Law_law_1354 ?_
                    exact ih (v3 + (6 : Int32)) q41.2 h
                  · rw [if_neg hc42] at h
                    refine zz_iconst (pc := 401) C zki_0 d_Law_law_401 ?_
                    replace h := Option.some.inj h
                    subst h
                    exact zz_ret (pc := 402) C (v := some (.int (0 : Int32))) d_Law_law_402 (Or.inl ⟨_, _, rfl, rfl, rfl, (by decide)⟩) rfl
                · rw [if_neg hc39] at h
                  by_cases hc43 : ((xs v3.toNatClampNeg) &&& (63 : Int32)) = (7 : Int32)
                  · rw [if_pos hc43] at h
                    refine zz_tableIn (tgt := 403) (off := 370) (pc := 33) C (by rw [hc43]; decide) (by rw [hc43]; decide) (by rw [hc43]; decide) (by decide) d_Law_law_33 ?_
                    refine zz_aload_n (i := 1) (pc := 403) C rfl rfl d_Law_law_403 ?_
                    obtain ⟨q44, hq44, h⟩ := zz_bdE h
                    refine zz_cVi (as := []) (st := []) (pc := 404) C (zm_B_room hq44) zcv_B_room zsh_0 zl_Law_45 (by omega) (Nat.le_of_ble_eq_true rfl) d_Law_law_404 rfl rfl ?_
                    refine zz_aload_n (i := 2) (pc := 407) C rfl rfl d_Law_law_407 ?_
                    obtain ⟨q45, hq45, h⟩ := zz_bdE h
                    refine zz_cVi (as := []) (st := [.int q44.1]) (pc := 408) C (zm_M_room hq45) zcv_M_room zsh_79 zl_Law_48 (by omega) (Nat.le_of_ble_eq_true rfl) d_Law_law_408 rfl rfl ?_
                    refine zz_icmp_eq (tgt := 1351) (pc := 411) C (by decide) d_Law_law_411 (fun hc46 => ?_) (fun hc46 => ?_)
                    · rw [if_pos hc46] at h
                      refine zz_iinc (lo' := [some (.ref 1500), some (.ref 0), some (.ref 79), some (.int (v3 + (6 : Int32)))]) (pc := 1351) C rfl (zz_inc zki_6) rfl rfl d_Law_law_1351 ?_
                      refine zz_goto (tgt := 18) (pc := 1354) C (by decide) d_Law_law_1354 ?_
                      exact ih (v3 + (6 : Int32)) q45.2 h
                    · rw [if_neg hc46] at h
                      refine zz_iconst (pc := 414) C zki_0 d_Law_law_414 ?_
                      replace h := Option.some.inj h
                      subst h
                      exact zz_ret (pc := 415) C (v := some (.int (0 : Int32))) d_Law_law_415 (Or.inl ⟨_, _, rfl, rfl, rfl, (by decide)⟩) rfl
                  · rw [if_neg hc43] at h
                    by_cases hc47 : ((xs v3.toNatClampNeg) &&& (63 : Int32)) = (8 : Int32)
                    · rw [if_pos hc47] at h
                      refine zz_tableIn (tgt := 416) (off := 383) (pc := 33) C (by rw [hc47]; decide) (by rw [hc47]; decide) (by rw [hc47]; decide) (by decide) d_Law_law_33 ?_
                      refine zz_aload_n (i := 1) (pc := 416) C rfl rfl d_Law_law_416 ?_
                      refine zz_aload_n (i := 0) (pc := 417) C rfl rfl d_Law_law_417 ?_
                      refine zz_iload_n (i := 3) (pc := 418) C rfl rfl d_Law_law_418 ?_
                      refine zz_iconst (pc := 419) C zki_1 d_Law_law_419 ?_
                      refine zz_iadd (pc := 420) C d_Law_law_420 ?_
                      obtain ⟨hi48, h⟩ := zz_ckE h
                      refine zz_sld (pc := 421) C hxs rfl hi48 d_Law_law_421 ?_
                      obtain ⟨q49, hq49, h⟩ := zz_bdE h
                      refine zz_cVi (as := [.int (xs (v3 + (1 : Int32)).toNatClampNeg)]) (st := []) (pc := 422) C (zm_B_force hq49) zcv_B_force zsh_0 zl_Law_49 (by omega) (Nat.le_of_ble_eq_true rfl) d_Law_law_422 rfl rfl ?_
                      refine zz_aload_n (i := 2) (pc := 425) C rfl rfl d_Law_law_425 ?_
                      refine zz_aload_n (i := 0) (pc := 426) C rfl rfl d_Law_law_426 ?_
                      refine zz_iload_n (i := 3) (pc := 427) C rfl rfl d_Law_law_427 ?_
                      refine zz_iconst (pc := 428) C zki_1 d_Law_law_428 ?_
                      refine zz_iadd (pc := 429) C d_Law_law_429 ?_
                      refine zz_sld (pc := 430) C hxs rfl hi48 d_Law_law_430 ?_
                      obtain ⟨q50, hq50, h⟩ := zz_bdE h
                      refine zz_cVi (as := [.int (xs (v3 + (1 : Int32)).toNatClampNeg)]) (st := [.int q49.1]) (pc := 431) C (zm_M_force hq50) zcv_M_force zsh_79 zl_Law_52 (by omega) (Nat.le_of_ble_eq_true rfl) d_Law_law_431 rfl rfl ?_
                      refine zz_icmp_eq (tgt := 1351) (pc := 434) C (by decide) d_Law_law_434 (fun hc51 => ?_) (fun hc51 => ?_)
                      · rw [if_pos hc51] at h
                        refine zz_iinc (lo' := [some (.ref 1500), some (.ref 0), some (.ref 79), some (.int (v3 + (6 : Int32)))]) (pc := 1351) C rfl (zz_inc zki_6) rfl rfl d_Law_law_1351 ?_
                        refine zz_goto (tgt := 18) (pc := 1354) C (by decide) d_Law_law_1354 ?_
                        exact ih (v3 + (6 : Int32)) q50.2 h
                      · rw [if_neg hc51] at h
                        refine zz_iconst (pc := 437) C zki_0 d_Law_law_437 ?_
                        replace h := Option.some.inj h
                        subst h
                        exact zz_ret (pc := 438) C (v := some (.int (0 : Int32))) d_Law_law_438 (Or.inl ⟨_, _, rfl, rfl, rfl, (by decide)⟩) rfl
                    · rw [if_neg hc47] at h
                      by_cases hc52 : ((xs v3.toNatClampNeg) &&& (63 : Int32)) = (9 : Int32)
                      · rw [if_pos hc52] at h
                        refine zz_tableIn (tgt := 439) (off := 406) (pc := 33) C (by rw [hc52]; decide) (by rw [hc52]; decide) (by rw [hc52]; decide) (by decide) d_Law_law_33 ?_
                        refine zz_aload_n (i := 1) (pc := 439) C rfl rfl d_Law_law_439 ?_
                        refine zz_aload_n (i := 0) (pc := 440) C rfl rfl d_Law_law_440 ?_
                        refine zz_iload_n (i := 3) (pc := 441) C rfl rfl d_Law_law_441 ?_
                        refine zz_iconst (pc := 442) C zki_1 d_Law_law_442 ?_
                        refine zz_iadd (pc := 443) C d_Law_law_443 ?_
                        obtain ⟨hi53, h⟩ := zz_ckE h
                        refine zz_sld (pc := 444) C hxs rfl hi53 d_Law_law_444 ?_
                        refine zz_aload_n (i := 0) (pc := 445) C rfl rfl d_Law_law_445 ?_
                        refine zz_iload_n (i := 3) (pc := 446) C rfl rfl d_Law_law_446 ?_
                        refine zz_iconst (pc := 447) C zki_2 d_Law_law_447 ?_
                        refine zz_iadd (pc := 448) C d_Law_law_448 ?_
                        obtain ⟨hi54, h⟩ := zz_ckE h
                        refine zz_sld (pc := 449) C hxs rfl hi54 d_Law_law_449 ?_
                        refine zz_aload_n (i := 0) (pc := 450) C rfl rfl d_Law_law_450 ?_
                        refine zz_iload_n (i := 3) (pc := 451) C rfl rfl d_Law_law_451 ?_
                        refine zz_iconst (pc := 452) C zki_3 d_Law_law_452 ?_
                        refine zz_iadd (pc := 453) C d_Law_law_453 ?_
                        obtain ⟨hi55, h⟩ := zz_ckE h
                        refine zz_sld (pc := 454) C hxs rfl hi55 d_Law_law_454 ?_
                        obtain ⟨q56, hq56, h⟩ := zz_bdE h
                        refine zz_cVi (as := [.int (xs (v3 + (1 : Int32)).toNatClampNeg), .int (xs (v3 + (2 : Int32)).toNatClampNeg), .int (xs (v3 + (3 : Int32)).toNatClampNeg)]) (st := []) (pc := 455) C (zm_B_turn hq56) zcv_B_turn zsh_0 zl_Law_53 (by omega) (Nat.le_of_ble_eq_true rfl) d_Law_law_455 rfl rfl ?_
                        refine zz_aload_n (i := 2) (pc := 458) C rfl rfl d_Law_law_458 ?_
                        refine zz_aload_n (i := 0) (pc := 459) C rfl rfl d_Law_law_459 ?_
                        refine zz_iload_n (i := 3) (pc := 460) C rfl rfl d_Law_law_460 ?_
                        refine zz_iconst (pc := 461) C zki_1 d_Law_law_461 ?_
                        refine zz_iadd (pc := 462) C d_Law_law_462 ?_
                        refine zz_sld (pc := 463) C hxs rfl hi53 d_Law_law_463 ?_
                        refine zz_aload_n (i := 0) (pc := 464) C rfl rfl d_Law_law_464 ?_
                        refine zz_iload_n (i := 3) (pc := 465) C rfl rfl d_Law_law_465 ?_
                        refine zz_iconst (pc := 466) C zki_2 d_Law_law_466 ?_
                        refine zz_iadd (pc := 467) C d_Law_law_467 ?_
                        refine zz_sld (pc := 468) C hxs rfl hi54 d_Law_law_468 ?_
                        refine zz_aload_n (i := 0) (pc := 469) C rfl rfl d_Law_law_469 ?_
                        refine zz_iload_n (i := 3) (pc := 470) C rfl rfl d_Law_law_470 ?_
                        refine zz_iconst (pc := 471) C zki_3 d_Law_law_471 ?_
                        refine zz_iadd (pc := 472) C d_Law_law_472 ?_
                        refine zz_sld (pc := 473) C hxs rfl hi55 d_Law_law_473 ?_
                        obtain ⟨q57, hq57, h⟩ := zz_bdE h
                        refine zz_cVi (as := [.int (xs (v3 + (1 : Int32)).toNatClampNeg), .int (xs (v3 + (2 : Int32)).toNatClampNeg), .int (xs (v3 + (3 : Int32)).toNatClampNeg)]) (st := [.int q56.1]) (pc := 474) C (zm_M_turn hq57) zcv_M_turn zsh_79 zl_Law_56 (by omega) (Nat.le_of_ble_eq_true rfl) d_Law_law_474 rfl rfl ?_
                        refine zz_icmp_eq (tgt := 1351) (pc := 477) C (by decide) d_Law_law_477 (fun hc58 => ?_) (fun hc58 => ?_)
                        · rw [if_pos hc58] at h
                          refine zz_iinc (lo' := [some (.ref 1500), some (.ref 0), some (.ref 79), some (.int (v3 + (6 : Int32)))]) (pc := 1351) C rfl (zz_inc zki_6) rfl rfl d_Law_law_1351 ?_
                          refine zz_goto (tgt := 18) (pc := 1354) C (by decide) d_Law_law_1354 ?_
                          exact ih (v3 + (6 : Int32)) q57.2 h
                        · rw [if_neg hc58] at h
                          refine zz_iconst (pc := 480) C zki_0 d_Law_law_480 ?_
                          replace h := Option.some.inj h
                          subst h
                          exact zz_ret (pc := 481) C (v := some (.int (0 : Int32))) d_Law_law_481 (Or.inl ⟨_, _, rfl, rfl, rfl, (by decide)⟩) rfl
                      · rw [if_neg hc52] at h
                        by_cases hc59 : ((xs v3.toNatClampNeg) &&& (63 : Int32)) = (10 : Int32)
                        · rw [if_pos hc59] at h
                          refine zz_tableIn (tgt := 482) (off := 449) (pc := 33) C (by rw [hc59]; decide) (by rw [hc59]; decide) (by rw [hc59]; decide) (by decide) d_Law_law_33 ?_
                          refine zz_aload_n (i := 1) (pc := 482) C rfl rfl d_Law_law_482 ?_
                          refine zz_aload_n (i := 0) (pc := 483) C rfl rfl d_Law_law_483 ?_
                          refine zz_iload_n (i := 3) (pc := 484) C rfl rfl d_Law_law_484 ?_
                          refine zz_iconst (pc := 485) C zki_1 d_Law_law_485 ?_
                          refine zz_iadd (pc := 486) C d_Law_law_486 ?_
                          obtain ⟨hi60, h⟩ := zz_ckE h
                          refine zz_sld (pc := 487) C hxs rfl hi60 d_Law_law_487 ?_
                          refine zz_aload_n (i := 0) (pc := 488) C rfl rfl d_Law_law_488 ?_
                          refine zz_iload_n (i := 3) (pc := 489) C rfl rfl d_Law_law_489 ?_
                          refine zz_iconst (pc := 490) C zki_2 d_Law_law_490 ?_
                          refine zz_iadd (pc := 491) C d_Law_law_491 ?_
                          obtain ⟨hi61, h⟩ := zz_ckE h
                          refine zz_sld (pc := 492) C hxs rfl hi61 d_Law_law_492 ?_
                          refine zz_aload_n (i := 0) (pc := 493) C rfl rfl d_Law_law_493 ?_
                          refine zz_iload_n (i := 3) (pc := 494) C rfl rfl d_Law_law_494 ?_
                          refine zz_iconst (pc := 495) C zki_3 d_Law_law_495 ?_
                          refine zz_iadd (pc := 496) C d_Law_law_496 ?_
                          obtain ⟨hi62, h⟩ := zz_ckE h
                          refine zz_sld (pc := 497) C hxs rfl hi62 d_Law_law_497 ?_
                          obtain ⟨q63, hq63, h⟩ := zz_bdE h
                          refine zz_cVi (as := [.int (xs (v3 + (1 : Int32)).toNatClampNeg), .int (xs (v3 + (2 : Int32)).toNatClampNeg), .int (xs (v3 + (3 : Int32)).toNatClampNeg)]) (st := []) (pc := 498) C (zm_B_tosses hq63) zcv_B_tosses zsh_0 zl_Law_57 (by omega) (Nat.le_of_ble_eq_true rfl) d_Law_law_498 rfl rfl ?_
                          refine zz_aload_n (i := 2) (pc := 501) C rfl rfl d_Law_law_501 ?_
                          refine zz_aload_n (i := 0) (pc := 502) C rfl rfl d_Law_law_502 ?_
                          refine zz_iload_n (i := 3) (pc := 503) C rfl rfl d_Law_law_503 ?_
                          refine zz_iconst (pc := 504) C zki_1 d_Law_law_504 ?_
                          refine zz_iadd (pc := 505) C d_Law_law_505 ?_
                          refine zz_sld (pc := 506) C hxs rfl hi60 d_Law_law_506 ?_
                          refine zz_aload_n (i := 0) (pc := 507) C rfl rfl d_Law_law_507 ?_
                          refine zz_iload_n (i := 3) (pc := 508) C rfl rfl d_Law_law_508 ?_
                          refine zz_iconst (pc := 509) C zki_2 d_Law_law_509 ?_
                          refine zz_iadd (pc := 510) C d_Law_law_510 ?_
                          refine zz_sld (pc := 511) C hxs rfl hi61 d_Law_law_511 ?_
                          refine zz_aload_n (i := 0) (pc := 512) C rfl rfl d_Law_law_512 ?_
                          refine zz_iload_n (i := 3) (pc := 513) C rfl rfl d_Law_law_513 ?_
                          refine zz_iconst (pc := 514) C zki_3 d_Law_law_514 ?_
                          refine zz_iadd (pc := 515) C d_Law_law_515 ?_
                          refine zz_sld (pc := 516) C hxs rfl hi62 d_Law_law_516 ?_
                          obtain ⟨q64, hq64, h⟩ := zz_bdE h
                          refine zz_cVi (as := [.int (xs (v3 + (1 : Int32)).toNatClampNeg), .int (xs (v3 + (2 : Int32)).toNatClampNeg), .int (xs (v3 + (3 : Int32)).toNatClampNeg)]) (st := [.int q63.1]) (pc := 517) C (zm_M_tosses hq64) zcv_M_tosses zsh_79 zl_Law_60 (by omega) (Nat.le_of_ble_eq_true rfl) d_Law_law_517 rfl rfl ?_
                          refine zz_icmp_eq (tgt := 1351) (pc := 520) C (by decide) d_Law_law_520 (fun hc65 => ?_) (fun hc65 => ?_)
                          · rw [if_pos hc65] at h
                            refine zz_iinc (lo' := [some (.ref 1500), some (.ref 0), some (.ref 79), some (.int (v3 + (6 : Int32)))]) (pc := 1351) C rfl (zz_inc zki_6) rfl rfl d_Law_law_1351 ?_
                            refine zz_goto (tgt := 18) (pc := 1354) C (by decide) d_Law_law_1354 ?_
                            exact ih (v3 + (6 : Int32)) q64.2 h
                          · rw [if_neg hc65] at h
                            refine zz_iconst (pc := 523) C zki_0 d_Law_law_523 ?_
                            replace h := Option.some.inj h
                            subst h
                            exact zz_ret (pc := 524) C (v := some (.int (0 : Int32))) d_Law_law_524 (Or.inl ⟨_, _, rfl, rfl, rfl, (by decide)⟩) rfl
                        · rw [if_neg hc59] at h
                          by_cases hc66 : ((xs v3.toNatClampNeg) &&& (63 : Int32)) = (11 : Int32)
                          · rw [if_pos hc66] at h
                            refine zz_tableIn (tgt := 525) (off := 492) (pc := 33) C (by rw [hc66]; decide) (by rw [hc66]; decide) (by rw [hc66]; decide) (by decide) d_Law_law_33 ?_
                            refine zz_aload_n (i := 1) (pc := 525) C rfl rfl d_Law_law_525 ?_
                            obtain ⟨q67, hq67, h⟩ := zz_bdE h
                            refine zz_cVi (as := []) (st := []) (pc := 526) C (zm_B_clear hq67) zcv_B_clear zsh_0 zl_Law_61 (by omega) (Nat.le_of_ble_eq_true rfl) d_Law_law_526 rfl rfl ?_
                            refine zz_aload_n (i := 2) (pc := 529) C rfl rfl d_Law_law_529 ?_
                            obtain ⟨q68, hq68, h⟩ := zz_bdE h
                            refine zz_cVi (as := []) (st := [.int q67.1]) (pc := 530) C (zm_M_clear hq68) zcv_M_clear zsh_79 zl_Law_64 (by omega) (Nat.le_of_ble_eq_true rfl) d_Law_law_530 rfl rfl ?_
                            refine zz_icmp_eq (tgt := 1351) (pc := 533) C (by decide) d_Law_law_533 (fun hc69 => ?_) (fun hc69 => ?_)
                            · rw [if_pos hc69] at h
                              refine zz_iinc (lo' := [some (.ref 1500), some (.ref 0), some (.ref 79), some (.int (v3 + (6 : Int32)))]) (pc := 1351) C rfl (zz_inc zki_6) rfl rfl d_Law_law_1351 ?_
                              refine zz_goto (tgt := 18) (pc := 1354) C (by decide) d_Law_law_1354 ?_
                              exact ih (v3 + (6 : Int32)) q68.2 h
                            · rw [if_neg hc69] at h
                              refine zz_iconst (pc := 536) C zki_0 d_Law_law_536 ?_
                              replace h := Option.some.inj h
                              subst h
                              exact zz_ret (pc := 537) C (v := some (.int (0 : Int32))) d_Law_law_537 (Or.inl ⟨_, _, rfl, rfl, rfl, (by decide)⟩) rfl
                          · rw [if_neg hc66] at h
                            by_cases hc70 : ((xs v3.toNatClampNeg) &&& (63 : Int32)) = (12 : Int32)
                            · rw [if_pos hc70] at h
                              refine zz_tableIn (tgt := 538) (off := 505) (pc := 33) C (by rw [hc70]; decide) (by rw [hc70]; decide) (by rw [hc70]; decide) (by decide) d_Law_law_33 ?_
                              refine zz_aload_n (i := 1) (pc := 538) C rfl rfl d_Law_law_538 ?_
                              refine zz_aload_n (i := 0) (pc := 539) C rfl rfl d_Law_law_539 ?_
                              refine zz_iload_n (i := 3) (pc := 540) C rfl rfl d_Law_law_540 ?_
                              refine zz_iconst (pc := 541) C zki_1 d_Law_law_541 ?_
                              refine zz_iadd (pc := 542) C d_Law_law_542 ?_
                              obtain ⟨hi71, h⟩ := zz_ckE h
                              refine zz_sld (pc := 543) C hxs rfl hi71 d_Law_law_543 ?_
                              refine zz_aload_n (i := 0) (pc := 544) C rfl rfl d_Law_law_544 ?_
                              refine zz_iload_n (i := 3) (pc := 545) C rfl rfl d_Law_law_545 ?_
                              refine zz_iconst (pc := 546) C zki_2 d_Law_law_546 ?_
                              refine zz_iadd (pc := 547) C d_Law_law_547 ?_
                              obtain ⟨hi72, h⟩ := zz_ckE h
                              refine zz_sld (pc := 548) C hxs rfl hi72 d_Law_law_548 ?_
                              obtain ⟨q73, hq73, h⟩ := zz_bdE h
                              refine zz_cVi (as := [.int (xs (v3 + (1 : Int32)).toNatClampNeg), .int (xs (v3 + (2 : Int32)).toNatClampNeg)]) (st := []) (pc := 549) C (zm_B_lies hq73) zcv_B_lies zsh_0 zl_Law_65 (by omega) (Nat.le_of_ble_eq_true rfl) d_Law_law_549 rfl rfl ?_
                              refine zz_aload_n (i := 2) (pc := 552) C rfl rfl d_Law_law_552 ?_
                              refine zz_aload_n (i := 0) (pc := 553) C rfl rfl d_Law_law_553 ?_
                              refine zz_iload_n (i := 3) (pc := 554) C rfl rfl d_Law_law_554 ?_
                              refine zz_iconst (pc := 555) C zki_1 d_Law_law_555 ?_
                              refine zz_iadd (pc := 556) C d_Law_law_556 ?_
                              refine zz_sld (pc := 557) C hxs rfl hi71 d_Law_law_557 ?_
                              refine zz_aload_n (i := 0) (pc := 558) C rfl rfl d_Law_law_558 ?_
                              refine zz_iload_n (i := 3) (pc := 559) C rfl rfl d_Law_law_559 ?_
                              refine zz_iconst (pc := 560) C zki_2 d_Law_law_560 ?_
                              refine zz_iadd (pc := 561) C d_Law_law_561 ?_
                              refine zz_sld (pc := 562) C hxs rfl hi72 d_Law_law_562 ?_
                              obtain ⟨q74, hq74, h⟩ := zz_bdE h
                              refine zz_cVi (as := [.int (xs (v3 + (1 : Int32)).toNatClampNeg), .int (xs (v3 + (2 : Int32)).toNatClampNeg)]) (st := [.int q73.1]) (pc := 563) C (zm_M_lies hq74) zcv_M_lies zsh_79 zl_Law_68 (by omega) (Nat.le_of_ble_eq_true rfl) d_Law_law_563 rfl rfl ?_
                              refine zz_icmp_eq (tgt := 1351) (pc := 566) C (by decide) d_Law_law_566 (fun hc75 => ?_) (fun hc75 => ?_)
                              · rw [if_pos hc75] at h
                                refine zz_iinc (lo' := [some (.ref 1500), some (.ref 0), some (.ref 79), some (.int (v3 + (6 : Int32)))]) (pc := 1351) C rfl (zz_inc zki_6) rfl rfl d_Law_law_1351 ?_
                                refine zz_goto (tgt := 18) (pc := 1354) C (by decide) d_Law_law_1354 ?_
                                exact ih (v3 + (6 : Int32)) q74.2 h
                              · rw [if_neg hc75] at h
                                refine zz_iconst (pc := 569) C zki_0 d_Law_law_569 ?_
                                replace h := Option.some.inj h
                                subst h
                                exact zz_ret (pc := 570) C (v := some (.int (0 : Int32))) d_Law_law_570 (Or.inl ⟨_, _, rfl, rfl, rfl, (by decide)⟩) rfl
                            · rw [if_neg hc70] at h
                              by_cases hc76 : ((xs v3.toNatClampNeg) &&& (63 : Int32)) = (13 : Int32)
                              · rw [if_pos hc76] at h
                                refine zz_tableIn (tgt := 571) (off := 538) (pc := 33) C (by rw [hc76]; decide) (by rw [hc76]; decide) (by rw [hc76]; decide) (by decide) d_Law_law_33 ?_
                                refine zz_aload_n (i := 1) (pc := 571) C rfl rfl d_Law_law_571 ?_
                                refine zz_aload_n (i := 0) (pc := 572) C rfl rfl d_Law_law_572 ?_
                                refine zz_iload_n (i := 3) (pc := 573) C rfl rfl d_Law_law_573 ?_
                                refine zz_iconst (pc := 574) C zki_1 d_Law_law_574 ?_
                                refine zz_iadd (pc := 575) C d_Law_law_575 ?_
                                obtain ⟨hi77, h⟩ := zz_ckE h
                                refine zz_sld (pc := 576) C hxs rfl hi77 d_Law_law_576 ?_
                                refine zz_aload_n (i := 0) (pc := 577) C rfl rfl d_Law_law_577 ?_
                                refine zz_iload_n (i := 3) (pc := 578) C rfl rfl d_Law_law_578 ?_
                                refine zz_iconst (pc := 579) C zki_2 d_Law_law_579 ?_
                                refine zz_iadd (pc := 580) C d_Law_law_580 ?_
                                obtain ⟨hi78, h⟩ := zz_ckE h
                                refine zz_sld (pc := 581) C hxs rfl hi78 d_Law_law_581 ?_
                                refine zz_aload_n (i := 0) (pc := 582) C rfl rfl d_Law_law_582 ?_
                                refine zz_iload_n (i := 3) (pc := 583) C rfl rfl d_Law_law_583 ?_
                                refine zz_iconst (pc := 584) C zki_3 d_Law_law_584 ?_
                                refine zz_iadd (pc := 585) C d_Law_law_585 ?_
                                obtain ⟨hi79, h⟩ := zz_ckE h
                                refine zz_sld (pc := 586) C hxs rfl hi79 d_Law_law_586 ?_
                                obtain ⟨q80, hq80, h⟩ := zz_bdE h
                                refine zz_cVi (as := [.int (xs (v3 + (1 : Int32)).toNatClampNeg), .int (xs (v3 + (2 : Int32)).toNatClampNeg), .int (xs (v3 + (3 : Int32)).toNatClampNeg)]) (st := []) (pc := 587) C (zm_B_sleeps hq80) zcv_B_sleeps zsh_0 zl_Law_69 (by omega) (Nat.le_of_ble_eq_true rfl) d_Law_law_587 rfl rfl ?_
                                refine zz_aload_n (i := 2) (pc := 590) C rfl rfl d_Law_law_590 ?_
                                refine zz_aload_n (i := 0) (pc := 591) C rfl rfl d_Law_law_591 ?_
                                refine zz_iload_n (i := 3) (pc := 592) C rfl rfl d_Law_law_592 ?_
                                refine zz_iconst (pc := 593) C zki_1 d_Law_law_593 ?_
                                refine zz_iadd (pc := 594) C d_Law_law_594 ?_
                                refine zz_sld (pc := 595) C hxs rfl hi77 d_Law_law_595 ?_
                                refine zz_aload_n (i := 0) (pc := 596) C rfl rfl d_Law_law_596 ?_
                                refine zz_iload_n (i := 3) (pc := 597) C rfl rfl d_Law_law_597 ?_
                                refine zz_iconst (pc := 598) C zki_2 d_Law_law_598 ?_
                                refine zz_iadd (pc := 599) C d_Law_law_599 ?_
                                refine zz_sld (pc := 600) C hxs rfl hi78 d_Law_law_600 ?_
                                refine zz_aload_n (i := 0) (pc := 601) C rfl rfl d_Law_law_601 ?_
                                refine zz_iload_n (i := 3) (pc := 602) C rfl rfl d_Law_law_602 ?_
                                refine zz_iconst (pc := 603) C zki_3 d_Law_law_603 ?_
                                refine zz_iadd (pc := 604) C d_Law_law_604 ?_
                                refine zz_sld (pc := 605) C hxs rfl hi79 d_Law_law_605 ?_
                                obtain ⟨q81, hq81, h⟩ := zz_bdE h
                                refine zz_cVi (as := [.int (xs (v3 + (1 : Int32)).toNatClampNeg), .int (xs (v3 + (2 : Int32)).toNatClampNeg), .int (xs (v3 + (3 : Int32)).toNatClampNeg)]) (st := [.int q80.1]) (pc := 606) C (zm_M_sleeps hq81) zcv_M_sleeps zsh_79 zl_Law_72 (by omega) (Nat.le_of_ble_eq_true rfl) d_Law_law_606 rfl rfl ?_
                                refine zz_icmp_eq (tgt := 1351) (pc := 609) C (by decide) d_Law_law_609 (fun hc82 => ?_) (fun hc82 => ?_)
                                · rw [if_pos hc82] at h
                                  refine zz_iinc (lo' := [some (.ref 1500), some (.ref 0), some (.ref 79), some (.int (v3 + (6 : Int32)))]) (pc := 1351) C rfl (zz_inc zki_6) rfl rfl d_Law_law_1351 ?_
                                  refine zz_goto (tgt := 18) (pc := 1354) C (by decide) d_Law_law_1354 ?_
                                  exact ih (v3 + (6 : Int32)) q81.2 h
                                · rw [if_neg hc82] at h
                                  refine zz_iconst (pc := 612) C zki_0 d_Law_law_612 ?_
                                  replace h := Option.some.inj h
                                  subst h
                                  exact zz_ret (pc := 613) C (v := some (.int (0 : Int32))) d_Law_law_613 (Or.inl ⟨_, _, rfl, rfl, rfl, (by decide)⟩) rfl
                              · rw [if_neg hc76] at h
                                by_cases hc83 : ((xs v3.toNatClampNeg) &&& (63 : Int32)) = (14 : Int32)
                                · rw [if_pos hc83] at h
                                  refine zz_tableIn (tgt := 614) (off := 581) (pc := 33) C (by rw [hc83]; decide) (by rw [hc83]; decide) (by rw [hc83]; decide) (by decide) d_Law_law_33 ?_
                                  refine zz_aload_n (i := 1) (pc := 614) C rfl rfl d_Law_law_614 ?_
                                  refine zz_aload_n (i := 0) (pc := 615) C rfl rfl d_Law_law_615 ?_
                                  refine zz_iload_n (i := 3) (pc := 616) C rfl rfl d_Law_law_616 ?_
                                  refine zz_iconst (pc := 617) C zki_1 d_Law_law_617 ?_
                                  refine zz_iadd (pc := 618) C d_Law_law_618 ?_
                                  obtain ⟨hi84, h⟩ := zz_ckE h
                                  refine zz_sld (pc := 619) C hxs rfl hi84 d_Law_law_619 ?_
                                  refine zz_aload_n (i := 0) (pc := 620) C rfl rfl d_Law_law_620 ?_
                                  refine zz_iload_n (i := 3) (pc := 621) C rfl rfl d_Law_law_621 ?_
                                  refine zz_iconst (pc := 622) C zki_2 d_Law_law_622 ?_
                                  refine zz_iadd (pc := 623) C d_Law_law_623 ?_
                                  obtain ⟨hi85, h⟩ := zz_ckE h
                                  refine zz_sld (pc := 624) C hxs rfl hi85 d_Law_law_624 ?_
                                  obtain ⟨q86, hq86, h⟩ := zz_bdE h
                                  refine zz_cVi (as := [.int (xs (v3 + (1 : Int32)).toNatClampNeg), .int (xs (v3 + (2 : Int32)).toNatClampNeg)]) (st := []) (pc := 625) C (zm_B_minutes hq86) zcv_B_minutes zsh_0 zl_Law_73 (by omega) (Nat.le_of_ble_eq_true rfl) d_Law_law_625 rfl rfl ?_
                                  refine zz_aload_n (i := 2) (pc := 628) C rfl rfl d_Law_law_628 ?_
                                  refine zz_aload_n (i := 0) (pc := 629) C rfl rfl d_Law_law_629 ?_
                                  refine zz_iload_n (i := 3) (pc := 630) C rfl rfl d_Law_law_630 ?_
                                  refine zz_iconst (pc := 631) C zki_1 d_Law_law_631 ?_
                                  refine zz_iadd (pc := 632) C d_Law_law_632 ?_
                                  refine zz_sld (pc := 633) C hxs rfl hi84 d_Law_law_633 ?_
                                  refine zz_aload_n (i := 0) (pc := 634) C rfl rfl d_Law_law_634 ?_
                                  refine zz_iload_n (i := 3) (pc := 635) C rfl rfl d_Law_law_635 ?_
                                  refine zz_iconst (pc := 636) C zki_2 d_Law_law_636 ?_
                                  refine zz_iadd (pc := 637) C d_Law_law_637 ?_
                                  refine zz_sld (pc := 638) C hxs rfl hi85 d_Law_law_638 ?_
                                  obtain ⟨q87, hq87, h⟩ := zz_bdE h
                                  refine zz_cVi (as := [.int (xs (v3 + (1 : Int32)).toNatClampNeg), .int (xs (v3 + (2 : Int32)).toNatClampNeg)]) (st := [.int q86.1]) (pc := 639) C (zm_M_minutes hq87) zcv_M_minutes zsh_79 zl_Law_76 (by omega) (Nat.le_of_ble_eq_true rfl) d_Law_law_639 rfl rfl ?_
                                  refine zz_icmp_eq (tgt := 1351) (pc := 642) C (by decide) d_Law_law_642 (fun hc88 => ?_) (fun hc88 => ?_)
                                  · rw [if_pos hc88] at h
                                    refine zz_iinc (lo' := [some (.ref 1500), some (.ref 0), some (.ref 79), some (.int (v3 + (6 : Int32)))]) (pc := 1351) C rfl (zz_inc zki_6) rfl rfl d_Law_law_1351 ?_
                                    refine zz_goto (tgt := 18) (pc := 1354) C (by decide) d_Law_law_1354 ?_
                                    exact ih (v3 + (6 : Int32)) q87.2 h
                                  · rw [if_neg hc88] at h
                                    refine zz_iconst (pc := 645) C zki_0 d_Law_law_645 ?_
                                    replace h := Option.some.inj h
                                    subst h
                                    exact zz_ret (pc := 646) C (v := some (.int (0 : Int32))) d_Law_law_646 (Or.inl ⟨_, _, rfl, rfl, rfl, (by decide)⟩) rfl
                                · rw [if_neg hc83] at h
                                  by_cases hc89 : ((xs v3.toNatClampNeg) &&& (63 : Int32)) = (15 : Int32)
                                  · rw [if_pos hc89] at h
                                    refine zz_tableIn (tgt := 647) (off := 614) (pc := 33) C (by rw [hc89]; decide) (by rw [hc89]; decide) (by rw [hc89]; decide) (by decide) d_Law_law_33 ?_
                                    refine zz_aload_n (i := 1) (pc := 647) C rfl rfl d_Law_law_647 ?_
                                    refine zz_aload_n (i := 0) (pc := 648) C rfl rfl d_Law_law_648 ?_
                                    refine zz_iload_n (i := 3) (pc := 649) C rfl rfl d_Law_law_649 ?_
                                    refine zz_iconst (pc := 650) C zki_1 d_Law_law_650 ?_
                                    refine zz_iadd (pc := 651) C d_Law_law_651 ?_
                                    obtain ⟨hi90, h⟩ := zz_ckE h
                                    refine zz_sld (pc := 652) C hxs rfl hi90 d_Law_law_652 ?_
                                    refine zz_aload_n (i := 0) (pc := 653) C rfl rfl d_Law_law_653 ?_
                                    refine zz_iload_n (i := 3) (pc := 654) C rfl rfl d_Law_law_654 ?_
                                    refine zz_iconst (pc := 655) C zki_2 d_Law_law_655 ?_
                                    refine zz_iadd (pc := 656) C d_Law_law_656 ?_
                                    obtain ⟨hi91, h⟩ := zz_ckE h
                                    refine zz_sld (pc := 657) C hxs rfl hi91 d_Law_law_657 ?_
                                    obtain ⟨q92, hq92, h⟩ := zz_bdE h
                                    refine zz_cVi (as := [.int (xs (v3 + (1 : Int32)).toNatClampNeg), .int (xs (v3 + (2 : Int32)).toNatClampNeg)]) (st := []) (pc := 658) C (zm_B_wakes hq92) zcv_B_wakes zsh_0 zl_Law_77 (by omega) (Nat.le_of_ble_eq_true rfl) d_Law_law_658 rfl rfl ?_
                                    refine zz_aload_n (i := 2) (pc := 661) C rfl rfl d_Law_law_661 ?_
                                    refine zz_aload_n (i := 0) (pc := 662) C rfl rfl d_Law_law_662 ?_
                                    refine zz_iload_n (i := 3) (pc := 663) C rfl rfl d_Law_law_663 ?_
                                    refine zz_iconst (pc := 664) C zki_1 d_Law_law_664 ?_
                                    refine zz_iadd (pc := 665) C d_Law_law_665 ?_
                                    refine zz_sld (pc := 666) C hxs rfl hi90 d_Law_law_666 ?_
                                    refine zz_aload_n (i := 0) (pc := 667) C rfl rfl d_Law_law_667 ?_
                                    refine zz_iload_n (i := 3) (pc := 668) C rfl rfl d_Law_law_668 ?_
                                    refine zz_iconst (pc := 669) C zki_2 d_Law_law_669 ?_
                                    refine zz_iadd (pc := 670) C d_Law_law_670 ?_
                                    refine zz_sld (pc := 671) C hxs rfl hi91 d_Law_law_671 ?_
                                    obtain ⟨q93, hq93, h⟩ := zz_bdE h
                                    refine zz_cVi (as := [.int (xs (v3 + (1 : Int32)).toNatClampNeg), .int (xs (v3 + (2 : Int32)).toNatClampNeg)]) (st := [.int q92.1]) (pc := 672) C (zm_M_wakes hq93) zcv_M_wakes zsh_79 zl_Law_80 (by omega) (Nat.le_of_ble_eq_true rfl) d_Law_law_672 rfl rfl ?_
                                    refine zz_icmp_eq (tgt := 1351) (pc := 675) C (by decide) d_Law_law_675 (fun hc94 => ?_) (fun hc94 => ?_)
                                    · rw [if_pos hc94] at h
                                      refine zz_iinc (lo' := [some (.ref 1500), some (.ref 0), some (.ref 79), some (.int (v3 + (6 : Int32)))]) (pc := 1351) C rfl (zz_inc zki_6) rfl rfl d_Law_law_1351 ?_
                                      refine zz_goto (tgt := 18) (pc := 1354) C (by decide) d_Law_law_1354 ?_
                                      exact ih (v3 + (6 : Int32)) q93.2 h
                                    · rw [if_neg hc94] at h
                                      refine zz_iconst (pc := 678) C zki_0 d_Law_law_678 ?_
                                      replace h := Option.some.inj h
                                      subst h
                                      exact zz_ret (pc := 679) C (v := some (.int (0 : Int32))) d_Law_law_679 (Or.inl ⟨_, _, rfl, rfl, rfl, (by decide)⟩) rfl
                                  · rw [if_neg hc89] at h
                                    by_cases hc95 : ((xs v3.toNatClampNeg) &&& (63 : Int32)) = (16 : Int32)
                                    · rw [if_pos hc95] at h
                                      refine zz_tableIn (tgt := 680) (off := 647) (pc := 33) C (by rw [hc95]; decide) (by rw [hc95]; decide) (by rw [hc95]; decide) (by decide) d_Law_law_33 ?_
                                      refine zz_aload_n (i := 1) (pc := 680) C rfl rfl d_Law_law_680 ?_
                                      refine zz_aload_n (i := 0) (pc := 681) C rfl rfl d_Law_law_681 ?_
                                      refine zz_iload_n (i := 3) (pc := 682) C rfl rfl d_Law_law_682 ?_
                                      refine zz_iconst (pc := 683) C zki_1 d_Law_law_683 ?_
                                      refine zz_iadd (pc := 684) C d_Law_law_684 ?_
                                      obtain ⟨hi96, h⟩ := zz_ckE h
                                      refine zz_sld (pc := 685) C hxs rfl hi96 d_Law_law_685 ?_
                                      obtain ⟨q97, hq97, h⟩ := zz_bdE h
                                      refine zz_cVi (as := [.int (xs (v3 + (1 : Int32)).toNatClampNeg)]) (st := []) (pc := 686) C (zm_B_took hq97) zcv_B_took zsh_0 zl_Law_81 (by omega) (Nat.le_of_ble_eq_true rfl) d_Law_law_686 rfl rfl ?_
                                      refine zz_aload_n (i := 2) (pc := 689) C rfl rfl d_Law_law_689 ?_
                                      refine zz_aload_n (i := 0) (pc := 690) C rfl rfl d_Law_law_690 ?_
                                      refine zz_iload_n (i := 3) (pc := 691) C rfl rfl d_Law_law_691 ?_
                                      refine zz_iconst (pc := 692) C zki_1 d_Law_law_692 ?_
                                      refine zz_iadd (pc := 693) C d_Law_law_693 ?_
                                      refine zz_sld (pc := 694) C hxs rfl hi96 d_Law_law_694 ?_
                                      obtain ⟨q98, hq98, h⟩ := zz_bdE h
                                      refine zz_cVi (as := [.int (xs (v3 + (1 : Int32)).toNatClampNeg)]) (st := [.int q97.1]) (pc := 695) C (zm_M_took hq98) zcv_M_took zsh_79 zl_Law_84 (by omega) (Nat.le_of_ble_eq_true rfl) d_Law_law_695 rfl rfl ?_
                                      refine zz_icmp_eq (tgt := 1351) (pc := 698) C (by decide) d_Law_law_698 (fun hc99 => ?_) (fun hc99 => ?_)
                                      · rw [if_pos hc99] at h
                                        refine zz_iinc (lo' := [some (.ref 1500), some (.ref 0), some (.ref 79), some (.int (v3 + (6 : Int32)))]) (pc := 1351) C rfl (zz_inc zki_6) rfl rfl d_Law_law_1351 ?_
                                        refine zz_goto (tgt := 18) (pc := 1354) C (by decide) d_Law_law_1354 ?_
                                        exact ih (v3 + (6 : Int32)) q98.2 h
                                      · rw [if_neg hc99] at h
                                        refine zz_iconst (pc := 701) C zki_0 d_Law_law_701 ?_
                                        replace h := Option.some.inj h
                                        subst h
                                        exact zz_ret (pc := 702) C (v := some (.int (0 : Int32))) d_Law_law_702 (Or.inl ⟨_, _, rfl, rfl, rfl, (by decide)⟩) rfl
                                    · rw [if_neg hc95] at h
                                      by_cases hc100 : ((xs v3.toNatClampNeg) &&& (63 : Int32)) = (17 : Int32)
                                      · rw [if_pos hc100] at h
                                        refine zz_tableIn (tgt := 703) (off := 670) (pc := 33) C (by rw [hc100]; decide) (by rw [hc100]; decide) (by rw [hc100]; decide) (by decide) d_Law_law_33 ?_
                                        refine zz_aload_n (i := 1) (pc := 703) C rfl rfl d_Law_law_703 ?_
                                        refine zz_aload_n (i := 0) (pc := 704) C rfl rfl d_Law_law_704 ?_
                                        refine zz_iload_n (i := 3) (pc := 705) C rfl rfl d_Law_law_705 ?_
                                        refine zz_iconst (pc := 706) C zki_1 d_Law_law_706 ?_
                                        refine zz_iadd (pc := 707) C d_Law_law_707 ?_
                                        obtain ⟨hi101, h⟩ := zz_ckE h
                                        refine zz_sld (pc := 708) C hxs rfl hi101 d_Law_law_708 ?_
                                        refine zz_aload_n (i := 0) (pc := 709) C rfl rfl d_Law_law_709 ?_
                                        refine zz_iload_n (i := 3) (pc := 710) C rfl rfl d_Law_law_710 ?_
                                        refine zz_iconst (pc := 711) C zki_2 d_Law_law_711 ?_
                                        refine zz_iadd (pc := 712) C d_Law_law_712 ?_
                                        obtain ⟨hi102, h⟩ := zz_ckE h
                                        refine zz_sld (pc := 713) C hxs rfl hi102 d_Law_law_713 ?_
                                        obtain ⟨q103, hq103, h⟩ := zz_bdE h
                                        refine zz_cVi (as := [.int (xs (v3 + (1 : Int32)).toNatClampNeg), .int (xs (v3 + (2 : Int32)).toNatClampNeg)]) (st := []) (pc := 714) C (zm_B_broad hq103) zcv_B_broad zsh_0 zl_Law_85 (by omega) (Nat.le_of_ble_eq_true rfl) d_Law_law_714 rfl rfl ?_
                                        refine zz_aload_n (i := 2) (pc := 717) C rfl rfl d_Law_law_717 ?_
                                        refine zz_aload_n (i := 0) (pc := 718) C rfl rfl d_Law_law_718 ?_
                                        refine zz_iload_n (i := 3) (pc := 719) C rfl rfl d_Law_law_719 ?_
                                        refine zz_iconst (pc := 720) C zki_1 d_Law_law_720 ?_
                                        refine zz_iadd (pc := 721) C d_Law_law_721 ?_
                                        refine zz_sld (pc := 722) C hxs rfl hi101 d_Law_law_722 ?_
                                        refine zz_aload_n (i := 0) (pc := 723) C rfl rfl d_Law_law_723 ?_
                                        refine zz_iload_n (i := 3) (pc := 724) C rfl rfl d_Law_law_724 ?_
                                        refine zz_iconst (pc := 725) C zki_2 d_Law_law_725 ?_
                                        refine zz_iadd (pc := 726) C d_Law_law_726 ?_
                                        refine zz_sld (pc := 727) C hxs rfl hi102 d_Law_law_727 ?_
                                        obtain ⟨q104, hq104, h⟩ := zz_bdE h
                                        refine zz_cVi (as := [.int (xs (v3 + (1 : Int32)).toNatClampNeg), .int (xs (v3 + (2 : Int32)).toNatClampNeg)]) (st := [.int q103.1]) (pc := 728) C (zm_M_broad hq104) zcv_M_broad zsh_79 zl_Law_88 (by omega) (Nat.le_of_ble_eq_true rfl) d_Law_law_728 rfl rfl ?_
                                        refine zz_icmp_eq (tgt := 1351) (pc := 731) C (by decide) d_Law_law_731 (fun hc105 => ?_) (fun hc105 => ?_)
                                        · rw [if_pos hc105] at h
                                          refine zz_iinc (lo' := [some (.ref 1500), some (.ref 0), some (.ref 79), some (.int (v3 + (6 : Int32)))]) (pc := 1351) C rfl (zz_inc zki_6) rfl rfl d_Law_law_1351 ?_
                                          refine zz_goto (tgt := 18) (pc := 1354) C (by decide) d_Law_law_1354 ?_
                                          exact ih (v3 + (6 : Int32)) q104.2 h
                                        · rw [if_neg hc105] at h
                                          refine zz_iconst (pc := 734) C zki_0 d_Law_law_734 ?_
                                          replace h := Option.some.inj h
                                          subst h
                                          exact zz_ret (pc := 735) C (v := some (.int (0 : Int32))) d_Law_law_735 (Or.inl ⟨_, _, rfl, rfl, rfl, (by decide)⟩) rfl
                                      · rw [if_neg hc100] at h
                                        by_cases hc106 : ((xs v3.toNatClampNeg) &&& (63 : Int32)) = (18 : Int32)
                                        · rw [if_pos hc106] at h
                                          refine zz_tableIn (tgt := 736) (off := 703) (pc := 33) C (by rw [hc106]; decide) (by rw [hc106]; decide) (by rw [hc106]; decide) (by decide) d_Law_law_33 ?_
                                          refine zz_aload_n (i := 1) (pc := 736) C rfl rfl d_Law_law_736 ?_
                                          refine zz_aload_n (i := 0) (pc := 737) C rfl rfl d_Law_law_737 ?_
                                          refine zz_iload_n (i := 3) (pc := 738) C rfl rfl d_Law_law_738 ?_
                                          refine zz_iconst (pc := 739) C zki_1 d_Law_law_739 ?_
                                          refine zz_iadd (pc := 740) C d_Law_law_740 ?_
                                          obtain ⟨hi107, h⟩ := zz_ckE h
                                          refine zz_sld (pc := 741) C hxs rfl hi107 d_Law_law_741 ?_
                                          refine zz_aload_n (i := 0) (pc := 742) C rfl rfl d_Law_law_742 ?_
                                          refine zz_iload_n (i := 3) (pc := 743) C rfl rfl d_Law_law_743 ?_
                                          refine zz_iconst (pc := 744) C zki_2 d_Law_law_744 ?_
                                          refine zz_iadd (pc := 745) C d_Law_law_745 ?_
                                          obtain ⟨hi108, h⟩ := zz_ckE h
                                          refine zz_sld (pc := 746) C hxs rfl hi108 d_Law_law_746 ?_
                                          obtain ⟨q109, hq109, h⟩ := zz_bdE h
                                          refine zz_cVi (as := [.int (xs (v3 + (1 : Int32)).toNatClampNeg), .int (xs (v3 + (2 : Int32)).toNatClampNeg)]) (st := []) (pc := 747) C (zm_B_tucked hq109) zcv_B_tucked zsh_0 zl_Law_89 (by omega) (Nat.le_of_ble_eq_true rfl) d_Law_law_747 rfl rfl ?_
                                          refine zz_aload_n (i := 2) (pc := 750) C rfl rfl d_Law_law_750 ?_
                                          refine zz_aload_n (i := 0) (pc := 751) C rfl rfl d_Law_law_751 ?_
                                          refine zz_iload_n (i := 3) (pc := 752) C rfl rfl d_Law_law_752 ?_
                                          refine zz_iconst (pc := 753) C zki_1 d_Law_law_753 ?_
                                          refine zz_iadd (pc := 754) C d_Law_law_754 ?_
                                          refine zz_sld (pc := 755) C hxs rfl hi107 d_Law_law_755 ?_
                                          refine zz_aload_n (i := 0) (pc := 756) C rfl rfl d_Law_law_756 ?_
                                          refine zz_iload_n (i := 3) (pc := 757) C rfl rfl d_Law_law_757 ?_
                                          refine zz_iconst (pc := 758) C zki_2 d_Law_law_758 ?_
                                          refine zz_iadd (pc := 759) C d_Law_law_759 ?_
                                          refine zz_sld (pc := 760) C hxs rfl hi108 d_Law_law_760 ?_
                                          obtain ⟨q110, hq110, h⟩ := zz_bdE h
                                          refine zz_cVi (as := [.int (xs (v3 + (1 : Int32)).toNatClampNeg), .int (xs (v3 + (2 : Int32)).toNatClampNeg)]) (st := [.int q109.1]) (pc := 761) C (zm_M_tucked hq110) zcv_M_tucked zsh_79 zl_Law_92 (by omega) (Nat.le_of_ble_eq_true rfl) d_Law_law_761 rfl rfl ?_
                                          refine zz_icmp_eq (tgt := 1351) (pc := 764) C (by decide) d_Law_law_764 (fun hc111 => ?_) (fun hc111 => ?_)
                                          · rw [if_pos hc111] at h
                                            refine zz_iinc (lo' := [some (.ref 1500), some (.ref 0), some (.ref 79), some (.int (v3 + (6 : Int32)))]) (pc := 1351) C rfl (zz_inc zki_6) rfl rfl d_Law_law_1351 ?_
                                            refine zz_goto (tgt := 18) (pc := 1354) C (by decide) d_Law_law_1354 ?_
                                            exact ih (v3 + (6 : Int32)) q110.2 h
                                          · rw [if_neg hc111] at h
                                            refine zz_iconst (pc := 767) C zki_0 d_Law_law_767 ?_
                                            replace h := Option.some.inj h
                                            subst h
                                            exact zz_ret (pc := 768) C (v := some (.int (0 : Int32))) d_Law_law_768 (Or.inl ⟨_, _, rfl, rfl, rfl, (by decide)⟩) rfl
                                        · rw [if_neg hc106] at h
                                          by_cases hc112 : ((xs v3.toNatClampNeg) &&& (63 : Int32)) = (19 : Int32)
                                          · rw [if_pos hc112] at h
                                            refine zz_tableIn (tgt := 769) (off := 736) (pc := 33) C (by rw [hc112]; decide) (by rw [hc112]; decide) (by rw [hc112]; decide) (by decide) d_Law_law_33 ?_
                                            refine zz_aload_n (i := 1) (pc := 769) C rfl rfl d_Law_law_769 ?_
                                            refine zz_aload_n (i := 0) (pc := 770) C rfl rfl d_Law_law_770 ?_
                                            refine zz_iload_n (i := 3) (pc := 771) C rfl rfl d_Law_law_771 ?_
                                            refine zz_iconst (pc := 772) C zki_1 d_Law_law_772 ?_
                                            refine zz_iadd (pc := 773) C d_Law_law_773 ?_
                                            obtain ⟨hi113, h⟩ := zz_ckE h
                                            refine zz_sld (pc := 774) C hxs rfl hi113 d_Law_law_774 ?_
                                            obtain ⟨q114, hq114, h⟩ := zz_bdE h
                                            refine zz_cVi (as := [.int (xs (v3 + (1 : Int32)).toNatClampNeg)]) (st := []) (pc := 775) C (zm_B_window hq114) zcv_B_window zsh_0 zl_Law_93 (by omega) (Nat.le_of_ble_eq_true rfl) d_Law_law_775 rfl rfl ?_
                                            refine zz_aload_n (i := 2) (pc := 778) C rfl rfl d_Law_law_778 ?_
                                            refine zz_aload_n (i := 0) (pc := 779) C rfl rfl d_Law_law_779 ?_
                                            refine zz_iload_n (i := 3) (pc := 780) C rfl rfl d_Law_law_780 ?_
                                            refine zz_iconst (pc := 781) C zki_1 d_Law_law_781 ?_
                                            refine zz_iadd (pc := 782) C d_Law_law_782 ?_
                                            refine zz_sld (pc := 783) C hxs rfl hi113 d_Law_law_783 ?_
                                            obtain ⟨q115, hq115, h⟩ := zz_bdE h
                                            refine zz_cVi (as := [.int (xs (v3 + (1 : Int32)).toNatClampNeg)]) (st := [.int q114.1]) (pc := 784) C (zm_M_window hq115) zcv_M_window zsh_79 zl_Law_96 (by omega) (Nat.le_of_ble_eq_true rfl) d_Law_law_784 rfl rfl ?_
                                            refine zz_icmp_eq (tgt := 1351) (pc := 787) C (by decide) d_Law_law_787 (fun hc116 => ?_) (fun hc116 => ?_)
                                            · rw [if_pos hc116] at h
                                              refine zz_iinc (lo' := [some (.ref 1500), some (.ref 0), some (.ref 79), some (.int (v3 + (6 : Int32)))]) (pc := 1351) C rfl (zz_inc zki_6) rfl rfl d_Law_law_1351 ?_
                                              refine zz_goto (tgt := 18) (pc := 1354) C (by decide) d_Law_law_1354 ?_
                                              exact ih (v3 + (6 : Int32)) q115.2 h
                                            · rw [if_neg hc116] at h
                                              refine zz_iconst (pc := 790) C zki_0 d_Law_law_790 ?_
                                              replace h := Option.some.inj h
                                              subst h
                                              exact zz_ret (pc := 791) C (v := some (.int (0 : Int32))) d_Law_law_791 (Or.inl ⟨_, _, rfl, rfl, rfl, (by decide)⟩) rfl
                                          · rw [if_neg hc112] at h
                                            by_cases hc117 : ((xs v3.toNatClampNeg) &&& (63 : Int32)) = (20 : Int32)
                                            · rw [if_pos hc117] at h
                                              refine zz_tableIn (tgt := 792) (off := 759) (pc := 33) C (by rw [hc117]; decide) (by rw [hc117]; decide) (by rw [hc117]; decide) (by decide) d_Law_law_33 ?_
                                              refine zz_aload_n (i := 1) (pc := 792) C rfl rfl d_Law_law_792 ?_
                                              refine zz_aload_n (i := 0) (pc := 793) C rfl rfl d_Law_law_793 ?_
                                              refine zz_iload_n (i := 3) (pc := 794) C rfl rfl d_Law_law_794 ?_
                                              refine zz_iconst (pc := 795) C zki_1 d_Law_law_795 ?_
                                              refine zz_iadd (pc := 796) C d_Law_law_796 ?_
                                              obtain ⟨hi118, h⟩ := zz_ckE h
                                              refine zz_sld (pc := 797) C hxs rfl hi118 d_Law_law_797 ?_
                                              obtain ⟨q119, hq119, h⟩ := zz_bdE h
                                              refine zz_cVi (as := [.int (xs (v3 + (1 : Int32)).toNatClampNeg)]) (st := []) (pc := 798) C (zm_B_across hq119) zcv_B_across zsh_0 zl_Law_97 (by omega) (Nat.le_of_ble_eq_true rfl) d_Law_law_798 rfl rfl ?_
                                              refine zz_aload_n (i := 2) (pc := 801) C rfl rfl d_Law_law_801 ?_
                                              refine zz_aload_n (i := 0) (pc := 802) C rfl rfl d_Law_law_802 ?_
                                              refine zz_iload_n (i := 3) (pc := 803) C rfl rfl d_Law_law_803 ?_
                                              refine zz_iconst (pc := 804) C zki_1 d_Law_law_804 ?_
                                              refine zz_iadd (pc := 805) C d_Law_law_805 ?_
                                              refine zz_sld (pc := 806) C hxs rfl hi118 d_Law_law_806 ?_
                                              obtain ⟨q120, hq120, h⟩ := zz_bdE h
                                              refine zz_cVi (as := [.int (xs (v3 + (1 : Int32)).toNatClampNeg)]) (st := [.int q119.1]) (pc := 807) C (zm_M_across hq120) zcv_M_across zsh_79 zl_Law_100 (by omega) (Nat.le_of_ble_eq_true rfl) d_Law_law_807 rfl rfl ?_
                                              refine zz_icmp_eq (tgt := 1351) (pc := 810) C (by decide) d_Law_law_810 (fun hc121 => ?_) (fun hc121 => ?_)
                                              · rw [if_pos hc121] at h
                                                refine zz_iinc (lo' := [some (.ref 1500), some (.ref 0), some (.ref 79), some (.int (v3 + (6 : Int32)))]) (pc := 1351) C rfl (zz_inc zki_6) rfl rfl d_Law_law_1351 ?_
                                                refine zz_goto (tgt := 18) (pc := 1354) C (by decide) d_Law_law_1354 ?_
                                                exact ih (v3 + (6 : Int32)) q120.2 h
                                              · rw [if_neg hc121] at h
                                                refine zz_iconst (pc := 813) C zki_0 d_Law_law_813 ?_
                                                replace h := Option.some.inj h
                                                subst h
                                                exact zz_ret (pc := 814) C (v := some (.int (0 : Int32))) d_Law_law_814 (Or.inl ⟨_, _, rfl, rfl, rfl, (by decide)⟩) rfl
                                            · rw [if_neg hc117] at h
                                              by_cases hc122 : ((xs v3.toNatClampNeg) &&& (63 : Int32)) = (21 : Int32)
                                              · rw [if_pos hc122] at h
                                                refine zz_tableIn (tgt := 815) (off := 782) (pc := 33) C (by rw [hc122]; decide) (by rw [hc122]; decide) (by rw [hc122]; decide) (by decide) d_Law_law_33 ?_
                                                refine zz_aload_n (i := 1) (pc := 815) C rfl rfl d_Law_law_815 ?_
                                                refine zz_aload_n (i := 0) (pc := 816) C rfl rfl d_Law_law_816 ?_
                                                refine zz_iload_n (i := 3) (pc := 817) C rfl rfl d_Law_law_817 ?_
                                                refine zz_iconst (pc := 818) C zki_1 d_Law_law_818 ?_
                                                refine zz_iadd (pc := 819) C d_Law_law_819 ?_
                                                obtain ⟨hi123, h⟩ := zz_ckE h
                                                refine zz_sld (pc := 820) C hxs rfl hi123 d_Law_law_820 ?_
                                                refine zz_aload_n (i := 0) (pc := 821) C rfl rfl d_Law_law_821 ?_
                                                refine zz_iload_n (i := 3) (pc := 822) C rfl rfl d_Law_law_822 ?_
                                                refine zz_iconst (pc := 823) C zki_2 d_Law_law_823 ?_
                                                refine zz_iadd (pc := 824) C d_Law_law_824 ?_
                                                obtain ⟨hi124, h⟩ := zz_ckE h
                                                refine zz_sld (pc := 825) C hxs rfl hi124 d_Law_law_825 ?_
                                                refine zz_aload_n (i := 0) (pc := 826) C rfl rfl d_Law_law_826 ?_
                                                refine zz_iload_n (i := 3) (pc := 827) C rfl rfl d_Law_law_827 ?_
                                                refine zz_iconst (pc := 828) C zki_3 d_Law_law_828 ?_
                                                refine zz_iadd (pc := 829) C d_Law_law_829 ?_
                                                obtain ⟨hi125, h⟩ := zz_ckE h
                                                refine zz_sld (pc := 830) C hxs rfl hi125 d_Law_law_830 ?_
                                                refine zz_aload_n (i := 0) (pc := 831) C rfl rfl d_Law_law_831 ?_
                                                refine zz_iload_n (i := 3) (pc := 832) C rfl rfl d_Law_law_832 ?_
                                                refine zz_iconst (pc := 833) C zki_4 d_Law_law_833 ?_
                                                refine zz_iadd (pc := 834) C d_Law_law_834 ?_
                                                obtain ⟨hi126, h⟩ := zz_ckE h
                                                refine zz_sld (pc := 835) C hxs rfl hi126 d_Law_law_835 ?_
                                                obtain ⟨q127, hq127, h⟩ := zz_bdE h
                                                refine zz_cVi (as := [.int (xs (v3 + (1 : Int32)).toNatClampNeg), .int (xs (v3 + (2 : Int32)).toNatClampNeg), .int (xs (v3 + (3 : Int32)).toNatClampNeg), .int (xs (v3 + (4 : Int32)).toNatClampNeg)]) (st := []) (pc := 836) C (zm_B_drawn hq127) zcv_B_drawn zsh_0 zl_Law_101 (by omega) (Nat.le_of_ble_eq_true rfl) d_Law_law_836 rfl rfl ?_
                                                refine zz_aload_n (i := 2) (pc := 839) C rfl rfl d_Law_law_839 ?_
                                                refine zz_aload_n (i := 0) (pc := 840) C rfl rfl d_Law_law_840 ?_
                                                refine zz_iload_n (i := 3) (pc := 841) C rfl rfl d_Law_law_841 ?_
                                                refine zz_iconst (pc := 842) C zki_1 d_Law_law_842 ?_
                                                refine zz_iadd (pc := 843) C d_Law_law_843 ?_
                                                refine zz_sld (pc := 844) C hxs rfl hi123 d_Law_law_844 ?_
                                                refine zz_aload_n (i := 0) (pc := 845) C rfl rfl d_Law_law_845 ?_
                                                refine zz_iload_n (i := 3) (pc := 846) C rfl rfl d_Law_law_846 ?_
                                                refine zz_iconst (pc := 847) C zki_2 d_Law_law_847 ?_
                                                refine zz_iadd (pc := 848) C d_Law_law_848 ?_
                                                refine zz_sld (pc := 849) C hxs rfl hi124 d_Law_law_849 ?_
                                                refine zz_aload_n (i := 0) (pc := 850) C rfl rfl d_Law_law_850 ?_
                                                refine zz_iload_n (i := 3) (pc := 851) C rfl rfl d_Law_law_851 ?_
                                                refine zz_iconst (pc := 852) C zki_3 d_Law_law_852 ?_
                                                refine zz_iadd (pc := 853) C d_Law_law_853 ?_
                                                refine zz_sld (pc := 854) C hxs rfl hi125 d_Law_law_854 ?_
                                                refine zz_aload_n (i := 0) (pc := 855) C rfl rfl d_Law_law_855 ?_
                                                refine zz_iload_n (i := 3) (pc := 856) C rfl rfl d_Law_law_856 ?_
                                                refine zz_iconst (pc := 857) C zki_4 d_Law_law_857 ?_
                                                refine zz_iadd (pc := 858) C d_Law_law_858 ?_
                                                refine zz_sld (pc := 859) C hxs rfl hi126 d_Law_law_859 ?_
                                                obtain ⟨q128, hq128, h⟩ := zz_bdE h
                                                refine zz_cVi (as := [.int (xs (v3 + (1 : Int32)).toNatClampNeg), .int (xs (v3 + (2 : Int32)).toNatClampNeg), .int (xs (v3 + (3 : Int32)).toNatClampNeg), .int (xs (v3 + (4 : Int32)).toNatClampNeg)]) (st := [.int q127.1]) (pc := 860) C (zm_M_drawn hq128) zcv_M_drawn zsh_79 zl_Law_105 (by omega) (Nat.le_of_ble_eq_true rfl) d_Law_law_860 rfl rfl ?_
                                                refine zz_icmp_eq (tgt := 1351) (pc := 863) C (by decide) d_Law_law_863 (fun hc129 => ?_) (fun hc129 => ?_)
                                                · rw [if_pos hc129] at h
                                                  refine zz_iinc (lo' := [some (.ref 1500), some (.ref 0), some (.ref 79), some (.int (v3 + (6 : Int32)))]) (pc := 1351) C rfl (zz_inc zki_6) rfl rfl d_Law_law_1351 ?_
                                                  refine zz_goto (tgt := 18) (pc := 1354) C (by decide) d_Law_law_1354 ?_
                                                  exact ih (v3 + (6 : Int32)) q128.2 h
                                                · rw [if_neg hc129] at h
                                                  refine zz_iconst (pc := 866) C zki_0 d_Law_law_866 ?_
                                                  replace h := Option.some.inj h
                                                  subst h
                                                  exact zz_ret (pc := 867) C (v := some (.int (0 : Int32))) d_Law_law_867 (Or.inl ⟨_, _, rfl, rfl, rfl, (by decide)⟩) rfl
                                              · rw [if_neg hc122] at h
                                                by_cases hc130 : ((xs v3.toNatClampNeg) &&& (63 : Int32)) = (22 : Int32)
                                                · rw [if_pos hc130] at h
                                                  refine zz_tableIn (tgt := 868) (off := 835) (pc := 33) C (by rw [hc130]; decide) (by rw [hc130]; decide) (by rw [hc130]; decide) (by decide) d_Law_law_33 ?_
                                                  refine zz_aload_n (i := 1) (pc := 868) C rfl rfl d_Law_law_868 ?_
                                                  refine zz_aload_n (i := 0) (pc := 869) C rfl rfl d_Law_law_869 ?_
                                                  refine zz_iload_n (i := 3) (pc := 870) C rfl rfl d_Law_law_870 ?_
                                                  refine zz_iconst (pc := 871) C zki_1 d_Law_law_871 ?_
                                                  refine zz_iadd (pc := 872) C d_Law_law_872 ?_
                                                  obtain ⟨hi131, h⟩ := zz_ckE h
                                                  refine zz_sld (pc := 873) C hxs rfl hi131 d_Law_law_873 ?_
                                                  refine zz_aload_n (i := 0) (pc := 874) C rfl rfl d_Law_law_874 ?_
                                                  refine zz_iload_n (i := 3) (pc := 875) C rfl rfl d_Law_law_875 ?_
                                                  refine zz_iconst (pc := 876) C zki_2 d_Law_law_876 ?_
                                                  refine zz_iadd (pc := 877) C d_Law_law_877 ?_
                                                  obtain ⟨hi132, h⟩ := zz_ckE h
                                                  refine zz_sld (pc := 878) C hxs rfl hi132 d_Law_law_878 ?_
                                                  refine zz_aload_n (i := 0) (pc := 879) C rfl rfl d_Law_law_879 ?_
                                                  refine zz_iload_n (i := 3) (pc := 880) C rfl rfl d_Law_law_880 ?_
                                                  refine zz_iconst (pc := 881) C zki_3 d_Law_law_881 ?_
                                                  refine zz_iadd (pc := 882) C d_Law_law_882 ?_
                                                  obtain ⟨hi133, h⟩ := zz_ckE h
                                                  refine zz_sld (pc := 883) C hxs rfl hi133 d_Law_law_883 ?_
                                                  obtain ⟨q134, hq134, h⟩ := zz_bdE h
                                                  refine zz_cVi (as := [.int (xs (v3 + (1 : Int32)).toNatClampNeg), .int (xs (v3 + (2 : Int32)).toNatClampNeg), .int (xs (v3 + (3 : Int32)).toNatClampNeg)]) (st := []) (pc := 884) C (zm_B_morning hq134) zcv_B_morning zsh_0 zl_Law_106 (by omega) (Nat.le_of_ble_eq_true rfl) d_Law_law_884 rfl rfl ?_
                                                  refine zz_aload_n (i := 2) (pc := 887) C rfl rfl d_Law_law_887 ?_
                                                  refine zz_aload_n (i := 0) (pc := 888) C rfl rfl d_Law_law_888 ?_
                                                  refine zz_iload_n (i := 3) (pc := 889) C rfl rfl d_Law_law_889 ?_
                                                  refine zz_iconst (pc := 890) C zki_1 d_Law_law_890 ?_
                                                  refine zz_iadd (pc := 891) C d_Law_law_891 ?_
                                                  refine zz_sld (pc := 892) C hxs rfl hi131 d_Law_law_892 ?_
                                                  refine zz_aload_n (i := 0) (pc := 893) C rfl rfl d_Law_law_893 ?_
                                                  refine zz_iload_n (i := 3) (pc := 894) C rfl rfl d_Law_law_894 ?_
                                                  refine zz_iconst (pc := 895) C zki_2 d_Law_law_895 ?_
                                                  refine zz_iadd (pc := 896) C d_Law_law_896 ?_
                                                  refine zz_sld (pc := 897) C hxs rfl hi132 d_Law_law_897 ?_
                                                  refine zz_aload_n (i := 0) (pc := 898) C rfl rfl d_Law_law_898 ?_
                                                  refine zz_iload_n (i := 3) (pc := 899) C rfl rfl d_Law_law_899 ?_
                                                  refine zz_iconst (pc := 900) C zki_3 d_Law_law_900 ?_
                                                  refine zz_iadd (pc := 901) C d_Law_law_901 ?_
                                                  refine zz_sld (pc := 902) C hxs rfl hi133 d_Law_law_902 ?_
                                                  obtain ⟨q135, hq135, h⟩ := zz_bdE h
                                                  refine zz_cVi (as := [.int (xs (v3 + (1 : Int32)).toNatClampNeg), .int (xs (v3 + (2 : Int32)).toNatClampNeg), .int (xs (v3 + (3 : Int32)).toNatClampNeg)]) (st := [.int q134.1]) (pc := 903) C (zm_M_morning hq135) zcv_M_morning zsh_79 zl_Law_109 (by omega) (Nat.le_of_ble_eq_true rfl) d_Law_law_903 rfl rfl ?_
                                                  refine zz_icmp_eq (tgt := 1351) (pc := 906) C (by decide) d_Law_law_906 (fun hc136 => ?_) (fun hc136 => ?_)
                                                  · rw [if_pos hc136] at h
                                                    refine zz_iinc (lo' := [some (.ref 1500), some (.ref 0), some (.ref 79), some (.int (v3 + (6 : Int32)))]) (pc := 1351) C rfl (zz_inc zki_6) rfl rfl d_Law_law_1351 ?_
                                                    refine zz_goto (tgt := 18) (pc := 1354) C (by decide) d_Law_law_1354 ?_
                                                    exact ih (v3 + (6 : Int32)) q135.2 h
                                                  · rw [if_neg hc136] at h
                                                    refine zz_iconst (pc := 909) C zki_0 d_Law_law_909 ?_
                                                    replace h := Option.some.inj h
                                                    subst h
                                                    exact zz_ret (pc := 910) C (v := some (.int (0 : Int32))) d_Law_law_910 (Or.inl ⟨_, _, rfl, rfl, rfl, (by decide)⟩) rfl
                                                · rw [if_neg hc130] at h
                                                  by_cases hc137 : ((xs v3.toNatClampNeg) &&& (63 : Int32)) = (23 : Int32)
                                                  · rw [if_pos hc137] at h
                                                    refine zz_tableIn (tgt := 911) (off := 878) (pc := 33) C (by rw [hc137]; decide) (by rw [hc137]; decide) (by rw [hc137]; decide) (by decide) d_Law_law_33 ?_
                                                    refine zz_aload_n (i := 1) (pc := 911) C rfl rfl d_Law_law_911 ?_
                                                    refine zz_aload_n (i := 0) (pc := 912) C rfl rfl d_Law_law_912 ?_
                                                    refine zz_iload_n (i := 3) (pc := 913) C rfl rfl d_Law_law_913 ?_
                                                    refine zz_iconst (pc := 914) C zki_1 d_Law_law_914 ?_
                                                    refine zz_iadd (pc := 915) C d_Law_law_915 ?_
                                                    obtain ⟨hi138, h⟩ := zz_ckE h
                                                    refine zz_sld (pc := 916) C hxs rfl hi138 d_Law_law_916 ?_
                                                    obtain ⟨q139, hq139, h⟩ := zz_bdE h
                                                    refine zz_cVi (as := [.int (xs (v3 + (1 : Int32)).toNatClampNeg)]) (st := []) (pc := 917) C (zm_B_film hq139) zcv_B_film zsh_0 zl_Law_110 (by omega) (Nat.le_of_ble_eq_true rfl) d_Law_law_917 rfl rfl ?_
                                                    refine zz_aload_n (i := 2) (pc := 920) C rfl rfl d_Law_law_920 ?_
                                                    refine zz_aload_n (i := 0) (pc := 921) C rfl rfl d_Law_law_921 ?_
                                                    refine zz_iload_n (i := 3) (pc := 922) C rfl rfl d_Law_law_922 ?_
                                                    refine zz_iconst (pc := 923) C zki_1 d_Law_law_923 ?_
                                                    refine zz_iadd (pc := 924) C d_Law_law_924 ?_
                                                    refine zz_sld (pc := 925) C hxs rfl hi138 d_Law_law_925 ?_
                                                    obtain ⟨q140, hq140, h⟩ := zz_bdE h
                                                    refine zz_cVi (as := [.int (xs (v3 + (1 : Int32)).toNatClampNeg)]) (st := [.int q139.1]) (pc := 926) C (zm_M_film hq140) zcv_M_film zsh_79 zl_Law_113 (by omega) (Nat.le_of_ble_eq_true rfl) d_Law_law_926 rfl rfl ?_
                                                    refine zz_icmp_eq (tgt := 1351) (pc := 929) C (by decide) d_Law_law_929 (fun hc141 => ?_) (fun hc141 => ?_)
                                                    · rw [if_pos hc141] at h
                                                      refine zz_iinc (lo' := [some (.ref 1500), some (.ref 0), some (.ref 79), some (.int (v3 + (6 : Int32)))]) (pc := 1351) C rfl (zz_inc zki_6) rfl rfl d_Law_law_1351 ?_
                                                      refine zz_goto (tgt := 18) (pc := 1354) C (by decide) d_Law_law_1354 ?_
                                                      exact ih (v3 + (6 : Int32)) q140.2 h
                                                    · rw [if_neg hc141] at h
                                                      refine zz_iconst (pc := 932) C zki_0 d_Law_law_932 ?_
                                                      replace h := Option.some.inj h
                                                      subst h
                                                      exact zz_ret (pc := 933) C (v := some (.int (0 : Int32))) d_Law_law_933 (Or.inl ⟨_, _, rfl, rfl, rfl, (by decide)⟩) rfl
                                                  · rw [if_neg hc137] at h
                                                    by_cases hc142 : ((xs v3.toNatClampNeg) &&& (63 : Int32)) = (24 : Int32)
                                                    · rw [if_pos hc142] at h
                                                      refine zz_tableIn (tgt := 934) (off := 901) (pc := 33) C (by rw [hc142]; decide) (by rw [hc142]; decide) (by rw [hc142]; decide) (by decide) d_Law_law_33 ?_
                                                      refine zz_aload_n (i := 1) (pc := 934) C rfl rfl d_Law_law_934 ?_
                                                      obtain ⟨q143, hq143, h⟩ := zz_bdE h
                                                      refine zz_cVi (as := []) (st := []) (pc := 935) C (zm_B_undo hq143) zcv_B_undo zsh_0 zl_Law_114 (by omega) (Nat.le_of_ble_eq_true rfl) d_Law_law_935 rfl rfl ?_
                                                      refine zz_aload_n (i := 2) (pc := 938) C rfl rfl d_Law_law_938 ?_
                                                      obtain ⟨q144, hq144, h⟩ := zz_bdE h
                                                      refine zz_cVi (as := []) (st := [.int q143.1]) (pc := 939) C (zm_M_undo hq144) zcv_M_undo zsh_79 zl_Law_117 (by omega) (Nat.le_of_ble_eq_true rfl) d_Law_law_939 rfl rfl ?_
                                                      refine zz_icmp_eq (tgt := 1351) (pc := 942) C (by decide) d_Law_law_942 (fun hc145 => ?_) (fun hc145 => ?_)
                                                      · rw [if_pos hc145] at h
                                                        refine zz_iinc (lo' := [some (.ref 1500), some (.ref 0), some (.ref 79), some (.int (v3 + (6 : Int32)))]) (pc := 1351) C rfl (zz_inc zki_6) rfl rfl d_Law_law_1351 ?_
                                                        refine zz_goto (tgt := 18) (pc := 1354) C (by decide) d_Law_law_1354 ?_
                                                        exact ih (v3 + (6 : Int32)) q144.2 h
                                                      · rw [if_neg hc145] at h
                                                        refine zz_iconst (pc := 945) C zki_0 d_Law_law_945 ?_
                                                        replace h := Option.some.inj h
                                                        subst h
                                                        exact zz_ret (pc := 946) C (v := some (.int (0 : Int32))) d_Law_law_946 (Or.inl ⟨_, _, rfl, rfl, rfl, (by decide)⟩) rfl
                                                    · rw [if_neg hc142] at h
                                                      by_cases hc146 : ((xs v3.toNatClampNeg) &&& (63 : Int32)) = (25 : Int32)
                                                      · rw [if_pos hc146] at h
                                                        refine zz_tableIn (tgt := 947) (off := 914) (pc := 33) C (by rw [hc146]; decide) (by rw [hc146]; decide) (by rw [hc146]; decide) (by decide) d_Law_law_33 ?_
                                                        refine zz_aload_n (i := 1) (pc := 947) C rfl rfl d_Law_law_947 ?_
                                                        obtain ⟨q147, hq147, h⟩ := zz_bdE h
                                                        refine zz_cVi (as := []) (st := []) (pc := 948) C (zm_B_redo hq147) zcv_B_redo zsh_0 zl_Law_118 (by omega) (Nat.le_of_ble_eq_true rfl) d_Law_law_948 rfl rfl ?_
                                                        refine zz_aload_n (i := 2) (pc := 951) C rfl rfl d_Law_law_951 ?_
                                                        obtain ⟨q148, hq148, h⟩ := zz_bdE h
                                                        refine zz_cVi (as := []) (st := [.int q147.1]) (pc := 952) C (zm_M_redo hq148) zcv_M_redo zsh_79 zl_Law_121 (by omega) (Nat.le_of_ble_eq_true rfl) d_Law_law_952 rfl rfl ?_
                                                        refine zz_icmp_eq (tgt := 1351) (pc := 955) C (by decide) d_Law_law_955 (fun hc149 => ?_) (fun hc149 => ?_)
                                                        · rw [if_pos hc149] at h
                                                          refine zz_iinc (lo' := [some (.ref 1500), some (.ref 0), some (.ref 79), some (.int (v3 + (6 : Int32)))]) (pc := 1351) C rfl (zz_inc zki_6) rfl rfl d_Law_law_1351 ?_
                                                          refine zz_goto (tgt := 18) (pc := 1354) C (by decide) d_Law_law_1354 ?_
                                                          exact ih (v3 + (6 : Int32)) q148.2 h
                                                        · rw [if_neg hc149] at h
                                                          refine zz_iconst (pc := 958) C zki_0 d_Law_law_958 ?_
                                                          replace h := Option.some.inj h
                                                          subst h
                                                          exact zz_ret (pc := 959) C (v := some (.int (0 : Int32))) d_Law_law_959 (Or.inl ⟨_, _, rfl, rfl, rfl, (by decide)⟩) rfl
                                                      · rw [if_neg hc146] at h
                                                        by_cases hc150 : ((xs v3.toNatClampNeg) &&& (63 : Int32)) = (26 : Int32)
                                                        · rw [if_pos hc150] at h
                                                          refine zz_tableIn (tgt := 960) (off := 927) (pc := 33) C (by rw [hc150]; decide) (by rw [hc150]; decide) (by rw [hc150]; decide) (by decide) d_Law_law_33 ?_
                                                          refine zz_aload_n (i := 1) (pc := 960) C rfl rfl d_Law_law_960 ?_
                                                          refine zz_aload_n (i := 0) (pc := 961) C rfl rfl d_Law_law_961 ?_
                                                          refine zz_iload_n (i := 3) (pc := 962) C rfl rfl d_Law_law_962 ?_
                                                          refine zz_iconst (pc := 963) C zki_1 d_Law_law_963 ?_
                                                          refine zz_iadd (pc := 964) C d_Law_law_964 ?_
                                                          obtain ⟨hi151, h⟩ := zz_ckE h
                                                          refine zz_sld (pc := 965) C hxs rfl hi151 d_Law_law_965 ?_
                                                          obtain ⟨q152, hq152, h⟩ := zz_bdE h
                                                          refine zz_cVi (as := [.int (xs (v3 + (1 : Int32)).toNatClampNeg)]) (st := []) (pc := 966) C (zm_B_body hq152) zcv_B_body zsh_0 zl_Law_122 (by omega) (Nat.le_of_ble_eq_true rfl) d_Law_law_966 rfl rfl ?_
                                                          refine zz_aload_n (i := 2) (pc := 969) C rfl rfl d_Law_law_969 ?_
                                                          refine zz_aload_n (i := 0) (pc := 970) C rfl rfl d_Law_law_970 ?_
                                                          refine zz_iload_n (i := 3) (pc := 971) C rfl rfl d_Law_law_971 ?_
                                                          refine zz_iconst (pc := 972) C zki_1 d_Law_law_972 ?_
                                                          refine zz_iadd (pc := 973) C d_Law_law_973 ?_
                                                          refine zz_sld (pc := 974) C hxs rfl hi151 d_Law_law_974 ?_
                                                          obtain ⟨q153, hq153, h⟩ := zz_bdE h
                                                          refine zz_cVi (as := [.int (xs (v3 + (1 : Int32)).toNatClampNeg)]) (st := [.int q152.1]) (pc := 975) C (zm_M_body hq153) zcv_M_body zsh_79 zl_Law_125 (by omega) (Nat.le_of_ble_eq_true rfl) d_Law_law_975 rfl rfl ?_
                                                          refine zz_icmp_eq (tgt := 1351) (pc := 978) C (by decide) d_Law_law_978 (fun hc154 => ?_) (fun hc154 => ?_)
                                                          · rw [if_pos hc154] at h
                                                            refine zz_iinc (lo' := [some (.ref 1500), some (.ref 0), some (.ref 79), some (.int (v3 + (6 : Int32)))]) (pc := 1351) C rfl (zz_inc zki_6) rfl rfl d_Law_law_1351 ?_
                                                            refine zz_goto (tgt := 18) (pc := 1354) C (by decide) d_Law_law_1354 ?_
                                                            exact ih (v3 + (6 : Int32)) q153.2 h
                                                          · rw [if_neg hc154] at h
                                                            refine zz_iconst (pc := 981) C zki_0 d_Law_law_981 ?_
                                                            replace h := Option.some.inj h
                                                            subst h
                                                            exact zz_ret (pc := 982) C (v := some (.int (0 : Int32))) d_Law_law_982 (Or.inl ⟨_, _, rfl, rfl, rfl, (by decide)⟩) rfl
                                                        · rw [if_neg hc150] at h
                                                          by_cases hc155 : ((xs v3.toNatClampNeg) &&& (63 : Int32)) = (27 : Int32)
                                                          · rw [if_pos hc155] at h
                                                            refine zz_tableIn (tgt := 983) (off := 950) (pc := 33) C (by rw [hc155]; decide) (by rw [hc155]; decide) (by rw [hc155]; decide) (by decide) d_Law_law_33 ?_
                                                            refine zz_aload_n (i := 1) (pc := 983) C rfl rfl d_Law_law_983 ?_
                                                            refine zz_aload_n (i := 0) (pc := 984) C rfl rfl d_Law_law_984 ?_
                                                            refine zz_iload_n (i := 3) (pc := 985) C rfl rfl d_Law_law_985 ?_
                                                            refine zz_iconst (pc := 986) C zki_1 d_Law_law_986 ?_
                                                            refine zz_iadd (pc := 987) C d_Law_law_987 ?_
                                                            obtain ⟨hi156, h⟩ := zz_ckE h
                                                            refine zz_sld (pc := 988) C hxs rfl hi156 d_Law_law_988 ?_
                                                            refine zz_aload_n (i := 0) (pc := 989) C rfl rfl d_Law_law_989 ?_
                                                            refine zz_iload_n (i := 3) (pc := 990) C rfl rfl d_Law_law_990 ?_
                                                            refine zz_iconst (pc := 991) C zki_2 d_Law_law_991 ?_
                                                            refine zz_iadd (pc := 992) C d_Law_law_992 ?_
                                                            obtain ⟨hi157, h⟩ := zz_ckE h
                                                            refine zz_sld (pc := 993) C hxs rfl hi157 d_Law_law_993 ?_
                                                            refine zz_aload_n (i := 0) (pc := 994) C rfl rfl d_Law_law_994 ?_
                                                            refine zz_iload_n (i := 3) (pc := 995) C rfl rfl d_Law_law_995 ?_
                                                            refine zz_iconst (pc := 996) C zki_3 d_Law_law_996 ?_
                                                            refine zz_iadd (pc := 997) C d_Law_law_997 ?_
                                                            obtain ⟨hi158, h⟩ := zz_ckE h
                                                            refine zz_sld (pc := 998) C hxs rfl hi158 d_Law_law_998 ?_
                                                            obtain ⟨q159, hq159, h⟩ := zz_bdE h
                                                            refine zz_cVi (as := [.int (xs (v3 + (1 : Int32)).toNatClampNeg), .int (xs (v3 + (2 : Int32)).toNatClampNeg), .int (xs (v3 + (3 : Int32)).toNatClampNeg)]) (st := []) (pc := 999) C (zm_B_act hq159) zcv_B_act zsh_0 zl_Law_126 (by omega) (Nat.le_of_ble_eq_true rfl) d_Law_law_999 rfl rfl ?_
                                                            refine zz_aload_n (i := 2) (pc := 1002) C rfl rfl d_Law_law_1002 ?_
                                                            refine zz_aload_n (i := 0) (pc := 1003) C rfl rfl d_Law_law_1003 ?_
                                                            refine zz_iload_n (i := 3) (pc := 1004) C rfl rfl d_Law_law_1004 ?_
                                                            refine zz_iconst (pc := 1005) C zki_1 d_Law_law_1005 ?_
                                                            refine zz_iadd (pc := 1006) C d_Law_law_1006 ?_
                                                            refine zz_sld (pc := 1007) C hxs rfl hi156 d_Law_law_1007 ?_
                                                            refine zz_aload_n (i := 0) (pc := 1008) C rfl rfl d_Law_law_1008 ?_
                                                            refine zz_iload_n (i := 3) (pc := 1009) C rfl rfl d_Law_law_1009 ?_
                                                            refine zz_iconst (pc := 1010) C zki_2 d_Law_law_1010 ?_
                                                            refine zz_iadd (pc := 1011) C d_Law_law_1011 ?_
                                                            refine zz_sld (pc := 1012) C hxs rfl hi157 d_Law_law_1012 ?_
                                                            refine zz_aload_n (i := 0) (pc := 1013) C rfl rfl d_Law_law_1013 ?_
                                                            refine zz_iload_n (i := 3) (pc := 1014) C rfl rfl d_Law_law_1014 ?_
                                                            refine zz_iconst (pc := 1015) C zki_3 d_Law_law_1015 ?_
                                                            refine zz_iadd (pc := 1016) C d_Law_law_1016 ?_
                                                            refine zz_sld (pc := 1017) C hxs rfl hi158 d_Law_law_1017 ?_
                                                            obtain ⟨q160, hq160, h⟩ := zz_bdE h
                                                            refine zz_cVi (as := [.int (xs (v3 + (1 : Int32)).toNatClampNeg), .int (xs (v3 + (2 : Int32)).toNatClampNeg), .int (xs (v3 + (3 : Int32)).toNatClampNeg)]) (st := [.int q159.1]) (pc := 1018) C (zm_M_act hq160) zcv_M_act zsh_79 zl_Law_129 (by omega) (Nat.le_of_ble_eq_true rfl) d_Law_law_1018 rfl rfl ?_
                                                            refine zz_icmp_eq (tgt := 1351) (pc := 1021) C (by decide) d_Law_law_1021 (fun hc161 => ?_) (fun hc161 => ?_)
                                                            · rw [if_pos hc161] at h
                                                              refine zz_iinc (lo' := [some (.ref 1500), some (.ref 0), some (.ref 79), some (.int (v3 + (6 : Int32)))]) (pc := 1351) C rfl (zz_inc zki_6) rfl rfl d_Law_law_1351 ?_
                                                              refine zz_goto (tgt := 18) (pc := 1354) C (by decide) d_Law_law_1354 ?_
                                                              exact ih (v3 + (6 : Int32)) q160.2 h
                                                            · rw [if_neg hc161] at h
                                                              refine zz_iconst (pc := 1024) C zki_0 d_Law_law_1024 ?_
                                                              replace h := Option.some.inj h
                                                              subst h
                                                              exact zz_ret (pc := 1025) C (v := some (.int (0 : Int32))) d_Law_law_1025 (Or.inl ⟨_, _, rfl, rfl, rfl, (by decide)⟩) rfl
                                                          · rw [if_neg hc155] at h
                                                            by_cases hc162 : ((xs v3.toNatClampNeg) &&& (63 : Int32)) = (28 : Int32)
                                                            · rw [if_pos hc162] at h
                                                              refine zz_tableIn (tgt := 1026) (off := 993) (pc := 33) C (by rw [hc162]; decide) (by rw [hc162]; decide) (by rw [hc162]; decide) (by decide) d_Law_law_33 ?_
                                                              refine zz_aload_n (i := 1) (pc := 1026) C rfl rfl d_Law_law_1026 ?_
                                                              refine zz_aload_n (i := 0) (pc := 1027) C rfl rfl d_Law_law_1027 ?_
                                                              refine zz_iload_n (i := 3) (pc := 1028) C rfl rfl d_Law_law_1028 ?_
                                                              refine zz_iconst (pc := 1029) C zki_1 d_Law_law_1029 ?_
                                                              refine zz_iadd (pc := 1030) C d_Law_law_1030 ?_
                                                              obtain ⟨hi163, h⟩ := zz_ckE h
                                                              refine zz_sld (pc := 1031) C hxs rfl hi163 d_Law_law_1031 ?_
                                                              obtain ⟨q164, hq164, h⟩ := zz_bdE h
                                                              refine zz_cVi (as := [.int (xs (v3 + (1 : Int32)).toNatClampNeg)]) (st := []) (pc := 1032) C (zm_B_trace hq164) zcv_B_trace zsh_0 zl_Law_130 (by omega) (Nat.le_of_ble_eq_true rfl) d_Law_law_1032 rfl rfl ?_
                                                              refine zz_aload_n (i := 2) (pc := 1035) C rfl rfl d_Law_law_1035 ?_
                                                              refine zz_aload_n (i := 0) (pc := 1036) C rfl rfl d_Law_law_1036 ?_
                                                              refine zz_iload_n (i := 3) (pc := 1037) C rfl rfl d_Law_law_1037 ?_
                                                              refine zz_iconst (pc := 1038) C zki_1 d_Law_law_1038 ?_
                                                              refine zz_iadd (pc := 1039) C d_Law_law_1039 ?_
                                                              refine zz_sld (pc := 1040) C hxs rfl hi163 d_Law_law_1040 ?_
                                                              obtain ⟨q165, hq165, h⟩ := zz_bdE h
                                                              refine zz_cVi (as := [.int (xs (v3 + (1 : Int32)).toNatClampNeg)]) (st := [.int q164]) (pc := 1041) C (zm_M_trace hq165) zcv_M_trace zsh_79 zl_Law_133 (by omega) (Nat.le_of_ble_eq_true rfl) d_Law_law_1041 rfl rfl ?_
                                                              refine zz_icmp_eq (tgt := 1351) (pc := 1044) C (by decide) d_Law_law_1044 (fun hc166 => ?_) (fun hc166 => ?_)
                                                              · rw [if_pos hc166] at h
                                                                refine zz_iinc (lo' := [some (.ref 1500), some (.ref 0), some (.ref 79), some (.int (v3 + (6 : Int32)))]) (pc := 1351) C rfl (zz_inc zki_6) rfl rfl d_Law_law_1351 ?_
                                                                refine zz_goto (tgt := 18) (pc := 1354) C (by decide) d_Law_law_1354 ?_
                                                                exact ih (v3 + (6 : Int32)) s h
                                                              · rw [if_neg hc166] at h
                                                                refine zz_iconst (pc := 1047) C zki_0 d_Law_law_1047 ?_
                                                                replace h := Option.some.inj h
                                                                subst h
                                                                exact zz_ret (pc := 1048) C (v := some (.int (0 : Int32))) d_Law_law_1048 (Or.inl ⟨_, _, rfl, rfl, rfl, (by decide)⟩) rfl
                                                            · rw [if_neg hc162] at h
                                                              by_cases hc167 : ((xs v3.toNatClampNeg) &&& (63 : Int32)) = (29 : Int32)
                                                              · rw [if_pos hc167] at h
                                                                refine zz_tableIn (tgt := 1049) (off := 1016) (pc := 33) C (by rw [hc167]; decide) (by rw [hc167]; decide) (by rw [hc167]; decide) (by decide) d_Law_law_33 ?_
                                                                refine zz_aload_n (i := 1) (pc := 1049) C rfl rfl d_Law_law_1049 ?_
                                                                refine zz_aload_n (i := 0) (pc := 1050) C rfl rfl d_Law_law_1050 ?_
                                                                refine zz_iload_n (i := 3) (pc := 1051) C rfl rfl d_Law_law_1051 ?_
                                                                refine zz_iconst (pc := 1052) C zki_1 d_Law_law_1052 ?_
                                                                refine zz_iadd (pc := 1053) C d_Law_law_1053 ?_
                                                                obtain ⟨hi168, h⟩ := zz_ckE h
                                                                refine zz_sld (pc := 1054) C hxs rfl hi168 d_Law_law_1054 ?_
                                                                refine zz_aload_n (i := 0) (pc := 1055) C rfl rfl d_Law_law_1055 ?_
                                                                refine zz_iload_n (i := 3) (pc := 1056) C rfl rfl d_Law_law_1056 ?_
                                                                refine zz_iconst (pc := 1057) C zki_2 d_Law_law_1057 ?_
                                                                refine zz_iadd (pc := 1058) C d_Law_law_1058 ?_
                                                                obtain ⟨hi169, h⟩ := zz_ckE h
                                                                refine zz_sld (pc := 1059) C hxs rfl hi169 d_Law_law_1059 ?_
                                                                obtain ⟨q170, hq170, h⟩ := zz_bdE h
                                                                refine zz_cVi (as := [.int (xs (v3 + (1 : Int32)).toNatClampNeg), .int (xs (v3 + (2 : Int32)).toNatClampNeg)]) (st := []) (pc := 1060) C (zm_B_keep hq170) zcv_B_keep zsh_0 zl_Law_134 (by omega) (Nat.le_of_ble_eq_true rfl) d_Law_law_1060 rfl rfl ?_
                                                                refine zz_aload_n (i := 2) (pc := 1063) C rfl rfl d_Law_law_1063 ?_
                                                                refine zz_aload_n (i := 0) (pc := 1064) C rfl rfl d_Law_law_1064 ?_
                                                                refine zz_iload_n (i := 3) (pc := 1065) C rfl rfl d_Law_law_1065 ?_
                                                                refine zz_iconst (pc := 1066) C zki_1 d_Law_law_1066 ?_
                                                                refine zz_iadd (pc := 1067) C d_Law_law_1067 ?_
                                                                refine zz_sld (pc := 1068) C hxs rfl hi168 d_Law_law_1068 ?_
                                                                refine zz_aload_n (i := 0) (pc := 1069) C rfl rfl d_Law_law_1069 ?_
                                                                refine zz_iload_n (i := 3) (pc := 1070) C rfl rfl d_Law_law_1070 ?_
                                                                refine zz_iconst (pc := 1071) C zki_2 d_Law_law_1071 ?_
                                                                refine zz_iadd (pc := 1072) C d_Law_law_1072 ?_
                                                                refine zz_sld (pc := 1073) C hxs rfl hi169 d_Law_law_1073 ?_
                                                                obtain ⟨q171, hq171, h⟩ := zz_bdE h
                                                                refine zz_cVi (as := [.int (xs (v3 + (1 : Int32)).toNatClampNeg), .int (xs (v3 + (2 : Int32)).toNatClampNeg)]) (st := [.int q170.1]) (pc := 1074) C (zm_M_keep hq171) zcv_M_keep zsh_79 zl_Law_137 (by omega) (Nat.le_of_ble_eq_true rfl) d_Law_law_1074 rfl rfl ?_
                                                                refine zz_icmp_eq (tgt := 1351) (pc := 1077) C (by decide) d_Law_law_1077 (fun hc172 => ?_) (fun hc172 => ?_)
                                                                · rw [if_pos hc172] at h
                                                                  refine zz_iinc (lo' := [some (.ref 1500), some (.ref 0), some (.ref 79), some (.int (v3 + (6 : Int32)))]) (pc := 1351) C rfl (zz_inc zki_6) rfl rfl d_Law_law_1351 ?_
                                                                  refine zz_goto (tgt := 18) (pc := 1354) C (by decide) d_Law_law_1354 ?_
                                                                  exact ih (v3 + (6 : Int32)) q171.2 h
                                                                · rw [if_neg hc172] at h
                                                                  refine zz_iconst (pc := 1080) C zki_0 d_Law_law_1080 ?_
                                                                  replace h := Option.some.inj h
                                                                  subst h
                                                                  exact zz_ret (pc := 1081) C (v := some (.int (0 : Int32))) d_Law_law_1081 (Or.inl ⟨_, _, rfl, rfl, rfl, (by decide)⟩) rfl
                                                              · rw [if_neg hc167] at h
                                                                by_cases hc173 : ((xs v3.toNatClampNeg) &&& (63 : Int32)) = (30 : Int32)
                                                                · rw [if_pos hc173] at h
                                                                  refine zz_tableIn (tgt := 1082) (off := 1049) (pc := 33) C (by rw [hc173]; decide) (by rw [hc173]; decide) (by rw [hc173]; decide) (by decide) d_Law_law_33 ?_
                                                                  refine zz_aload_n (i := 1) (pc := 1082) C rfl rfl d_Law_law_1082 ?_
                                                                  refine zz_aload_n (i := 0) (pc := 1083) C rfl rfl d_Law_law_1083 ?_
                                                                  refine zz_iload_n (i := 3) (pc := 1084) C rfl rfl d_Law_law_1084 ?_
                                                                  refine zz_iconst (pc := 1085) C zki_1 d_Law_law_1085 ?_
                                                                  refine zz_iadd (pc := 1086) C d_Law_law_1086 ?_
                                                                  obtain ⟨hi174, h⟩ := zz_ckE h
                                                                  refine zz_sld (pc := 1087) C hxs rfl hi174 d_Law_law_1087 ?_
                                                                  refine zz_aload_n (i := 0) (pc := 1088) C rfl rfl d_Law_law_1088 ?_
                                                                  refine zz_iload_n (i := 3) (pc := 1089) C rfl rfl d_Law_law_1089 ?_
                                                                  refine zz_iconst (pc := 1090) C zki_2 d_Law_law_1090 ?_
                                                                  refine zz_iadd (pc := 1091) C d_Law_law_1091 ?_
                                                                  obtain ⟨hi175, h⟩ := zz_ckE h
                                                                  refine zz_sld (pc := 1092) C hxs rfl hi175 d_Law_law_1092 ?_
                                                                  refine zz_aload_n (i := 0) (pc := 1093) C rfl rfl d_Law_law_1093 ?_
                                                                  refine zz_iload_n (i := 3) (pc := 1094) C rfl rfl d_Law_law_1094 ?_
                                                                  refine zz_iconst (pc := 1095) C zki_3 d_Law_law_1095 ?_
                                                                  refine zz_iadd (pc := 1096) C d_Law_law_1096 ?_
                                                                  obtain ⟨hi176, h⟩ := zz_ckE h
                                                                  refine zz_sld (pc := 1097) C hxs rfl hi176 d_Law_law_1097 ?_
                                                                  obtain ⟨q177, hq177, h⟩ := zz_bdE h
                                                                  refine zz_cVi (as := [.int (xs (v3 + (1 : Int32)).toNatClampNeg), .int (xs (v3 + (2 : Int32)).toNatClampNeg), .int (xs (v3 + (3 : Int32)).toNatClampNeg)]) (st := []) (pc := 1098) C (zm_B_row hq177) zcv_B_row zsh_0 zl_Law_138 (by omega) (Nat.le_of_ble_eq_true rfl) d_Law_law_1098 rfl rfl ?_
                                                                  refine zz_aload_n (i := 2) (pc := 1101) C rfl rfl d_Law_law_1101 ?_
                                                                  refine zz_aload_n (i := 0) (pc := 1102) C rfl rfl d_Law_law_1102 ?_
                                                                  refine zz_iload_n (i := 3) (pc := 1103) C rfl rfl d_Law_law_1103 ?_
                                                                  refine zz_iconst (pc := 1104) C zki_1 d_Law_law_1104 ?_
                                                                  refine zz_iadd (pc := 1105) C d_Law_law_1105 ?_
                                                                  refine zz_sld (pc := 1106) C hxs rfl hi174 d_Law_law_1106 ?_
                                                                  refine zz_aload_n (i := 0) (pc := 1107) C rfl rfl d_Law_law_1107 ?_
                                                                  refine zz_iload_n (i := 3) (pc := 1108) C rfl rfl d_Law_law_1108 ?_
                                                                  refine zz_iconst (pc := 1109) C zki_2 d_Law_law_1109 ?_
                                                                  refine zz_iadd (pc := 1110) C d_Law_law_1110 ?_
                                                                  refine zz_sld (pc := 1111) C hxs rfl hi175 d_Law_law_1111 ?_
                                                                  refine zz_aload_n (i := 0) (pc := 1112) C rfl rfl d_Law_law_1112 ?_
                                                                  refine zz_iload_n (i := 3) (pc := 1113) C rfl rfl d_Law_law_1113 ?_
                                                                  refine zz_iconst (pc := 1114) C zki_3 d_Law_law_1114 ?_
                                                                  refine zz_iadd (pc := 1115) C d_Law_law_1115 ?_
                                                                  refine zz_sld (pc := 1116) C hxs rfl hi176 d_Law_law_1116 ?_
                                                                  obtain ⟨q178, hq178, h⟩ := zz_bdE h
                                                                  refine zz_cVi (as := [.int (xs (v3 + (1 : Int32)).toNatClampNeg), .int (xs (v3 + (2 : Int32)).toNatClampNeg), .int (xs (v3 + (3 : Int32)).toNatClampNeg)]) (st := [.int q177.1]) (pc := 1117) C (zm_M_row hq178) zcv_M_row zsh_79 zl_Law_141 (by omega) (Nat.le_of_ble_eq_true rfl) d_Law_law_1117 rfl rfl ?_
                                                                  refine zz_icmp_eq (tgt := 1351) (pc := 1120) C (by decide) d_Law_law_1120 (fun hc179 => ?_) (fun hc179 => ?_)
                                                                  · rw [if_pos hc179] at h
                                                                    refine zz_iinc (lo' := [some (.ref 1500), some (.ref 0), some (.ref 79), some (.int (v3 + (6 : Int32)))]) (pc := 1351) C rfl (zz_inc zki_6) rfl rfl d_Law_law_1351 ?_
                                                                    refine zz_goto (tgt := 18) (pc := 1354) C (by decide) d_Law_law_1354 ?_
                                                                    exact ih (v3 + (6 : Int32)) q178.2 h
                                                                  · rw [if_neg hc179] at h
                                                                    refine zz_iconst (pc := 1123) C zki_0 d_Law_law_1123 ?_
                                                                    replace h := Option.some.inj h
                                                                    subst h
                                                                    exact zz_ret (pc := 1124) C (v := some (.int (0 : Int32))) d_Law_law_1124 (Or.inl ⟨_, _, rfl, rfl, rfl, (by decide)⟩) rfl
                                                                · rw [if_neg hc173] at h
                                                                  by_cases hc180 : ((xs v3.toNatClampNeg) &&& (63 : Int32)) = (31 : Int32)
                                                                  · rw [if_pos hc180] at h
                                                                    refine zz_tableIn (tgt := 1125) (off := 1092) (pc := 33) C (by rw [hc180]; decide) (by rw [hc180]; decide) (by rw [hc180]; decide) (by decide) d_Law_law_33 ?_
                                                                    refine zz_aload_n (i := 1) (pc := 1125) C rfl rfl d_Law_law_1125 ?_
                                                                    refine zz_aload_n (i := 0) (pc := 1126) C rfl rfl d_Law_law_1126 ?_
                                                                    refine zz_iload_n (i := 3) (pc := 1127) C rfl rfl d_Law_law_1127 ?_
                                                                    refine zz_iconst (pc := 1128) C zki_1 d_Law_law_1128 ?_
                                                                    refine zz_iadd (pc := 1129) C d_Law_law_1129 ?_
                                                                    obtain ⟨hi181, h⟩ := zz_ckE h
                                                                    refine zz_sld (pc := 1130) C hxs rfl hi181 d_Law_law_1130 ?_
                                                                    refine zz_aload_n (i := 0) (pc := 1131) C rfl rfl d_Law_law_1131 ?_
                                                                    refine zz_iload_n (i := 3) (pc := 1132) C rfl rfl d_Law_law_1132 ?_
                                                                    refine zz_iconst (pc := 1133) C zki_2 d_Law_law_1133 ?_
                                                                    refine zz_iadd (pc := 1134) C d_Law_law_1134 ?_
                                                                    obtain ⟨hi182, h⟩ := zz_ckE h
                                                                    refine zz_sld (pc := 1135) C hxs rfl hi182 d_Law_law_1135 ?_
                                                                    refine zz_aload_n (i := 0) (pc := 1136) C rfl rfl d_Law_law_1136 ?_
                                                                    refine zz_iload_n (i := 3) (pc := 1137) C rfl rfl d_Law_law_1137 ?_
                                                                    refine zz_iconst (pc := 1138) C zki_3 d_Law_law_1138 ?_
                                                                    refine zz_iadd (pc := 1139) C d_Law_law_1139 ?_
                                                                    obtain ⟨hi183, h⟩ := zz_ckE h
                                                                    refine zz_sld (pc := 1140) C hxs rfl hi183 d_Law_law_1140 ?_
                                                                    refine zz_i2l (pc := 1141) C d_Law_law_1141 ?_
                                                                    refine zz_bipush (pc := 1142) C zkb_32 d_Law_law_1142 ?_
                                                                    refine zz_lshl (pc := 1144) C d_Law_law_1144 ?_
                                                                    refine zz_aload_n (i := 0) (pc := 1145) C rfl rfl d_Law_law_1145 ?_
                                                                    refine zz_iload_n (i := 3) (pc := 1146) C rfl rfl d_Law_law_1146 ?_
                                                                    refine zz_iconst (pc := 1147) C zki_4 d_Law_law_1147 ?_
                                                                    refine zz_iadd (pc := 1148) C d_Law_law_1148 ?_
                                                                    obtain ⟨hi184, h⟩ := zz_ckE h
                                                                    refine zz_sld (pc := 1149) C hxs rfl hi184 d_Law_law_1149 ?_
                                                                    refine zz_i2l (pc := 1150) C d_Law_law_1150 ?_
                                                                    refine zz_ldc2 (pc := 1151) C zl_Law_142 d_Law_law_1151 ?_
                                                                    refine zz_land (pc := 1154) C d_Law_law_1154 ?_
                                                                    refine zz_lor (pc := 1155) C d_Law_law_1155 ?_
                                                                    obtain ⟨q185, hq185, h⟩ := zz_bdE h
                                                                    refine zz_cVi (as := [.int (xs (v3 + (1 : Int32)).toNatClampNeg), .int (xs (v3 + (2 : Int32)).toNatClampNeg), .long (((xs (v3 + (3 : Int32)).toNatClampNeg).toInt64 <<< ((32 : Int32).toInt64 &&& 63)) ||| ((xs (v3 + (4 : Int32)).toNatClampNeg).toInt64 &&& (4294967295 : Int64)))]) (st := []) (pc := 1156) C (zm_B_put hq185) zcv_B_put zsh_0 zl_Law_144 (by omega) (Nat.le_of_ble_eq_true rfl) d_Law_law_1156 rfl rfl ?_
                                                                    refine zz_aload_n (i := 2) (pc := 1159) C rfl rfl d_Law_law_1159 ?_
                                                                    refine zz_aload_n (i := 0) (pc := 1160) C rfl rfl d_Law_law_1160 ?_
                                                                    refine zz_iload_n (i := 3) (pc := 1161) C rfl rfl d_Law_law_1161 ?_
                                                                    refine zz_iconst (pc := 1162) C zki_1 d_Law_law_1162 ?_
                                                                    refine zz_iadd (pc := 1163) C d_Law_law_1163 ?_
                                                                    refine zz_sld (pc := 1164) C hxs rfl hi181 d_Law_law_1164 ?_
                                                                    refine zz_aload_n (i := 0) (pc := 1165) C rfl rfl d_Law_law_1165 ?_
                                                                    refine zz_iload_n (i := 3) (pc := 1166) C rfl rfl d_Law_law_1166 ?_
                                                                    refine zz_iconst (pc := 1167) C zki_2 d_Law_law_1167 ?_
                                                                    refine zz_iadd (pc := 1168) C d_Law_law_1168 ?_
                                                                    refine zz_sld (pc := 1169) C hxs rfl hi182 d_Law_law_1169 ?_
                                                                    refine zz_aload_n (i := 0) (pc := 1170) C rfl rfl d_Law_law_1170 ?_
                                                                    refine zz_iload_n (i := 3) (pc := 1171) C rfl rfl d_Law_law_1171 ?_
                                                                    refine zz_iconst (pc := 1172) C zki_3 d_Law_law_1172 ?_
                                                                    refine zz_iadd (pc := 1173) C d_Law_law_1173 ?_
                                                                    refine zz_sld (pc := 1174) C hxs rfl hi183 d_Law_law_1174 ?_
                                                                    refine zz_i2l (pc := 1175) C d_Law_law_1175 ?_
                                                                    refine zz_bipush (pc := 1176) C zkb_32 d_Law_law_1176 ?_
                                                                    refine zz_lshl (pc := 1178) C d_Law_law_1178 ?_
                                                                    refine zz_aload_n (i := 0) (pc := 1179) C rfl rfl d_Law_law_1179 ?_
                                                                    refine zz_iload_n (i := 3) (pc := 1180) C rfl rfl d_Law_law_1180 ?_
                                                                    refine zz_iconst (pc := 1181) C zki_4 d_Law_law_1181 ?_
                                                                    refine zz_iadd (pc := 1182) C d_Law_law_1182 ?_
                                                                    refine zz_sld (pc := 1183) C hxs rfl hi184 d_Law_law_1183 ?_
                                                                    refine zz_i2l (pc := 1184) C d_Law_law_1184 ?_
                                                                    refine zz_ldc2 (pc := 1185) C zl_Law_142 d_Law_law_1185 ?_
                                                                    refine zz_land (pc := 1188) C d_Law_law_1188 ?_
                                                                    refine zz_lor (pc := 1189) C d_Law_law_1189 ?_
                                                                    obtain ⟨q186, hq186, h⟩ := zz_bdE h
                                                                    refine zz_cVi (as := [.int (xs (v3 + (1 : Int32)).toNatClampNeg), .int (xs (v3 + (2 : Int32)).toNatClampNeg), .long (((xs (v3 + (3 : Int32)).toNatClampNeg).toInt64 <<< ((32 : Int32).toInt64 &&& 63)) ||| ((xs (v3 + (4 : Int32)).toNatClampNeg).toInt64 &&& (4294967295 : Int64)))]) (st := [.int q185.1]) (pc := 1190) C (zm_M_put hq186) zcv_M_put zsh_79 zl_Law_148 (by omega) (Nat.le_of_ble_eq_true rfl) d_Law_law_1190 rfl rfl ?_
                                                                    refine zz_icmp_eq (tgt := 1351) (pc := 1193) C (by decide) d_Law_law_1193 (fun hc187 => ?_) (fun hc187 => ?_)
                                                                    · rw [if_pos hc187] at h
                                                                      refine zz_iinc (lo' := [some (.ref 1500), some (.ref 0), some (.ref 79), some (.int (v3 + (6 : Int32)))]) (pc := 1351) C rfl (zz_inc zki_6) rfl rfl d_Law_law_1351 ?_
                                                                      refine zz_goto (tgt := 18) (pc := 1354) C (by decide) d_Law_law_1354 ?_
                                                                      exact ih (v3 + (6 : Int32)) q186.2 h
                                                                    · rw [if_neg hc187] at h
                                                                      refine zz_iconst (pc := 1196) C zki_0 d_Law_law_1196 ?_
                                                                      replace h := Option.some.inj h
                                                                      subst h
                                                                      exact zz_ret (pc := 1197) C (v := some (.int (0 : Int32))) d_Law_law_1197 (Or.inl ⟨_, _, rfl, rfl, rfl, (by decide)⟩) rfl
                                                                  · rw [if_neg hc180] at h
                                                                    by_cases hc188 : ((xs v3.toNatClampNeg) &&& (63 : Int32)) = (32 : Int32)
                                                                    · rw [if_pos hc188] at h
                                                                      refine zz_tableIn (tgt := 1198) (off := 1165) (pc := 33) C (by rw [hc188]; decide) (by rw [hc188]; decide) (by rw [hc188]; decide) (by decide) d_Law_law_33 ?_
                                                                      refine zz_aload_n (i := 1) (pc := 1198) C rfl rfl d_Law_law_1198 ?_
                                                                      refine zz_aload_n (i := 0) (pc := 1199) C rfl rfl d_Law_law_1199 ?_
                                                                      refine zz_iload_n (i := 3) (pc := 1200) C rfl rfl d_Law_law_1200 ?_
                                                                      refine zz_iconst (pc := 1201) C zki_1 d_Law_law_1201 ?_
                                                                      refine zz_iadd (pc := 1202) C d_Law_law_1202 ?_
                                                                      obtain ⟨hi189, h⟩ := zz_ckE h
                                                                      refine zz_sld (pc := 1203) C hxs rfl hi189 d_Law_law_1203 ?_
                                                                      refine zz_aload_n (i := 0) (pc := 1204) C rfl rfl d_Law_law_1204 ?_
                                                                      refine zz_iload_n (i := 3) (pc := 1205) C rfl rfl d_Law_law_1205 ?_
                                                                      refine zz_iconst (pc := 1206) C zki_2 d_Law_law_1206 ?_
                                                                      refine zz_iadd (pc := 1207) C d_Law_law_1207 ?_
                                                                      obtain ⟨hi190, h⟩ := zz_ckE h
                                                                      refine zz_sld (pc := 1208) C hxs rfl hi190 d_Law_law_1208 ?_
                                                                      obtain ⟨q191, hq191, h⟩ := zz_bdE h
                                                                      refine zz_cVl (as := [.int (xs (v3 + (1 : Int32)).toNatClampNeg), .int (xs (v3 + (2 : Int32)).toNatClampNeg)]) (st := []) (pc := 1209) C (zm_B_element hq191) zcv_B_element zsh_0 zl_Law_149 (by omega) (Nat.le_of_ble_eq_true rfl) d_Law_law_1209 rfl rfl ?_
                                                                      refine zz_aload_n (i := 2) (pc := 1212) C rfl rfl d_Law_law_1212 ?_
                                                                      refine zz_aload_n (i := 0) (pc := 1213) C rfl rfl d_Law_law_1213 ?_
                                                                      refine zz_iload_n (i := 3) (pc := 1214) C rfl rfl d_Law_law_1214 ?_
                                                                      refine zz_iconst (pc := 1215) C zki_1 d_Law_law_1215 ?_
                                                                      refine zz_iadd (pc := 1216) C d_Law_law_1216 ?_
                                                                      refine zz_sld (pc := 1217) C hxs rfl hi189 d_Law_law_1217 ?_
                                                                      refine zz_aload_n (i := 0) (pc := 1218) C rfl rfl d_Law_law_1218 ?_
                                                                      refine zz_iload_n (i := 3) (pc := 1219) C rfl rfl d_Law_law_1219 ?_
                                                                      refine zz_iconst (pc := 1220) C zki_2 d_Law_law_1220 ?_
                                                                      refine zz_iadd (pc := 1221) C d_Law_law_1221 ?_
                                                                      refine zz_sld (pc := 1222) C hxs rfl hi190 d_Law_law_1222 ?_
                                                                      obtain ⟨q192, hq192, h⟩ := zz_bdE h
                                                                      refine zz_cVl (as := [.int (xs (v3 + (1 : Int32)).toNatClampNeg), .int (xs (v3 + (2 : Int32)).toNatClampNeg)]) (st := [.long q191]) (pc := 1223) C (zm_M_element hq192) zcv_M_element zsh_79 zl_Law_153 (by omega) (Nat.le_of_ble_eq_true rfl) d_Law_law_1223 rfl rfl ?_
                                                                      refine zz_lcmp (pc := 1226) C d_Law_law_1226 ?_
                                                                      refine zz_if_eq (tgt := 1351) (pc := 1227) C (by decide) d_Law_law_1227 (fun hc193 => ?_) (fun hc193 => ?_)
                                                                      · rw [if_pos hc193] at h
                                                                        refine zz_iinc (lo' := [some (.ref 1500), some (.ref 0), some (.ref 79), some (.int (v3 + (6 : Int32)))]) (pc := 1351) C rfl (zz_inc zki_6) rfl rfl d_Law_law_1351 ?_
                                                                        refine zz_goto (tgt := 18) (pc := 1354) C (by decide) d_Law_law_1354 ?_
                                                                        exact ih (v3 + (6 : Int32)) s h
                                                                      · rw [if_neg hc193] at h
                                                                        refine zz_iconst (pc := 1230) C zki_0 d_Law_law_1230 ?_
                                                                        replace h := Option.some.inj h
                                                                        subst h
                                                                        exact zz_ret (pc := 1231) C (v := some (.int (0 : Int32))) d_Law_law_1231 (Or.inl ⟨_, _, rfl, rfl, rfl, (by decide)⟩) rfl
                                                                    · rw [if_neg hc188] at h
                                                                      by_cases hc194 : ((xs v3.toNatClampNeg) &&& (63 : Int32)) = (33 : Int32)
                                                                      · rw [if_pos hc194] at h
                                                                        refine zz_tableIn (tgt := 1232) (off := 1199) (pc := 33) C (by rw [hc194]; decide) (by rw [hc194]; decide) (by rw [hc194]; decide) (by decide) d_Law_law_33 ?_
                                                                        refine zz_aload_n (i := 1) (pc := 1232) C rfl rfl d_Law_law_1232 ?_
                                                                        refine zz_aload_n (i := 0) (pc := 1233) C rfl rfl d_Law_law_1233 ?_
                                                                        refine zz_iload_n (i := 3) (pc := 1234) C rfl rfl d_Law_law_1234 ?_
                                                                        refine zz_iconst (pc := 1235) C zki_1 d_Law_law_1235 ?_
                                                                        refine zz_iadd (pc := 1236) C d_Law_law_1236 ?_
                                                                        obtain ⟨hi195, h⟩ := zz_ckE h
                                                                        refine zz_sld (pc := 1237) C hxs rfl hi195 d_Law_law_1237 ?_
                                                                        refine zz_aload_n (i := 0) (pc := 1238) C rfl rfl d_Law_law_1238 ?_
                                                                        refine zz_iload_n (i := 3) (pc := 1239) C rfl rfl d_Law_law_1239 ?_
                                                                        refine zz_iconst (pc := 1240) C zki_2 d_Law_law_1240 ?_
                                                                        refine zz_iadd (pc := 1241) C d_Law_law_1241 ?_
                                                                        obtain ⟨hi196, h⟩ := zz_ckE h
                                                                        refine zz_sld (pc := 1242) C hxs rfl hi196 d_Law_law_1242 ?_
                                                                        refine zz_aload_n (i := 0) (pc := 1243) C rfl rfl d_Law_law_1243 ?_
                                                                        refine zz_iload_n (i := 3) (pc := 1244) C rfl rfl d_Law_law_1244 ?_
                                                                        refine zz_iconst (pc := 1245) C zki_3 d_Law_law_1245 ?_
                                                                        refine zz_iadd (pc := 1246) C d_Law_law_1246 ?_
                                                                        obtain ⟨hi197, h⟩ := zz_ckE h
                                                                        refine zz_sld (pc := 1247) C hxs rfl hi197 d_Law_law_1247 ?_
                                                                        refine zz_aload_n (i := 0) (pc := 1248) C rfl rfl d_Law_law_1248 ?_
                                                                        refine zz_iload_n (i := 3) (pc := 1249) C rfl rfl d_Law_law_1249 ?_
                                                                        refine zz_iconst (pc := 1250) C zki_4 d_Law_law_1250 ?_
                                                                        refine zz_iadd (pc := 1251) C d_Law_law_1251 ?_
                                                                        obtain ⟨hi198, h⟩ := zz_ckE h
                                                                        refine zz_sld (pc := 1252) C hxs rfl hi198 d_Law_law_1252 ?_
                                                                        refine zz_aload_n (i := 0) (pc := 1253) C rfl rfl d_Law_law_1253 ?_
                                                                        refine zz_iload_n (i := 3) (pc := 1254) C rfl rfl d_Law_law_1254 ?_
                                                                        refine zz_iconst (pc := 1255) C zki_5 d_Law_law_1255 ?_
                                                                        refine zz_iadd (pc := 1256) C d_Law_law_1256 ?_
                                                                        obtain ⟨hi199, h⟩ := zz_ckE h
                                                                        refine zz_sld (pc := 1257) C hxs rfl hi199 d_Law_law_1257 ?_
                                                                        obtain ⟨q200, hq200, h⟩ := zz_bdE h
                                                                        refine zz_cVi (as := [.int (xs (v3 + (1 : Int32)).toNatClampNeg), .int (xs (v3 + (2 : Int32)).toNatClampNeg), .int (xs (v3 + (3 : Int32)).toNatClampNeg), .int (xs (v3 + (4 : Int32)).toNatClampNeg), .int (xs (v3 + (5 : Int32)).toNatClampNeg)]) (st := []) (pc := 1258) C (zm_B_shift hex hq200) zcv_B_shift zsh_0 zl_Law_154 (by omega) (Nat.le_of_ble_eq_true rfl) d_Law_law_1258 rfl rfl ?_
                                                                        refine zz_aload_n (i := 2) (pc := 1261) C rfl rfl d_Law_law_1261 ?_
                                                                        refine zz_aload_n (i := 0) (pc := 1262) C rfl rfl d_Law_law_1262 ?_
                                                                        refine zz_iload_n (i := 3) (pc := 1263) C rfl rfl d_Law_law_1263 ?_
                                                                        refine zz_iconst (pc := 1264) C zki_1 d_Law_law_1264 ?_
                                                                        refine zz_iadd (pc := 1265) C d_Law_law_1265 ?_
                                                                        refine zz_sld (pc := 1266) C hxs rfl hi195 d_Law_law_1266 ?_
                                                                        refine zz_aload_n (i := 0) (pc := 1267) C rfl rfl d_Law_law_1267 ?_
                                                                        refine zz_iload_n (i := 3) (pc := 1268) C rfl rfl d_Law_law_1268 ?_
                                                                        refine zz_iconst (pc := 1269) C zki_2 d_Law_law_1269 ?_
                                                                        refine zz_iadd (pc := 1270) C d_Law_law_1270 ?_
                                                                        refine zz_sld (pc := 1271) C hxs rfl hi196 d_Law_law_1271 ?_
                                                                        refine zz_aload_n (i := 0) (pc := 1272) C rfl rfl d_Law_law_1272 ?_
                                                                        refine zz_iload_n (i := 3) (pc := 1273) C rfl rfl d_Law_law_1273 ?_
                                                                        refine zz_iconst (pc := 1274) C zki_3 d_Law_law_1274 ?_
                                                                        refine zz_iadd (pc := 1275) C d_Law_law_1275 ?_
                                                                        refine zz_sld (pc := 1276) C hxs rfl hi197 d_Law_law_1276 ?_
                                                                        refine zz_aload_n (i := 0) (pc := 1277) C rfl rfl d_Law_law_1277 ?_
                                                                        refine zz_iload_n (i := 3) (pc := 1278) C rfl rfl d_Law_law_1278 ?_
                                                                        refine zz_iconst (pc := 1279) C zki_4 d_Law_law_1279 ?_
                                                                        refine zz_iadd (pc := 1280) C d_Law_law_1280 ?_
                                                                        refine zz_sld (pc := 1281) C hxs rfl hi198 d_Law_law_1281 ?_
                                                                        refine zz_aload_n (i := 0) (pc := 1282) C rfl rfl d_Law_law_1282 ?_
                                                                        refine zz_iload_n (i := 3) (pc := 1283) C rfl rfl d_Law_law_1283 ?_
                                                                        refine zz_iconst (pc := 1284) C zki_5 d_Law_law_1284 ?_
                                                                        refine zz_iadd (pc := 1285) C d_Law_law_1285 ?_
                                                                        refine zz_sld (pc := 1286) C hxs rfl hi199 d_Law_law_1286 ?_
                                                                        obtain ⟨q201, hq201, h⟩ := zz_bdE h
                                                                        refine zz_cVi (as := [.int (xs (v3 + (1 : Int32)).toNatClampNeg), .int (xs (v3 + (2 : Int32)).toNatClampNeg), .int (xs (v3 + (3 : Int32)).toNatClampNeg), .int (xs (v3 + (4 : Int32)).toNatClampNeg), .int (xs (v3 + (5 : Int32)).toNatClampNeg)]) (st := [.int q200.1]) (pc := 1287) C (zm_M_shift hq201) zcv_M_shift zsh_79 zl_Law_158 (by omega) (Nat.le_of_ble_eq_true rfl) d_Law_law_1287 rfl rfl ?_
                                                                        refine zz_icmp_eq (tgt := 1351) (pc := 1290) C (by decide) d_Law_law_1290 (fun hc202 => ?_) (fun hc202 => ?_)
                                                                        · rw [if_pos hc202] at h
                                                                          refine zz_iinc (lo' := [some (.ref 1500), some (.ref 0), some (.ref 79), some (.int (v3 + (6 : Int32)))]) (pc := 1351) C rfl (zz_inc zki_6) rfl rfl d_Law_law_1351 ?_
                                                                          refine zz_goto (tgt := 18) (pc := 1354) C (by decide) d_Law_law_1354 ?_
                                                                          exact ih (v3 + (6 : Int32)) q201.2 h
                                                                        · rw [if_neg hc202] at h
                                                                          refine zz_iconst (pc := 1293) C zki_0 d_Law_law_1293 ?_
                                                                          replace h := Option.some.inj h
                                                                          subst h
                                                                          exact zz_ret (pc := 1294) C (v := some (.int (0 : Int32))) d_Law_law_1294 (Or.inl ⟨_, _, rfl, rfl, rfl, (by decide)⟩) rfl
                                                                      · rw [if_neg hc194] at h
                                                                        by_cases hc203 : ((xs v3.toNatClampNeg) &&& (63 : Int32)) = (34 : Int32)
                                                                        · rw [if_pos hc203] at h
                                                                          refine zz_tableIn (tgt := 1295) (off := 1262) (pc := 33) C (by rw [hc203]; decide) (by rw [hc203]; decide) (by rw [hc203]; decide) (by decide) d_Law_law_33 ?_
                                                                          refine zz_aload_n (i := 1) (pc := 1295) C rfl rfl d_Law_law_1295 ?_
                                                                          refine zz_aload_n (i := 0) (pc := 1296) C rfl rfl d_Law_law_1296 ?_
                                                                          refine zz_iload_n (i := 3) (pc := 1297) C rfl rfl d_Law_law_1297 ?_
                                                                          refine zz_iconst (pc := 1298) C zki_1 d_Law_law_1298 ?_
                                                                          refine zz_iadd (pc := 1299) C d_Law_law_1299 ?_
                                                                          obtain ⟨hi204, h⟩ := zz_ckE h
                                                                          refine zz_sld (pc := 1300) C hxs rfl hi204 d_Law_law_1300 ?_
                                                                          refine zz_aload_n (i := 0) (pc := 1301) C rfl rfl d_Law_law_1301 ?_
                                                                          refine zz_iload_n (i := 3) (pc := 1302) C rfl rfl d_Law_law_1302 ?_
                                                                          refine zz_iconst (pc := 1303) C zki_2 d_Law_law_1303 ?_
                                                                          refine zz_iadd (pc := 1304) C d_Law_law_1304 ?_
                                                                          obtain ⟨hi205, h⟩ := zz_ckE h
                                                                          refine zz_sld (pc := 1305) C hxs rfl hi205 d_Law_law_1305 ?_
                                                                          obtain ⟨q206, hq206, h⟩ := zz_bdE h
                                                                          refine zz_cVi (as := [.int (xs (v3 + (1 : Int32)).toNatClampNeg), .int (xs (v3 + (2 : Int32)).toNatClampNeg)]) (st := []) (pc := 1306) C (zm_B_taken hq206) zcv_B_taken zsh_0 zl_Law_159 (by omega) (Nat.le_of_ble_eq_true rfl) d_Law_law_1306 rfl rfl ?_
                                                                          refine zz_aload_n (i := 2) (pc := 1309) C rfl rfl d_Law_law_1309 ?_
                                                                          refine zz_aload_n (i := 0) (pc := 1310) C rfl rfl d_Law_law_1310 ?_
                                                                          refine zz_iload_n (i := 3) (pc := 1311) C rfl rfl d_Law_law_1311 ?_
                                                                          refine zz_iconst (pc := 1312) C zki_1 d_Law_law_1312 ?_
                                                                          refine zz_iadd (pc := 1313) C d_Law_law_1313 ?_
                                                                          refine zz_sld (pc := 1314) C hxs rfl hi204 d_Law_law_1314 ?_
                                                                          refine zz_aload_n (i := 0) (pc := 1315) C rfl rfl d_Law_law_1315 ?_
                                                                          refine zz_iload_n (i := 3) (pc := 1316) C rfl rfl d_Law_law_1316 ?_
                                                                          refine zz_iconst (pc := 1317) C zki_2 d_Law_law_1317 ?_
                                                                          refine zz_iadd (pc := 1318) C d_Law_law_1318 ?_
                                                                          refine zz_sld (pc := 1319) C hxs rfl hi205 d_Law_law_1319 ?_
                                                                          obtain ⟨q207, hq207, h⟩ := zz_bdE h
                                                                          refine zz_cVi (as := [.int (xs (v3 + (1 : Int32)).toNatClampNeg), .int (xs (v3 + (2 : Int32)).toNatClampNeg)]) (st := [.int q206]) (pc := 1320) C (zm_M_taken hq207) zcv_M_taken zsh_79 zl_Law_162 (by omega) (Nat.le_of_ble_eq_true rfl) d_Law_law_1320 rfl rfl ?_
                                                                          refine zz_icmp_eq (tgt := 1351) (pc := 1323) C (by decide) d_Law_law_1323 (fun hc208 => ?_) (fun hc208 => ?_)
                                                                          · rw [if_pos hc208] at h
                                                                            refine zz_iinc (lo' := [some (.ref 1500), some (.ref 0), some (.ref 79), some (.int (v3 + (6 : Int32)))]) (pc := 1351) C rfl (zz_inc zki_6) rfl rfl d_Law_law_1351 ?_
                                                                            refine zz_goto (tgt := 18) (pc := 1354) C (by decide) d_Law_law_1354 ?_
                                                                            exact ih (v3 + (6 : Int32)) s h
                                                                          · rw [if_neg hc208] at h
                                                                            refine zz_iconst (pc := 1326) C zki_0 d_Law_law_1326 ?_
                                                                            replace h := Option.some.inj h
                                                                            subst h
                                                                            exact zz_ret (pc := 1327) C (v := some (.int (0 : Int32))) d_Law_law_1327 (Or.inl ⟨_, _, rfl, rfl, rfl, (by decide)⟩) rfl
                                                                        · rw [if_neg hc203] at h
                                                                          by_cases hc209 : ((xs v3.toNatClampNeg) &&& (63 : Int32)) = (35 : Int32)
                                                                          · rw [if_pos hc209] at h
                                                                            refine zz_tableIn (tgt := 1328) (off := 1295) (pc := 33) C (by rw [hc209]; decide) (by rw [hc209]; decide) (by rw [hc209]; decide) (by decide) d_Law_law_33 ?_
                                                                            refine zz_aload_n (i := 1) (pc := 1328) C rfl rfl d_Law_law_1328 ?_
                                                                            refine zz_aload_n (i := 0) (pc := 1329) C rfl rfl d_Law_law_1329 ?_
                                                                            refine zz_iload_n (i := 3) (pc := 1330) C rfl rfl d_Law_law_1330 ?_
                                                                            refine zz_iconst (pc := 1331) C zki_1 d_Law_law_1331 ?_
                                                                            refine zz_iadd (pc := 1332) C d_Law_law_1332 ?_
                                                                            obtain ⟨hi210, h⟩ := zz_ckE h
                                                                            refine zz_sld (pc := 1333) C hxs rfl hi210 d_Law_law_1333 ?_
                                                                            refine zz_cVi (as := [.int (xs (v3 + (1 : Int32)).toNatClampNeg)]) (st := []) (pc := 1334) C (zm_B_count rfl) zcv_B_count zsh_0 zl_Law_163 (by omega) (Nat.le_of_ble_eq_true rfl) d_Law_law_1334 rfl rfl ?_
                                                                            refine zz_aload_n (i := 2) (pc := 1337) C rfl rfl d_Law_law_1337 ?_
                                                                            refine zz_aload_n (i := 0) (pc := 1338) C rfl rfl d_Law_law_1338 ?_
                                                                            refine zz_iload_n (i := 3) (pc := 1339) C rfl rfl d_Law_law_1339 ?_
                                                                            refine zz_iconst (pc := 1340) C zki_1 d_Law_law_1340 ?_
                                                                            refine zz_iadd (pc := 1341) C d_Law_law_1341 ?_
                                                                            refine zz_sld (pc := 1342) C hxs rfl hi210 d_Law_law_1342 ?_
                                                                            refine zz_cVi (as := [.int (xs (v3 + (1 : Int32)).toNatClampNeg)]) (st := [.int (f_B_count (xs (v3 + (1 : Int32)).toNatClampNeg) s)]) (pc := 1343) C (zm_M_count rfl) zcv_M_count zsh_79 zl_Law_166 (by omega) (Nat.le_of_ble_eq_true rfl) d_Law_law_1343 rfl rfl ?_
                                                                            refine zz_icmp_eq (tgt := 1351) (pc := 1346) C (by decide) d_Law_law_1346 (fun hc211 => ?_) (fun hc211 => ?_)
                                                                            · rw [if_pos hc211] at h
                                                                              refine zz_iinc (lo' := [some (.ref 1500), some (.ref 0), some (.ref 79), some (.int (v3 + (6 : Int32)))]) (pc := 1351) C rfl (zz_inc zki_6) rfl rfl d_Law_law_1351 ?_
                                                                              refine zz_goto (tgt := 18) (pc := 1354) C (by decide) d_Law_law_1354 ?_
                                                                              exact ih (v3 + (6 : Int32)) s h
                                                                            · rw [if_neg hc211] at h
                                                                              refine zz_iconst (pc := 1349) C zki_0 d_Law_law_1349 ?_
                                                                              replace h := Option.some.inj h
                                                                              subst h
                                                                              exact zz_ret (pc := 1350) C (v := some (.int (0 : Int32))) d_Law_law_1350 (Or.inl ⟨_, _, rfl, rfl, rfl, (by decide)⟩) rfl
                                                                          · rw [if_neg hc209] at h
                                                                            have hc3i : ((xs v3.toNatClampNeg) &&& (63 : Int32)).toInt ≠ 0 := fun e => hc3 (Int32.toInt_inj.mp e)
                                                                            have hc8i : ((xs v3.toNatClampNeg) &&& (63 : Int32)).toInt ≠ 1 := fun e => hc8 (Int32.toInt_inj.mp e)
                                                                            have hc14i : ((xs v3.toNatClampNeg) &&& (63 : Int32)).toInt ≠ 2 := fun e => hc14 (Int32.toInt_inj.mp e)
                                                                            have hc21i : ((xs v3.toNatClampNeg) &&& (63 : Int32)).toInt ≠ 3 := fun e => hc21 (Int32.toInt_inj.mp e)
                                                                            have hc28i : ((xs v3.toNatClampNeg) &&& (63 : Int32)).toInt ≠ 4 := fun e => hc28 (Int32.toInt_inj.mp e)
                                                                            have hc34i : ((xs v3.toNatClampNeg) &&& (63 : Int32)).toInt ≠ 5 := fun e => hc34 (Int32.toInt_inj.mp e)
                                                                            have hc39i : ((xs v3.toNatClampNeg) &&& (63 : Int32)).toInt ≠ 6 := fun e => hc39 (Int32.toInt_inj.mp e)
                                                                            have hc43i : ((xs v3.toNatClampNeg) &&& (63 : Int32)).toInt ≠ 7 := fun e => hc43 (Int32.toInt_inj.mp e)
                                                                            have hc47i : ((xs v3.toNatClampNeg) &&& (63 : Int32)).toInt ≠ 8 := fun e => hc47 (Int32.toInt_inj.mp e)
                                                                            have hc52i : ((xs v3.toNatClampNeg) &&& (63 : Int32)).toInt ≠ 9 := fun e => hc52 (Int32.toInt_inj.mp e)
                                                                            have hc59i : ((xs v3.toNatClampNeg) &&& (63 : Int32)).toInt ≠ 10 := fun e => hc59 (Int32.toInt_inj.mp e)
                                                                            have hc66i : ((xs v3.toNatClampNeg) &&& (63 : Int32)).toInt ≠ 11 := fun e => hc66 (Int32.toInt_inj.mp e)
                                                                            have hc70i : ((xs v3.toNatClampNeg) &&& (63 : Int32)).toInt ≠ 12 := fun e => hc70 (Int32.toInt_inj.mp e)
                                                                            have hc76i : ((xs v3.toNatClampNeg) &&& (63 : Int32)).toInt ≠ 13 := fun e => hc76 (Int32.toInt_inj.mp e)
                                                                            have hc83i : ((xs v3.toNatClampNeg) &&& (63 : Int32)).toInt ≠ 14 := fun e => hc83 (Int32.toInt_inj.mp e)
                                                                            have hc89i : ((xs v3.toNatClampNeg) &&& (63 : Int32)).toInt ≠ 15 := fun e => hc89 (Int32.toInt_inj.mp e)
                                                                            have hc95i : ((xs v3.toNatClampNeg) &&& (63 : Int32)).toInt ≠ 16 := fun e => hc95 (Int32.toInt_inj.mp e)
                                                                            have hc100i : ((xs v3.toNatClampNeg) &&& (63 : Int32)).toInt ≠ 17 := fun e => hc100 (Int32.toInt_inj.mp e)
                                                                            have hc106i : ((xs v3.toNatClampNeg) &&& (63 : Int32)).toInt ≠ 18 := fun e => hc106 (Int32.toInt_inj.mp e)
                                                                            have hc112i : ((xs v3.toNatClampNeg) &&& (63 : Int32)).toInt ≠ 19 := fun e => hc112 (Int32.toInt_inj.mp e)
                                                                            have hc117i : ((xs v3.toNatClampNeg) &&& (63 : Int32)).toInt ≠ 20 := fun e => hc117 (Int32.toInt_inj.mp e)
                                                                            have hc122i : ((xs v3.toNatClampNeg) &&& (63 : Int32)).toInt ≠ 21 := fun e => hc122 (Int32.toInt_inj.mp e)
                                                                            have hc130i : ((xs v3.toNatClampNeg) &&& (63 : Int32)).toInt ≠ 22 := fun e => hc130 (Int32.toInt_inj.mp e)
                                                                            have hc137i : ((xs v3.toNatClampNeg) &&& (63 : Int32)).toInt ≠ 23 := fun e => hc137 (Int32.toInt_inj.mp e)
                                                                            have hc142i : ((xs v3.toNatClampNeg) &&& (63 : Int32)).toInt ≠ 24 := fun e => hc142 (Int32.toInt_inj.mp e)
                                                                            have hc146i : ((xs v3.toNatClampNeg) &&& (63 : Int32)).toInt ≠ 25 := fun e => hc146 (Int32.toInt_inj.mp e)
                                                                            have hc150i : ((xs v3.toNatClampNeg) &&& (63 : Int32)).toInt ≠ 26 := fun e => hc150 (Int32.toInt_inj.mp e)
                                                                            have hc155i : ((xs v3.toNatClampNeg) &&& (63 : Int32)).toInt ≠ 27 := fun e => hc155 (Int32.toInt_inj.mp e)
                                                                            have hc162i : ((xs v3.toNatClampNeg) &&& (63 : Int32)).toInt ≠ 28 := fun e => hc162 (Int32.toInt_inj.mp e)
                                                                            have hc167i : ((xs v3.toNatClampNeg) &&& (63 : Int32)).toInt ≠ 29 := fun e => hc167 (Int32.toInt_inj.mp e)
                                                                            have hc173i : ((xs v3.toNatClampNeg) &&& (63 : Int32)).toInt ≠ 30 := fun e => hc173 (Int32.toInt_inj.mp e)
                                                                            have hc180i : ((xs v3.toNatClampNeg) &&& (63 : Int32)).toInt ≠ 31 := fun e => hc180 (Int32.toInt_inj.mp e)
                                                                            have hc188i : ((xs v3.toNatClampNeg) &&& (63 : Int32)).toInt ≠ 32 := fun e => hc188 (Int32.toInt_inj.mp e)
                                                                            have hc194i : ((xs v3.toNatClampNeg) &&& (63 : Int32)).toInt ≠ 33 := fun e => hc194 (Int32.toInt_inj.mp e)
                                                                            have hc203i : ((xs v3.toNatClampNeg) &&& (63 : Int32)).toInt ≠ 34 := fun e => hc203 (Int32.toInt_inj.mp e)
                                                                            have hc209i : ((xs v3.toNatClampNeg) &&& (63 : Int32)).toInt ≠ 35 := fun e => hc209 (Int32.toInt_inj.mp e)
                                                                            refine zz_tableOut (tgt := 1351) (pc := 33) C (by omega) (by decide) d_Law_law_33 ?_
                                                                            refine zz_iinc (lo' := [some (.ref 1500), some (.ref 0), some (.ref 79), some (.int (v3 + (6 : Int32)))]) (pc := 1351) C rfl (zz_inc zki_6) rfl rfl d_Law_law_1351 ?_
                                                                            refine zz_goto (tgt := 18) (pc := 1354) C (by decide) d_Law_law_1354 ?_
                                                                            exact ih (v3 + (6 : Int32)) s h
