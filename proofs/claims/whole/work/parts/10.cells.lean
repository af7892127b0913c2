/-! the cells of the system, once both objects are made -/
def zsh : List zz_Sh := [.inl (11, [some (some 1), some (some 10), some (some 15), some (some 19), some (some 20), some (some 39), some (some 44), some (some 49), some (some 52), some (some 53), some (some 54), none, none]),
  .inl (0, [none, none, none, some (some 2), some (some 3), some (some 4), some (some 5), some (some 6), some (some 7), some (some 8), some (some 9)]),
  .inr (0, 6, []),
  .inr (0, 6, []),
  .inr (0, 6, []),
  .inr (0, 6, []),
  .inr (0, 3, []),
  .inr (0, 3, []),
  .inr (0, 3, []),
  .inr (0, 3, []),
  .inl (10, [none, some (some 11), some (some 12), some (some 13), some (some 14)]),
  .inr (0, 60, []),
  .inr (0, 60, []),
  .inr (0, 60, []),
  .inr (0, 60, []),
  .inl (5, [some (some 16), some (some 17), some (some 18)]),
  .inr (0, 480, []),
  .inr (0, 480, []),
  .inr (0, 8, []),
  .inr (4, 4, [some 55, some 58, some 61, some 64]),
  .inl (4, [some (some 1), some (some 10), some (some 15), some (some 19), some (some 32), some (some 21), some (some 28), some (some 29), some (some 30), some (some 31), none, none, none, none, none, none, none]),
  .inl (7, [some (some 22), some (some 23), some (some 24), some (some 25), some (some 26), some (some 27)]),
  .inr (0, 6, []),
  .inr (0, 6, []),
  .inr (0, 6, []),
  .inr (0, 6, []),
  .inr (0, 6, []),
  .inr (0, 6, []),
  .inr (0, 18, []),
  .inr (0, 6, []),
  .inr (0, 3, []),
  .inr (0, 8, []),
  .inl (3, [some (some 1), some (some 33), some (some 34), some (some 35), some (some 36), some (some 37), some (some 38)]),
  .inr (0, 6, []),
  .inr (0, 6, []),
  .inr (0, 6, []),
  .inr (0, 3, []),
  .inr (3, 6, []),
  .inr (3, 3, []),
  .inl (2, [none, none, some (some 40), some (some 41), some (some 42), some (some 43)]),
  .inr (0, 40, []),
  .inr (0, 40, []),
  .inr (0, 40, []),
  .inr (0, 40, []),
  .inl (8, [none, some (some 45), some (some 48), none, none]),
  .inl (9, [none, some (some 46), some (some 47)]),
  .inr (0, 121, []),
  .inr (0, 122, []),
  .inr (0, 120, []),
  .inl (1, [none, none, some (some 50), some (some 51)]),
  .inr (0, 50, []),
  .inr (0, 24, []),
  .inr (5, 6, [some 67, some 69, some 71, some 73, some 75, some 77]),
  .inr (0, 6, []),
  .inr (0, 6, []),
  .inl (9, [none, some (some 56), some (some 57)]),
  .inr (0, 121, []),
  .inr (0, 122, []),
  .inl (9, [none, some (some 59), some (some 60)]),
  .inr (0, 121, []),
  .inr (0, 122, []),
  .inl (9, [none, some (some 62), some (some 63)]),
  .inr (0, 121, []),
  .inr (0, 122, []),
  .inl (9, [none, some (some 65), some (some 66)]),
  .inr (0, 121, []),
  .inr (0, 122, []),
  .inl (6, [none, none, none, none, some (some 68)]),
  .inr (3, 60, []),
  .inl (6, [none, none, none, none, some (some 70)]),
  .inr (3, 60, []),
  .inl (6, [none, none, none, none, some (some 72)]),
  .inr (3, 60, []),
  .inl (6, [none, none, none, none, some (some 74)]),
  .inr (3, 60, []),
  .inl (6, [none, none, none, none, some (some 76)]),
  .inr (3, 60, []),
  .inl (6, [none, none, none, none, some (some 78)]),
  .inr (3, 60, []),
  .inl (12, [none, none, none, some (some 80), some (some 81), some (some 82), some (some 83), none, some (some 84), some (some 85), some (some 86), some (some 87), none, some (some 88), some (some 89), some (some 90), none, none, some (some 91), some (some 92), some (some 93), some (some 94), some (some 95), none, none, none, none, none, some (some 96), some (some 97), some (some 98), some (some 99), some (some 100), some (some 101), some (some 102), none, none, none, none, some (some 103), some (some 104), some (some 105), some (some 106), some (some 107), some (some 108), some (some 109), some (some 110), some (some 111), some (some 112), some (some 113), some (some 114), none, some (some 115), some (some 116), none, none, some (some 117), none, some (some 118), some (some 119), some (some 120), some (some 121), some (some 122)]),
  .inr (0, 6, []),
  .inr (0, 6, []),
  .inr (0, 6, []),
  .inr (0, 6, []),
  .inr (0, 3, []),
  .inr (0, 3, []),
  .inr (0, 3, []),
  .inr (0, 3, []),
  .inr (0, 60, []),
  .inr (0, 60, []),
  .inr (0, 60, []),
  .inr (0, 40, []),
  .inr (0, 40, []),
  .inr (0, 40, []),
  .inr (0, 40, []),
  .inr (1, 120, []),
  .inr (1, 780, []),
  .inr (0, 780, []),
  .inr (0, 6, []),
  .inr (2, 366, []),
  .inr (2, 366, []),
  .inr (0, 8, []),
  .inr (0, 130, []),
  .inr (0, 6, []),
  .inr (0, 3, []),
  .inr (0, 6, []),
  .inr (0, 3, []),
  .inr (0, 6, []),
  .inr (0, 6, []),
  .inr (0, 6, []),
  .inr (0, 6, []),
  .inr (0, 6, []),
  .inr (0, 6, []),
  .inr (0, 18, []),
  .inr (0, 6, []),
  .inr (0, 6, []),
  .inr (0, 6, []),
  .inr (0, 50, []),
  .inr (0, 24, []),
  .inr (0, 6, []),
  .inr (0, 6, []),
  .inr (3, 360, []),
  .inr (3, 60, [])]
def zz_n (o : Nat) : Nat := match zsh[o]? with
  | some (.inr (_, n, _)) => n
  | _ => 0
def zF : Nat := 100000
def zz_max (x y : Int32) : Int32 := if x < y then y else x
def zz_min (x y : Int32) : Int32 := if y < x then y else x
def zz_abs (x : Int32) : Int32 := if 0 ≤ x then x else 0 - x
def zR : Nat := 200
theorem zz_inc {x k : Int32} {n : Int} (h : Int32.ofInt n = k) : x + Int32.ofInt n = x + k := by rw [h]
theorem zz_nb {v : Int32} (h : v = 0 ∨ v = 1) : narrow .boolean (.int v) = .int v := by
  rcases h with rfl | rfl <;> decide
def zz_cpk (sp dp n : Int32) (n0 n1 : Nat) : Bool := decide (¬ sp < 0 ∧ ¬ dp < 0 ∧ ¬ n < 0 ∧ sp.toNatClampNeg + n.toNatClampNeg ≤ n0 ∧ dp.toNatClampNeg + n.toNatClampNeg ≤ n1)
theorem zz_cpk_spec {sp dp n : Int32} {n0 n1 : Nat} (h : zz_cpk sp dp n n0 n1 = true) : ¬ sp < 0 ∧ ¬ dp < 0 ∧ ¬ n < 0 ∧ sp.toNatClampNeg + n.toNatClampNeg ≤ n0 ∧ dp.toNatClampNeg + n.toNatClampNeg ≤ n1 := of_decide_eq_true h
def zz_fillI (σ : zz_S) (o n : Nat) (v : Int32) : zz_S := (fun a j => if a = o then (if j < n then v else σ.1 a j) else σ.1 a j, σ.2)
def zz_fillJ (σ : zz_S) (o n : Nat) (v : Int64) : zz_S := (σ.1, fun a j => if a = o then (if j < n then v else σ.2 a j) else σ.2 a j)

theorem zsh_0 : zsh[0]? = some (.inl (11, [some (some 1), some (some 10), some (some 15), some (some 19), some (some 20), some (some 39), some (some 44), some (some 49), some (some 52), some (some 53), some (some 54), none, none])) := rfl
theorem zsh_1 : zsh[1]? = some (.inl (0, [none, none, none, some (some 2), some (some 3), some (some 4), some (some 5), some (some 6), some (some 7), some (some 8), some (some 9)])) := rfl
theorem zsh_2 : zsh[2]? = some (.inr (0, 6, [])) := rfl
theorem zsh_3 : zsh[3]? = some (.inr (0, 6, [])) := rfl
theorem zsh_4 : zsh[4]? = some (.inr (0, 6, [])) := rfl
theorem zsh_5 : zsh[5]? = some (.inr (0, 6, [])) := rfl
theorem zsh_6 : zsh[6]? = some (.inr (0, 3, [])) := rfl
theorem zsh_7 : zsh[7]? = some (.inr (0, 3, [])) := rfl
theorem zsh_8 : zsh[8]? = some (.inr (0, 3, [])) := rfl
theorem zsh_9 : zsh[9]? = some (.inr (0, 3, [])) := rfl
theorem zsh_10 : zsh[10]? = some (.inl (10, [none, some (some 11), some (some 12), some (some 13), some (some 14)])) := rfl
theorem zsh_11 : zsh[11]? = some (.inr (0, 60, [])) := rfl
theorem zsh_12 : zsh[12]? = some (.inr (0, 60, [])) := rfl
theorem zsh_13 : zsh[13]? = some (.inr (0, 60, [])) := rfl
theorem zsh_14 : zsh[14]? = some (.inr (0, 60, [])) := rfl
theorem zsh_15 : zsh[15]? = some (.inl (5, [some (some 16), some (some 17), some (some 18)])) := rfl
theorem zsh_16 : zsh[16]? = some (.inr (0, 480, [])) := rfl
theorem zsh_17 : zsh[17]? = some (.inr (0, 480, [])) := rfl
theorem zsh_18 : zsh[18]? = some (.inr (0, 8, [])) := rfl
theorem zsh_19 : zsh[19]? = some (.inr (4, 4, [some 55, some 58, some 61, some 64])) := rfl
theorem zsh_20 : zsh[20]? = some (.inl (4, [some (some 1), some (some 10), some (some 15), some (some 19), some (some 32), some (some 21), some (some 28), some (some 29), some (some 30), some (some 31), none, none, none, none, none, none, none])) := rfl
theorem zsh_21 : zsh[21]? = some (.inl (7, [some (some 22), some (some 23), some (some 24), some (some 25), some (some 26), some (some 27)])) := rfl
theorem zsh_22 : zsh[22]? = some (.inr (0, 6, [])) := rfl
theorem zsh_23 : zsh[23]? = some (.inr (0, 6, [])) := rfl
theorem zsh_24 : zsh[24]? = some (.inr (0, 6, [])) := rfl
theorem zsh_25 : zsh[25]? = some (.inr (0, 6, [])) := rfl
theorem zsh_26 : zsh[26]? = some (.inr (0, 6, [])) := rfl
theorem zsh_27 : zsh[27]? = some (.inr (0, 6, [])) := rfl
theorem zsh_28 : zsh[28]? = some (.inr (0, 18, [])) := rfl
theorem zsh_29 : zsh[29]? = some (.inr (0, 6, [])) := rfl
theorem zsh_30 : zsh[30]? = some (.inr (0, 3, [])) := rfl
theorem zsh_31 : zsh[31]? = some (.inr (0, 8, [])) := rfl
theorem zsh_32 : zsh[32]? = some (.inl (3, [some (some 1), some (some 33), some (some 34), some (some 35), some (some 36), some (some 37), some (some 38)])) := rfl
theorem zsh_33 : zsh[33]? = some (.inr (0, 6, [])) := rfl
theorem zsh_34 : zsh[34]? = some (.inr (0, 6, [])) := rfl
theorem zsh_35 : zsh[35]? = some (.inr (0, 6, [])) := rfl
theorem zsh_36 : zsh[36]? = some (.inr (0, 3, [])) := rfl
theorem zsh_37 : zsh[37]? = some (.inr (3, 6, [])) := rfl
theorem zsh_38 : zsh[38]? = some (.inr (3, 3, [])) := rfl
theorem zsh_39 : zsh[39]? = some (.inl (2, [none, none, some (some 40), some (some 41), some (some 42), some (some 43)])) := rfl
theorem zsh_40 : zsh[40]? = some (.inr (0, 40, [])) := rfl
theorem zsh_41 : zsh[41]? = some (.inr (0, 40, [])) := rfl
theorem zsh_42 : zsh[42]? = some (.inr (0, 40, [])) := rfl
theorem zsh_43 : zsh[43]? = some (.inr (0, 40, [])) := rfl
theorem zsh_44 : zsh[44]? = some (.inl (8, [none, some (some 45), some (some 48), none, none])) := rfl
theorem zsh_45 : zsh[45]? = some (.inl (9, [none, some (some 46), some (some 47)])) := rfl
theorem zsh_46 : zsh[46]? = some (.inr (0, 121, [])) := rfl
theorem zsh_47 : zsh[47]? = some (.inr (0, 122, [])) := rfl
theorem zsh_48 : zsh[48]? = some (.inr (0, 120, [])) := rfl
theorem zsh_49 : zsh[49]? = some (.inl (1, [none, none, some (some 50), some (some 51)])) := rfl
theorem zsh_50 : zsh[50]? = some (.inr (0, 50, [])) := rfl
theorem zsh_51 : zsh[51]? = some (.inr (0, 24, [])) := rfl
theorem zsh_52 : zsh[52]? = some (.inr (5, 6, [some 67, some 69, some 71, some 73, some 75, some 77])) := rfl
theorem zsh_53 : zsh[53]? = some (.inr (0, 6, [])) := rfl
theorem zsh_54 : zsh[54]? = some (.inr (0, 6, [])) := rfl
theorem zsh_55 : zsh[55]? = some (.inl (9, [none, some (some 56), some (some 57)])) := rfl
theorem zsh_56 : zsh[56]? = some (.inr (0, 121, [])) := rfl
theorem zsh_57 : zsh[57]? = some (.inr (0, 122, [])) := rfl
theorem zsh_58 : zsh[58]? = some (.inl (9, [none, some (some 59), some (some 60)])) := rfl
theorem zsh_59 : zsh[59]? = some (.inr (0, 121, [])) := rfl
theorem zsh_60 : zsh[60]? = some (.inr (0, 122, [])) := rfl
theorem zsh_61 : zsh[61]? = some (.inl (9, [none, some (some 62), some (some 63)])) := rfl
theorem zsh_62 : zsh[62]? = some (.inr (0, 121, [])) := rfl
theorem zsh_63 : zsh[63]? = some (.inr (0, 122, [])) := rfl
theorem zsh_64 : zsh[64]? = some (.inl (9, [none, some (some 65), some (some 66)])) := rfl
theorem zsh_65 : zsh[65]? = some (.inr (0, 121, [])) := rfl
theorem zsh_66 : zsh[66]? = some (.inr (0, 122, [])) := rfl
theorem zsh_67 : zsh[67]? = some (.inl (6, [none, none, none, none, some (some 68)])) := rfl
theorem zsh_68 : zsh[68]? = some (.inr (3, 60, [])) := rfl
theorem zsh_69 : zsh[69]? = some (.inl (6, [none, none, none, none, some (some 70)])) := rfl
theorem zsh_70 : zsh[70]? = some (.inr (3, 60, [])) := rfl
theorem zsh_71 : zsh[71]? = some (.inl (6, [none, none, none, none, some (some 72)])) := rfl
theorem zsh_72 : zsh[72]? = some (.inr (3, 60, [])) := rfl
theorem zsh_73 : zsh[73]? = some (.inl (6, [none, none, none, none, some (some 74)])) := rfl
theorem zsh_74 : zsh[74]? = some (.inr (3, 60, [])) := rfl
theorem zsh_75 : zsh[75]? = some (.inl (6, [none, none, none, none, some (some 76)])) := rfl
theorem zsh_76 : zsh[76]? = some (.inr (3, 60, [])) := rfl
theorem zsh_77 : zsh[77]? = some (.inl (6, [none, none, none, none, some (some 78)])) := rfl
theorem zsh_78 : zsh[78]? = some (.inr (3, 60, [])) := rfl
theorem zsh_79 : zsh[79]? = some (.inl (12, [none, none, none, some (some 80), some (some 81), some (some 82), some (some 83), none, some (some 84), some (some 85), some (some 86), some (some 87), none, some (some 88), some (some 89), some (some 90), none, none, some (some 91), some (some 92), some (some 93), some (some 94), some (some 95), none, none, none, none, none, some (some 96), some (some 97), some (some 98), some (some 99), some (some 100), some (some 101), some (some 102), none, none, none, none, some (some 103), some (some 104), some (some 105), some (some 106), some (some 107), some (some 108), some (some 109), some (some 110), some (some 111), some (some 112), some (some 113), some (some 114), none, some (some 115), some (some 116), none, none, some (some 117), none, some (some 118), some (some 119), some (some 120), some (some 121), some (some 122)])) := rfl
theorem zsh_80 : zsh[80]? = some (.inr (0, 6, [])) := rfl
theorem zsh_81 : zsh[81]? = some (.inr (0, 6, [])) := rfl
theorem zsh_82 : zsh[82]? = some (.inr (0, 6, [])) := rfl
theorem zsh_83 : zsh[83]? = some (.inr (0, 6, [])) := rfl
theorem zsh_84 : zsh[84]? = some (.inr (0, 3, [])) := rfl
theorem zsh_85 : zsh[85]? = some (.inr (0, 3, [])) := rfl
theorem zsh_86 : zsh[86]? = some (.inr (0, 3, [])) := rfl
theorem zsh_87 : zsh[87]? = some (.inr (0, 3, [])) := rfl
theorem zsh_88 : zsh[88]? = some (.inr (0, 60, [])) := rfl
theorem zsh_89 : zsh[89]? = some (.inr (0, 60, [])) := rfl
theorem zsh_90 : zsh[90]? = some (.inr (0, 60, [])) := rfl
theorem zsh_91 : zsh[91]? = some (.inr (0, 40, [])) := rfl
theorem zsh_92 : zsh[92]? = some (.inr (0, 40, [])) := rfl
theorem zsh_93 : zsh[93]? = some (.inr (0, 40, [])) := rfl
theorem zsh_94 : zsh[94]? = some (.inr (0, 40, [])) := rfl
theorem zsh_95 : zsh[95]? = some (.inr (1, 120, [])) := rfl
theorem zsh_96 : zsh[96]? = some (.inr (1, 780, [])) := rfl
theorem zsh_97 : zsh[97]? = some (.inr (0, 780, [])) := rfl
theorem zsh_98 : zsh[98]? = some (.inr (0, 6, [])) := rfl
theorem zsh_99 : zsh[99]? = some (.inr (2, 366, [])) := rfl
theorem zsh_100 : zsh[100]? = some (.inr (2, 366, [])) := rfl
theorem zsh_101 : zsh[101]? = some (.inr (0, 8, [])) := rfl
theorem zsh_102 : zsh[102]? = some (.inr (0, 130, [])) := rfl
theorem zsh_103 : zsh[103]? = some (.inr (0, 6, [])) := rfl
theorem zsh_104 : zsh[104]? = some (.inr (0, 3, [])) := rfl
theorem zsh_105 : zsh[105]? = some (.inr (0, 6, [])) := rfl
theorem zsh_106 : zsh[106]? = some (.inr (0, 3, [])) := rfl
theorem zsh_107 : zsh[107]? = some (.inr (0, 6, [])) := rfl
theorem zsh_108 : zsh[108]? = some (.inr (0, 6, [])) := rfl
theorem zsh_109 : zsh[109]? = some (.inr (0, 6, [])) := rfl
theorem zsh_110 : zsh[110]? = some (.inr (0, 6, [])) := rfl
theorem zsh_111 : zsh[111]? = some (.inr (0, 6, [])) := rfl
theorem zsh_112 : zsh[112]? = some (.inr (0, 6, [])) := rfl
theorem zsh_113 : zsh[113]? = some (.inr (0, 18, [])) := rfl
theorem zsh_114 : zsh[114]? = some (.inr (0, 6, [])) := rfl
theorem zsh_115 : zsh[115]? = some (.inr (0, 6, [])) := rfl
theorem zsh_116 : zsh[116]? = some (.inr (0, 6, [])) := rfl
theorem zsh_117 : zsh[117]? = some (.inr (0, 50, [])) := rfl
theorem zsh_118 : zsh[118]? = some (.inr (0, 24, [])) := rfl
theorem zsh_119 : zsh[119]? = some (.inr (0, 6, [])) := rfl
theorem zsh_120 : zsh[120]? = some (.inr (0, 6, [])) := rfl
theorem zsh_121 : zsh[121]? = some (.inr (3, 360, [])) := rfl
theorem zsh_122 : zsh[122]? = some (.inr (3, 60, [])) := rfl
def zS0 : List Nat := [4, 5, 7, 9]
theorem zS0_sh {r : Nat} (h : r ∈ zS0) : zsh[r]? = some (.inr (0, zz_n r, [])) := by
  simp only [zS0, List.mem_cons, List.not_mem_nil, or_false] at h
  rcases h with rfl | rfl | rfl | rfl <;> rfl
def zS1 : List Nat := [2, 54]
theorem zS1_sh {r : Nat} (h : r ∈ zS1) : zsh[r]? = some (.inr (0, 6, [])) := by
  simp only [zS1, List.mem_cons, List.not_mem_nil, or_false] at h
  rcases h with rfl | rfl <;> rfl
def zS2 : List Nat := [45, 55, 58, 61, 64]
theorem zS2_sh {r : Nat} (h : r ∈ zS2) : zsh[r]? = some (.inl (9, [none, some (some (r + 1)), some (some (r + 2))])) := by
  simp only [zS2, List.mem_cons, List.not_mem_nil, or_false] at h
  rcases h with rfl | rfl | rfl | rfl | rfl <;> rfl
def zS3 : List Nat := [18, 31]
theorem zS3_sh {r : Nat} (h : r ∈ zS3) : zsh[r]? = some (.inr (0, 8, [])) := by
  simp only [zS3, List.mem_cons, List.not_mem_nil, or_false] at h
  rcases h with rfl | rfl <;> rfl
def zS4 : List Nat := [46, 56, 59, 62, 65]
theorem zS4_sh {r : Nat} (h : r ∈ zS4) : zsh[r]? = some (.inr (0, 121, [])) := by
  simp only [zS4, List.mem_cons, List.not_mem_nil, or_false] at h
  rcases h with rfl | rfl | rfl | rfl | rfl <;> rfl
theorem zder_S2_1 {r : Nat} (h : r ∈ zS2) : r + 1 ∈ zS4 := by
  simp only [zS2, zS4, List.mem_cons, List.not_mem_nil, or_false] at h ⊢
  omega
def zS5 : List Nat := [47, 57, 60, 63, 66]
theorem zS5_sh {r : Nat} (h : r ∈ zS5) : zsh[r]? = some (.inr (0, 122, [])) := by
  simp only [zS5, List.mem_cons, List.not_mem_nil, or_false] at h
  rcases h with rfl | rfl | rfl | rfl | rfl <;> rfl
theorem zder_S2_2 {r : Nat} (h : r ∈ zS2) : r + 2 ∈ zS5 := by
  simp only [zS2, zS5, List.mem_cons, List.not_mem_nil, or_false] at h ⊢
  omega
def zS6 : List Nat := [55, 58, 61, 64]
theorem zS6_sh {r : Nat} (h : r ∈ zS6) : zsh[r]? = some (.inl (9, [none, some (some (r + 1)), some (some (r + 2))])) := by
  simp only [zS6, List.mem_cons, List.not_mem_nil, or_false] at h
  rcases h with rfl | rfl | rfl | rfl <;> rfl
def zr_19 (i : Int32) : Nat := zz_pk [some 55, some 58, some 61, some 64] i.toNatClampNeg
theorem zrm_19 {i : Int32} (h : zz_in i 4 = true) : zr_19 i ∈ zS6 := by
  have h1 := zz_in_spec h
  have h2 : i.toNatClampNeg < 4 := Nat.not_le.mp fun q => h1 (Or.inr q)
  unfold zr_19
  generalize i.toNatClampNeg = k at h2 ⊢
  match k, h2 with
  | 0, _ => exact (by decide)
  | 1, _ => exact (by decide)
  | 2, _ => exact (by decide)
  | 3, _ => exact (by decide)
theorem zra_19 : ∀ j, j < 4 → (([some 55, some 58, some 61, some 64] : List (Option Nat)).getD j none).isSome = true := by decide
theorem zsub_S6_S2 {r : Nat} (h : r ∈ zS6) : r ∈ zS2 := by
  simp only [zS6, zS2, List.mem_cons, List.not_mem_nil, or_false] at h ⊢
  omega
def zS7 : List Nat := [67, 69, 71, 73, 75, 77]
theorem zS7_sh {r : Nat} (h : r ∈ zS7) : zsh[r]? = some (.inl (6, [none, none, none, none, some (some (r + 1))])) := by
  simp only [zS7, List.mem_cons, List.not_mem_nil, or_false] at h
  rcases h with rfl | rfl | rfl | rfl | rfl | rfl <;> rfl
def zS8 : List Nat := [68, 70, 72, 74, 76, 78]
theorem zS8_sh {r : Nat} (h : r ∈ zS8) : zsh[r]? = some (.inr (3, 60, [])) := by
  simp only [zS8, List.mem_cons, List.not_mem_nil, or_false] at h
  rcases h with rfl | rfl | rfl | rfl | rfl | rfl <;> rfl
theorem zder_S7_1 {r : Nat} (h : r ∈ zS7) : r + 1 ∈ zS8 := by
  simp only [zS7, zS8, List.mem_cons, List.not_mem_nil, or_false] at h ⊢
  omega
def zS9 : List Nat := [56, 59, 62, 65]
theorem zS9_sh {r : Nat} (h : r ∈ zS9) : zsh[r]? = some (.inr (0, 121, [])) := by
  simp only [zS9, List.mem_cons, List.not_mem_nil, or_false] at h
  rcases h with rfl | rfl | rfl | rfl <;> rfl
theorem zder_S6_1 {r : Nat} (h : r ∈ zS6) : r + 1 ∈ zS9 := by
  simp only [zS6, zS9, List.mem_cons, List.not_mem_nil, or_false] at h ⊢
  omega
def zr_52 (i : Int32) : Nat := zz_pk [some 67, some 69, some 71, some 73, some 75, some 77] i.toNatClampNeg
theorem zrm_52 {i : Int32} (h : zz_in i 6 = true) : zr_52 i ∈ zS7 := by
  have h1 := zz_in_spec h
  have h2 : i.toNatClampNeg < 6 := Nat.not_le.mp fun q => h1 (Or.inr q)
  unfold zr_52
  generalize i.toNatClampNeg = k at h2 ⊢
  match k, h2 with
  | 0, _ => exact (by decide)
  | 1, _ => exact (by decide)
  | 2, _ => exact (by decide)
  | 3, _ => exact (by decide)
  | 4, _ => exact (by decide)
  | 5, _ => exact (by decide)
theorem zra_52 : ∀ j, j < 6 → (([some 67, some 69, some 71, some 73, some 75, some 77] : List (Option Nat)).getD j none).isSome = true := by decide
theorem zki_1 : Int32.ofInt (1) = (1 : Int32) := by decide
theorem zki_0 : Int32.ofInt (0) = (0 : Int32) := by decide
theorem zkl_1 : Int64.ofNat ((1 : Fin 2) : Nat) = (1 : Int64) := by decide
theorem zkb_15 : (Int8.ofInt (15)).toInt32 = (15 : Int32) := by decide
theorem zki_5 : Int32.ofInt (5) = (5 : Int32) := by decide
theorem zkb_24 : (Int8.ofInt (24)).toInt32 = (24 : Int32) := by decide
theorem zkb_8 : (Int8.ofInt (8)).toInt32 = (8 : Int32) := by decide
theorem zki_m1 : Int32.ofInt (-1) = (-1 : Int32) := by decide
theorem zki_4 : Int32.ofInt (4) = (4 : Int32) := by decide
theorem zkb_40 : (Int8.ofInt (40)).toInt32 = (40 : Int32) := by decide
theorem zki_2 : Int32.ofInt (2) = (2 : Int32) := by decide
theorem zki_3 : Int32.ofInt (3) = (3 : Int32) := by decide
theorem zkb_39 : (Int8.ofInt (39)).toInt32 = (39 : Int32) := by decide
theorem zkl_0 : Int64.ofNat ((0 : Fin 2) : Nat) = (0 : Int64) := by decide
theorem zkb_16 : (Int8.ofInt (16)).toInt32 = (16 : Int32) := by decide
theorem zkb_32 : (Int8.ofInt (32)).toInt32 = (32 : Int32) := by decide
theorem zkb_127 : (Int8.ofInt (127)).toInt32 = (127 : Int32) := by decide
theorem zkb_m2 : (Int8.ofInt (-2)).toInt32 = (-2 : Int32) := by decide
theorem zkb_10 : (Int8.ofInt (10)).toInt32 = (10 : Int32) := by decide
theorem zks_12345 : (Int16.ofInt (12345)).toInt32 = (12345 : Int32) := by decide
theorem zks_20000 : (Int16.ofInt (20000)).toInt32 = (20000 : Int32) := by decide
theorem zks_10000 : (Int16.ofInt (10000)).toInt32 = (10000 : Int32) := by decide
theorem zkb_m59 : (Int8.ofInt (-59)).toInt32 = (-59 : Int32) := by decide
theorem zkb_m126 : (Int8.ofInt (-126)).toInt32 = (-126 : Int32) := by decide
theorem zkb_m33 : (Int8.ofInt (-33)).toInt32 = (-33 : Int32) := by decide
theorem zkb_6 : (Int8.ofInt (6)).toInt32 = (6 : Int32) := by decide
theorem zkb_7 : (Int8.ofInt (7)).toInt32 = (7 : Int32) := by decide
theorem zkb_60 : (Int8.ofInt (60)).toInt32 = (60 : Int32) := by decide
theorem zkb_100 : (Int8.ofInt (100)).toInt32 = (100 : Int32) := by decide
theorem zkb_21 : (Int8.ofInt (21)).toInt32 = (21 : Int32) := by decide
theorem zks_480 : (Int16.ofInt (480)).toInt32 = (480 : Int32) := by decide
theorem zks_479 : (Int16.ofInt (479)).toInt32 = (479 : Int32) := by decide
theorem zkb_m50 : (Int8.ofInt (-50)).toInt32 = (-50 : Int32) := by decide
theorem zkb_50 : (Int8.ofInt (50)).toInt32 = (50 : Int32) := by decide
theorem zkb_120 : (Int8.ofInt (120)).toInt32 = (120 : Int32) := by decide
theorem zkb_48 : (Int8.ofInt (48)).toInt32 = (48 : Int32) := by decide
theorem zkb_57 : (Int8.ofInt (57)).toInt32 = (57 : Int32) := by decide
theorem zks_255 : (Int16.ofInt (255)).toInt32 = (255 : Int32) := by decide
theorem zkb_121 : (Int8.ofInt (121)).toInt32 = (121 : Int32) := by decide
theorem zkb_33 : (Int8.ofInt (33)).toInt32 = (33 : Int32) := by decide
theorem zkb_45 : (Int8.ofInt (45)).toInt32 = (45 : Int32) := by decide
theorem zkb_41 : (Int8.ofInt (41)).toInt32 = (41 : Int32) := by decide
theorem zkb_63 : (Int8.ofInt (63)).toInt32 = (63 : Int32) := by decide
theorem zkb_59 : (Int8.ofInt (59)).toInt32 = (59 : Int32) := by decide
theorem zkb_m20 : (Int8.ofInt (-20)).toInt32 = (-20 : Int32) := by decide
theorem zkb_20 : (Int8.ofInt (20)).toInt32 = (20 : Int32) := by decide
theorem zks_720 : (Int16.ofInt (720)).toInt32 = (720 : Int32) := by decide
theorem zkb_m5 : (Int8.ofInt (-5)).toInt32 = (-5 : Int32) := by decide
theorem zkb_m3 : (Int8.ofInt (-3)).toInt32 = (-3 : Int32) := by decide
theorem zkb_80 : (Int8.ofInt (80)).toInt32 = (80 : Int32) := by decide
theorem zkb_m40 : (Int8.ofInt (-40)).toInt32 = (-40 : Int32) := by decide
theorem zkb_9 : (Int8.ofInt (9)).toInt32 = (9 : Int32) := by decide
theorem zks_1000 : (Int16.ofInt (1000)).toInt32 = (1000 : Int32) := by decide
theorem zkb_m13 : (Int8.ofInt (-13)).toInt32 = (-13 : Int32) := by decide
theorem zkb_m12 : (Int8.ofInt (-12)).toInt32 = (-12 : Int32) := by decide
theorem zkb_m11 : (Int8.ofInt (-11)).toInt32 = (-11 : Int32) := by decide
theorem zkb_m100 : (Int8.ofInt (-100)).toInt32 = (-100 : Int32) := by decide
theorem zkb_99 : (Int8.ofInt (99)).toInt32 = (99 : Int32) := by decide
theorem zkb_m99 : (Int8.ofInt (-99)).toInt32 = (-99 : Int32) := by decide
theorem zkb_22 : (Int8.ofInt (22)).toInt32 = (22 : Int32) := by decide
theorem zkb_13 : (Int8.ofInt (13)).toInt32 = (13 : Int32) := by decide
theorem zkb_m14 : (Int8.ofInt (-14)).toInt32 = (-14 : Int32) := by decide
theorem zks_9999 : (Int16.ofInt (9999)).toInt32 = (9999 : Int32) := by decide
theorem zkb_m9 : (Int8.ofInt (-9)).toInt32 = (-9 : Int32) := by decide
theorem zkb_18 : (Int8.ofInt (18)).toInt32 = (18 : Int32) := by decide
theorem zks_130 : (Int16.ofInt (130)).toInt32 = (130 : Int32) := by decide
theorem zkb_61 : (Int8.ofInt (61)).toInt32 = (61 : Int32) := by decide
theorem zkb_70 : (Int8.ofInt (70)).toInt32 = (70 : Int32) := by decide
theorem zkb_81 : (Int8.ofInt (81)).toInt32 = (81 : Int32) := by decide
theorem zkb_30 : (Int8.ofInt (30)).toInt32 = (30 : Int32) := by decide
theorem zkb_11 : (Int8.ofInt (11)).toInt32 = (11 : Int32) := by decide
theorem zks_650 : (Int16.ofInt (650)).toInt32 = (650 : Int32) := by decide
theorem zkb_124 : (Int8.ofInt (124)).toInt32 = (124 : Int32) := by decide
theorem zkb_42 : (Int8.ofInt (42)).toInt32 = (42 : Int32) := by decide
theorem zkb_47 : (Int8.ofInt (47)).toInt32 = (47 : Int32) := by decide
theorem zkb_37 : (Int8.ofInt (37)).toInt32 = (37 : Int32) := by decide
theorem zkb_43 : (Int8.ofInt (43)).toInt32 = (43 : Int32) := by decide
theorem zkb_62 : (Int8.ofInt (62)).toInt32 = (62 : Int32) := by decide
theorem zkb_38 : (Int8.ofInt (38)).toInt32 = (38 : Int32) := by decide
theorem zks_305 : (Int16.ofInt (305)).toInt32 = (305 : Int32) := by decide
theorem zkb_12 : (Int8.ofInt (12)).toInt32 = (12 : Int32) := by decide
theorem zkx_0 : (0 : Int32).toNatClampNeg = 0 := by decide
theorem zkx_1 : (1 : Int32).toNatClampNeg = 1 := by decide
theorem zkx_2 : (2 : Int32).toNatClampNeg = 2 := by decide
theorem zkx_3 : (3 : Int32).toNatClampNeg = 3 := by decide
theorem zkx_4 : (4 : Int32).toNatClampNeg = 4 := by decide
theorem zkx_5 : (5 : Int32).toNatClampNeg = 5 := by decide
theorem zkx_6 : (6 : Int32).toNatClampNeg = 6 := by decide
theorem zkx_7 : (7 : Int32).toNatClampNeg = 7 := by decide
