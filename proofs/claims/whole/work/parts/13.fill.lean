/-! Arrays.fill, over any cells -/
theorem zz_fillI_0 (s : zz_S) (o : Nat) (v : Int32) : zz_fillI s o 0 v = s := by
  unfold zz_fillI
  simp
theorem zz_fillI_s (s : zz_S) (o n : Nat) (v : Int32) : zz_w (zz_fillI s o n v) o n v = zz_fillI s o (n + 1) v := by
  unfold zz_w zz_fillI
  congr 1
  funext a j
  by_cases ha : a = o
  · by_cases hj : j = n
    · simp [ha, hj]
    · have : (j < n + 1) = (j < n) := by rw [Nat.lt_succ_iff_lt_or_eq]; simp [hj]
      simp [ha, hj, this]
  · simp [ha]
theorem zz_fillJ_0 (s : zz_S) (o : Nat) (v : Int64) : zz_fillJ s o 0 v = s := by
  unfold zz_fillJ
  simp
theorem zz_fillJ_s (s : zz_S) (o n : Nat) (v : Int64) : zz_wl (zz_fillJ s o n v) o n v = zz_fillJ s o (n + 1) v := by
  unfold zz_wl zz_fillJ
  congr 1
  funext a j
  by_cases ha : a = o
  · by_cases hj : j = n
    · simp [ha, hj]
    · have : (j < n + 1) = (j < n) := by rw [Nat.lt_succ_iff_lt_or_eq]; simp [hj]
      simp [ha, hj, this]
  · simp [ha]
theorem d_Arr_fillI_0 : decode prog_22_method_103_code 0 = .ok (.iconst 0, 1) := by decide +kernel
theorem d_Arr_fillI_1 : decode prog_22_method_103_code 1 = .ok (.istore_n 2, 1) := by decide +kernel
theorem d_Arr_fillI_2 : decode prog_22_method_103_code 2 = .ok (.aload_n 0, 1) := by decide +kernel
theorem d_Arr_fillI_3 : decode prog_22_method_103_code 3 = .ok (.arraylength, 1) := by decide +kernel
theorem d_Arr_fillI_4 : decode prog_22_method_103_code 4 = .ok (.istore_n 3, 1) := by decide +kernel
theorem d_Arr_fillI_5 : decode prog_22_method_103_code 5 = .ok (.iload_n 2, 1) := by decide +kernel
theorem d_Arr_fillI_6 : decode prog_22_method_103_code 6 = .ok (.iload_n 3, 1) := by decide +kernel
theorem d_Arr_fillI_7 : decode prog_22_method_103_code 7 = .ok (.if_icmp .ge (13), 3) := by decide +kernel
theorem d_Arr_fillI_10 : decode prog_22_method_103_code 10 = .ok (.aload_n 0, 1) := by decide +kernel
theorem d_Arr_fillI_11 : decode prog_22_method_103_code 11 = .ok (.iload_n 2, 1) := by decide +kernel
theorem d_Arr_fillI_12 : decode prog_22_method_103_code 12 = .ok (.iload_n 1, 1) := by decide +kernel
theorem d_Arr_fillI_13 : decode prog_22_method_103_code 13 = .ok (.iastore, 1) := by decide +kernel
theorem d_Arr_fillI_14 : decode prog_22_method_103_code 14 = .ok (.iinc 2 (1), 3) := by decide +kernel
theorem d_Arr_fillI_17 : decode prog_22_method_103_code 17 = .ok (.goto (-12), 3) := by decide +kernel
theorem d_Arr_fillI_20 : decode prog_22_method_103_code 20 = .ok (.return_, 1) := by decide +kernel
theorem zf_Arr_fillI_L {G : zz_G} {l : Launch} {Z : zz_Z} {sh : List zz_Sh} {s : zz_S} {o n : Nat} {v : Int32} (C : zz_Cx G l "java/util/Arrays" "fill" prog_22_method_103_code 4 none 2 (none, sh, zz_fillI s o n v) Z) (ho : sh[o]? = some (.inr (0, n, []))) (hn : n < 2 ^ 31) : ∀ k i : Nat, i + k = n → Z 5 [some (.ref o), some (.int v), some (.int (nI i)), some (.int (nI n))] [] sh (zz_fillI s o i v) := by
  intro k
  induction k with
  | zero =>
    intro i hi
    have hi : i = n := by omega
    subst hi
    refine zz_iload_n (i := 2) (pc := 5) C rfl rfl d_Arr_fillI_5 ?_
    refine zz_iload_n (i := 3) (pc := 6) C rfl rfl d_Arr_fillI_6 ?_
    refine zz_icmp_ge (tgt := 20) (pc := 7) C (by decide) d_Arr_fillI_7 (fun hc => ?_) (fun hc => ?_)
    · exact zz_ret (pc := 20) C (v := none) d_Arr_fillI_20 (Or.inr (Or.inr (Or.inr ⟨rfl, rfl, rfl⟩))) rfl
    · exact absurd (nI_le (Nat.le_refl _) hn) hc
  | succ k ih =>
    intro i hi
    refine zz_iload_n (i := 2) (pc := 5) C rfl rfl d_Arr_fillI_5 ?_
    refine zz_iload_n (i := 3) (pc := 6) C rfl rfl d_Arr_fillI_6 ?_
    refine zz_icmp_ge (tgt := 20) (pc := 7) C (by decide) d_Arr_fillI_7 (fun hc => ?_) (fun hc => ?_)
    · exact absurd hc (nI_ge (by omega) hn)
    · have hin : zz_in (nI i) n = true := decide_eq_true (nI_in (by omega) hn)
      refine zz_aload_n (i := 0) (pc := 10) C rfl rfl d_Arr_fillI_10 ?_
      refine zz_iload_n (i := 2) (pc := 11) C rfl rfl d_Arr_fillI_11 ?_
      refine zz_iload_n (i := 1) (pc := 12) C rfl rfl d_Arr_fillI_12 ?_
      refine zz_iast (pc := 13) C (nI_clamp (by omega)) ho hin d_Arr_fillI_13 ?_
      refine zz_iinc (lo' := [some (.ref o), some (.int v), some (.int (nI i + 1)), some (.int (nI n))]) (pc := 14) C rfl (zz_inc zki_1) rfl rfl d_Arr_fillI_14 ?_
      refine zz_goto (tgt := 5) (pc := 17) C (by decide) d_Arr_fillI_17 ?_
      have e1 : nI i + 1 = nI (i + 1) := nI_1 i
      rw [e1, zz_fillI_s]
      exact ih (i + 1) (by omega)
theorem zm_Arr_fillI {G : zz_G} {l : Launch} {sh : List zz_Sh} {s : zz_S} {o n : Nat} {v : Int32} (ho : sh[o]? = some (.inr (0, n, []))) (hn : n < 2 ^ 31) : zz_M G l 2 y_Arr_fillI prog_22_method_103_code 4 none [.ref o, .int v] sh s (none, sh, zz_fillI s o n v) :=
  zz_M.intro (by decide) (Nat.le_of_ble_eq_true rfl) (Nat.le_refl _) (Nat.le_refl _) (fun Z C => by
    show Z 0 [some (.ref o), some (.int v), none, none] [] sh s
    refine zz_iconst (pc := 0) C zki_0 d_Arr_fillI_0 ?_
    refine zz_istore_n (i := 2) (lo' := [some (.ref o), some (.int v), some (.int (0 : Int32)), none]) (pc := 1) C rfl (Nat.le_of_ble_eq_true rfl) rfl rfl d_Arr_fillI_1 ?_
    refine zz_aload_n (i := 0) (pc := 2) C rfl rfl d_Arr_fillI_2 ?_
    refine zz_alen (pc := 3) C ho d_Arr_fillI_3 ?_
    refine zz_istore_n (i := 3) (lo' := [some (.ref o), some (.int v), some (.int (0 : Int32)), some (.int (Int32.ofNat n))]) (pc := 4) C rfl (Nat.le_of_ble_eq_true rfl) rfl rfl d_Arr_fillI_4 ?_
    have h := zf_Arr_fillI_L C ho hn n 0 (by omega)
    rw [zz_fillI_0, nI_0] at h
    exact h)
theorem d_Arr_fillJ_0 : decode prog_22_method_101_code 0 = .ok (.iconst 0, 1) := by decide +kernel
theorem d_Arr_fillJ_1 : decode prog_22_method_101_code 1 = .ok (.istore_n 3, 1) := by decide +kernel
theorem d_Arr_fillJ_2 : decode prog_22_method_101_code 2 = .ok (.aload_n 0, 1) := by decide +kernel
theorem d_Arr_fillJ_3 : decode prog_22_method_101_code 3 = .ok (.arraylength, 1) := by decide +kernel
theorem d_Arr_fillJ_4 : decode prog_22_method_101_code 4 = .ok (.istore 4, 2) := by decide +kernel
theorem d_Arr_fillJ_6 : decode prog_22_method_101_code 6 = .ok (.iload_n 3, 1) := by decide +kernel
theorem d_Arr_fillJ_7 : decode prog_22_method_101_code 7 = .ok (.iload 4, 2) := by decide +kernel
theorem d_Arr_fillJ_9 : decode prog_22_method_101_code 9 = .ok (.if_icmp .ge (13), 3) := by decide +kernel
theorem d_Arr_fillJ_12 : decode prog_22_method_101_code 12 = .ok (.aload_n 0, 1) := by decide +kernel
theorem d_Arr_fillJ_13 : decode prog_22_method_101_code 13 = .ok (.iload_n 3, 1) := by decide +kernel
theorem d_Arr_fillJ_14 : decode prog_22_method_101_code 14 = .ok (.lload_n 1, 1) := by decide +kernel
theorem d_Arr_fillJ_15 : decode prog_22_method_101_code 15 = .ok (.lastore, 1) := by decide +kernel
theorem d_Arr_fillJ_16 : decode prog_22_method_101_code 16 = .ok (.iinc 3 (1), 3) := by decide +kernel
theorem d_Arr_fillJ_19 : decode prog_22_method_101_code 19 = .ok (.goto (-13), 3) := by decide +kernel
theorem d_Arr_fillJ_22 : decode prog_22_method_101_code 22 = .ok (.return_, 1) := by decide +kernel
theorem zf_Arr_fillJ_L {G : zz_G} {l : Launch} {Z : zz_Z} {sh : List zz_Sh} {s : zz_S} {o n : Nat} {v : Int64} (C : zz_Cx G l "java/util/Arrays" "fill" prog_22_method_101_code 5 none 2 (none, sh, zz_fillJ s o n v) Z) (ho : sh[o]? = some (.inr (3, n, []))) (hn : n < 2 ^ 31) : ∀ k i : Nat, i + k = n → Z 6 [some (.ref o), some (.long v), none, some (.int (nI i)), some (.int (nI n))] [] sh (zz_fillJ s o i v) := by
  intro k
  induction k with
  | zero =>
    intro i hi
    have hi : i = n := by omega
    subst hi
    refine zz_iload_n (i := 3) (pc := 6) C rfl rfl d_Arr_fillJ_6 ?_
    refine zz_iload (i := 4) (pc := 7) C rfl d_Arr_fillJ_7 ?_
    refine zz_icmp_ge (tgt := 22) (pc := 9) C (by decide) d_Arr_fillJ_9 (fun hc => ?_) (fun hc => ?_)
    · exact zz_ret (pc := 22) C (v := none) d_Arr_fillJ_22 (Or.inr (Or.inr (Or.inr ⟨rfl, rfl, rfl⟩))) rfl
    · exact absurd (nI_le (Nat.le_refl _) hn) hc
  | succ k ih =>
    intro i hi
    refine zz_iload_n (i := 3) (pc := 6) C rfl rfl d_Arr_fillJ_6 ?_
    refine zz_iload (i := 4) (pc := 7) C rfl d_Arr_fillJ_7 ?_
    refine zz_icmp_ge (tgt := 22) (pc := 9) C (by decide) d_Arr_fillJ_9 (fun hc => ?_) (fun hc => ?_)
    · exact absurd hc (nI_ge (by omega) hn)
    · have hin : zz_in (nI i) n = true := decide_eq_true (nI_in (by omega) hn)
      refine zz_aload_n (i := 0) (pc := 12) C rfl rfl d_Arr_fillJ_12 ?_
      refine zz_iload_n (i := 3) (pc := 13) C rfl rfl d_Arr_fillJ_13 ?_
      refine zz_lload_n (i := 1) (pc := 14) C rfl rfl d_Arr_fillJ_14 ?_
      refine zz_last (pc := 15) C (nI_clamp (by omega)) ho hin d_Arr_fillJ_15 ?_
      refine zz_iinc (lo' := [some (.ref o), some (.long v), none, some (.int (nI i + 1)), some (.int (nI n))]) (pc := 16) C rfl (zz_inc zki_1) rfl rfl d_Arr_fillJ_16 ?_
      refine zz_goto (tgt := 6) (pc := 19) C (by decide) d_Arr_fillJ_19 ?_
      have e1 : nI i + 1 = nI (i + 1) := nI_1 i
      rw [e1, zz_fillJ_s]
      exact ih (i + 1) (by omega)
theorem zm_Arr_fillJ {G : zz_G} {l : Launch} {sh : List zz_Sh} {s : zz_S} {o n : Nat} {v : Int64} (ho : sh[o]? = some (.inr (3, n, []))) (hn : n < 2 ^ 31) : zz_M G l 2 y_Arr_fillJ prog_22_method_101_code 5 none [.ref o, .long v] sh s (none, sh, zz_fillJ s o n v) :=
  zz_M.intro (by decide) (Nat.le_of_ble_eq_true rfl) (Nat.le_refl _) (Nat.le_refl _) (fun Z C => by
    show Z 0 [some (.ref o), some (.long v), none, none, none] [] sh s
    refine zz_iconst (pc := 0) C zki_0 d_Arr_fillJ_0 ?_
    refine zz_istore_n (i := 3) (lo' := [some (.ref o), some (.long v), none, some (.int (0 : Int32)), none]) (pc := 1) C rfl (Nat.le_of_ble_eq_true rfl) rfl rfl d_Arr_fillJ_1 ?_
    refine zz_aload_n (i := 0) (pc := 2) C rfl rfl d_Arr_fillJ_2 ?_
    refine zz_alen (pc := 3) C ho d_Arr_fillJ_3 ?_
    refine zz_istore (i := 4) (lo' := [some (.ref o), some (.long v), none, some (.int (0 : Int32)), some (.int (Int32.ofNat n))]) (pc := 4) C (Nat.le_of_ble_eq_true rfl) rfl rfl d_Arr_fillJ_4 ?_
    have h := zf_Arr_fillJ_L C ho hn n 0 (by omega)
    rw [zz_fillJ_0, nI_0] at h
    exact h)
theorem zz_mmax {G : zz_G} {l : Launch} {own nm : String} {cc : ByteArray} {nL d : Nat} {ret : Option FieldType} {fin : zz_Fin} {Z : zz_Z} {pc : Nat} {lo : List (Option Value)} {st : List Value} {sh : List zz_Sh} {σ : zz_S} (C : zz_Cx G l own nm cc nL ret d fin Z) {idx : Nat} {x y : Int32} (hlk : Cond.methodLink own idx Lib.Math.max.name ∈ zz_T) (hdd : 1 ≤ d) (h8 : (st.map fun v => v.category).sum ≤ 8) (hd : decode cc pc = .ok (.invokestatic idx, 3)) (hg : fin.2.1 = sh) (kk : Z (pc + 3) lo (.int (zz_max x y) :: st) sh σ) : Z pc lo (.int y :: .int x :: st) sh σ := by
  obtain ⟨⟨p, e, R, s, m, args, below, meth, c, Q, k0, n0, rfl, ⟨hx, hb, hml, hown, hts⟩, hnm, hX, hK, hz, hR1, hR2, hR3, hR4⟩, hret⟩ := C
  intro hlen H locs ls cells slots hRep hS hl hc hs
  have hg1 : sh.length ≤ fin.2.1.length := by rw [hg]; exact Nat.le_refl _
  have hg2 : zz_sl sh ≤ zz_sl fin.2.1 := by rw [hg]; exact Nat.le_refl _
  refine va_mmax hx hb (by rw [hml]; exact hl.1.symm) hown (hts _ hlk) (hts _ zl_max.1) (hts _ zl_max.2.1) (hts _ zl_max.2.2) (by omega) (by rw [zz_cats]; omega) (by omega) (by omega) hd ?_
  exact kk hlen H locs ls cells slots hRep hS hl hc hs
theorem zz_mmin {G : zz_G} {l : Launch} {own nm : String} {cc : ByteArray} {nL d : Nat} {ret : Option FieldType} {fin : zz_Fin} {Z : zz_Z} {pc : Nat} {lo : List (Option Value)} {st : List Value} {sh : List zz_Sh} {σ : zz_S} (C : zz_Cx G l own nm cc nL ret d fin Z) {idx : Nat} {x y : Int32} (hlk : Cond.methodLink own idx Lib.Math.min.name ∈ zz_T) (hdd : 1 ≤ d) (h8 : (st.map fun v => v.category).sum ≤ 8) (hd : decode cc pc = .ok (.invokestatic idx, 3)) (hg : fin.2.1 = sh) (kk : Z (pc + 3) lo (.int (zz_min x y) :: st) sh σ) : Z pc lo (.int y :: .int x :: st) sh σ := by
  obtain ⟨⟨p, e, R, s, m, args, below, meth, c, Q, k0, n0, rfl, ⟨hx, hb, hml, hown, hts⟩, hnm, hX, hK, hz, hR1, hR2, hR3, hR4⟩, hret⟩ := C
  intro hlen H locs ls cells slots hRep hS hl hc hs
  have hg1 : sh.length ≤ fin.2.1.length := by rw [hg]; exact Nat.le_refl _
  have hg2 : zz_sl sh ≤ zz_sl fin.2.1 := by rw [hg]; exact Nat.le_refl _
  refine va_mmin hx hb (by rw [hml]; exact hl.1.symm) hown (hts _ hlk) (hts _ zl_min.1) (hts _ zl_min.2.1) (hts _ zl_min.2.2) (by omega) (by rw [zz_cats]; omega) (by omega) (by omega) hd ?_
  exact kk hlen H locs ls cells slots hRep hS hl hc hs
theorem zz_mabs {G : zz_G} {l : Launch} {own nm : String} {cc : ByteArray} {nL d : Nat} {ret : Option FieldType} {fin : zz_Fin} {Z : zz_Z} {pc : Nat} {lo : List (Option Value)} {st : List Value} {sh : List zz_Sh} {σ : zz_S} (C : zz_Cx G l own nm cc nL ret d fin Z) {idx : Nat} {x : Int32} (hlk : Cond.methodLink own idx Lib.Math.abs.name ∈ zz_T) (hdd : 1 ≤ d) (h8 : (st.map fun v => v.category).sum ≤ 8) (hd : decode cc pc = .ok (.invokestatic idx, 3)) (hg : fin.2.1 = sh) (kk : Z (pc + 3) lo (.int (zz_abs x) :: st) sh σ) : Z pc lo (.int x :: st) sh σ := by
  obtain ⟨⟨p, e, R, s, m, args, below, meth, c, Q, k0, n0, rfl, ⟨hx, hb, hml, hown, hts⟩, hnm, hX, hK, hz, hR1, hR2, hR3, hR4⟩, hret⟩ := C
  intro hlen H locs ls cells slots hRep hS hl hc hs
  have hg1 : sh.length ≤ fin.2.1.length := by rw [hg]; exact Nat.le_refl _
  have hg2 : zz_sl sh ≤ zz_sl fin.2.1 := by rw [hg]; exact Nat.le_refl _
  refine va_mabs hx hb (by rw [hml]; exact hl.1.symm) hown (hts _ hlk) (hts _ zl_abs.1) (hts _ zl_abs.2.1) (hts _ zl_abs.2.2) (by omega) (by rw [zz_cats]; omega) (by omega) (by omega) hd ?_
  exact kk hlen H locs ls cells slots hRep hS hl hc hs
