/-- what one of a breadth gets of a whole, by the own cells under a cover -/
theorem part_c {s : zz_S} {i' a b : Int32} {i : Nat} (z1 : zz_in i' 6 = true) (ki : i'.toNatClampNeg = i) (h : ¬ s.1 3 i = 0) : f_Bed_partOf i' a b s = some (a * b / s.1 3 i) := by
  unfold f_Bed_partOf
  rw [if_pos z1, ki, if_neg h, if_neg h]
/-- by how much a cover is drawn, on both sides -/
theorem pull_of {c r : zz_S} {S C W B i k : Nat} {i' k' cells m back : Int32} (hs : nS c r S C W) (hw : nW c r) (hi : i < S) (hk : k < C) (hi' : i'.toInt = i) (hk' : k'.toInt = k) (hp : nP c r W i) (hq : nQ c r W B k) (hB : B ≤ 1000000000) (hc : -20 ≤ cells.toInt ∧ cells.toInt ≤ 20) (hback : back = if (0 : Int32) ≤ c.1 29 i * cells then 0 else 1) :
    ∃ (b : Int32) (c2 r2 : zz_S) (u : Int32), f_Night_pullOf i' k' cells m c = some (b, c2) ∧ f_M_under i' k' r = some u ∧ ((u ≤ 0 ∧ b = 0 ∧ r2 = r) ∨ (¬ u ≤ 0 ∧ f_M_drawBy i' k' cells back m r = some (b, r2))) ∧ (0 ≤ b.toInt ∧ b.toInt ≤ (cells.toInt.natAbs : Nat)) ∧ pull_c c c2 ∧ pull_r r r2 := by
  have e1 := un_class hs hi hk hi' hk' hp hq hB
  have e2 := un_ref hs hi hk hi' hk' hp hq hB
  obtain ⟨⟨s1, s2, s3⟩, ⟨s4, s5⟩, ⟨s6, s7⟩, -, ⟨r81, -, -, r85, -, r87⟩, s8, s9⟩ := hs
  obtain ⟨w1, ⟨w2, w2'⟩, w3⟩ := hw
  have b := s8 i hi
  have w := s9 k hk
  have hov : 0 ≤ ovl (c.1 33 i).toInt (c.1 3 i).toInt (c.1 36 k).toInt (c.1 7 k).toInt ∧ ovl (c.1 33 i).toInt (c.1 3 i).toInt (c.1 36 k).toInt (c.1 7 k).toInt ≤ (c.1 3 i).toInt := by unfold ovl; omega
  have hu : (nI (ovl (c.1 33 i).toInt (c.1 3 i).toInt (c.1 36 k).toInt (c.1 7 k).toInt).toNat).toInt = ovl (c.1 33 i).toInt (c.1 3 i).toInt (c.1 36 k).toInt (c.1 7 k).toInt := by
    show (Int32.ofNat _).toInt = _
    rw [Int32.toInt_ofNat_of_lt (by omega)]
    omega
  generalize nI (ovl (c.1 33 i).toInt (c.1 3 i).toInt (c.1 36 k).toInt (c.1 7 k).toInt).toNat = u at *
  have z1 : zz_in i' 6 = true := i_in.mpr (by omega)
  have z2 : zz_in k' 3 = true := i_in.mpr (by omega)
  have ki := nz_eq hi'
  have kk := nz_eq hk'
  have l0 : (0 : Int32).toInt = 0 := rfl
  obtain ⟨ab1, ab2⟩ := abs_of cells (by omega)
  unfold f_Night_pullOf
  rw [e1, Option.bind_some]
  by_cases u0 : u = 0
  · refine ⟨0, c, r, u, by rw [if_pos u0], e2, Or.inl ⟨by rw [u0]; decide, rfl, rfl⟩, ⟨Int.le_refl _, by rw [l0]; omega⟩, ⟨fun _ _ _ _ _ _ => rfl, rfl⟩, fun _ _ _ => rfl, rfl⟩
  · have hu1 : 1 ≤ u.toInt := by
      have : u.toInt ≠ 0 := fun q => u0 (i_lit (b := 0) q)
      omega
    have un : ¬ u ≤ 0 := by rw [i_le, l0]; omega
    have hb0 : back = 0 ∨ back = 1 := by rw [hback]; split <;> simp
    -- with a known way
    have core : ∃ (b : Int32) (c2 r2 : zz_S), f_Night_pullOf_J40 i' k' m u (zz_abs cells) back c = some (b, c2) ∧ f_M_drawBy i' k' cells back m r = some (b, r2) ∧ (0 ≤ b.toInt ∧ b.toInt ≤ (cells.toInt.natAbs : Nat)) ∧ pull_c c c2 ∧ pull_r r r2 := by
      unfold f_Night_pullOf_J40 f_M_drawBy
      rw [e2, Option.bind_some, w1, ab1]
      generalize f_M_sizeOf cells = t at *
      by_cases law0 : (c.1 20 10).toInt < 0
      · rw [if_pos (by rw [i_lt, l0]; exact law0), if_neg (by rw [i_le, l0]; omega)]
        unfold f_Night_pullOf_J57
        rcases hb0 with hb | hb
        · have nb : ¬ back = 1 := by rw [hb]; decide
          have br0 : ¬ c.1 3 i = 0 := fun q => by rw [q, l0] at b; omega
          have hm := i_mul (a := t) (b := u) (by
            have : (0 : Int) ≤ t.toInt * u.toInt := Int.mul_nonneg (by omega) (by omega)
            omega) (by
            have : t.toInt * u.toInt ≤ 20 * 20 := Int.mul_le_mul (by omega) (by omega) (by omega) (by omega)
            omega)
          have hm0 : (0 : Int) ≤ t.toInt * u.toInt := Int.mul_nonneg (by omega) (by omega)
          have hm1 : t.toInt * u.toInt ≤ t.toInt * (c.1 3 i).toInt := Int.mul_le_mul_of_nonneg_left (by omega) (by omega)
          have hd : (t * u / c.1 3 i).toInt = (t.toInt * u.toInt) / (c.1 3 i).toInt := by
            rw [Int32.toInt_div_of_ne_right _ _ (fun q => by rw [q] at b; exact absurd b.1.1 (by decide)), hm, tdiv_le hm0 (by omega)]
          have hd0 : 0 ≤ (t.toInt * u.toInt) / (c.1 3 i).toInt := Int.ediv_nonneg hm0 (by omega)
          have hd1 : (t.toInt * u.toInt) / (c.1 3 i).toInt ≤ t.toInt := Int.ediv_le_of_le_mul (by omega) hm1
          have hsb := i_sub (a := t * u / c.1 3 i) (b := c.1 9 k) (by omega) (by omega)
          have hmx := zmax_toInt 0 (t * u / c.1 3 i - c.1 9 k)
          rw [l0] at hmx
          refine ⟨zz_max 0 (t * u / c.1 3 i - c.1 9 k), c, r, ?_, ?_, ⟨by omega, by omega⟩, ⟨fun _ _ _ _ _ _ => rfl, rfl⟩, fun _ _ _ => rfl, rfl⟩
          · rw [if_neg nb, part_c z1 ki br0, Option.bind_some, if_pos z2, kk]
          · rw [if_neg nb, if_pos z1, ki, r81, r87, kk, if_neg br0, if_pos z2]
            unfold f_M_drawBy_J50
            by_cases q : (0 : Int32) ≤ t * u / c.1 3 i - c.1 9 k
            · rw [if_pos q]
              rw [i_le, l0] at q
              exact congrArg (fun x => some (x, r)) (i_lit (by omega))
            · rw [if_neg q]
              rw [i_le, l0] at q
              exact congrArg (fun x => some (x, r)) (i_lit (by rw [l0]; omega))
        · refine ⟨0, c, r, by rw [if_pos hb], by rw [if_pos hb]; rfl, ⟨Int.le_refl _, by rw [l0]; omega⟩, ⟨fun _ _ _ _ _ _ => rfl, rfl⟩, fun _ _ _ => rfl, rfl⟩
      · obtain ⟨L, hL, hz0, hz, hcl⟩ := w3 (by omega)
        obtain ⟨n, hn⟩ : ∃ n : Nat, (c.1 20 10).toInt = n := ⟨(c.1 20 10).toInt.toNat, by omega⟩
        have hnn : (c.1 20 10).toInt.toNat = n := by omega
        rw [hnn] at hL hz0 hz hcl
        rw [if_neg (by rw [i_lt, l0]; exact law0), if_pos (by rw [i_lt, show (4 : Int32).toInt = 4 from rfl]; omega), if_pos z2, if_pos (i_in.mpr (by omega)), if_pos (by rw [i_le, l0]; omega), if_pos z2, zr19 hn (by omega), kk, r85, r87]
        have c31 : ∀ o, o ≠ 31 → (zz_w (zz_w (zz_w (zz_w (zz_w (zz_w (zz_w (zz_w c 31 0 t) 31 1 u) 31 2 (c.1 7 k)) 31 3 (c.1 9 k)) 31 4 i') 31 5 back) 31 6 m) 31 7 (m / 60)).1 o = c.1 o := fun o ho => by simp [w_row, ho]
        have r101 : ∀ o, o ≠ 101 → (zz_w (zz_w (zz_w (zz_w (zz_w (zz_w (zz_w (zz_w r 101 0 t) 101 1 u) 101 2 (c.1 7 k)) 101 3 (c.1 9 k)) 101 4 i') 101 5 back) 101 6 m) 101 7 (m / 60)).1 o = r.1 o := fun o ho => by simp [w_row, ho]
        have nm : ∀ j, j < 8 → (zz_w (zz_w (zz_w (zz_w (zz_w (zz_w (zz_w (zz_w c 31 0 t) 31 1 u) 31 2 (c.1 7 k)) 31 3 (c.1 9 k)) 31 4 i') 31 5 back) 31 6 m) 31 7 (m / 60)).1 31 j = (zz_w (zz_w (zz_w (zz_w (zz_w (zz_w (zz_w (zz_w r 101 0 t) 101 1 u) 101 2 (c.1 7 k)) 101 3 (c.1 9 k)) 101 4 i') 101 5 back) 101 6 m) 101 7 (m / 60)).1 101 j := fun j hj => by
          have cs : j = 0 ∨ j = 1 ∨ j = 2 ∨ j = 3 ∨ j = 4 ∨ j = 5 ∨ j = 6 ∨ j = 7 := by omega
          rcases cs with q | q | q | q | q | q | q | q <;> subst q <;> simp [w_get]
        have hr1s : (zz_w (zz_w (zz_w (zz_w (zz_w (zz_w (zz_w (zz_w r 101 0 t) 101 1 u) 101 2 (c.1 7 k)) 101 3 (c.1 9 k)) 101 4 i') 101 5 back) 101 6 m) 101 7 (m / 60)).2 = r.2 := rfl
        generalize zz_w (zz_w (zz_w (zz_w (zz_w (zz_w (zz_w (zz_w r 101 0 t) 101 1 u) 101 2 (c.1 7 k)) 101 3 (c.1 9 k)) 101 4 i') 101 5 back) 101 6 m) 101 7 (m / 60) = r1 at *
        have hc1s : (zz_w (zz_w (zz_w (zz_w (zz_w (zz_w (zz_w (zz_w c 31 0 t) 31 1 u) 31 2 (c.1 7 k)) 31 3 (c.1 9 k)) 31 4 i') 31 5 back) 31 6 m) 31 7 (m / 60)).2 = c.2 := rfl
        generalize zz_w (zz_w (zz_w (zz_w (zz_w (zz_w (zz_w (zz_w c 31 0 t) 31 1 u) 31 2 (c.1 7 k)) 31 3 (c.1 9 k)) 31 4 i') 31 5 back) 31 6 m) 31 7 (m / 60) = c1 at *
        obtain ⟨c2, g1, g2, g3⟩ := wo_all (55 + 3 * n) 31 (by omega) (L := L) (s := c1) hL.1 (by rw [c31 _ (by omega)]; exact hz0) (by rw [c31 _ (by omega)]; exact hz) (by rw [c31 _ (by omega), c31 _ (by omega), show 55 + 3 * n + 1 = 56 + 3 * n by omega]; exact hcl)
        obtain ⟨r2, j1, j2, j3⟩ := gv_all (c.1 20 10) (L := L) (s := r1) (by omega) (by omega) (by rw [hnn, r101 96 (by decide), r101 97 (by decide), r101 98 (by decide), r101 99 (by decide), r101 100 (by decide)]; exact hL)
        rw [g1, Option.bind_some, j1, Option.bind_some, xval_nm nm L hL.1]
        have hh : f_M_held (xval (r1.1 101) L) 0 t = zz_max 0 (zz_min t (xval (r1.1 101) L)) := by
          refine i_lit ?_
          rw [zmax_toInt, zmin_toInt, l0]
          unfold f_M_held
          by_cases q1 : (0 : Int32) ≤ xval (r1.1 101) L
          · rw [if_pos q1]
            rw [i_le, l0] at q1
            by_cases q2 : xval (r1.1 101) L ≤ t
            · rw [if_pos q2]
              rw [i_le] at q2
              omega
            · rw [if_neg q2]
              rw [i_le] at q2
              omega
          · rw [if_neg q1]
            rw [i_le, l0] at q1
            rw [l0]
            omega
        refine ⟨_, c2, r2, rfl, by rw [hh], ⟨?_, ?_⟩, ⟨fun o a1 a2 a3 a4 a5 => (g2 o (by omega)).trans (c31 o a1), g3.trans hc1s⟩, fun o a1 a2 => (j2 o a2).trans (r101 o a1), j3.trans hr1s⟩
        · rw [zmax_toInt, zmin_toInt, l0]; omega
        · rw [zmax_toInt, zmin_toInt, l0]; omega
    by_cases q : (0 : Int32) ≤ c.1 29 i * cells
    · rw [if_pos q] at hback
      obtain ⟨b, c2, r2, k1, k2, k3, k4, k5⟩ := core
      rw [hback] at k1
      exact ⟨b, c2, r2, u, by rw [if_neg u0, if_pos z1, ki, if_pos q]; exact k1, e2, Or.inr ⟨un, k2⟩, k3, k4, k5⟩
    · rw [if_neg q] at hback
      obtain ⟨b, c2, r2, k1, k2, k3, k4, k5⟩ := core
      rw [hback] at k1
      exact ⟨b, c2, r2, u, by rw [if_neg u0, if_pos z1, ki, if_neg q]; exact k1, e2, Or.inr ⟨un, k2⟩, k3, k4, k5⟩
