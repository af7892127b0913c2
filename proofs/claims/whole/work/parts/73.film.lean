def nE (c r : zz_S) (S C W B : Nat) : Prop :=
  (∀ i, i < S → nP c r W i) ∧ (∀ k, k < C → nQ c r W B k) ∧ (∀ i, i < S → c.1 34 i = nI (cvN (c.1 36) (c.1 7) C (c.1 33 i) (c.1 3 i))) ∧
  (∀ i, i < S → r.1 105 i = c.1 29 i ∧ -1 ≤ (c.1 29 i).toInt ∧ (c.1 29 i).toInt ≤ 1) ∧ (∀ k, k < 18 → r.1 113 k = c.1 28 k) ∧
  ∀ k, k < S → (c.1 25 k = -2 ∨ 0 ≤ (c.1 25 k).toInt) ∧ (10 ≤ (c.1 27 k).toInt → 0 ≤ (c.1 25 k).toInt)
theorem turn_coreE {c r : zz_S} {S C W B i : Nat} {i' cells m way back : Int32} (hs : nS c r S C W) (hw : nW c r) (hd : nE c r S C W B) (hi : i < S) (hi' : i'.toInt = i) (hc : -20 ≤ cells.toInt ∧ cells.toInt ≤ 20) (hm : 0 ≤ m.toInt) (hB : B ≤ 900000000) (hway : way = 1 ∨ way = -1) (hback : back = if (0 : Int32) ≤ c.1 29 i * cells then 0 else 1) :
    ∃ c2 r2, f_Night_turnOver_L14 zF i' cells m way 0 c = some c2 ∧ f_M_turnNow_L41 zF i' cells m way back 0 r = some r2 ∧ nE c2 r2 S C W (B + 20) ∧ tF c r c2 r2 := by
  obtain ⟨hP, hQ, hcov, hlw, htk, hwk⟩ := hd
  have hs0 := hs
  obtain ⟨⟨s1, s2, s3⟩, ⟨s4, s5⟩, ⟨s6, s7⟩, ⟨rr1, rr2, r7⟩, ⟨r81, r82, r83, r85, r86, r87⟩, s8, s9⟩ := hs
  -- how many were covered
  obtain ⟨ra, a1, a2, a3, a4⟩ := was_loop (B := B) hs0 (fun k hk => ⟨(hQ k hk).1, (hQ k hk).2.1⟩) (fun k hk => ⟨(hP k hk).1, (hP k hk).2.1⟩) (by omega) i' cells m way back S 0 zF 0 r (by omega) rfl (by unfold zF; omega) (fun k hk => by omega) (fun _ _ => rfl) rfl
  rw [a1]
  have hsa : nS c ra S C W := nS_fr hs0 (fun _ _ _ => rfl) (fun k _ => by rw [a3 79 (by decide)]) (fun o h1 h2 => a3 o (by omega))
  have hwa : nW c ra := by
    unfold nW at hw ⊢
    rw [a3 79 (by decide), a3 96 (by decide), a3 97 (by decide), a3 98 (by decide), a3 99 (by decide), a3 100 (by decide)]
    exact hw
  have hQa : ∀ k, k < C → nQ c ra W B k := fun k hk => by
    have := hQ k hk
    unfold nQ at this ⊢
    rw [a3 104 (by decide)]
    exact this
  have hPa : ∀ k, k < S → nP c ra W k := fun k hk => by
    have := hP k hk
    unfold nP at this ⊢
    rw [a3 103 (by decide)]
    exact this
  -- how far each is drawn
  obtain ⟨cb, rb, b1, b2, b3, b4, b5, b6, b7⟩ := pl_loop hsa hwa hi hi' (hPa i hi) hQa (by omega) hc hback hway C 0 zF zF 0 c ra (by omega) rfl (by unfold zF; omega) (by unfold zF; omega) (fun _ _ _ _ _ _ _ => rfl) rfl (fun _ _ _ _ => rfl) rfl (fun k hk => by omega)
  rw [b1, b2]
  have C3 := fun o h1 h2 h3 h4 h5 h6 => b3 o h1 h2 h3 h4 h5 h6
  have hsb : nS cb rb S C W := nS_fr hsa (fun o h1 h2 => b3 o (by omega) (by omega) (by omega) (by omega) (by omega) (by omega)) (fun k _ => by rw [b5 79 (by decide) (by decide) (by decide)]) (fun o h1 h2 => b5 o (by omega) (by omega) (by omega))
  have hQb : ∀ k, k < C → nQ cb rb W B k := fun k hk => by
    have := hQa k hk
    unfold nQ at this ⊢
    rw [b3 36 (by decide) (by decide) (by decide) (by decide) (by decide) (by decide), b3 7 (by decide) (by decide) (by decide) (by decide) (by decide) (by decide), b4, b5 104 (by decide) (by decide) (by decide)]
    exact this
  -- the covers move
  obtain ⟨cc, rc, d1, d2, d3, d4, d5, d6, d7, d8⟩ := tm_loop hsb hi hi' (m := m) (cells := cells) hQb hB hway b7 C 0 zF zF 0 cb rb (by omega) rfl (by unfold zF; omega) (by unfold zF; omega) (fun _ _ _ => rfl) (fun _ _ => rfl) (fun _ _ _ => rfl) rfl (fun k hk => by omega) (fun k _ hk => hQb k hk) (fun k hk => by
    rw [b5 113 (by decide) (by decide) (by decide), a3 113 (by decide), b3 28 (by decide) (by decide) (by decide) (by decide) (by decide) (by decide)]
    exact htk k hk)
  rw [d1, d2]
  have hsc : nS cc rc S C W := nS_fr hsb (fun o h1 h2 => d3 o (by omega) (by omega)) (fun k _ => by rw [d5 79 (by decide) (by decide)]) (fun o h1 h2 => d5 o (by omega) (by omega))
  have cc33 : cc.1 33 = c.1 33 := by rw [d3 33 (by decide) (by decide), b3 33 (by decide) (by decide) (by decide) (by decide) (by decide) (by decide)]
  have cc3 : cc.1 3 = c.1 3 := by rw [d3 3 (by decide) (by decide), b3 3 (by decide) (by decide) (by decide) (by decide) (by decide) (by decide)]
  have cc1 : cc.1 1 = c.1 1 := by rw [d3 1 (by decide) (by decide), b3 1 (by decide) (by decide) (by decide) (by decide) (by decide) (by decide)]
  have cc7 : cc.1 7 = c.1 7 := by rw [d3 7 (by decide) (by decide), b3 7 (by decide) (by decide) (by decide) (by decide) (by decide) (by decide)]
  have rc103 : rc.1 103 = r.1 103 := by rw [d5 103 (by decide) (by decide), b5 103 (by decide) (by decide) (by decide), a3 103 (by decide)]
  have rc79 : rc.1 79 = r.1 79 := by rw [d5 79 (by decide) (by decide), b5 79 (by decide) (by decide) (by decide), a3 79 (by decide)]
  have rc81 : rc.1 81 = c.1 3 := by rw [d5 81 (by decide) (by decide), b5 81 (by decide) (by decide) (by decide), a3 81 (by decide), r81]
  have z1 : zz_in i' 6 = true := i_in.mpr (by omega)
  have ki := nz_eq hi'
  obtain ⟨pi0, ⟨pi1, pi2⟩, pi3⟩ := hP i hi
  have bi := s8 i hi
  have hsub := i_sub (a := c.1 1 0) (b := c.1 3 i) (by omega) (by omega)
  have hadd := i_add (a := c.1 33 i) (b := cells) (by omega) (by omega)
  -- the sleeper moves
  have hpl : (zz_max 0 (zz_min (c.1 1 0 - c.1 3 i) (c.1 33 i + cells))).toInt = max 0 (min ((c.1 1 0).toInt - (c.1 3 i).toInt) ((c.1 33 i).toInt + cells.toInt)) := by
    rw [zmax_toInt, zmin_toInt, hsub, hadd]; rfl
  have hheld : f_M_held (c.1 33 i + cells) 0 (c.1 1 0 - c.1 3 i) = zz_max 0 (zz_min (c.1 1 0 - c.1 3 i) (c.1 33 i + cells)) := held_of _ _ (by omega)
  generalize hnp : zz_max 0 (zz_min (c.1 1 0 - c.1 3 i) (c.1 33 i + cells)) = p2 at *
  have hbits := bits_of (s := zz_w cc 33 i p2) (W := W) p2 (c.1 3 i) (by rw [w_row, if_neg (by decide), cc1]; exact s1) s3 (by omega) (by omega) (by omega) (by omega)
  have hseg : seg (sF W p2.toInt) (sE W p2.toInt (c.1 3 i).toInt) = seg p2.toInt.toNat (p2.toInt.toNat + (c.1 3 i).toInt.toNat) := by
    congr 1
    · unfold sF; omega
    · unfold sE; omega
  rw [hseg] at hbits
  generalize hcd : zz_w (zz_wl (zz_w cc 33 i p2) 37 i (lN (seg p2.toInt.toNat (p2.toInt.toNat + (c.1 3 i).toInt.toNat)))) 29 i way = cd
  generalize hrd : zz_w (zz_w rc 103 i p2) 105 i way = rd
  have cdo : ∀ o, o ≠ 29 → o ≠ 33 → cd.1 o = cc.1 o := fun o h1 h2 => by
    rw [← hcd, w_row, if_neg h1]
    show (zz_w cc 33 i p2).1 o = cc.1 o
    rw [w_row, if_neg h2]
  have cd33 : ∀ k, cd.1 33 k = if k = i then p2 else c.1 33 k := fun k => by
    rw [← hcd, w_row, if_neg (by decide)]
    show (zz_w cc 33 i p2).1 33 k = _
    rw [w_get, if_pos rfl, cc33]
  have cd29 : ∀ k, cd.1 29 k = if k = i then way else c.1 29 k := fun k => by
    rw [← hcd, w_get, if_pos rfl]
    show (if k = i then way else (zz_w cc 33 i p2).1 29 k) = _
    rw [w_row, if_neg (show ¬ (29 : Nat) = 33 by decide), d3 29 (by decide) (by decide), b3 29 (by decide) (by decide) (by decide) (by decide) (by decide) (by decide)]
  have cdL : ∀ o, o ≠ 37 → cd.2 o = cc.2 o := fun o h1 => by
    rw [← hcd]
    show (zz_wl (zz_w cc 33 i p2) 37 i _).2 o = _
    rw [zz_wl_ne _ _ _ _ h1]
    rfl
  have cd37 : ∀ k, cd.2 37 k = if k = i then lN (seg p2.toInt.toNat (p2.toInt.toNat + (c.1 3 i).toInt.toNat)) else c.2 37 k := fun k => by
    rw [← hcd]
    show (if k = i then lN (seg p2.toInt.toNat (p2.toInt.toNat + (c.1 3 i).toInt.toNat)) else cc.2 37 k) = _
    rw [d4 37 (by decide), b4]
  have rdo : ∀ o, o ≠ 103 → o ≠ 105 → rd.1 o = rc.1 o := fun o h1 h2 => by rw [← hrd, w_row, if_neg h2, w_row, if_neg h1]
  have rd103 : ∀ k, rd.1 103 k = if k = i then p2 else r.1 103 k := fun k => by rw [← hrd, w_row, if_neg (by decide), w_get, if_pos rfl, rc103]
  have rd105 : ∀ k, rd.1 105 k = if k = i then way else r.1 105 k := fun k => by
    rw [← hrd, w_get, if_pos rfl, w_row, if_neg (show ¬ (105 : Nat) = 103 by decide), d5 105 (by decide) (by decide), b5 105 (by decide) (by decide) (by decide), a3 105 (by decide)]
  have hsd : nS cd rd S C W := nS_fr hsc (fun o h1 h2 => cdo o (by omega) (by omega)) (fun k _ => by rw [rdo 79 (by decide) (by decide)]) (fun o h1 h2 => rdo o (by omega) (by omega))
  have hQd : ∀ k, k < C → nQ cd rd W (B + 20) k := fun k hk => by
    have := d7 k hk
    unfold nQ at this ⊢
    rw [cdo 36 (by decide) (by decide), cdo 7 (by decide) (by decide), cdL 38 (by decide), rdo 104 (by decide) (by decide)]
    exact this
  have hPd : ∀ k, k < S → nP cd rd W k := fun k hk => by
    have := hP k hk
    unfold nP at this ⊢
    rw [cd33, rd103, cd37, cdo 3 (by decide) (by decide), cc3]
    by_cases e : k = i
    · rw [if_pos e, if_pos e, if_pos e, e]
      exact ⟨rfl, ⟨by omega, by omega⟩, rfl⟩
    · rw [if_neg e, if_neg e, if_neg e]
      exact this
  obtain ⟨M, m1, m2, m3⟩ := covers_of (c := cd) (W := W) (C := C) s3 (by rw [cdo 1 (by decide) (by decide), cc1]; exact s6) s7 (fun k hk => by
    have := s9 k hk
    rw [cdo 7 (by decide) (by decide), cc7]
    omega) (fun k hk => (hQd k hk).2.2)
  have e1 : f_Night_turnOver_L54 1 i' cells m way (cb.1 1 2) cc = f_Night_turnOver_L138 zF i' m (lN M) 0 cd := by
    have t1 : cc.1 1 2 ≤ cb.1 1 2 := by rw [i_le, d3 1 (by decide) (by decide)]; omega
    rw [show (1 : Nat) = 0 + 1 from rfl, f_Night_turnOver_L54, if_pos t1]
    unfold f_Lie_moveSleeper f_Bed_heldWithin
    rw [if_pos z1, if_pos z1, ki, cc33, cc3, cc1, hnp, Option.bind_some]
    have : (zz_w cc 33 i p2).1 33 i = p2 := by simp [w_get]
    rw [this, hbits, Option.bind_some, hcd, m1, Option.bind_some, if_pos z1]
  have e2 : f_M_turnNow_L122 1 i' cells m way (rb.1 79 7) rc = f_M_turnNow_L221 zF i' m 0 rd := by
    have t1 : rc.1 79 7 ≤ rb.1 79 7 := by rw [i_le, d5 79 (by decide) (by decide)]; omega
    rw [show (1 : Nat) = 0 + 1 from rfl, f_M_turnNow_L122, if_pos t1, if_pos z1, ki, rc103, pi0, rc79, rc81, rr1, hheld, hrd]
  rw [e1, e2]
  -- who wakes
  obtain ⟨ce, re, f1, f2, f3, f4, f5, f6, f7, f8⟩ := wk_loopE (was := fun k => cvN (c.1 36) (c.1 7) C (c.1 33 k) (c.1 3 k)) hsd hi' (m := m) hPd hQd (by omega) m2 m3 (fun k hk => by
    refine ⟨?_, ?_⟩
    · rw [rdo 114 (by decide) (by decide), d5 114 (by decide) (by decide), b5 114 (by decide) (by decide) (by decide)]
      exact a2 k hk
    · have h1 := ct_le (fun j => cvr (c.1 36) (c.1 7) C ((c.1 33 k).toInt + j)) (c.1 3 k).toInt.toNat
      have h2 := s8 k hk
      show cvN (c.1 36) (c.1 7) C (c.1 33 k) (c.1 3 k) ≤ 20
      unfold cvN
      omega) hm S 0 zF zF 0 cd rd (by omega) rfl (by unfold zF; omega) (by unfold zF; omega) (fun _ _ _ _ => rfl) rfl (fun _ _ _ => rfl) rfl (fun k hk => by
    rw [if_neg (by omega), cdo 34 (by decide) (by decide), d3 34 (by decide) (by decide), b3 34 (by decide) (by decide) (by decide) (by decide) (by decide) (by decide)]
    exact hcov k hk) (fun k hk => by
    rw [cdo 27 (by decide) (by decide), d3 27 (by decide) (by decide), b3 27 (by decide) (by decide) (by decide) (by decide) (by decide) (by decide), cdo 25 (by decide) (by decide), d3 25 (by decide) (by decide), b3 25 (by decide) (by decide) (by decide) (by decide) (by decide) (by decide)]
    exact hwk k hk)
  refine ⟨ce, re, f1, f2, ⟨fun k hk => ?_, fun k hk => ?_, fun k hk => ?_, fun k hk => ?_, fun k hk => ?_, fun k hk => by rw [f3 27 (by decide) (by decide) (by decide)]; exact f8 k hk⟩, ⟨fun o h1 h2 h3 h4 h5 h6 h7 h8 h9 h10 h11 h12 h13 => ?_, fun o h1 h2 => ?_⟩, fun o h1 h2 => ?_, ?_⟩
  · have := hPd k hk
    unfold nP at this ⊢
    rw [f3 33 (by decide) (by decide) (by decide), f3 3 (by decide) (by decide) (by decide), f4, f5 103 (by decide) (by decide)]
    exact this
  · have := hQd k hk
    unfold nQ at this ⊢
    rw [f3 36 (by decide) (by decide) (by decide), f3 7 (by decide) (by decide) (by decide), f4, f5 104 (by decide) (by decide)]
    exact this
  · rw [f3 36 (by decide) (by decide) (by decide), f3 7 (by decide) (by decide) (by decide), f3 33 (by decide) (by decide) (by decide), f3 3 (by decide) (by decide) (by decide)]
    exact f7 k hk
  · rw [f5 105 (by decide) (by decide), f3 29 (by decide) (by decide) (by decide), rd105, cd29]
    by_cases e : k = i
    · rw [if_pos e, if_pos e]
      rcases hway with rfl | rfl <;> exact ⟨rfl, by decide, by decide⟩
    · rw [if_neg e, if_neg e]
      exact hlw k hk
  · rw [f5 113 (by decide) (by decide), f3 28 (by decide) (by decide) (by decide), rdo 113 (by decide) (by decide), cdo 28 (by decide) (by decide)]
    exact d8 k hk
  · rw [f3 o h1 h2 h8, cdo o h4 h7, d3 o h3 h9, b3 o h5 h6 h10 h11 h12 h13]
  · rw [f4, cdL o h1, d4 o h2, b4]
  · rw [f5 o (by omega) (by omega), rdo o (by omega) (by omega), d5 o (by omega) (by omega), b5 o (by omega) (by omega) (by omega), a3 o (by omega)]
  · rw [f6, ← hrd]
    show rc.2 = r.2
    rw [d6, b6, a4]
