theorem ln_line {c r : zz_S} {N a sz ld : Nat} {L : List (List (Int32 × Int32) × List (Int32 × Int32))} (h : LG c r N a sz ld L) (hs : sz ≤ a) (hl : ld ≤ a) (hL : 2 * L.length ≤ a) :
    ∃ c2 r2, f_Tape_readLine c = some c2 ∧ f_M_line r = some r2 ∧ lF c r c2 r2 ∧
      ((∃ (a2 sz2 ld2 : Nat) (q : List (Int32 × Int32) × List (Int32 × Int32)), LG c2 r2 N a2 sz2 ld2 (L ++ [q]) ∧ a < a2 ∧ sz2 ≤ a2 + 1 ∧ ld2 ≤ a2 ∧ 2 * (L.length + 1) ≤ a2 + 1) ∨ ∃ a2 ld2 : Nat, pB c2 r2 N a2 ld2) := by
  obtain ⟨hG, h98, hx, hq, hc, hr⟩ := h
  have hN := hG.1.2.1
  have hle := hG.2.1
  have hz := hG.2.2.2.2.1
  have hld := hG.2.2.2.2.2.1
  have l305 : (305 : Int32).toInt = 305 := rfl
  generalize hm : L.length = m at *
  have hkk : (305 + r.1 98 5).toInt = (305 + m : Nat) := by
    rw [i_add (by rw [l305]; omega) (by rw [l305]; omega), l305, h98]
    omega
  have zkk : zz_in (305 + r.1 98 5) 366 = true := i_in.mpr (by omega)
  -- where the line begins
  have hF0 : lF c r c (zz_w r 99 (305 + m) (vp_nar .short (r.1 79 27).toInt16.toInt32)) := ⟨⟨fun _ _ _ _ => rfl, rfl, fun _ _ _ => rfl⟩, fun o a b d e f g => by simp [w_row, f], rfl, fun k a => by simp [w_get], fun k a => by simp [w_get], fun k a => by simp [w_get], fun j a => by
    have : ¬ j = 305 + m := by omega
    simp [w_get, this]⟩
  have hG0 : pG c (zz_w r 99 (305 + m) (vp_nar .short (r.1 79 27).toInt16.toInt32)) N a sz ld 0 := by
    obtain ⟨t, h2, ⟨h3, h4⟩, ⟨h5, h6⟩, h7, h8, h9⟩ := hG
    exact ⟨pT_lF t hF0, h2, ⟨h3, by simp [w_get, h4]⟩, ⟨h5, by simp [w_get, h6]⟩, h7, by simp [w_get, h8], by simp [w_get, h9]⟩
  have e99 : ∀ j, j < 305 + m → (zz_w r 99 (305 + m) (vp_nar .short (r.1 79 27).toInt16.toInt32)).1 99 j = r.1 99 j := fun j hj => by
    have : ¬ j = 305 + m := by omega
    simp [w_get, this]
  have e99' : ((zz_w r 99 (305 + m) (vp_nar .short (r.1 79 27).toInt16.toInt32)).1 99 (305 + m)).toInt = ld := by
    simp [w_get, (short_of hld (by omega)).1, hld]
  have e96 : (zz_w r 99 (305 + m) (vp_nar .short (r.1 79 27).toInt16.toInt32)).1 96 = r.1 96 := by simp [w_row]
  have e97 : (zz_w r 99 (305 + m) (vp_nar .short (r.1 79 27).toInt16.toInt32)).1 97 = r.1 97 := by simp [w_row]
  have e100 : (zz_w r 99 (305 + m) (vp_nar .short (r.1 79 27).toInt16.toInt32)).1 100 = r.1 100 := by simp [w_row]
  have e98 : (zz_w r 99 (305 + m) (vp_nar .short (r.1 79 27).toInt16.toInt32)).1 98 = r.1 98 := by simp [w_row]
  unfold f_Tape_readLine f_M_line
  rw [if_pos zkk, nz_eq hkk]
  generalize zz_w r 99 (305 + m) (vp_nar .short (r.1 79 27).toInt16.toInt32) = r0 at *
  obtain ⟨c1, r1, g1, g2, hF1, hk⟩ := rd_expr c r0 N a sz ld hG0 hs hl
  rw [g1, Option.bind_some, g2, Option.bind_some]
  have f98 : ∀ {c' r' : zz_S}, pF c r0 c' r' → r'.1 98 = r.1 98 ∧ r'.1 99 = r0.1 99 ∧ r'.1 100 = r.1 100 := fun h => ⟨(h.2.1 98 (by decide) (by decide) (by decide)).trans e98, h.2.1 99 (by decide) (by decide) (by decide), (h.2.1 100 (by decide) (by decide) (by decide)).trans e100⟩
  rcases hk with ⟨a1, l, q1, q2, q3, ⟨q4, q5⟩, q6, q7⟩ | ⟨a1, ld1, q1, -⟩
  · obtain ⟨v, w, p1, p2, p3, p4⟩ := pk_good q2
    have hle1 := q2.2.1
    have hlp := isX_pos q1
    have hnf : ¬ (0 : Int32) ≤ r1.1 79 25 := nofault q2
    obtain ⟨y98, y99, y100⟩ := f98 hF1
    rw [if_neg hnf, p2, Option.bind_some]
    by_cases c63 : v = 63
    · -- a test ahead
      have hlt : a1 < N := p4.resolve_left fun q => by rw [q] at c63; exact absurd c63 (by decide)
      rw [takes_yes p1 c63, Option.bind_some, if_neg one_ne, if_pos (p3.1.2.2.2.2.2.mp c63)]
      obtain ⟨t1, t2⟩ := pG_take q2 hlt
      obtain ⟨c2, j1, j2, j3, j4, j5⟩ := code_good t1 (by omega) 10000
      rw [j1, Option.bind_some]
      have k46 : (zz_w c1 44 3 (c1.1 44 3 + 1)).1 46 = c1.1 46 := by simp [w_row]
      have k45 : (zz_w c1 44 3 (c1.1 44 3 + 1)).1 45 0 = c1.1 45 0 := by simp [w_get]
      have k96 : (zz_w r1 79 24 (r1.1 79 24 + 1)).1 96 = r1.1 96 := by simp [w_row]
      have k97 : (zz_w r1 79 24 (r1.1 79 24 + 1)).1 97 = r1.1 97 := by simp [w_row]
      have k79 : (zz_w r1 79 24 (r1.1 79 24 + 1)).1 79 27 = r1.1 79 27 := by simp [w_get]
      have hld1 := q2.2.2.2.2.2.1
      have hsz1 := q2.2.2.2.2.1
      -- where the test ends
      have hF2 : lF c2 (zz_w r1 79 24 (r1.1 79 24 + 1)) c2 (zz_w (zz_w r1 79 24 (r1.1 79 24 + 1)) 99 (305 + m) (vp_nar .short (r1.1 79 27).toInt16.toInt32)) := ⟨⟨fun _ _ _ _ => rfl, rfl, fun _ _ _ => rfl⟩, fun o a b d e f g => by simp [w_row, f], rfl, fun k a => by simp [w_get], fun k a => by simp [w_get], fun k a => by simp [w_get], fun j a => by
        have : ¬ j = 305 + m := by omega
        simp [w_get, this]⟩
      have hG2 : pG c2 (zz_w (zz_w r1 79 24 (r1.1 79 24 + 1)) 99 (305 + m) (vp_nar .short (r1.1 79 27).toInt16.toInt32)) N (a1 + 1) (sz + l.length + 1) (ld + l.length) 0 := by
        obtain ⟨t, h2, ⟨h3, h4⟩, ⟨h5, h6⟩, h7, h8, h9⟩ := j2
        exact ⟨pT_lF t hF2, h2, ⟨h3, by rw [← h4]; simp [w_get]⟩, ⟨h5, by rw [← h6]; simp [w_get]⟩, h7, by rw [← h8]; simp [w_get], by rw [← h9]; simp [w_get]⟩
      have x99 : ∀ j, j < 305 + m → (zz_w (zz_w r1 79 24 (r1.1 79 24 + 1)) 99 (305 + m) (vp_nar .short (r1.1 79 27).toInt16.toInt32)).1 99 j = r.1 99 j := fun j hj => by
        have : ¬ j = 305 + m := by omega
        rw [← e99 j hj, ← y99]
        simp [w_get, this]
      have x99' : ((zz_w (zz_w r1 79 24 (r1.1 79 24 + 1)) 99 (305 + m) (vp_nar .short (r1.1 79 27).toInt16.toInt32)).1 99 (305 + m)).toInt = (ld + l.length : Nat) := by
        simp [w_get, (short_of hld1 (by omega)).1, hld1]
      have x96 : (zz_w (zz_w r1 79 24 (r1.1 79 24 + 1)) 99 (305 + m) (vp_nar .short (r1.1 79 27).toInt16.toInt32)).1 96 = r1.1 96 := by simp [w_row]
      have x97 : (zz_w (zz_w r1 79 24 (r1.1 79 24 + 1)) 99 (305 + m) (vp_nar .short (r1.1 79 27).toInt16.toInt32)).1 97 = r1.1 97 := by simp [w_row]
      have x98 : (zz_w (zz_w r1 79 24 (r1.1 79 24 + 1)) 99 (305 + m) (vp_nar .short (r1.1 79 27).toInt16.toInt32)).1 98 = r.1 98 := by rw [← y98]; simp [w_row]
      have x100 : (zz_w (zz_w r1 79 24 (r1.1 79 24 + 1)) 99 (305 + m) (vp_nar .short (r1.1 79 27).toInt16.toInt32)).1 100 = r.1 100 := by rw [← y100]; simp [w_row]
      generalize zz_w (zz_w r1 79 24 (r1.1 79 24 + 1)) 99 (305 + m) (vp_nar .short (r1.1 79 27).toInt16.toInt32) = r2 at *
      have hF02 : lF c r c2 r2 := lF_tr hF0 (lF_tr (lF_of (pF_tr hF1 (pF_tr t2 j3))) hF2)
      obtain ⟨c3, r3, m1, m2, hF3, hk3⟩ := rd_expr c2 r2 N (a1 + 1) (sz + l.length + 1) (ld + l.length) hG2 (by omega) (by omega)
      rw [m1, Option.bind_some, m2, Option.bind_some]
      have z98 : r3.1 98 = r.1 98 := (hF3.2.1 98 (by decide) (by decide) (by decide)).trans x98
      have z99 : r3.1 99 = r2.1 99 := hF3.2.1 99 (by decide) (by decide) (by decide)
      have z100 : r3.1 100 = r.1 100 := (hF3.2.1 100 (by decide) (by decide) (by decide)).trans x100
      have hsk : ((zz_w c1 44 3 (c1.1 44 3 + 1)).1 45 0).toInt = (sz + l.length : Nat) := by rw [k45]; exact hsz1
      rcases hk3 with ⟨a3, l3, i1, i2, i3, ⟨i4, i5⟩, i6, i7⟩ | ⟨a3, ld3, i1, -⟩
      · have hle3 := i2.2.1
        have hsz3 := i2.2.2.2.2.1
        obtain ⟨c4, n1, n2, n3, n4, n5⟩ := code_good i2 (by omega) (-59)
        rw [n1, Option.bind_some]
        have hsz4 := n2.2.2.2.2.1
        -- the skip leads behind it
        have l10k : (10000 : Int32).toInt = 10000 := rfl
        have eskip : f_Text_skipToEnd ((zz_w c1 44 3 (c1.1 44 3 + 1)).1 45 0) c4 = some (zz_w c4 46 (sz + l.length) (10000 + c4.1 45 0)) := by
          unfold f_Text_skipToEnd
          rw [if_neg (by rw [i_lt, hsk, show (0 : Int32).toInt = 0 from rfl]; omega), if_neg (by rw [i_le, hsk]; omega), if_pos (i_in.mpr (by omega)), nz_eq hsk]
        rw [eskip, Option.bind_some]
        have hcode : (10000 + c4.1 45 0).toInt = 10000 + (sz + l.length + 1 + l3.length + 1 : Nat) := by
          rw [i_add (by rw [l10k]; omega) (by rw [l10k]; omega), l10k, hsz4]
        have hF5 : pF c4 r3 (zz_w c4 46 (sz + l.length) (10000 + c4.1 45 0)) r3 := ⟨⟨fun o a b d => by simp [w_row, d], rfl, fun k a b => by simp [w_get]⟩, fun o a b d => rfl, rfl, fun k a => rfl, fun k a => ⟨rfl, rfl⟩⟩
        have hG5 : pG (zz_w c4 46 (sz + l.length) (10000 + c4.1 45 0)) r3 N a3 (sz + l.length + 1 + l3.length + 1) (ld + l.length + l3.length) 0 := by
          obtain ⟨t, h2, ⟨h3, h4⟩, ⟨h5, h6⟩, h7, h8, h9⟩ := n2
          exact ⟨pT_fr t hF5, h2, ⟨by simp [w_get, h3], h4⟩, ⟨by simp [w_get, h5], h6⟩, by simp [w_get, h7], h8, h9⟩
        have c5 : ∀ k, ¬ k = sz + l.length → (zz_w c4 46 (sz + l.length) (10000 + c4.1 45 0)).1 46 k = c4.1 46 k := fun k hk => by simp [w_get, hk]
        have c5' : (zz_w c4 46 (sz + l.length) (10000 + c4.1 45 0)).1 46 (sz + l.length) = 10000 + c4.1 45 0 := by simp [w_get]
        generalize zz_w c4 46 (sz + l.length) (10000 + c4.1 45 0) = c6 at *
        obtain ⟨r4, o1, o2, o3, o4, o5, o6, o7, o8, o9⟩ := lineEnd_good (kk := 305 + r.1 98 5) hG5 hkk (by omega) (by omega) (by rw [z98]; exact h98)
        refine ⟨c6, r4, rfl, o1, lF_tr hF02 (lF_tr (lF_of (pF_tr hF3 (pF_tr n3 hF5))) o3), Or.inl ⟨a3, sz + l.length + 1 + l3.length + 1, ld + l.length + l3.length, (l, l3), ⟨o2, ?_, ?_, ?_, ?_, ?_⟩, by omega, by omega, by omega, by omega⟩⟩
        · rw [o4, List.length_append, hm]; rfl
        · rw [xlen_snoc, hx]; show _ + (l.length + l3.length) = _; omega
        · intro q hq2
          rcases List.mem_append.mp hq2 with hq2 | hq2
          · exact hq q hq2
          · rw [List.mem_singleton.mp hq2]; exact ⟨Or.inr q1, i1⟩
        · -- the class's codes
          have old : ∀ k, k < sz + l.length → c6.1 46 k = c1.1 46 k := fun k hk => by
            rw [c5 k (by omega), n5 k (by omega), i5 k (by omega), j5 k (by omega), k46]
          have hl0 : l ≠ [] := fun q => by rw [q] at hlp; exact absurd hlp (by decide)
          have sk : skl l = l.length + 1 := by unfold skl; rw [if_neg hl0]
          refine clx_snoc _ _ _ L 0 sz (clx_same L 0 sz hc fun k hk => (old k (by omega)).trans (q5 k hk)).2 ⟨segC_same l sz old q4, fun _ => ?_, ?_, ?_, ?_⟩
          · show (c6.1 46 (sz + l.length)).toInt = 10000 + (sz + skl l + l3.length + 1 : Nat)
            rw [c5', hcode, sk]
            omega
          · show segC (c6.1 46) (sz + skl l) l3
            rw [sk, ← Nat.add_assoc]
            -- behind the skip
            have mv : ∀ (l3 : List (Int32 × Int32)) (i : Nat), (∀ k, i ≤ k → k < i + l3.length → c6.1 46 k = c3.1 46 k) → segC (c3.1 46) i l3 → segC (c6.1 46) i l3 := by
              intro l3
              induction l3 with
              | nil => intro i _ _; trivial
              | cons o l3 ih =>
                intro i hi hs
                have hl : (o :: l3).length = l3.length + 1 := rfl
                exact ⟨(hi i (Nat.le_refl _) (by omega)).trans hs.1, ih (i + 1) (fun k h1 h2 => hi k (by omega) (by omega)) hs.2⟩
            exact mv l3 _ (fun k h1 h2 => by rw [c5 k (by omega), n5 k (by omega)]) i4
          · show c6.1 46 (sz + skl l + l3.length) = -59
            rw [sk, ← Nat.add_assoc, c5 _ (by omega)]
            exact n4
          · show sz + skl l + l3.length + 1 = _
            rw [sk]
            omega
        · -- the reference's lines
          have old96 : ∀ k, k < 650 + (ld + l.length) → r4.1 96 k = r1.1 96 k ∧ r4.1 97 k = r1.1 97 k := fun k hk => by
            rw [o5, o6, (i7 k hk).1, (i7 k hk).2, x96, x97]
            exact ⟨rfl, rfl⟩
          refine rfx_snoc _ _ _ _ _ _ _ L 0 0 (rfx_same L 0 0 hr (fun k hk => ?_) (fun k hk => ?_)) ⟨?_, ?_, ?_, ?_, trivial⟩
          · rw [(old96 k (by omega)).1, (old96 k (by omega)).2, (q7 k (by omega)).1, (q7 k (by omega)).2, e96, e97]
            exact ⟨rfl, rfl⟩
          · rw [o7, o9 k (by omega), z99, z100, x99 k (by omega)]
            exact ⟨rfl, rfl⟩
          · show segR (r4.1 96) (r4.1 97) (650 + (0 + xlen L)) l
            rw [Nat.zero_add, hx]
            exact segR_same l _ (fun k hk => old96 k (by omega)) q6
          · show (r4.1 99 (305 + (0 + L.length))).toInt = (0 + xlen L + l.length : Nat)
            rw [Nat.zero_add, Nat.zero_add, hx, hm, o7, z99]
            exact x99'
          · show segR (r4.1 96) (r4.1 97) (650 + (0 + xlen L + l.length)) l3
            rw [Nat.zero_add, hx, o5, o6]
            exact i6
          · show (r4.1 100 (305 + (0 + L.length))).toInt = (0 + xlen L + l.length + l3.length : Nat)
            rw [Nat.zero_add, Nat.zero_add, hx, hm]
            exact o8
      · obtain ⟨c4, n1, n2, n3⟩ := code_bad i1 (-59)
        rw [n1, Option.bind_some]
        have hsk2 : ∃ c5, f_Text_skipToEnd ((zz_w c1 44 3 (c1.1 44 3 + 1)).1 45 0) c4 = some c5 ∧ pB c5 r3 N a3 ld3 ∧ pF c4 r3 c5 r3 := by
          unfold f_Text_skipToEnd
          rw [if_neg (by rw [i_lt, hsk, show (0 : Int32).toInt = 0 from rfl]; omega)]
          by_cases y : c4.1 45 0 ≤ (zz_w c1 44 3 (c1.1 44 3 + 1)).1 45 0
          · rw [if_pos y]; exact ⟨c4, rfl, n2, pF_me _ _⟩
          · rw [if_neg y, if_pos (i_in.mpr (by omega)), nz_eq hsk]
            have hF5 : pF c4 r3 (zz_w c4 46 (sz + l.length) (10000 + c4.1 45 0)) r3 := ⟨⟨fun o a b d => by simp [w_row, d], rfl, fun k a b => by simp [w_get]⟩, fun o a b d => rfl, rfl, fun k a => rfl, fun k a => ⟨rfl, rfl⟩⟩
            refine ⟨_, rfl, ?_, hF5⟩
            obtain ⟨t, h2, h3, h4, h5, h6, h7⟩ := n2
            exact ⟨pT_fr t hF5, h2, h3, h4, by simp [w_get]; exact h5, h6, by simp only [w_get, show ((44 : Nat) = 46) = False by decide, show ((48 : Nat) = 46) = False by decide, if_false]; exact h7⟩
        obtain ⟨c5, s1, s2, s3⟩ := hsk2
        rw [s1, Option.bind_some]
        obtain ⟨r4, o1, o2, o3⟩ := lineEnd_bad (kk := 305 + r.1 98 5) s2 hkk (by omega) (by omega)
        exact ⟨c5, r4, rfl, o1, lF_tr hF02 (lF_tr (lF_of (pF_tr hF3 (pF_tr n3 s3))) o3), Or.inr ⟨a3, ld3, o2⟩⟩
    · -- no test
      rw [takes_no p1 c63, Option.bind_some, if_pos rfl, if_neg (fun q => c63 (p3.1.2.2.2.2.2.mpr q))]
      obtain ⟨c2, j1, j2, j3, j4, j5⟩ := code_good q2 (by omega) (-59)
      rw [j1, Option.bind_some]
      obtain ⟨r4, o1, o2, o3, o4, o5, o6, o7, o8, o9⟩ := lineEnd_good (kk := 305 + r.1 98 5) j2 hkk (by omega) (by omega) (by rw [y98]; exact h98)
      refine ⟨c2, r4, rfl, o1, lF_tr hF0 (lF_tr (lF_of (pF_tr hF1 j3)) o3), Or.inl ⟨a1, sz + l.length + 1, ld + l.length, ([], l), ⟨o2, ?_, ?_, ?_, ?_, ?_⟩, by omega, by omega, by omega, by omega⟩⟩
      · rw [o4, List.length_append, hm]; rfl
      · rw [xlen_snoc, hx]; show _ + (0 + l.length) = _; omega
      · intro q hq2
        rcases List.mem_append.mp hq2 with hq2 | hq2
        · exact hq q hq2
        · rw [List.mem_singleton.mp hq2]; exact ⟨Or.inl rfl, q1⟩
      · refine clx_snoc _ _ _ L 0 sz (clx_same L 0 sz hc fun k hk => (j5 k (by omega)).trans (q5 k hk)).2 ⟨trivial, fun q => absurd rfl q, ?_, ?_, rfl⟩
        · exact segC_same l _ j5 q4
        · exact j4
      · refine rfx_snoc _ _ _ _ _ _ _ L 0 0 (rfx_same L 0 0 hr (fun k hk => ?_) (fun k hk => ?_)) ⟨trivial, ?_, ?_, ?_, trivial⟩
        · rw [o5, o6, (q7 k (by omega)).1, (q7 k (by omega)).2, e96, e97]
          exact ⟨rfl, rfl⟩
        · rw [o7, o9 k (by omega), y99, y100, e99 k (by omega)]
          exact ⟨rfl, rfl⟩
        · show (r4.1 99 (305 + (0 + L.length))).toInt = (0 + xlen L + 0 : Nat)
          rw [Nat.zero_add, Nat.zero_add, hx, hm, o7, y99]
          exact e99'
        · show segR (r4.1 96) (r4.1 97) (650 + (0 + xlen L + 0)) l
          rw [Nat.zero_add, hx, o5, o6]
          exact q6
        · show (r4.1 100 (305 + (0 + L.length))).toInt = (0 + xlen L + 0 + l.length : Nat)
          rw [Nat.zero_add, Nat.zero_add, hx, hm]
          exact o8
  · obtain ⟨⟨v', u, d1, d2, d3⟩, w, d4⟩ := pk_bad q1
    have h63 : ¬ v' = 63 := fun q => by
      rcases d3 with d3 | d3
      · rw [q] at d3; exact absurd d3 (by decide)
      · rw [q, show (63 : Int32).toInt = 63 from rfl] at d3; omega
    rw [takes_no d1 h63, Option.bind_some, if_pos rfl, if_pos (isfault q1)]
    obtain ⟨c2, j1, j2, j3⟩ := code_bad q1 (-59)
    obtain ⟨r4, o1, o2, o3⟩ := lineEnd_bad (kk := 305 + r.1 98 5) j2 hkk (by omega) (by omega)
    exact ⟨c2, r4, by rw [j1]; rfl, o1, lF_tr hF0 (lF_tr (lF_of (pF_tr hF1 j3)) o3), Or.inr ⟨a1, ld1, o2⟩⟩
