/-! what was read becomes a text of a place -/
theorem segR_shift {f g f2 g2 : Nat → Int32} {b b2 : Nat} : ∀ (l : List (Int32 × Int32)) (i : Nat), (∀ k, k < i + l.length → f2 (b2 + k) = f (b + k) ∧ g2 (b2 + k) = g (b + k)) → segR f g (b + i) l → segR f2 g2 (b2 + i) l
  | [], _, _, _ => trivial
  | o :: l, i, h, hs => by
    have hl : (o :: l).length = l.length + 1 := rfl
    exact ⟨⟨(h i (by omega)).1.trans hs.1.1, (h i (by omega)).2.trans hs.1.2⟩, segR_shift l (i + 1) (fun k hk => h k (by omega)) hs.2⟩
theorem rfx_shift {a w te le a2 w2 te2 le2 : Nat → Int32} {b lb b2 lb2 : Nat} : ∀ (L : List (List (Int32 × Int32) × List (Int32 × Int32))) (k f : Nat), rfx a w te le b lb k f L → (∀ j, j < f + xlen L → a2 (b2 + j) = a (b + j) ∧ w2 (b2 + j) = w (b + j)) → (∀ j, j < k + L.length → te2 (lb2 + j) = te (lb + j) ∧ le2 (lb2 + j) = le (lb + j)) → rfx a2 w2 te2 le2 b2 lb2 k f L
  | [], _, _, _, _, _ => trivial
  | q :: L, k, f, ⟨h1, h2, h3, h4, h5⟩, i, j => by
    have hl : (q :: L).length = L.length + 1 := rfl
    rw [xlen_cons] at i
    refine ⟨segR_shift _ _ (fun k hk => i k (by omega)) h1, by rw [(j _ (by omega)).1]; exact h2, segR_shift _ _ (fun k hk => i k (by omega)) h3, by rw [(j _ (by omega)).2]; exact h4, rfx_shift L (k + 1) _ h5 (fun k hk => i k (by omega)) (fun k hk => j k (by omega))⟩
theorem byte_op2 {o : Int32 × Int32} (h : opOK o) : vp_nar .byte o.1 = o.1 := by
  rcases h with ⟨q, -⟩ | ⟨q, -⟩ | q | q | q
  · rw [q]; decide +kernel
  · rw [q]; decide +kernel
  · rw [q]; decide +kernel
  · rw [q]; decide +kernel
  · rcases q with q | q | q | q | q | q | q | q | q | q <;> rw [q] <;> decide +kernel
theorem segR_byte {f g : Nat → Int32} : ∀ (l : List (Int32 × Int32)) (i : Nat), (∀ o ∈ l, opOK o) → segR f g i l → ∀ k, i ≤ k → k < i + l.length → vp_nar .byte (f k) = f k
  | [], i, _, _, k, h1, h2 => by
    have hl : ([] : List (Int32 × Int32)).length = 0 := rfl
    omega
  | o :: l, i, ho, hs, k, h1, h2 => by
    have hl : (o :: l).length = l.length + 1 := rfl
    by_cases c : k = i
    · rw [c, hs.1.1]; exact byte_op2 (ho o List.mem_cons_self)
    · exact segR_byte l (i + 1) (fun o h => ho o (List.mem_cons_of_mem _ h)) hs.2 k (by omega) (by omega)
theorem rfx_byte {a w te le : Nat → Int32} {b lb : Nat} : ∀ (L : List (List (Int32 × Int32) × List (Int32 × Int32))) (k f : Nat), (∀ q ∈ L, (q.1 = [] ∨ isX q.1) ∧ isX q.2) → rfx a w te le b lb k f L → ∀ j, b + f ≤ j → j < b + (f + xlen L) → vp_nar .byte (a j) = a j
  | [], k, f, _, _, j, h1, h2 => by
    have hl : xlen [] = 0 := rfl
    omega
  | q :: L, k, f, hq, ⟨h1, h2, h3, h4, h5⟩, j, j1, j2 => by
    rw [xlen_cons] at j2
    obtain ⟨q1, q2⟩ := hq q List.mem_cons_self
    by_cases c : j < b + (f + q.1.length)
    · refine segR_byte q.1 _ ?_ h1 j j1 (by omega)
      rcases q1 with q1 | q1
      · rw [q1]; intro o ho; cases ho
      · exact q1.1
    · by_cases c2 : j < b + (f + q.1.length) + q.2.length
      · exact segR_byte q.2 _ q2.1 h3 j (by omega) c2
      · exact rfx_byte L (k + 1) _ (fun q h => hq q (List.mem_cons_of_mem _ h)) h5 j (by omega) (by omega)
theorem rfx_short {a w te le : Nat → Int32} {b lb : Nat} : ∀ (L : List (List (Int32 × Int32) × List (Int32 × Int32))) (k f : Nat), rfx a w te le b lb k f L → f + xlen L < 200 → ∀ j, lb + k ≤ j → j < lb + (k + L.length) → vp_nar .short (te j) = te j ∧ vp_nar .short (le j) = le j
  | [], k, f, _, _, j, h1, h2 => by
    have hl : ([] : List (List (Int32 × Int32) × List (Int32 × Int32))).length = 0 := rfl
    omega
  | q :: L, k, f, ⟨h1, h2, h3, h4, h5⟩, hb, j, j1, j2 => by
    have hl : (q :: L).length = L.length + 1 := rfl
    rw [xlen_cons] at hb
    by_cases c : j = lb + k
    · rw [c]; exact ⟨(short_of h2 (by omega)).2, (short_of h4 (by omega)).2⟩
    · exact rfx_short L (k + 1) _ h5 (by omega) j (by omega) (by omega)
theorem cp1 (p : Int32) (hp0 : 0 ≤ p.toInt) (hp4 : p.toInt ≤ 4) (ld : Nat) (hld : ld ≤ 121) (s0 : zz_S) (h27 : (s0.1 79 27).toInt = ld) (hb : ∀ k, k < ld → vp_nar .byte (s0.1 96 (650 + k)) = s0.1 96 (650 + k)) :
    ∀ (m j n : Nat) (v2 : Int32) (s : zz_S), j + m = ld → v2.toInt = j → m < n → (∀ k, k < j → s.1 96 (130 * p.toInt.toNat + k) = s0.1 96 (650 + k) ∧ s.1 97 (130 * p.toInt.toNat + k) = s0.1 97 (650 + k)) → (∀ k, k < 130 * p.toInt.toNat ∨ 130 * p.toInt.toNat + 130 ≤ k → s.1 96 k = s0.1 96 k ∧ s.1 97 k = s0.1 97 k) → (∀ o, o ≠ 96 → o ≠ 97 → s.1 o = s0.1 o) → s.2 = s0.2 →
    ∃ s2 : zz_S, f_M_readText_L105 n p v2 s = f_M_readText_L177 zF p 0 (zz_w s2 98 p.toInt.toNat (s2.1 98 5)) ∧ (∀ k, k < ld → s2.1 96 (130 * p.toInt.toNat + k) = s0.1 96 (650 + k) ∧ s2.1 97 (130 * p.toInt.toNat + k) = s0.1 97 (650 + k)) ∧ (∀ k, k < 130 * p.toInt.toNat ∨ 130 * p.toInt.toNat + 130 ≤ k → s2.1 96 k = s0.1 96 k ∧ s2.1 97 k = s0.1 97 k) ∧ (∀ o, o ≠ 96 → o ≠ 97 → s2.1 o = s0.1 o) ∧ s2.2 = s0.2 := by
  have l130 : (130 : Int32).toInt = 130 := rfl
  have l650 : (650 : Int32).toInt = 650 := rfl
  have m130 := i_mul (a := 130) (b := p) (by rw [l130]; omega) (by rw [l130]; omega)
  rw [l130] at m130
  intro m
  induction m with
  | zero =>
    intro j n v2 s hj hv hn i1 i2 i3 i4
    obtain ⟨n, rfl⟩ : ∃ k, n = k + 1 := ⟨n - 1, by omega⟩
    have hj : j = ld := by omega
    subst hj
    refine ⟨s, ?_, i1, i2, i3, i4⟩
    rw [f_M_readText_L105, if_pos (by rw [i_le, i3 79 (by decide) (by decide)]; omega), if_pos (i_in.mpr (by omega))]
    rfl
  | succ m ih =>
    intro j n v2 s hj hv hn i1 i2 i3 i4
    obtain ⟨n, rfl⟩ : ∃ k, n = k + 1 := ⟨n - 1, by omega⟩
    have e1 := i_add (a := 650) (b := v2) (by rw [l650]; omega) (by rw [l650]; omega)
    rw [l650] at e1
    have k1 : (650 + v2).toNatClampNeg = 650 + j := nz_eq (by omega)
    have e2 := i_add (a := 130 * p) (b := v2) (by rw [m130]; omega) (by rw [m130]; omega)
    rw [m130] at e2
    have k2 : (130 * p + v2).toNatClampNeg = 130 * p.toInt.toNat + j := nz_eq (by omega)
    have hv2 := i_inc (a := v2) (by omega)
    rw [f_M_readText_L105, if_neg (by rw [i_le, i3 79 (by decide) (by decide)]; omega), if_pos (i_in.mpr (by omega)), if_pos (i_in.mpr (by omega)), k1, k2, (i2 (650 + j) (by omega)).1, (i2 (650 + j) (by omega)).2, hb j (by omega)]
    refine ih (j + 1) n (v2 + 1) _ (by omega) (by omega) (by omega) (fun k hk => ?_) (fun k hk => ?_) (fun o a b => ?_) i4
    · by_cases c : k = j
      · subst c; simp [w_get]
      · have n1 : ¬ 130 * p.toInt.toNat + k = 130 * p.toInt.toNat + j := by omega
        have := i1 k (by omega)
        simp only [w_get, if_neg n1, show ((96 : Nat) = 97) = False by decide, show ((97 : Nat) = 96) = False by decide, if_false, if_true]
        exact this
    · have n1 : ¬ k = 130 * p.toInt.toNat + j := by omega
      have := i2 k hk
      simp only [w_get, if_neg n1, show ((96 : Nat) = 97) = False by decide, show ((97 : Nat) = 96) = False by decide, if_false, if_true]
      exact this
    · simp [w_row, a, b, i3 o a b]
theorem cp2 (p : Int32) (hp0 : 0 ≤ p.toInt) (hp4 : p.toInt ≤ 4) (nl : Nat) (hnl : nl ≤ 61) (s0 : zz_S) (h98 : (s0.1 98 p.toInt.toNat).toInt = nl) (hb : ∀ k, k < nl → vp_nar .short (s0.1 99 (305 + k)) = s0.1 99 (305 + k) ∧ vp_nar .short (s0.1 100 (305 + k)) = s0.1 100 (305 + k)) :
    ∀ (m j n : Nat) (v2 : Int32) (s : zz_S), j + m = nl → v2.toInt = j → m < n → (∀ k, k < j → s.1 99 (61 * p.toInt.toNat + k) = s0.1 99 (305 + k) ∧ s.1 100 (61 * p.toInt.toNat + k) = s0.1 100 (305 + k)) → (∀ k, k < 61 * p.toInt.toNat ∨ 61 * p.toInt.toNat + 61 ≤ k → s.1 99 k = s0.1 99 k ∧ s.1 100 k = s0.1 100 k) → (∀ o, o ≠ 99 → o ≠ 100 → s.1 o = s0.1 o) → s.2 = s0.2 →
    ∃ s2 : zz_S, f_M_readText_L177 n p v2 s = some (-1, s2) ∧ (∀ k, k < nl → s2.1 99 (61 * p.toInt.toNat + k) = s0.1 99 (305 + k) ∧ s2.1 100 (61 * p.toInt.toNat + k) = s0.1 100 (305 + k)) ∧ (∀ k, k < 61 * p.toInt.toNat ∨ 61 * p.toInt.toNat + 61 ≤ k → s2.1 99 k = s0.1 99 k ∧ s2.1 100 k = s0.1 100 k) ∧ (∀ o, o ≠ 99 → o ≠ 100 → s2.1 o = s0.1 o) ∧ s2.2 = s0.2 := by
  have l61 : (61 : Int32).toInt = 61 := rfl
  have l305 : (305 : Int32).toInt = 305 := rfl
  have m61 := i_mul (a := 61) (b := p) (by rw [l61]; omega) (by rw [l61]; omega)
  rw [l61] at m61
  have kp : p.toNatClampNeg = p.toInt.toNat := rfl
  intro m
  induction m with
  | zero =>
    intro j n v2 s hj hv hn i1 i2 i3 i4
    obtain ⟨n, rfl⟩ : ∃ k, n = k + 1 := ⟨n - 1, by omega⟩
    have hj : j = nl := by omega
    subst hj
    refine ⟨s, ?_, i1, i2, i3, i4⟩
    rw [f_M_readText_L177, if_pos (i_in.mpr (by omega)), kp, if_pos (by rw [i_le, i3 98 (by decide) (by decide)]; omega)]
  | succ m ih =>
    intro j n v2 s hj hv hn i1 i2 i3 i4
    obtain ⟨n, rfl⟩ : ∃ k, n = k + 1 := ⟨n - 1, by omega⟩
    have e1 := i_add (a := 305) (b := v2) (by rw [l305]; omega) (by rw [l305]; omega)
    rw [l305] at e1
    have k1 : (305 + v2).toNatClampNeg = 305 + j := nz_eq (by omega)
    have e2 := i_add (a := 61 * p) (b := v2) (by rw [m61]; omega) (by rw [m61]; omega)
    rw [m61] at e2
    have k2 : (61 * p + v2).toNatClampNeg = 61 * p.toInt.toNat + j := nz_eq (by omega)
    have hv2 := i_inc (a := v2) (by omega)
    rw [f_M_readText_L177, if_pos (i_in.mpr (by omega)), kp, if_neg (by rw [i_le, i3 98 (by decide) (by decide)]; omega), if_pos (i_in.mpr (by omega)), if_pos (i_in.mpr (by omega)), k1, k2, (i2 (305 + j) (by omega)).1, (i2 (305 + j) (by omega)).2, (hb j (by omega)).1, (hb j (by omega)).2]
    refine ih (j + 1) n (v2 + 1) _ (by omega) (by omega) (by omega) (fun k hk => ?_) (fun k hk => ?_) (fun o a b => ?_) i4
    · by_cases c : k = j
      · subst c; simp [w_get]
      · have n1 : ¬ 61 * p.toInt.toNat + k = 61 * p.toInt.toNat + j := by omega
        have := i1 k (by omega)
        simp only [w_get, if_neg n1, show ((99 : Nat) = 100) = False by decide, show ((100 : Nat) = 99) = False by decide, if_false, if_true]
        exact this
    · have n1 : ¬ k = 61 * p.toInt.toNat + j := by omega
      have := i2 k hk
      simp only [w_get, if_neg n1, show ((99 : Nat) = 100) = False by decide, show ((100 : Nat) = 99) = False by decide, if_false, if_true]
      exact this
    · simp [w_row, a, b, i3 o a b]
/-- a text of another place is as it was -/
theorem refOK_same {a w lm te le a2 w2 lm2 te2 le2 : Nat → Int32} {p : Nat} {L : List (List (Int32 × Int32) × List (Int32 × Int32))} (h : refOK a w lm te le p L) (h1 : ∀ k, 130 * p ≤ k → k < 130 * p + 130 → a2 k = a k ∧ w2 k = w k) (h2 : lm2 p = lm p) (h3 : ∀ k, 61 * p ≤ k → k < 61 * p + 61 → te2 k = te k ∧ le2 k = le k) : refOK a2 w2 lm2 te2 le2 p L := by
  obtain ⟨k1, k2, k3, k4, k5⟩ := h
  exact ⟨k1, by rw [h2]; exact k2, k3, k4, rfx_shift L 0 0 k5 (fun j hj => h1 _ (by omega) (by omega)) (fun j hj => h3 _ (by omega) (by omega))⟩
theorem cp_all (p : Int32) (hp0 : 0 ≤ p.toInt) (hp4 : p.toInt ≤ 4) {c r : zz_S} {N a sz ld : Nat} {L : List (List (Int32 × Int32) × List (Int32 × Int32))} (h : LG c r N a sz ld L) (hld : ld ≤ 121) (hL : L.length ≤ 61) :
    ∃ r2, f_M_readText_L105 zF p 0 (zz_w r 79 23 0) = some (-1, r2) ∧ refOK (r2.1 96) (r2.1 97) (r2.1 98) (r2.1 99) (r2.1 100) p.toInt.toNat L ∧
      (∀ o, o ≠ 79 → o ≠ 96 → o ≠ 97 → o ≠ 98 → o ≠ 99 → o ≠ 100 → r2.1 o = r.1 o) ∧ r2.2 = r.2 ∧ (r2.1 79 23 = 0 ∧ ∀ k, k ≠ 23 → r2.1 79 k = r.1 79 k) ∧
      ∀ q L2, q < 5 → q ≠ p.toInt.toNat → refOK (r.1 96) (r.1 97) (r.1 98) (r.1 99) (r.1 100) q L2 → refOK (r2.1 96) (r2.1 97) (r2.1 98) (r2.1 99) (r2.1 100) q L2 := by
  obtain ⟨hG, h98, hx, hq, hc, hr⟩ := h
  have e1 : ∀ o, o ≠ 79 → (zz_w r 79 23 0).1 o = r.1 o := fun o ho => by simp [w_row, ho]
  obtain ⟨s2, g1, g2, g3, g4, g5⟩ := cp1 p hp0 hp4 ld hld (zz_w r 79 23 0) (by simp [w_get]; exact hG.2.2.2.2.2.1) (fun k hk => by rw [e1 96 (by decide)]; exact rfx_byte L 0 0 hq hr _ (by omega) (by omega)) ld 0 zF 0 (zz_w r 79 23 0) (by omega) rfl (by unfold zF; omega) (fun k hk => by omega) (fun _ _ => ⟨rfl, rfl⟩) (fun _ _ _ => rfl) rfl
  have f99 : s2.1 99 = r.1 99 := (g4 99 (by decide) (by decide)).trans (e1 99 (by decide))
  have f100 : s2.1 100 = r.1 100 := (g4 100 (by decide) (by decide)).trans (e1 100 (by decide))
  have f98 : s2.1 98 = r.1 98 := (g4 98 (by decide) (by decide)).trans (e1 98 (by decide))
  rw [e1 96 (by decide), e1 97 (by decide)] at g2 g3
  have w98 : ∀ o, o ≠ 98 → (zz_w s2 98 p.toInt.toNat (s2.1 98 5)).1 o = s2.1 o := fun o ho => by simp [w_row, ho]
  obtain ⟨s3, k1, k2, k3, k4, k5⟩ := cp2 p hp0 hp4 L.length hL (zz_w s2 98 p.toInt.toNat (s2.1 98 5)) (by simp [w_get, f98]; exact h98) (fun k hk => by rw [w98 99 (by decide), w98 100 (by decide), f99, f100]; exact rfx_short L 0 0 hr (by omega) _ (by omega) (by omega)) L.length 0 zF 0 (zz_w s2 98 p.toInt.toNat (s2.1 98 5)) (by omega) rfl (by unfold zF; omega) (fun k hk => by omega) (fun _ _ => ⟨rfl, rfl⟩) (fun _ _ _ => rfl) rfl
  rw [w98 99 (by decide), w98 100 (by decide), f99, f100] at k2 k3
  have j96 : s3.1 96 = s2.1 96 := (k4 96 (by decide) (by decide)).trans (w98 96 (by decide))
  have j97 : s3.1 97 = s2.1 97 := (k4 97 (by decide) (by decide)).trans (w98 97 (by decide))
  have j98 : s3.1 98 = upd (r.1 98) p.toInt.toNat (r.1 98 5) := by rw [k4 98 (by decide) (by decide), w_row, if_pos rfl, f98]
  have j79 : s3.1 79 = (zz_w r 79 23 0).1 79 := ((k4 79 (by decide) (by decide)).trans (w98 79 (by decide))).trans (g4 79 (by decide) (by decide))
  refine ⟨s3, g1.trans k1, ⟨hq, ?_, hL, by omega, rfx_shift L 0 0 hr (fun j hj => ?_) (fun j hj => k2 j (by omega))⟩, fun o a b d e f g => ?_, k5.trans g5, ⟨?_, fun k hk => ?_⟩, fun q L2 hq5 hqp hR => ?_⟩
  · rw [j98, upd_at, if_pos rfl]; exact h98
  · rw [j96, j97]; exact g2 j (by omega)
  · rw [k4 o f g, w98 o e, g4 o b d, e1 o a]
  · rw [j79]; simp [w_get]
  · rw [j79]; simp [w_get, hk]
  · refine refOK_same hR (fun k h1 h2 => ?_) ?_ (fun k h1 h2 => k3 k (by omega))
    · rw [j96, j97]
      exact g3 k (by omega)
    · rw [j98, upd_at, if_neg hqp]
