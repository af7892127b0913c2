/-! the lines of a text -/
def lF (c r c2 r2 : zz_S) : Prop := ((∀ o, o ≠ 44 → o ≠ 45 → o ≠ 46 → c2.1 o = c.1 o) ∧ c2.2 = c.2 ∧ ∀ k, k ≠ 3 → k ≠ 4 → c2.1 44 k = c.1 44 k) ∧
  ((∀ o, o ≠ 79 → o ≠ 96 → o ≠ 97 → o ≠ 98 → o ≠ 99 → o ≠ 100 → r2.1 o = r.1 o) ∧ r2.2 = r.2 ∧ (∀ k, k < 24 ∨ 27 < k → r2.1 79 k = r.1 79 k) ∧ (∀ k, k < 650 → r2.1 96 k = r.1 96 k ∧ r2.1 97 k = r.1 97 k) ∧ (∀ k, k ≠ 5 → r2.1 98 k = r.1 98 k) ∧ ∀ k, k < 305 → r2.1 99 k = r.1 99 k ∧ r2.1 100 k = r.1 100 k)
theorem lF_me (c r : zz_S) : lF c r c r := ⟨⟨fun _ _ _ _ => rfl, rfl, fun _ _ _ => rfl⟩, fun _ _ _ _ _ _ _ => rfl, rfl, fun _ _ => rfl, fun _ _ => ⟨rfl, rfl⟩, fun _ _ => rfl, fun _ _ => ⟨rfl, rfl⟩⟩
theorem lF_tr {c r c2 r2 c3 r3 : zz_S} (h : lF c r c2 r2) (k : lF c2 r2 c3 r3) : lF c r c3 r3 := by
  obtain ⟨⟨h1, h2, h3⟩, h4, h5, h6, h7, h8, h9⟩ := h
  obtain ⟨⟨k1, k2, k3⟩, k4, k5, k6, k7, k8, k9⟩ := k
  exact ⟨⟨fun o a b d => (k1 o a b d).trans (h1 o a b d), k2.trans h2, fun k a b => (k3 k a b).trans (h3 k a b)⟩, fun o a b d e f g => (k4 o a b d e f g).trans (h4 o a b d e f g), k5.trans h5, fun k a => (k6 k a).trans (h6 k a), fun k a => ⟨(k7 k a).1.trans (h7 k a).1, (k7 k a).2.trans (h7 k a).2⟩, fun k a => (k8 k a).trans (h8 k a), fun k a => ⟨(k9 k a).1.trans (h9 k a).1, (k9 k a).2.trans (h9 k a).2⟩⟩
theorem lF_of {c r c2 r2 : zz_S} (h : pF c r c2 r2) : lF c r c2 r2 := by
  obtain ⟨h1, h4, h5, h6, h7⟩ := h
  exact ⟨h1, fun o a b d e f g => h4 o a b d, h5, h6, h7, fun k _ => by rw [h4 98 (by decide) (by decide) (by decide)], fun k _ => ⟨by rw [h4 99 (by decide) (by decide) (by decide)], by rw [h4 100 (by decide) (by decide) (by decide)]⟩⟩
theorem pT_lF {c r c2 r2 : zz_S} {N : Nat} (h : pT c r N) (k : lF c r c2 r2) : pT c2 r2 N := by
  obtain ⟨h1, h2, h3, h4⟩ := h
  obtain ⟨⟨k1, k2, k3⟩, k4, k5, k6, k7⟩ := k
  exact ⟨by rw [k3 0 (by decide) (by decide)]; exact h1, h2, by rw [k6 23 (by omega)]; exact h3, fun k hk => by rw [k1 48 (by decide) (by decide) (by decide), k4 95 (by decide) (by decide) (by decide) (by decide) (by decide) (by decide)]; exact h4 k hk⟩
theorem short_all : ∀ i : Fin 200, vp_nar .short (Int32.ofNat i.val).toInt16.toInt32 = Int32.ofNat i.val ∧ vp_nar .short (Int32.ofNat i.val) = Int32.ofNat i.val := by decide +kernel
theorem short_of {x : Int32} {n : Nat} (h : x.toInt = n) (hn : n < 200) : vp_nar .short x.toInt16.toInt32 = x ∧ vp_nar .short x = x := by
  have e : Int32.ofNat n = x := i_lit (by rw [Int32.toInt_ofNat_of_lt (by omega)]; omega)
  have h := short_all ⟨n, hn⟩
  rw [show Int32.ofNat (⟨n, hn⟩ : Fin 200).val = x from e] at h
  exact h
theorem clx_snoc (f : Nat → Int32) (q : List (Int32 × Int32) × List (Int32 × Int32)) (e2 : Nat) : ∀ (L : List (List (Int32 × Int32) × List (Int32 × Int32))) (i e : Nat), clx f i L e → clx f e [q] e2 → clx f i (L ++ [q]) e2
  | [], i, e, h, k => by rw [show i = e from h]; exact k
  | p :: L, i, e, ⟨h1, h2, h3, h4, h5⟩, k => ⟨h1, h2, h3, h4, clx_snoc f q e2 L _ e h5 k⟩
theorem rfx_snoc (a w te le : Nat → Int32) (b lb : Nat) (q : List (Int32 × Int32) × List (Int32 × Int32)) : ∀ (L : List (List (Int32 × Int32) × List (Int32 × Int32))) (k f : Nat), rfx a w te le b lb k f L → rfx a w te le b lb (k + L.length) (f + xlen L) [q] → rfx a w te le b lb k f (L ++ [q])
  | [], k, f, h, j => j
  | p :: L, k, f, ⟨h1, h2, h3, h4, h5⟩, j => by
    refine ⟨h1, h2, h3, h4, rfx_snoc a w te le b lb q L (k + 1) _ h5 ?_⟩
    have e1 : k + 1 + L.length = k + (p :: L).length := by show _ = k + (L.length + 1); omega
    have e2 : f + p.1.length + p.2.length + xlen L = f + xlen (p :: L) := by rw [xlen_cons]; omega
    rw [e1, e2]
    exact j
theorem xlen_snoc (q : List (Int32 × Int32) × List (Int32 × Int32)) : ∀ (L : List (List (Int32 × Int32) × List (Int32 × Int32))), xlen (L ++ [q]) = xlen L + (q.1.length + q.2.length)
  | [] => by show q.1.length + q.2.length + 0 = 0 + _; omega
  | p :: L => by
    show xlen (p :: (L ++ [q])) = _
    rw [xlen_cons, xlen_cons, xlen_snoc q L]
    omega
theorem clx_same {f g : Nat → Int32} : ∀ (L : List (List (Int32 × Int32) × List (Int32 × Int32))) (i e : Nat), clx f i L e → (∀ k, k < e → g k = f k) → i ≤ e ∧ clx g i L e
  | [], i, e, h, _ => ⟨Nat.le_of_eq h, h⟩
  | q :: L, i, e, ⟨h1, h2, h3, h4, h5⟩, hk => by
    obtain ⟨hle, ih⟩ := clx_same L _ e h5 hk
    refine ⟨by omega, segC_same _ _ (fun k hk2 => hk k ?_) h1, fun c => ?_, segC_same _ _ (fun k hk2 => hk k (by omega)) h3, by rw [hk _ (by omega)]; exact h4, ih⟩
    · by_cases c : q.1 = []
      · have : q.1.length = 0 := by rw [c]; rfl
        omega
      · have : skl q.1 = q.1.length + 1 := by unfold skl; rw [if_neg c]
        omega
    · have : skl q.1 = q.1.length + 1 := by unfold skl; rw [if_neg c]
      rw [hk _ (by omega)]
      exact h2 c
theorem rfx_same {a w te le a2 w2 te2 le2 : Nat → Int32} {b lb : Nat} : ∀ (L : List (List (Int32 × Int32) × List (Int32 × Int32))) (k f : Nat), rfx a w te le b lb k f L → (∀ j, j < b + (f + xlen L) → a2 j = a j ∧ w2 j = w j) → (∀ j, j < lb + (k + L.length) → te2 j = te j ∧ le2 j = le j) → rfx a2 w2 te2 le2 b lb k f L
  | [], _, _, _, _, _ => trivial
  | q :: L, k, f, ⟨h1, h2, h3, h4, h5⟩, i, j => by
    have hl : (q :: L).length = L.length + 1 := rfl
    rw [xlen_cons] at i
    refine ⟨segR_same _ _ (fun k hk => i k (by omega)) h1, by rw [(j _ (by omega)).1]; exact h2, segR_same _ _ (fun k hk => i k (by omega)) h3, by rw [(j _ (by omega)).2]; exact h4, rfx_same L (k + 1) _ h5 (fun k hk => i k (by omega)) (fun k hk => j k (by omega))⟩
/-- so many lines are read -/
def LG (c r : zz_S) (N a sz ld : Nat) (L : List (List (Int32 × Int32) × List (Int32 × Int32))) : Prop :=
  pG c r N a sz ld 0 ∧ (r.1 98 5).toInt = (L.length : Nat) ∧ xlen L = ld ∧ (∀ q ∈ L, (q.1 = [] ∨ isX q.1) ∧ isX q.2) ∧ clx (c.1 46) 0 L sz ∧ rfx (r.1 96) (r.1 97) (r.1 99) (r.1 100) 650 305 0 0 L
theorem lineEnd_bad {c r : zz_S} {N a ld k : Nat} {kk : Int32} (h : pB c r N a ld) (hk : kk.toInt = k) (hk2 : 305 ≤ k) (hk3 : k < 366) : ∃ r2, f_M_line_J67 kk r = some r2 ∧ pB c r2 N a ld ∧ lF c r c r2 := by
  have hF : lF c r c (zz_w (zz_w r 100 k (vp_nar .short (r.1 79 27).toInt16.toInt32)) 98 5 ((r.1 98 5) + 1)) := ⟨⟨fun _ _ _ _ => rfl, rfl, fun _ _ _ => rfl⟩, fun o a b d e f g => by simp [w_row, e, g], rfl, fun k a => by simp [w_get], fun k a => by simp [w_get], fun k a => by simp [w_get, a], fun j a => by
    have : ¬ j = k := by omega
    simp [w_get, this]⟩
  obtain ⟨t, h2, h3, h4, h5, h6, h7⟩ := h
  refine ⟨_, by unfold f_M_line_J67; rw [if_pos (i_in.mpr (by omega)), nz_eq hk], ⟨pT_lF t hF, h2, ?_, ?_, h5, ?_, ?_⟩, hF⟩
  · simp [w_get, h3]
  · simp [w_get, h4]
  · simp [w_get, h6]
  · simp only [w_get, show ((79 : Nat) = 98) = False by decide, show ((79 : Nat) = 100) = False by decide, if_false]
    exact h7
theorem lineEnd_good {c r : zz_S} {N a sz ld m : Nat} {kk : Int32} (h : pG c r N a sz ld 0) (hk : kk.toInt = (305 + m : Nat)) (hm : m < 61) (hl : ld < 200) (h98 : (r.1 98 5).toInt = m) : ∃ r2, f_M_line_J67 kk r = some r2 ∧ pG c r2 N a sz ld 0 ∧ lF c r c r2 ∧ (r2.1 98 5).toInt = (m + 1 : Nat) ∧ r2.1 96 = r.1 96 ∧ r2.1 97 = r.1 97 ∧ r2.1 99 = r.1 99 ∧ (r2.1 100 (305 + m)).toInt = ld ∧ ∀ j, j < 305 + m → r2.1 100 j = r.1 100 j := by
  have hF : lF c r c (zz_w (zz_w r 100 (305 + m) (vp_nar .short (r.1 79 27).toInt16.toInt32)) 98 5 ((r.1 98 5) + 1)) := ⟨⟨fun _ _ _ _ => rfl, rfl, fun _ _ _ => rfl⟩, fun o a b d e f g => by simp [w_row, e, g], rfl, fun k a => by simp [w_get], fun k a => by simp [w_get], fun k a => by simp [w_get, a], fun j a => by
    have : ¬ j = 305 + m := by omega
    simp [w_get, this]⟩
  obtain ⟨t, h2, ⟨h3, h4⟩, ⟨h5, h6⟩, h7, h8, h9⟩ := h
  have i1 := i_inc (a := r.1 98 5) (by omega)
  refine ⟨_, by unfold f_M_line_J67; rw [if_pos (i_in.mpr (by omega)), nz_eq hk], ⟨pT_lF t hF, h2, ⟨h3, ?_⟩, ⟨h5, ?_⟩, h7, ?_, ?_⟩, hF, ?_, ?_, ?_, ?_, ?_, fun j hj => ?_⟩
  · simp [w_get, h4]
  · simp [w_get, h6]
  · simp [w_get, h8]
  · simp [w_get, h9]
  · simp [w_get, i1, h98]
  · simp [w_row]
  · simp [w_row]
  · simp [w_row]
  · simp [w_get, (short_of h8 hl).1, h8]
  · have : ¬ j = 305 + m := by omega
    simp [w_get, this]
/-- a code alone (the reference has no step for it) -/
theorem code_good {c r : zz_S} {N a sz ld op : Nat} (h : pG c r N a sz ld op) (hs : sz ≤ 120) (v : Int32) : ∃ c2, f_Text_add v c = some c2 ∧ pG c2 r N a (sz + 1) ld op ∧ pF c r c2 r ∧ c2.1 46 sz = v ∧ ∀ k, k < sz → c2.1 46 k = c.1 46 k := by
  obtain ⟨h1, h2, ⟨h3, h4⟩, ⟨h5, h6⟩, h7, h8, h9⟩ := h
  have hN := h1.2.1
  have i1 := i_inc (a := c.1 45 0) (by omega)
  have hF : pF c r (zz_w (zz_w c 46 sz v) 45 0 (c.1 45 0 + 1)) r := ⟨⟨fun o a b d => by simp [w_row, b, d], rfl, fun k a b => by simp [w_get]⟩, fun o a b d => rfl, rfl, fun k a => rfl, fun k a => ⟨rfl, rfl⟩⟩
  refine ⟨_, ta_good h7 hs v, ⟨pT_fr h1 hF, h2, ⟨?_, h4⟩, ⟨?_, h6⟩, ?_, h8, h9⟩, hF, ?_, fun k hk => ?_⟩
  · simp [w_get, h3]
  · simp [w_get, h5]
  · simp [w_get, i1, h7]
  · simp [w_get]
  · have : ¬ k = sz := by omega
    simp [w_get, this]
theorem code_bad {c r : zz_S} {N a ld : Nat} (h : pB c r N a ld) (v : Int32) : ∃ c2, f_Text_add v c = some c2 ∧ pB c2 r N a ld ∧ pF c r c2 r := by
  obtain ⟨t, h2, h3, h4, ⟨h5, h5'⟩, h6, h7⟩ := h
  obtain ⟨c2, g1, g2, g3, g4⟩ := ta_any h5 h5' v
  have hF : pF c r c2 r := ⟨⟨fun o a b d => g3 o b d, g4, fun k a b => by rw [g3 44 (by decide) (by decide)]⟩, fun o a b d => rfl, rfl, fun k a => rfl, fun k a => ⟨rfl, rfl⟩⟩
  exact ⟨c2, g1, ⟨pT_fr t hF, h2, h3, h4, g2, h6, by rw [g3 44 (by decide) (by decide), g3 48 (by decide) (by decide)]; exact h7⟩, hF⟩
