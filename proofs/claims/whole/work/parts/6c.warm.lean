/-- WARM of one beside the room -/
def wOwn (c : zz_S) (C i : Nat) : Int := wSum (c.1 5 i).toInt (c.1 3 i).toInt (c.1 33 i).toInt (c.1 36) (c.1 7) (c.1 8) C
theorem wOwn_bd {c r : zz_S} {S C W i : Nat} (hs : nS c r S C W) (hi : i < S) : 0 ≤ wOwn c C i ∧ wOwn c C i ≤ 249 := by
  obtain ⟨⟨s1, s2, s3⟩, ⟨s4, s5⟩, ⟨s6, s7⟩, -, -, s8, s9⟩ := hs
  have b := s8 i hi
  have := wSum_bd (ht := (c.1 5 i).toInt) (br := (c.1 3 i).toInt) (p := (c.1 33 i).toInt) (lf := c.1 36) (wd := c.1 7) (wm := c.1 8) (by omega) (C := C) fun k hk => (s9 k hk).2.1
  unfold wOwn
  omega
theorem fw_in {c0 r0 : zz_S} {S C W B i : Nat} {i' : Int32} (hs : nS c0 r0 S C W) (hi : i < S) (hi' : i'.toInt = i) (hp : nP c0 r0 W i) (hq : ∀ k, k < C → nQ c0 r0 W B k) (hB : B ≤ 1000000000) (K : Int32 → zz_S → Option zz_S) {c : zz_S} (hc : ∀ o, o ≠ 35 → c.1 o = c0.1 o) (hc2 : c.2 = c0.2) :
    ∀ (q j n : Nat) (v2 v3 : Int32), j + q = C → v3.toInt = j → q < n → v2.toInt = wSum (c0.1 5 i).toInt (c0.1 3 i).toInt (c0.1 33 i).toInt (c0.1 36) (c0.1 7) (c0.1 8) j →
      ∃ x : Int32, x.toInt = wOwn c0 C i ∧ f_Lie_feelWarmth_L25 K n i' v2 v3 c = K (i' + 1) (zz_w c 35 i x) := by
  have hs' := hs
  obtain ⟨⟨s1, s2, s3⟩, ⟨s4, s5⟩, ⟨s6, s7⟩, -, -, s8, s9⟩ := hs
  have b := s8 i hi
  have z1 : zz_in i' 6 = true := i_in.mpr (by omega)
  have ki := nz_eq hi'
  intro q
  induction q with
  | zero =>
    intro j n v2 v3 hj hv hn h2
    obtain ⟨n, rfl⟩ : ∃ k, n = k + 1 := ⟨n - 1, by omega⟩
    have : j = C := by omega
    subst this
    refine ⟨v2, h2, ?_⟩
    rw [f_Lie_feelWarmth_L25, if_pos (by rw [i_le, hc 1 (by decide)]; omega), if_pos z1, ki]
  | succ q ih =>
    intro j n v2 v3 hj hv hn h2
    obtain ⟨n, rfl⟩ : ∃ k, n = k + 1 := ⟨n - 1, by omega⟩
    have hv1 := i_inc (a := v3) (by omega)
    have hjC : j < C := by omega
    have hun : f_Lie_underOf i' v3 c = some (nI (ovl (c0.1 33 i).toInt (c0.1 3 i).toInt (c0.1 36 j).toInt (c0.1 7 j).toInt).toNat) := by
      have := un_class hs' hi hjC hi' hv hp (hq j hjC) hB
      unfold f_Lie_underOf at this ⊢
      rw [hc2]
      exact this
    have hu : (nI (ovl (c0.1 33 i).toInt (c0.1 3 i).toInt (c0.1 36 j).toInt (c0.1 7 j).toInt).toNat).toInt = ovl (c0.1 33 i).toInt (c0.1 3 i).toInt (c0.1 36 j).toInt (c0.1 7 j).toInt := by
      have h0 : 0 ≤ ovl (c0.1 33 i).toInt (c0.1 3 i).toInt (c0.1 36 j).toInt (c0.1 7 j).toInt ∧ ovl (c0.1 33 i).toInt (c0.1 3 i).toInt (c0.1 36 j).toInt (c0.1 7 j).toInt ≤ (c0.1 3 i).toInt := by unfold ovl; omega
      rw [nI_int (by omega)]
      omega
    obtain ⟨w1, w2, w3, w4⟩ := wm_one (wm := c0.1 8 j) (br := c0.1 3 i) (s9 j hjC).2.1 hu b.1
    have bd := wSum_bd (ht := (c0.1 5 i).toInt) (br := (c0.1 3 i).toInt) (p := (c0.1 33 i).toInt) (lf := c0.1 36) (wd := c0.1 7) (wm := c0.1 8) (by omega) (C := j) fun k hk => (s9 k (by omega)).2.1
    rw [f_Lie_feelWarmth_L25, if_neg (by rw [i_le, hc 1 (by decide)]; omega), if_pos (i_in.mpr (by omega)), hun, Option.bind_some, part_c z1 ki (by rw [hc 3 (by decide)]; exact w1), Option.bind_some, nz_eq hv, hc 3 (by decide), hc 8 (by decide)]
    refine ih (j + 1) n _ (v3 + 1) (by omega) (by omega) (by omega) ?_
    rw [i_add (by omega) (by omega), h2, w2]
    rfl
theorem fw_loop {c0 r0 : zz_S} {S C W B : Nat} (hs : nS c0 r0 S C W) (hp : ∀ i, i < S → nP c0 r0 W i) (hq : ∀ k, k < C → nQ c0 r0 W B k) (hB : B ≤ 1000000000) :
    ∀ (q j n : Nat) (v1 : Int32) (c : zz_S), j + q = S → v1.toInt = j → q < n → (∀ o, o ≠ 35 → c.1 o = c0.1 o) → c.2 = c0.2 → (∀ i, i < j → (c.1 35 i).toInt = wOwn c0 C i) →
      ∃ c2 : zz_S, f_Lie_feelWarmth_L2 n v1 c = some c2 ∧ (∀ o, o ≠ 35 → c2.1 o = c0.1 o) ∧ c2.2 = c0.2 ∧ ∀ i, i < S → (c2.1 35 i).toInt = wOwn c0 C i := by
  have hs' := hs
  obtain ⟨⟨s1, s2, s3⟩, ⟨s4, s5⟩, ⟨s6, s7⟩, -, -, s8, s9⟩ := hs
  intro q
  induction q with
  | zero =>
    intro j n v1 c hj hv hn c1 c2 h
    obtain ⟨n, rfl⟩ : ∃ k, n = k + 1 := ⟨n - 1, by omega⟩
    exact ⟨c, by rw [f_Lie_feelWarmth_L2, if_pos (by rw [i_le, c1 1 (by decide)]; omega)], c1, c2, fun i hi => h i (by omega)⟩
  | succ q ih =>
    intro j n v1 c hj hv hn c1 c2 h
    obtain ⟨n, rfl⟩ : ∃ k, n = k + 1 := ⟨n - 1, by omega⟩
    have hv1 := i_inc (a := v1) (by omega)
    obtain ⟨x, x1, x2⟩ := fw_in hs' (show j < S by omega) hv (hp j (by omega)) hq hB (f_Lie_feelWarmth_L2 n) c1 c2 C 0 zF (c.1 5 j) 0 (by omega) rfl (by unfold zF; omega) (by rw [c1 5 (by decide)]; rfl)
    rw [f_Lie_feelWarmth_L2, if_neg (by rw [i_le, c1 1 (by decide)]; omega), if_pos (i_in.mpr (by omega)), nz_eq hv, x2]
    refine ih (j + 1) n (v1 + 1) _ (by omega) (by omega) (by omega) (fun o ho => by rw [w_row, if_neg ho, c1 o ho]) c2 (fun i hi => ?_)
    by_cases e : i = j
    · subst e
      have : (zz_w c 35 i x).1 35 i = x := by simp [w_get]
      rw [this, x1]
    · have : (zz_w c 35 j x).1 35 i = c.1 35 i := by simp [w_get, e]
      rw [this]
      exact h i (by omega)
theorem fw_of {c r : zz_S} {S C W B : Nat} (hs : nS c r S C W) (hp : ∀ i, i < S → nP c r W i) (hq : ∀ k, k < C → nQ c r W B k) (hB : B ≤ 1000000000) :
    ∃ c2 : zz_S, f_Lie_feelWarmth c = some c2 ∧ (∀ o, o ≠ 35 → c2.1 o = c.1 o) ∧ c2.2 = c.2 ∧ ∀ i, i < S → (c2.1 35 i).toInt = wOwn c C i :=
  fw_loop hs hp hq hB S 0 zF 0 c (by omega) rfl (by have := hs.2.1.2; unfold zF; omega) (fun _ _ => rfl) rfl fun i hi => by omega
/-- WARM of one, by the reference -/
theorem wr_loop {c r : zz_S} {S C W B i : Nat} {i' : Int32} (d : Int) (hd : -1000 ≤ d ∧ d ≤ 1000) (hs : nS c r S C W) (hi : i < S) (hi' : i'.toInt = i) (hp : nP c r W i) (hq : ∀ k, k < C → nQ c r W B k) (hB : B ≤ 1000000000) :
    ∀ (q j n : Nat) (v3 v4 : Int32), j + q = C → v4.toInt = j → q < n → v3.toInt = d + wSum (c.1 5 i).toInt (c.1 3 i).toInt (c.1 33 i).toInt (c.1 36) (c.1 7) (c.1 8) j →
      ∃ x : Int32, x.toInt = d + wOwn c C i ∧ f_M_warmOf_L12 r n i' v3 v4 = some x := by
  have hs' := hs
  obtain ⟨⟨s1, s2, s3⟩, ⟨s4, s5⟩, ⟨s6, s7⟩, ⟨rr1, rr2, r7⟩, ⟨r81, r82, r83, r85, r86, r87⟩, s8, s9⟩ := hs
  have b := s8 i hi
  have z1 : zz_in i' 6 = true := i_in.mpr (by omega)
  have ki := nz_eq hi'
  intro q
  induction q with
  | zero =>
    intro j n v3 v4 hj hv hn h2
    obtain ⟨n, rfl⟩ : ∃ k, n = k + 1 := ⟨n - 1, by omega⟩
    have : j = C := by omega
    subst this
    exact ⟨v3, h2, by rw [f_M_warmOf_L12, if_pos (by rw [i_le, r7]; omega)]⟩
  | succ q ih =>
    intro j n v3 v4 hj hv hn h2
    obtain ⟨n, rfl⟩ : ∃ k, n = k + 1 := ⟨n - 1, by omega⟩
    have hv1 := i_inc (a := v4) (by omega)
    have hjC : j < C := by omega
    have hun := un_ref hs' hi hjC hi' hv hp (hq j hjC) hB
    have hu : (nI (ovl (c.1 33 i).toInt (c.1 3 i).toInt (c.1 36 j).toInt (c.1 7 j).toInt).toNat).toInt = ovl (c.1 33 i).toInt (c.1 3 i).toInt (c.1 36 j).toInt (c.1 7 j).toInt := by
      have h0 : 0 ≤ ovl (c.1 33 i).toInt (c.1 3 i).toInt (c.1 36 j).toInt (c.1 7 j).toInt ∧ ovl (c.1 33 i).toInt (c.1 3 i).toInt (c.1 36 j).toInt (c.1 7 j).toInt ≤ (c.1 3 i).toInt := by unfold ovl; omega
      rw [nI_int (by omega)]
      omega
    obtain ⟨w1, w2, w3, w4⟩ := wm_one (wm := c.1 8 j) (br := c.1 3 i) (s9 j hjC).2.1 hu b.1
    have bd := wSum_bd (ht := (c.1 5 i).toInt) (br := (c.1 3 i).toInt) (p := (c.1 33 i).toInt) (lf := c.1 36) (wd := c.1 7) (wm := c.1 8) (by omega) (C := j) fun k hk => (s9 k (by omega)).2.1
    rw [f_M_warmOf_L12, if_neg (by rw [i_le, r7]; omega), if_pos (i_in.mpr (by omega)), hun, Option.bind_some, if_pos z1, ki, nz_eq hv, r81, r86, if_neg w1]
    refine ih (j + 1) n _ (v4 + 1) (by omega) (by omega) (by omega) ?_
    rw [i_add (by omega) (by omega), h2, w2]
    show _ = d + (wSum (c.1 5 i).toInt (c.1 3 i).toInt (c.1 33 i).toInt (c.1 36) (c.1 7) (c.1 8) j + _)
    omega
theorem wr_of {c r : zz_S} {S C W B i : Nat} {i' : Int32} {dg : Int32} (hdg : -1000 ≤ dg.toInt ∧ dg.toInt ≤ 1000) (hs : nS c r S C W) (hi : i < S) (hi' : i'.toInt = i) (hp : nP c r W i) (hq : ∀ k, k < C → nQ c r W B k) (hB : B ≤ 1000000000) :
    ∃ x : Int32, x.toInt = dg.toInt + wOwn c C i ∧ f_M_warmOf i' dg r = some x := by
  have b := hs.2.2.2.2.2.1 i hi
  have hS6 : S ≤ 6 := hs.2.1.2
  have r83 : r.1 83 = c.1 5 := hs.2.2.2.2.1.2.2.1
  obtain ⟨x, x1, x2⟩ := wr_loop dg.toInt hdg hs hi hi' hp hq hB C 0 zF (dg + c.1 5 i) 0 (by omega) rfl (by have := hs.2.2.1.2; unfold zF; omega) (by rw [i_add (by omega) (by omega)]; rfl)
  refine ⟨x, x1, ?_⟩
  unfold f_M_warmOf
  rw [if_pos (i_in.mpr (by omega)), nz_eq hi', r83, x2]
