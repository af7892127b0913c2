/-! the parser: both sides at a place of the tape -/
def pF (c r c2 r2 : zz_S) : Prop := ((∀ o, o ≠ 44 → o ≠ 45 → o ≠ 46 → c2.1 o = c.1 o) ∧ c2.2 = c.2 ∧ ∀ k, k ≠ 3 → k ≠ 4 → c2.1 44 k = c.1 44 k) ∧
  ((∀ o, o ≠ 79 → o ≠ 96 → o ≠ 97 → r2.1 o = r.1 o) ∧ r2.2 = r.2 ∧ (∀ k, k < 24 ∨ 27 < k → r2.1 79 k = r.1 79 k) ∧ ∀ k, k < 650 → r2.1 96 k = r.1 96 k ∧ r2.1 97 k = r.1 97 k)
theorem pF_me (c r : zz_S) : pF c r c r := ⟨⟨fun _ _ _ _ => rfl, rfl, fun _ _ _ => rfl⟩, fun _ _ _ _ => rfl, rfl, fun _ _ => rfl, fun _ _ => ⟨rfl, rfl⟩⟩
theorem pF_tr {c r c2 r2 c3 r3 : zz_S} (h : pF c r c2 r2) (k : pF c2 r2 c3 r3) : pF c r c3 r3 := by
  obtain ⟨⟨h1, h2, h3⟩, h4, h5, h6, h7⟩ := h
  obtain ⟨⟨k1, k2, k3⟩, k4, k5, k6, k7⟩ := k
  exact ⟨⟨fun o a b d => (k1 o a b d).trans (h1 o a b d), k2.trans h2, fun k a b => (k3 k a b).trans (h3 k a b)⟩, fun o a b d => (k4 o a b d).trans (h4 o a b d), k5.trans h5, fun k a => (k6 k a).trans (h6 k a), fun k a => ⟨(k7 k a).1.trans (h7 k a).1, (k7 k a).2.trans (h7 k a).2⟩⟩
def pT (c r : zz_S) (N : Nat) : Prop := (c.1 44 0).toInt = N ∧ N ≤ 120 ∧ (r.1 79 23).toInt = N ∧ ∀ k, k < N → 0 ≤ (c.1 48 k).toInt ∧ (c.1 48 k).toInt ≤ 255 ∧ r.1 95 k = vp_nar .byte (c.1 48 k).toInt8.toInt32
theorem pT_fr {c r c2 r2 : zz_S} {N : Nat} (h : pT c r N) (k : pF c r c2 r2) : pT c2 r2 N := by
  obtain ⟨h1, h2, h3, h4⟩ := h
  obtain ⟨⟨k1, k2, k3⟩, k4, k5, k6, k7⟩ := k
  exact ⟨by rw [k3 0 (by decide) (by decide)]; exact h1, h2, by rw [k6 23 (by omega)]; exact h3, fun k hk => by rw [k1 48 (by decide) (by decide) (by decide), k4 95 (by decide) (by decide) (by decide)]; exact h4 k hk⟩
/-- all is well: at place a, so many codes and steps, so many open -/
def pG (c r : zz_S) (N a sz ld op : Nat) : Prop := pT c r N ∧ a ≤ N ∧ ((c.1 44 3).toInt = a ∧ (r.1 79 24).toInt = a) ∧ (c.1 44 4 = -1 ∧ r.1 79 25 = -1) ∧ (c.1 45 0).toInt = sz ∧ (r.1 79 27).toInt = ld ∧ (r.1 79 26).toInt = op
/-- a fault, the same on both sides (the class may yet have to note it: where a fifth digit stands) -/
def pB (c r : zz_S) (N a ld : Nat) : Prop := pT c r N ∧ a ≤ N ∧ (r.1 79 24).toInt = a ∧ (r.1 79 27).toInt = ld ∧ (0 ≤ (c.1 45 0).toInt ∧ (c.1 45 0).toInt ≤ 121) ∧ (0 ≤ (r.1 79 25).toInt ∧ (r.1 79 25).toInt ≤ N) ∧
  (c.1 44 4 = r.1 79 25 ∨ (c.1 44 4 = -1 ∧ c.1 44 3 = r.1 79 25 ∧ (r.1 79 25).toInt < N ∧ ¬ f_Tape_isDigit (c.1 48 (r.1 79 25).toNatClampNeg) = 0))
def dead (v : Int32) : Prop := v = -1 ∨ (48 ≤ v.toInt ∧ v.toInt ≤ 57)
def pO (X : List (Int32 × Int32) → Prop) (c r c2 r2 : zz_S) (N a sz ld op : Nat) : Prop := pF c r c2 r2 ∧
  ((∃ (a2 : Nat) (l : List (Int32 × Int32)), X l ∧ pG c2 r2 N a2 (sz + l.length) (ld + l.length) op ∧ a + l.length ≤ a2 ∧ (segC (c2.1 46) sz l ∧ ∀ k, k < sz → c2.1 46 k = c.1 46 k) ∧ segR (r2.1 96) (r2.1 97) (650 + ld) l ∧ ∀ k, k < 650 + ld → r2.1 96 k = r.1 96 k ∧ r2.1 97 k = r.1 97 k) ∨
   ∃ a2 ld2 : Nat, pB c2 r2 N a2 ld2 ∧ ld2 + a ≤ ld + a2 + 1)
theorem segC_app (f : Nat → Int32) : ∀ (l m : List (Int32 × Int32)) (i : Nat), segC f i (l ++ m) ↔ segC f i l ∧ segC f (i + l.length) m
  | [], m, i => by show segC f i m ↔ True ∧ segC f i m; simp
  | o :: l, m, i => by
    show (f i = ccd o ∧ segC f (i + 1) (l ++ m)) ↔ (f i = ccd o ∧ segC f (i + 1) l) ∧ segC f (i + (l.length + 1)) m
    rw [segC_app f l m (i + 1), and_assoc, show i + 1 + l.length = i + (l.length + 1) by omega]
theorem segR_app (f g : Nat → Int32) : ∀ (l m : List (Int32 × Int32)) (i : Nat), segR f g i (l ++ m) ↔ segR f g i l ∧ segR f g (i + l.length) m
  | [], m, i => by show segR f g i m ↔ True ∧ segR f g i m; simp
  | o :: l, m, i => by
    show ((f i = o.1 ∧ g i = o.2) ∧ segR f g (i + 1) (l ++ m)) ↔ ((f i = o.1 ∧ g i = o.2) ∧ segR f g (i + 1) l) ∧ segR f g (i + (l.length + 1)) m
    rw [segR_app f g l m (i + 1), show i + 1 + l.length = i + (l.length + 1) by omega]
    simp only [and_assoc]
theorem segC_same {f g : Nat → Int32} : ∀ (l : List (Int32 × Int32)) (i : Nat), (∀ k, k < i + l.length → g k = f k) → segC f i l → segC g i l
  | [], _, _, _ => trivial
  | o :: l, i, h, hs => by
    have hl : (o :: l).length = l.length + 1 := rfl
    exact ⟨(h i (by omega)).trans hs.1, segC_same l (i + 1) (fun k hk => h k (by omega)) hs.2⟩
theorem segR_same {f g f2 g2 : Nat → Int32} : ∀ (l : List (Int32 × Int32)) (i : Nat), (∀ k, k < i + l.length → f2 k = f k ∧ g2 k = g k) → segR f g i l → segR f2 g2 i l
  | [], _, _, _ => trivial
  | o :: l, i, h, hs => by
    have hl : (o :: l).length = l.length + 1 := rfl
    exact ⟨⟨(h i (by omega)).1.trans hs.1.1, (h i (by omega)).2.trans hs.1.2⟩, segR_same l (i + 1) (fun k hk => h k (by omega)) hs.2⟩
/-- one behind the other -/
theorem pO_seq {X Y Z : List (Int32 × Int32) → Prop} (hZ : ∀ l m, X l → Y m → Z (l ++ m)) {c r c2 r2 c3 r3 : zz_S} {N a sz ld op : Nat} (hF : pF c r c2 r2) {a2 : Nat} {l : List (Int32 × Int32)} (hX : X l) (ha : a + l.length ≤ a2) (hC : segC (c2.1 46) sz l) (hC2 : ∀ k, k < sz → c2.1 46 k = c.1 46 k) (hR : segR (r2.1 96) (r2.1 97) (650 + ld) l) (hR2 : ∀ k, k < 650 + ld → r2.1 96 k = r.1 96 k ∧ r2.1 97 k = r.1 97 k)
    (h : pO Y c2 r2 c3 r3 N a2 (sz + l.length) (ld + l.length) op) : pO Z c r c3 r3 N a sz ld op := by
  obtain ⟨k0, hk⟩ := h
  refine ⟨pF_tr hF k0, ?_⟩
  rcases hk with ⟨a3, m, k1, k2, k3, ⟨k4, k5⟩, k6, k7⟩ | ⟨a3, ld3, k1, k2⟩
  · refine Or.inl ⟨a3, l ++ m, hZ l m hX k1, by rw [List.length_append, ← Nat.add_assoc, ← Nat.add_assoc]; exact k2, by rw [List.length_append]; omega, ⟨(segC_app _ _ _ _).mpr ⟨segC_same l sz k5 hC, k4⟩, fun k hk => (k5 k (by omega)).trans (hC2 k hk)⟩, (segR_app _ _ _ _ _).mpr ⟨segR_same l (650 + ld) (fun k hk => k7 k (by omega)) hR, ?_⟩, fun k hk => ⟨(k7 k (by omega)).1.trans (hR2 k hk).1, (k7 k (by omega)).2.trans (hR2 k hk).2⟩⟩
    rw [Nat.add_assoc]
    exact k6
  · exact Or.inr ⟨a3, ld3, k1, by omega⟩
/-- the states ahead of it may be others, if they have the same there -/
theorem pO_from {X : List (Int32 × Int32) → Prop} {c r c1 r1 c2 r2 : zz_S} {N a sz ld op : Nat} (hF : pF c r c1 r1) (h46 : c1.1 46 = c.1 46) (h96 : r1.1 96 = r.1 96) (h97 : r1.1 97 = r.1 97) (h : pO X c1 r1 c2 r2 N a sz ld op) : pO X c r c2 r2 N a sz ld op := by
  obtain ⟨k0, hk⟩ := h
  rw [h46, h96, h97] at hk
  exact ⟨pF_tr hF k0, hk⟩
/-- what is next -/
theorem pk_good {c r : zz_S} {N a sz ld op : Nat} (h : pG c r N a sz ld op) : ∃ v w, f_Tape_peek c = some v ∧ f_M_look r = some w ∧ bP v w ∧ (v = -1 ∨ a < N) := by
  obtain ⟨⟨t1, t2, t3, t4⟩, h2, ⟨h3, h4⟩, ⟨h5, h6⟩, h7, h8, h9⟩ := h
  unfold f_Tape_peek f_M_look
  rw [if_pos h5]
  by_cases q : a < N
  · obtain ⟨b1, b2, b3⟩ := t4 a q
    refine ⟨c.1 48 a, r.1 95 a, ?_, ?_, by rw [b3]; exact bP_byte b1 b2, Or.inr q⟩
    · rw [if_neg (by rw [i_le]; omega), if_pos (i_in.mpr (by omega)), nz_eq h3]
    · rw [if_neg (by rw [i_le]; omega), if_pos (i_in.mpr (by omega)), nz_eq h4]
  · refine ⟨-1, -1, ?_, ?_, bP_end, Or.inl rfl⟩
    · rw [if_pos (by rw [i_le]; omega)]
    · rw [if_pos (by rw [i_le]; omega)]
theorem pk_bad {c r : zz_S} {N a ld : Nat} (h : pB c r N a ld) : (∃ v u, f_Tape_peek c = some v ∧ bP v u ∧ dead v) ∧ ∃ w, f_M_look r = some w := by
  obtain ⟨⟨t1, t2, t3, t4⟩, h2, h3, h4, h5, ⟨h6, h6'⟩, h7⟩ := h
  constructor
  · unfold f_Tape_peek
    rcases h7 with h7 | ⟨h7, h8, h9, h10⟩
    · refine ⟨-1, -1, ?_, bP_end, Or.inl rfl⟩
      rw [if_neg (fun q => by rw [← h7, q] at h6; exact absurd h6 (by decide))]
    · have hk : (r.1 79 25).toNatClampNeg = (r.1 79 25).toInt.toNat := rfl
      obtain ⟨b1, b2, b3⟩ := t4 (r.1 79 25).toInt.toNat (by omega)
      have hb := bP_byte b1 b2
      rw [hk] at h10
      have hd := hb.2.1.2 h10
      refine ⟨c.1 48 (r.1 79 25).toInt.toNat, _, ?_, hb, Or.inr ⟨hd.2.1, hd.2.2.1⟩⟩
      rw [if_pos h7, h8, if_neg (by rw [i_le]; omega), if_pos (i_in.mpr (by omega)), hk]
  · unfold f_M_look
    by_cases q : a < N
    · exact ⟨_, by rw [if_neg (by rw [i_le]; omega), if_pos (i_in.mpr (by omega))]⟩
    · exact ⟨_, by rw [if_pos (by rw [i_le]; omega)]⟩
/-- a byte is taken -/
theorem pG_take {c r : zz_S} {N a sz ld op : Nat} (h : pG c r N a sz ld op) (ha : a < N) : pG (zz_w c 44 3 (c.1 44 3 + 1)) (zz_w r 79 24 (r.1 79 24 + 1)) N (a + 1) sz ld op ∧ pF c r (zz_w c 44 3 (c.1 44 3 + 1)) (zz_w r 79 24 (r.1 79 24 + 1)) := by
  have hF : pF c r (zz_w c 44 3 (c.1 44 3 + 1)) (zz_w r 79 24 (r.1 79 24 + 1)) := ⟨⟨fun o a b d => by simp [w_row, a], rfl, fun k a b => by simp [w_get, a]⟩, fun o a b d => by simp [w_row, a], rfl, fun k a => by
    have : ¬ k = 24 := by omega
    simp [w_get, this], fun k a => by simp [w_row]⟩
  refine ⟨?_, hF⟩
  obtain ⟨h1, h2, ⟨h3, h4⟩, ⟨h5, h6⟩, h7, h8, h9⟩ := h
  have hN := h1.2.1
  have i1 := i_inc (a := c.1 44 3) (by omega)
  have i2 := i_inc (a := r.1 79 24) (by omega)
  refine ⟨pT_fr h1 hF, ha, ⟨?_, ?_⟩, ⟨?_, ?_⟩, ?_, ?_, ?_⟩
  · simp [w_get, i1, h3]
  · simp [w_get, i2, h4]
  · simp [w_get, h5]
  · simp [w_get, h6]
  · simp [w_get, h7]
  · simp [w_get, h8]
  · simp [w_get, h9]
/-- a fault is noted here, on both sides -/
theorem p_fail {c r : zz_S} {N a sz ld op : Nat} (h : pG c r N a sz ld op) (hs : sz ≤ 121) : pB (f_Tape_fail c) (f_M_faulty r) N a ld ∧ pF c r (f_Tape_fail c) (f_M_faulty r) := by
  obtain ⟨h1, h2, ⟨h3, h4⟩, ⟨h5, h6⟩, h7, h8, h9⟩ := h
  have hN := h1.2.1
  have e1 : f_Tape_fail c = zz_w c 44 4 (c.1 44 3) := by unfold f_Tape_fail; rw [if_pos h5]
  have e2 : f_M_faulty r = zz_w r 79 25 (r.1 79 24) := by unfold f_M_faulty; rw [if_neg (by rw [h6]; decide)]
  rw [e1, e2]
  have hF : pF c r (zz_w c 44 4 (c.1 44 3)) (zz_w r 79 25 (r.1 79 24)) := ⟨⟨fun o a b d => by simp [w_row, a], rfl, fun k a b => by simp [w_get, b]⟩, fun o a b d => by simp [w_row, a], rfl, fun k a => by
    have : ¬ k = 25 := by omega
    simp [w_get, this], fun k a => by simp [w_row]⟩
  refine ⟨⟨pT_fr h1 hF, h2, ?_, ?_, ⟨?_, ?_⟩, ⟨?_, ?_⟩, Or.inl ?_⟩, hF⟩
  · simp [w_get, h4]
  · simp [w_get, h8]
  · simp [w_get, h7]
  · simp [w_get, h7]; omega
  · simp [w_get, h4]
  · simp [w_get, h4]; omega
  · simp only [w_get, if_true]
    exact i_lit (by rw [h3, h4])
/-- noted once more: nothing new -/
theorem p_fail2 {c r : zz_S} {N a ld : Nat} (h : pB c r N a ld) : pB (f_Tape_fail c) r N a ld ∧ pF c r (f_Tape_fail c) r ∧ (f_Tape_fail c).1 44 4 = r.1 79 25 ∧ f_M_faulty r = r := by
  obtain ⟨t, h2, h3, h4, h5, h6, h7⟩ := h
  have e : f_M_faulty r = r := by unfold f_M_faulty; rw [if_pos (by rw [i_le]; exact h6.1)]
  rcases h7 with h7 | ⟨h7, h8, h9, h10⟩
  · have e1 : f_Tape_fail c = c := by unfold f_Tape_fail; rw [if_neg (fun q => by rw [← h7, q] at h6; exact absurd h6.1 (by decide))]
    rw [e1]
    exact ⟨⟨t, h2, h3, h4, h5, h6, Or.inl h7⟩, pF_me c r, h7, e⟩
  · have e1 : f_Tape_fail c = zz_w c 44 4 (c.1 44 3) := by unfold f_Tape_fail; rw [if_pos h7]
    rw [e1]
    have hF : pF c r (zz_w c 44 4 (c.1 44 3)) r := ⟨⟨fun o a b d => by simp [w_row, a], rfl, fun k a b => by simp [w_get, b]⟩, fun o a b d => rfl, rfl, fun k a => rfl, fun k a => ⟨rfl, rfl⟩⟩
    have e4 : (zz_w c 44 4 (c.1 44 3)).1 44 4 = r.1 79 25 := by simp [w_get, h8]
    exact ⟨⟨pT_fr t hF, h2, h3, h4, by simp [w_get]; exact h5, h6, Or.inl e4⟩, hF, e4, e⟩
/-- a code and a step are put behind what was read -/
theorem ta_good {c : zz_S} {sz : Nat} (h : (c.1 45 0).toInt = sz) (hs : sz ≤ 120) (v : Int32) : f_Text_add v c = some (zz_w (zz_w c 46 sz v) 45 0 (c.1 45 0 + 1)) := by
  have l121 : (121 : Int32).toInt = 121 := rfl
  unfold f_Text_add
  rw [if_neg (by rw [i_le, l121]; omega), if_pos (i_in.mpr (by omega)), nz_eq h]
theorem ta_any {c : zz_S} (h0 : 0 ≤ (c.1 45 0).toInt) (h1 : (c.1 45 0).toInt ≤ 121) (v : Int32) : ∃ c2, f_Text_add v c = some c2 ∧ (0 ≤ (c2.1 45 0).toInt ∧ (c2.1 45 0).toInt ≤ 121) ∧ (∀ o, o ≠ 45 → o ≠ 46 → c2.1 o = c.1 o) ∧ c2.2 = c.2 := by
  have l121 : (121 : Int32).toInt = 121 := rfl
  unfold f_Text_add
  by_cases q : 121 ≤ (c.1 45 0).toInt
  · exact ⟨c, by rw [if_pos (by rw [i_le, l121]; exact q)], ⟨h0, h1⟩, fun _ _ _ => rfl, rfl⟩
  · have hi := i_inc (a := c.1 45 0) (by omega)
    refine ⟨zz_w (zz_w c 46 (c.1 45 0).toNatClampNeg v) 45 0 (c.1 45 0 + 1), by rw [if_neg (by rw [i_le, l121]; exact q), if_pos (i_in.mpr (by omega))], ⟨?_, ?_⟩, fun o a b => by simp [w_row, a, b], rfl⟩
    · simp [w_get, hi]; omega
    · simp [w_get, hi]; omega
theorem as_all {r : zz_S} {ld : Nat} (h : (r.1 79 27).toInt = ld) (hs : ld ≤ 129) (a v : Int32) : f_M_addStep a v r = some (zz_w (zz_w (zz_w r 96 (650 + ld) (vp_nar .byte a.toInt8.toInt32)) 97 (650 + ld) v) 79 27 (r.1 79 27 + 1)) := by
  have l650 : (650 : Int32).toInt = 650 := rfl
  have hk := i_add (a := 650) (b := r.1 79 27) (by rw [l650]; omega) (by rw [l650]; omega)
  rw [l650] at hk
  have hk : (650 + r.1 79 27).toInt = (650 + ld : Nat) := by omega
  unfold f_M_addStep
  rw [if_pos (i_in.mpr (by omega)), nz_eq hk]
theorem byte_op {o : Int32 × Int32} (h : opOK o) : vp_nar .byte o.1.toInt8.toInt32 = o.1 := by
  rcases h with ⟨q, -⟩ | ⟨q, -⟩ | q | q | q
  · rw [q]; decide +kernel
  · rw [q]; decide +kernel
  · rw [q]; decide +kernel
  · rw [q]; decide +kernel
  · rcases q with q | q | q | q | q | q | q | q | q | q <;> rw [q] <;> decide +kernel
theorem pp_put {c r : zz_S} {N a sz ld op : Nat} (h : pG c r N a sz ld op) (hs : sz ≤ 120) (hl : ld ≤ 120) {o : Int32 × Int32} (ho : opOK o) : ∃ c2 r2, f_Text_add (ccd o) c = some c2 ∧ f_M_addStep o.1 o.2 r = some r2 ∧ pG c2 r2 N a (sz + 1) (ld + 1) op ∧ pF c r c2 r2 ∧
    (segC (c2.1 46) sz [o] ∧ ∀ k, k < sz → c2.1 46 k = c.1 46 k) ∧ segR (r2.1 96) (r2.1 97) (650 + ld) [o] ∧ ∀ k, k < 650 + ld → r2.1 96 k = r.1 96 k ∧ r2.1 97 k = r.1 97 k := by
  obtain ⟨h1, h2, ⟨h3, h4⟩, ⟨h5, h6⟩, h7, h8, h9⟩ := h
  refine ⟨_, _, ta_good h7 hs _, as_all h8 (by omega) _ _, ?_⟩
  rw [byte_op ho]
  have i1 := i_inc (a := c.1 45 0) (by omega)
  have i2 := i_inc (a := r.1 79 27) (by omega)
  have hF : pF c r (zz_w (zz_w c 46 sz (ccd o)) 45 0 (c.1 45 0 + 1)) (zz_w (zz_w (zz_w r 96 (650 + ld) o.1) 97 (650 + ld) o.2) 79 27 (r.1 79 27 + 1)) := ⟨⟨fun o a b d => by simp [w_row, b, d], rfl, fun k a b => by simp [w_get]⟩, fun o a b d => by simp [w_row, a, b, d], rfl, fun k a => by
    have : ¬ k = 27 := by omega
    simp [w_get, this], fun k a => by
    have : ¬ k = 650 + ld := by omega
    simp [w_get, this]⟩
  refine ⟨⟨pT_fr h1 hF, h2, ⟨?_, ?_⟩, ⟨?_, ?_⟩, ?_, ?_, ?_⟩, hF, ⟨⟨?_, trivial⟩, fun k hk => ?_⟩, ⟨⟨?_, ?_⟩, trivial⟩, fun k hk => ?_⟩
  · simp [w_get, h3]
  · simp [w_get, h4]
  · simp [w_get, h5]
  · simp [w_get, h6]
  · simp [w_get, i1, h7]
  · simp [w_get, i2, h8]
  · simp [w_get, h9]
  · simp [w_get]
  · have : ¬ k = sz := by omega
    simp [w_get, this]
  · simp [w_get]
  · simp [w_get]
  · have : ¬ k = 650 + ld := by omega
    simp [w_get, this]
/-- a step behind what came ahead of it (whose sign has taken a byte) -/
theorem p_add {X : List (Int32 × Int32) → Prop} {c r c2 r2 : zz_S} {N a sz ld op : Nat} {o : Int32 × Int32} (ho : opOK o) (hsz : sz ≤ a) (hld : ld ≤ a) (h : pO X c r c2 r2 N (a + 1) sz ld op) :
    ∃ c3 r3, f_Text_add (ccd o) c2 = some c3 ∧ f_M_addStep o.1 o.2 r2 = some r3 ∧ pO (fun m => ∃ l, X l ∧ m = l ++ [o]) c r c3 r3 N a sz ld op := by
  obtain ⟨k0, hk⟩ := h
  rcases hk with ⟨a2, l, k1, k2, k3, ⟨k4, k5⟩, k6, k7⟩ | ⟨a2, ld2, k1, k2⟩
  · have hN := k2.1.2.1
    have hle := k2.2.1
    obtain ⟨c3, r3, g1, g2, g3, g4, ⟨g5, g6⟩, g7, g8⟩ := pp_put k2 (by omega) (by omega) ho
    refine ⟨c3, r3, g1, g2, pF_tr k0 g4, Or.inl ⟨a2, l ++ [o], ⟨l, k1, rfl⟩, by rw [List.length_append]; exact g3, by rw [List.length_append]; show a + (l.length + 1) ≤ a2; omega, ⟨(segC_app _ _ _ _).mpr ⟨segC_same l sz g6 k4, g5⟩, fun k hk => (g6 k (by omega)).trans (k5 k hk)⟩, (segR_app _ _ _ _ _).mpr ⟨segR_same l (650 + ld) (fun k hk => g8 k (by omega)) k6, by rw [Nat.add_assoc]; exact g7⟩, fun k hk => ⟨(g8 k (by omega)).1.trans (k7 k hk).1, (g8 k (by omega)).2.trans (k7 k hk).2⟩⟩⟩
  · obtain ⟨t, h2, h3, h4, ⟨h5, h5'⟩, h6, h7⟩ := k1
    have hN := t.2.1
    obtain ⟨c3, g1, g2, g3, g4⟩ := ta_any h5 h5' (ccd o)
    have i2 := i_inc (a := r2.1 79 27) (by omega)
    have hF : pF c2 r2 c3 (zz_w (zz_w (zz_w r2 96 (650 + ld2) (vp_nar .byte o.1.toInt8.toInt32)) 97 (650 + ld2) o.2) 79 27 (r2.1 79 27 + 1)) := ⟨⟨fun o a b d => g3 o b d, g4, fun k a b => by rw [g3 44 (by decide) (by decide)]⟩, fun o a b d => by simp [w_row, a, b, d], rfl, fun k a => by
      have : ¬ k = 27 := by omega
      simp [w_get, this], fun k a => by
      have : ¬ k = 650 + ld2 := by omega
      simp [w_get, this]⟩
    refine ⟨c3, _, g1, as_all h4 (by omega) _ _, pF_tr k0 hF, Or.inr ⟨a2, ld2 + 1, ⟨pT_fr t hF, h2, ?_, ?_, g2, ?_, ?_⟩, by omega⟩⟩
    · simp [w_get, h3]
    · simp [w_get, i2, h4]
    · simp [w_get, h6]
    · rw [g3 44 (by decide) (by decide), g3 48 (by decide) (by decide)]
      simp only [w_get, show ((79 : Nat) = 97) = False by decide, show ((79 : Nat) = 96) = False by decide, show ((25 : Nat) = 27) = False by decide, if_false, if_true]
      exact h7
