theorem sg_or : sgS (f_Tape_signsOf 0) (fun v => v = 124) := by
  refine ⟨fun v w h => ?_, fun v h => ?_⟩
  · obtain ⟨h1, h2, h3⟩ := h.2.2.2.1
    exact ⟨⟨h1, h2⟩, h3, fun q => by rw [h3.mp q, q]⟩
  · subst h; exact ⟨by unfold sgn; decide, by unfold dead; decide⟩
theorem sg_and : sgS (f_Tape_signsOf 1) (fun v => v = 38) := by
  refine ⟨fun v w h => ?_, fun v h => ?_⟩
  · obtain ⟨h1, h2, h3⟩ := h.2.2.2.2.1
    exact ⟨⟨h1, h2⟩, h3, fun q => by rw [h3.mp q, q]⟩
  · subst h; exact ⟨by unfold sgn; decide, by unfold dead; decide⟩
theorem sg_cmp : sgS (f_Tape_signsOf 2) (fun v => v = 60 ∨ v = 61 ∨ v = 62) := by
  refine ⟨fun v w h => ?_, fun v h => ?_⟩
  · obtain ⟨h1, h2, h3, h4, h5⟩ := h.2.2.2.2.2.1
    refine ⟨⟨h1, h2⟩, by simp only [h3, h4, h5], fun q => ?_⟩
    rcases q with q | q | q
    · rw [h3.mp q, q]
    · rw [h4.mp q, q]
    · rw [h5.mp q, q]
  · rcases h with h | h | h <;> subst h <;> exact ⟨by unfold sgn; decide, by unfold dead; decide⟩
theorem sg_sum : sgS (f_Tape_signsOf 3) (fun v => v = 43 ∨ v = 45) := by
  refine ⟨fun v w h => ?_, fun v h => ?_⟩
  · obtain ⟨h1, h2, h3⟩ := h.2.2.2.2.2.2.1
    have h4 := h.1.2.2.2.1
    refine ⟨⟨h1, h2⟩, by simp only [h3, h4], fun q => ?_⟩
    rcases q with q | q
    · rw [h3.mp q, q]
    · rw [h4.mp q, q]
  · rcases h with h | h <;> subst h <;> exact ⟨by unfold sgn; decide, by unfold dead; decide⟩
theorem sg_mul : sgS (f_Tape_signsOf 4) (fun v => v = 42 ∨ v = 47 ∨ v = 37) := by
  refine ⟨fun v w h => ?_, fun v h => ?_⟩
  · obtain ⟨h1, h2, h3, h4, h5⟩ := h.2.2.2.2.2.2.2
    refine ⟨⟨h1, h2⟩, by simp only [h3, h4, h5], fun q => ?_⟩
    rcases q with q | q | q
    · rw [h3.mp q, q]
    · rw [h4.mp q, q]
    · rw [h5.mp q, q]
  · rcases h with h | h | h <;> subst h <;> exact ⟨by unfold sgn; decide, by unfold dead; decide⟩
theorem lv_cmp (R1 : Int32 → Int32 → zz_S → Option zz_S) (R2 : Int32 → zz_S → Option zz_S) (v2 : Int32) (g1 g2 g3 g4 g5 subr : zz_S → Option zz_S) (op : Nat) (hsub : SP isX (R1 (2 + 1) v2) subr op) :
    SP isX (f_Tape_readLevel R1 R2 2 v2) (f_M_compared g1 g2 g3 g4 g5 subr) op := by
  intro c r N a sz ld hG hs hl
  obtain ⟨c2, r2, k1, k2, hF, hk⟩ := hsub c r N a sz ld hG hs hl
  have hN := hG.1.2.1
  have e1 : f_Tape_readLevel R1 R2 2 v2 c = ((f_Tape_takesOneOf (f_Tape_signsOf 2) c2).bind fun q => f_Tape_readLevel_L31 R1 R2 zF 2 v2 q.1 0 q.2) := by
    unfold f_Tape_readLevel
    rw [if_pos (by decide), k1]
    rfl
  have stop : ∀ (n : Nat) (v4 : Int32) (c : zz_S), f_Tape_readLevel_L31 R1 R2 (n + 1) 2 v2 0 v4 c = some c := fun n v4 c => by
    rw [f_Tape_readLevel_L31]
    by_cases q : (120 : Int32) ≤ v4
    · rw [if_pos q]
    · rw [if_neg q, if_pos rfl]
  rw [e1]
  unfold f_M_compared
  rw [k2, Option.bind_some]
  rcases hk with ⟨a2, l, q1, q2, q3, ⟨q4, q5⟩, q6, q7⟩ | ⟨a2, ld2, q1, q2⟩
  · have hle := q2.2.1
    obtain ⟨v, w, p1, p2, p3, p4⟩ := pk_good q2
    obtain ⟨t1, t2, t3⟩ := sg_cmp.1 v w p3
    rw [p2, Option.bind_some, if_neg (nofault q2)]
    by_cases hv : v = 60 ∨ v = 61 ∨ v = 62
    · obtain ⟨hsg, hnd⟩ := sg_cmp.2 v hv
      have hlt : a2 < N := p4.resolve_left fun q => hnd (Or.inl q)
      obtain ⟨hG1, hF1⟩ := pG_take q2 hlt
      have hw : w = v := t3 hv
      obtain ⟨c3, r3, m1, m2, m3⟩ := hsub _ _ N (a2 + 1) (sz + l.length) (ld + l.length) hG1 (by omega) (by omega)
      have ho : opOK (v, 0) := Or.inr (Or.inr (Or.inr (Or.inr hsg)))
      obtain ⟨⟨n1, n3, n4, n5⟩, -, n0⟩ := sgn_ne hsg
      have hcc : ccd (v, 0) = -v := by unfold ccd; rw [if_neg n1, if_neg n3, if_neg n4, if_neg n5]
      obtain ⟨c4, r4, j1, j2, j3⟩ := p_add ho (by omega) (by omega) m3
      rw [hcc] at j1
      have j3 := pO_from hF1 (by simp [w_row]) (by simp [w_row]) (by simp [w_row]) j3
      have eG : f_M_compared_J35 g1 g2 g3 g4 g5 subr w r2 = some r4 := by
        unfold f_M_compared_J35
        rw [m2, Option.bind_some, hw, j2]
        rfl
      refine ⟨c4, r4, ?_, ?_, pO_seq (Y := isT) (fun _ _ h k => isX_app h k) hF q1 q3 q4 q5 q6 q7 ?_⟩
      · rw [to_yes sg_cmp p1 p3 hv, Option.bind_some, show zF = 99998 + 1 + 1 from rfl, f_Tape_readLevel_L31, if_neg (by decide), if_neg n0, m1, Option.bind_some, j1, Option.bind_some, if_pos rfl]
        exact stop _ _ _
      · rw [hw] at eG ⊢
        rcases hv with hv | hv | hv
        · rw [if_pos hv]; exact eG
        · rw [if_neg (by rw [hv]; decide), if_pos hv]; exact eG
        · rw [if_neg (by rw [hv]; decide), if_neg (by rw [hv]; decide), if_pos hv]; exact eG
      · obtain ⟨j4, j5⟩ := j3
        refine ⟨j4, ?_⟩
        rcases j5 with ⟨a3, l', ⟨l1, i1, rfl⟩, i2⟩ | h
        · exact Or.inl ⟨a3, _, isT_step i1 hsg, i2⟩
        · exact Or.inr h
    · have hw : ¬ (w = 60 ∨ w = 61 ∨ w = 62) := fun q => hv (t2.mpr q)
      refine ⟨c2, r2, ?_, ?_, hF, Or.inl ⟨a2, l, q1, q2, q3, ⟨q4, q5⟩, q6, q7⟩⟩
      · rw [to_no sg_cmp p1 p3 hv, Option.bind_some]
        exact stop _ _ _
      · rw [if_neg (fun q => hw (Or.inl q)), if_neg (fun q => hw (Or.inr (Or.inl q))), if_neg (fun q => hw (Or.inr (Or.inr q)))]
  · obtain ⟨⟨v', u, d1, d2, d3⟩, w, d4⟩ := pk_bad q1
    refine ⟨c2, r2, ?_, ?_, hF, Or.inr ⟨a2, ld2, q1, q2⟩⟩
    · rw [to_no sg_cmp d1 d2 (dead_no sg_cmp d3), Option.bind_some]
      exact stop _ _ _
    · rw [d4, Option.bind_some, if_pos (isfault q1)]
/-- digits: from the second one on -/
theorem fig_put {c r : zz_S} {N a sz ld op : Nat} (hG : pG c r N a sz ld op) (ha : 1 ≤ a) (hs : sz ≤ a - 1) (hl : ld ≤ a - 1) {v : Int32} (h0 : 0 ≤ v.toInt) (h1 : v.toInt ≤ 9999) :
    ∃ c2 r2, f_Tape_readNumber_J48 v c = some c2 ∧ f_M_figure_J74 v r = some r2 ∧ pO isX c r c2 r2 N (a - 1) sz ld op := by
  have hN := hG.1.2.1
  have hle := hG.2.1
  have ho : opOK (1, v) := Or.inl ⟨rfl, h0, h1⟩
  obtain ⟨c2, r2, g1, g2, g3, g4, g5, g6⟩ := pp_put hG (by omega) (by omega) ho
  have hcc : ccd (1, v) = v := by unfold ccd; rw [if_pos rfl]
  rw [hcc] at g1
  refine ⟨c2, r2, ?_, ?_, g4, Or.inl ⟨a, [(1, v)], isX_one ho (Or.inl rfl), g3, by show a - 1 + 1 ≤ a; omega, g5, g6⟩⟩
  · unfold f_Tape_readNumber_J48; rw [g1]; rfl
  · unfold f_M_figure_J74; rw [g2]; rfl
theorem fig_bad {c r : zz_S} {N a sz ld op : Nat} (hG : pG c r N a sz ld op) (ha : 1 ≤ a) (hlt : a < N) (hd : ¬ f_Tape_isDigit (c.1 48 a) = 0) (hs : sz ≤ a - 1) (hl : ld ≤ a - 1) (v : Int32) :
    ∃ c2 r2, f_Tape_readNumber_J48 v c = some c2 ∧ f_M_figure_J70 v r = some r2 ∧ pO isX c r c2 r2 N (a - 1) sz ld op := by
  obtain ⟨h1, h2, ⟨h3, h4⟩, ⟨h5, h6⟩, h7, h8, h9⟩ := hG
  have hN := h1.2.1
  have e2 : f_M_faulty r = zz_w r 79 25 (r.1 79 24) := by unfold f_M_faulty; rw [if_neg (by rw [h6]; decide)]
  have i2 := i_inc (a := r.1 79 27) (by omega)
  have i1 := i_inc (a := c.1 45 0) (by omega)
  refine ⟨_, _, by unfold f_Tape_readNumber_J48; rw [ta_good h7 (by omega)]; rfl, by unfold f_M_figure_J70 f_M_figure_J74; rw [e2, as_all (ld := ld) (by simp [w_get, h8]) (by omega)]; rfl, ?_⟩
  generalize vp_nar .byte (1 : Int32).toInt8.toInt32 = u
  have hF : pF c r (zz_w (zz_w c 46 sz v) 45 0 (c.1 45 0 + 1)) (zz_w (zz_w (zz_w (zz_w r 79 25 (r.1 79 24)) 96 (650 + ld) u) 97 (650 + ld) v) 79 27 ((zz_w r 79 25 (r.1 79 24)).1 79 27 + 1)) := ⟨⟨fun o a b d => by simp [w_row, b, d], rfl, fun k a b => by simp [w_get]⟩, fun o a b d => by simp [w_row, a, b, d], rfl, fun k a => by
    have n1 : ¬ k = 27 := by omega
    have n2 : ¬ k = 25 := by omega
    simp [w_get, n1, n2], fun k a => by
    have : ¬ k = 650 + ld := by omega
    simp [w_get, this]⟩
  refine ⟨hF, Or.inr ⟨a, ld + 1, ⟨pT_fr h1 hF, h2, ?_, ?_, ?_, ?_, Or.inr ⟨?_, ?_, ?_, ?_⟩⟩, by omega⟩⟩
  · simp [w_get, h4]
  · simp [w_get, i2, h8]
  · simp [w_get, i1, h7]; omega
  · simp [w_get, h4]; omega
  · simp [w_get, h5]
  · simp only [w_get, show ((44 : Nat) = 45) = False by decide, show ((44 : Nat) = 46) = False by decide, show ((79 : Nat) = 97) = False by decide, show ((79 : Nat) = 96) = False by decide, show ((25 : Nat) = 27) = False by decide, if_false, if_true]
    exact i_lit (by rw [h3, h4])
  · simp [w_get, h4]; exact hlt
  · have e : (zz_w (zz_w (zz_w (zz_w r 79 25 (r.1 79 24)) 96 (650 + ld) u) 97 (650 + ld) v) 79 27 ((zz_w r 79 25 (r.1 79 24)).1 79 27 + 1)).1 79 25 = r.1 79 24 := by simp [w_get]
    rw [e, nz_eq h4]
    simp only [w_get, show ((48 : Nat) = 45) = False by decide, show ((48 : Nat) = 46) = False by decide, if_false]
    exact hd
theorem fig_loop : ∀ (m j n n2 : Nat) (v v2 : Int32) (c r : zz_S) (N a sz ld op : Nat), m + j = 4 → m < n → m < n2 → pG c r N a sz ld op → 1 ≤ a → sz ≤ a - 1 → ld ≤ a - 1 → v2.toInt = j → 0 ≤ v.toInt → (j = 1 ∧ v.toInt ≤ 9 ∨ j = 2 ∧ v.toInt ≤ 99 ∨ j = 3 ∧ v.toInt ≤ 999 ∨ j = 4 ∧ v.toInt ≤ 9999) →
    ∃ c2 r2, f_Tape_readNumber_L4 n v v2 c = some c2 ∧ f_M_figure_L4 n2 v v2 r = some r2 ∧ pO isX c r c2 r2 N (a - 1) sz ld op := by
  have l4 : (4 : Int32).toInt = 4 := rfl
  have l10 : (10 : Int32).toInt = 10 := rfl
  have l48 : (48 : Int32).toInt = 48 := rfl
  intro m
  induction m with
  | zero =>
    intro j n n2 v v2 c r N a sz ld op hj hn hn2 hG ha hs hl hv2 hv0 hv
    obtain ⟨n, rfl⟩ : ∃ k, n = k + 1 := ⟨n - 1, by omega⟩
    obtain ⟨n2, rfl⟩ : ∃ k, n2 = k + 1 := ⟨n2 - 1, by omega⟩
    obtain ⟨v', w, p1, p2, p3, p4⟩ := pk_good hG
    rw [f_Tape_readNumber_L4, if_pos (by rw [i_le, l4]; omega), f_M_figure_L4, if_pos (by rw [i_le, l4]; omega)]
    unfold f_M_figure_J52
    rw [if_neg (fun q => by rw [q] at hv2; rw [show (0 : Int32).toInt = 0 from rfl] at hv2; omega), p2, Option.bind_some]
    by_cases d : f_Tape_isDigit v' = 0
    · rw [if_pos (p3.2.1.1.mp d)]
      exact fig_put hG ha hs hl hv0 (by omega)
    · rw [if_neg (fun q => d (p3.2.1.1.mpr q))]
      have hd := p3.2.1.2 d
      have hlt : a < N := p4.resolve_left fun q => by rw [q] at hd; exact absurd hd.2.1 (by decide)
      have hv' : c.1 48 a = v' := by
        obtain ⟨⟨t1, t2, t3, t4⟩, h2, ⟨h3, h4⟩, ⟨h5, h6⟩, h7⟩ := hG
        unfold f_Tape_peek at p1
        rw [if_pos h5, if_neg (by rw [i_le]; omega), if_pos (i_in.mpr (by omega)), nz_eq h3] at p1
        exact Option.some.inj p1
      exact fig_bad hG ha hlt (by rw [hv']; exact d) hs hl v
  | succ m ih =>
    intro j n n2 v v2 c r N a sz ld op hj hn hn2 hG ha hs hl hv2 hv0 hv
    obtain ⟨n, rfl⟩ : ∃ k, n = k + 1 := ⟨n - 1, by omega⟩
    obtain ⟨n2, rfl⟩ : ∃ k, n2 = k + 1 := ⟨n2 - 1, by omega⟩
    obtain ⟨v', w, p1, p2, p3, p4⟩ := pk_good hG
    have n4 : ¬ (4 : Int32) ≤ v2 := by rw [i_le, l4]; omega
    rw [f_Tape_readNumber_L4, f_M_figure_L4, if_neg n4, if_neg n4, p1, p2]
    simp only [Option.bind_some]
    by_cases d : f_Tape_isDigit v' = 0
    · rw [if_pos d, if_pos (p3.2.1.1.mp d)]
      unfold f_M_figure_J52
      rw [if_neg (fun q => by rw [q] at hv2; rw [show (0 : Int32).toInt = 0 from rfl] at hv2; omega), p2, Option.bind_some, if_pos (p3.2.1.1.mp d)]
      exact fig_put hG ha hs hl hv0 (by omega)
    · have hd := p3.2.1.2 d
      have hlt : a < N := p4.resolve_left fun q => by rw [q] at hd; exact absurd hd.2.1 (by decide)
      obtain ⟨hG1, hF1⟩ := pG_take hG hlt
      rw [if_neg d, if_neg (fun q => d (p3.2.1.1.mpr q)), hd.1, Int32.mul_comm 10 v]
      have m1 := i_mul (a := v) (b := 10) (by rw [l10]; omega) (by rw [l10]; omega)
      rw [l10] at m1
      have m2 := i_add (a := v * 10) (b := v') (by rw [m1]; omega) (by rw [m1]; omega)
      have m3 := i_sub (a := v * 10 + v') (b := 48) (by rw [m2, m1, l48]; omega) (by rw [m2, m1, l48]; omega)
      rw [m2, m1, l48] at m3
      have hi := i_inc (a := v2) (by omega)
      obtain ⟨c3, r3, k1, k2, k3⟩ := ih (j + 1) n n2 (v * 10 + v' - 48) (v2 + 1) _ _ N (a + 1) sz ld op (by omega) (by omega) (by omega) hG1 (by omega) (by omega) (by omega) (by omega) (by omega) (by omega)
      refine ⟨c3, r3, k1, k2, ?_⟩
      have k3 := pO_from hF1 (by simp [w_row]) (by simp [w_row]) (by simp [w_row]) k3
      obtain ⟨k4, k5⟩ := k3
      refine ⟨k4, ?_⟩
      rcases k5 with ⟨a3, l', i1, i2, i3, i4⟩ | ⟨a3, ld3, i1, i2⟩
      · exact Or.inl ⟨a3, l', i1, i2, by omega, i4⟩
      · exact Or.inr ⟨a3, ld3, i1, by omega⟩
theorem fig_first {c r : zz_S} {N a sz ld op : Nat} (hG : pG c r N a sz ld op) (hs : sz ≤ a) (hl : ld ≤ a) {v w : Int32} (p1 : f_Tape_peek c = some v) (p2 : f_M_look r = some w) (p3 : bP v w) (p4 : v = -1 ∨ a < N) (d : ¬ f_Tape_isDigit v = 0) :
    ∃ c2 r2, f_Tape_readNumber c = some c2 ∧ f_M_figure r = some r2 ∧ pO isX c r c2 r2 N a sz ld op := by
  have l10 : (10 : Int32).toInt = 10 := rfl
  have l48 : (48 : Int32).toInt = 48 := rfl
  have hd := p3.2.1.2 d
  have hlt : a < N := p4.resolve_left fun q => by rw [q] at hd; exact absurd hd.2.1 (by decide)
  obtain ⟨hG1, hF1⟩ := pG_take hG hlt
  unfold f_Tape_readNumber f_M_figure
  have n4 : ¬ (4 : Int32) ≤ 0 := by decide
  obtain ⟨n, hn, hn3⟩ : ∃ n, zF = n + 1 ∧ 3 < n := ⟨99999, rfl, by decide⟩
  rw [hn, f_Tape_readNumber_L4, f_M_figure_L4, if_neg n4, if_neg n4, p1, p2]
  simp only [Option.bind_some]
  rw [if_neg d, if_neg (fun q => d (p3.2.1.1.mpr q)), hd.1]
  have e : (0 : Int32) * 10 + v - 48 = v - 48 := by rw [show (0 : Int32) * 10 = 0 from by decide, Int32.zero_add]
  have e2 : (10 : Int32) * 0 + v - 48 = v - 48 := by rw [show (10 : Int32) * 0 = 0 from by decide, Int32.zero_add]
  rw [e, e2]
  have m3 := i_sub (a := v) (b := 48) (by rw [l48]; omega) (by rw [l48]; omega)
  rw [l48] at m3
  obtain ⟨c3, r3, k1, k2, k3⟩ := fig_loop 3 1 n n (v - 48) (0 + 1) _ _ N (a + 1) sz ld op (by omega) hn3 hn3 hG1 (by omega) (by omega) (by omega) (by decide) (by omega) (by omega)
  exact ⟨c3, r3, k1, k2, pO_from hF1 (by simp [w_row]) (by simp [w_row]) (by simp [w_row]) k3⟩
/-- no figure: a fault here -/
theorem fig_none {c r : zz_S} {N a sz ld op : Nat} (hG : pG c r N a sz ld op) (hs : sz ≤ a) (hl : ld ≤ a) {v w : Int32} (p2 : f_M_look r = some w) (p3 : bP v w) (d : f_Tape_isDigit v = 0) :
    ∃ r2, f_M_figure r = some r2 ∧ pO isX c r (f_Tape_fail c) r2 N a sz ld op := by
  have hN := hG.1.2.1
  have hle := hG.2.1
  obtain ⟨hB, hF⟩ := p_fail hG (by omega)
  obtain ⟨t, h2, h3, h4, h5, h6, h7⟩ := hB
  have i2 := i_inc (a := (f_M_faulty r).1 79 27) (by omega)
  refine ⟨zz_w (zz_w (zz_w (f_M_faulty r) 96 (650 + ld) (vp_nar .byte (1 : Int32).toInt8.toInt32)) 97 (650 + ld) 0) 79 27 ((f_M_faulty r).1 79 27 + 1), ?_, ?_⟩
  · unfold f_M_figure
    rw [show zF = 99999 + 1 from rfl, f_M_figure_L4, if_neg (by decide), p2, Option.bind_some, if_pos (p3.2.1.1.mp d)]
    unfold f_M_figure_J52 f_M_figure_J70 f_M_figure_J74
    rw [if_pos rfl, as_all h4 (by omega)]
    rfl
  · generalize vp_nar .byte (1 : Int32).toInt8.toInt32 = u
    generalize f_M_faulty r = r1 at *
    generalize f_Tape_fail c = c1 at *
    have hF2 : pF c1 r1 c1 (zz_w (zz_w (zz_w r1 96 (650 + ld) u) 97 (650 + ld) 0) 79 27 (r1.1 79 27 + 1)) := ⟨⟨fun o a b d => rfl, rfl, fun k a b => rfl⟩, fun o a b d => by simp [w_row, a, b, d], rfl, fun k a => by
      have n1 : ¬ k = 27 := by omega
      simp [w_get, n1], fun k a => by
      have : ¬ k = 650 + ld := by omega
      simp [w_get, this]⟩
    refine ⟨pF_tr hF hF2, Or.inr ⟨a, ld + 1, ⟨pT_fr t hF2, h2, ?_, ?_, h5, ?_, ?_⟩, by omega⟩⟩
    · simp [w_get, h3]
    · simp [w_get, i2, h4]
    · simp [w_get, h6]
    · simp only [w_get, show ((79 : Nat) = 97) = False by decide, show ((79 : Nat) = 96) = False by decide, show ((25 : Nat) = 27) = False by decide, if_false, if_true]
      exact h7
