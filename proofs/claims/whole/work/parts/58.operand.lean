theorem one_ne : ¬ (1 : Int32) = 0 := by decide
theorem takes_yes {c : zz_S} {v k : Int32} (h : f_Tape_peek c = some v) (hv : v = k) : f_Tape_takes k c = some (1, zz_w c 44 3 (c.1 44 3 + 1)) := by
  unfold f_Tape_takes
  rw [h, Option.bind_some, if_pos hv]
theorem takes_no {c : zz_S} {v k : Int32} (h : f_Tape_peek c = some v) (hv : ¬ v = k) : f_Tape_takes k c = some (0, c) := by
  unfold f_Tape_takes
  rw [h, Option.bind_some, if_neg hv]
theorem pO_close {X : List (Int32 × Int32) → Prop} {c r c2 r2 : zz_S} {N a sz ld op : Nat} (h : pO X c r c2 r2 N a sz ld (op + 1)) : pO X c r c2 (zz_w r2 79 26 (r2.1 79 26 - 1)) N a sz ld op := by
  obtain ⟨h1, h2⟩ := h
  have hF : pF c2 r2 c2 (zz_w r2 79 26 (r2.1 79 26 - 1)) := ⟨⟨fun o a b d => rfl, rfl, fun k a b => rfl⟩, fun o a b d => by simp [w_row, a], rfl, fun k a => by
    have n1 : ¬ k = 26 := by omega
    simp [w_get, n1], fun k a => by simp [w_row]⟩
  have e96 : (zz_w r2 79 26 (r2.1 79 26 - 1)).1 96 = r2.1 96 := by simp [w_row]
  have e97 : (zz_w r2 79 26 (r2.1 79 26 - 1)).1 97 = r2.1 97 := by simp [w_row]
  refine ⟨pF_tr h1 hF, ?_⟩
  rw [e96, e97]
  rcases h2 with ⟨a2, l, q1, q2, q3⟩ | ⟨a2, ld2, q1, q2⟩
  · refine Or.inl ⟨a2, l, q1, ?_, q3⟩
    obtain ⟨k1, k2, ⟨k3, k4⟩, ⟨k5, k6⟩, k7, k8, k9⟩ := q2
    have hd := i_dec (a := r2.1 79 26) (by omega)
    refine ⟨pT_fr k1 hF, k2, ⟨k3, ?_⟩, ⟨k5, ?_⟩, k7, ?_, ?_⟩
    · simp [w_get, k4]
    · simp [w_get, k6]
    · simp [w_get, k8]
    · simp only [w_get, if_true]
      rw [hd, k9]
      omega
  · refine Or.inr ⟨a2, ld2, ?_, q2⟩
    obtain ⟨k1, k2, k3, k4, k5, k6, k7⟩ := q1
    refine ⟨pT_fr k1 hF, k2, ?_, ?_, k5, ?_, ?_⟩
    · simp [w_get, k3]
    · simp [w_get, k4]
    · simp [w_get, k6]
    · simp only [w_get, show ((25 : Nat) = 26) = False by decide, if_false, if_true]
      exact k7
theorem pG_open {c r : zz_S} {N a sz ld op : Nat} (h : pG c r N a sz ld op) (ha : a < N) (ho : op < 6) : f_M_opens r = some (1, zz_w (zz_w r 79 26 (r.1 79 26 + 1)) 79 24 (r.1 79 24 + 1)) ∧ pG (zz_w c 44 3 (c.1 44 3 + 1)) (zz_w (zz_w r 79 26 (r.1 79 26 + 1)) 79 24 (r.1 79 24 + 1)) N (a + 1) sz ld (op + 1) ∧ pF c r (zz_w c 44 3 (c.1 44 3 + 1)) (zz_w (zz_w r 79 26 (r.1 79 26 + 1)) 79 24 (r.1 79 24 + 1)) := by
  have hF : pF c r (zz_w c 44 3 (c.1 44 3 + 1)) (zz_w (zz_w r 79 26 (r.1 79 26 + 1)) 79 24 (r.1 79 24 + 1)) := ⟨⟨fun o a b d => by simp [w_row, a], rfl, fun k a b => by simp [w_get, a]⟩, fun o a b d => by simp [w_row, a], rfl, fun k a => by
    have n1 : ¬ k = 24 := by omega
    have n2 : ¬ k = 26 := by omega
    simp [w_get, n1, n2], fun k a => by simp [w_row]⟩
  obtain ⟨h1, h2, ⟨h3, h4⟩, ⟨h5, h6⟩, h7, h8, h9⟩ := h
  have hN := h1.2.1
  have i1 := i_inc (a := c.1 44 3) (by omega)
  have i2 := i_inc (a := r.1 79 24) (by omega)
  have i3 := i_inc (a := r.1 79 26) (by omega)
  refine ⟨?_, ⟨pT_fr h1 hF, ha, ⟨?_, ?_⟩, ⟨?_, ?_⟩, ?_, ?_, ?_⟩, hF⟩
  · unfold f_M_opens
    rw [if_neg (fun q => by rw [q] at h9; rw [show (6 : Int32).toInt = 6 from rfl] at h9; omega)]
  · simp [w_get, i1, h3]
  · simp [w_get, i2, h4]
  · simp [w_get, h5]
  · simp [w_get, h6]
  · simp [w_get, h7]
  · simp [w_get, h8]
  · simp [w_get, i3, h9]
/-- a name -/
theorem p_name {c r : zz_S} {N a sz ld op : Nat} (hG : pG c r N a sz ld op) (hlt : a < N) (hs : sz ≤ a) (hl : ld ≤ a) {n : Int32} (h0 : 0 ≤ n.toInt) (h7 : n.toInt ≤ 7) :
    ∃ c2 r2, f_Text_add (20000 + n) (zz_w c 44 3 (c.1 44 3 + 1)) = some c2 ∧ f_M_addStep 2 n r = some r2 ∧ pO isX c r c2 (zz_w r2 79 24 (r2.1 79 24 + 1)) N a sz ld op := by
  have ho : opOK (2, n) := Or.inr (Or.inl ⟨rfl, h0, h7⟩)
  have hcc : ccd (2, n) = 20000 + n := by unfold ccd; rw [if_neg (show ¬ (2 : Int32) = 1 by decide), if_pos rfl]
  have hN := hG.1.2.1
  obtain ⟨c2, r2, g1, g2, g3, g4, ⟨g5, g6⟩, g7, g8⟩ := pp_put hG (by omega) (by omega) ho
  have hs0 := hG.2.2.2.2.1
  have ha0 := hG.2.2.1.1
  have i1 := i_inc (a := c.1 44 3) (by omega)
  have e1 : f_Text_add (20000 + n) (zz_w c 44 3 (c.1 44 3 + 1)) = some (zz_w c2 44 3 (c2.1 44 3 + 1)) := by
    have e0 : f_Text_add (20000 + n) c = some c2 := by rw [← hcc]; exact g1
    rw [ta_good hs0 (by omega)] at e0
    have e0 := Option.some.inj e0
    rw [ta_good (sz := sz) (by simp [w_get, hs0]) (by omega), ← e0]
    refine congrArg some (Prod.ext (funext fun o => funext fun k => ?_) rfl)
    simp only [w_get]
    by_cases q1 : o = 45
    · subst q1; simp
    · by_cases q2 : o = 44
      · subst q2; simp
      · simp [q1, q2]
  obtain ⟨k1, k2⟩ := pG_take g3 hlt
  refine ⟨_, r2, e1, g2, pF_tr g4 k2, Or.inl ⟨a + 1, [(2, n)], isX_one ho (Or.inr rfl), k1, Nat.le_refl _, ⟨?_, fun k hk => ?_⟩, ?_, fun k hk => ?_⟩⟩
  · rw [show (zz_w c2 44 3 (c2.1 44 3 + 1)).1 46 = c2.1 46 by simp [w_row]]; exact g5
  · rw [show (zz_w c2 44 3 (c2.1 44 3 + 1)).1 46 = c2.1 46 by simp [w_row]]; exact g6 k hk
  · rw [show (zz_w r2 79 24 (r2.1 79 24 + 1)).1 96 = r2.1 96 by simp [w_row], show (zz_w r2 79 24 (r2.1 79 24 + 1)).1 97 = r2.1 97 by simp [w_row]]; exact g7
  · rw [show (zz_w r2 79 24 (r2.1 79 24 + 1)).1 96 = r2.1 96 by simp [w_row], show (zz_w r2 79 24 (r2.1 79 24 + 1)).1 97 = r2.1 97 by simp [w_row]]; exact g8 k hk
theorem pO_mono {X Y : List (Int32 × Int32) → Prop} (h : ∀ l, X l → Y l) {c r c2 r2 : zz_S} {N a sz ld op : Nat} (k : pO X c r c2 r2 N a sz ld op) : pO Y c r c2 r2 N a sz ld op := by
  obtain ⟨k1, k2⟩ := k
  refine ⟨k1, ?_⟩
  rcases k2 with ⟨a2, l, q1, q2⟩ | q
  · exact Or.inl ⟨a2, l, h l q1, q2⟩
  · exact Or.inr q
theorem lv_operand (R1 : Int32 → Int32 → zz_S → Option zz_S) (R2 : Int32 → zz_S → Option zz_S) (v2 : Int32) (g1 g2 ge go g5 g6 : zz_S → Option zz_S) (op : Nat) (hv2 : v2.toInt = op) (hop : op ≤ 6)
    (hE : op < 6 → SP isX (R1 0 (v2 + 1)) ge (op + 1)) (hO : op < 6 → SP isX (R2 (v2 + 1)) go (op + 1)) :
    SP isX (f_Tape_readOperand R1 R2 v2) (f_M_operand g1 g2 ge go g5 g6) op := by
  intro c r N a sz ld hG hs hl
  obtain ⟨v, w, p1, p2, p3, p4⟩ := pk_good hG
  have hN := hG.1.2.1
  have hle := hG.2.1
  have l6 : (6 : Int32).toInt = 6 := rfl
  obtain ⟨⟨e33, e40, e41, e45, -, -⟩, ⟨hdg, hdd⟩, ⟨hnm, hn1, hn7⟩, -⟩ := id p3
  have start : f_Tape_readOperand R1 R2 v2 c = (if (f_Tape_isDigit v) = 0 then
    if f_M_nameOf w < 0 then
      if v2 < (6 : Int32) then
        (f_Tape_takes (40 : Int32) c).bind fun q7 =>
        if q7.1 = 0 then
          (f_Tape_takes (33 : Int32) q7.2).bind fun q9 =>
          if q9.1 = 0 then
            (f_Tape_takes (45 : Int32) q9.2).bind fun q11 =>
            if q11.1 = 0 then
              some (f_Tape_fail q11.2)
            else
              (R2 (v2 + (1 : Int32)) q11.2).bind fun q13 =>
              (f_Text_add (-126 : Int32) q13).bind fun q14 =>
              some q14
          else
            (R2 (v2 + (1 : Int32)) q9.2).bind fun q15 =>
            (f_Text_add (-33 : Int32) q15).bind fun q16 =>
            some q16
        else
          (R1 (0 : Int32) (v2 + (1 : Int32)) q7.2).bind fun q17 =>
          (f_Tape_takes (41 : Int32) q17).bind fun q18 =>
          if q18.1 = 0 then
            some (f_Tape_fail q18.2)
          else
            some q18.2
      else
        some (f_Tape_fail c)
    else
      (f_Text_add ((20000 : Int32) + f_M_nameOf w) (zz_w c 44 3 ((c.1 44 3) + (1 : Int32)))).bind fun q20 =>
      some q20
  else
    (f_Tape_readNumber c).bind fun q21 =>
    some q21) := by
    unfold f_Tape_readOperand
    rw [p1, Option.bind_some, hnm, Option.bind_some, Option.bind_some]
  rw [start]
  unfold f_M_operand
  rw [p2, Option.bind_some]
  by_cases d : f_Tape_isDigit v = 0
  · rw [if_pos d]
    by_cases hn : f_M_nameOf w < 0
    · rw [if_pos hn, if_pos hn]
      -- no operand begins so
      have none_ : ∀ (c1 : zz_S), c1 = c → ∃ c2 r2, some (f_Tape_fail c1) = some c2 ∧ ((f_M_figure r).bind fun q11 => some q11) = some r2 ∧ pO isX c r c2 r2 N a sz ld op := by
        intro c1 hc1
        obtain ⟨r2, k1, k2⟩ := fig_none hG hs hl p2 p3 d
        exact ⟨f_Tape_fail c, r2, by rw [hc1], by rw [k1]; rfl, k2⟩
      by_cases ho : op < 6
      · rw [if_pos (by rw [i_lt, l6]; omega)]
        -- a sign ahead of one
        have un : ∀ (k cd st : Int32), v = k → w = k → ¬ k = -1 → ccd (st, 0) = cd → (st = 3 ∨ st = 4) → ∃ c2 r2, ((R2 (v2 + (1 : Int32)) (zz_w c 44 3 (c.1 44 3 + 1))).bind fun q13 => (f_Text_add cd q13).bind fun q14 => some q14) = some c2 ∧ ((f_M_opens r).bind fun q4 => if q4.1 = 0 then some q4.2 else (go q4.2).bind fun q6 => f_M_operand_J80 g1 g2 ge go g5 g6 st (zz_w q6 79 26 ((q6.1 79 26) - (1 : Int32)))) = some r2 ∧ pO isX c r c2 r2 N a sz ld op := by
          intro k cd st hv hw hk hcd hst
          have hlt : a < N := p4.resolve_left fun q => hk (by rw [← hv]; exact q)
          obtain ⟨j1, j2, j3⟩ := pG_open hG hlt ho
          obtain ⟨c2, r2, m1, m2, m3⟩ := hO ho _ _ N (a + 1) sz ld j2 (by omega) (by omega)
          have ho3 : opOK (st, 0) := by
            rcases hst with q | q
            · exact Or.inr (Or.inr (Or.inl q))
            · exact Or.inr (Or.inr (Or.inr (Or.inl q)))
          obtain ⟨c3, r3, i1, i2, i3⟩ := p_add ho3 hs hl (pO_close m3)
          rw [hcd] at i1
          refine ⟨c3, r3, by rw [m1, Option.bind_some, i1]; rfl, ?_, ?_⟩
          · rw [j1, Option.bind_some, if_neg one_ne, m2, Option.bind_some]
            unfold f_M_operand_J80
            rw [i2]
            rfl
          · refine pO_mono ?_ (pO_from j3 (by simp [w_row]) (by simp [w_row]) (by simp [w_row]) i3)
            rintro m ⟨l, hl, rfl⟩
            exact isX_un hl hst
        by_cases c40 : v = 40
        · have w40 : w = 40 := e40.mp c40
          have hlt : a < N := p4.resolve_left fun q => by rw [q] at c40; exact absurd c40 (by decide)
          rw [takes_yes p1 c40, Option.bind_some, if_neg one_ne, if_neg (by rw [w40]; decide), if_neg (by rw [w40]; decide), if_pos w40]
          obtain ⟨j1, j2, j3⟩ := pG_open hG hlt ho
          obtain ⟨c2, r2, m1, m2, m3⟩ := hE ho _ _ N (a + 1) sz ld j2 (by omega) (by omega)
          rw [j1, Option.bind_some, if_neg one_ne, m1, Option.bind_some, m2, Option.bind_some]
          have m3 := pO_from j3 (by simp [w_row]) (by simp [w_row]) (by simp [w_row]) m3
          obtain ⟨hF, hk⟩ := m3
          rcases hk with ⟨a2, l, q1, q2, q3, ⟨q4, q5⟩, q6, q7⟩ | ⟨a2, ld2, q1, q2⟩
          · obtain ⟨v', w', s1, s2, s3, s4⟩ := pk_good q2
            have hf : r2.1 79 25 < 0 := by rw [q2.2.2.2.1.2]; decide
            have hle2 := q2.2.1
            rw [if_pos hf, s2, Option.bind_some]
            by_cases c41 : v' = 41
            · have hlt2 : a2 < N := s4.resolve_left fun q => by rw [q] at c41; exact absurd c41 (by decide)
              rw [takes_yes s1 c41, Option.bind_some, if_neg one_ne, if_pos (s3.1.2.2.1.mp c41)]
              obtain ⟨t1, t2⟩ := pG_take q2 hlt2
              refine ⟨_, _, rfl, rfl, ?_⟩
              have hO' : pO isX c r (zz_w c2 44 3 (c2.1 44 3 + 1)) (zz_w r2 79 24 (r2.1 79 24 + 1)) N a sz ld (op + 1) := by
                refine ⟨pF_tr hF t2, Or.inl ⟨a2 + 1, l, q1, t1, by omega, ⟨?_, ?_⟩, ?_, ?_⟩⟩
                · rw [show (zz_w c2 44 3 (c2.1 44 3 + 1)).1 46 = c2.1 46 by simp [w_row]]; exact q4
                · rw [show (zz_w c2 44 3 (c2.1 44 3 + 1)).1 46 = c2.1 46 by simp [w_row]]; exact q5
                · rw [show (zz_w r2 79 24 (r2.1 79 24 + 1)).1 96 = r2.1 96 by simp [w_row], show (zz_w r2 79 24 (r2.1 79 24 + 1)).1 97 = r2.1 97 by simp [w_row]]; exact q6
                · rw [show (zz_w r2 79 24 (r2.1 79 24 + 1)).1 96 = r2.1 96 by simp [w_row], show (zz_w r2 79 24 (r2.1 79 24 + 1)).1 97 = r2.1 97 by simp [w_row]]; exact q7
              have hO' := pO_close hO'
              rw [show (zz_w r2 79 24 (r2.1 79 24 + 1)).1 79 26 = r2.1 79 26 by simp [w_get]] at hO'
              exact hO'
            · rw [takes_no s1 c41, Option.bind_some, if_pos rfl, if_neg (fun q => c41 (s3.1.2.2.1.mpr q))]
              obtain ⟨t1, t2⟩ := p_fail q2 (by omega)
              exact ⟨_, _, rfl, rfl, pF_tr hF t2, Or.inr ⟨a2, ld + l.length, t1, by omega⟩⟩
          · obtain ⟨⟨v', u, d1, d2, d3⟩, -⟩ := pk_bad q1
            have h41 : ¬ v' = 41 := fun q => by
              rcases d3 with d3 | d3
              · rw [q] at d3; exact absurd d3 (by decide)
              · rw [q, show (41 : Int32).toInt = 41 from rfl] at d3; omega
            have hf : ¬ r2.1 79 25 < 0 := by
              have := isfault q1
              rw [i_lt]
              rw [i_le] at this
              omega
            obtain ⟨t1, t2, -, -⟩ := p_fail2 q1
            rw [takes_no d1 h41, Option.bind_some, if_pos rfl, if_neg hf]
            exact ⟨_, _, rfl, rfl, pF_tr hF t2, Or.inr ⟨a2, ld2, t1, by omega⟩⟩
        · have w40 : ¬ w = 40 := fun q => c40 (e40.mpr q)
          rw [takes_no p1 c40, Option.bind_some, if_pos rfl]
          by_cases c33 : v = 33
          · have w33 : w = 33 := e33.mp c33
            rw [takes_yes p1 c33, Option.bind_some, if_neg one_ne, if_pos w33]
            obtain ⟨c2, r2, k1, k2, k3⟩ := un 33 (-33) 3 c33 w33 (by decide) (by decide) (Or.inl rfl)
            refine ⟨c2, r2, k1, ?_, k3⟩
            rw [← k2]
            unfold f_M_operand_J46
            rw [w33]
            rfl
          · have w33 : ¬ w = 33 := fun q => c33 (e33.mpr q)
            rw [takes_no p1 c33, Option.bind_some, if_pos rfl, if_neg w33]
            by_cases c45 : v = 45
            · have w45 : w = 45 := e45.mp c45
              rw [takes_yes p1 c45, Option.bind_some, if_neg one_ne, if_pos w45]
              obtain ⟨c2, r2, k1, k2, k3⟩ := un 45 (-126) 4 c45 w45 (by decide) (by decide) (Or.inr rfl)
              refine ⟨c2, r2, k1, ?_, k3⟩
              rw [← k2]
              unfold f_M_operand_J46
              rw [w45]
              rfl
            · have w45 : ¬ w = 45 := fun q => c45 (e45.mpr q)
              rw [takes_no p1 c45, Option.bind_some, if_pos rfl, if_neg w45, if_neg w40]
              exact none_ c rfl
      · have ho6 : op = 6 := by omega
        rw [if_neg (by rw [i_lt, l6]; omega)]
        have op6 : r.1 79 26 = 6 := i_lit (by rw [hG.2.2.2.2.2.2, ho6]; rfl)
        have eo : f_M_opens r = some (0, f_M_faulty r) := by unfold f_M_opens; rw [if_pos op6]
        obtain ⟨t1, t2⟩ := p_fail hG (by omega)
        have both : ∃ c2 r2, some (f_Tape_fail c) = some c2 ∧ some (f_M_faulty r) = some r2 ∧ pO isX c r c2 r2 N a sz ld op := ⟨_, _, rfl, rfl, t2, Or.inr ⟨a, ld, t1, by omega⟩⟩
        by_cases c33 : w = 33
        · rw [if_pos c33]
          unfold f_M_operand_J46
          rw [eo]
          exact both
        · rw [if_neg c33]
          by_cases c45 : w = 45
          · rw [if_pos c45]
            unfold f_M_operand_J46
            rw [eo]
            exact both
          · rw [if_neg c45]
            by_cases c40 : w = 40
            · rw [if_pos c40, eo]
              exact both
            · rw [if_neg c40]
              exact none_ c rfl
    · rw [if_neg hn, if_neg hn]
      have h0 : 0 ≤ (f_M_nameOf w).toInt := by
        rw [i_lt, show (0 : Int32).toInt = 0 from rfl] at hn
        omega
      have hlt : a < N := p4.resolve_left fun q => by
        rw [q, show f_Tape_placeIn 0 (-1) = some (-1) from rfl] at hnm
        rw [← Option.some.inj hnm] at h0
        exact absurd h0 (by decide)
      obtain ⟨c2, r2, k1, k2, k3⟩ := p_name hG hlt hs hl h0 hn7
      exact ⟨c2, _, by rw [k1]; rfl, by rw [k2]; rfl, k3⟩
  · rw [if_neg d]
    obtain ⟨-, -, -, x1, x2, x3, x4⟩ := hdd d
    have w33 : ¬ w = 33 := fun q => x2 (e33.mpr q)
    have w40 : ¬ w = 40 := fun q => x3 (e40.mpr q)
    have w45 : ¬ w = 45 := fun q => x4 (e45.mpr q)
    rw [if_pos (by rw [x1]; decide), if_neg w33, if_neg w45, if_neg w40]
    obtain ⟨c2, r2, k1, k2, k3⟩ := fig_first hG hs hl p1 p2 p3 p4 d
    exact ⟨c2, r2, by rw [k1]; rfl, by rw [k2]; rfl, k3⟩
