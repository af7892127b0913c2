theorem turn_ofE {c r : zz_S} {S C W B i : Nat} {i' cells m : Int32} (hs : nS c r S C W) (hw : nW c r) (hd : nE c r S C W B) (hi : i < S) (hi' : i'.toInt = i) (hc : -20 ≤ cells.toInt ∧ cells.toInt ≤ 20) (hc0 : ¬ cells.toInt = 0) (hm : 0 ≤ m.toInt) (hB : B ≤ 900000000) :
    ∃ c2 r2, f_Night_turnOver i' cells m c = some c2 ∧ f_M_turnNow i' cells m r = some r2 ∧ nE c2 r2 S C W (B + 20) ∧ tF c r c2 r2 := by
  have l0 : (0 : Int32).toInt = 0 := rfl
  obtain ⟨h1, h2, h3⟩ := hd.2.2.2.1 i hi
  have hS6 : S ≤ 6 := hs.2.1.2
  have z1 : zz_in i' 6 = true := i_in.mpr (by omega)
  have ki := nz_eq hi'
  -- the way now against the one before
  have go : ∀ way : Int32, (way = 1 ∧ 0 < cells.toInt ∨ way = -1 ∧ cells.toInt < 0) → ∃ c2 r2, f_Night_turnOver_J9 i' cells m way c = some c2 ∧ f_M_turnNow_J9 i' cells m way r = some r2 ∧ nE c2 r2 S C W (B + 20) ∧ tF c r c2 r2 := by
    intro way hway
    have hway2 : way = 1 ∨ way = -1 := by rcases hway with ⟨h, -⟩ | ⟨h, -⟩ <;> simp [h]
    have hlw : c.1 29 i = 0 ∨ c.1 29 i = 1 ∨ c.1 29 i = -1 := by
      have : (c.1 29 i).toInt = 0 ∨ (c.1 29 i).toInt = 1 ∨ (c.1 29 i).toInt = -1 := by omega
      rcases this with q | q | q
      · exact Or.inl (i_lit (b := 0) q)
      · exact Or.inr (Or.inl (i_lit (b := 1) q))
      · exact Or.inr (Or.inr (i_lit (b := -1) q))
    have neg : ((-1 : Int32) * cells).toInt = -cells.toInt := by
      rw [i_mul (by rw [show (-1 : Int32).toInt = -1 from rfl]; omega) (by rw [show (-1 : Int32).toInt = -1 from rfl]; omega), show (-1 : Int32).toInt = -1 from rfl]; omega
    unfold f_Night_turnOver_J9 f_M_turnNow_J9 f_M_turnNow_J35 f_M_turnNow_J36
    rw [if_pos z1, ki, h1]
    have core := fun back hb => turn_coreE (back := back) hs hw ⟨hd.1, hd.2.1, hd.2.2.1, hd.2.2.2.1, hd.2.2.2.2.1, hd.2.2.2.2.2⟩ hi hi' hc hm hB hway2 hb
    rcases hlw with q | q | q
    · have e := core 0 (by rw [q, Int32.zero_mul]; rfl)
      rw [if_pos q]
      exact e
    · have n0 : ¬ c.1 29 i = 0 := by rw [q]; decide
      rw [if_neg n0]
      rcases hway with ⟨rfl, hp⟩ | ⟨rfl, hp⟩
      · have e := core 0 (by rw [q, Int32.one_mul, if_pos (by rw [i_le, l0]; omega)])
        rw [if_pos q]
        exact e
      · have e := core 1 (by rw [q, Int32.one_mul, if_neg (by rw [i_le, l0]; omega)])
        rw [if_neg (by rw [q]; decide)]
        exact e
    · have n0 : ¬ c.1 29 i = 0 := by rw [q]; decide
      rw [if_neg n0]
      rcases hway with ⟨rfl, hp⟩ | ⟨rfl, hp⟩
      · have e := core 1 (by rw [q, if_neg (by rw [i_le, l0, neg]; omega)])
        rw [if_neg (by rw [q]; decide)]
        exact e
      · have e := core 0 (by rw [q, if_pos (by rw [i_le, l0, neg]; omega)])
        rw [if_pos q]
        exact e
  unfold f_Night_turnOver f_M_turnNow
  by_cases q : (0 : Int32) ≤ cells
  · rw [if_pos q, if_pos q]
    rw [i_le, l0] at q
    exact go 1 (Or.inl ⟨rfl, by omega⟩)
  · rw [if_neg q, if_neg q]
    rw [i_le, l0] at q
    exact go (-1) (Or.inr ⟨rfl, by omega⟩)
/-! the night: what warms beside the room -/
theorem nE_mono {c r : zz_S} {S C W B B2 : Nat} (h : nE c r S C W B) (hB : B ≤ B2) : nE c r S C W B2 := by
  obtain ⟨h1, h2, h3⟩ := h
  exact ⟨h1, fun k hk => ⟨(h2 k hk).1, by have := (h2 k hk).2.1; omega, (h2 k hk).2.2⟩, h3⟩
/-- nE rests on some cells alone -/
theorem nE_fr {c r c2 r2 : zz_S} {S C W B : Nat} (h : nE c r S C W B) (hc : ∀ o, o = 3 ∨ o = 7 ∨ (25 ≤ o ∧ o ≤ 27) ∨ (28 ≤ o ∧ o ≤ 29) ∨ (33 ≤ o ∧ o ≤ 34) ∨ o = 36 → c2.1 o = c.1 o) (hc2 : c2.2 = c.2) (hr : ∀ o, (103 ≤ o ∧ o ≤ 105) ∨ o = 113 → r2.1 o = r.1 o) : nE c2 r2 S C W B := by
  unfold nE nP nQ at h ⊢
  rw [hc 3 (by omega), hc 7 (by omega), hc 25 (by omega), hc 27 (by omega), hc 28 (by omega), hc 29 (by omega), hc 33 (by omega), hc 34 (by omega), hc 36 (by omega), hc2, hr 103 (by omega), hr 104 (by omega), hr 105 (by omega), hr 113 (by omega)]
  exact h
theorem told_loopE {c0 r0 : zz_S} {S C W T : Nat} {m' p' : Int32} {m p : Nat} (hm : m'.toInt = m) (hp : p'.toInt = p) (hlow : ∀ a, a < p → a < T → tm c0 a < m) (hhigh : ∀ a, p ≤ a → a < T → (m : Int) ≤ tm c0 a) :
    ∀ (q k n n2 : Nat) (k' : Int32) (c r : zz_S) (j B : Nat), k + q = T → k'.toInt = k → q < n → q < n2 → B + 20 * q ≤ 900000000 → nS c r S C W → nW c r → nT c r T → nE c r S C W B → tk c = tk c0 → tm c = tm c0 → (c.1 20 12).toInt = j → p ≤ j → j ≤ T →
      (∀ i, i < k → (c.1 11 i).toInt = m → ∃ a, p ≤ a ∧ a < j ∧ tk c a = i) → (∀ a, p ≤ a → a < j → tm c a = m ∧ tk c a < k) →
      ∃ c2 r2 : zz_S, ∃ j2 : Nat, f_Night_doTold_L5 n m' p' c = f_Night_doTold_J117 p' c2 ∧ f_M_minute_L2 n2 m' k' r = some r2 ∧ mF c r c2 r2 ∧ nE c2 r2 S C W (B + 20 * q) ∧ c2.1 35 = c.1 35 ∧ (c2.1 20 12).toInt = j2 ∧ j ≤ j2 ∧ j2 ≤ T ∧ (∀ a, a < j2 → a < T → tm c0 a ≤ m) ∧ (∀ a, j2 ≤ a → a < T → (m : Int) < tm c0 a) ∧ (j2 = j → nE c2 r2 S C W B ∧ c2.1 = c.1 ∧ c2.2 = c.2) := by
  have l0 : (0 : Int32).toInt = 0 := rfl
  intro q
  induction q with
  | zero =>
    intro k n n2 k' c r j B hk hk' hn hn2 hB hs hw hT hD htk htm hj hpj hjT hb1 hb2
    obtain ⟨n, rfl⟩ : ∃ x, n = x + 1 := ⟨n - 1, by omega⟩
    obtain ⟨n2, rfl⟩ : ∃ x, n2 = x + 1 := ⟨n2 - 1, by omega⟩
    have hkT : k = T := by omega
    subst hkT
    have hT10 := hT.2.1.1
    have hT60 := hT.2.1.2
    -- nothing of this minute is left
    have hno : ∀ a, j ≤ a → a < k → (m : Int) < tm c0 a := by
      intro a h1 h2
      rw [← htm]
      have h3 : (m : Int) ≤ tm c a := by rw [htm]; exact hhigh a (by omega) h2
      by_cases e : tm c a = m
      · obtain ⟨a2, b1, b2, b3⟩ := hb1 (tk c a) (tk_lt hT h2).1 e
        have := tk_lex hT (show a2 < a by omega) h2
        rw [(hb2 a2 b1 b2).1, e, b3] at this
        omega
      · omega
    refine ⟨c, r, j, ?_, ?_, mF_me c r, hD, rfl, hj, Nat.le_refl _, hjT, fun a h1 h2 => ?_, hno, fun _ => ⟨hD, rfl, rfl⟩⟩
    · rw [f_Night_doTold_L5]
      by_cases e : c.1 10 0 ≤ c.1 20 12
      · rw [if_pos e]
      · rw [if_neg e]
        rw [i_le] at e
        have hjl : j < k := by omega
        have h1 := tk_lt hT hjl
        rw [if_pos (i_in.mpr (by omega)), nz_eq hj, if_pos (i_in.mpr (by omega)), nz_eq h1.2, if_neg]
        intro e2
        have h3 := hno j (Nat.le_refl _) hjl
        rw [← htm] at h3
        have : (c.1 11 (tk c j)).toInt = m'.toInt := by rw [e2]
        unfold tm at h3
        omega
    · rw [f_M_minute_L2, if_pos (by rw [i_le, hT.1.1]; omega)]
    · by_cases e : a < p
      · have := hlow a e h2; omega
      · rw [← htm, (hb2 a (by omega) h1).1]
        omega
  | succ q ih =>
    intro k n n2 k' c r j B hk hk' hn hn2 hB hs hw hT hD htk htm hj hpj hjT hb1 hb2
    obtain ⟨n2, rfl⟩ : ∃ x, n2 = x + 1 := ⟨n2 - 1, by omega⟩
    have hT10 := hT.2.1.1
    have hT60 := hT.2.1.2
    have hkT : k < T := by omega
    have hk1 := i_inc (a := k') (by omega)
    have zk : zz_in k' 60 = true := i_in.mpr (by omega)
    have hT' := hT
    obtain ⟨⟨r12, r88, r89, r90⟩, -, hok, -, r51, hon1, hon2⟩ := hT
    have hokk := hok k hkT
    have e2 : f_M_minute_L2 (n2 + 1) m' k' r = (if (c.1 11 k) = m' then
      if (c.1 1 1) ≤ (c.1 12 k) then
        f_M_minute_L2 n2 m' (k' + (1 : Int32)) r
      else
        if (c.1 20 14) < 0 then
          f_M_minute_J53 (f_M_minute_L2 n2) m' k' r
        else
          if (c.1 12 k) = (c.1 20 14) then
            f_M_minute_J53 (f_M_minute_L2 n2) m' k' r
          else
            f_M_minute_L2 n2 m' (k' + (1 : Int32)) r
    else
      f_M_minute_L2 n2 m' (k' + (1 : Int32)) r) := by
      rw [f_M_minute_L2, if_neg (by rw [i_le, r12]; omega), if_pos zk, nz_eq hk', r88, r89, r51, hs.2.2.2.1.2.1]
    by_cases hit : (c.1 11 k).toInt = m
    · -- a turn of this minute
      have hT := hT'
      obtain ⟨a, ha, ha2⟩ := hT.2.2.2.1.2.1 k hkT
      have hta : tk c a = k := by unfold tk; omega
      have hma : tm c a = m := by unfold tm; rw [hta]; exact hit
      have haj : a = j := by
        by_cases l1 : a < j
        · by_cases l2 : a < p
          · have := hlow a l2 ha
            rw [← htm, hma] at this
            omega
          · have := (hb2 a (by omega) l1).2
            omega
        · by_cases l3 : j < a
          · have hx := tk_lex hT l3 ha
            have hmj : (m : Int) ≤ tm c j := by rw [htm]; exact hhigh j hpj (by omega)
            rw [hma, hta] at hx
            have hx2 : tm c j = m ∧ tk c j < k := by omega
            obtain ⟨a2, b1, b2, b3⟩ := hb1 (tk c j) hx2.2 hx2.1
            have := tk_lex hT (show a2 < j from b2) (by omega)
            rw [(hb2 a2 b1 b2).1, hx2.1, b3] at this
            omega
          · omega
      subst haj
      obtain ⟨n, rfl⟩ : ∃ x, n = x + 1 := ⟨n - 1, by omega⟩
      have h14 : (c.1 14 a).toInt = k := ha2
      have hme : c.1 11 k = m' := i_lit (by omega)
      have e1 : f_Night_doTold_L5 (n + 1) m' p' c = (if (f_Bed_hasSleeper (c.1 12 k) c) = 0 then
        f_Night_doTold_J104 (f_Night_doTold_L5 n) m' p' c
      else
        if (c.1 20 14) = (-1 : Int32) then
          f_Night_doTold_J88 (f_Night_doTold_L5 n) m' p' (c.1 14 a) (c.1 12 k) c
        else
          if (c.1 20 14) = (c.1 12 k) then
            f_Night_doTold_J88 (f_Night_doTold_L5 n) m' p' (c.1 14 a) (c.1 12 k) c
          else
            f_Night_doTold_J104 (f_Night_doTold_L5 n) m' p' c) := by
        rw [f_Night_doTold_L5, if_neg (by rw [i_le]; omega), if_pos (i_in.mpr (by omega)), nz_eq hj, if_pos (i_in.mpr (by omega)), nz_eq h14, if_pos hme]
      have hhas : f_Bed_hasSleeper (c.1 12 k) c = 0 ↔ c.1 1 1 ≤ c.1 12 k := by
        unfold f_Bed_hasSleeper
        rw [if_neg (by rw [i_lt, l0]; have := hokk.2.2.1; omega)]
        by_cases q : c.1 1 1 ≤ c.1 12 k
        · rw [if_pos q]; simp [q]
        · rw [if_neg q]; simp [q]
      have hji := i_inc (a := c.1 20 12) (by omega)
      -- on with the next one
      have step : ∀ (c1 r1 : zz_S) (B1 : Nat), B1 + 20 * q ≤ B + 20 * (q + 1) → nS c1 r1 S C W → nW c1 r1 → nT c1 r1 T → nE c1 r1 S C W B1 → mF c r c1 r1 → c1.1 35 = c.1 35 → c1.1 20 12 = c.1 20 12 →
          ∃ c2 r2 : zz_S, ∃ j2 : Nat, f_Night_doTold_J104 (f_Night_doTold_L5 n) m' p' c1 = f_Night_doTold_J117 p' c2 ∧ f_M_minute_L2 n2 m' (k' + 1) r1 = some r2 ∧ mF c r c2 r2 ∧ nE c2 r2 S C W (B + 20 * (q + 1)) ∧ c2.1 35 = c.1 35 ∧ (c2.1 20 12).toInt = j2 ∧ a ≤ j2 ∧ j2 ≤ T ∧ (∀ a, a < j2 → a < T → tm c0 a ≤ m) ∧ (∀ a, j2 ≤ a → a < T → (m : Int) < tm c0 a) ∧ (j2 = a → nE c2 r2 S C W B ∧ c2.1 = c.1 ∧ c2.2 = c.2) := by
        intro c1 r1 B1 hB1 s1 s2 s3 s4 s5 s6 s7
        obtain ⟨y1, y2⟩ := mF_tk s5
        have hc1o : ∀ o, o ≠ 20 → (zz_w c1 20 12 (c1.1 20 12 + 1)).1 o = c1.1 o := fun o ho => by rw [w_row, if_neg ho]
        have hc1k : ∀ x, x ≠ 12 → (zz_w c1 20 12 (c1.1 20 12 + 1)).1 20 x = c1.1 20 x := fun x hx => by rw [w_get, if_pos rfl, if_neg hx]
        have hF1 : mF c1 r1 (zz_w c1 20 12 (c1.1 20 12 + 1)) r1 := ⟨⟨fun o h _ _ _ _ _ _ _ _ _ _ _ _ _ _ => hc1o o h, fun x hx _ => hc1k x hx, fun _ _ _ => rfl⟩, fun _ _ _ _ => rfl, fun _ _ => rfl, rfl⟩
        have hF := mF_tr s5 hF1
        obtain ⟨z1, z2⟩ := mF_tk hF
        have e20 : ((zz_w c1 20 12 (c1.1 20 12 + 1)).1 20 12).toInt = (a + 1 : Nat) := by
          rw [w_get, if_pos rfl, if_pos rfl, s7]
          omega
        have e11 : (zz_w c1 20 12 (c1.1 20 12 + 1)).1 11 = c.1 11 := by rw [hc1o 11 (by decide), s5.1.1 11 (by decide) (by decide) (by decide) (by decide) (by decide) (by decide) (by decide) (by decide) (by decide) (by decide) (by decide) (by decide) (by decide) (by decide) (by decide)]
        obtain ⟨c2, r2, j2, g1, g2, g3, g4, g5, g6, g7, g8, g9, g10, -⟩ := ih (k + 1) n n2 (k' + 1) (zz_w c1 20 12 (c1.1 20 12 + 1)) r1 (a + 1) B1 (by omega) (by omega) (by omega) (by omega) (by omega) (mF_nS hF1 s1) (mF_nW hF1 s2) (mF_nT hF1 s3) (nE_fr s4 (fun o ho => hc1o o (by omega)) rfl (fun _ _ => rfl)) (by rw [z1]; exact htk) (by rw [z2]; exact htm) e20 (by omega) (by omega) (fun i hi hmi => by
          rw [e11] at hmi
          rw [z1]
          by_cases ek : i = k
          · exact ⟨a, hpj, by omega, by rw [ek]; exact hta⟩
          · obtain ⟨a2, b1, b2, b3⟩ := hb1 i (by omega) hmi
            exact ⟨a2, b1, by omega, b3⟩) (fun a2 h1 h2 => by
          rw [z1, z2]
          by_cases ea : a2 = a
          · rw [ea]; exact ⟨hma, by omega⟩
          · have := hb2 a2 h1 (by omega)
            exact ⟨this.1, by omega⟩)
        refine ⟨c2, r2, j2, g1, g2, mF_tr hF g3, nE_mono g4 hB1, ?_, g6, by omega, g8, g9, g10, fun h => by omega⟩
        rw [g5, hc1o 35 (by decide), s6]
      -- it is left out
      have skip := step c r B (by omega) hs hw hT hD (mF_me c r) rfl rfl
      -- it is done
      have do_ : ¬ c.1 1 1 ≤ c.1 12 k → ∃ c2 r2 : zz_S, ∃ j2 : Nat, f_Night_doTold_J88 (f_Night_doTold_L5 n) m' p' (c.1 14 a) (c.1 12 k) c = f_Night_doTold_J117 p' c2 ∧ f_M_minute_J53 (f_M_minute_L2 n2) m' k' r = some r2 ∧ mF c r c2 r2 ∧ nE c2 r2 S C W (B + 20 * (q + 1)) ∧ c2.1 35 = c.1 35 ∧ (c2.1 20 12).toInt = j2 ∧ a ≤ j2 ∧ j2 ≤ T ∧ (∀ a, a < j2 → a < T → tm c0 a ≤ m) ∧ (∀ a, j2 ≤ a → a < T → (m : Int) < tm c0 a) ∧ (j2 = a → nE c2 r2 S C W B ∧ c2.1 = c.1 ∧ c2.2 = c.2) := by
        intro hS
        rw [i_le, hs.2.1.1] at hS
        obtain ⟨o1, o2, o3, o4, o5, o6, o7⟩ := hokk
        obtain ⟨c1, r1, g1, g2, g3, g4⟩ := turn_ofE (i := (c.1 12 k).toInt.toNat) (i' := c.1 12 k) (cells := c.1 13 k) (m := m') hs hw hD (by omega) (by omega) ⟨o5, o6⟩ o7 (by omega) (by omega)
        have hF := mF_of g4
        have := step c1 r1 (B + 20) (by omega) (mF_nS hF hs) (mF_nW hF hw) (mF_nT hF hT) g3 hF (g4.1.1 35 (by decide) (by decide) (by decide) (by decide) (by decide) (by decide) (by decide) (by decide) (by decide) (by decide) (by decide) (by decide) (by decide)) (by rw [g4.1.1 20 (by decide) (by decide) (by decide) (by decide) (by decide) (by decide) (by decide) (by decide) (by decide) (by decide) (by decide) (by decide) (by decide)])
        unfold f_Night_doTold_J88 f_M_minute_J53
        rw [if_pos (i_in.mpr (by omega)), nz_eq h14, g1, Option.bind_some, if_pos zk, nz_eq hk', r89, r90, g2, Option.bind_some]
        exact this
      rw [e1, e2, if_pos hme]
      by_cases hS : c.1 1 1 ≤ c.1 12 k
      · rw [if_pos (hhas.mpr hS), if_pos hS]
        exact skip
      · rw [if_neg (fun q => hS (hhas.mp q)), if_neg hS]
        by_cases ho : c.1 20 14 = -1
        · rw [if_pos ho, if_pos (by rw [ho]; decide)]
          exact do_ hS
        · have ho' : ¬ c.1 20 14 < 0 := by
            rw [i_lt, l0]
            intro h
            exact ho (i_lit (b := -1) (by rw [show (-1 : Int32).toInt = -1 from rfl]; omega))
          rw [if_neg ho, if_neg ho']
          by_cases ho2 : c.1 20 14 = c.1 12 k
          · rw [if_pos ho2, if_pos ho2.symm]
            exact do_ hS
          · rw [if_neg ho2, if_neg (fun q => ho2 q.symm)]
            exact skip
    · -- not of this minute: the reference alone goes on
      have hT := hT'
      have hne : ¬ c.1 11 k = m' := fun q => hit (by rw [q, hm])
      rw [e2, if_neg hne]
      obtain ⟨c2, r2, j2, g1, g2, g3, g4, g5⟩ := ih (k + 1) n n2 (k' + 1) c r j B (by omega) (by omega) (by omega) (by omega) (by omega) hs hw hT hD htk htm hj hpj hjT (fun i hi hmi => by
        by_cases ek : i = k
        · rw [ek] at hmi; exact absurd hmi hit
        · exact hb1 i (by omega) hmi) (fun a h1 h2 => ⟨(hb2 a h1 h2).1, by have := (hb2 a h1 h2).2; omega⟩)
      exact ⟨c2, r2, j2, g1, g2, g3, nE_mono g4 (by omega), g5⟩
theorem told_ofE {c r : zz_S} {S C W T B m : Nat} {m' : Int32} (hm : m'.toInt = m) (hs : nS c r S C W) (hw : nW c r) (hT : nT c r T) (hD : nE c r S C W B) (hB : B ≤ 800000000) (hown : ∀ i, i < S → (c.1 35 i).toInt = wOwn c C i) (hX : nX c T m) :
    ∃ c2 r2, f_Night_doTold m' c = some c2 ∧ f_M_minute m' r = some r2 ∧ mF c r c2 r2 ∧ nE c2 r2 S C W (B + 1200) ∧ (∀ i, i < S → (c2.1 35 i).toInt = wOwn c2 C i) ∧ nX c2 T (m + 1) := by
  obtain ⟨p, p1, p2, p3, p4⟩ := hX
  have hT60 := hT.2.1.2
  obtain ⟨c2, r2, j2, g1, g2, g3, g4, g5, g6, g7, g8, g9, g10, g11⟩ := told_loopE (c0 := c) (r0 := r) hm p1 p3 p4 T 0 zF zF 0 c r p B (by omega) rfl (by unfold zF; omega) (by unfold zF; omega) (by omega) hs hw hT hD rfl rfl p1 (Nat.le_refl _) p2 (fun i hi => by omega) (fun a h1 h2 => by omega)
  have hx : ∀ c3 : zz_S, tm c3 = tm c → c3.1 20 12 = c2.1 20 12 → nX c3 T (m + 1) := fun c3 h1 h2 => by
    refine ⟨j2, by rw [h2]; exact g6, g8, fun a ha hb => ?_, fun a ha hb => ?_⟩
    · rw [h1]; have := g9 a ha hb; omega
    · rw [h1]; have := g10 a ha hb; omega
  unfold f_Night_doTold f_M_minute
  rw [g1]
  unfold f_Night_doTold_J117
  by_cases q : c2.1 20 12 ≤ c.1 20 12
  · rw [if_pos q]
    rw [i_le] at q
    obtain ⟨h1, h2, h3⟩ := g11 (by omega)
    refine ⟨c2, r2, rfl, g2, g3, nE_mono g4 (by omega), ?_, hx c2 (mF_tk g3).2 rfl⟩
    rw [S2_ext h2 h3]
    exact hown
  · rw [if_neg q]
    obtain ⟨c3, k1, k2, k3, k4⟩ := fw_of (mF_nS g3 hs) g4.1 g4.2.1 (by omega)
    have hF : mF c2 r2 c3 r2 := ⟨⟨fun o _ _ _ _ _ _ _ _ _ h _ _ _ _ _ => k2 o h, fun k _ _ => by rw [k2 20 (by decide)], fun o _ _ => by rw [k3]⟩, fun _ _ _ _ => rfl, fun _ _ => rfl, rfl⟩
    refine ⟨c3, r2, by rw [k1]; rfl, g2, mF_tr g3 hF, nE_mono (nE_fr g4 (fun o ho => k2 o (by omega)) k3 (fun _ _ => rfl)) (by omega), fun i hi => ?_, hx c3 (mF_tk (mF_tr g3 hF)).2 (by rw [k2 20 (by decide)])⟩
    rw [k4 i hi]
    exact (wOwn_same fun o ho => k2 o (by omega)).symm
