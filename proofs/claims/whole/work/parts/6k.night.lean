theorem S2_ext {a b : zz_S} (h1 : a.1 = b.1) (h2 : a.2 = b.2) : a = b := Prod.ext h1 h2
theorem wOwn_same {c c2 : zz_S} {C i : Nat} (h : ∀ o, o = 3 ∨ o = 5 ∨ o = 7 ∨ o = 8 ∨ o = 33 ∨ o = 36 → c2.1 o = c.1 o) : wOwn c2 C i = wOwn c C i := by
  unfold wOwn
  rw [h 3 (by omega), h 5 (by omega), h 7 (by omega), h 8 (by omega), h 33 (by omega), h 36 (by omega)]
/-- which turns are done when a minute begins -/
def nX (c : zz_S) (T m : Nat) : Prop := ∃ p : Nat, (c.1 20 12).toInt = p ∧ p ≤ T ∧ (∀ a, a < p → a < T → tm c a < m) ∧ ∀ a, p ≤ a → a < T → (m : Int) ≤ tm c a
theorem told_of {c r : zz_S} {S C W T B m : Nat} {m' : Int32} (hm : m'.toInt = m) (hs : nS c r S C W) (hw : nW c r) (hT : nT c r T) (hD : nD c r S C W B) (hB : B ≤ 800000000) (hown : ∀ i, i < S → (c.1 35 i).toInt = wOwn c C i) (hX : nX c T m) :
    ∃ c2 r2, f_Night_doTold m' c = some c2 ∧ f_M_minute m' r = some r2 ∧ mF c r c2 r2 ∧ nD c2 r2 S C W (B + 1200) ∧ (∀ i, i < S → (c2.1 35 i).toInt = wOwn c2 C i) ∧ nX c2 T (m + 1) := by
  obtain ⟨p, p1, p2, p3, p4⟩ := hX
  have hT60 := hT.2.1.2
  obtain ⟨c2, r2, j2, g1, g2, g3, g4, g5, g6, g7, g8, g9, g10, g11⟩ := told_loop (c0 := c) (r0 := r) hm p1 p3 p4 T 0 zF zF 0 c r p B (by omega) rfl (by unfold zF; omega) (by unfold zF; omega) (by omega) hs hw hT hD rfl rfl p1 (Nat.le_refl _) p2 (fun i hi => by omega) (fun a h1 h2 => by omega)
  have hx : ∀ c3 : zz_S, tm c3 = tm c → c3.1 20 12 = c2.1 20 12 → nX c3 T (m + 1) := fun c3 h1 h2 => by
    refine ⟨j2, by rw [h2]; exact g6, g8, fun a ha hb => ?_, fun a ha hb => ?_⟩
    · rw [h1]; have := g9 a ha hb; omega
    · rw [h1]; have := g10 a ha hb; omega
  unfold f_Night_doTold f_M_minute
  rw [g1]
  unfold f_Night_doTold_J117
  by_cases q : c2.1 20 12 ≤ c.1 20 12
  · rw [if_pos q]
    rw [i_le] at q
    obtain ⟨h1, h2, h3⟩ := g11 (by omega)
    refine ⟨c2, r2, rfl, g2, g3, nD_mono g4 (by omega), ?_, hx c2 (mF_tk g3).2 rfl⟩
    rw [S2_ext h2 h3]
    exact hown
  · rw [if_neg q]
    obtain ⟨c3, k1, k2, k3, k4⟩ := fw_of (mF_nS g3 hs) g4.1 g4.2.1 (by omega)
    have hF : mF c2 r2 c3 r2 := ⟨⟨fun o _ _ _ _ _ _ _ _ _ h _ _ _ _ _ => k2 o h, fun k _ _ => by rw [k2 20 (by decide)], fun o _ _ => by rw [k3]⟩, fun _ _ _ _ => rfl, fun _ _ => rfl, rfl⟩
    refine ⟨c3, r2, by rw [k1]; rfl, g2, mF_tr g3 hF, nD_mono (nD_fr g4 (fun o ho => k2 o (by omega)) k3 (fun _ _ => rfl)) (by omega), fun i hi => ?_, hx c3 (mF_tk (mF_tr g3 hF)).2 (by rw [k2 20 (by decide)])⟩
    rw [k4 i hi]
    exact (wOwn_same fun o ho => k2 o (by omega)).symm
/-- minutes in which nothing turns and the room stays as it is -/
theorem quiet {c r0 : zz_S} {S C W B m : Nat} {m' : Int32} (G : Nat → Int32 → zz_S → Option zz_S) (last : Nat) (hm : m'.toInt = m) (hs : nS c r0 S C W) (hR : nR c r0) (hp : ∀ i, i < S → nP c r0 W i) (hq : ∀ k, k < C → nQ c r0 W B k) (hB : B ≤ 1000000000) (ht : ∀ i, i < S → tOk m (tR r0 i)) (hlast : last ≤ 479)
    (hdeg : ∀ k, m ≤ k → k ≤ last → c.1 16 k = c.1 16 m) (HG : ∀ (f k : Nat) (k' : Int32) (r : zz_S), k'.toInt = k → m < k → k ≤ last → kF r0 r → G (f + 1) k' r = (f_M_countNow k' r).bind fun r => G f (k' + 1) r) :
    ∀ (q j f : Nat) (k' : Int32) (r : zz_S), 1 ≤ j → m + j + q = last + 1 → k'.toInt = (m + j : Nat) → kF r0 r → (∀ i, i < S → tR r i = up1 c C m m'.toInt j i (tR r0 i)) →
      ∃ (k2 : Int32) (r2 : zz_S), G (f + q) k' r = G f k2 r2 ∧ k2.toInt = (last + 1 : Nat) ∧ kF r0 r2 ∧ ∀ i, i < S → tR r2 i = up1 c C m m'.toInt (j + q : Nat) i (tR r0 i) := by
  intro q
  induction q with
  | zero =>
    intro j f k' r h1 h2 h3 h4 h5
    exact ⟨k', r, rfl, by omega, h4, h5⟩
  | succ q ih =>
    intro j f k' r h1 h2 h3 h4 h5
    have hk1 := i_inc (a := k') (by omega)
    have htj : ∀ i, i < S → tOk 479 (tR r i) := fun i hi => by
      rw [h5 i hi]
      have := tOk_up (ezB ((c.1 16 m).toInt + (c.1 20 13).toInt + wOwn c C i) (c.1 4 i).toInt) (coB ((c.1 16 m).toInt + (c.1 20 13).toInt + wOwn c C i) (c.1 4 i).toInt) (baB (cvI c C i) (c.1 3 i).toInt) (n := j) (ht i hi) (show 0 ≤ m'.toInt by omega) (by omega)
      obtain ⟨u1, u2, u3, u4, u5, u6⟩ := this
      unfold up1
      exact ⟨by omega, by omega, by omega, by omega, u5, u6⟩
    obtain ⟨r1, g1, g2, g3⟩ := cn_of (mm := m + j) (kF_nS h4 hs) (kF_nR h4 hR) (fun i hi => kF_nP h4 (hp i hi)) (fun k hk => kF_nQ h4 (hq k hk)) hB h3 (by omega) htj
    obtain ⟨k2, r2, n1, n2, n3, n4⟩ := ih (j + 1) f (k' + 1) r1 (by omega) (by omega) (by omega) (kF_tr h4 g2) (fun i hi => by
      rw [g3 i hi, h5 i hi]
      unfold up1
      rw [hdeg (m + j) (by omega) (by omega), show k'.toInt = m'.toInt + (j : Int) by omega, show ((j + 1 : Nat) : Int) = (j : Int) + 1 by omega]
      exact cUp_step _ _ _ (ht i hi) (by omega) (by omega))
    refine ⟨k2, r2, ?_, n2, n3, fun i hi => by rw [n4 i hi, show j + 1 + q = j + (q + 1) by omega]⟩
    rw [show f + (q + 1) = (f + q) + 1 from rfl, HG (f + q) (m + j) k' r h3 (by omega) (by omega) h4, g1, Option.bind_some, n1]
/-- the night as a minute begins -/
def nM (c r : zz_S) (S C W T m : Nat) : Prop := nS c r S C W ∧ nW c r ∧ nR c r ∧ nT c r T ∧ nD c r S C W (60 + 1200 * m) ∧ (∀ i, i < S → (c.1 35 i).toInt = wOwn c C i) ∧ (∀ i, i < S → tR r i = tC c i ∧ tOk m (tC c i)) ∧ (c.1 20 11).toInt = m
/-- what a night leaves as it was -/
def nF (c r c2 r2 : zz_S) : Prop := ((∀ o, (o < 20 ∨ 38 < o) → o ≠ 57 → o ≠ 60 → o ≠ 63 → o ≠ 66 → c2.1 o = c.1 o) ∧ (∀ k, k ≠ 11 → k ≠ 12 → k ≠ 15 → c2.1 20 k = c.1 20 k) ∧ ∀ o, o ≠ 37 → o ≠ 38 → c2.2 o = c.2 o) ∧
  (∀ o, o ≠ 79 → ¬ (101 ≤ o ∧ o ≤ 114) → r2.1 o = r.1 o) ∧ (∀ k, k ≠ 54 → r2.1 79 k = r.1 79 k) ∧ r2.2 = r.2
theorem nF_me (c r : zz_S) : nF c r c r := ⟨⟨fun _ _ _ _ _ _ => rfl, fun _ _ _ _ => rfl, fun _ _ _ => rfl⟩, fun _ _ _ => rfl, fun _ _ => rfl, rfl⟩
theorem nF_tr {c r c2 r2 c3 r3 : zz_S} (h : nF c r c2 r2) (k : nF c2 r2 c3 r3) : nF c r c3 r3 := by
  obtain ⟨⟨h1, h1', h2⟩, h3, h3', h4⟩ := h
  obtain ⟨⟨k1, k1', k2⟩, k3, k3', k4⟩ := k
  exact ⟨⟨fun o a b d e f => (k1 o a b d e f).trans (h1 o a b d e f), fun k a b d => (k1' k a b d).trans (h1' k a b d), fun o a b => (k2 o a b).trans (h2 o a b)⟩, fun o a b => (k3 o a b).trans (h3 o a b), fun k a => (k3' k a).trans (h3' k a), k4.trans h4⟩
theorem nF_of {c r c2 r2 : zz_S} (h : mF c r c2 r2) : nF c r c2 r2 := by
  obtain ⟨⟨h1, h1', h2⟩, h3, h3', h4⟩ := h
  exact ⟨⟨fun o a b d e f => h1 o (by omega) (by omega) (by omega) (by omega) (by omega) (by omega) (by omega) (by omega) (by omega) (by omega) (by omega) b d e f, fun k _ a b => h1' k a b, h2⟩, fun o a b => h3 o a (by omega) (by omega), h3', h4⟩
theorem nF_nS {c r c2 r2 : zz_S} {S C W : Nat} (h : nF c r c2 r2) (hs : nS c r S C W) : nS c2 r2 S C W :=
  nS_fr hs (fun o a b => h.1.1 o (by omega) (by omega) (by omega) (by omega) (by omega)) (fun k _ => h.2.2.1 k (by omega)) (fun o a b => h.2.1 o (by omega) (by omega))
theorem nF_nW {c r c2 r2 : zz_S} (h : nF c r c2 r2) (hw : nW c r) : nW c2 r2 := by
  obtain ⟨⟨h1, h1', h2⟩, h3, h3', h4⟩ := h
  obtain ⟨w1, ⟨w2, w2'⟩, w3⟩ := hw
  unfold nW
  rw [h1' 10 (by decide) (by decide) (by decide), h3' 36 (by decide), h3 96 (by decide) (by decide), h3 97 (by decide) (by decide), h3 98 (by decide) (by decide), h3 99 (by decide) (by decide), h3 100 (by decide) (by decide)]
  refine ⟨w1, ⟨w2, w2'⟩, fun hlaw => ?_⟩
  rw [h1 (55 + 3 * (c.1 20 10).toInt.toNat) (by omega) (by omega) (by omega) (by omega) (by omega), h1 (56 + 3 * (c.1 20 10).toInt.toNat) (by omega) (by omega) (by omega) (by omega) (by omega)]
  exact w3 hlaw
theorem nF_nR {c r c2 r2 : zz_S} (h : nF c r c2 r2) (hR : nR c r) : nR c2 r2 := by
  obtain ⟨⟨h1, h1', h2⟩, h3, h3', h4⟩ := h
  unfold nR at hR ⊢
  rw [h1 16 (by omega) (by decide) (by decide) (by decide) (by decide), h1 17 (by omega) (by decide) (by decide) (by decide) (by decide), h1 18 (by omega) (by decide) (by decide) (by decide) (by decide), h1' 13 (by decide) (by decide) (by decide), h3' 37 (by decide), h3' 38 (by decide), h3 96 (by decide) (by decide), h3 97 (by decide) (by decide), h3 98 (by decide) (by decide), h3 99 (by decide) (by decide), h3 100 (by decide) (by decide)]
  exact hR
theorem nF_nT {c r c2 r2 : zz_S} {T : Nat} (h : nF c r c2 r2) (hT : nT c r T) : nT c2 r2 T := by
  obtain ⟨⟨h1, h1', h2⟩, h3, h3', h4⟩ := h
  unfold nT at hT ⊢
  rw [h1 10 (by omega) (by decide) (by decide) (by decide) (by decide), h1 11 (by omega) (by decide) (by decide) (by decide) (by decide), h1 12 (by omega) (by decide) (by decide) (by decide) (by decide), h1 13 (by omega) (by decide) (by decide) (by decide) (by decide), h1 14 (by omega) (by decide) (by decide) (by decide) (by decide), h1' 14 (by decide) (by decide) (by decide), h3' 12 (by decide), h3' 51 (by decide), h3 88 (by decide) (by decide), h3 89 (by decide) (by decide), h3 90 (by decide) (by decide)]
  exact hT
theorem nF_tm {c r c2 r2 : zz_S} (h : nF c r c2 r2) : tm c2 = tm c := by
  have e14 : c2.1 14 = c.1 14 := h.1.1 14 (by omega) (by decide) (by decide) (by decide) (by decide)
  have e11 : c2.1 11 = c.1 11 := h.1.1 11 (by omega) (by decide) (by decide) (by decide) (by decide)
  exact funext fun a => by unfold tm tk; rw [e14, e11]
