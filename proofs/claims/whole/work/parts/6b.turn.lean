theorem turn_of {c r : zz_S} {S C W B i : Nat} {i' cells m : Int32} (hs : nS c r S C W) (hw : nW c r) (hd : nD c r S C W B) (hi : i < S) (hi' : i'.toInt = i) (hc : -20 ≤ cells.toInt ∧ cells.toInt ≤ 20) (hc0 : ¬ cells.toInt = 0) (hm : 0 ≤ m.toInt) (hB : B ≤ 900000000) :
    ∃ c2 r2, f_Night_turnOver i' cells m c = some c2 ∧ f_M_turnNow i' cells m r = some r2 ∧ nD c2 r2 S C W (B + 20) ∧ tF c r c2 r2 := by
  have l0 : (0 : Int32).toInt = 0 := rfl
  obtain ⟨h1, h2, h3⟩ := hd.2.2.2.1 i hi
  have hS6 : S ≤ 6 := hs.2.1.2
  have z1 : zz_in i' 6 = true := i_in.mpr (by omega)
  have ki := nz_eq hi'
  -- the way now against the one before
  have go : ∀ way : Int32, (way = 1 ∧ 0 < cells.toInt ∨ way = -1 ∧ cells.toInt < 0) → ∃ c2 r2, f_Night_turnOver_J9 i' cells m way c = some c2 ∧ f_M_turnNow_J9 i' cells m way r = some r2 ∧ nD c2 r2 S C W (B + 20) ∧ tF c r c2 r2 := by
    intro way hway
    have hway2 : way = 1 ∨ way = -1 := by rcases hway with ⟨h, -⟩ | ⟨h, -⟩ <;> simp [h]
    have hlw : c.1 29 i = 0 ∨ c.1 29 i = 1 ∨ c.1 29 i = -1 := by
      have : (c.1 29 i).toInt = 0 ∨ (c.1 29 i).toInt = 1 ∨ (c.1 29 i).toInt = -1 := by omega
      rcases this with q | q | q
      · exact Or.inl (i_lit (b := 0) q)
      · exact Or.inr (Or.inl (i_lit (b := 1) q))
      · exact Or.inr (Or.inr (i_lit (b := -1) q))
    have neg : ((-1 : Int32) * cells).toInt = -cells.toInt := by
      rw [i_mul (by rw [show (-1 : Int32).toInt = -1 from rfl]; omega) (by rw [show (-1 : Int32).toInt = -1 from rfl]; omega), show (-1 : Int32).toInt = -1 from rfl]; omega
    unfold f_Night_turnOver_J9 f_M_turnNow_J9 f_M_turnNow_J35 f_M_turnNow_J36
    rw [if_pos z1, ki, h1]
    have core := fun back hb => turn_core (back := back) hs hw ⟨hd.1, hd.2.1, hd.2.2.1, hd.2.2.2.1, hd.2.2.2.2.1, hd.2.2.2.2.2⟩ hi hi' hc hm hB hway2 hb
    rcases hlw with q | q | q
    · have e := core 0 (by rw [q, Int32.zero_mul]; rfl)
      rw [if_pos q]
      exact e
    · have n0 : ¬ c.1 29 i = 0 := by rw [q]; decide
      rw [if_neg n0]
      rcases hway with ⟨rfl, hp⟩ | ⟨rfl, hp⟩
      · have e := core 0 (by rw [q, Int32.one_mul, if_pos (by rw [i_le, l0]; omega)])
        rw [if_pos q]
        exact e
      · have e := core 1 (by rw [q, Int32.one_mul, if_neg (by rw [i_le, l0]; omega)])
        rw [if_neg (by rw [q]; decide)]
        exact e
    · have n0 : ¬ c.1 29 i = 0 := by rw [q]; decide
      rw [if_neg n0]
      rcases hway with ⟨rfl, hp⟩ | ⟨rfl, hp⟩
      · have e := core 1 (by rw [q, if_neg (by rw [i_le, l0, neg]; omega)])
        rw [if_neg (by rw [q]; decide)]
        exact e
      · have e := core 0 (by rw [q, if_pos (by rw [i_le, l0, neg]; omega)])
        rw [if_pos q]
        exact e
  unfold f_Night_turnOver f_M_turnNow
  by_cases q : (0 : Int32) ≤ cells
  · rw [if_pos q, if_pos q]
    rw [i_le, l0] at q
    exact go 1 (Or.inl ⟨rfl, by omega⟩)
  · rw [if_neg q, if_neg q]
    rw [i_le, l0] at q
    exact go (-1) (Or.inr ⟨rfl, by omega⟩)
/-! the night: what warms beside the room -/
/-- WARM of one, by the covers over it, up to one of them -/
def wSum (ht br p : Int) (lf wd wm : Nat → Int32) : Nat → Int
  | 0 => ht
  | n + 1 => wSum ht br p lf wd wm n + (wm n).toInt * ovl p br (lf n).toInt (wd n).toInt / br
theorem wSum_same {ht br p : Int} {lf wd wm lf2 wd2 wm2 : Nat → Int32} : ∀ {C : Nat}, (∀ k, k < C → lf2 k = lf k ∧ wd2 k = wd k ∧ wm2 k = wm k) → wSum ht br p lf2 wd2 wm2 C = wSum ht br p lf wd wm C
  | 0, _ => rfl
  | C + 1, h => by
    unfold wSum
    rw [wSum_same fun k hk => h k (by omega), (h C (by omega)).1, (h C (by omega)).2.1, (h C (by omega)).2.2]
theorem wSum_bd {ht br p : Int} {lf wd wm : Nat → Int32} (hb : 0 < br) : ∀ {C : Nat}, (∀ k, k < C → 0 ≤ (wm k).toInt ∧ (wm k).toInt ≤ 50) → ht ≤ wSum ht br p lf wd wm C ∧ wSum ht br p lf wd wm C ≤ ht + 50 * C
  | 0, _ => by unfold wSum; omega
  | C + 1, h => by
    obtain ⟨h1, h2⟩ := wSum_bd (ht := ht) (p := p) (lf := lf) (wd := wd) hb (C := C) fun k hk => h k (by omega)
    obtain ⟨k1, k2⟩ := h C (by omega)
    have o0 : 0 ≤ ovl p br (lf C).toInt (wd C).toInt := by unfold ovl; omega
    have o1 : ovl p br (lf C).toInt (wd C).toInt ≤ br := by unfold ovl; omega
    have m0 : 0 ≤ (wm C).toInt * ovl p br (lf C).toInt (wd C).toInt := Int.mul_nonneg k1 o0
    have m1 : (wm C).toInt * ovl p br (lf C).toInt (wd C).toInt ≤ 50 * br := Int.mul_le_mul k2 o1 o0 (by decide)
    have d0 : 0 ≤ (wm C).toInt * ovl p br (lf C).toInt (wd C).toInt / br := Int.ediv_nonneg m0 (by omega)
    have d1 : (wm C).toInt * ovl p br (lf C).toInt (wd C).toInt / br ≤ 50 := Int.ediv_le_of_le_mul hb m1
    unfold wSum
    omega
/-- one cover's warmth -/
theorem wm_one {wm u br : Int32} {p l w : Int} (h0 : 0 ≤ wm.toInt ∧ wm.toInt ≤ 50) (hu : u.toInt = ovl p br.toInt l w) (hb : 4 ≤ br.toInt ∧ br.toInt ≤ 20) : ¬ br = 0 ∧ (wm * u / br).toInt = wm.toInt * ovl p br.toInt l w / br.toInt ∧ 0 ≤ (wm * u / br).toInt ∧ (wm * u / br).toInt ≤ 50 := by
  have o0 : 0 ≤ ovl p br.toInt l w := by unfold ovl; omega
  have o1 : ovl p br.toInt l w ≤ br.toInt := by unfold ovl; omega
  have m0 : 0 ≤ wm.toInt * ovl p br.toInt l w := Int.mul_nonneg h0.1 o0
  have m1 : wm.toInt * ovl p br.toInt l w ≤ 50 * br.toInt := Int.mul_le_mul h0.2 o1 o0 (by decide)
  have d0 : 0 ≤ wm.toInt * ovl p br.toInt l w / br.toInt := Int.ediv_nonneg m0 (by omega)
  have d1 : wm.toInt * ovl p br.toInt l w / br.toInt ≤ 50 := Int.ediv_le_of_le_mul (by omega) m1
  have nb : ¬ br = 0 := fun q => by rw [q] at hb; exact absurd hb.1 (by decide)
  have hm := i_mul (a := wm) (b := u) (by rw [hu]; omega) (by rw [hu]; omega)
  have e : (wm * u / br).toInt = wm.toInt * ovl p br.toInt l w / br.toInt := by
    rw [Int32.toInt_div_of_ne_right _ _ (fun q => by rw [q] at hb; exact absurd hb.1 (by decide)), hm, hu, tdiv_le m0 (by omega)]
  exact ⟨nb, e, by omega, by omega⟩
