/-- the degrees of a minute, by the reference -/
def nR (c r : zz_S) : Prop := roomOK (c.1 16) (c.1 17) (c.1 18) (r.1 79 37) (r.1 96) (r.1 97) (r.1 98) (r.1 99) (r.1 100) ∧ r.1 79 38 = c.1 20 13 ∧ -9 ≤ (c.1 20 13).toInt ∧ (c.1 20 13).toInt ≤ 9
theorem held50 (v : Int32) : f_M_held v (-50) 50 = zz_max (-50) (zz_min 50 v) := by
  have l1 : (-50 : Int32).toInt = -50 := rfl
  have l2 : (50 : Int32).toInt = 50 := rfl
  refine i_lit ?_
  rw [zmax_toInt, zmin_toInt, l1, l2]
  unfold f_M_held
  by_cases q1 : (-50 : Int32) ≤ v
  · rw [if_pos q1]
    rw [i_le, l1] at q1
    by_cases q2 : v ≤ 50
    · rw [if_pos q2]
      rw [i_le, l2] at q2
      omega
    · rw [if_neg q2]
      rw [i_le, l2] at q2
      omega
  · rw [if_neg q1]
    rw [i_le, l1] at q1
    rw [l1]
    omega
theorem dg_loop {r0 : zz_S} {mm : Nat} {m' : Int32} (hm : m'.toInt = mm) (hm2 : mm ≤ 479) {L : List (List (Int32 × Int32) × List (Int32 × Int32))} (hL : refOK (r0.1 96) (r0.1 97) (r0.1 98) (r0.1 99) (r0.1 100) 4 L) :
    ∀ (q j n : Nat) (v2 : Int32) (r : zz_S), j + q = 6 → v2.toInt = j → q < n → (∀ k, k < j → r.1 101 k = 0) → (∀ o, o ≠ 101 → r.1 o = r0.1 o) → r.2 = r0.2 →
      ∃ r2 : zz_S, f_M_degrees_L17 n m' v2 r = some (f_M_held (xval (mnm mm) L) (-50) 50 + r0.1 79 38, r2) ∧ (∀ o, o ≠ 101 → o ≠ 102 → r2.1 o = r0.1 o) ∧ r2.2 = r0.2 := by
  have l6 : (6 : Int32).toInt = 6 := rfl
  intro q
  induction q with
  | zero =>
    intro j n v2 r hj hv hn h1 h2 h3
    obtain ⟨n, rfl⟩ : ∃ k, n = k + 1 := ⟨n - 1, by omega⟩
    have r101 : ∀ o, o ≠ 101 → (zz_w (zz_w r 101 6 m') 101 7 (m' / 60)).1 o = r0.1 o := fun o ho => by rw [w_row, if_neg ho, w_row, if_neg ho, h2 o ho]
    have nm : ∀ k, k < 8 → (zz_w (zz_w r 101 6 m') 101 7 (m' / 60)).1 101 k = mnm mm k := fun k hk => by
      unfold mnm
      rw [ofNat_of hm]
      have e : Int32.ofNat (mm / 60) = m' / 60 := i_lit (by rw [i_div60 (by omega), hm, Int32.toInt_ofNat_of_lt (by omega)]; omega)
      rw [e]
      simp only [w_get, if_true]
      by_cases c : k = 7
      · subst c; simp
      · by_cases c2 : k = 6
        · subst c2; simp
        · simp [c, c2, h1 k (by omega)]
    obtain ⟨r2, g1, g2, g3⟩ := gv_all 4 (L := L) (s := zz_w (zz_w r 101 6 m') 101 7 (m' / 60)) (by decide) (by decide) (by rw [r101 96 (by decide), r101 97 (by decide), r101 98 (by decide), r101 99 (by decide), r101 100 (by decide)]; exact hL)
    rw [xval_nm nm L hL.1] at g1
    refine ⟨r2, ?_, fun o a b => (g2 o b).trans (r101 o a), g3.trans h3⟩
    rw [f_M_degrees_L17, if_pos (by rw [i_le, l6]; omega), g1, Option.bind_some, g2 79 (by decide), r101 79 (by decide)]
  | succ q ih =>
    intro j n v2 r hj hv hn h1 h2 h3
    obtain ⟨n, rfl⟩ : ∃ k, n = k + 1 := ⟨n - 1, by omega⟩
    have hv1 := i_inc (a := v2) (by omega)
    rw [f_M_degrees_L17, if_neg (by rw [i_le, l6]; omega), if_pos (i_in.mpr (by omega)), nz_eq hv]
    refine ih (j + 1) n (v2 + 1) _ (by omega) (by omega) (by omega) (fun k hk => ?_) (fun o ho => by rw [w_row, if_neg ho, h2 o ho]) h3
    rw [w_get, if_pos rfl]
    by_cases e : k = j
    · rw [if_pos e]
    · rw [if_neg e]; exact h1 k (by omega)
theorem dg_of {c r : zz_S} {mm : Nat} {m' : Int32} (hR : nR c r) (hm : m'.toInt = mm) (hm2 : mm ≤ 479) :
    ∃ (dg : Int32) (r2 : zz_S), f_M_degrees m' r = some (dg, r2) ∧ dg.toInt = (c.1 16 mm).toInt + (c.1 20 13).toInt ∧ (-60 ≤ (c.1 16 mm).toInt ∧ (c.1 16 mm).toInt ≤ 60) ∧ (∀ o, o ≠ 101 → o ≠ 102 → r2.1 o = r.1 o) ∧ r2.2 = r.2 := by
  obtain ⟨⟨h1, h2, h3⟩, h4, h5, h6⟩ := hR
  have hd := (h1 mm (by omega)).1
  unfold f_M_degrees
  rcases h3 with ⟨h3, h7⟩ | ⟨h3, L, hL, h7⟩
  · rw [if_pos h3]
    refine ⟨_, r, rfl, ?_, ⟨by omega, by omega⟩, fun _ _ _ => rfl, rfl⟩
    rw [h7 mm (by omega), h4, i_add (by rw [show (10 : Int32).toInt = 10 from rfl]; omega) (by rw [show (10 : Int32).toInt = 10 from rfl]; omega)]
  · rw [if_neg (by rw [h3]; decide)]
    obtain ⟨r2, g1, g2, g3⟩ := dg_loop hm hm2 hL 6 0 zF 0 r (by omega) rfl (by unfold zF; omega) (fun k hk => by omega) (fun _ _ => rfl) rfl
    refine ⟨_, r2, g1, ?_, ⟨by omega, by omega⟩, g2, g3⟩
    rw [held50, h4, ← h7 mm (by omega), i_add (by omega) (by omega)]
/-- the counts of one alone, by the reference -/
def rF (i : Nat) (r r2 : zz_S) : Prop := (∀ o, o < 107 ∨ 112 < o → r2.1 o = r.1 o) ∧ (∀ o k, k ≠ i → r2.1 o k = r.1 o k) ∧ r2.2 = r.2
theorem rF_tr {i : Nat} {c c2 c3 : zz_S} (h : rF i c c2) (k : rF i c2 c3) : rF i c c3 := ⟨fun o a => (k.1 o a).trans (h.1 o a), fun o j a => (k.2.1 o j a).trans (h.2.1 o j a), k.2.2.trans h.2.2⟩
theorem rF_me (i : Nat) (c : zz_S) : rF i c c := ⟨fun _ _ => rfl, fun _ _ _ => rfl, rfl⟩
theorem rF_w (i o : Nat) (ho : 107 ≤ o ∧ o ≤ 112) (v : Int32) (c : zz_S) : rF i c (zz_w c o i v) := ⟨fun a ha => by rw [w_row, if_neg (by omega)], fun a k hk => by
  rw [w_get]
  by_cases q : a = o
  · rw [if_pos q, if_neg hk]
  · rw [if_neg q], rfl⟩
theorem rin_J125 {r : zz_S} {i : Nat} {i' m dg : Int32} (K : Int32 → Int32 → Int32 → zz_S → Option zz_S) (hi' : i'.toInt = i) (hi : i < 6) :
    ∃ r2, f_M_countNow_J125 K m dg i' r = K m dg (i' + 1) r2 ∧ rF i r r2 ∧ tR r2 i = ((r.1 107 i).toInt, (r.1 108 i).toInt, (r.1 109 i).toInt, (r.1 110 i).toInt, (if (r.1 110 i).toInt = 10 ∧ ¬ 0 ≤ (r.1 111 i).toInt then m.toInt else (r.1 111 i).toInt), (if (r.1 110 i).toInt = 10 ∧ ¬ 0 ≤ (r.1 111 i).toInt then -1 else (r.1 112 i).toInt)) := by
  have z1 : zz_in i' 6 = true := i_in.mpr (by omega)
  have ki := nz_eq hi'
  have l0 : (0 : Int32).toInt = 0 := rfl
  unfold f_M_countNow_J125
  rw [if_pos z1, ki]
  by_cases q : r.1 110 i = 10
  · have q' : (r.1 110 i).toInt = 10 := by rw [q]; rfl
    rw [if_pos q]
    by_cases q2 : (0 : Int32) ≤ r.1 111 i
    · rw [if_pos q2]
      rw [i_le, l0] at q2
      refine ⟨r, rfl, rF_me i r, ?_⟩
      rw [if_neg (fun x => x.2 q2), if_neg (fun x => x.2 q2)]
      rfl
    · rw [if_neg q2]
      rw [i_le, l0] at q2
      refine ⟨_, rfl, rF_tr (rF_w i 111 (by omega) m r) (rF_w i 112 (by omega) (-1) _), ?_⟩
      rw [if_pos ⟨q', q2⟩, if_pos ⟨q', q2⟩]
      simp [tR, w_get]
  · have q' : ¬ (r.1 110 i).toInt = 10 := fun x => q (i_lit (b := 10) x)
    rw [if_neg q]
    refine ⟨r, rfl, rF_me i r, ?_⟩
    rw [if_neg (fun x => q' x.1), if_neg (fun x => q' x.1)]
    rfl
