/-! room -/
theorem i_div60 {a : Int32} (h : 0 ≤ a.toInt) : (a / 60).toInt = a.toInt / 60 := by
  rw [Int32.toInt_div_of_ne_right _ _ (by decide), Int.tdiv_eq_ediv_of_nonneg h]
  rfl
theorem ofNat_of {a : Int32} {n : Nat} (h : a.toInt = n) : Int32.ofNat n = a := i_lit (by
  have := i_hi a
  rw [Int32.toInt_ofNat_of_lt (by omega)]; omega)
/-- the degrees are worked out, minute by minute -/
theorem wm_loop (L : List (List (Int32 × Int32) × List (Int32 × Int32))) (hq : ∀ q ∈ L, (q.1 = [] ∨ isX q.1) ∧ isX q.2) (s0 : zz_S) (hz0 : 0 ≤ (s0.1 45 0).toInt) (hz : (s0.1 45 0).toInt ≤ 121) (hc : clx (s0.1 46) 0 L (s0.1 45 0).toInt.toNat) (h18 : ∀ k, k < 6 → s0.1 18 k = 0) :
    ∀ (m j n : Nat) (v2 : Int32) (s : zz_S), j + m = 480 → v2.toInt = j → m < n → (∀ k, k < j → s.1 16 k = zz_max (-50) (zz_min 50 (xval (mnm k) L))) → (∀ k, k < 6 → s.1 18 k = 0) → (∀ o, o ≠ 16 → o ≠ 18 → o ≠ 47 → s.1 o = s0.1 o) → s.2 = s0.2 →
    ∃ s2 : zz_S, f_Room_warmBy_L2 n v2 s = f_Room_warmBy_L62 zF 479 s2 ∧ (∀ k, k < 480 → s2.1 16 k = zz_max (-50) (zz_min 50 (xval (mnm k) L))) ∧ (∀ k, k < 6 → s2.1 18 k = 0) ∧ (∀ o, o ≠ 16 → o ≠ 18 → o ≠ 47 → s2.1 o = s0.1 o) ∧ s2.2 = s0.2 := by
  have l480 : (480 : Int32).toInt = 480 := rfl
  intro m
  induction m with
  | zero =>
    intro j n v2 s hj hv hn i1 i2 i3 i4
    obtain ⟨n, rfl⟩ : ∃ k, n = k + 1 := ⟨n - 1, by omega⟩
    refine ⟨s, ?_, fun k hk => i1 k (by omega), i2, i3, i4⟩
    rw [f_Room_warmBy_L2, if_pos (by rw [i_le, l480]; omega)]
  | succ m ih =>
    intro j n v2 s hj hv hn i1 i2 i3 i4
    obtain ⟨n, rfl⟩ : ∃ k, n = k + 1 := ⟨n - 1, by omega⟩
    have w1 : ∀ o, o ≠ 18 → (zz_w (zz_w s 18 6 v2) 18 7 (v2 / 60)).1 o = s.1 o := fun o ho => by rw [w_row, if_neg ho, w_row, if_neg ho]
    have w2 : ∀ k, k < 8 → (zz_w (zz_w s 18 6 v2) 18 7 (v2 / 60)).1 18 k = mnm j k := fun k hk => by
      unfold mnm
      rw [ofNat_of hv]
      have e : Int32.ofNat (j / 60) = v2 / 60 := i_lit (by rw [i_div60 (by omega), hv, Int32.toInt_ofNat_of_lt (by omega)]; omega)
      rw [e]
      simp only [w_get, if_true]
      by_cases c : k = 7
      · subst c; simp
      · by_cases c2 : k = 6
        · subst c2; simp
        · simp [c, c2, i2 k (by omega)]
    obtain ⟨s2, g1, g2, g3⟩ := wo_all 45 18 (by decide) (L := L) (s := zz_w (zz_w s 18 6 v2) 18 7 (v2 / 60)) hq (by rw [w1 45 (by decide), i3 45 (by decide) (by decide) (by decide)]; exact hz0) (by rw [w1 45 (by decide), i3 45 (by decide) (by decide) (by decide)]; exact hz) (by rw [w1 46 (by decide), w1 45 (by decide), i3 45 (by decide) (by decide) (by decide), i3 46 (by decide) (by decide) (by decide)]; exact hc)
    rw [xval_nm w2 L hq] at g1
    have g2 : ∀ o, o ≠ 47 → s2.1 o = (zz_w (zz_w s 18 6 v2) 18 7 (v2 / 60)).1 o := g2
    have hv2 := i_inc (a := v2) (by omega)
    rw [f_Room_warmBy_L2, if_neg (by rw [i_le, l480]; omega), g1, Option.bind_some, if_pos (i_in.mpr (by omega)), nz_eq hv]
    refine ih (j + 1) n (v2 + 1) _ (by omega) (by omega) (by omega) (fun k hk => ?_) (fun k hk => ?_) (fun o a b d => ?_) (g3.trans i4)
    · by_cases c : k = j
      · subst c; simp [w_get]
      · simp only [w_get, if_true, if_neg c]
        rw [g2 16 (by decide), w1 16 (by decide), i1 k (by omega)]
    · rw [w_row, if_neg (by decide), g2 18 (by decide), w2 k (by omega)]
      unfold mnm
      rw [if_neg (by omega), if_neg (by omega)]
    · rw [w_row, if_neg a, g2 o d, w1 o b, i3 o a b d]
/-- up to where the degrees are the same -/
theorem wm_same (s0 : zz_S) : ∀ (j n : Nat) (v2 : Int32) (s : zz_S), j ≤ 480 → v2.toInt = (j : Int) - 1 → j < n → (∀ m, j ≤ m → m < 480 → (m < (s.1 17 m).toInt ∧ (s.1 17 m).toInt ≤ 480) ∧ ∀ k : Nat, m ≤ k → (k : Int) < (s.1 17 m).toInt → s0.1 16 k = s0.1 16 m) → (∀ o, o ≠ 17 → s.1 o = s0.1 o) → s.2 = s0.2 →
    ∃ s2 : zz_S, f_Room_warmBy_L62 n v2 s = some s2 ∧ (∀ m, m < 480 → (m < (s2.1 17 m).toInt ∧ (s2.1 17 m).toInt ≤ 480) ∧ ∀ k : Nat, m ≤ k → (k : Int) < (s2.1 17 m).toInt → s0.1 16 k = s0.1 16 m) ∧ (∀ o, o ≠ 17 → s2.1 o = s0.1 o) ∧ s2.2 = s0.2 := by
  have l0 : (0 : Int32).toInt = 0 := rfl
  have l479 : (479 : Int32).toInt = 479 := rfl
  intro j
  induction j with
  | zero =>
    intro n v2 s hj hv hn i1 i2 i3
    obtain ⟨n, rfl⟩ : ∃ k, n = k + 1 := ⟨n - 1, by omega⟩
    exact ⟨s, by rw [f_Room_warmBy_L62, if_pos (by rw [i_lt, l0]; omega)], fun m hm => i1 m (by omega) hm, i2, i3⟩
  | succ j ih =>
    intro n v2 s hj hv hn i1 i2 i3
    obtain ⟨n, rfl⟩ : ∃ k, n = k + 1 := ⟨n - 1, by omega⟩
    have hvj : v2.toInt = (j : Nat) := by omega
    have kv := nz_eq hvj
    have hv1 := i_inc (a := v2) (by omega)
    have kv1 : (v2 + 1).toNatClampNeg = j + 1 := nz_eq (by omega)
    have hm1 : (v2 + -1).toInt = (j : Int) - 1 := by
      rw [i_add (by rw [show (-1 : Int32).toInt = -1 from rfl]; omega) (by rw [show (-1 : Int32).toInt = -1 from rfl]; omega), show (-1 : Int32).toInt = -1 from rfl]
      omega
    have zj : zz_in v2 480 = true := i_in.mpr (by omega)
    -- a value is written
    have go : ∀ t2 : Int32, ((j : Int) < t2.toInt ∧ t2.toInt ≤ 480) → (∀ k : Nat, j ≤ k → (k : Int) < t2.toInt → s0.1 16 k = s0.1 16 j) → ∃ s2 : zz_S, f_Room_warmBy_J119 (f_Room_warmBy_L62 n) v2 v2 t2 s = some s2 ∧ (∀ m, m < 480 → (m < (s2.1 17 m).toInt ∧ (s2.1 17 m).toInt ≤ 480) ∧ ∀ k : Nat, m ≤ k → (k : Int) < (s2.1 17 m).toInt → s0.1 16 k = s0.1 16 m) ∧ (∀ o, o ≠ 17 → s2.1 o = s0.1 o) ∧ s2.2 = s0.2 := by
      intro t2 h1 h2
      unfold f_Room_warmBy_J119
      rw [if_pos zj, kv]
      clear hv1 kv1
      generalize v2 + -1 = u at hm1
      refine ih n u _ (by omega) hm1 (by omega) (fun m hm hm2 => ?_) (fun o ho => by rw [w_row, if_neg ho, i2 o ho]) i3
      by_cases c : m = j
      · subst c
        have e : (zz_w s 17 m t2).1 17 m = t2 := by simp [w_get]
        rw [e]
        exact ⟨h1, h2⟩
      · have e : (zz_w s 17 j t2).1 17 m = s.1 17 m := by simp [w_get, c]
        rw [e]
        exact i1 m (by omega) hm2
    have other : ∃ s2 : zz_S, f_Room_warmBy_J94 (f_Room_warmBy_L62 n) v2 s = some s2 ∧ (∀ m, m < 480 → (m < (s2.1 17 m).toInt ∧ (s2.1 17 m).toInt ≤ 480) ∧ ∀ k : Nat, m ≤ k → (k : Int) < (s2.1 17 m).toInt → s0.1 16 k = s0.1 16 m) ∧ (∀ o, o ≠ 17 → s2.1 o = s0.1 o) ∧ s2.2 = s0.2 := by
      unfold f_Room_warmBy_J94 f_Room_warmBy_J95
      rw [if_pos rfl]
      exact go (v2 + 1) (by omega) fun k h1 h2 => by
        have : k = j := by omega
        rw [this]
    rw [f_Room_warmBy_L62, if_neg (by rw [i_lt, l0]; omega)]
    by_cases c : 479 ≤ v2.toInt
    · rw [if_pos (by rw [i_le, l479]; exact c)]
      exact other
    · have z1 : zz_in (v2 + 1) 480 = true := i_in.mpr (by omega)
      rw [if_neg (by rw [i_le, l479]; exact c), if_pos zj, if_pos z1, kv, kv1]
      by_cases e : s.1 16 j = s.1 16 (j + 1)
      · rw [if_pos e]
        unfold f_Room_warmBy_J95
        rw [if_neg (by decide), if_pos z1, kv1]
        obtain ⟨h1, h2⟩ := i1 (j + 1) (Nat.le_refl _) (by omega)
        rw [i2 16 (by decide)] at e
        exact go _ (by omega) fun k k1 k2 => by
          by_cases d : k = j
          · rw [d]
          · rw [h2 k (by omega) k2, e]
      · rw [if_neg e]
        exact other
theorem clamp50 (x : Int32) : -50 ≤ (zz_max (-50) (zz_min 50 x)).toInt ∧ (zz_max (-50) (zz_min 50 x)).toInt ≤ 50 := by
  rw [zmax_toInt, zmin_toInt, show (-50 : Int32).toInt = -50 from rfl, show (50 : Int32).toInt = 50 from rfl]
  omega
theorem p_room {s : zz_S} (h : iv s) : ag iv (f_B_room s) f_M_room := by
  obtain ⟨⟨a1, a2⟩, a3, a4, a5⟩ := (law_at s).mp h.2.2.2.2.2.2.1
  refine lock (s := s) fun r hr => ?_
  have hro : ∀ o, ¬ o < 79 → r.1 o = s.1 o := fun o ho => by
    have := congrArg (fun x : zz_S => x.1 o) hr
    rw [← this]
    exact (mixr ho).symm
  have hro2 : ∀ o, ¬ o < 79 → r.2 o = s.2 o := fun o ho => by
    have := congrArg (fun x : zz_S => x.2 o) hr
    rw [← this]
    show r.2 o = (if o < 79 then s.2 o else r.2 o)
    rw [if_neg ho]
  unfold f_B_room f_M_room
  obtain ⟨N, hT⟩ := pT_iv h.2.2.2.1 hr
  obtain ⟨c2, r2, x, g1, g2, g3⟩ := rt_all 4 hT
  have g2' := g2
  obtain ⟨⟨f1, f2, f3⟩, f4, f5, f6, f7, f8, f9⟩ := g2
  rw [g1, Option.bind_some]
  rcases g3 with ⟨rfl, at2, sz2, ld2, L2, k1, k2, k3, k4, k5⟩ | ⟨k1, k2⟩
  · obtain ⟨r3, m1, m2, m3, m4, ⟨m5, m6⟩, m7⟩ := cp_all 4 (by decide) (by decide) k1 k3 k4
    rw [show (4 : Int32).toInt.toNat = 4 from rfl] at m2 m7
    rw [if_pos m1_neg, k5, m1, Option.bind_some, if_pos m1_neg]
    have hsz := k1.1.2.2.2.2.1
    have hqs := k1.2.2.2.1
    have hcl := k1.2.2.2.2.1
    generalize hc4 : zz_w c2 44 0 0 = c4 at *
    have c4o : ∀ o, o ≠ 44 → c4.1 o = c2.1 o := fun o ho => by rw [← hc4, w_row, if_neg ho]
    have c4s : c4.2 = c2.2 := by rw [← hc4]; rfl
    have h18 : ∀ k, k < 6 → c4.1 18 k = 0 := fun k hk => by rw [c4o 18 (by decide), f1 18 (by decide) (by decide) (by decide)]; exact a5.2.1 k hk
    obtain ⟨c5, n1, n2, n3, n4, n5⟩ := wm_loop L2 hqs c4 (by rw [c4o 45 (by decide)]; omega) (by rw [c4o 45 (by decide)]; omega) (by rw [c4o 45 (by decide), c4o 46 (by decide), hsz, Int.toNat_natCast]; exact hcl) h18 480 0 zF 0 c4 rfl rfl (by unfold zF; omega) (fun k hk => by omega) h18 (fun _ _ _ _ => rfl) rfl
    obtain ⟨c6, j1, j2, j3, j4⟩ := wm_same c5 480 zF 479 c5 (by omega) (by decide) (by unfold zF; omega) (fun m h1 h2 => by omega) (fun _ _ => rfl) rfl
    have e1 : f_Room_warmBy c4 = some c6 := by
      unfold f_Room_warmBy
      rw [n1, j1]
    rw [e1, Option.bind_some]
    have C6 : ∀ o, o < 79 → ¬ (15 ≤ o ∧ o ≤ 18) → ¬ (44 ≤ o ∧ o ≤ 47) → c6.1 o = s.1 o := fun o h1 h2 h3 => by
      rw [j3 o (by omega), n4 o (by omega) (by omega) (by omega), c4o o (by omega), f1 o (by omega) (by omega) (by omega)]
    have c6s : c6.2 = s.2 := by rw [j4, n5, c4s, f2]
    have C : ∀ o, o < 79 → ¬ (15 ≤ o ∧ o ≤ 18) → ¬ (44 ≤ o ∧ o ≤ 47) → (mix c6 (zz_w r3 79 37 1)).1 o = s.1 o := fun o h1 h2 h3 => by
      rw [mixc h1, C6 o h1 h2 h3]
    have K : ∀ k, k < 23 ∨ 27 < k → k ≠ 37 → (mix c6 (zz_w r3 79 37 1)).1 79 k = s.1 79 k := fun k hk h5 => by
      rw [mixr (by decide), w_get, if_pos rfl, if_neg h5, m6 k (by omega), f6 k (by omega), hro 79 (by decide)]
    have R : ∀ o, 79 < o → (mix c6 (zz_w r3 79 37 1)).1 o = r3.1 o := fun o ho => by
      rw [mixr (by omega), w_row, if_neg (by omega)]
    refine ⟨1, c6, _, rfl, rfl, ?_, fun o ho => ⟨?_, by rw [c6s]⟩, fun o ho => ⟨?_, ?_⟩⟩
    · refine tape_off (s := s) (fun o h1 h2 h3 h4 h5 => C o h2 h3 h4) (fun o h1 h2 => ?_) (mix2 c6s fun o ho => ?_) (fun k h1 h2 h3 => K k h1 h3) ?_ ?_ h ?_
      · rw [R o h1, m3 o (by omega) (by omega) (by omega) (by omega) (by omega) (by omega), f4 o (by omega) (by omega) (by omega) (by omega) (by omega) (by omega), hro o (by omega)]
      · show r3.2 o = s.2 o
        rw [m4, f5, hro2 o ho]
      · rw [mixc (by decide), j3 44 (by decide), n4 44 (by decide) (by decide) (by decide), ← hc4]
        simp [w_get]
      · rw [mixr (by decide), w_get, if_pos rfl, if_neg (by decide)]
        exact m5
      · have tS : ∀ p, p < 4 → tSame s (mix c6 (zz_w r3 79 37 1)) p := fun p hp L hL => by
          rw [← hro 96 (by decide), ← hro 97 (by decide), ← hro 98 (by decide), ← hro 99 (by decide), ← hro 100 (by decide)] at hL
          rw [R 96 (by decide), R 97 (by decide), R 98 (by decide), R 99 (by decide), R 100 (by decide)]
          exact m7 p L (by omega) (by omega) (lF_tSame g2' (by omega) L hL)
        have z0 := C 0 (by decide) (by decide) (by decide)
        refine (law_at _).mpr ⟨⟨?_, ?_⟩, ?_, fun i hi hi2 => ?_, ?_⟩
        · rw [z0, K 35 (by omega) (by decide)]; exact a1
        · rw [z0, K 36 (by omega) (by decide)]; exact a2
        · rw [z0]; exact a3
        · rw [z0] at hi2
          exact lwc_same (a4 i hi hi2) (tS i hi) (C _ (by omega) (by omega) (by omega)) (C _ (by omega) (by omega) (by omega))
        · unfold rmc
          rw [R 96 (by decide), R 97 (by decide), R 98 (by decide), R 99 (by decide), R 100 (by decide), mixc (by decide), mixc (by decide), mixc (by decide), j3 16 (by decide), j3 18 (by decide)]
          refine ⟨fun m hm => ⟨by rw [n2 m hm]; exact clamp50 _, j2 m hm⟩, n3, Or.inr ⟨?_, L2, m2, n2⟩⟩
          rw [mixr (by decide), w_get, if_pos rfl, if_pos rfl]
    · rw [j3 o (by omega), n4 o (by omega) (by omega) (by omega), c4o o (by omega), f1 o (by omega) (by omega) (by omega)]
    · show (zz_w r3 79 37 1).1 o = r.1 o
      rw [w_row, if_neg (by omega), m3 o (by omega) (by omega) (by omega) (by omega) (by omega) (by omega), f4 o (by omega) (by omega) (by omega) (by omega) (by omega) (by omega)]
    · show r3.2 o = r.2 o
      rw [m4, f5]
  · have hx : ¬ x < 0 := by rw [i_lt, show (0 : Int32).toInt = 0 from rfl]; omega
    obtain ⟨j1, j2, j3⟩ := tape_bad h hr g2'
    rw [if_neg hx, k2, Option.bind_some, if_neg hx]
    exact ⟨_, _, _, rfl, rfl, j1, j2, j3⟩
