/-- the reference alone has another cell of its own -/
theorem oF_ref {c r c2 r2 : zz_S} {k : Nat} {v : Int32} (h : oF c (zz_w r 79 k v) c2 r2) (hk : k ≠ 54) (hk2 : ∀ x, x ≤ 12 → k ≠ x) : ∀ w : Int32, w = r.1 79 k → oF c r c2 (zz_w r2 79 k w) := by
  obtain ⟨h1, h3, h3', h4⟩ := h
  refine fun w hw => ⟨h1, fun o a b => ?_, fun x hx => ?_, h4⟩
  · rw [w_row, if_neg a, h3 o a b, w_row, if_neg a]
  · rw [w_get, if_pos rfl]
    by_cases e : x = k
    · rw [if_pos e, hw, e]
    · rw [if_neg e, h3' x hx, w_get, if_pos rfl, if_neg e]
theorem nB_ref {c r : zz_S} {S C W T k : Nat} (v : Int32) (h : nB c r S C W T) (hk : k = 38 ∨ k = 51 ∨ k = 36) : nB c (zz_w r 79 k v) S C W T := by
  have e : ∀ x, x ≤ 12 ∨ x = 37 → (zz_w r 79 k v).1 79 x = r.1 79 x := fun x hx => by rw [w_get, if_pos rfl, if_neg (by omega)]
  have f : ∀ o, o ≠ 79 → (zz_w r 79 k v).1 o = r.1 o := fun o ho => by rw [w_row, if_neg ho]
  obtain ⟨b1, b2, b3, b4⟩ := h
  refine ⟨nS_fr b1 (fun _ _ _ => rfl) (fun x _ => e x (by omega)) (fun o _ _ => f o (by omega)), ?_, ?_, ?_⟩
  · unfold lfOK at b2 ⊢
    rw [f 84 (by decide)]
    exact b2
  · rw [e 12 (by omega), f 88 (by decide), f 89 (by decide), f 90 (by decide)]
    exact b3
  · rw [e 37 (by omega), f 96 (by decide), f 97 (by decide), f 98 (by decide), f 99 (by decide), f 100 (by decide)]
    exact b4
theorem nL_ref {c r : zz_S} {k : Nat} {l : Int32} (v : Int32) (h : nL c r l) : nL c (zz_w r 79 k v) l := by
  have f : ∀ o, o ≠ 79 → (zz_w r 79 k v).1 o = r.1 o := fun o ho => by rw [w_row, if_neg ho]
  unfold nL at h ⊢
  rw [f 96 (by decide), f 97 (by decide), f 98 (by decide), f 99 (by decide), f 100 (by decide)]
  exact h
theorem pl_ref {c r : zz_S} {k pl S W : Nat} (v : Int32) (h : plOK c r pl S W) : plOK c (zz_w r 79 k v) pl S W := by
  have f : ∀ o, o ≠ 79 → (zz_w r 79 k v).1 o = r.1 o := fun o ho => by rw [w_row, if_neg ho]
  unfold plOK at h ⊢
  rw [f 80 (by decide)]
  exact h
theorem oF_0 {c r c2 r2 : zz_S} (h : oF c r c2 r2) : c2.1 0 = c.1 0 ∧ c2.1 1 = c.1 1 := ⟨h.1.1 0 (by omega) (by decide) (by decide) (by decide) (by decide), h.1.1 1 (by omega) (by decide) (by decide) (by decide) (by decide)⟩
theorem w79 (r : zz_S) (k x : Nat) (v : Int32) : (zz_w r 79 k v).1 79 x = if x = k then v else r.1 79 x := by rw [w_get, if_pos rfl]
theorem zz_ww (r : zz_S) (o k : Nat) (x v : Int32) : zz_w (zz_w r o k x) o k v = zz_w r o k v := by
  refine S2_ext (funext fun a => funext fun j => ?_) rfl
  simp only [w_get]
  by_cases e : a = o
  · by_cases d : j = k
    · simp only [e, d, if_true]
    · simp only [e, d, if_true, if_false]
  · simp only [e, if_false]
theorem zz_wid {r : zz_S} {o k : Nat} {x : Int32} (h : x = r.1 o k) : zz_w r o k x = r := by
  refine S2_ext (funext fun a => funext fun j => ?_) rfl
  rw [w_get]
  by_cases e : a = o
  · by_cases d : j = k
    · rw [if_pos e, if_pos d, h, e, d]
    · rw [if_pos e, if_neg d]
  · rw [if_neg e]
theorem win_loop (w : Int32) {s r0 : zz_S} {S C W T : Nat} (hb : nB s r0 S C W T) (hl : nL s r0 (s.1 0 12)) (hp : plOK s r0 2 S W) (hr : r0.1 79 38 = 0 ∧ r0.1 79 51 = -1 ∧ r0.1 79 36 = s.1 0 12) (hS0 : 0 < S) :
    ∀ (q n n2 : Nat) (v2 v3 v4 : Int32) (c r : zz_S), v4.toInt + q = 10 → -9 ≤ v4.toInt → q < n → q < n2 → (∀ x : Int32, x = 0 → oF s r0 c (zz_w r 79 38 x)) →
      ∃ v c2 r2, f_B_window_L30 n w v2 v3 v4 c = some (v, c2) ∧ f_M_window_L27 n2 w v2 v3 v4 r = some (v, r2) ∧ oF s r0 c2 r2 := by
  have l9 : (9 : Int32).toInt = 9 := rfl
  intro q
  induction q with
  | zero =>
    intro n n2 v2 v3 v4 c r hv h9 hn hn2 hF
    obtain ⟨n, rfl⟩ : ∃ x, n = x + 1 := ⟨n - 1, by omega⟩
    obtain ⟨n2, rfl⟩ : ∃ x, n2 = x + 1 := ⟨n2 - 1, by omega⟩
    have t : (9 : Int32) < v4 := by rw [i_lt, l9]; omega
    rw [f_B_window_L30, if_pos t, f_M_window_L27, if_pos t]
    by_cases e : w = 0
    · rw [if_pos e, if_pos e]; exact ⟨_, _, _, rfl, rfl, hF 0 rfl⟩
    · rw [if_neg e, if_neg e]; exact ⟨_, _, _, rfl, rfl, hF 0 rfl⟩
  | succ q ih =>
    intro n n2 v2 v3 v4 c r hv h9 hn hn2 hF
    obtain ⟨n, rfl⟩ : ∃ x, n = x + 1 := ⟨n - 1, by omega⟩
    obtain ⟨n2, rfl⟩ : ∃ x, n2 = x + 1 := ⟨n2 - 1, by omega⟩
    have t : ¬ (9 : Int32) < v4 := by rw [i_lt, l9]; omega
    have hv1 := i_inc (a := v4) (by omega)
    have hF0 := hF 0 rfl
    have ez : ∀ v x : Int32, zz_w (zz_w r 79 38 x) 79 38 v = zz_w r 79 38 v := fun v x => zz_ww r 79 38 x v
    have hb1 := nB_ref (k := 38) v4 (oF_nB hF0 hb) (Or.inl rfl)
    have hl1 := nL_ref (k := 38) v4 (oF_nL hF0 hl)
    have hp1 := pl_ref (k := 38) v4 (oF_pl hF0 hp)
    rw [ez] at hb1 hl1 hp1
    obtain ⟨z0, z1⟩ := oF_0 hF0
    have k51 : (zz_w r 79 38 v4).1 79 51 = -1 := by
      have := hF0.2.2.1 51 (by decide)
      rw [w79, if_neg (by decide)] at this ⊢
      rw [this]; exact hr.2.1
    have k36 : (zz_w r 79 38 v4).1 79 36 = c.1 0 12 := by
      have := hF0.2.2.1 36 (by decide)
      rw [w79, if_neg (by decide)] at this ⊢
      rw [this, z0]; exact hr.2.2
    obtain ⟨c1, e1, ⟨e2, e3⟩, e4⟩ := night_of (l := c.1 0 12) (v := v4) (o := -1) hb1 (by rw [z0]; exact hl1) hp1 k36 ⟨by rw [w79, if_pos rfl], h9, by omega⟩ ⟨k51, by decide, by decide⟩ (show (479 : Int32).toInt = (479 : Nat) from rfl) (by omega)
    obtain ⟨c2, r2, m1, m2, m3, m4⟩ := e4 (zz_w c1 20 13 v4) (fun a ha => by rw [w_row, if_neg ha]) (fun k h1 _ => by rw [w_get, if_pos rfl, if_neg h1]) (by rw [w_get, if_pos rfl, if_pos rfl]) (by rw [w_get, if_pos rfl, if_neg (by decide)]; exact e3) rfl
    obtain ⟨e, y1, y2, y3⟩ := least_all m3 hS0
    have hF2 : ∀ x : Int32, x = 0 → oF s r0 c2 (zz_w r2 79 38 x) := fun x hx => by
      refine oF_tr hF0 ?_
      rw [← ez v4 0] at m4
      exact oF_ref m4 (by decide) (by omega) x (by rw [w79, if_pos rfl, hx])
    have em : f_M_leastEasy (zz_w r 79 38 v4) = some (e, r2) := by
      unfold f_M_leastEasy
      rw [m2, Option.bind_some, y2]
    rw [f_B_window_L30, if_neg t, e1, Option.bind_some, m1, Option.bind_some, y1, Option.bind_some, f_M_window_L27, if_neg t, em, Option.bind_some]
    simp only
    by_cases d : e ≤ v3
    · rw [if_pos d, if_neg (by rw [i_lt]; rw [i_le] at d; omega)]
      exact ih n n2 v2 v3 (v4 + 1) c2 r2 (by omega) (by omega) (by omega) (by omega) hF2
    · rw [if_neg d, if_pos (by rw [i_lt]; rw [i_le] at d; omega)]
      exact ih n n2 v4 e (v4 + 1) c2 r2 (by omega) (by omega) (by omega) (by omega) hF2
theorem p_window (w : Int32) {s : zz_S} (h : iv s) : ag iv (f_B_window w s) (f_M_window w) := by
  have l0 : (0 : Int32).toInt = 0 := rfl
  have l1 : (1 : Int32).toInt = 1 := rfl
  refine lock (s := s) fun r hr => ?_
  obtain ⟨S, C, W, T, hb, hS, hC, hp, hL, ⟨h38, h51, h36, h35⟩, ⟨i1, i2, i3⟩⟩ := iv_nB h hr
  have hSr : r.1 79 2 = s.1 1 1 := hb.1.2.2.2.1.2.1
  unfold f_B_window f_M_window
  by_cases c2 : 0 ≤ w.toInt ∧ w.toInt ≤ 1
  · have n3 : ¬ f_M_in w 0 1 = 0 := fun q => (in_of (n := 1) rfl).mp q c2
    rw [if_neg (by rw [i_lt, l0]; omega), if_neg (by rw [i_lt, l1]; omega), if_neg n3, hSr]
    by_cases z : s.1 1 1 = 0
    · rw [if_pos z, if_pos z]; exact same_of h hr _
    · rw [if_neg z, if_neg z]
      have hS0 : 0 < S := by
        rcases Nat.eq_zero_or_pos S with q | q
        · exact absurd (i_lit (b := 0) (by rw [hS, q]; rfl)) z
        · exact q
      obtain ⟨v, x2, r2, k1, k2, k3⟩ := win_loop w hb (hL _ i1 i2) hp ⟨h38, h51, h36⟩ hS0 19 zF zF 0 (-1) (-9) s r (by decide) (by decide) (by unfold zF; omega) (by unfold zF; omega) (fun x hx => by
        have e : zz_w r 79 38 x = r := zz_wid (by rw [hx, h38])
        rw [e]
        exact oF_me s r)
      obtain ⟨g1, g2, g3⟩ := oF_iv h hr k3
      exact ⟨v, x2, r2, k1, k2, g1, g2, g3⟩
  · have n3 : f_M_in w 0 1 = 0 := (in_of (n := 1) rfl).mpr c2
    rw [if_pos n3]
    by_cases n1 : w < 0
    · rw [if_pos n1]; exact same_of h hr _
    · rw [if_neg n1, if_pos (by rw [i_lt, l1]; rw [i_lt, l0] at n1; omega)]; exact same_of h hr _
