theorem wk_seg (p v3 : Int32) : ∀ (l : List (Int32 × Int32)) (st : List Int32) (i n : Nat) (v4 v5 : Int32) (s : zz_S) (h : Nat),
  (∀ o ∈ l, opOK o) → xdep l st.length = some h → segR (s.1 96) (s.1 97) i l → stk (s.1 102) st → v4.toInt = (st.length : Nat) → v5.toInt = i → i + l.length ≤ 780 → st.length + l.length ≤ 121 → (i + l.length : Nat) ≤ (130 * p + v3).toInt →
  ∃ (v42 v52 : Int32) (s2 : zz_S), f_M_worked_L12 (n + l.length) p v3 v4 v5 s = f_M_worked_L12 n p v3 v42 v52 s2 ∧ v52.toInt = (i + l.length : Nat) ∧ stk (s2.1 102) (xrun (s.1 101) l st) ∧ (∀ o, o ≠ 102 → s2.1 o = s.1 o) ∧ s2.2 = s.2 := by
  have l0 : (0 : Int32).toInt = 0 := rfl
  have l1 : (1 : Int32).toInt = 1 := rfl
  intro l
  induction l with
  | nil =>
    intro st i n v4 v5 s h ho hd hc hs ht hi hb hb2 hz
    exact ⟨v4, v5, s, rfl, hi, hs, fun _ _ => rfl, rfl⟩
  | cons o l ih =>
    intro st i n v4 v5 s h ho hd hc hs ht hi hb hb2 hz
    have hlen : (o :: l).length = l.length + 1 := rfl
    rw [hlen] at hb hb2 hz
    have hol := fun o h => ho o (List.mem_cons_of_mem _ h)
    obtain ⟨⟨hc1, hc1'⟩, hc2⟩ := hc
    have ki : v5.toNatClampNeg = i := nz_eq hi
    have kt : v4.toNatClampNeg = st.length := nz_eq ht
    have hii := i_inc (a := v5) (by omega)
    have hti := i_inc (a := v4) (by omega)
    have go : ∀ (st2 : List Int32) (k : Nat) (v v42 : Int32), xst (s.1 101) o st = st2 → xdep l st2.length = some h → stk (upd (s.1 102) k v) st2 → v42.toInt = (st2.length : Nat) → st2.length ≤ st.length + 1 →
        f_M_worked_L12 (n + (l.length + 1)) p v3 v4 v5 s = f_M_worked_L12 (n + l.length) p v3 v42 (v5 + 1) (zz_w s 102 k v) →
        ∃ (v42 v52 : Int32) (s2 : zz_S), f_M_worked_L12 (n + (l.length + 1)) p v3 v4 v5 s = f_M_worked_L12 n p v3 v42 v52 s2 ∧ v52.toInt = (i + (l.length + 1) : Nat) ∧ stk (s2.1 102) (xrun (s.1 101) (o :: l) st) ∧ (∀ o, o ≠ 102 → s2.1 o = s.1 o) ∧ s2.2 = s.2 := by
      intro st2 k v v42 e1 e2 e3 e4 e5 e6
      obtain ⟨t3, i3, s3, g1, g2, g3, g4, g5⟩ := ih st2 (i + 1) n v42 (v5 + 1) (zz_w s 102 k v) h hol e2 hc2 (by rw [w_row, if_pos rfl]; exact e3) e4 (by omega) (by omega) (by omega) (by omega)
      refine ⟨t3, i3, s3, e6.trans g1, by omega, ?_, fun c hc => (g4 c hc).trans (by rw [w_row, if_neg hc]), g5⟩
      show stk (s3.1 102) (xrun (s.1 101) l (xst (s.1 101) o st))
      rw [e1]
      exact g3
    have start : f_M_worked_L12 (n + (l.length + 1)) p v3 v4 v5 s = (if o.1 = (1 : Int32) then
      f_M_worked_J45 (f_M_worked_L12 (n + l.length)) p v3 v4 v5 o.1 s
    else
      if o.1 = (2 : Int32) then
        f_M_worked_J45 (f_M_worked_L12 (n + l.length)) p v3 v4 v5 o.1 s
      else
        if o.1 = (3 : Int32) then
          if zz_in (v4 - (1 : Int32)) 130 = true then
          if (s.1 102 ((v4 - (1 : Int32)).toNatClampNeg)) = 0 then
            f_M_worked_J117 (f_M_worked_L12 (n + l.length)) p v3 v4 v5 (v4 - (1 : Int32)) (1 : Int32) s
          else
            f_M_worked_J117 (f_M_worked_L12 (n + l.length)) p v3 v4 v5 (v4 - (1 : Int32)) (0 : Int32) s
          else none
        else
          if o.1 = (4 : Int32) then
            if zz_in (v4 - (1 : Int32)) 130 = true then
            f_M_worked_L12 (n + l.length) p v3 v4 (v5 + (1 : Int32)) (zz_w s 102 ((v4 - (1 : Int32)).toNatClampNeg) (-(s.1 102 ((v4 - (1 : Int32)).toNatClampNeg))))
            else none
          else
            if zz_in ((v4 + (-1 : Int32)) - (1 : Int32)) 130 = true then
            if zz_in (v4 + (-1 : Int32)) 130 = true then
            (f_M_twoOf o.1 (s.1 102 (((v4 + (-1 : Int32)) - (1 : Int32)).toNatClampNeg)) (s.1 102 ((v4 + (-1 : Int32)).toNatClampNeg))).bind fun q14 =>
            f_M_worked_L12 (n + l.length) p v3 (v4 + (-1 : Int32)) (v5 + (1 : Int32)) (zz_w s 102 (((v4 + (-1 : Int32)) - (1 : Int32)).toNatClampNeg) q14)
            else none
            else none) := by
      rw [show n + (l.length + 1) = (n + l.length) + 1 from rfl, f_M_worked_L12, if_neg (by rw [i_le]; omega), if_pos (i_in.mpr (by omega)), ki, hc1]
    rw [hlen]
    rw [start] at go ⊢
    have z5 : zz_in v5 780 = true := i_in.mpr (by omega)
    rcases ho o List.mem_cons_self with ⟨q, q1, q2⟩ | ⟨q, q1, q2⟩ | q | q | q
    · have ex : xst (s.1 101) o st = o.2 :: st := by unfold xst; rw [if_pos q]
      unfold xdep at hd
      rw [if_pos (Or.inl q)] at hd
      refine go (o.2 :: st) st.length o.2 (v4 + 1) ex hd (stk_push hs rfl _) (by rw [hti, ht]; rfl) (Nat.le_refl _) ?_
      unfold f_M_worked_J45 f_M_worked_J79
      rw [if_pos q, if_pos q, if_pos z5, if_pos (i_in.mpr (by omega)), ki, kt, hc1']
    · have ex : xst (s.1 101) o st = s.1 101 o.2.toInt.toNat :: st := by unfold xst; rw [if_neg (by rw [q]; decide), if_pos q]
      unfold xdep at hd
      rw [if_pos (Or.inr q)] at hd
      refine go _ st.length (s.1 101 o.2.toInt.toNat) (v4 + 1) ex hd (stk_push hs rfl _) (by rw [hti, ht]; rfl) (Nat.le_refl _) ?_
      unfold f_M_worked_J45 f_M_worked_J79
      rw [if_neg (by rw [q]; decide), if_pos q, if_neg (by rw [q]; decide), if_pos z5, ki, hc1', if_pos (i_in.mpr (by omega)), if_pos (i_in.mpr (by omega)), kt]
      rfl
    · unfold xdep at hd
      rw [if_neg (by rw [q]; decide), if_pos (Or.inl q)] at hd
      match st, hd, hs with
      | [], hd, hs => exact absurd hd (by simp)
      | x :: r, hd, hs =>
        have hd : xdep l (x :: r).length = some h := hd
        have hr : (x :: r).length = r.length + 1 := rfl
        have ex : xst (s.1 101) o (x :: r) = (if x = 0 then 1 else 0) :: r := by unfold xst; rw [if_neg (by rw [q]; decide), if_neg (by rw [q]; decide), if_pos q]
        have hdc := i_dec (a := v4) (by omega)
        have hm : (v4 - 1).toInt = (r.length : Nat) := by omega
        have km := nz_eq hm
        have zm : zz_in (v4 - 1) 130 = true := i_in.mpr (by omega)
        refine go _ r.length (if x = 0 then 1 else 0) v4 ex hd ⟨by rw [upd_at, if_pos rfl], stk_upd hs.2 (Nat.le_refl _)⟩ (by rw [ht]; rfl) (by show r.length + 1 ≤ r.length + 1 + 1; omega) ?_
        unfold f_M_worked_J117
        rw [if_neg (by rw [q]; decide), if_neg (by rw [q]; decide), if_pos q, if_pos zm, if_pos zm, if_pos zm, km, hs.1]
        by_cases c : x = 0
        · rw [if_pos c, if_pos c]
        · rw [if_neg c, if_neg c]
    · unfold xdep at hd
      rw [if_neg (by rw [q]; decide), if_pos (Or.inr q)] at hd
      match st, hd, hs with
      | [], hd, hs => exact absurd hd (by simp)
      | x :: r, hd, hs =>
        have hd : xdep l (x :: r).length = some h := hd
        have hr : (x :: r).length = r.length + 1 := rfl
        have ex : xst (s.1 101) o (x :: r) = -x :: r := by unfold xst; rw [if_neg (by rw [q]; decide), if_neg (by rw [q]; decide), if_neg (by rw [q]; decide), if_pos q]
        have hdc := i_dec (a := v4) (by omega)
        have hm : (v4 - 1).toInt = (r.length : Nat) := by omega
        have km := nz_eq hm
        have zm : zz_in (v4 - 1) 130 = true := i_in.mpr (by omega)
        refine go _ r.length (-x) v4 ex hd ⟨by rw [upd_at, if_pos rfl], stk_upd hs.2 (Nat.le_refl _)⟩ (by rw [ht]; rfl) (by show r.length + 1 ≤ r.length + 1 + 1; omega) ?_
        rw [if_neg (by rw [q]; decide), if_neg (by rw [q]; decide), if_neg (by rw [q]; decide), if_pos q, if_pos zm, km, hs.1]
    · obtain ⟨⟨n1, n2, n3, n4⟩, -, -⟩ := sgn_ne q
      unfold xdep at hd
      rw [if_neg (by simp [n1, n2]), if_neg (by simp [n3, n4])] at hd
      match st, hd, hs with
      | [], hd, hs => exact absurd hd (by simp)
      | [x], hd, hs => exact absurd hd (by simp)
      | y :: x :: r, hd, hs =>
        have hd : xdep l (x :: r).length = some h := hd
        have hr : (y :: x :: r).length = r.length + 1 + 1 := rfl
        have ex : xst (s.1 101) o (y :: x :: r) = tw o.1 x y :: r := by unfold xst; rw [if_neg n1, if_neg n2, if_neg n3, if_neg n4]
        have hm : (v4 + -1).toInt = (r.length + 1 : Nat) := by
          rw [i_add (by rw [show (-1 : Int32).toInt = -1 from rfl]; omega) (by rw [show (-1 : Int32).toInt = -1 from rfl]; omega), show (-1 : Int32).toInt = -1 from rfl]
          omega
        generalize v4 + -1 = w at *
        have km := nz_eq hm
        have zm : zz_in w 130 = true := i_in.mpr (by omega)
        have hm2 : (w - 1).toInt = (r.length : Nat) := by rw [i_dec (by omega)]; omega
        have km2 := nz_eq hm2
        have zm2 : zz_in (w - 1) 130 = true := i_in.mpr (by omega)
        refine go _ r.length (tw o.1 x y) w ex hd ⟨by rw [upd_at, if_pos rfl], stk_upd hs.2.2 (Nat.le_refl _)⟩ hm (by show r.length + 1 ≤ r.length + 1 + 1 + 1; omega) ?_
        have y1 : s.1 102 (r.length + 1) = y := hs.1
        rw [if_neg n1, if_neg n2, if_neg n3, if_neg n4, if_pos zm2, if_pos zm, km, km2, y1, hs.2.1, tw_M q, Option.bind_some]
/-- what a row of steps is worth, by the reference -/
theorem wk_all (p f e : Int32) (i : Nat) (l : List (Int32 × Int32)) (s : zz_S) (hx : isX l) (hl : l.length ≤ 121) (hr : segR (s.1 96) (s.1 97) i l) (h0 : (130 * p + f).toInt = i) (h1 : (130 * p + e).toInt = (i + l.length : Nat)) (hi : i + l.length ≤ 780) :
    ∃ s2 : zz_S, f_M_worked p f e s = some (xev (s.1 101) l, s2) ∧ (∀ o, o ≠ 102 → s2.1 o = s.1 o) ∧ s2.2 = s.2 := by
  have hd : xdep l ([] : List Int32).length = some 1 := hx.2 0
  have hlen := xrun_len (s.1 101) l [] 1 hx.1 hd
  obtain ⟨n, hn⟩ : ∃ n, zF = n + 1 + l.length := ⟨zF - 1 - l.length, by unfold zF; omega⟩
  obtain ⟨v4, v5, s2, g1, g2, g3, g4, g5⟩ := wk_seg p e l [] i (n + 1) 0 (130 * p + f) s 1 hx.1 hd hr trivial rfl h0 hi (by show 0 + l.length ≤ 121; omega) (by omega)
  refine ⟨s2, ?_, g4, g5⟩
  unfold f_M_worked
  rw [hn, g1, f_M_worked_L12, if_pos (by rw [i_le]; omega)]
  unfold xev
  match hq : xrun (s.1 101) l [], hlen, g3 with
  | [x], _, g3 =>
    have g3 : s2.1 102 0 = x := g3.1
    rw [g3]
    rfl
