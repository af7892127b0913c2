theorem nz_eq {a : Int32} {n : Nat} (h : a.toInt = n) : a.toNatClampNeg = n := by
  rw [i_nat, h]
  rfl
theorem zmax_toInt (a b : Int32) : (zz_max a b).toInt = max a.toInt b.toInt := by
  unfold zz_max
  by_cases h : a < b
  · rw [if_pos h]; have := i_lt.mp h; omega
  · rw [if_neg h]; have := mt i_lt.mpr h; omega
theorem zmin_toInt (a b : Int32) : (zz_min a b).toInt = min a.toInt b.toInt := by
  unfold zz_min
  by_cases h : b < a
  · rw [if_pos h]; have := i_lt.mp h; omega
  · rw [if_neg h]; have := mt i_lt.mpr h; omega
theorem wo_seg (v0 v1 : Nat) (hv : v1 ≠ v0 + 2) : ∀ (l : List (Int32 × Int32)) (st : List Int32) (i n : Nat) (top nx iv : Int32) (s : zz_S) (h : Nat),
  (∀ o ∈ l, opOK o) → xdep l st.length = some h → segC (s.1 (v0 + 1)) i l → stk (s.1 (v0 + 2)) st → top.toInt = (st.length : Nat) → iv.toInt = i → i + l.length ≤ 121 → st.length + l.length ≤ 121 → (i + l.length : Nat) ≤ (s.1 v0 0).toInt → nx.toInt ≤ i →
  ∃ (top2 iv2 : Int32) (s2 : zz_S), f_Text_worth_L7 (n + l.length) v0 v1 top nx iv s = f_Text_worth_L7 n v0 v1 top2 nx iv2 s2 ∧ iv2.toInt = (i + l.length : Nat) ∧ stk (s2.1 (v0 + 2)) (xrun (s.1 v1) l st) ∧ (∀ o, o ≠ v0 + 2 → s2.1 o = s.1 o) ∧ s2.2 = s.2 := by
  have l0 : (0 : Int32).toInt = 0 := rfl
  have l1 : (1 : Int32).toInt = 1 := rfl
  have l1m : (10000 : Int32).toInt = 10000 := rfl
  have l2m : (20000 : Int32).toInt = 20000 := rfl
  intro l
  induction l with
  | nil =>
    intro st i n top nx iv s h ho hd hc hs ht hi hb hb2 hz hn
    exact ⟨top, iv, s, rfl, hi, hs, fun _ _ => rfl, rfl⟩
  | cons o l ih =>
    intro st i n top nx iv s h ho hd hc hs ht hi hb hb2 hz hn
    have hlen : (o :: l).length = l.length + 1 := rfl
    rw [hlen] at hb hb2 hz
    have hol := fun o h => ho o (List.mem_cons_of_mem _ h)
    obtain ⟨hc1, hc2⟩ := hc
    have ki : iv.toNatClampNeg = i := nz_eq hi
    have kt : top.toNatClampNeg = st.length := nz_eq ht
    have hii := i_inc (a := iv) (by omega)
    have hti := i_inc (a := top) (by omega)
    have a1 : ¬ v0 = v0 + 2 := by omega
    have a2 : ¬ v0 + 1 = v0 + 2 := by omega
    -- the step's way on
    have go : ∀ (st2 : List Int32) (k : Nat) (v top2 : Int32), xst (s.1 v1) o st = st2 → xdep l st2.length = some h → stk (upd (s.1 (v0 + 2)) k v) st2 → top2.toInt = (st2.length : Nat) → st2.length ≤ st.length + 1 →
        f_Text_worth_L7 (n + (l.length + 1)) v0 v1 top nx iv s = f_Text_worth_L7 (n + l.length) v0 v1 top2 nx (iv + 1) (zz_w s (v0 + 2) k v) →
        ∃ (top2 iv2 : Int32) (s2 : zz_S), f_Text_worth_L7 (n + (l.length + 1)) v0 v1 top nx iv s = f_Text_worth_L7 n v0 v1 top2 nx iv2 s2 ∧ iv2.toInt = (i + (l.length + 1) : Nat) ∧ stk (s2.1 (v0 + 2)) (xrun (s.1 v1) (o :: l) st) ∧ (∀ o, o ≠ v0 + 2 → s2.1 o = s.1 o) ∧ s2.2 = s.2 := by
      intro st2 k v top2 e1 e2 e3 e4 e5 e6
      have f0 : (zz_w s (v0 + 2) k v).1 v0 = s.1 v0 := by rw [w_row, if_neg a1]
      have f1 : (zz_w s (v0 + 2) k v).1 (v0 + 1) = s.1 (v0 + 1) := by rw [w_row, if_neg a2]
      have f2 : (zz_w s (v0 + 2) k v).1 (v0 + 2) = upd (s.1 (v0 + 2)) k v := by rw [w_row, if_pos rfl]
      have f3 : (zz_w s (v0 + 2) k v).1 v1 = s.1 v1 := by rw [w_row, if_neg hv]
      obtain ⟨t3, i3, s3, g1, g2, g3, g4, g5⟩ := ih st2 (i + 1) n top2 nx (iv + 1) (zz_w s (v0 + 2) k v) h hol e2 (by rw [f1]; exact hc2) (by rw [f2]; exact e3) e4 (by omega) (by omega) (by omega) (by rw [f0]; omega) (by omega)
      rw [f3] at g3
      refine ⟨t3, i3, s3, e6.trans g1, by omega, ?_, fun c hc => (g4 c hc).trans (by rw [w_row, if_neg hc]), g5⟩
      show stk (s3.1 (v0 + 2)) (xrun (s.1 v1) l (xst (s.1 v1) o st))
      rw [e1]
      exact g3
    -- what stands at the place
    have start : f_Text_worth_L7 (n + (l.length + 1)) v0 v1 top nx iv s = (if ccd o < (20000 : Int32) then
        if ccd o < (10000 : Int32) then
          if ccd o < 0 then
            if ccd o = (-59 : Int32) then
              some ((s.1 (v0 + 2) 0), s)
            else
              if ccd o = (-126 : Int32) then
                f_Text_worth_J142 (f_Text_worth_L7 (n + l.length)) v0 v1 top nx iv (ccd o) s
              else
                if ccd o = (-33 : Int32) then
                  f_Text_worth_J142 (f_Text_worth_L7 (n + l.length)) v0 v1 top nx iv (ccd o) s
                else
                  if zz_in ((zz_max (1 : Int32) (top - (1 : Int32))) - (1 : Int32)) 122 = true then
                  if zz_in (zz_max (1 : Int32) (top - (1 : Int32))) 122 = true then
                  (f_Text_worthOfTwo (-(ccd o)) (s.1 (v0 + 2) (((zz_max (1 : Int32) (top - (1 : Int32))) - (1 : Int32)).toNatClampNeg)) (s.1 (v0 + 2) ((zz_max (1 : Int32) (top - (1 : Int32))).toNatClampNeg))).bind fun q17 =>
                  f_Text_worth_L7 (n + l.length) v0 v1 (zz_max (1 : Int32) (top - (1 : Int32))) nx (iv + (1 : Int32)) (zz_w s (v0 + 2) (((zz_max (1 : Int32) (top - (1 : Int32))) - (1 : Int32)).toNatClampNeg) q17)
                  else none
                  else none
          else
            if zz_in top 122 = true then
            f_Text_worth_L7 (n + l.length) v0 v1 (top + (1 : Int32)) nx (iv + (1 : Int32)) (zz_w s (v0 + 2) st.length (ccd o))
            else none
        else
          if (s.1 (v0 + 2) 0) = 0 then
            f_Text_worth_J91 (f_Text_worth_L7 (n + l.length)) v0 v1 (0 : Int32) iv (ccd o - (10000 : Int32)) s
          else
            f_Text_worth_J91 (f_Text_worth_L7 (n + l.length)) v0 v1 (0 : Int32) iv (0 : Int32) s
      else
        if zz_in (ccd o - (20000 : Int32)) 8 = true then
        if zz_in top 122 = true then
        f_Text_worth_L7 (n + l.length) v0 v1 (top + (1 : Int32)) nx (iv + (1 : Int32)) (zz_w s (v0 + 2) st.length (s.1 v1 ((ccd o - (20000 : Int32)).toNatClampNeg)))
        else none
        else none) := by
      rw [show n + (l.length + 1) = (n + l.length) + 1 from rfl, f_Text_worth_L7, if_neg (by rw [i_le]; omega), if_pos (i_in.mpr (by omega)), if_pos (by rw [i_le]; omega), ki, hc1, kt]
    rw [hlen]
    rw [start] at go ⊢
    have ztop : zz_in top 122 = true := i_in.mpr (by omega)
    rcases ho o List.mem_cons_self with ⟨q, q1, q2⟩ | ⟨q, q1, q2⟩ | q | q | q
    · have e : ccd o = o.2 := by unfold ccd; rw [if_pos q]
      have ex : xst (s.1 v1) o st = o.2 :: st := by unfold xst; rw [if_pos q]
      unfold xdep at hd
      rw [if_pos (Or.inl q)] at hd
      refine go (o.2 :: st) st.length o.2 (top + 1) ex hd (stk_push hs rfl _) (by rw [hti, ht]; rfl) (Nat.le_refl _) ?_
      rw [e, if_pos (by rw [i_lt, l2m]; omega), if_pos (by rw [i_lt, l1m]; omega), if_neg (by rw [i_lt, l0]; omega), if_pos ztop]
    · have e : ccd o = 20000 + o.2 := by unfold ccd; rw [if_neg (by rw [q]; decide), if_pos q]
      have ex : xst (s.1 v1) o st = s.1 v1 o.2.toInt.toNat :: st := by unfold xst; rw [if_neg (by rw [q]; decide), if_pos q]
      unfold xdep at hd
      rw [if_pos (Or.inr q)] at hd
      have hv := i_add (a := 20000) (b := o.2) (by rw [l2m]; omega) (by rw [l2m]; omega)
      rw [l2m] at hv
      refine go _ st.length (s.1 v1 o.2.toInt.toNat) (top + 1) ex hd (stk_push hs rfl _) (by rw [hti, ht]; rfl) (Nat.le_refl _) ?_
      rw [e, if_neg (by rw [i_lt, l2m]; omega), i_addsub, if_pos (i_in.mpr (by omega)), if_pos ztop]
      rfl
    · have e : ccd o = -33 := by unfold ccd; rw [if_neg (by rw [q]; decide), if_neg (by rw [q]; decide), if_pos q]
      unfold xdep at hd
      rw [if_neg (by rw [q]; decide), if_pos (Or.inl q)] at hd
      match st, hd, hs with
      | [], hd, hs => exact absurd hd (by simp)
      | x :: r, hd, hs =>
        have hd : xdep l (x :: r).length = some h := hd
        have hr : (x :: r).length = r.length + 1 := rfl
        have ex : xst (s.1 v1) o (x :: r) = (if x = 0 then 1 else 0) :: r := by unfold xst; rw [if_neg (by rw [q]; decide), if_neg (by rw [q]; decide), if_pos q]
        have hdc := i_dec (a := top) (by omega)
        have hm : (zz_max 0 (top - 1)).toInt = (r.length : Nat) := by rw [zmax_toInt, hdc, l0]; omega
        have km := nz_eq hm
        have zm : zz_in (zz_max 0 (top - 1)) 122 = true := i_in.mpr (by omega)
        refine go _ r.length (if x = 0 then 1 else 0) top ex hd ⟨by rw [upd_at, if_pos rfl], stk_upd hs.2 (Nat.le_refl _)⟩ (by rw [ht]; rfl) (by show r.length + 1 ≤ r.length + 1 + 1; omega) ?_
        rw [e, if_pos (by decide), if_pos (by decide), if_pos (by decide), if_neg (by decide), if_neg (by decide), if_pos rfl]
        unfold f_Text_worth_J142 f_Text_worth_J190
        rw [if_neg (by decide), if_pos zm, if_pos zm, km, hs.1]
        by_cases c : x = 0
        · rw [if_pos c, if_pos c]
        · rw [if_neg c, if_neg c, if_pos zm]
    · have e : ccd o = -126 := by unfold ccd; rw [if_neg (by rw [q]; decide), if_neg (by rw [q]; decide), if_neg (by rw [q]; decide), if_pos q]
      unfold xdep at hd
      rw [if_neg (by rw [q]; decide), if_pos (Or.inr q)] at hd
      match st, hd, hs with
      | [], hd, hs => exact absurd hd (by simp)
      | x :: r, hd, hs =>
        have hd : xdep l (x :: r).length = some h := hd
        have hr : (x :: r).length = r.length + 1 := rfl
        have ex : xst (s.1 v1) o (x :: r) = -x :: r := by unfold xst; rw [if_neg (by rw [q]; decide), if_neg (by rw [q]; decide), if_neg (by rw [q]; decide), if_pos q]
        have hdc := i_dec (a := top) (by omega)
        have hm : (zz_max 0 (top - 1)).toInt = (r.length : Nat) := by rw [zmax_toInt, hdc, l0]; omega
        have km := nz_eq hm
        have zm : zz_in (zz_max 0 (top - 1)) 122 = true := i_in.mpr (by omega)
        refine go _ r.length (-x) top ex hd ⟨by rw [upd_at, if_pos rfl], stk_upd hs.2 (Nat.le_refl _)⟩ (by rw [ht]; rfl) (by show r.length + 1 ≤ r.length + 1 + 1; omega) ?_
        rw [e, if_pos (by decide), if_pos (by decide), if_pos (by decide), if_neg (by decide), if_pos rfl]
        unfold f_Text_worth_J142 f_Text_worth_J190
        rw [if_pos rfl, if_pos zm, if_pos zm, km, hs.1]
    · obtain ⟨⟨n1, n2, n3, n4⟩, ⟨m1, m2, m3, m4, m5, m6, m7⟩, -⟩ := sgn_ne q
      have e : ccd o = -o.1 := by unfold ccd; rw [if_neg n1, if_neg n2, if_neg n3, if_neg n4]
      unfold xdep at hd
      rw [if_neg (by simp [n1, n2]), if_neg (by simp [n3, n4])] at hd
      match st, hd, hs with
      | [], hd, hs => exact absurd hd (by simp)
      | [x], hd, hs => exact absurd hd (by simp)
      | y :: x :: r, hd, hs =>
        have hd : xdep l (x :: r).length = some h := hd
        have hr : (y :: x :: r).length = r.length + 1 + 1 := rfl
        have ex : xst (s.1 v1) o (y :: x :: r) = tw o.1 x y :: r := by unfold xst; rw [if_neg n1, if_neg n2, if_neg n3, if_neg n4]
        have hdc := i_dec (a := top) (by omega)
        have hm : (zz_max 1 (top - 1)).toInt = (r.length + 1 : Nat) := by rw [zmax_toInt, hdc, l1]; omega
        have km := nz_eq hm
        have zm : zz_in (zz_max 1 (top - 1)) 122 = true := i_in.mpr (by omega)
        have hm2 : (zz_max 1 (top - 1) - 1).toInt = (r.length : Nat) := by rw [i_dec (by omega)]; omega
        have km2 := nz_eq hm2
        have zm2 : zz_in (zz_max 1 (top - 1) - 1) 122 = true := i_in.mpr (by omega)
        refine go _ r.length (tw o.1 x y) (zz_max 1 (top - 1)) ex hd ⟨by rw [upd_at, if_pos rfl], stk_upd hs.2.2 (Nat.le_refl _)⟩ hm (by show r.length + 1 ≤ r.length + 1 + 1 + 1; omega) ?_
        have y1 : s.1 (v0 + 2) (r.length + 1) = y := hs.1
        rw [e, if_pos m1, if_pos m2, if_pos m3, if_neg m4, if_neg m5, if_neg m6, if_pos zm2, if_pos zm, km, km2, m7, y1, hs.2.1, tw_T q, Option.bind_some]
