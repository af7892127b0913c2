theorem xlen_cons (q : List (Int32 × Int32) × List (Int32 × Int32)) (ls : List (List (Int32 × Int32) × List (Int32 × Int32))) : xlen (q :: ls) = q.1.length + q.2.length + xlen ls := rfl
/-- what a text is worth, by the reference -/
theorem gv_loop (p : Int32) (hp0 : 0 ≤ p.toInt) (hp5 : p.toInt ≤ 4) : ∀ (L : List (List (Int32 × Int32) × List (Int32 × Int32))) (k f n : Nat) (v2 v3 : Int32) (s : zz_S),
    (∀ q ∈ L, (q.1 = [] ∨ isX q.1) ∧ isX q.2) → (s.1 98 p.toInt.toNat).toInt = (k + L.length : Nat) → k + L.length ≤ 61 → f + xlen L ≤ 121 → rfx (s.1 96) (s.1 97) (s.1 99) (s.1 100) (130 * p.toInt.toNat) (61 * p.toInt.toNat) k f L → v2.toInt = f → v3.toInt = (61 * p.toInt.toNat + k : Nat) → L.length < n →
    ∃ s2 : zz_S, f_M_gives_L7 n p v2 v3 s = some (xval (s.1 101) L, s2) ∧ (∀ o, o ≠ 102 → s2.1 o = s.1 o) ∧ s2.2 = s.2 := by
  have l61 : (61 : Int32).toInt = 61 := rfl
  have l130 : (130 : Int32).toInt = 130 := rfl
  have m61 := i_mul (a := 61) (b := p) (by rw [l61]; omega) (by rw [l61]; omega)
  have m130 := i_mul (a := 130) (b := p) (by rw [l130]; omega) (by rw [l130]; omega)
  rw [l61] at m61
  rw [l130] at m130
  have kp : p.toNatClampNeg = p.toInt.toNat := rfl
  have pos : ∀ (v : Int32) (x : Nat), v.toInt = x → x ≤ 121 → (130 * p + v).toInt = (130 * p.toInt.toNat + x : Nat) := fun v x h1 h2 => by
    rw [i_add (by rw [m130]; omega) (by rw [m130]; omega), m130]; omega
  intro L
  induction L with
  | nil =>
    intro k f n v2 v3 s hq hm hk hf hr hv2 hv3 hn
    obtain ⟨n, rfl⟩ : ∃ m, n = m + 1 := ⟨n - 1, by have : ([] : List (List (Int32 × Int32) × List (Int32 × Int32))).length = 0 := rfl; omega⟩
    refine ⟨s, ?_, fun _ _ => rfl, rfl⟩
    have hl : ([] : List (List (Int32 × Int32) × List (Int32 × Int32))).length = 0 := rfl
    rw [hl] at hm
    rw [f_M_gives_L7, if_pos (i_in.mpr (by omega)), kp, if_pos (by rw [i_le, i_add (by rw [m61]; omega) (by rw [m61]; omega), m61]; omega)]
    rfl
  | cons q L ih =>
    intro k f n v2 v3 s hq hm hk hf hr hv2 hv3 hn
    have hl : (q :: L).length = L.length + 1 := rfl
    rw [hl] at hm hk hn
    rw [xlen_cons] at hf
    obtain ⟨n, rfl⟩ : ∃ m, n = m + 1 := ⟨n - 1, by omega⟩
    obtain ⟨r1, r2, r3, r4, r5⟩ := hr
    obtain ⟨hq1, hq2⟩ := hq q List.mem_cons_self
    have kv3 : v3.toNatClampNeg = 61 * p.toInt.toNat + k := nz_eq hv3
    have z3 : zz_in v3 366 = true := i_in.mpr (by omega)
    -- what the line gives
    have last : ∀ s1 : zz_S, (∀ o, o ≠ 102 → s1.1 o = s.1 o) → s1.2 = s.2 → ∃ s2 : zz_S, f_M_gives_J47 p v3 s1 = some (xev (s.1 101) q.2, s2) ∧ (∀ o, o ≠ 102 → s2.1 o = s.1 o) ∧ s2.2 = s.2 := by
      intro s1 h1 h2
      obtain ⟨s2, g1, g2, g3⟩ := wk_all p (s1.1 99 v3.toNatClampNeg) (s1.1 100 v3.toNatClampNeg) (130 * p.toInt.toNat + (f + q.1.length)) q.2 s1 hq2 (by omega) (by rw [h1 96 (by decide), h1 97 (by decide)]; exact r3) (pos _ _ (by rw [h1 99 (by decide), kv3]; exact r2) (by omega)) (by rw [pos (s1.1 100 v3.toNatClampNeg) (f + q.1.length + q.2.length) (by rw [h1 100 (by decide), kv3]; exact r4) (by omega)]; omega) (by omega)
      rw [h1 101 (by decide)] at g1
      refine ⟨s2, ?_, fun o h => (g2 o h).trans (h1 o h), g3.trans h2⟩
      unfold f_M_gives_J47
      rw [if_pos z3, g1]
      rfl
    have start : f_M_gives_L7 (n + 1) p v2 v3 s = (if (s.1 99 (v3.toNatClampNeg)) = v2 then
      f_M_gives_J47 p v3 s
    else
      (f_M_worked p v2 (s.1 99 (v3.toNatClampNeg)) s).bind fun q7 =>
      if q7.1 = 0 then
        f_M_gives_L7 n p (q7.2.1 100 (v3.toNatClampNeg)) (v3 + (1 : Int32)) q7.2
      else
        f_M_gives_J47 p v3 q7.2) := by
      rw [f_M_gives_L7, if_pos (i_in.mpr (by omega)), kp, if_neg (by rw [i_le, i_add (by rw [m61]; omega) (by rw [m61]; omega), m61]; omega), if_pos z3]
    rw [start]
    by_cases c : q.1 = []
    · obtain ⟨s2, g1, g2, g3⟩ := last s (fun _ _ => rfl) rfl
      have cl0 : q.1.length = 0 := by rw [c]; rfl
      refine ⟨s2, ?_, g2, g3⟩
      rw [if_pos (by rw [kv3, i_eq, r2, hv2, cl0]; rfl), g1]
      show _ = some ((if q.1 = [] ∨ ¬ xev (s.1 101) q.1 = 0 then xev (s.1 101) q.2 else xval (s.1 101) L), s2)
      rw [if_pos (Or.inl c)]
    · have hX : isX q.1 := hq1.resolve_left c
      have hpos : 0 < q.1.length := by
        match hh : q.1 with
        | [] => exact absurd hh c
        | _ :: _ => exact Nat.succ_pos _
      obtain ⟨s1, g1, g2, g3⟩ := wk_all p v2 (s.1 99 v3.toNatClampNeg) (130 * p.toInt.toNat + f) q.1 s hX (by omega) r1 (pos _ _ hv2 (by omega)) (by rw [pos (s.1 99 v3.toNatClampNeg) (f + q.1.length) (by rw [kv3]; exact r2) (by omega)]; omega) (by omega)
      rw [if_neg (by rw [kv3, i_eq, r2, hv2]; omega), g1, Option.bind_some]
      by_cases e : xev (s.1 101) q.1 = 0
      · have hi3 := i_inc (a := v3) (by omega)
        obtain ⟨s2, k1, k2, k3⟩ := ih (k + 1) (f + q.1.length + q.2.length) n (s1.1 100 v3.toNatClampNeg) (v3 + 1) s1 (fun q h => hq q (List.mem_cons_of_mem _ h)) (by rw [g2 98 (by decide)]; omega) (by omega) (by omega) (by rw [g2 96 (by decide), g2 97 (by decide), g2 99 (by decide), g2 100 (by decide)]; exact r5) (by rw [g2 100 (by decide), kv3]; exact r4) (by omega) (by omega)
        rw [g2 101 (by decide)] at k1
        refine ⟨s2, ?_, fun o h => (k2 o h).trans (g2 o h), k3.trans g3⟩
        rw [if_pos e, k1]
        show _ = some ((if q.1 = [] ∨ ¬ xev (s.1 101) q.1 = 0 then xev (s.1 101) q.2 else xval (s.1 101) L), s2)
        rw [if_neg (by simp [c, e])]
      · obtain ⟨s2, k1, k2, k3⟩ := last s1 g2 g3
        refine ⟨s2, ?_, k2, k3⟩
        rw [if_neg e, k1]
        show _ = some ((if q.1 = [] ∨ ¬ xev (s.1 101) q.1 = 0 then xev (s.1 101) q.2 else xval (s.1 101) L), s2)
        rw [if_pos (Or.inr e)]
theorem gv_all (p : Int32) {L : List (List (Int32 × Int32) × List (Int32 × Int32))} {s : zz_S} (hp0 : 0 ≤ p.toInt) (hp5 : p.toInt ≤ 4) (h : refOK (s.1 96) (s.1 97) (s.1 98) (s.1 99) (s.1 100) p.toInt.toNat L) :
    ∃ s2 : zz_S, f_M_gives p s = some (xval (s.1 101) L, s2) ∧ (∀ o, o ≠ 102 → s2.1 o = s.1 o) ∧ s2.2 = s.2 := by
  obtain ⟨h1, h2, h3, h4, h5⟩ := h
  have l61 : (61 : Int32).toInt = 61 := rfl
  unfold f_M_gives
  exact gv_loop p hp0 hp5 L 0 0 zF 0 (61 * p) s h1 (by rw [h2]; omega) (by omega) (by omega) h5 rfl (by rw [i_mul (by rw [l61]; omega) (by rw [l61]; omega), l61]; omega) (by unfold zF; omega)
/-- what a text is worth, by the class -/
theorem wo_skip (v0 v1 : Nat) (nx : Int32) : ∀ (m n : Nat) (top iv : Int32) (s : zz_S), 0 ≤ iv.toInt → iv.toInt + m = nx.toInt → nx.toInt ≤ 121 → nx.toInt ≤ (s.1 v0 0).toInt → ∃ iv2 : Int32, iv2 = nx ∧ f_Text_worth_L7 (n + m) v0 v1 top nx iv s = f_Text_worth_L7 n v0 v1 top nx iv2 s
  | 0, n, top, iv, s, h0, h1, h2, h3 => ⟨iv, i_lit (by omega), rfl⟩
  | m + 1, n, top, iv, s, h0, h1, h2, h3 => by
    have hi := i_inc (a := iv) (by omega)
    obtain ⟨iv2, e1, e2⟩ := wo_skip v0 v1 nx m n top (iv + 1) s (by omega) (by omega) h2 h3
    refine ⟨iv2, e1, ?_⟩
    rw [← e2, show n + (m + 1) = (n + m) + 1 from rfl, f_Text_worth_L7, if_neg (by rw [i_le]; omega), if_pos (i_in.mpr (by omega)), if_neg (by rw [i_le]; omega)]
theorem wo_loop (v0 v1 : Nat) (hv : v1 ≠ v0 + 2) : ∀ (L : List (List (Int32 × Int32) × List (Int32 × Int32))) (i e n : Nat) (nx iv : Int32) (s : zz_S),
    (∀ q ∈ L, (q.1 = [] ∨ isX q.1) ∧ isX q.2) → clx (s.1 (v0 + 1)) i L e → (s.1 v0 0).toInt = e → e ≤ 121 → iv.toInt = i → i ≤ e → nx.toInt ≤ i → e - i < n →
    ∃ s2 : zz_S, f_Text_worth_L7 n v0 v1 0 nx iv s = some (xval (s.1 v1) L, s2) ∧ (∀ o, o ≠ v0 + 2 → s2.1 o = s.1 o) ∧ s2.2 = s.2 := by
  have l0 : (0 : Int32).toInt = 0 := rfl
  have l1m : (10000 : Int32).toInt = 10000 := rfl
  have l2m : (20000 : Int32).toInt = 20000 := rfl
  have clx_le : ∀ (L : List (List (Int32 × Int32) × List (Int32 × Int32))) (f : Nat → Int32) (i e : Nat), clx f i L e → i ≤ e := by
    intro L
    induction L with
    | nil => intro f i e h; exact Nat.le_of_eq h
    | cons q L ih => intro f i e h; have := ih f _ e h.2.2.2.2; omega
  intro L
  induction L with
  | nil =>
    intro i e n nx iv s hq hc hz he hi hie hn hfu
    obtain ⟨n, rfl⟩ : ∃ m, n = m + 1 := ⟨n - 1, by omega⟩
    have hc : i = e := hc
    refine ⟨s, ?_, fun _ _ => rfl, rfl⟩
    rw [f_Text_worth_L7, if_pos (by rw [i_le]; omega)]
    rfl
  | cons q L ih =>
    intro i e n nx iv s hq hc hz he hi hie hn hfu
    obtain ⟨hq1, hq2⟩ := hq q List.mem_cons_self
    obtain ⟨c1, c2, c3, c4, c5⟩ := hc
    have hle := clx_le L _ _ _ c5
    have a0 : ¬ v0 = v0 + 2 := by omega
    have a1 : ¬ v0 + 1 = v0 + 2 := by omega
    -- the value of the line, and its end
    have last : ∀ (n : Nat) (nx iv : Int32) (s1 : zz_S), (∀ o, o ≠ v0 + 2 → s1.1 o = s.1 o) → s1.2 = s.2 → iv.toInt = (i + skl q.1 : Nat) → nx.toInt ≤ (i + skl q.1 : Nat) → q.2.length < n → ∃ s2 : zz_S, f_Text_worth_L7 n v0 v1 0 nx iv s1 = some (xev (s.1 v1) q.2, s2) ∧ (∀ o, o ≠ v0 + 2 → s2.1 o = s.1 o) ∧ s2.2 = s.2 := by
      intro n nx iv s1 h1 h2 h3 h4 h5
      obtain ⟨m, rfl⟩ : ∃ m, n = m + 1 + q.2.length := ⟨n - 1 - q.2.length, by omega⟩
      have hd : xdep q.2 ([] : List Int32).length = some 1 := hq2.2 0
      have hlen := xrun_len (s.1 v1) q.2 [] 1 hq2.1 hd
      obtain ⟨t2, i2, s2, g1, g2, g3, g4, g5⟩ := wo_seg v0 v1 hv q.2 [] (i + skl q.1) (m + 1) 0 nx iv s1 1 hq2.1 hd (by rw [h1 _ a1]; exact c3) trivial rfl h3 (by omega) (by show 0 + q.2.length ≤ 121; omega) (by rw [h1 _ a0, hz]; omega) h4
      rw [h1 v1 hv] at g3
      refine ⟨s2, ?_, fun o h => (g4 o h).trans (h1 o h), g5.trans h2⟩
      have e1 : s2.1 (v0 + 1) i2.toNatClampNeg = -59 := by rw [g4 _ a1, h1 _ a1, nz_eq g2]; exact c4
      have e0 : (s2.1 v0 0).toInt = e := by rw [g4 _ a0, h1 _ a0]; exact hz
      rw [g1, f_Text_worth_L7, if_neg (by rw [i_le, e0, g2]; omega), if_pos (i_in.mpr (by omega)), if_pos (by rw [i_le, g2]; omega), e1, if_pos (by decide), if_pos (by decide), if_pos (by decide), if_pos rfl]
      unfold xev
      match hq : xrun (s.1 v1) q.2 [], hlen, g3 with
      | [x], _, g3 =>
        have g3 : s2.1 (v0 + 2) 0 = x := g3.1
        rw [g3]
        rfl
    by_cases c : q.1 = []
    · have sk0 : skl q.1 = 0 := by unfold skl; rw [if_pos c]
      obtain ⟨s2, g1, g2, g3⟩ := last n nx iv s (fun _ _ => rfl) rfl (by rw [sk0]; exact hi) (by rw [sk0]; exact hn) (by omega)
      refine ⟨s2, ?_, g2, g3⟩
      rw [g1]
      show _ = some ((if q.1 = [] ∨ ¬ xev (s.1 v1) q.1 = 0 then xev (s.1 v1) q.2 else xval (s.1 v1) L), s2)
      rw [if_pos (Or.inl c)]
    · have sk1 : skl q.1 = q.1.length + 1 := by unfold skl; rw [if_neg c]
      have hX : isX q.1 := hq1.resolve_left c
      have hd : xdep q.1 ([] : List Int32).length = some 1 := hX.2 0
      have hlen := xrun_len (s.1 v1) q.1 [] 1 hX.1 hd
      obtain ⟨m, rfl⟩ : ∃ m, n = m + 1 + q.1.length := ⟨n - 1 - q.1.length, by omega⟩
      obtain ⟨t2, i2, s2, g1, g2, g3, g4, g5⟩ := wo_seg v0 v1 hv q.1 [] i (m + 1) 0 nx iv s 1 hX.1 hd c1 trivial rfl hi (by omega) (by show 0 + q.1.length ≤ 121; omega) (by rw [hz]; omega) hn
      have top0 : s2.1 (v0 + 2) 0 = xev (s.1 v1) q.1 := by
        unfold xev
        match hq : xrun (s.1 v1) q.1 [], hlen, g3 with
        | [x], _, g3 => exact g3.1
      have hcode := c2 c
      have e1 : s2.1 (v0 + 1) i2.toNatClampNeg = s.1 (v0 + 1) (i + q.1.length) := by rw [g4 _ a1, nz_eq g2]
      have e0 : (s2.1 v0 0).toInt = e := by rw [g4 _ a0]; exact hz
      have hii := i_inc (a := i2) (by omega)
      have hsub := i_sub (a := s.1 (v0 + 1) (i + q.1.length)) (b := 10000) (by rw [l1m]; omega) (by rw [l1m]; omega)
      rw [l1m] at hsub
      rw [g1, f_Text_worth_L7, if_neg (by rw [i_le, e0, g2]; omega), if_pos (i_in.mpr (by omega)), if_pos (by rw [i_le, g2]; omega), e1, if_pos (by rw [i_lt, l2m]; omega), if_neg (by rw [i_lt, l1m]; omega), top0]
      unfold f_Text_worth_J91
      by_cases z : xev (s.1 v1) q.1 = 0
      · rw [if_pos z]
        generalize hnx : s.1 (v0 + 1) (i + q.1.length) - 10000 = nx2 at *
        obtain ⟨m2, rfl⟩ : ∃ m2, m = m2 + (q.2.length + 1) := ⟨m - (q.2.length + 1), by omega⟩
        obtain ⟨i3, k1, k2⟩ := wo_skip v0 v1 nx2 (q.2.length + 1) m2 0 (i2 + 1) s2 (by omega) (by omega) (by omega) (by omega)
        obtain ⟨s3, m1, m3, m4⟩ := ih (i + skl q.1 + q.2.length + 1) e m2 nx2 i3 s2 (fun q h => hq q (List.mem_cons_of_mem _ h)) (by rw [g4 _ a1]; exact c5) e0 he (by rw [k1]; omega) hle (by omega) (by omega)
        rw [g4 v1 hv] at m1
        refine ⟨s3, ?_, fun o h => (m3 o h).trans (g4 o h), m4.trans g5⟩
        rw [k2, m1]
        show _ = some ((if q.1 = [] ∨ ¬ xev (s.1 v1) q.1 = 0 then xev (s.1 v1) q.2 else xval (s.1 v1) L), s3)
        rw [if_neg (by simp [c, z])]
      · rw [if_neg z]
        obtain ⟨s3, k1, k2, k3⟩ := last m 0 (i2 + 1) s2 g4 g5 (by omega) (by rw [l0]; omega) (by omega)
        refine ⟨s3, ?_, k2, k3⟩
        rw [k1]
        show _ = some ((if q.1 = [] ∨ ¬ xev (s.1 v1) q.1 = 0 then xev (s.1 v1) q.2 else xval (s.1 v1) L), s3)
        rw [if_pos (Or.inr z)]
theorem wo_all (v0 v1 : Nat) (hv : v1 ≠ v0 + 2) {L : List (List (Int32 × Int32) × List (Int32 × Int32))} {s : zz_S} (hq : ∀ q ∈ L, (q.1 = [] ∨ isX q.1) ∧ isX q.2) (hz0 : 0 ≤ (s.1 v0 0).toInt) (hz : (s.1 v0 0).toInt ≤ 121) (h : clx (s.1 (v0 + 1)) 0 L (s.1 v0 0).toInt.toNat) :
    ∃ s2 : zz_S, f_Text_worth v0 v1 s = some (xval (s.1 v1) L, s2) ∧ (∀ o, o ≠ v0 + 2 → s2.1 o = s.1 o) ∧ s2.2 = s.2 := by
  unfold f_Text_worth
  exact wo_loop v0 v1 hv L 0 _ zF 0 0 s hq h (by omega) (by omega) rfl (by omega) (Int.le_refl 0) (by unfold zF; omega)
/-- what a text is worth rests on the eight names alone -/
theorem xst_nm {f g : Nat → Int32} (h : ∀ k, k < 8 → f k = g k) {o : Int32 × Int32} (ho : opOK o) (st : List Int32) : xst f o st = xst g o st := by
  unfold xst
  by_cases c : o.1 = 2
  · have hb : 0 ≤ o.2.toInt ∧ o.2.toInt ≤ 7 := by
      rcases ho with ⟨q, -⟩ | ⟨q, q1, q2⟩ | q | q | q
      · rw [c] at q; exact absurd q (by decide)
      · exact ⟨q1, q2⟩
      · rw [c] at q; exact absurd q (by decide)
      · rw [c] at q; exact absurd q (by decide)
      · exact absurd c (sgn_ne q).1.2.1
    rw [h _ (by omega)]
  · rw [if_neg c, if_neg c]
theorem xrun_nm {f g : Nat → Int32} (h : ∀ k, k < 8 → f k = g k) : ∀ (l : List (Int32 × Int32)) (st : List Int32), (∀ o ∈ l, opOK o) → xrun f l st = xrun g l st
  | [], _, _ => rfl
  | o :: l, st, ho => by
    unfold xrun
    rw [xst_nm h (ho o List.mem_cons_self), xrun_nm h l _ fun o h => ho o (List.mem_cons_of_mem _ h)]
theorem xval_nm {f g : Nat → Int32} (h : ∀ k, k < 8 → f k = g k) : ∀ (L : List (List (Int32 × Int32) × List (Int32 × Int32))), (∀ q ∈ L, (q.1 = [] ∨ isX q.1) ∧ isX q.2) → xval f L = xval g L
  | [], _ => rfl
  | q :: L, hq => by
    obtain ⟨h1, h2⟩ := hq q List.mem_cons_self
    have e2 : xev f q.2 = xev g q.2 := by unfold xev; rw [xrun_nm h q.2 _ h2.1]
    have e1 : q.1 ≠ [] → xev f q.1 = xev g q.1 := fun c => by unfold xev; rw [xrun_nm h q.1 _ (h1.resolve_left c).1]
    unfold xval
    rw [e2, xval_nm h L fun q h => hq q (List.mem_cons_of_mem _ h)]
    by_cases c : q.1 = []
    · rw [if_pos (Or.inl c), if_pos (Or.inl c)]
    · rw [e1 c]
