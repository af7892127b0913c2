theorem xdep_app : ∀ (l m : List (Int32 × Int32)) (h : Nat), xdep (l ++ m) h = (xdep l h).bind (xdep m)
  | [], m, h => rfl
  | o :: l, m, h => by
    show xdep (o :: (l ++ m)) h = _
    unfold xdep
    split
    · exact xdep_app l m _
    · split
      · split
        · exact xdep_app l m _
        · rfl
      · split
        · exact xdep_app l m _
        · rfl
def isT (l : List (Int32 × Int32)) : Prop := (∀ o ∈ l, opOK o) ∧ ∀ h, 1 ≤ h → xdep l h = some h
theorem isT_nil : isT [] := ⟨fun o h => (by cases h), fun h _ => rfl⟩
theorem app_ok {l m : List (Int32 × Int32)} (h : ∀ o ∈ l, opOK o) (k : ∀ o ∈ m, opOK o) : ∀ o ∈ l ++ m, opOK o := fun o ho => (List.mem_append.mp ho).elim (h o) (k o)
theorem isT_app {l m : List (Int32 × Int32)} (h : isT l) (k : isT m) : isT (l ++ m) := ⟨app_ok h.1 k.1, fun n hn => by rw [xdep_app, h.2 n hn]; exact k.2 n hn⟩
theorem isX_app {l m : List (Int32 × Int32)} (h : isX l) (k : isT m) : isX (l ++ m) := ⟨app_ok h.1 k.1, fun n => by rw [xdep_app, h.2 n]; exact k.2 (n + 1) (by omega)⟩
theorem isT_step {l : List (Int32 × Int32)} {w : Int32} (h : isX l) (hw : sgn w) : isT (l ++ [(w, 0)]) := by
  obtain ⟨⟨n1, n2, n3, n4⟩, -⟩ := sgn_ne hw
  refine ⟨app_ok h.1 fun o ho => ?_, fun n hn => ?_⟩
  · rw [List.mem_singleton.mp ho]; exact Or.inr (Or.inr (Or.inr (Or.inr hw)))
  · rw [xdep_app, h.2 n]
    show xdep [(w, 0)] (n + 1) = some n
    unfold xdep
    rw [if_neg (by simp [n1, n2]), if_neg (by simp [n3, n4]), if_pos (by omega)]
    rfl
theorem isX_un {l : List (Int32 × Int32)} {w : Int32} (h : isX l) (hw : w = 3 ∨ w = 4) : isX (l ++ [(w, 0)]) := by
  refine ⟨app_ok h.1 fun o ho => ?_, fun n => ?_⟩
  · rw [List.mem_singleton.mp ho]
    rcases hw with q | q
    · exact Or.inr (Or.inr (Or.inl q))
    · exact Or.inr (Or.inr (Or.inr (Or.inl q)))
  · rw [xdep_app, h.2 n]
    show xdep [(w, 0)] (n + 1) = some (n + 1)
    unfold xdep
    rw [if_neg (by rcases hw with q | q <;> rw [q] <;> decide), if_pos hw, if_pos (by omega)]
    rfl
theorem isX_one {o : Int32 × Int32} (ho : opOK o) (h : o.1 = 1 ∨ o.1 = 2) : isX [o] := ⟨fun p hp => by rw [List.mem_singleton.mp hp]; exact ho, fun n => by unfold xdep; rw [if_pos h]; rfl⟩
theorem isX_pos {l : List (Int32 × Int32)} (h : isX l) : 0 < l.length := by
  match l, h with
  | [], h => exact absurd (h.2 0) (by unfold xdep; simp)
  | _ :: _, _ => exact Nat.succ_pos _
/-- what a way of reading does, on both sides -/
def SP (X : List (Int32 × Int32) → Prop) (F G : zz_S → Option zz_S) (op : Nat) : Prop := ∀ (c r : zz_S) (N a sz ld : Nat), pG c r N a sz ld op → sz ≤ a → ld ≤ a → ∃ c2 r2, F c = some c2 ∧ G r = some r2 ∧ pO X c r c2 r2 N a sz ld op
def sgS (sid : Nat) (S : Int32 → Prop) : Prop := (∀ v w, bP v w → ((f_Tape_placeIn sid v).isSome = true ∧ (0 ≤ (f_Tape_placeIn sid v).getD 0 ↔ S v)) ∧ (S v ↔ S w) ∧ (S v → w = v)) ∧ ∀ v, S v → sgn v ∧ ¬ dead v
theorem dead_no {S : Int32 → Prop} {sid : Nat} (hS : sgS sid S) {v : Int32} (h : dead v) : ¬ S v := fun q => (hS.2 v q).2 h
theorem to_no {S : Int32 → Prop} {sid : Nat} (hS : sgS sid S) {c : zz_S} {v w : Int32} (h : f_Tape_peek c = some v) (hb : bP v w) (hn : ¬ S v) : f_Tape_takesOneOf sid c = some (0, c) := by
  obtain ⟨⟨h1, h2⟩, -⟩ := hS.1 v w hb
  obtain ⟨p, hp⟩ := Option.isSome_iff_exists.mp h1
  rw [hp, Option.getD_some] at h2
  unfold f_Tape_takesOneOf
  rw [h, Option.bind_some, hp, Option.bind_some, if_neg (fun q => hn (h2.mp q))]
theorem to_yes {S : Int32 → Prop} {sid : Nat} (hS : sgS sid S) {c : zz_S} {v w : Int32} (h : f_Tape_peek c = some v) (hb : bP v w) (hn : S v) : f_Tape_takesOneOf sid c = some (v, zz_w c 44 3 (c.1 44 3 + 1)) := by
  obtain ⟨⟨h1, h2⟩, -⟩ := hS.1 v w hb
  obtain ⟨p, hp⟩ := Option.isSome_iff_exists.mp h1
  rw [hp, Option.getD_some] at h2
  unfold f_Tape_takesOneOf
  rw [h, Option.bind_some, hp, Option.bind_some, if_pos (h2.mpr hn)]
theorem nofault {c r : zz_S} {N a sz ld op : Nat} (h : pG c r N a sz ld op) : ¬ (0 : Int32) ≤ r.1 79 25 := by
  rw [h.2.2.2.1.2]
  decide
theorem isfault {c r : zz_S} {N a ld : Nat} (h : pB c r N a ld) : (0 : Int32) ≤ r.1 79 25 := by
  rw [i_le]
  exact h.2.2.2.2.2.1.1
section
variable (R1 : Int32 → Int32 → zz_S → Option zz_S) (R2 : Int32 → zz_S → Option zz_S) (lev v2 : Int32) (subr : zz_S → Option zz_S) (lp : Nat → zz_S → Option zz_S) (S : Int32 → Prop) (op : Nat)
/-- signs and what stands behind them, as long as there are some -/
theorem lv_loop (hlev : ¬ lev = 2) (hS : sgS (f_Tape_signsOf lev) S) (hsub : SP isX (R1 (lev + 1) v2) subr op)
    (lp1 : ∀ n s, (0 : Int32) ≤ s.1 79 25 → lp (n + 1) s = some s) (lp2 : ∀ n s w, ¬ (0 : Int32) ≤ s.1 79 25 → f_M_look s = some w → ¬ S w → lp (n + 1) s = some s)
    (lp3 : ∀ n s w, ¬ (0 : Int32) ≤ s.1 79 25 → f_M_look s = some w → S w → lp (n + 1) s = (subr (zz_w s 79 24 (s.1 79 24 + 1))).bind fun q => (f_M_addStep w 0 q).bind fun q => lp n q) :
    ∀ (m : Nat) (c r : zz_S) (N a sz ld n n2 : Nat) (v4 : Int32), pG c r N a sz ld op → sz ≤ a → ld ≤ a → N - a ≤ m → m < n → m < n2 → 0 ≤ v4.toInt → v4.toInt ≤ a →
      ∃ c2 r2, ((f_Tape_takesOneOf (f_Tape_signsOf lev) c).bind fun q => f_Tape_readLevel_L31 R1 R2 n lev v2 q.1 v4 q.2) = some c2 ∧ lp n2 r = some r2 ∧ pO isT c r c2 r2 N a sz ld op := by
  intro m
  induction m with
  | zero =>
    intro c r N a sz ld n n2 v4 hG hs hl hm hn hn2 h40 h4
    obtain ⟨n, rfl⟩ : ∃ k, n = k + 1 := ⟨n - 1, by omega⟩
    obtain ⟨n2, rfl⟩ : ∃ k, n2 = k + 1 := ⟨n2 - 1, by omega⟩
    obtain ⟨v, w, p1, p2, p3, p4⟩ := pk_good hG
    have hle := hG.2.1
    have hv : v = -1 := p4.resolve_right (by omega)
    have hns : ¬ S v := dead_no hS (Or.inl hv)
    refine ⟨c, r, ?_, lp2 n2 r w (nofault hG) p2 (fun q => hns ((hS.1 v w p3).2.1.mpr q)), pF_me c r, Or.inl ⟨a, [], isT_nil, hG, Nat.le_refl _, ⟨trivial, fun _ _ => rfl⟩, trivial, fun _ _ => ⟨rfl, rfl⟩⟩⟩
    rw [to_no hS p1 p3 hns, Option.bind_some, f_Tape_readLevel_L31]
    by_cases q : (120 : Int32) ≤ v4
    · rw [if_pos q]
    · rw [if_neg q, if_pos rfl]
  | succ m ih =>
    intro c r N a sz ld n n2 v4 hG hs hl hm hn hn2 h40 h4
    obtain ⟨n, rfl⟩ : ∃ k, n = k + 1 := ⟨n - 1, by omega⟩
    obtain ⟨n2, rfl⟩ : ∃ k, n2 = k + 1 := ⟨n2 - 1, by omega⟩
    obtain ⟨v, w, p1, p2, p3, p4⟩ := pk_good hG
    have hle := hG.2.1
    have hN := hG.1.2.1
    by_cases hv : S v
    · obtain ⟨hsg, hnd⟩ := hS.2 v hv
      have hlt : a < N := p4.resolve_left fun q => hnd (Or.inl q)
      obtain ⟨hG1, hF1⟩ := pG_take hG hlt
      have hw : w = v := (hS.1 v w p3).2.2 hv
      obtain ⟨c2, r2, g1, g2, g3⟩ := hsub _ _ N (a + 1) sz ld hG1 (by omega) (by omega)
      have ho : opOK (v, 0) := Or.inr (Or.inr (Or.inr (Or.inr hsg)))
      obtain ⟨⟨n1, n3, n4, n5⟩, -, n0⟩ := sgn_ne hsg
      have hcc : ccd (v, 0) = -v := by unfold ccd; rw [if_neg n1, if_neg n3, if_neg n4, if_neg n5]
      obtain ⟨c3, r3, k1, k2, k3⟩ := p_add ho hs hl g3
      rw [hcc] at k1
      have k3 := pO_from hF1 (by simp [w_row]) (by simp [w_row]) (by simp [w_row]) k3
      have e1 : ((f_Tape_takesOneOf (f_Tape_signsOf lev) c).bind fun q => f_Tape_readLevel_L31 R1 R2 (n + 1) lev v2 q.1 v4 q.2) = ((f_Tape_takesOneOf (f_Tape_signsOf lev) c3).bind fun q => f_Tape_readLevel_L31 R1 R2 n lev v2 q.1 (v4 + 1) q.2) := by
        rw [to_yes hS p1 p3 hv, Option.bind_some, f_Tape_readLevel_L31, if_neg (by rw [i_le, show (120 : Int32).toInt = 120 from rfl]; omega), if_neg n0, g1, Option.bind_some, k1, Option.bind_some, if_neg hlev]
        rfl
      have e2 : lp (n2 + 1) r = lp n2 r3 := by
        rw [lp3 n2 r w (nofault hG) p2 ((hS.1 v w p3).2.1.mp hv), g2, Option.bind_some, hw, k2, Option.bind_some]
      rw [e1, e2]
      obtain ⟨hF, hk⟩ := k3
      rcases hk with ⟨a2, l, ⟨l1, q1, rfl⟩, q2, q3, ⟨q4, q5⟩, q6, q7⟩ | ⟨a2, ld2, q1, q2⟩
      · have hll : (l1 ++ [(v, 0)]).length = l1.length + 1 := by rw [List.length_append]; rfl
        have hv4 := i_inc (a := v4) (by omega)
        obtain ⟨c4, r4, m1, m2, m3⟩ := ih c3 r3 N a2 _ _ n n2 (v4 + 1) q2 (by omega) (by omega) (by omega) (by omega) (by omega) (by omega) (by omega)
        exact ⟨c4, r4, m1, m2, pO_seq (fun _ _ h k => isT_app h k) hF (isT_step q1 hsg) q3 q4 q5 q6 q7 m3⟩
      · obtain ⟨⟨v', u, d1, d2, d3⟩, -⟩ := pk_bad q1
        obtain ⟨n, rfl⟩ : ∃ k, n = k + 1 := ⟨n - 1, by omega⟩
        obtain ⟨n2, rfl⟩ : ∃ k, n2 = k + 1 := ⟨n2 - 1, by omega⟩
        refine ⟨c3, r3, ?_, lp1 n2 r3 (isfault q1), hF, Or.inr ⟨a2, ld2, q1, q2⟩⟩
        rw [to_no hS d1 d2 (dead_no hS d3), Option.bind_some, f_Tape_readLevel_L31]
        by_cases q : (120 : Int32) ≤ v4 + 1
        · rw [if_pos q]
        · rw [if_neg q, if_pos rfl]
    · refine ⟨c, r, ?_, lp2 n2 r w (nofault hG) p2 (fun q => hv ((hS.1 v w p3).2.1.mpr q)), pF_me c r, Or.inl ⟨a, [], isT_nil, hG, Nat.le_refl _, ⟨trivial, fun _ _ => rfl⟩, trivial, fun _ _ => ⟨rfl, rfl⟩⟩⟩
      rw [to_no hS p1 p3 hv, Option.bind_some, f_Tape_readLevel_L31]
      by_cases q : (120 : Int32) ≤ v4
      · rw [if_pos q]
      · rw [if_neg q, if_pos rfl]
theorem lv_level (hlev : ¬ lev = 2) (hlev5 : lev < 5) (hS : sgS (f_Tape_signsOf lev) S) (hsub : SP isX (R1 (lev + 1) v2) subr op)
    (lp1 : ∀ n s, (0 : Int32) ≤ s.1 79 25 → lp (n + 1) s = some s) (lp2 : ∀ n s w, ¬ (0 : Int32) ≤ s.1 79 25 → f_M_look s = some w → ¬ S w → lp (n + 1) s = some s)
    (lp3 : ∀ n s w, ¬ (0 : Int32) ≤ s.1 79 25 → f_M_look s = some w → S w → lp (n + 1) s = (subr (zz_w s 79 24 (s.1 79 24 + 1))).bind fun q => (f_M_addStep w 0 q).bind fun q => lp n q) :
    SP isX (f_Tape_readLevel R1 R2 lev v2) (fun s => (subr s).bind fun q => lp zF q) op := by
  intro c r N a sz ld hG hs hl
  obtain ⟨c2, r2, g1, g2, hF, hk⟩ := hsub c r N a sz ld hG hs hl
  have hN := hG.1.2.1
  have e1 : f_Tape_readLevel R1 R2 lev v2 c = ((f_Tape_takesOneOf (f_Tape_signsOf lev) c2).bind fun q => f_Tape_readLevel_L31 R1 R2 zF lev v2 q.1 0 q.2) := by
    unfold f_Tape_readLevel
    rw [if_pos hlev5, g1]
    rfl
  have e2 : (fun s => (subr s).bind fun q => lp zF q) r = lp zF r2 := by show ((subr r).bind fun q => lp zF q) = _; rw [g2]; rfl
  rw [e1, e2]
  rcases hk with ⟨a2, l, q1, q2, q3, ⟨q4, q5⟩, q6, q7⟩ | ⟨a2, ld2, q1, q2⟩
  · have hle := q2.2.1
    obtain ⟨c4, r4, m1, m2, m3⟩ := lv_loop R1 R2 lev v2 subr lp S op hlev hS hsub lp1 lp2 lp3 120 c2 r2 N a2 _ _ zF zF 0 q2 (by omega) (by omega) (by omega) (by unfold zF; omega) (by unfold zF; omega) (by decide) (by rw [show (0 : Int32).toInt = 0 from rfl]; omega)
    exact ⟨c4, r4, m1, m2, pO_seq (fun _ _ h k => isX_app h k) hF q1 q3 q4 q5 q6 q7 m3⟩
  · obtain ⟨⟨v', u, d1, d2, d3⟩, -⟩ := pk_bad q1
    refine ⟨c2, r2, ?_, lp1 99999 r2 (isfault q1), hF, Or.inr ⟨a2, ld2, q1, q2⟩⟩
    rw [to_no hS d1 d2 (dead_no hS d3), Option.bind_some, show zF = 99999 + 1 from rfl, f_Tape_readLevel_L31, if_neg (by decide), if_pos rfl]
end
