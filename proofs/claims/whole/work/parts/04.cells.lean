/-! fields and arrays -/
def zz_FL (own : String) (idx ci k : Nat) : Prop := ∃ (C : String) (T : u_T) (N : Nat), zz_cl[ci]? = some (C, T, N) ∧ k < N ∧ Cond.fieldLink own idx C (T k).2.1 (T k).2.2.1 ∈ zz_T ∧ (T k).1 = C
def zz_in (i : Int32) (n : Nat) : Bool := decide (¬ (i < 0 ∨ n ≤ i.toNatClampNeg))
theorem zz_in_spec {i : Int32} {n : Nat} (h : zz_in i n = true) : vp_in i n := of_decide_eq_true (p := ¬ (i < 0 ∨ n ≤ i.toNatClampNeg)) h
theorem zz_one {D : va_G} {cl : List vw_C} {q : Nat × va_E} {H : Heap} (h : va_at D cl q H) : va_P D cl [q] H := by
  intro k q' hk
  have hz : k < 1 := (List.getElem?_eq_some_iff.mp hk).1
  rw [show k = 0 by omega] at hk
  cases hk
  exact h
theorem zz_K0 {G : zz_G} {s : State} (hK : ∀ (c : Nat) (q : vw_C), zz_cl[c]? = some q → u_Kn s q.1 q.2.1 q.2.2 (G.2.1.1 c) (G.2.1.2 c)) : va_K G.2.1 zz_cl [] s := ⟨hK, fun k q h => by simp at h⟩
theorem zz_K1 {G : zz_G} {s : State} {t : Nat} (hK : ∀ (c : Nat) (q : vw_C), zz_cl[c]? = some q → u_Kn s q.1 q.2.1 q.2.2 (G.2.1.1 c) (G.2.1.2 c)) (h : zz_KA G s t) : va_K G.2.1 zz_cl [(G.2.2.1 t, zz_ty t)] s := ⟨hK, fun k q hk => by
  have hz : k < 1 := (List.getElem?_eq_some_iff.mp hk).1
  rw [show k = 0 by omega] at hk
  cases hk
  exact h⟩
theorem zz_ref {sh : List zz_Sh} {σ : zz_S} {G : zz_G} {U : State} {H : Heap} (h : zz_Rep G U sh σ H) {o : Nat} {c : zz_Sh} (ho : sh[o]? = some c) : zz_tr G (.ref o) = .ref (G.1 + o) := by
  show Value.ref (zz_ad G o) = _
  rw [zz_ad_in (zz_lt h ho)]
section ZF
variable {G : zz_G} {l : Launch} {own nm : String} {cc : ByteArray} {nL d : Nat} {ret : Option FieldType} {fin : zz_Fin} {Z : zz_Z} {pc : Nat} {lo : List (Option Value)} {st : List Value} {sh : List zz_Sh} {σ : zz_S}
theorem zz_getI (C : zz_Cx G l own nm cc nL ret d fin Z) {idx ci k o : Nat} {fs : List (Option (Option Nat))} (hf : zz_FL own idx ci k) (ho : sh[o]? = some (.inl (ci, fs))) (hk : fs[k]? = some none) (hd : decode cc pc = .ok (.getfield idx, 3)) (kk : Z (pc + 3) lo (.int (σ.1 o k) :: st) sh σ) : Z pc lo (.ref o :: st) sh σ := by
  obtain ⟨⟨p, e, R, s, m, args, below, meth, c, Q, k0, n0, rfl, ⟨hx, hb, hml, hown, hts⟩, hnm, hX, hK, hz, hR1, hR2, hR3, hR4⟩, hret⟩ := C
  intro hlen H locs ls cells slots hRep hS hl hc hs
  obtain ⟨Cn, T, N, hcl, hkN, hlk, hC⟩ := hf
  rw [List.map_cons, zz_ref hRep ho]
  refine va_get hx hb hts (zz_cls hcl).1 hown (zz_K0 hK) (zz_one (hRep.1 o _ ho)) 0 rfl hcl k hkN (hts _ hlk) (fun x h => by rw [hC] at h; exact h) (v := .int (σ.1 o k)) ?_ hd (kk hlen H locs ls cells slots hRep hS hl hc hs)
  rw [List.getElem?_mapIdx, hk]
  rfl
theorem zz_getR (C : zz_Cx G l own nm cc nL ret d fin Z) {idx ci k o r : Nat} {fs : List (Option (Option Nat))} (hf : zz_FL own idx ci k) (ho : sh[o]? = some (.inl (ci, fs))) (hk : fs[k]? = some (some (some r))) (hd : decode cc pc = .ok (.getfield idx, 3)) (kk : Z (pc + 3) lo (.ref r :: st) sh σ) : Z pc lo (.ref o :: st) sh σ := by
  obtain ⟨⟨p, e, R, s, m, args, below, meth, c, Q, k0, n0, rfl, ⟨hx, hb, hml, hown, hts⟩, hnm, hX, hK, hz, hR1, hR2, hR3, hR4⟩, hret⟩ := C
  intro hlen H locs ls cells slots hRep hS hl hc hs
  obtain ⟨Cn, T, N, hcl, hkN, hlk, hC⟩ := hf
  rw [List.map_cons, zz_ref hRep ho]
  refine va_get hx hb hts (zz_cls hcl).1 hown (zz_K0 hK) (zz_one (hRep.1 o _ ho)) 0 rfl hcl k hkN (hts _ hlk) (fun x h => by rw [hC] at h; exact h) (v := zz_tr G (.ref r)) ?_ hd (kk hlen H locs ls cells slots hRep hS hl hc hs)
  rw [List.getElem?_mapIdx, hk]
  rfl
theorem zz_putI (C : zz_Cx G l own nm cc nL ret d fin Z) {idx ci k o : Nat} {x : Int32} {fs : List (Option (Option Nat))} (hf : zz_FL own idx ci k) (ho : sh[o]? = some (.inl (ci, fs))) (hk : fs[k]? = some none) (hfin : (zz_F ci k).2.2.2 = false) (hn : narrow (zz_ft ci k) (.int x) = .int x) (hfit : fits (zz_ft ci k) (.int x) = true) (hcF : (zz_cl[ci]?).map (fun q => q.2.1 k) = some (zz_F ci k)) (hd : decode cc pc = .ok (.putfield idx, 3)) (kk : Z (pc + 3) lo st sh (zz_w σ o k x)) : Z pc lo (.int x :: .ref o :: st) sh σ := by
  obtain ⟨⟨p, e, R, s, m, args, below, meth, c, Q, k0, n0, rfl, ⟨hx, hb, hml, hown, hts⟩, hnm, hX, hK, hz, hR1, hR2, hR3, hR4⟩, hret⟩ := C
  intro hlen H locs ls cells slots hRep hS hl hc hs
  obtain ⟨Cn, T, N, hcl, hkN, hlk, hC⟩ := hf
  rw [hcl] at hcF
  have hTF : T k = zz_F ci k := Option.some.inj hcF
  rw [List.map_cons, List.map_cons, zz_ref hRep ho]
  obtain ⟨hin, hnmo, hty⟩ := zz_cls hcl
  have hap := va_apart (own := own) hts hin (zz_ft ci) hty hnmo (zz_K0 hK) hcl
  obtain ⟨r, h1, cell, q1, q2, q3, q4⟩ := hRep.1 o _ ho
  have hr : r = (Cn, T, N) := Option.some.inj (h1.symm.trans hcl)
  subst hr
  obtain ⟨hS2, hfc, kC, hkC, hkind⟩ := hK ci _ hcl
  obtain ⟨cf, kf, fi, f, hi, hsl⟩ := hS2 k hkN
  have hlay := hts _ (hin _ (u_in_lay hkN))
  unfold u_lay at hlay
  rw [if_neg (by rw [hTF, hfin]; decide)] at hlay
  have hst := (u_facts hfc hkC (u_lays hts hin hkN) hi).1
  have h6 := u_store hfc hkC hkind hlay hi (hty k hkN) hn hfit
  have hl2 : k < (fs.mapIdx (fun k f => zz_fd G σ o k f)).length := by rw [List.length_mapIdx]; exact (List.getElem?_eq_some_iff.mp hk).1
  refine W.putK hx hb (f := f) ⟨hown, hts _ hlk, ⟨_, _, _, by rw [hC] at hi; exact hi⟩, hst⟩ (by rw [q2]; exact h6) q1 q3 (by rw [hsl]; exact k2_hasslot (q4 k hkN)) rfl rfl hd fun H' e1 e2 e3 => ?_
  rw [hsl] at e1 ⊢
  have e4 : zz_E G (zz_w σ o k x) o (.inl (ci, fs)) = .inr (ci, (fs.mapIdx (fun k f => zz_fd G σ o k f)).set k (.int x)) := by
    show Sum.inr (ci, fs.mapIdx (fun k' f => zz_fd G (zz_w σ o k x) o k' f)) = _
    congr 2
    apply List.ext_getElem?
    intro j
    rw [List.getElem?_mapIdx]
    by_cases hj : j = k
    · subst hj
      rw [List.getElem?_set_self hl2, hk]
      show some (Value.int ((zz_w σ o j x).1 o j)) = _
      rw [zz_w_same]
      simp [upd]
    · rw [List.getElem?_set_ne (Ne.symm hj), List.getElem?_mapIdx]
      cases fs[j]? with
      | none => rfl
      | some f2 =>
        cases f2 with
        | none =>
          show some (Value.int ((zz_w σ o k x).1 o j)) = some (Value.int (σ.1 o j))
          rw [zz_w_same]
          simp [upd, hj]
        | some r => rfl
  refine kk hlen H' _ ls cells slots (hRep.put ho (by rw [e4]; exact ⟨_, hcl, t_OB.to (V := updV (vp_V (fs.mapIdx (fun k f => zz_fd G σ o k f))) k (.int x)) ⟨_, e1, q2, q3, t_set q4 hap hkN (.int x)⟩ (fun j _ => vp_updV_set hl2 (.int x) j)⟩) e2 e3 (fun a ha => zz_w_ne σ o k x ha) (fun _ _ => rfl)) (hS.put e2 e3 (Nat.le_add_right _ _)) hl hc hs
theorem zz_iald (C : zz_Cx G l own nm cc nL ret d fin Z) {o n : Nat} {rs : List (Option Nat)} {i : Int32} {kx : Nat} (hkx : i.toNatClampNeg = kx) (ho : sh[o]? = some (.inr (0, n, rs))) (hi : zz_in i n = true) (hd : decode cc pc = .ok (.iaload, 1)) (kk : Z (pc + 1) lo (.int (σ.1 o kx) :: st) sh σ) : Z pc lo (.int i :: .ref o :: st) sh σ := by
  obtain ⟨⟨p, e, R, s, m, args, below, meth, c, Q, k0, n0, rfl, ⟨hx, hb, hml, hown, hts⟩, hnm, hX, hK, hz, hR1, hR2, hR3, hR4⟩, hret⟩ := C
  intro hlen H locs ls cells slots hRep hS hl hc hs
  subst hkx
  rw [List.map_cons, List.map_cons, zz_ref hRep ho]
  exact va_iald hx hb (zz_K1 hK (hRep.2.2.2 o _ _ _ ho)) (zz_one (hRep.1 o _ ho)) 0 0 rfl rfl (zz_in_spec hi) hd (kk hlen H locs ls cells slots hRep hS hl hc hs)
theorem zz_bald (C : zz_Cx G l own nm cc nL ret d fin Z) {o n : Nat} {rs : List (Option Nat)} {i : Int32} {kx : Nat} (hkx : i.toNatClampNeg = kx) (ho : sh[o]? = some (.inr (1, n, rs))) (hi : zz_in i n = true) (hd : decode cc pc = .ok (.baload, 1)) (kk : Z (pc + 1) lo (.int (σ.1 o kx) :: st) sh σ) : Z pc lo (.int i :: .ref o :: st) sh σ := by
  obtain ⟨⟨p, e, R, s, m, args, below, meth, c, Q, k0, n0, rfl, ⟨hx, hb, hml, hown, hts⟩, hnm, hX, hK, hz, hR1, hR2, hR3, hR4⟩, hret⟩ := C
  intro hlen H locs ls cells slots hRep hS hl hc hs
  subst hkx
  rw [List.map_cons, List.map_cons, zz_ref hRep ho]
  exact va_bald hx hb (zz_K1 hK (hRep.2.2.2 o _ _ _ ho)) (zz_one (hRep.1 o _ ho)) 0 0 rfl rfl (zz_in_spec hi) hd (kk hlen H locs ls cells slots hRep hS hl hc hs)
theorem zz_sald (C : zz_Cx G l own nm cc nL ret d fin Z) {o n : Nat} {rs : List (Option Nat)} {i : Int32} {kx : Nat} (hkx : i.toNatClampNeg = kx) (ho : sh[o]? = some (.inr (2, n, rs))) (hi : zz_in i n = true) (hd : decode cc pc = .ok (.saload, 1)) (kk : Z (pc + 1) lo (.int (σ.1 o kx) :: st) sh σ) : Z pc lo (.int i :: .ref o :: st) sh σ := by
  obtain ⟨⟨p, e, R, s, m, args, below, meth, c, Q, k0, n0, rfl, ⟨hx, hb, hml, hown, hts⟩, hnm, hX, hK, hz, hR1, hR2, hR3, hR4⟩, hret⟩ := C
  intro hlen H locs ls cells slots hRep hS hl hc hs
  subst hkx
  rw [List.map_cons, List.map_cons, zz_ref hRep ho]
  exact va_sald hx hb (zz_K1 hK (hRep.2.2.2 o _ _ _ ho)) (zz_one (hRep.1 o _ ho)) 0 0 rfl rfl (zz_in_spec hi) hd (kk hlen H locs ls cells slots hRep hS hl hc hs)
theorem zz_lald (C : zz_Cx G l own nm cc nL ret d fin Z) {o n : Nat} {rs : List (Option Nat)} {i : Int32} {kx : Nat} (hkx : i.toNatClampNeg = kx) (ho : sh[o]? = some (.inr (3, n, rs))) (hi : zz_in i n = true) (hd : decode cc pc = .ok (.laload, 1)) (kk : Z (pc + 1) lo (.long (σ.2 o kx) :: st) sh σ) : Z pc lo (.int i :: .ref o :: st) sh σ := by
  obtain ⟨⟨p, e, R, s, m, args, below, meth, c, Q, k0, n0, rfl, ⟨hx, hb, hml, hown, hts⟩, hnm, hX, hK, hz, hR1, hR2, hR3, hR4⟩, hret⟩ := C
  intro hlen H locs ls cells slots hRep hS hl hc hs
  subst hkx
  rw [List.map_cons, List.map_cons, zz_ref hRep ho]
  exact va_lald hx hb (zz_K1 hK (hRep.2.2.2 o _ _ _ ho)) (zz_one (hRep.1 o _ ho)) 0 0 rfl rfl (zz_in_spec hi) hd (kk hlen H locs ls cells slots hRep hS hl hc hs)
def zz_pk (rs : List (Option Nat)) (i : Nat) : Nat := (rs.getD i none).getD 0
theorem zz_aald (C : zz_Cx G l own nm cc nL ret d fin Z) {t o n : Nat} {Cn : String} {rs : List (Option Nat)} {i : Int32} {kx : Nat} (hkx : i.toNatClampNeg = kx) (ho : sh[o]? = some (.inr (t, n, rs))) (ht : ¬ t < 3 ∧ ¬ t = 3 ∧ zz_ty t = .object Cn) (hall : ∀ j, j < n → (rs.getD j none).isSome = true) (hi : zz_in i n = true) (hd : decode cc pc = .ok (.aaload, 1)) (kk : Z (pc + 1) lo (.ref (zz_pk rs kx) :: st) sh σ) : Z pc lo (.int i :: .ref o :: st) sh σ := by
  obtain ⟨⟨p, e, R, s, m, args, below, meth, c, Q, k0, n0, rfl, ⟨hx, hb, hml, hown, hts⟩, hnm, hX, hK, hz, hR1, hR2, hR3, hR4⟩, hret⟩ := C
  intro hlen H locs ls cells slots hRep hS hl hc hs
  subst hkx
  rw [List.map_cons, List.map_cons, zz_ref hRep ho]
  have hin := zz_in_spec hi
  have hlt : i.toNatClampNeg < n := Nat.not_le.mp fun q => hin (Or.inr q)
  have hka := hRep.2.2.2 o _ _ _ ho
  have hat := hRep.1 o _ ho
  have e1 : zz_E G σ o (.inr (t, n, rs)) = .inl (G.2.2.1 t, n, .inr (.inr (.inr (.inr fun j => (rs.getD j none).map (zz_ad G))))) := by
    show Sum.inl (G.2.2.1 t, n, zz_rw G σ o t rs) = _
    rw [zz_rw, if_neg ht.1, if_neg ht.2.1]
  rw [e1] at hat
  refine va_aldq hx hb (zz_K1 hK hka) (zz_one hat) 0 0 rfl (by rw [ht.2.2]; rfl) hin hd ?_
  have h2 := hall _ hlt
  have h3 := kk hlen H locs ls cells slots hRep hS hl hc hs
  rw [List.map_cons] at h3
  have e2 : va_rf ((rs.getD i.toNatClampNeg none).map (zz_ad G)) = zz_tr G (.ref (zz_pk rs i.toNatClampNeg)) := by
    unfold zz_pk
    cases hr : rs.getD i.toNatClampNeg none with
    | none => rw [hr] at h2; cases h2
    | some r => rfl
  rw [e2]
  exact h3
theorem zz_iast (C : zz_Cx G l own nm cc nL ret d fin Z) {o n : Nat} {rs : List (Option Nat)} {i : Int32} {kx : Nat} {x : Int32} (hkx : i.toNatClampNeg = kx) (ho : sh[o]? = some (.inr (0, n, rs))) (hi : zz_in i n = true) (hd : decode cc pc = .ok (.iastore, 1)) (kk : Z (pc + 1) lo st sh (zz_w σ o kx x)) : Z pc lo (.int x :: .int i :: .ref o :: st) sh σ := by
  obtain ⟨⟨p, e, R, s, m, args, below, meth, c, Q, k0, n0, rfl, ⟨hx, hb, hml, hown, hts⟩, hnm, hX, hK, hz, hR1, hR2, hR3, hR4⟩, hret⟩ := C
  intro hlen H locs ls cells slots hRep hS hl hc hs
  subst hkx
  rw [List.map_cons, List.map_cons, List.map_cons, zz_ref hRep ho]
  have hin := zz_in_spec hi
  refine W.iast hx hb (hRep.1 o _ ho) ((hRep.2.2.2 o _ _ _ ho).1 n (fun j => .int (σ.1 o j))) (fun q => by cases q) (by show ¬ (i < 0 ∨ (arrV _ _ _).slots.size ≤ _); rw [arrV_size]; exact hin) rfl rfl hd fun H1 e1 z oq => ?_
  refine kk hlen H1 _ ls cells slots (hRep.put ho ?_ z oq (fun a ha => zz_w_ne σ o _ _ ha) (fun a ha => rfl)) (hS.put z oq (Nat.le_add_right _ _)) hl hc hs
  show H1[G.1 + o]? = some (vp_cell (G.2.2.1 0) (n, .inl ((zz_w σ o i.toNatClampNeg x).1 o)))
  rw [e1, vp_cell_i]
  show some ((vp_cell (G.2.2.1 0) (n, .inl ((σ).1 o))).setSlot _ _) = _
  rw [vp_cell_i, arrV_store]
  congr 2
  funext q
  by_cases hq : q = i.toNatClampNeg
  · subst hq
    simp [updV, zz_w]
    try rfl
  · simp [updV, zz_w, hq]
theorem zz_bast (C : zz_Cx G l own nm cc nL ret d fin Z) {o n : Nat} {rs : List (Option Nat)} {i : Int32} {kx : Nat} {x : Int32} (hkx : i.toNatClampNeg = kx) (ho : sh[o]? = some (.inr (1, n, rs))) (hi : zz_in i n = true) (hd : decode cc pc = .ok (.bastore, 1)) (kk : Z (pc + 1) lo st sh (zz_w σ o kx (vp_nar .byte x))) : Z pc lo (.int x :: .int i :: .ref o :: st) sh σ := by
  obtain ⟨⟨p, e, R, s, m, args, below, meth, c, Q, k0, n0, rfl, ⟨hx, hb, hml, hown, hts⟩, hnm, hX, hK, hz, hR1, hR2, hR3, hR4⟩, hret⟩ := C
  intro hlen H locs ls cells slots hRep hS hl hc hs
  subst hkx
  rw [List.map_cons, List.map_cons, List.map_cons, zz_ref hRep ho]
  have hin := zz_in_spec hi
  refine W.bast hx hb (hRep.1 o _ ho) ((hRep.2.2.2 o _ _ _ ho).1 n (fun j => .int (σ.1 o j))) (fun q => by cases q) (by show ¬ (i < 0 ∨ (arrV _ _ _).slots.size ≤ _); rw [arrV_size]; exact hin) rfl rfl hd fun H1 e1 z oq => ?_
  refine kk hlen H1 _ ls cells slots (hRep.put ho ?_ z oq (fun a ha => zz_w_ne σ o _ _ ha) (fun a ha => rfl)) (hS.put z oq (Nat.le_add_right _ _)) hl hc hs
  show H1[G.1 + o]? = some (vp_cell (G.2.2.1 1) (n, .inl ((zz_w σ o i.toNatClampNeg (vp_nar .byte x)).1 o)))
  rw [e1, vp_cell_i]
  show some ((vp_cell (G.2.2.1 1) (n, .inl ((σ).1 o))).setSlot _ _) = _
  rw [vp_cell_i, arrV_store]
  congr 2
  funext q
  by_cases hq : q = i.toNatClampNeg
  · subst hq
    simp [updV, zz_w, vp_nar]
    try rfl
  · simp [updV, zz_w, hq]
theorem zz_sast (C : zz_Cx G l own nm cc nL ret d fin Z) {o n : Nat} {rs : List (Option Nat)} {i : Int32} {kx : Nat} {x : Int32} (hkx : i.toNatClampNeg = kx) (ho : sh[o]? = some (.inr (2, n, rs))) (hi : zz_in i n = true) (hd : decode cc pc = .ok (.sastore, 1)) (kk : Z (pc + 1) lo st sh (zz_w σ o kx (vp_nar .short x))) : Z pc lo (.int x :: .int i :: .ref o :: st) sh σ := by
  obtain ⟨⟨p, e, R, s, m, args, below, meth, c, Q, k0, n0, rfl, ⟨hx, hb, hml, hown, hts⟩, hnm, hX, hK, hz, hR1, hR2, hR3, hR4⟩, hret⟩ := C
  intro hlen H locs ls cells slots hRep hS hl hc hs
  subst hkx
  rw [List.map_cons, List.map_cons, List.map_cons, zz_ref hRep ho]
  have hin := zz_in_spec hi
  refine W.sast hx hb (hRep.1 o _ ho) ((hRep.2.2.2 o _ _ _ ho).1 n (fun j => .int (σ.1 o j))) (fun q => by cases q) (by show ¬ (i < 0 ∨ (arrV _ _ _).slots.size ≤ _); rw [arrV_size]; exact hin) rfl rfl hd fun H1 e1 z oq => ?_
  refine kk hlen H1 _ ls cells slots (hRep.put ho ?_ z oq (fun a ha => zz_w_ne σ o _ _ ha) (fun a ha => rfl)) (hS.put z oq (Nat.le_add_right _ _)) hl hc hs
  show H1[G.1 + o]? = some (vp_cell (G.2.2.1 2) (n, .inl ((zz_w σ o i.toNatClampNeg (vp_nar .short x)).1 o)))
  rw [e1, vp_cell_i]
  show some ((vp_cell (G.2.2.1 2) (n, .inl ((σ).1 o))).setSlot _ _) = _
  rw [vp_cell_i, arrV_store]
  congr 2
  funext q
  by_cases hq : q = i.toNatClampNeg
  · subst hq
    simp [updV, zz_w, vp_nar]
    try rfl
  · simp [updV, zz_w, hq]
theorem zz_last (C : zz_Cx G l own nm cc nL ret d fin Z) {o n : Nat} {rs : List (Option Nat)} {i : Int32} {kx : Nat} {x : Int64} (hkx : i.toNatClampNeg = kx) (ho : sh[o]? = some (.inr (3, n, rs))) (hi : zz_in i n = true) (hd : decode cc pc = .ok (.lastore, 1)) (kk : Z (pc + 1) lo st sh (zz_wl σ o kx x)) : Z pc lo (.long x :: .int i :: .ref o :: st) sh σ := by
  obtain ⟨⟨p, e, R, s, m, args, below, meth, c, Q, k0, n0, rfl, ⟨hx, hb, hml, hown, hts⟩, hnm, hX, hK, hz, hR1, hR2, hR3, hR4⟩, hret⟩ := C
  intro hlen H locs ls cells slots hRep hS hl hc hs
  subst hkx
  rw [List.map_cons, List.map_cons, List.map_cons, zz_ref hRep ho]
  have hin := zz_in_spec hi
  refine W.last hx hb (hRep.1 o _ ho) ((hRep.2.2.2 o _ _ _ ho).1 n (fun j => .long (σ.2 o j))) (fun q => by cases q) (by show ¬ (i < 0 ∨ (arrV _ _ _).slots.size ≤ _); rw [arrV_size]; exact hin) rfl rfl hd fun H1 e1 z oq => ?_
  refine kk hlen H1 _ ls cells slots (hRep.put ho ?_ z oq (fun a ha => rfl) (fun a ha => zz_wl_ne σ o _ _ ha)) (hS.put z oq (Nat.le_add_right _ _)) hl hc hs
  show H1[G.1 + o]? = some (vp_cell (G.2.2.1 3) (n, .inr (.inl ((zz_wl σ o i.toNatClampNeg x).2 o))))
  rw [e1, vp_cell_l]
  show some ((vp_cell (G.2.2.1 3) (n, .inr (.inl ((σ).2 o)))).setSlot _ _) = _
  rw [vp_cell_l, arrV_store]
  congr 2
  funext q
  by_cases hq : q = i.toNatClampNeg
  · subst hq
    simp [updV, zz_wl]
    try rfl
  · simp [updV, zz_wl, hq]
theorem zz_alen (C : zz_Cx G l own nm cc nL ret d fin Z) {t o n : Nat} {rs : List (Option Nat)} (ho : sh[o]? = some (.inr (t, n, rs))) (hd : decode cc pc = .ok (.arraylength, 1)) (kk : Z (pc + 1) lo (.int (Int32.ofNat n) :: st) sh σ) : Z pc lo (.ref o :: st) sh σ := by
  obtain ⟨⟨p, e, R, s, m, args, below, meth, c, Q, k0, n0, rfl, ⟨hx, hb, hml, hown, hts⟩, hnm, hX, hK, hz, hR1, hR2, hR3, hR4⟩, hret⟩ := C
  intro hlen H locs ls cells slots hRep hS hl hc hs
  rw [List.map_cons, zz_ref hRep ho]
  exact va_alen hx hb (zz_K1 hK (hRep.2.2.2 o _ _ _ ho)) (zz_one (hRep.1 o _ ho)) 0 0 (x := (n, zz_rw G σ o t rs)) rfl rfl rfl hd (kk hlen H locs ls cells slots hRep hS hl hc hs)
end ZF
