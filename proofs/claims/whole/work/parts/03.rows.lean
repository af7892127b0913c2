/-! one row an instruction, over the small machine -/
def zz_ent : List Value → List (Option Value)
  | [] => []
  | v :: vs => some v :: (if v.category = 2 then none :: zz_ent vs else zz_ent vs)
def zz_lo (as : List Value) (nL : Nat) : List (Option Value) := zz_ent as ++ List.replicate (nL - (zz_ent as).length) none
theorem zz_ent_len (G : zz_G) (as : List Value) : (lg_sl (as.map (zz_tr G))).length = (zz_ent as).length := by
  induction as with
  | nil => rfl
  | cons v vs ih =>
    rw [List.map_cons, lg_sl, List.flatMap_cons, List.length_append]
    rw [lg_sl] at ih
    rw [ih, zz_cat, zz_ent]
    by_cases h : v.category = 2
    · simp [h]; omega
    · simp [h]; omega
theorem zz_ent_args (G : zz_G) (as : List Value) : ∀ (k i : Nat) (v : Value), (zz_ent as)[i]? = some (some v) → (k + i, zz_tr G v) ∈ lv_args k (as.map (zz_tr G)) := by
  induction as with
  | nil => intro k i v h; simp [zz_ent] at h
  | cons x xs ih =>
    intro k i v h
    rw [List.map_cons, lv_args, zz_cat]
    rw [zz_ent] at h
    cases i with
    | zero =>
      rw [List.getElem?_cons_zero] at h
      cases h
      exact List.mem_cons_self
    | succ i =>
      rw [List.getElem?_cons_succ] at h
      refine List.mem_cons_of_mem _ ?_
      by_cases hc : x.category = 2
      · rw [if_pos hc] at h ⊢
        cases i with
        | zero => rw [List.getElem?_cons_zero] at h; cases h
        | succ i =>
          rw [List.getElem?_cons_succ] at h
          have := ih (k + 2) i v h
          rw [show k + (i + 1 + 1) = k + 2 + i by omega]
          exact this
      · rw [if_neg hc] at h ⊢
        have := ih (k + 1) i v h
        rw [show k + (i + 1) = k + 1 + i by omega]
        exact this
theorem zz_lo_args (G : zz_G) (as : List Value) (nL : Nat) : ∀ q ∈ zz_lv G (zz_lo as nL), q ∈ lv_args 0 (as.map (zz_tr G)) := by
  rintro ⟨i, w⟩ hq
  obtain ⟨v, hv, rfl⟩ := zz_lv_mem.mp hq
  unfold zz_lo at hv
  by_cases hl : i < (zz_ent as).length
  · rw [List.getElem?_append_left hl] at hv
    have := zz_ent_args G as 0 i v hv
    rwa [Nat.zero_add] at this
  · rw [List.getElem?_append_right (by omega)] at hv
    have h1 := List.eq_of_mem_replicate (List.mem_of_getElem? hv)
    cases h1
/-- a method by its body -/
theorem zz_M.intro {G : zz_G} {l : Launch} {d : Nat} {y : MethodName} {cc : ByteArray} {nL : Nat} {ret : Option FieldType} {as : List Value} {sh : List zz_Sh} {σ : zz_S} {fin : zz_Fin} (hy : plainName y.cls = true) (hn : (zz_ent as).length ≤ nL) (h1 : sh.length ≤ fin.2.1.length) (h2 : zz_sl sh ≤ zz_sl fin.2.1)
    (body : ∀ Z : zz_Z, zz_Cx G l y.cls y.name cc nL ret d fin Z → Z 0 (zz_lo as nL) [] sh σ) : zz_M G l d y cc nL ret as sh σ fin := by
  refine ⟨h1, h2, Met.ofW (cc := cc) (maxL := nL) (ret := ret) hy rfl ?_⟩
  intro p e s m args below meth c s₁ B hml hv
  obtain ⟨rfl, hRep, hK, hX, hz⟩ := hv
  have hx := B.exec
  have hb := B.bytes
  have hr := B.returns
  have hts := atoms_spec (ws := Cond.code y cc nL ret :: zz_T) B.pre
  have hown : s.vm.findClass y.cls = some m.cls := findClass_of_methodNamed B.named
  have hlocks := B.notSynchronized
  have hin : meth.name = y.name := (name_of_methodNamed B.named B.method).1
  have hl := lv_entry (as.map (zz_tr G)) (n := nL) (by rw [zz_ent_len]; exact hn)
  rw [lg_entry_eq]
  generalize (lg_sl (as.map (zz_tr G)) ++ List.replicate (nL - (lg_sl (as.map (zz_tr G))).length) Slot.unset).toArray = ls at hl ⊢
  refine body (zz_W G p l e (zz_rm d (fin.2.1.length - sh.length) (zz_sl fin.2.1 - zz_sl sh)) s m _ below meth c (MQ below (zz_Qc G fin) _ s (fin.2.1.length - sh.length) (zz_sl fin.2.1 - zz_sl sh) (zz_A G)) nL sh.length (zz_sl sh)) ⟨⟨p, e, _, s, m, _, below, meth, c, _, _, _, rfl, ⟨hx, hb, hml, hown, fun w hw => hts w (List.mem_cons_of_mem _ hw)⟩, hin, hX, hK, hz, Nat.le_refl _, Nat.le_refl _, ?_, ?_⟩, ?_⟩ ?_ s.heap [] ls 0 0 hRep va_S.rf (zz_lv_sub hl (zz_lo_args G as nL)) (Nat.zero_add _) (Nat.zero_add _)
  · show _ ≤ (fin.2.1.length - sh.length) + sh.length; omega
  · show _ ≤ (zz_sl fin.2.1 - zz_sl sh) + zz_sl sh; omega
  · intro pc lo v I hd hok hfin hlen H locs ls cells slots hR hS hl hc hs
    have e1 : cells = fin.2.1.length - sh.length := by omega
    have e2 : slots = zz_sl fin.2.1 - zz_sl sh := by omega
    subst e1; subst e2
    have hq : ∀ t : State, t.heap = H → s.WarmedH t.vm → zz_Qc G fin (as.map (zz_tr G)).toArray s (.returned (v.map (zz_tr G))) t := by
      intro t ht hW
      refine ⟨by rw [hfin], ?_, hS.F ht⟩
      rw [ht]
      exact hR.moved hW.alike
    rcases hok with ⟨x, ty, rfl, rfl, hre, hna⟩ | ⟨x, rfl, rfl, hre⟩ | ⟨o, rt, rfl, rfl, hre, hrt⟩ | ⟨rfl, rfl, hre⟩
    · exact W.zret hx hb (hr.trans hre) hna hq hS.2.2 hd
    · exact W.lret hx hb (hr.trans hre) hq hS.2.2 hd
    · exact W.aret hx hb (hr.trans hre) hrt (Or.inr ⟨_, rfl⟩) hq hS.2.2 hd
    · exact W.vret hx hb (hr.trans hre) hq hS.2.2 hd
  · unfold zz_lo
    rw [List.length_append, List.length_replicate]
    omega
section ZR
variable {G : zz_G} {l : Launch} {own nm : String} {cc : ByteArray} {nL d : Nat} {ret : Option FieldType} {fin : zz_Fin} {Z : zz_Z} {pc : Nat} {lo : List (Option Value)} {st : List Value} {sh : List zz_Sh} {σ : zz_S}
theorem zz_ret (C : zz_Cx G l own nm cc nL ret d fin Z) {I : Instr} {v : Option Value} (hd : decode cc pc = .ok (I, 1)) (hr : zz_rok I ret v) (hf : fin = (v, sh, σ)) : Z pc lo v.toList sh σ := by
  subst hf
  exact C.2 pc lo v I hd hr rfl
theorem zz_iconst (C : zz_Cx G l own nm cc nL ret d fin Z) {n : Int} {v : Int32} (hv : Int32.ofInt n = v) (hd : decode cc pc = .ok (.iconst n, 1)) (k : Z (pc + 1) lo (.int v :: st) sh σ) : Z pc lo st sh σ := by
  obtain ⟨⟨p, e, R, s, m, args, below, meth, c, Q, k0, n0, rfl, ⟨hx, hb, hml, hown, hts⟩, hnm, hX, hK, hz, hR1, hR2, hR3, hR4⟩, hret⟩ := C
  intro hlen H locs ls cells slots hRep hS hl hc hs
  exact lv_iconst hx hb hd hv (k hlen H locs ls cells slots hRep hS hl hc hs)
theorem zz_bipush (C : zz_Cx G l own nm cc nL ret d fin Z) {n : Int} {v : Int32} (hv : (Int8.ofInt n).toInt32 = v) (hd : decode cc pc = .ok (.bipush n, 2)) (k : Z (pc + 2) lo (.int v :: st) sh σ) : Z pc lo st sh σ := by
  obtain ⟨⟨p, e, R, s, m, args, below, meth, c, Q, k0, n0, rfl, ⟨hx, hb, hml, hown, hts⟩, hnm, hX, hK, hz, hR1, hR2, hR3, hR4⟩, hret⟩ := C
  intro hlen H locs ls cells slots hRep hS hl hc hs
  exact lv_bipush hx hb hd hv (k hlen H locs ls cells slots hRep hS hl hc hs)
theorem zz_sipush (C : zz_Cx G l own nm cc nL ret d fin Z) {n : Int} {v : Int32} (hv : (Int16.ofInt n).toInt32 = v) (hd : decode cc pc = .ok (.sipush n, 3)) (k : Z (pc + 3) lo (.int v :: st) sh σ) : Z pc lo st sh σ := by
  obtain ⟨⟨p, e, R, s, m, args, below, meth, c, Q, k0, n0, rfl, ⟨hx, hb, hml, hown, hts⟩, hnm, hX, hK, hz, hR1, hR2, hR3, hR4⟩, hret⟩ := C
  intro hlen H locs ls cells slots hRep hS hl hc hs
  exact lv_sipush hx hb hd hv (k hlen H locs ls cells slots hRep hS hl hc hs)
theorem zz_lconst (C : zz_Cx G l own nm cc nL ret d fin Z) {n : Fin 2} {v : Int64} (hv : Int64.ofNat (n : Nat) = v) (hd : decode cc pc = .ok (.lconst n, 1)) (k : Z (pc + 1) lo (.long v :: st) sh σ) : Z pc lo st sh σ := by
  obtain ⟨⟨p, e, R, s, m, args, below, meth, c, Q, k0, n0, rfl, ⟨hx, hb, hml, hown, hts⟩, hnm, hX, hK, hz, hR1, hR2, hR3, hR4⟩, hret⟩ := C
  intro hlen H locs ls cells slots hRep hS hl hc hs
  exact lv_lconst hx hb hd hv (k hlen H locs ls cells slots hRep hS hl hc hs)
theorem zz_iload (C : zz_Cx G l own nm cc nL ret d fin Z) {i : Nat} {x : Int32} (hi : lo[i]? = some (some (.int x))) (hd : decode cc pc = .ok (.iload i, 2)) (k : Z (pc + 2) lo (.int x :: st) sh σ) : Z pc lo st sh σ := by
  obtain ⟨⟨p, e, R, s, m, args, below, meth, c, Q, k0, n0, rfl, ⟨hx, hb, hml, hown, hts⟩, hnm, hX, hK, hz, hR1, hR2, hR3, hR4⟩, hret⟩ := C
  intro hlen H locs ls cells slots hRep hS hl hc hs
  exact lv_iload hx hb hd (zz_lv_at hl hi) (k hlen H locs ls cells slots hRep hS hl hc hs)
theorem zz_iload_n (C : zz_Cx G l own nm cc nL ret d fin Z) {k : Fin 4} {i : Nat} {x : Int32} (hk : (k : Nat) = i) (hi : lo[i]? = some (some (.int x))) (hd : decode cc pc = .ok (.iload_n k, 1)) (k : Z (pc + 1) lo (.int x :: st) sh σ) : Z pc lo st sh σ := by
  obtain ⟨⟨p, e, R, s, m, args, below, meth, c, Q, k0, n0, rfl, ⟨hx, hb, hml, hown, hts⟩, hnm, hX, hK, hz, hR1, hR2, hR3, hR4⟩, hret⟩ := C
  intro hlen H locs ls cells slots hRep hS hl hc hs
  exact lv_iload_n hx hb hd hk (zz_lv_at hl hi) (k hlen H locs ls cells slots hRep hS hl hc hs)
theorem zz_istore (C : zz_Cx G l own nm cc nL ret d fin Z) {i : Nat} {x : Int32} {lo' : List (Option Value)} (hn : i < lo.length) (hok : zz_ok1 lo i = true) (hlo : (lo.set i (some (.int x))) = lo') (hd : decode cc pc = .ok (.istore i, 2)) (k : Z (pc + 2) lo' st sh σ) : Z pc lo (.int x :: st) sh σ := by
  obtain ⟨⟨p, e, R, s, m, args, below, meth, c, Q, k0, n0, rfl, ⟨hx, hb, hml, hown, hts⟩, hnm, hX, hK, hz, hR1, hR2, hR3, hR4⟩, hret⟩ := C
  intro hlen H locs ls cells slots hRep hS hl hc hs
  subst hlo
  exact lv_istore hx hb hd hl (by omega) rfl (fun ls' hl' => k (by simp [hlen]) H locs ls' cells slots hRep hS (zz_lv_sub hl' (zz_set1 (v := .int x) (by omega) hok)) hc hs)
theorem zz_istore_n (C : zz_Cx G l own nm cc nL ret d fin Z) {k : Fin 4} {i : Nat} (hk : (k : Nat) = i) {x : Int32} {lo' : List (Option Value)} (hn : i < lo.length) (hok : zz_ok1 lo i = true) (hlo : (lo.set i (some (.int x))) = lo') (hd : decode cc pc = .ok (.istore_n k, 1)) (k : Z (pc + 1) lo' st sh σ) : Z pc lo (.int x :: st) sh σ := by
  obtain ⟨⟨p, e, R, s, m, args, below, meth, c, Q, k0, n0, rfl, ⟨hx, hb, hml, hown, hts⟩, hnm, hX, hK, hz, hR1, hR2, hR3, hR4⟩, hret⟩ := C
  intro hlen H locs ls cells slots hRep hS hl hc hs
  subst hlo
  exact lv_istore_n hx hb hd hk hl (by omega) rfl (fun ls' hl' => k (by simp [hlen]) H locs ls' cells slots hRep hS (zz_lv_sub hl' (zz_set1 (v := .int x) (by omega) hok)) hc hs)
theorem zz_lload (C : zz_Cx G l own nm cc nL ret d fin Z) {i : Nat} {x : Int64} (hi : lo[i]? = some (some (.long x))) (hd : decode cc pc = .ok (.lload i, 2)) (k : Z (pc + 2) lo (.long x :: st) sh σ) : Z pc lo st sh σ := by
  obtain ⟨⟨p, e, R, s, m, args, below, meth, c, Q, k0, n0, rfl, ⟨hx, hb, hml, hown, hts⟩, hnm, hX, hK, hz, hR1, hR2, hR3, hR4⟩, hret⟩ := C
  intro hlen H locs ls cells slots hRep hS hl hc hs
  exact lv_lload hx hb hd (zz_lv_at hl hi) (k hlen H locs ls cells slots hRep hS hl hc hs)
theorem zz_lload_n (C : zz_Cx G l own nm cc nL ret d fin Z) {k : Fin 4} {i : Nat} {x : Int64} (hk : (k : Nat) = i) (hi : lo[i]? = some (some (.long x))) (hd : decode cc pc = .ok (.lload_n k, 1)) (k : Z (pc + 1) lo (.long x :: st) sh σ) : Z pc lo st sh σ := by
  obtain ⟨⟨p, e, R, s, m, args, below, meth, c, Q, k0, n0, rfl, ⟨hx, hb, hml, hown, hts⟩, hnm, hX, hK, hz, hR1, hR2, hR3, hR4⟩, hret⟩ := C
  intro hlen H locs ls cells slots hRep hS hl hc hs
  exact lv_lload_n hx hb hd hk (zz_lv_at hl hi) (k hlen H locs ls cells slots hRep hS hl hc hs)
theorem zz_lstore (C : zz_Cx G l own nm cc nL ret d fin Z) {i : Nat} {x : Int64} {lo' : List (Option Value)} (hn : i + 1 < lo.length) (hok : zz_ok1 lo i = true) (hlo : ((lo.set i (some (.long x))).set (i + 1) none) = lo') (hd : decode cc pc = .ok (.lstore i, 2)) (k : Z (pc + 2) lo' st sh σ) : Z pc lo (.long x :: st) sh σ := by
  obtain ⟨⟨p, e, R, s, m, args, below, meth, c, Q, k0, n0, rfl, ⟨hx, hb, hml, hown, hts⟩, hnm, hX, hK, hz, hR1, hR2, hR3, hR4⟩, hret⟩ := C
  intro hlen H locs ls cells slots hRep hS hl hc hs
  subst hlo
  exact lv_lstore hx hb hd hl (by omega) rfl (fun ls' hl' => k (by simp [hlen]) H locs ls' cells slots hRep hS (zz_lv_sub hl' (zz_set2 (v := .long x) (by omega) hok)) hc hs)
theorem zz_lstore_n (C : zz_Cx G l own nm cc nL ret d fin Z) {k : Fin 4} {i : Nat} (hk : (k : Nat) = i) {x : Int64} {lo' : List (Option Value)} (hn : i + 1 < lo.length) (hok : zz_ok1 lo i = true) (hlo : ((lo.set i (some (.long x))).set (i + 1) none) = lo') (hd : decode cc pc = .ok (.lstore_n k, 1)) (k : Z (pc + 1) lo' st sh σ) : Z pc lo (.long x :: st) sh σ := by
  obtain ⟨⟨p, e, R, s, m, args, below, meth, c, Q, k0, n0, rfl, ⟨hx, hb, hml, hown, hts⟩, hnm, hX, hK, hz, hR1, hR2, hR3, hR4⟩, hret⟩ := C
  intro hlen H locs ls cells slots hRep hS hl hc hs
  subst hlo
  exact lv_lstore_n hx hb hd hk hl (by omega) rfl (fun ls' hl' => k (by simp [hlen]) H locs ls' cells slots hRep hS (zz_lv_sub hl' (zz_set2 (v := .long x) (by omega) hok)) hc hs)
theorem zz_aload (C : zz_Cx G l own nm cc nL ret d fin Z) {i : Nat} {x : Nat} (hi : lo[i]? = some (some (.ref x))) (hd : decode cc pc = .ok (.aload i, 2)) (k : Z (pc + 2) lo (.ref x :: st) sh σ) : Z pc lo st sh σ := by
  obtain ⟨⟨p, e, R, s, m, args, below, meth, c, Q, k0, n0, rfl, ⟨hx, hb, hml, hown, hts⟩, hnm, hX, hK, hz, hR1, hR2, hR3, hR4⟩, hret⟩ := C
  intro hlen H locs ls cells slots hRep hS hl hc hs
  exact lv_aload hx hb hd (zz_lv_at hl hi) (k hlen H locs ls cells slots hRep hS hl hc hs)
theorem zz_aload_n (C : zz_Cx G l own nm cc nL ret d fin Z) {k : Fin 4} {i : Nat} {x : Nat} (hk : (k : Nat) = i) (hi : lo[i]? = some (some (.ref x))) (hd : decode cc pc = .ok (.aload_n k, 1)) (k : Z (pc + 1) lo (.ref x :: st) sh σ) : Z pc lo st sh σ := by
  obtain ⟨⟨p, e, R, s, m, args, below, meth, c, Q, k0, n0, rfl, ⟨hx, hb, hml, hown, hts⟩, hnm, hX, hK, hz, hR1, hR2, hR3, hR4⟩, hret⟩ := C
  intro hlen H locs ls cells slots hRep hS hl hc hs
  exact lv_aload_n hx hb hd hk (zz_lv_at hl hi) (k hlen H locs ls cells slots hRep hS hl hc hs)
theorem zz_astore (C : zz_Cx G l own nm cc nL ret d fin Z) {i : Nat} {x : Nat} {lo' : List (Option Value)} (hn : i < lo.length) (hok : zz_ok1 lo i = true) (hlo : (lo.set i (some (.ref x))) = lo') (hd : decode cc pc = .ok (.astore i, 2)) (k : Z (pc + 2) lo' st sh σ) : Z pc lo (.ref x :: st) sh σ := by
  obtain ⟨⟨p, e, R, s, m, args, below, meth, c, Q, k0, n0, rfl, ⟨hx, hb, hml, hown, hts⟩, hnm, hX, hK, hz, hR1, hR2, hR3, hR4⟩, hret⟩ := C
  intro hlen H locs ls cells slots hRep hS hl hc hs
  subst hlo
  exact lv_astore hx hb hd hl (by omega) rfl (fun ls' hl' => k (by simp [hlen]) H locs ls' cells slots hRep hS (zz_lv_sub hl' (zz_set1 (v := .ref x) (by omega) hok)) hc hs)
theorem zz_astore_n (C : zz_Cx G l own nm cc nL ret d fin Z) {k : Fin 4} {i : Nat} (hk : (k : Nat) = i) {x : Nat} {lo' : List (Option Value)} (hn : i < lo.length) (hok : zz_ok1 lo i = true) (hlo : (lo.set i (some (.ref x))) = lo') (hd : decode cc pc = .ok (.astore_n k, 1)) (k : Z (pc + 1) lo' st sh σ) : Z pc lo (.ref x :: st) sh σ := by
  obtain ⟨⟨p, e, R, s, m, args, below, meth, c, Q, k0, n0, rfl, ⟨hx, hb, hml, hown, hts⟩, hnm, hX, hK, hz, hR1, hR2, hR3, hR4⟩, hret⟩ := C
  intro hlen H locs ls cells slots hRep hS hl hc hs
  subst hlo
  exact lv_astore_n hx hb hd hk hl (by omega) rfl (fun ls' hl' => k (by simp [hlen]) H locs ls' cells slots hRep hS (zz_lv_sub hl' (zz_set1 (v := .ref x) (by omega) hok)) hc hs)
theorem zz_iinc (C : zz_Cx G l own nm cc nL ret d fin Z) {i : Nat} {n : Int} {x v : Int32} {lo' : List (Option Value)} (hi : lo[i]? = some (some (.int x))) (hv : x + Int32.ofInt n = v) (hok : zz_ok1 lo i = true) (hlo : lo.set i (some (.int v)) = lo') (hd : decode cc pc = .ok (.iinc i n, 3)) (k : Z (pc + 3) lo' st sh σ) : Z pc lo st sh σ := by
  obtain ⟨⟨p, e, R, s, m, args, below, meth, c, Q, k0, n0, rfl, ⟨hx, hb, hml, hown, hts⟩, hnm, hX, hK, hz, hR1, hR2, hR3, hR4⟩, hret⟩ := C
  intro hlen H locs ls cells slots hRep hS hl hc hs
  subst hlo
  have hil := (List.getElem?_eq_some_iff.mp hi).1
  obtain ⟨j, hj⟩ := List.getElem?_of_mem (zz_lv_mem.mpr ⟨_, hi, rfl⟩ : (i, zz_tr G (.int x)) ∈ zz_lv G lo)
  exact lv_iinc hx hb hd hl (k := j) hj hv (by omega) rfl (fun ls' hl' => k (by simp [hlen]) H locs ls' cells slots hRep hS (zz_lv_sub hl' (zz_set1 (v := .int v) (by omega) hok)) hc hs)
theorem zz_iadd (C : zz_Cx G l own nm cc nL ret d fin Z) {x y : Int32} (hd : decode cc pc = .ok (.iadd, 1)) (k : Z (pc + 1) lo (.int (x + y) :: st) sh σ) : Z pc lo (.int y :: .int x :: st) sh σ := by
  obtain ⟨⟨p, e, R, s, m, args, below, meth, c, Q, k0, n0, rfl, ⟨hx, hb, hml, hown, hts⟩, hnm, hX, hK, hz, hR1, hR2, hR3, hR4⟩, hret⟩ := C
  intro hlen H locs ls cells slots hRep hS hl hc hs
  exact lv_iadd hx hb hd (k hlen H locs ls cells slots hRep hS hl hc hs)
theorem zz_isub (C : zz_Cx G l own nm cc nL ret d fin Z) {x y : Int32} (hd : decode cc pc = .ok (.isub, 1)) (k : Z (pc + 1) lo (.int (x - y) :: st) sh σ) : Z pc lo (.int y :: .int x :: st) sh σ := by
  obtain ⟨⟨p, e, R, s, m, args, below, meth, c, Q, k0, n0, rfl, ⟨hx, hb, hml, hown, hts⟩, hnm, hX, hK, hz, hR1, hR2, hR3, hR4⟩, hret⟩ := C
  intro hlen H locs ls cells slots hRep hS hl hc hs
  exact lv_isub hx hb hd (k hlen H locs ls cells slots hRep hS hl hc hs)
theorem zz_imul (C : zz_Cx G l own nm cc nL ret d fin Z) {x y : Int32} (hd : decode cc pc = .ok (.imul, 1)) (k : Z (pc + 1) lo (.int (x * y) :: st) sh σ) : Z pc lo (.int y :: .int x :: st) sh σ := by
  obtain ⟨⟨p, e, R, s, m, args, below, meth, c, Q, k0, n0, rfl, ⟨hx, hb, hml, hown, hts⟩, hnm, hX, hK, hz, hR1, hR2, hR3, hR4⟩, hret⟩ := C
  intro hlen H locs ls cells slots hRep hS hl hc hs
  exact lv_imul hx hb hd (k hlen H locs ls cells slots hRep hS hl hc hs)
theorem zz_iand (C : zz_Cx G l own nm cc nL ret d fin Z) {x y : Int32} (hd : decode cc pc = .ok (.iand, 1)) (k : Z (pc + 1) lo (.int (x &&& y) :: st) sh σ) : Z pc lo (.int y :: .int x :: st) sh σ := by
  obtain ⟨⟨p, e, R, s, m, args, below, meth, c, Q, k0, n0, rfl, ⟨hx, hb, hml, hown, hts⟩, hnm, hX, hK, hz, hR1, hR2, hR3, hR4⟩, hret⟩ := C
  intro hlen H locs ls cells slots hRep hS hl hc hs
  exact lv_iand hx hb hd (k hlen H locs ls cells slots hRep hS hl hc hs)
theorem zz_ior (C : zz_Cx G l own nm cc nL ret d fin Z) {x y : Int32} (hd : decode cc pc = .ok (.ior, 1)) (k : Z (pc + 1) lo (.int (x ||| y) :: st) sh σ) : Z pc lo (.int y :: .int x :: st) sh σ := by
  obtain ⟨⟨p, e, R, s, m, args, below, meth, c, Q, k0, n0, rfl, ⟨hx, hb, hml, hown, hts⟩, hnm, hX, hK, hz, hR1, hR2, hR3, hR4⟩, hret⟩ := C
  intro hlen H locs ls cells slots hRep hS hl hc hs
  exact lv_ior hx hb hd (k hlen H locs ls cells slots hRep hS hl hc hs)
theorem zz_ixor (C : zz_Cx G l own nm cc nL ret d fin Z) {x y : Int32} (hd : decode cc pc = .ok (.ixor, 1)) (k : Z (pc + 1) lo (.int (x ^^^ y) :: st) sh σ) : Z pc lo (.int y :: .int x :: st) sh σ := by
  obtain ⟨⟨p, e, R, s, m, args, below, meth, c, Q, k0, n0, rfl, ⟨hx, hb, hml, hown, hts⟩, hnm, hX, hK, hz, hR1, hR2, hR3, hR4⟩, hret⟩ := C
  intro hlen H locs ls cells slots hRep hS hl hc hs
  exact lv_ixor hx hb hd (k hlen H locs ls cells slots hRep hS hl hc hs)
theorem zz_ishl (C : zz_Cx G l own nm cc nL ret d fin Z) {x y : Int32} (hd : decode cc pc = .ok (.ishl, 1)) (k : Z (pc + 1) lo (.int (x <<< (y &&& 31)) :: st) sh σ) : Z pc lo (.int y :: .int x :: st) sh σ := by
  obtain ⟨⟨p, e, R, s, m, args, below, meth, c, Q, k0, n0, rfl, ⟨hx, hb, hml, hown, hts⟩, hnm, hX, hK, hz, hR1, hR2, hR3, hR4⟩, hret⟩ := C
  intro hlen H locs ls cells slots hRep hS hl hc hs
  exact lv_ishl hx hb hd (k hlen H locs ls cells slots hRep hS hl hc hs)
theorem zz_ishr (C : zz_Cx G l own nm cc nL ret d fin Z) {x y : Int32} (hd : decode cc pc = .ok (.ishr, 1)) (k : Z (pc + 1) lo (.int (x >>> (y &&& 31)) :: st) sh σ) : Z pc lo (.int y :: .int x :: st) sh σ := by
  obtain ⟨⟨p, e, R, s, m, args, below, meth, c, Q, k0, n0, rfl, ⟨hx, hb, hml, hown, hts⟩, hnm, hX, hK, hz, hR1, hR2, hR3, hR4⟩, hret⟩ := C
  intro hlen H locs ls cells slots hRep hS hl hc hs
  exact lv_ishr hx hb hd (k hlen H locs ls cells slots hRep hS hl hc hs)
theorem zz_iushr (C : zz_Cx G l own nm cc nL ret d fin Z) {x y : Int32} (hd : decode cc pc = .ok (.iushr, 1)) (k : Z (pc + 1) lo (.int ((x.toUInt32 >>> (y.toUInt32 &&& Int32.toUInt32 31)).toInt32) :: st) sh σ) : Z pc lo (.int y :: .int x :: st) sh σ := by
  obtain ⟨⟨p, e, R, s, m, args, below, meth, c, Q, k0, n0, rfl, ⟨hx, hb, hml, hown, hts⟩, hnm, hX, hK, hz, hR1, hR2, hR3, hR4⟩, hret⟩ := C
  intro hlen H locs ls cells slots hRep hS hl hc hs
  exact lv_iushr hx hb hd rfl (k hlen H locs ls cells slots hRep hS hl hc hs)
theorem zz_idiv (C : zz_Cx G l own nm cc nL ret d fin Z) {x y : Int32} (hy : ¬ y = 0) (hd : decode cc pc = .ok (.idiv, 1)) (k : Z (pc + 1) lo (.int (x / y) :: st) sh σ) : Z pc lo (.int y :: .int x :: st) sh σ := by
  obtain ⟨⟨p, e, R, s, m, args, below, meth, c, Q, k0, n0, rfl, ⟨hx, hb, hml, hown, hts⟩, hnm, hX, hK, hz, hR1, hR2, hR3, hR4⟩, hret⟩ := C
  intro hlen H locs ls cells slots hRep hS hl hc hs
  exact lv_idiv hx hb hd hy (k hlen H locs ls cells slots hRep hS hl hc hs)
theorem zz_irem (C : zz_Cx G l own nm cc nL ret d fin Z) {x y : Int32} (hy : ¬ y = 0) (hd : decode cc pc = .ok (.irem, 1)) (k : Z (pc + 1) lo (.int (x % y) :: st) sh σ) : Z pc lo (.int y :: .int x :: st) sh σ := by
  obtain ⟨⟨p, e, R, s, m, args, below, meth, c, Q, k0, n0, rfl, ⟨hx, hb, hml, hown, hts⟩, hnm, hX, hK, hz, hR1, hR2, hR3, hR4⟩, hret⟩ := C
  intro hlen H locs ls cells slots hRep hS hl hc hs
  exact lv_irem hx hb hd hy (by rw [irem_eq_mod]; exact k hlen H locs ls cells slots hRep hS hl hc hs)
theorem zz_ineg (C : zz_Cx G l own nm cc nL ret d fin Z) {x : Int32} (hd : decode cc pc = .ok (.ineg, 1)) (k : Z (pc + 1) lo (.int (-x) :: st) sh σ) : Z pc lo (.int x :: st) sh σ := by
  obtain ⟨⟨p, e, R, s, m, args, below, meth, c, Q, k0, n0, rfl, ⟨hx, hb, hml, hown, hts⟩, hnm, hX, hK, hz, hR1, hR2, hR3, hR4⟩, hret⟩ := C
  intro hlen H locs ls cells slots hRep hS hl hc hs
  exact lv_ineg hx hb hd (k hlen H locs ls cells slots hRep hS hl hc hs)
theorem zz_i2b (C : zz_Cx G l own nm cc nL ret d fin Z) {x : Int32} (hd : decode cc pc = .ok (.i2b, 1)) (k : Z (pc + 1) lo (.int (x.toInt8.toInt32) :: st) sh σ) : Z pc lo (.int x :: st) sh σ := by
  obtain ⟨⟨p, e, R, s, m, args, below, meth, c, Q, k0, n0, rfl, ⟨hx, hb, hml, hown, hts⟩, hnm, hX, hK, hz, hR1, hR2, hR3, hR4⟩, hret⟩ := C
  intro hlen H locs ls cells slots hRep hS hl hc hs
  exact lv_i2b hx hb hd rfl (k hlen H locs ls cells slots hRep hS hl hc hs)
theorem zz_i2s (C : zz_Cx G l own nm cc nL ret d fin Z) {x : Int32} (hd : decode cc pc = .ok (.i2s, 1)) (k : Z (pc + 1) lo (.int (x.toInt16.toInt32) :: st) sh σ) : Z pc lo (.int x :: st) sh σ := by
  obtain ⟨⟨p, e, R, s, m, args, below, meth, c, Q, k0, n0, rfl, ⟨hx, hb, hml, hown, hts⟩, hnm, hX, hK, hz, hR1, hR2, hR3, hR4⟩, hret⟩ := C
  intro hlen H locs ls cells slots hRep hS hl hc hs
  exact lv_i2s hx hb hd rfl (k hlen H locs ls cells slots hRep hS hl hc hs)
theorem zz_i2c (C : zz_Cx G l own nm cc nL ret d fin Z) {x : Int32} (hd : decode cc pc = .ok (.i2c, 1)) (k : Z (pc + 1) lo (.int ((x.toUInt32 % 65536).toInt32) :: st) sh σ) : Z pc lo (.int x :: st) sh σ := by
  obtain ⟨⟨p, e, R, s, m, args, below, meth, c, Q, k0, n0, rfl, ⟨hx, hb, hml, hown, hts⟩, hnm, hX, hK, hz, hR1, hR2, hR3, hR4⟩, hret⟩ := C
  intro hlen H locs ls cells slots hRep hS hl hc hs
  exact lv_i2c hx hb hd rfl (k hlen H locs ls cells slots hRep hS hl hc hs)
theorem zz_i2l (C : zz_Cx G l own nm cc nL ret d fin Z) {x : Int32} (hd : decode cc pc = .ok (.i2l, 1)) (k : Z (pc + 1) lo (.long x.toInt64 :: st) sh σ) : Z pc lo (.int x :: st) sh σ := by
  obtain ⟨⟨p, e, R, s, m, args, below, meth, c, Q, k0, n0, rfl, ⟨hx, hb, hml, hown, hts⟩, hnm, hX, hK, hz, hR1, hR2, hR3, hR4⟩, hret⟩ := C
  intro hlen H locs ls cells slots hRep hS hl hc hs
  exact lv_i2l hx hb hd rfl (k hlen H locs ls cells slots hRep hS hl hc hs)
theorem zz_l2i (C : zz_Cx G l own nm cc nL ret d fin Z) {x : Int64} (hd : decode cc pc = .ok (.l2i, 1)) (k : Z (pc + 1) lo (.int x.toInt32 :: st) sh σ) : Z pc lo (.long x :: st) sh σ := by
  obtain ⟨⟨p, e, R, s, m, args, below, meth, c, Q, k0, n0, rfl, ⟨hx, hb, hml, hown, hts⟩, hnm, hX, hK, hz, hR1, hR2, hR3, hR4⟩, hret⟩ := C
  intro hlen H locs ls cells slots hRep hS hl hc hs
  exact lv_l2i hx hb hd rfl (k hlen H locs ls cells slots hRep hS hl hc hs)
theorem zz_ladd (C : zz_Cx G l own nm cc nL ret d fin Z) {x y : Int64} (hd : decode cc pc = .ok (.ladd, 1)) (k : Z (pc + 1) lo (.long (x + y) :: st) sh σ) : Z pc lo (.long y :: .long x :: st) sh σ := by
  obtain ⟨⟨p, e, R, s, m, args, below, meth, c, Q, k0, n0, rfl, ⟨hx, hb, hml, hown, hts⟩, hnm, hX, hK, hz, hR1, hR2, hR3, hR4⟩, hret⟩ := C
  intro hlen H locs ls cells slots hRep hS hl hc hs
  exact lv_ladd hx hb hd (k hlen H locs ls cells slots hRep hS hl hc hs)
theorem zz_lsub (C : zz_Cx G l own nm cc nL ret d fin Z) {x y : Int64} (hd : decode cc pc = .ok (.lsub, 1)) (k : Z (pc + 1) lo (.long (x - y) :: st) sh σ) : Z pc lo (.long y :: .long x :: st) sh σ := by
  obtain ⟨⟨p, e, R, s, m, args, below, meth, c, Q, k0, n0, rfl, ⟨hx, hb, hml, hown, hts⟩, hnm, hX, hK, hz, hR1, hR2, hR3, hR4⟩, hret⟩ := C
  intro hlen H locs ls cells slots hRep hS hl hc hs
  exact lv_lsub hx hb hd (k hlen H locs ls cells slots hRep hS hl hc hs)
theorem zz_land (C : zz_Cx G l own nm cc nL ret d fin Z) {x y : Int64} (hd : decode cc pc = .ok (.land, 1)) (k : Z (pc + 1) lo (.long (x &&& y) :: st) sh σ) : Z pc lo (.long y :: .long x :: st) sh σ := by
  obtain ⟨⟨p, e, R, s, m, args, below, meth, c, Q, k0, n0, rfl, ⟨hx, hb, hml, hown, hts⟩, hnm, hX, hK, hz, hR1, hR2, hR3, hR4⟩, hret⟩ := C
  intro hlen H locs ls cells slots hRep hS hl hc hs
  exact lv_land hx hb hd (k hlen H locs ls cells slots hRep hS hl hc hs)
theorem zz_lor (C : zz_Cx G l own nm cc nL ret d fin Z) {x y : Int64} (hd : decode cc pc = .ok (.lor, 1)) (k : Z (pc + 1) lo (.long (x ||| y) :: st) sh σ) : Z pc lo (.long y :: .long x :: st) sh σ := by
  obtain ⟨⟨p, e, R, s, m, args, below, meth, c, Q, k0, n0, rfl, ⟨hx, hb, hml, hown, hts⟩, hnm, hX, hK, hz, hR1, hR2, hR3, hR4⟩, hret⟩ := C
  intro hlen H locs ls cells slots hRep hS hl hc hs
  exact lv_lor hx hb hd (k hlen H locs ls cells slots hRep hS hl hc hs)
theorem zz_lshl (C : zz_Cx G l own nm cc nL ret d fin Z) {x : Int64} {y : Int32} (hd : decode cc pc = .ok (.lshl, 1)) (k : Z (pc + 1) lo (.long (x <<< (y.toInt64 &&& 63)) :: st) sh σ) : Z pc lo (.int y :: .long x :: st) sh σ := by
  obtain ⟨⟨p, e, R, s, m, args, below, meth, c, Q, k0, n0, rfl, ⟨hx, hb, hml, hown, hts⟩, hnm, hX, hK, hz, hR1, hR2, hR3, hR4⟩, hret⟩ := C
  intro hlen H locs ls cells slots hRep hS hl hc hs
  exact lv_lshl hx hb hd rfl (k hlen H locs ls cells slots hRep hS hl hc hs)
theorem zz_lushr (C : zz_Cx G l own nm cc nL ret d fin Z) {x : Int64} {y : Int32} (hd : decode cc pc = .ok (.lushr, 1)) (k : Z (pc + 1) lo (.long ((x.toUInt64 >>> (y.toInt64.toUInt64 &&& Int64.toUInt64 63)).toInt64) :: st) sh σ) : Z pc lo (.int y :: .long x :: st) sh σ := by
  obtain ⟨⟨p, e, R, s, m, args, below, meth, c, Q, k0, n0, rfl, ⟨hx, hb, hml, hown, hts⟩, hnm, hX, hK, hz, hR1, hR2, hR3, hR4⟩, hret⟩ := C
  intro hlen H locs ls cells slots hRep hS hl hc hs
  exact lv_lushr hx hb hd rfl (k hlen H locs ls cells slots hRep hS hl hc hs)
theorem zz_lcmp (C : zz_Cx G l own nm cc nL ret d fin Z) {x y : Int64} (hd : decode cc pc = .ok (.lcmp, 1)) (k : Z (pc + 1) lo (.int (lg_cmp x y) :: st) sh σ) : Z pc lo (.long y :: .long x :: st) sh σ := by
  obtain ⟨⟨p, e, R, s, m, args, below, meth, c, Q, k0, n0, rfl, ⟨hx, hb, hml, hown, hts⟩, hnm, hX, hK, hz, hR1, hR2, hR3, hR4⟩, hret⟩ := C
  intro hlen H locs ls cells slots hRep hS hl hc hs
  exact W.lcmp hx hb hd (k hlen H locs ls cells slots hRep hS hl hc hs)
theorem zz_dup (C : zz_Cx G l own nm cc nL ret d fin Z) {v : Value} (hv : v.category = 1) (hd : decode cc pc = .ok (.dup, 1)) (k : Z (pc + 1) lo (v :: v :: st) sh σ) : Z pc lo (v :: st) sh σ := by
  obtain ⟨⟨p, e, R, s, m, args, below, meth, c, Q, k0, n0, rfl, ⟨hx, hb, hml, hown, hts⟩, hnm, hX, hK, hz, hR1, hR2, hR3, hR4⟩, hret⟩ := C
  intro hlen H locs ls cells slots hRep hS hl hc hs
  exact lv_dup hx hb hd ((zz_cat G v).trans hv) (k hlen H locs ls cells slots hRep hS hl hc hs)
theorem zz_pop (C : zz_Cx G l own nm cc nL ret d fin Z) {v : Value} (hv : v.category = 1) (hd : decode cc pc = .ok (.pop, 1)) (k : Z (pc + 1) lo st sh σ) : Z pc lo (v :: st) sh σ := by
  obtain ⟨⟨p, e, R, s, m, args, below, meth, c, Q, k0, n0, rfl, ⟨hx, hb, hml, hown, hts⟩, hnm, hX, hK, hz, hR1, hR2, hR3, hR4⟩, hret⟩ := C
  intro hlen H locs ls cells slots hRep hS hl hc hs
  exact lv_pop hx hb hd ((zz_cat G v).trans hv) (k hlen H locs ls cells slots hRep hS hl hc hs)
theorem zz_dup2 (C : zz_Cx G l own nm cc nL ret d fin Z) {v w : Value} (hv : v.category = 1) (hw : w.category = 1) (hd : decode cc pc = .ok (.dup2, 1)) (k : Z (pc + 1) lo (v :: w :: v :: w :: st) sh σ) : Z pc lo (v :: w :: st) sh σ := by
  obtain ⟨⟨p, e, R, s, m, args, below, meth, c, Q, k0, n0, rfl, ⟨hx, hb, hml, hown, hts⟩, hnm, hX, hK, hz, hR1, hR2, hR3, hR4⟩, hret⟩ := C
  intro hlen H locs ls cells slots hRep hS hl hc hs
  exact lv_dup2_11 hx hb hd ((zz_cat G v).trans hv) ((zz_cat G w).trans hw) (k hlen H locs ls cells slots hRep hS hl hc hs)
theorem zz_goto (C : zz_Cx G l own nm cc nL ret d fin Z) {off : Int} {tgt : Nat} (ht : (pc : Int) + off = (tgt : Int)) (hd : decode cc pc = .ok (.goto off, 3)) (k : Z tgt lo st sh σ) : Z pc lo st sh σ := by
  obtain ⟨⟨p, e, R, s, m, args, below, meth, c, Q, k0, n0, rfl, ⟨hx, hb, hml, hown, hts⟩, hnm, hX, hK, hz, hR1, hR2, hR3, hR4⟩, hret⟩ := C
  intro hlen H locs ls cells slots hRep hS hl hc hs
  exact lv_goto hx hb hd ht (k hlen H locs ls cells slots hRep hS hl hc hs)
theorem zz_icmp_eq (C : zz_Cx G l own nm cc nL ret d fin Z) {x y : Int32} {off : Int} {tgt : Nat} (ht : (pc : Int) + off = (tgt : Int)) (hd : decode cc pc = .ok (.if_icmp .eq off, 3)) (kt : x = y → Z tgt lo st sh σ) (kf : ¬ x = y → Z (pc + 3) lo st sh σ) : Z pc lo (.int y :: .int x :: st) sh σ := by
  obtain ⟨⟨p, e, R, s, m, args, below, meth, c, Q, k0, n0, rfl, ⟨hx, hb, hml, hown, hts⟩, hnm, hX, hK, hz, hR1, hR2, hR3, hR4⟩, hret⟩ := C
  intro hlen H locs ls cells slots hRep hS hl hc hs
  exact lv_icmp_eq hx hb hd ht (fun q => kt q hlen H locs ls cells slots hRep hS hl hc hs) (fun q => kf q hlen H locs ls cells slots hRep hS hl hc hs)
theorem zz_if_eq (C : zz_Cx G l own nm cc nL ret d fin Z) {x : Int32} {off : Int} {tgt : Nat} (ht : (pc : Int) + off = (tgt : Int)) (hd : decode cc pc = .ok (.ifCond .eq off, 3)) (kt : x = 0 → Z tgt lo st sh σ) (kf : ¬ x = 0 → Z (pc + 3) lo st sh σ) : Z pc lo (.int x :: st) sh σ := by
  obtain ⟨⟨p, e, R, s, m, args, below, meth, c, Q, k0, n0, rfl, ⟨hx, hb, hml, hown, hts⟩, hnm, hX, hK, hz, hR1, hR2, hR3, hR4⟩, hret⟩ := C
  intro hlen H locs ls cells slots hRep hS hl hc hs
  exact lv_if_eq hx hb hd ht (fun q => kt q hlen H locs ls cells slots hRep hS hl hc hs) (fun q => kf q hlen H locs ls cells slots hRep hS hl hc hs)
theorem zz_icmp_ne (C : zz_Cx G l own nm cc nL ret d fin Z) {x y : Int32} {off : Int} {tgt : Nat} (ht : (pc : Int) + off = (tgt : Int)) (hd : decode cc pc = .ok (.if_icmp .ne off, 3)) (kt : ¬ x = y → Z tgt lo st sh σ) (kf : x = y → Z (pc + 3) lo st sh σ) : Z pc lo (.int y :: .int x :: st) sh σ := by
  obtain ⟨⟨p, e, R, s, m, args, below, meth, c, Q, k0, n0, rfl, ⟨hx, hb, hml, hown, hts⟩, hnm, hX, hK, hz, hR1, hR2, hR3, hR4⟩, hret⟩ := C
  intro hlen H locs ls cells slots hRep hS hl hc hs
  exact lv_icmp_ne hx hb hd ht (fun q => kt q hlen H locs ls cells slots hRep hS hl hc hs) (fun q => kf q hlen H locs ls cells slots hRep hS hl hc hs)
theorem zz_if_ne (C : zz_Cx G l own nm cc nL ret d fin Z) {x : Int32} {off : Int} {tgt : Nat} (ht : (pc : Int) + off = (tgt : Int)) (hd : decode cc pc = .ok (.ifCond .ne off, 3)) (kt : ¬ x = 0 → Z tgt lo st sh σ) (kf : x = 0 → Z (pc + 3) lo st sh σ) : Z pc lo (.int x :: st) sh σ := by
  obtain ⟨⟨p, e, R, s, m, args, below, meth, c, Q, k0, n0, rfl, ⟨hx, hb, hml, hown, hts⟩, hnm, hX, hK, hz, hR1, hR2, hR3, hR4⟩, hret⟩ := C
  intro hlen H locs ls cells slots hRep hS hl hc hs
  exact lv_if_ne hx hb hd ht (fun q => kt q hlen H locs ls cells slots hRep hS hl hc hs) (fun q => kf q hlen H locs ls cells slots hRep hS hl hc hs)
theorem zz_icmp_lt (C : zz_Cx G l own nm cc nL ret d fin Z) {x y : Int32} {off : Int} {tgt : Nat} (ht : (pc : Int) + off = (tgt : Int)) (hd : decode cc pc = .ok (.if_icmp .lt off, 3)) (kt : x < y → Z tgt lo st sh σ) (kf : ¬ x < y → Z (pc + 3) lo st sh σ) : Z pc lo (.int y :: .int x :: st) sh σ := by
  obtain ⟨⟨p, e, R, s, m, args, below, meth, c, Q, k0, n0, rfl, ⟨hx, hb, hml, hown, hts⟩, hnm, hX, hK, hz, hR1, hR2, hR3, hR4⟩, hret⟩ := C
  intro hlen H locs ls cells slots hRep hS hl hc hs
  exact lv_icmp_lt hx hb hd ht (fun q => kt q hlen H locs ls cells slots hRep hS hl hc hs) (fun q => kf q hlen H locs ls cells slots hRep hS hl hc hs)
theorem zz_if_lt (C : zz_Cx G l own nm cc nL ret d fin Z) {x : Int32} {off : Int} {tgt : Nat} (ht : (pc : Int) + off = (tgt : Int)) (hd : decode cc pc = .ok (.ifCond .lt off, 3)) (kt : x < 0 → Z tgt lo st sh σ) (kf : ¬ x < 0 → Z (pc + 3) lo st sh σ) : Z pc lo (.int x :: st) sh σ := by
  obtain ⟨⟨p, e, R, s, m, args, below, meth, c, Q, k0, n0, rfl, ⟨hx, hb, hml, hown, hts⟩, hnm, hX, hK, hz, hR1, hR2, hR3, hR4⟩, hret⟩ := C
  intro hlen H locs ls cells slots hRep hS hl hc hs
  exact lv_if_lt hx hb hd ht (fun q => kt q hlen H locs ls cells slots hRep hS hl hc hs) (fun q => kf q hlen H locs ls cells slots hRep hS hl hc hs)
theorem zz_icmp_ge (C : zz_Cx G l own nm cc nL ret d fin Z) {x y : Int32} {off : Int} {tgt : Nat} (ht : (pc : Int) + off = (tgt : Int)) (hd : decode cc pc = .ok (.if_icmp .ge off, 3)) (kt : y ≤ x → Z tgt lo st sh σ) (kf : ¬ y ≤ x → Z (pc + 3) lo st sh σ) : Z pc lo (.int y :: .int x :: st) sh σ := by
  obtain ⟨⟨p, e, R, s, m, args, below, meth, c, Q, k0, n0, rfl, ⟨hx, hb, hml, hown, hts⟩, hnm, hX, hK, hz, hR1, hR2, hR3, hR4⟩, hret⟩ := C
  intro hlen H locs ls cells slots hRep hS hl hc hs
  exact lv_icmp_ge hx hb hd ht (fun q => kt q hlen H locs ls cells slots hRep hS hl hc hs) (fun q => kf q hlen H locs ls cells slots hRep hS hl hc hs)
theorem zz_if_ge (C : zz_Cx G l own nm cc nL ret d fin Z) {x : Int32} {off : Int} {tgt : Nat} (ht : (pc : Int) + off = (tgt : Int)) (hd : decode cc pc = .ok (.ifCond .ge off, 3)) (kt : 0 ≤ x → Z tgt lo st sh σ) (kf : ¬ 0 ≤ x → Z (pc + 3) lo st sh σ) : Z pc lo (.int x :: st) sh σ := by
  obtain ⟨⟨p, e, R, s, m, args, below, meth, c, Q, k0, n0, rfl, ⟨hx, hb, hml, hown, hts⟩, hnm, hX, hK, hz, hR1, hR2, hR3, hR4⟩, hret⟩ := C
  intro hlen H locs ls cells slots hRep hS hl hc hs
  exact lv_if_ge hx hb hd ht (fun q => kt q hlen H locs ls cells slots hRep hS hl hc hs) (fun q => kf q hlen H locs ls cells slots hRep hS hl hc hs)
theorem zz_icmp_gt (C : zz_Cx G l own nm cc nL ret d fin Z) {x y : Int32} {off : Int} {tgt : Nat} (ht : (pc : Int) + off = (tgt : Int)) (hd : decode cc pc = .ok (.if_icmp .gt off, 3)) (kt : y < x → Z tgt lo st sh σ) (kf : ¬ y < x → Z (pc + 3) lo st sh σ) : Z pc lo (.int y :: .int x :: st) sh σ := by
  obtain ⟨⟨p, e, R, s, m, args, below, meth, c, Q, k0, n0, rfl, ⟨hx, hb, hml, hown, hts⟩, hnm, hX, hK, hz, hR1, hR2, hR3, hR4⟩, hret⟩ := C
  intro hlen H locs ls cells slots hRep hS hl hc hs
  exact lv_icmp_gt hx hb hd ht (fun q => kt q hlen H locs ls cells slots hRep hS hl hc hs) (fun q => kf q hlen H locs ls cells slots hRep hS hl hc hs)
theorem zz_if_gt (C : zz_Cx G l own nm cc nL ret d fin Z) {x : Int32} {off : Int} {tgt : Nat} (ht : (pc : Int) + off = (tgt : Int)) (hd : decode cc pc = .ok (.ifCond .gt off, 3)) (kt : 0 < x → Z tgt lo st sh σ) (kf : ¬ 0 < x → Z (pc + 3) lo st sh σ) : Z pc lo (.int x :: st) sh σ := by
  obtain ⟨⟨p, e, R, s, m, args, below, meth, c, Q, k0, n0, rfl, ⟨hx, hb, hml, hown, hts⟩, hnm, hX, hK, hz, hR1, hR2, hR3, hR4⟩, hret⟩ := C
  intro hlen H locs ls cells slots hRep hS hl hc hs
  exact lv_if_gt hx hb hd ht (fun q => kt q hlen H locs ls cells slots hRep hS hl hc hs) (fun q => kf q hlen H locs ls cells slots hRep hS hl hc hs)
theorem zz_icmp_le (C : zz_Cx G l own nm cc nL ret d fin Z) {x y : Int32} {off : Int} {tgt : Nat} (ht : (pc : Int) + off = (tgt : Int)) (hd : decode cc pc = .ok (.if_icmp .le off, 3)) (kt : x ≤ y → Z tgt lo st sh σ) (kf : ¬ x ≤ y → Z (pc + 3) lo st sh σ) : Z pc lo (.int y :: .int x :: st) sh σ := by
  obtain ⟨⟨p, e, R, s, m, args, below, meth, c, Q, k0, n0, rfl, ⟨hx, hb, hml, hown, hts⟩, hnm, hX, hK, hz, hR1, hR2, hR3, hR4⟩, hret⟩ := C
  intro hlen H locs ls cells slots hRep hS hl hc hs
  exact lv_icmp_le hx hb hd ht (fun q => kt q hlen H locs ls cells slots hRep hS hl hc hs) (fun q => kf q hlen H locs ls cells slots hRep hS hl hc hs)
theorem zz_if_le (C : zz_Cx G l own nm cc nL ret d fin Z) {x : Int32} {off : Int} {tgt : Nat} (ht : (pc : Int) + off = (tgt : Int)) (hd : decode cc pc = .ok (.ifCond .le off, 3)) (kt : x ≤ 0 → Z tgt lo st sh σ) (kf : ¬ x ≤ 0 → Z (pc + 3) lo st sh σ) : Z pc lo (.int x :: st) sh σ := by
  obtain ⟨⟨p, e, R, s, m, args, below, meth, c, Q, k0, n0, rfl, ⟨hx, hb, hml, hown, hts⟩, hnm, hX, hK, hz, hR1, hR2, hR3, hR4⟩, hret⟩ := C
  intro hlen H locs ls cells slots hRep hS hl hc hs
  exact lv_if_le hx hb hd ht (fun q => kt q hlen H locs ls cells slots hRep hS hl hc hs) (fun q => kf q hlen H locs ls cells slots hRep hS hl hc hs)
theorem zz_tableIn (C : zz_Cx G l own nm cc nL ret d fin Z) {dflt lo0 hi0 : Int} {offs : Array Int} {len : Nat} {x : Int32} {off : Int} {tgt : Nat} (h1 : ¬ x.toInt < lo0) (h2 : ¬ hi0 < x.toInt) (ho : offs[(x.toInt - lo0).toNat]? = some off) (ht : (pc : Int) + off = (tgt : Int)) (hd : decode cc pc = .ok (.tableswitch dflt lo0 hi0 offs, len)) (k : Z tgt lo st sh σ) : Z pc lo (.int x :: st) sh σ := by
  obtain ⟨⟨p, e, R, s, m, args, below, meth, c, Q, k0, n0, rfl, ⟨hx, hb, hml, hown, hts⟩, hnm, hX, hK, hz, hR1, hR2, hR3, hR4⟩, hret⟩ := C
  intro hlen H locs ls cells slots hRep hS hl hc hs
  exact lv_tableIn hx hb hd h1 h2 ho ht (k hlen H locs ls cells slots hRep hS hl hc hs)
theorem zz_tableOut (C : zz_Cx G l own nm cc nL ret d fin Z) {dflt lo0 hi0 : Int} {offs : Array Int} {len : Nat} {x : Int32} {tgt : Nat} (h : x.toInt < lo0 ∨ hi0 < x.toInt) (ht : (pc : Int) + dflt = (tgt : Int)) (hd : decode cc pc = .ok (.tableswitch dflt lo0 hi0 offs, len)) (k : Z tgt lo st sh σ) : Z pc lo (.int x :: st) sh σ := by
  obtain ⟨⟨p, e, R, s, m, args, below, meth, c, Q, k0, n0, rfl, ⟨hx, hb, hml, hown, hts⟩, hnm, hX, hK, hz, hR1, hR2, hR3, hR4⟩, hret⟩ := C
  intro hlen H locs ls cells slots hRep hS hl hc hs
  exact lv_tableOut hx hb hd h ht (k hlen H locs ls cells slots hRep hS hl hc hs)
theorem zz_lookup (C : zz_Cx G l own nm cc nL ret d fin Z) {dflt : Int} {ps : Array (Int × Int)} {len : Nat} {x : Int32} {off : Int} {tgt : Nat} (hp : (ps.toList.zip (ps.toList.drop 1)).all (fun (a, next) => a.1 < next.1) = true) (ho : Op.lookupswitch.offset ps.toList dflt x.toInt = off) (ht : (pc : Int) + off = (tgt : Int)) (hd : decode cc pc = .ok (.lookupswitch dflt ps, len)) (k : Z tgt lo st sh σ) : Z pc lo (.int x :: st) sh σ := by
  obtain ⟨⟨p, e, R, s, m, args, below, meth, c, Q, k0, n0, rfl, ⟨hx, hb, hml, hown, hts⟩, hnm, hX, hK, hz, hR1, hR2, hR3, hR4⟩, hret⟩ := C
  intro hlen H locs ls cells slots hRep hS hl hc hs
  exact lv_lookup hx hb hd hp ho ht (k hlen H locs ls cells slots hRep hS hl hc hs)
theorem zz_ldc (C : zz_Cx G l own nm cc nL ret d fin Z) {index : Nat} {v : Int32} (hw : Jvm.Cond.constant own index v ∈ zz_T) (hd : decode cc pc = .ok (.ldc index, 2)) (k : Z (pc + 2) lo (.int v :: st) sh σ) : Z pc lo st sh σ := by
  obtain ⟨⟨p, e, R, s, m, args, below, meth, c, Q, k0, n0, rfl, ⟨hx, hb, hml, hown, hts⟩, hnm, hX, hK, hz, hR1, hR2, hR3, hR4⟩, hret⟩ := C
  intro hlen H locs ls cells slots hRep hS hl hc hs
  exact lv_ldc hx hb hown (hts _ hw) hd (k hlen H locs ls cells slots hRep hS hl hc hs)
theorem zz_ldcw (C : zz_Cx G l own nm cc nL ret d fin Z) {index : Nat} {v : Int32} (hw : Jvm.Cond.constant own index v ∈ zz_T) (hd : decode cc pc = .ok (.ldc_w index, 3)) (k : Z (pc + 3) lo (.int v :: st) sh σ) : Z pc lo st sh σ := by
  obtain ⟨⟨p, e, R, s, m, args, below, meth, c, Q, k0, n0, rfl, ⟨hx, hb, hml, hown, hts⟩, hnm, hX, hK, hz, hR1, hR2, hR3, hR4⟩, hret⟩ := C
  intro hlen H locs ls cells slots hRep hS hl hc hs
  exact lv_ldcw hx hb hown (hts _ hw) hd (k hlen H locs ls cells slots hRep hS hl hc hs)
theorem zz_ldc2 (C : zz_Cx G l own nm cc nL ret d fin Z) {index : Nat} {v : Int64} (hw : Jvm.Cond.constantLong own index v ∈ zz_T) (hd : decode cc pc = .ok (.ldc2_w index, 3)) (k : Z (pc + 3) lo (.long v :: st) sh σ) : Z pc lo st sh σ := by
  obtain ⟨⟨p, e, R, s, m, args, below, meth, c, Q, k0, n0, rfl, ⟨hx, hb, hml, hown, hts⟩, hnm, hX, hK, hz, hR1, hR2, hR3, hR4⟩, hret⟩ := C
  intro hlen H locs ls cells slots hRep hS hl hc hs
  exact lv_ldc2 hx hb hown (hts _ hw) hd (k hlen H locs ls cells slots hRep hS hl hc hs)
end ZR
