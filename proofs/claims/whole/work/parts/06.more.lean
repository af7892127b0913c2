/-! strings, static rows, copies, and the making of cells -/
section ZX
variable {G : zz_G} {l : Launch} {own nm : String} {cc : ByteArray} {nL d : Nat} {ret : Option FieldType} {fin : zz_Fin} {Z : zz_Z} {pc : Nat} {lo : List (Option Value)} {st : List Value} {sh : List zz_Sh} {σ : zz_S}
theorem zz_ldcS (C : zz_Cx G l own nm cc nL ret d fin Z) {index i : Nat} {tx : String} (hq : (own, index, tx, i) ∈ zz_str) (hd : decode cc pc = .ok (.ldc index, 2)) (kk : Z (pc + 2) lo (.ref (1300 + i) :: st) sh σ) : Z pc lo st sh σ := by
  obtain ⟨⟨p, e, R, s, m, args, below, meth, c, Q, k0, n0, rfl, ⟨hx, hb, hml, hown, hts⟩, hnm, hX, hK, hz, hR1, hR2, hR3, hR4⟩, hret⟩ := C
  intro hlen H locs ls cells slots hRep hS hl hc hs
  exact va_ldcS hx hb hown (hX.2.2.2.2.2.1 _ hq) hd (kk hlen H locs ls cells slots hRep hS hl hc hs)
theorem zz_strV (C : zz_Cx G l own nm cc nL ret d fin Z) {index i : Nat} (hi : i < 6) (hlk : Cond.fieldLink own index "java/lang/String" "value" "[B" ∈ zz_T) (hd : decode cc pc = .ok (.getfield index, 3)) (kk : Z (pc + 3) lo (.ref (1400 + i) :: st) sh σ) : Z pc lo (.ref (1300 + i) :: st) sh σ := by
  obtain ⟨⟨p, e, R, s, m, args, below, meth, c, Q, k0, n0, rfl, ⟨hx, hb, hml, hown, hts⟩, hnm, hX, hK, hz, hR1, hR2, hR3, hR4⟩, hret⟩ := C
  intro hlen H locs ls cells slots hRep hS hl hc hs
  exact vk_getf hx hb (hX.2.2.2.2.1.1 i hi).2.2.1 hS hown (hts _ hlk) (fun _ h => h) hd (kk hlen H locs ls cells slots hRep hS hl hc hs)
theorem zz_strC (C : zz_Cx G l own nm cc nL ret d fin Z) {index i : Nat} (hi : i < 6) (hlk : Cond.fieldLink own index "java/lang/String" "coder" "B" ∈ zz_T) (hd : decode cc pc = .ok (.getfield index, 3)) (kk : Z (pc + 3) lo (.int 0 :: st) sh σ) : Z pc lo (.ref (1300 + i) :: st) sh σ := by
  obtain ⟨⟨p, e, R, s, m, args, below, meth, c, Q, k0, n0, rfl, ⟨hx, hb, hml, hown, hts⟩, hnm, hX, hK, hz, hR1, hR2, hR3, hR4⟩, hret⟩ := C
  intro hlen H locs ls cells slots hRep hS hl hc hs
  exact vk_getf hx hb (hX.2.2.2.2.1.1 i hi).2.1 hS hown (hts _ hlk) (fun _ h => h) hd (kk hlen H locs ls cells slots hRep hS hl hc hs)
theorem zz_strL (C : zz_Cx G l own nm cc nL ret d fin Z) {i : Nat} (hi : i < 6) (hd : decode cc pc = .ok (.arraylength, 1)) (kk : Z (pc + 1) lo (.int (Int32.ofNat (zz_sln.getD i 0)) :: st) sh σ) : Z pc lo (.ref (1400 + i) :: st) sh σ := by
  obtain ⟨⟨p, e, R, s, m, args, below, meth, c, Q, k0, n0, rfl, ⟨hx, hb, hml, hown, hts⟩, hnm, hX, hK, hz, hR1, hR2, hR3, hR4⟩, hret⟩ := C
  intro hlen H locs ls cells slots hRep hS hl hc hs
  exact va_tlen hx hb (hX.2.2.2.2.1.1 i hi).2.2.2 hS rfl hd (kk hlen H locs ls cells slots hRep hS hl hc hs)
theorem zz_strB (C : zz_Cx G l own nm cc nL ret d fin Z) {i : Nat} {j : Int32} {kx : Nat} (hkx : j.toNatClampNeg = kx) (hi : i < 6) (hin : zz_in j (zz_sln.getD i 0) = true) (hd : decode cc pc = .ok (.baload, 1)) (kk : Z (pc + 1) lo (.int ((zz_sby.getD i []).getD kx 0) :: st) sh σ) : Z pc lo (.int j :: .ref (1400 + i) :: st) sh σ := by
  obtain ⟨⟨p, e, R, s, m, args, below, meth, c, Q, k0, n0, rfl, ⟨hx, hb, hml, hown, hts⟩, hnm, hX, hK, hz, hR1, hR2, hR3, hR4⟩, hret⟩ := C
  intro hlen H locs ls cells slots hRep hS hl hc hs
  subst hkx
  exact va_tb hx hb (hX.2.2.2.2.1.1 i hi).2.2.2 hS (zz_in_spec hin) rfl hd (kk hlen H locs ls cells slots hRep hS hl hc hs)
theorem zz_cmp (C : zz_Cx G l own nm cc nL ret d fin Z) {index : Nat} (hlk : Cond.fieldLink own index "java/lang/String" "COMPACT_STRINGS" "Z" ∈ zz_T) (hd : decode cc pc = .ok (.getstatic index, 3)) (kk : Z (pc + 3) lo (.int 1 :: st) sh σ) : Z pc lo st sh σ := by
  obtain ⟨⟨p, e, R, s, m, args, below, meth, c, Q, k0, n0, rfl, ⟨hx, hb, hml, hown, hts⟩, hnm, hX, hK, hz, hR1, hR2, hR3, hR4⟩, hret⟩ := C
  intro hlen H locs ls cells slots hRep hS hl hc hs
  exact va_gets hx hb hX.2.2.2.1 hS hown (hts _ hlk) (fun _ h => h) hd (kk hlen H locs ls cells slots hRep hS hl hc hs)
theorem zz_getABOVE (C : zz_Cx G l own nm cc nL ret d fin Z) {index : Nat} (hlk : Cond.fieldLink own index "OneBlanket$Bodies" "ABOVE" "[I" ∈ zz_T) (hd : decode cc pc = .ok (.getstatic index, 3)) (kk : Z (pc + 3) lo (.ref 1200 :: st) sh σ) : Z pc lo st sh σ := by
  obtain ⟨⟨p, e, R, s, m, args, below, meth, c, Q, k0, n0, rfl, ⟨hx, hb, hml, hown, hts⟩, hnm, hX, hK, hz, hR1, hR2, hR3, hR4⟩, hret⟩ := C
  intro hlen H locs ls cells slots hRep hS hl hc hs
  exact va_gets hx hb hX.2.1.1 hS hown (hts _ hlk) (fun _ h => h) hd (kk hlen H locs ls cells slots hRep hS hl hc hs)
theorem zz_ldABOVE (C : zz_Cx G l own nm cc nL ret d fin Z) {j : Int32} {kx : Nat} (hkx : j.toNatClampNeg = kx) (hin : zz_in j 8 = true) (hd : decode cc pc = .ok (.iaload, 1)) (kk : Z (pc + 1) lo (.int (zz_abv.getD kx 0) :: st) sh σ) : Z pc lo (.int j :: .ref 1200 :: st) sh σ := by
  obtain ⟨⟨p, e, R, s, m, args, below, meth, c, Q, k0, n0, rfl, ⟨hx, hb, hml, hown, hts⟩, hnm, hX, hK, hz, hR1, hR2, hR3, hR4⟩, hret⟩ := C
  intro hlen H locs ls cells slots hRep hS hl hc hs
  subst hkx
  exact va_ti hx hb hX.2.1.2 hS (zz_in_spec hin) rfl hd (kk hlen H locs ls cells slots hRep hS hl hc hs)
theorem zz_getOWN (C : zz_Cx G l own nm cc nL ret d fin Z) {index : Nat} (hlk : Cond.fieldLink own index "OneBlanket$Bodies" "OWN" "[I" ∈ zz_T) (hd : decode cc pc = .ok (.getstatic index, 3)) (kk : Z (pc + 3) lo (.ref 1201 :: st) sh σ) : Z pc lo st sh σ := by
  obtain ⟨⟨p, e, R, s, m, args, below, meth, c, Q, k0, n0, rfl, ⟨hx, hb, hml, hown, hts⟩, hnm, hX, hK, hz, hR1, hR2, hR3, hR4⟩, hret⟩ := C
  intro hlen H locs ls cells slots hRep hS hl hc hs
  exact va_gets hx hb hX.2.2.1.1 hS hown (hts _ hlk) (fun _ h => h) hd (kk hlen H locs ls cells slots hRep hS hl hc hs)
theorem zz_ldOWN (C : zz_Cx G l own nm cc nL ret d fin Z) {j : Int32} {kx : Nat} (hkx : j.toNatClampNeg = kx) (hin : zz_in j 32 = true) (hd : decode cc pc = .ok (.iaload, 1)) (kk : Z (pc + 1) lo (.int (zz_own.getD kx 0) :: st) sh σ) : Z pc lo (.int j :: .ref 1201 :: st) sh σ := by
  obtain ⟨⟨p, e, R, s, m, args, below, meth, c, Q, k0, n0, rfl, ⟨hx, hb, hml, hown, hts⟩, hnm, hX, hK, hz, hR1, hR2, hR3, hR4⟩, hret⟩ := C
  intro hlen H locs ls cells slots hRep hS hl hc hs
  subst hkx
  exact va_ti hx hb hX.2.2.1.2 hS (zz_in_spec hin) rfl hd (kk hlen H locs ls cells slots hRep hS hl hc hs)
def zz_copyiS (σ : zz_S) (o0 o1 : Nat) (sp dp n : Int32) : zz_S := (fun x => if x = o1 then va_cpy (σ.1 o0) (σ.1 o1) sp.toNatClampNeg dp.toNatClampNeg n.toNatClampNeg else σ.1 x, σ.2)
theorem zz_ws_get (G : zz_G) (sh : List zz_Sh) (σ : zz_S) (k : Nat) : (sh.mapIdx fun o c => (G.1 + o, zz_E G σ o c))[k]? = (sh[k]?).map fun c => (G.1 + k, zz_E G σ k c) := by rw [List.getElem?_mapIdx]
theorem zz_wsD (G : zz_G) (sh : List zz_Sh) (σ : zz_S) : va_D (zz_A G) (sh.mapIdx fun o c => (G.1 + o, zz_E G σ o c)) := by
  refine ⟨fun i j p q hi hj he => ?_, fun k q hk => ?_⟩
  · rw [zz_ws_get] at hi hj
    cases h1 : sh[i]? with
    | none => rw [h1] at hi; cases hi
    | some c1 =>
      cases h2 : sh[j]? with
      | none => rw [h2] at hj; cases hj
      | some c2 =>
        rw [h1] at hi
        rw [h2] at hj
        cases hi
        cases hj
        have he : G.1 + i = G.1 + j := he
        omega
  · rw [zz_ws_get] at hk
    cases h1 : sh[k]? with
    | none => rw [h1] at hk; cases hk
    | some c1 =>
      rw [h1] at hk
      cases hk
      exact Nat.le_add_right _ _
theorem zz_copyi (C : zz_Cx G l own nm cc nL ret d fin Z) {idx o0 o1 n0 n1 : Nat} {r0 r1 : List (Option Nat)} {sp dp n : Int32} (hex : G.2.2.2.2 = false) (h0 : sh[o0]? = some (.inr (0, n0, r0))) (h1 : sh[o1]? = some (.inr (0, n1, r1))) (hs1 : ¬ sp < 0) (hs2 : ¬ dp < 0) (hs3 : ¬ n < 0) (hs4 : sp.toNatClampNeg + n.toNatClampNeg ≤ n0) (hs5 : dp.toNatClampNeg + n.toNatClampNeg ≤ n1) (hlk : Cond.methodLink own idx arraycopyName ∈ zz_T) (hnat : Cond.native arraycopyName ∈ zz_T) (hstt : Cond.static arraycopyName ∈ zz_T) (hini : Cond.initialized "java/lang/System" ∈ zz_T) (hdd : 2 ≤ d) (h8 : (st.map fun v => v.category).sum ≤ 8) (hd : decode cc pc = .ok (.invokestatic idx, 3)) (kk : Z (pc + 3) lo st sh (zz_copyiS σ o0 o1 sp dp n)) : Z pc lo (.int n :: .int dp :: .ref o1 :: .int sp :: .ref o0 :: st) sh σ := by
  obtain ⟨⟨p, e, R, s, m, args, below, meth, c, Q, k0, nn0, rfl, ⟨hx, hb, hml, hown, hts⟩, hnm, hX, hK, hz, hR1, hR2, hR3, hR4⟩, hret⟩ := C
  intro hlen H locs ls cells slots hRep hS hl hc hs
  have hws : va_P G.2.1 zz_cl (sh.mapIdx fun o c => (G.1 + o, zz_E G σ o c)) H := by
    intro k q hk
    rw [zz_ws_get] at hk
    cases hc1 : sh[k]? with
    | none => rw [hc1] at hk; cases hk
    | some c1 => rw [hc1] at hk; cases hk; exact hRep.1 k c1 hc1
  have hka := hRep.2.2.2 o0 _ _ _ h0
  have hnf : nativeFrameWords "java/lang/System" "arraycopy" 5 + 11 ≤ 40 := by decide +kernel
  rw [show (Value.int n :: Value.int dp :: Value.ref o1 :: Value.int sp :: Value.ref o0 :: st).map (zz_tr G) = Value.int n :: Value.int dp :: Value.ref (G.1 + o1) :: Value.int sp :: Value.ref (G.1 + o0) :: st.map (zz_tr G) by rw [List.map_cons, List.map_cons, List.map_cons, List.map_cons, List.map_cons, zz_ref hRep h0, zz_ref hRep h1]; rfl]
  refine va_copyi hx hb (by rw [hml]; exact hl.1.symm) hown (hts _ hlk) (hts _ hnat) (hts _ hstt) (hts _ hini) (zz_K1 hK hka) hws (zz_wsD G sh σ) hS o0 o1 0 0 (c0 := G.2.2.1 0) (c1 := G.2.2.1 0) (n0 := n0) (n1 := n1) (f := σ.1 o0) (g := σ.1 o1) (ty := .int) (by rw [zz_ws_get, h0]; rfl) (by rw [zz_ws_get, h1]; rfl) rfl rfl rfl hs1 hs2 hs3 hs4 hs5 (fun _ _ => rfl) (by omega) (by rw [zz_cats]; omega) hd (fun H1 locs1 hP1 hD1 hS1 => ?_)
  refine kk hlen H1 locs1 ls cells slots ⟨fun o cs ho => ?_, fun hq => ?_, hRep.2.2.1, hRep.2.2.2⟩ hS1 hl hc hs
  · have hl1 := (List.getElem?_eq_some_iff.mp h1).1
    by_cases ho1 : o = o1
    · subst ho1
      have h := hP1 o (G.1 + o, .inl (G.2.2.1 0, n1, .inl ((zz_copyiS σ o0 o sp dp n).1 o))) (by
        rw [List.getElem?_set_self (by rw [List.length_mapIdx]; exact hl1)]
        simp [zz_copyiS])
      rw [h1] at ho
      cases ho
      exact h
    · have h := hP1 o (G.1 + o, zz_E G σ o cs) (by rw [List.getElem?_set_ne (Ne.symm ho1), zz_ws_get, ho]; rfl)
      rw [zz_E_off (σ := σ) (by simp [zz_copyiS, ho1]) (by simp [zz_copyiS, ho1])]
      exact h
  · rw [hex] at hq; cases hq
def zz_copylS (σ : zz_S) (o0 o1 : Nat) (sp dp n : Int32) : zz_S := (σ.1, fun x => if x = o1 then va_cpy (σ.2 o0) (σ.2 o1) sp.toNatClampNeg dp.toNatClampNeg n.toNatClampNeg else σ.2 x)
theorem zz_copyl (C : zz_Cx G l own nm cc nL ret d fin Z) {idx o0 o1 n0 n1 : Nat} {r0 r1 : List (Option Nat)} {sp dp n : Int32} (hex : G.2.2.2.2 = false) (h0 : sh[o0]? = some (.inr (3, n0, r0))) (h1 : sh[o1]? = some (.inr (3, n1, r1))) (hs1 : ¬ sp < 0) (hs2 : ¬ dp < 0) (hs3 : ¬ n < 0) (hs4 : sp.toNatClampNeg + n.toNatClampNeg ≤ n0) (hs5 : dp.toNatClampNeg + n.toNatClampNeg ≤ n1) (hlk : Cond.methodLink own idx arraycopyName ∈ zz_T) (hnat : Cond.native arraycopyName ∈ zz_T) (hstt : Cond.static arraycopyName ∈ zz_T) (hini : Cond.initialized "java/lang/System" ∈ zz_T) (hdd : 2 ≤ d) (h8 : (st.map fun v => v.category).sum ≤ 8) (hd : decode cc pc = .ok (.invokestatic idx, 3)) (kk : Z (pc + 3) lo st sh (zz_copylS σ o0 o1 sp dp n)) : Z pc lo (.int n :: .int dp :: .ref o1 :: .int sp :: .ref o0 :: st) sh σ := by
  obtain ⟨⟨p, e, R, s, m, args, below, meth, c, Q, k0, nn0, rfl, ⟨hx, hb, hml, hown, hts⟩, hnm, hX, hK, hz, hR1, hR2, hR3, hR4⟩, hret⟩ := C
  intro hlen H locs ls cells slots hRep hS hl hc hs
  have hws : va_P G.2.1 zz_cl (sh.mapIdx fun o c => (G.1 + o, zz_E G σ o c)) H := by
    intro k q hk
    rw [zz_ws_get] at hk
    cases hc1 : sh[k]? with
    | none => rw [hc1] at hk; cases hk
    | some c1 => rw [hc1] at hk; cases hk; exact hRep.1 k c1 hc1
  have hka := hRep.2.2.2 o0 _ _ _ h0
  have hnf : nativeFrameWords "java/lang/System" "arraycopy" 5 + 11 ≤ 40 := by decide +kernel
  rw [show (Value.int n :: Value.int dp :: Value.ref o1 :: Value.int sp :: Value.ref o0 :: st).map (zz_tr G) = Value.int n :: Value.int dp :: Value.ref (G.1 + o1) :: Value.int sp :: Value.ref (G.1 + o0) :: st.map (zz_tr G) by rw [List.map_cons, List.map_cons, List.map_cons, List.map_cons, List.map_cons, zz_ref hRep h0, zz_ref hRep h1]; rfl]
  refine va_copyl hx hb (by rw [hml]; exact hl.1.symm) hown (hts _ hlk) (hts _ hnat) (hts _ hstt) (hts _ hini) (zz_K1 hK hka) hws (zz_wsD G sh σ) hS o0 o1 0 0 (c0 := G.2.2.1 3) (c1 := G.2.2.1 3) (n0 := n0) (n1 := n1) (f := σ.2 o0) (g := σ.2 o1) (ty := .long) (by rw [zz_ws_get, h0]; rfl) (by rw [zz_ws_get, h1]; rfl) rfl rfl rfl hs1 hs2 hs3 hs4 hs5 (fun _ _ => rfl) (by omega) (by rw [zz_cats]; omega) hd (fun H1 locs1 hP1 hD1 hS1 => ?_)
  refine kk hlen H1 locs1 ls cells slots ⟨fun o cs ho => ?_, fun hq => ?_, hRep.2.2.1, hRep.2.2.2⟩ hS1 hl hc hs
  · have hl1 := (List.getElem?_eq_some_iff.mp h1).1
    by_cases ho1 : o = o1
    · subst ho1
      have h := hP1 o (G.1 + o, .inl (G.2.2.1 3, n1, .inr (.inl ((zz_copylS σ o0 o sp dp n).2 o)))) (by
        rw [List.getElem?_set_self (by rw [List.length_mapIdx]; exact hl1)]
        simp [zz_copylS])
      rw [h1] at ho
      cases ho
      exact h
    · have h := hP1 o (G.1 + o, zz_E G σ o cs) (by rw [List.getElem?_set_ne (Ne.symm ho1), zz_ws_get, ho]; rfl)
      rw [zz_E_off (σ := σ) (by simp [zz_copylS, ho1]) (by simp [zz_copylS, ho1])]
      exact h
  · rw [hex] at hq; cases hq
def zz_z (σ : zz_S) (o : Nat) : zz_S := (fun a j => if a = o then 0 else σ.1 a j, fun a j => if a = o then 0 else σ.2 a j)
/-- the fields of a new object -/
def zz_bl (ci : Nat) : List (Option (Option Nat)) := (List.range (zz_N ci)).map fun k => match zz_ft ci k with
  | .object _ => some none
  | .array _ => some none
  | _ => none
theorem zz_sl_app (sh : List zz_Sh) (c : zz_Sh) : zz_sl (sh ++ [c]) = zz_sl sh + zz_cs c := by simp [zz_sl]
theorem zz_Rep.push {G : zz_G} {U : State} {sh : List zz_Sh} {σ : zz_S} {H H1 : Heap} (h : zz_Rep G U sh σ H) {c : zz_Sh} (hex : G.2.2.2.2 = true) (hl : sh.length + 1 ≤ 1000) (e : va_at G.2.1 zz_cl (H.size, zz_E G (zz_z σ sh.length) sh.length c) H1) (z : H1.size = H.size + 1) (oq : ∀ q : Nat, q < H.size → H1[q]? = H[q]?)
    (hka : ∀ (t n : Nat) (rs : List (Option Nat)), c = .inr (t, n, rs) → zz_KA G U t) : zz_Rep G U (sh ++ [c]) (zz_z σ sh.length) H1 := by
  have hsz := h.2.1 hex
  refine ⟨fun a c' ha => ?_, fun _ => by rw [z, hsz, List.length_append]; rfl, by rw [List.length_append]; exact hl, fun a t n rs ha => ?_⟩
  · by_cases hl : a < sh.length
    · rw [List.getElem?_append_left hl] at ha
      have ha2 : ¬ a = sh.length := by omega
      rw [zz_E_off (σ := σ) (by funext j; simp [zz_z, ha2]) (by funext j; simp [zz_z, ha2])]
      exact (h.1 a c' ha).kept (oq _ (by show G.1 + a < _; omega))
    · rw [List.getElem?_append_right (by omega)] at ha
      have hz : a - sh.length < 1 := (List.getElem?_eq_some_iff.mp ha).1
      have ha0 : a = sh.length := by omega
      subst ha0
      rw [Nat.sub_self] at ha
      cases ha
      rw [← hsz]
      exact e
  · by_cases hl : a < sh.length
    · rw [List.getElem?_append_left hl] at ha
      exact h.2.2.2 a t n rs ha
    · rw [List.getElem?_append_right (by omega)] at ha
      have hz : a - sh.length < 1 := (List.getElem?_eq_some_iff.mp ha).1
      rw [show a - sh.length = 0 by omega] at ha
      cases ha
      exact hka t n rs rfl
theorem zz_new (C : zz_Cx G l own nm cc nL ret d fin Z) {idx ci : Nat} {Cn : String} (hex : G.2.2.2.2 = true) (hcl : zz_cl[ci]? = some (Cn, zz_F ci, zz_N ci)) (hok : ∀ k, k < zz_N ci → defaultValue (zz_ft ci k) = vp_V ((zz_bl ci).map fun f => match f with | none => Value.int 0 | some _ => Value.null) k) (hclk : Cond.classLink own idx Cn ∈ zz_T) (hins : Cond.instantiable Cn (zz_N ci) ∈ zz_T) (hini : Cond.initialized Cn ∈ zz_T) (hl1 : sh.length + 1 ≤ 1000) (hg1 : sh.length + 1 ≤ fin.2.1.length) (hg2 : zz_sl sh + zz_N ci ≤ zz_sl fin.2.1) (hd : decode cc pc = .ok (.new idx, 3)) (kk : Z (pc + 3) lo (.ref sh.length :: st) (sh ++ [.inl (ci, zz_bl ci)]) (zz_z σ sh.length)) : Z pc lo st sh σ := by
  obtain ⟨⟨p, e, R, s, m, args, below, meth, c, Q, k0, n0, rfl, ⟨hx, hb, hml, hown, hts⟩, hnm, hX, hK, hz, hR1, hR2, hR3, hR4⟩, hret⟩ := C
  intro hlen H locs ls cells slots hRep hS hl hc hs
  have hKn := hK ci _ hcl
  obtain ⟨hin, -, hty⟩ := zz_cls hcl
  refine W.newcK hx hb hown (hts _ hclk) (hts _ hins) (hts _ hini) rfl hd (by omega) (by omega) hKn.2.1 rfl fun H1 kC hkC e1 z1 o1 => ?_
  have hsz := hRep.2.1 hex
  have h3 := kk hlen H1 locs ls (cells + 1) (slots + zz_N ci) (hRep.push hex hl1 ?_ z1 o1 (fun t n rs h => by cases h)) ⟨Nat.le_trans hS.1 (by omega), fun x h1 h2 => (o1 x (Nat.lt_of_lt_of_le h1 hS.1)).trans (hS.2.1 x h1 h2), hS.2.2⟩ hl (by rw [List.length_append]; show cells + 1 + k0 = sh.length + 1; omega) (by rw [zz_sl_app]; show slots + zz_N ci + n0 = zz_sl sh + zz_N ci; omega)
  · rw [List.map_cons] at h3
    have e2 : zz_tr G (.ref sh.length) = .ref H.size := by
      show Value.ref (zz_ad G sh.length) = _
      rw [zz_ad_in (by omega), hsz]
    rw [e2] at h3
    exact h3
  · refine ⟨_, hcl, (u_born (zz_ft ci) hts hin hKn hkC e1 hty).to fun k hk => ?_⟩
    rw [hok k hk]
    unfold vp_V
    rw [List.getD_eq_getElem?_getD, List.getD_eq_getElem?_getD, List.getElem?_map, List.getElem?_mapIdx]
    have hbl : ∀ f, (zz_bl ci)[k]? = some f → f = none ∨ f = some none := by
      intro f hf
      unfold zz_bl at hf
      rw [List.getElem?_map] at hf
      cases h0 : (List.range (zz_N ci))[k]? with
      | none => rw [h0] at hf; cases hf
      | some j =>
        rw [h0] at hf
        have hf : (match zz_ft ci j with | .object _ => some none | .array _ => some none | _ => none) = f := Option.some.inj hf
        rw [← hf]
        cases zz_ft ci j <;> simp
    cases h0 : (zz_bl ci)[k]? with
    | none => rfl
    | some f =>
      rcases hbl f h0 with rfl | rfl
      · show Value.int 0 = Value.int ((zz_z σ sh.length).1 sh.length k)
        simp [zz_z]
      · rfl
theorem zz_newa (C : zz_Cx G l own nm cc nL ret d fin Z) {t n : Nat} {atype : ArrayType} {x : Int32} (hex : G.2.2.2.2 = true) (ht : newarray.typeOf atype = zz_ty t) (ht4 : t < 4) (hx0 : ¬ x < 0) (hxn : x.toNatClampNeg = n) (hby : n * componentBytes (newarray.typeOf atype) ≤ 536870912) (hw : Cond.arrayClass (newarray.typeOf atype) ∈ zz_T) (hl1 : sh.length + 1 ≤ 1000) (hg1 : sh.length + 1 ≤ fin.2.1.length) (hg2 : zz_sl sh + n ≤ zz_sl fin.2.1) (hd : decode cc pc = .ok (.newarray atype, 2)) (kk : Z (pc + 2) lo (.ref sh.length :: st) (sh ++ [.inr (t, n, [])]) (zz_z σ sh.length)) : Z pc lo (.int x :: st) sh σ := by
  obtain ⟨⟨p, e, R, s, m, args, below, meth, c, Q, k0, n0, rfl, ⟨hx, hb, hml, hown, hts⟩, hnm, hX, hK, hz, hR1, hR2, hR3, hR4⟩, hret⟩ := C
  intro hlen H locs ls cells slots hRep hS hl hc hs
  refine va_newaK hx hb (hts _ hw) rfl hd rfl hx0 hxn hby (by omega) (by omega) rfl fun H1 cA e1 z1 o1 hAr hNm => ?_
  have hsz := hRep.2.1 hex
  have hcA : cA = G.2.2.1 t := hX.2.2.2.2.2.2.1 t cA (by rw [← ht]; exact hNm)
  subst hcA
  have hka : zz_KA G s t := ⟨by rw [← ht]; exact hAr, by
    rw [ht] at hNm
    match t, ht4, hNm with
    | 0, _, h => exact h
    | 1, _, h => exact h
    | 2, _, h => exact h
    | 3, _, h => exact h⟩
  have h3 := kk hlen H1 locs ls (cells + 1) (slots + n) (hRep.push hex hl1 ?_ z1 o1 (fun t' n' rs' h => by cases h; exact hka)) ⟨Nat.le_trans hS.1 (by omega), fun x h1 h2 => (o1 x (Nat.lt_of_lt_of_le h1 hS.1)).trans (hS.2.1 x h1 h2), hS.2.2⟩ hl (by rw [List.length_append]; show cells + 1 + k0 = sh.length + 1; omega) (by rw [zz_sl_app]; show slots + n + n0 = zz_sl sh + n; omega)
  · rw [List.map_cons] at h3
    have e2 : zz_tr G (.ref sh.length) = .ref H.size := by
      show Value.ref (zz_ad G sh.length) = _
      rw [zz_ad_in (by omega), hsz]
    rw [e2] at h3
    exact h3
  · show H1[H.size]? = some (vp_cell (G.2.2.1 t) (n, zz_rw G (zz_z σ sh.length) sh.length t []))
    rw [e1, ht]
    unfold zz_rw
    match t, ht4 with
    | 0, _ => rw [if_pos (by decide)]; rw [vp_cell_i]; congr 2; funext j; simp [zz_z, zz_ty, defaultValue]
    | 1, _ => rw [if_pos (by decide)]; rw [vp_cell_i]; congr 2; funext j; simp [zz_z, zz_ty, defaultValue]
    | 2, _ => rw [if_pos (by decide)]; rw [vp_cell_i]; congr 2; funext j; simp [zz_z, zz_ty, defaultValue]
    | 3, _ => rw [if_neg (by decide), if_pos rfl]; rw [vp_cell_l]; congr 2; funext j; simp [zz_z, zz_ty, defaultValue]
theorem zz_newq (C : zz_Cx G l own nm cc nL ret d fin Z) {t n idx : Nat} {Cn : String} {x : Int32} (hex : G.2.2.2.2 = true) (ht : zz_ty t = .object Cn) (ht4 : ¬ t < 3 ∧ ¬ t = 3) (hCn : Cn = "OneBlanket$Text" ∨ Cn = "OneBlanket$Shelf") (hx0 : ¬ x < 0) (hxn : x.toNatClampNeg = n) (hby : n * 4 ≤ 536870912) (hclk : Cond.classLink own idx Cn ∈ zz_T) (hl1 : sh.length + 1 ≤ 1000) (hg1 : sh.length + 1 ≤ fin.2.1.length) (hg2 : zz_sl sh + n ≤ zz_sl fin.2.1) (hd : decode cc pc = .ok (.anewarray idx, 3)) (kk : Z (pc + 3) lo (.ref sh.length :: st) (sh ++ [.inr (t, n, List.replicate n none)]) (zz_z σ sh.length)) : Z pc lo (.int x :: st) sh σ := by
  obtain ⟨⟨p, e, R, s, m, args, below, meth, c, Q, k0, n0, rfl, ⟨hx, hb, hml, hown, hts⟩, hnm, hX, hK, hz, hR1, hR2, hR3, hR4⟩, hret⟩ := C
  intro hlen H locs ls cells slots hRep hS hl hc hs
  subst hxn
  refine W.anew hx hb hown (hts _ hclk) (va_AO.use (hX.2.2.2.2.2.2.2 Cn hCn)) rfl hd rfl hx0 hby (by omega) (by omega) fun cA kA comp f1 f2 f3 f4 => ?_
  have hsz := hRep.2.1 hex
  have hcA : cA = G.2.2.1 t := hX.2.2.2.2.2.2.1 t cA (by rw [ht]; exact f1)
  subst hcA
  generalize hH1 : H.push ({ cls := G.2.2.1 t, slots := Array.replicate x.toNatClampNeg .null, vm := .none } : Cell) = H1
  have z1 : H1.size = H.size + 1 := by rw [← hH1, Array.size_push]
  have e1 : H1[H.size]? = some (arrV (G.2.2.1 t) x.toNatClampNeg (fun _ => .null)) := by rw [← hH1, Array.getElem?_push_size, ← arrV_new]
  have o1 : ∀ q : Nat, q < H.size → H1[q]? = H[q]? := fun q hq => by rw [← hH1, Array.getElem?_push, if_neg (Nat.ne_of_lt hq)]
  have hka : zz_KA G s t := ⟨by rw [ht]; exact fun N z => ⟨(fun k h => by cases h), kA, f2, comp, f3⟩, by rw [ht]; exact ⟨kA, comp, f2, f3, f4, f1⟩⟩
  have h3 := kk hlen H1 locs ls (cells + 1) (slots + x.toNatClampNeg) (hRep.push hex hl1 ?_ z1 o1 (fun t' n' rs' h => by cases h; exact hka)) ⟨Nat.le_trans hS.1 (by omega), fun x h1 h2 => (o1 x (Nat.lt_of_lt_of_le h1 hS.1)).trans (hS.2.1 x h1 h2), hS.2.2⟩ hl (by rw [List.length_append]; show cells + 1 + k0 = sh.length + 1; omega) (by rw [zz_sl_app]; show slots + x.toNatClampNeg + n0 = zz_sl sh + x.toNatClampNeg; omega)
  · rw [List.map_cons] at h3
    have e2 : zz_tr G (.ref sh.length) = .ref H.size := by
      show Value.ref (zz_ad G sh.length) = _
      rw [zz_ad_in (by omega), hsz]
    rw [e2] at h3
    exact h3
  · show H1[H.size]? = some (vp_cell (G.2.2.1 t) (x.toNatClampNeg, zz_rw G (zz_z σ sh.length) sh.length t (List.replicate x.toNatClampNeg none)))
    rw [e1]
    unfold zz_rw
    rw [if_neg ht4.1, if_neg ht4.2, vp_cell_q]
    congr 2
    funext j
    rw [List.getD_eq_getElem?_getD, List.getElem?_replicate]
    by_cases hj : j < x.toNatClampNeg
    · simp [hj, va_rf]
    · simp [hj, va_rf]
theorem zz_Rep.setSh {G : zz_G} {U : State} {sh : List zz_Sh} {σ : zz_S} {H H1 : Heap} (h : zz_Rep G U sh σ H) {o : Nat} {c c' : zz_Sh} (ho : sh[o]? = some c) (e : va_at G.2.1 zz_cl (G.1 + o, zz_E G σ o c') H1) (z : H1.size = H.size) (oq : ∀ q : Nat, q ≠ G.1 + o → H1[q]? = H[q]?)
    (hka : ∀ (t n : Nat) (rs : List (Option Nat)), c' = .inr (t, n, rs) → zz_KA G U t) : zz_Rep G U (sh.set o c') σ H1 := by
  have hol := (List.getElem?_eq_some_iff.mp ho).1
  refine ⟨fun a ca ha => ?_, fun hx => by rw [z, List.length_set]; exact h.2.1 hx, by rw [List.length_set]; exact h.2.2.1, fun a t n rs ha => ?_⟩
  · by_cases hao : a = o
    · subst hao
      rw [List.getElem?_set_self hol] at ha
      cases ha
      exact e
    · rw [List.getElem?_set_ne (Ne.symm hao)] at ha
      exact (h.1 a ca ha).kept (oq _ (by show G.1 + a ≠ G.1 + o; omega))
  · by_cases hao : a = o
    · subst hao
      rw [List.getElem?_set_self hol] at ha
      exact hka t n rs (Option.some.inj ha)
    · rw [List.getElem?_set_ne (Ne.symm hao)] at ha
      exact h.2.2.2 a t n rs ha
theorem zz_sl_set (sh : List zz_Sh) {o : Nat} {c c' : zz_Sh} (ho : sh[o]? = some c) (h : zz_cs c' = zz_cs c) : zz_sl (sh.set o c') = zz_sl sh := by
  unfold zz_sl
  congr 1
  rw [List.map_set, h]
  apply List.ext_getElem?
  intro i
  by_cases hi : i = o
  · subst hi
    rw [List.getElem?_set_self (by rw [List.length_map]; exact (List.getElem?_eq_some_iff.mp ho).1), List.getElem?_map, ho]
    rfl
  · rw [List.getElem?_set_ne (Ne.symm hi)]
/-- a constructor stores a reference in a final field -/
theorem zz_putF (C : zz_Cx G l own nm cc nL ret d fin Z) {idx ci k o r : Nat} {fs : List (Option (Option Nat))} (hf : zz_FL own idx ci k) (ho : sh[o]? = some (.inl (ci, fs))) (hkl : k < fs.length) (hfin : (zz_F ci k).2.2.2 = true) (hinit : nm = "<init>") (hown2 : (zz_F ci k).1 = own) (hn : ∀ a, narrow (zz_ft ci k) (.ref a) = .ref a) (hfit : ∀ a, fits (zz_ft ci k) (.ref a) = true) (hcF : (zz_cl[ci]?).map (fun q => q.2.1 k) = some (zz_F ci k)) (hd : decode cc pc = .ok (.putfield idx, 3)) (kk : Z (pc + 3) lo st (sh.set o (.inl (ci, fs.set k (some (some r))))) σ) : Z pc lo (.ref r :: .ref o :: st) sh σ := by
  obtain ⟨⟨p, e, R, s, m, args, below, meth, c, Q, k0, n0, rfl, ⟨hx, hb, hml, hown, hts⟩, hnm, hX, hK, hz, hR1, hR2, hR3, hR4⟩, hret⟩ := C
  intro hlen H locs ls cells slots hRep hS hl hc hs
  obtain ⟨Cn, T, N, hcl, hkN, hlk, hC⟩ := hf
  rw [hcl] at hcF
  have hTF : T k = zz_F ci k := Option.some.inj hcF
  rw [List.map_cons, List.map_cons, zz_ref hRep ho]
  obtain ⟨hin, hnmo, hty⟩ := zz_cls hcl
  have hap := va_apart (own := own) hts hin (zz_ft ci) hty hnmo (zz_K0 hK) hcl
  obtain ⟨r9, h1, cell, q1, q2, q3, q4⟩ := hRep.1 o _ ho
  have hr : r9 = (Cn, T, N) := Option.some.inj (h1.symm.trans hcl)
  subst hr
  obtain ⟨hS2, hfc, kC, hkC, hkind⟩ := hK ci _ hcl
  obtain ⟨cf, kf, fi, f, hi, hsl⟩ := hS2 k hkN
  have hlay := hts _ (hin _ (u_in_lay hkN))
  unfold u_lay at hlay
  rw [if_pos (by rw [hTF, hfin])] at hlay
  have hst := (u_facts hfc hkC (u_lays hts hin hkN) hi).1
  have hcf : m.cls = cf := by
    obtain ⟨_, _, c', _, _, _, -, -, hf', -, -, -, hown3, -⟩ := Cond.laysFinal_spec hlay
    have e1 : c' = cf := by have := hi.symm.trans hf'; simp at this; exact this.1.symm
    rw [hTF, hown2] at hown3
    rw [← e1]; exact Option.some.inj (hown.symm.trans hown3)
  have h6 := u_fits hfc hkC hkind (Or.inr hlay) hi (hty k hkN) (hn (G.1 + o)) (hfit (G.1 + o))
  have hrv : zz_tr G (.ref r) = .ref (zz_ad G r) := rfl
  have h6 := u_fits hfc hkC hkind (Or.inr hlay) hi (hty k hkN) (hn (zz_ad G r)) (hfit (zz_ad G r))
  have hl2 : k < (fs.mapIdx (fun k f => zz_fd G σ o k f)).length := by rw [List.length_mapIdx]; exact hkl
  refine W.putFinK hx hb hown (hts _ hlk) (by rw [hC] at hi; exact hi) hst hcf (hnm.trans hinit) (v := .ref (zz_ad G r)) (by rw [q2]; exact h6) q1 q3 (by rw [hsl]; exact k2_hasslot (q4 k hkN)) rfl rfl hd fun H' e1 e2 e3 => ?_
  rw [hsl] at e1 ⊢
  have e4 : zz_E G σ o (.inl (ci, fs.set k (some (some r)))) = .inr (ci, (fs.mapIdx (fun k f => zz_fd G σ o k f)).set k (.ref (zz_ad G r))) := by
    show Sum.inr (ci, (fs.set k (some (some r))).mapIdx (fun k' f => zz_fd G σ o k' f)) = _
    congr 2
    apply List.ext_getElem?
    intro j
    rw [List.getElem?_mapIdx]
    by_cases hj : j = k
    · subst hj
      rw [List.getElem?_set_self hl2, List.getElem?_set_self hkl]
      rfl
    · rw [List.getElem?_set_ne (Ne.symm hj), List.getElem?_set_ne (Ne.symm hj), List.getElem?_mapIdx]
  refine kk hlen H' _ ls cells slots (hRep.setSh ho (by rw [e4]; exact ⟨_, hcl, t_OB.to (V := updV (vp_V (fs.mapIdx (fun k f => zz_fd G σ o k f))) k (.ref (zz_ad G r))) ⟨_, e1, q2, q3, t_set q4 hap hkN (.ref (zz_ad G r))⟩ (fun j _ => vp_updV_set hl2 _ j)⟩) e2 e3 (fun t n rs h => by cases h)) (hS.put e2 e3 (Nat.le_add_right _ _)) hl (by rw [List.length_set]; exact hc) (hs.trans (zz_sl_set sh ho (c' := .inl (ci, fs.set k (some (some r)))) rfl).symm)
theorem zz_aast (C : zz_Cx G l own nm cc nL ret d fin Z) {t o n r ci : Nat} {q : vw_C} {rs fs} {i : Int32} {kx : Nat} (hkx : i.toNatClampNeg = kx) (ho : sh[o]? = some (.inr (t, n, rs))) (ht : zz_ty t = .object q.1 ∧ ¬ t < 3 ∧ ¬ t = 3) (hv : sh[r]? = some (.inl (ci, fs))) (hcl : zz_cl[ci]? = some q) (hi : zz_in i n = true) (hrs : kx < rs.length) (hd : decode cc pc = .ok (.aastore, 1)) (kk : Z (pc + 1) lo st (sh.set o (.inr (t, n, rs.set kx (some r)))) σ) : Z pc lo (.ref r :: .int i :: .ref o :: st) sh σ := by
  obtain ⟨⟨p, e, R, s, m, args, below, meth, c, Q, k0, n0, rfl, ⟨hx, hb, hml, hown, hts⟩, hnm, hX, hK, hz, hR1, hR2, hR3, hR4⟩, hret⟩ := C
  intro hlen H locs ls cells slots hRep hS hl hc hs
  subst hkx
  rw [List.map_cons, List.map_cons, List.map_cons, zz_ref hRep ho, zz_ref hRep hv]
  have hin := zz_in_spec hi
  have hlt : i.toNatClampNeg < n := Nat.not_le.mp fun q => hin (Or.inr q)
  have h0 : ¬ i < 0 := fun q => hin (Or.inl q)
  obtain ⟨r', hr', cellV, g1, g2, g3, -⟩ := hRep.1 r _ hv
  have hcls := (hK ci q hcl).2
  have hka := hRep.2.2.2 o _ _ _ ho
  have hra := hka.2
  rw [ht.1] at hra
  obtain ⟨kA, comp, k1, k2, k3, -⟩ := hra
  have hcomp : comp = G.2.1.1 ci := Option.some.inj (k3.symm.trans hcls.1)
  subst hcomp
  obtain ⟨kC, hkC, -⟩ := hcls.2
  have hat := hRep.1 o _ ho
  have hE : ∀ rs', zz_E G σ o (.inr (t, n, rs')) = .inl (G.2.2.1 t, n, .inr (.inr (.inr (.inr fun j => (rs'.getD j none).map (zz_ad G))))) := by
    intro rs'
    show Sum.inl (G.2.2.1 t, n, zz_rw G σ o t rs') = _
    rw [zz_rw, if_neg ht.2.1, if_neg ht.2.2]
  rw [hE] at hat
  have hat : H[G.1 + o]? = some (vp_cell (G.2.2.1 t) (n, .inr (.inr (.inr (.inr fun j => (rs.getD j none).map (zz_ad G)))))) := hat
  refine W.aast hx hb hat (fun q h => by cases h) (fun h => by cases h) k1 k2 rfl hkC ⟨h0, by show _ < (arrV _ _ _).slots.size; rw [arrV_size]; exact hlt⟩ g1 (fun q h => by rw [g3] at h; cases h) (by rw [g2]; exact hkC) (by rw [g2]; exact va_assign hcls) rfl rfl hd fun H1 e z oq => ?_
  refine kk hlen H1 _ ls cells slots (hRep.setSh ho ?_ z oq (fun t' n' rs' h => by cases h; exact hka)) (hS.put z oq (Nat.le_add_right _ _)) hl (by rw [List.length_set]; exact hc) (hs.trans (zz_sl_set sh ho (c' := .inr (t, n, rs.set i.toNatClampNeg (some r))) rfl).symm)
  rw [hE]
  show H1[G.1 + o]? = some (vp_cell (G.2.2.1 t) (n, .inr (.inr (.inr (.inr fun j => ((rs.set i.toNatClampNeg (some r)).getD j none).map (zz_ad G))))))
  rw [e, vp_cell_q, vp_cell_q, arrV_store]
  congr 2
  funext q
  by_cases hq : q = i.toNatClampNeg
  · subst hq
    have : (rs.set i.toNatClampNeg (some r)).getD i.toNatClampNeg none = some r := by rw [List.getD_eq_getElem?_getD, List.getElem?_set_self hrs]; rfl
    rw [this]
    simp [updV, va_rf, zz_ad_in (zz_lt hRep hv)]
  · rw [List.getD_eq_getElem?_getD, List.getElem?_set_ne (Ne.symm hq), ← List.getD_eq_getElem?_getD]
    simp [updV, hq]
end ZX
