/-! the rows as the printed walks use them -/
def zz_PF (ci k : Nat) : Prop := (zz_F ci k).2.2.2 = false ∧ (∀ x, narrow (zz_ft ci k) (.int x) = .int x) ∧ (∀ x, fits (zz_ft ci k) (.int x) = true) ∧ (zz_cl[ci]?).map (fun q => q.2.1 k) = some (zz_F ci k)
theorem zz_PF.of {ci k : Nat} (h1 : (zz_F ci k).2.2.2 = false) (h2 : zz_ft ci k = .int) (h3 : (zz_cl[ci]?).map (fun q => q.2.1 k) = some (zz_F ci k)) : zz_PF ci k := ⟨h1, fun x => by rw [h2]; rfl, fun x => by rw [h2]; rfl, h3⟩
def zz_CV (y : MethodName) (bytes : ByteArray) (mL : Nat) (rt : Option FieldType) (n ci : Nat) : Prop := zz_MC y bytes mL rt n ∧ Cond.instanceMethod y ∈ zz_T ∧ Cond.selects y.cls y y ∈ zz_T ∧ (zz_cl[ci]?).map (fun q => q.1) = some y.cls
def zz_CS (y : MethodName) (bytes : ByteArray) (mL : Nat) (rt : Option FieldType) (n : Nat) : Prop := zz_MC y bytes mL rt n ∧ Cond.static y ∈ zz_T
theorem zz_ckE {α : Type} {c : Prop} [Decidable c] {a : Option α} {q : α} (h : (if c then a else none) = some q) : c ∧ a = some q := by
  by_cases hc : c
  · rw [if_pos hc] at h; exact ⟨hc, h⟩
  · rw [if_neg hc] at h; cases h
theorem zz_ckN {α : Type} {c : Prop} [Decidable c] {a : Option α} {q : α} (h : (if c then none else a) = some q) : ¬ c ∧ a = some q := by
  by_cases hc : c
  · rw [if_pos hc] at h; cases h
  · rw [if_neg hc] at h; exact ⟨hc, h⟩
theorem zz_bdE {α β : Type} {x : Option α} {g : α → Option β} {r : β} (h : x.bind g = some r) : ∃ q, x = some q ∧ g q = some r := by
  cases x with
  | none => cases h
  | some q => exact ⟨q, rfl, h⟩
def zz_mask (m : List Bool) (lo : List (Option Value)) : List (Option Value) := match m, lo with
  | b :: m, x :: lo => (if b then x else none) :: zz_mask m lo
  | _, _ => []
theorem zz_mask_len : ∀ (m : List Bool) (lo : List (Option Value)), m.length = lo.length → (zz_mask m lo).length = lo.length
  | [], [], _ => rfl
  | [], _ :: _, h => by cases h
  | _ :: _, [], h => by cases h
  | b :: m, x :: lo, h => by rw [zz_mask, List.length_cons, List.length_cons, zz_mask_len m lo (Nat.succ.inj h)]
theorem zz_mask_at : ∀ (m : List Bool) (lo : List (Option Value)) (i : Nat) (v : Value), (zz_mask m lo)[i]? = some (some v) → lo[i]? = some (some v)
  | [], _, i, v, h => by simp [zz_mask] at h
  | _ :: _, [], i, v, h => by simp [zz_mask] at h
  | b :: m, x :: lo, 0, v, h => by
    rw [zz_mask, List.getElem?_cons_zero] at h
    rw [List.getElem?_cons_zero]
    cases b
    · cases h
    · exact h
  | b :: m, x :: lo, i + 1, v, h => by
    rw [zz_mask, List.getElem?_cons_succ] at h
    rw [List.getElem?_cons_succ]
    exact zz_mask_at m lo i v h
section ZV
variable {G : zz_G} {l : Launch} {own nm : String} {cc : ByteArray} {nL d : Nat} {ret : Option FieldType} {fin : zz_Fin} {Z : zz_Z} {pc : Nat} {lo : List (Option Value)} {st : List Value} {sh : List zz_Sh} {σ : zz_S}
/-- locals that are read no more are forgotten -/
theorem zz_fg (C : zz_Cx G l own nm cc nL ret d fin Z) (m : List Bool) {lo' : List (Option Value)} (hm : m.length = lo.length) (hlo : zz_mask m lo = lo') (k : Z pc lo' st sh σ) : Z pc lo st sh σ := by
  obtain ⟨⟨p, e, R, s, m', args, below, meth, c, Q, k0, n0, rfl, -⟩, hret⟩ := C
  intro hlen H locs ls cells slots hRep hS hl hc hs
  subst hlo
  refine k ((zz_mask_len m lo hm).trans hlen) H locs ls cells slots hRep hS (zz_lv_sub hl ?_) hc hs
  rintro ⟨i, w⟩ hq
  obtain ⟨v, hv, rfl⟩ := zz_lv_mem.mp hq
  exact zz_lv_mem.mpr ⟨v, zz_mask_at m lo i v hv, rfl⟩
theorem zz_putI' (C : zz_Cx G l own nm cc nL ret d fin Z) {idx ci k o : Nat} {x : Int32} {fs : List (Option (Option Nat))} (hf : zz_FL own idx ci k) (hp : zz_PF ci k) (ho : sh[o]? = some (.inl (ci, fs))) (hk : fs[k]? = some none) (hd : decode cc pc = .ok (.putfield idx, 3)) (kk : Z (pc + 3) lo st sh (zz_w σ o k x)) : Z pc lo (.int x :: .ref o :: st) sh σ :=
  zz_putI C hf ho hk hp.1 (hp.2.1 x) (hp.2.2.1 x) hp.2.2.2 hd kk
theorem zz_cVi (C : zz_Cx G l own nm cc nL ret d fin Z) {y : MethodName} {bytes : ByteArray} {mL dc idx : Nat} {rt : Option FieldType} {as : List Value} {r : Int32} {σ1 : zz_S} {st0 : List Value} {o ci : Nat} {fs : List (Option (Option Nat))} (hM : zz_M G l dc y bytes mL rt (.ref o :: as) sh σ (some (.int r), sh, σ1)) (hv : zz_CV y bytes mL rt as.length ci) (ho : sh[o]? = some (.inl (ci, fs))) (hlk : Cond.methodLink own idx y ∈ zz_T) (hdd : dc + 1 ≤ d) (h8 : (st.map fun v => v.category).sum ≤ 8) (hd : decode cc pc = .ok (.invokevirtual idx, 3)) (hst : st0 = as.reverse ++ .ref o :: st) (hg : fin.2.1 = sh) (kk : Z (pc + 3) lo (.int r :: st) sh σ1) : Z pc lo st0 sh σ := by
  have hq := hv.2.2.2
  cases hcl : zz_cl[ci]? with
  | none => rw [hcl] at hq; cases hq
  | some q =>
    rw [hcl] at hq
    exact zz_callV C ho hcl (Option.some.inj hq) hlk hv.2.1 hv.2.2.1 hM hv.1 rfl hdd (by rw [hg]; exact Nat.le_refl _) (by rw [hg]; exact Nat.le_refl _) h8 hd kk hst
theorem zz_cSi (C : zz_Cx G l own nm cc nL ret d fin Z) {y : MethodName} {bytes : ByteArray} {mL dc idx : Nat} {rt : Option FieldType} {as : List Value} {r : Int32} {σ1 : zz_S} {st0 : List Value} (hM : zz_M G l dc y bytes mL rt as sh σ (some (.int r), sh, σ1)) (hv : zz_CS y bytes mL rt as.length) (hlk : Cond.methodLink own idx y ∈ zz_T) (hdd : dc + 1 ≤ d) (h8 : (st.map fun v => v.category).sum ≤ 8) (hd : decode cc pc = .ok (.invokestatic idx, 3)) (hst : st0 = as.reverse ++ st) (hg : fin.2.1 = sh) (kk : Z (pc + 3) lo (.int r :: st) sh σ1) : Z pc lo st0 sh σ := zz_callS C hlk hv.2 hM hv.1 rfl hdd (by rw [hg]; exact Nat.le_refl _) (by rw [hg]; exact Nat.le_refl _) h8 hd kk hst
theorem zz_cNi (C : zz_Cx G l own nm cc nL ret d fin Z) {y : MethodName} {bytes : ByteArray} {mL dc idx : Nat} {rt : Option FieldType} {as : List Value} {r : Int32} {σ1 : zz_S} {st0 : List Value} {host : String} (hM : zz_M G l dc y bytes mL rt as sh σ (some (.int r), sh, σ1)) (hv : zz_CS y bytes mL rt as.length) (hlk : Cond.methodLinkNest own idx y host ∈ zz_nst) (hdd : dc + 1 ≤ d) (h8 : (st.map fun v => v.category).sum ≤ 8) (hd : decode cc pc = .ok (.invokestatic idx, 3)) (hst : st0 = as.reverse ++ st) (hg : fin.2.1 = sh) (kk : Z (pc + 3) lo (.int r :: st) sh σ1) : Z pc lo st0 sh σ := zz_callSN C hlk hv.2 hM hv.1 rfl hdd (by rw [hg]; exact Nat.le_refl _) (by rw [hg]; exact Nat.le_refl _) h8 hd kk hst
theorem zz_cXi (C : zz_Cx G l own nm cc nL ret d fin Z) {y : MethodName} {bytes : ByteArray} {mL dc idx : Nat} {rt : Option FieldType} {as : List Value} {r : Int32} {σ1 : zz_S} {st0 : List Value} {i : Nat} (hM : zz_M G l dc y bytes mL rt (.ref (1300 + i) :: as) sh σ (some (.int r), sh, σ1)) (hm : zz_MC y bytes mL rt as.length ∧ Cond.instanceMethod y ∈ zz_T ∧ Cond.selects y.cls y y ∈ zz_T ∧ y.cls = "java/lang/String") (hi : i < 6) (hlk : Cond.methodLink own idx y ∈ zz_T) (hdd : dc + 1 ≤ d) (h8 : (st.map fun v => v.category).sum ≤ 8) (hd : decode cc pc = .ok (.invokevirtual idx, 3)) (hst : st0 = as.reverse ++ .ref (1300 + i) :: st) (hg : fin.2.1 = sh) (kk : Z (pc + 3) lo (.int r :: st) sh σ1) : Z pc lo st0 sh σ := zz_callX C hi hm.2.2.2 hlk hm.2.1 hm.2.2.1 hM hm.1 rfl hdd (by rw [hg]; exact Nat.le_refl _) (by rw [hg]; exact Nat.le_refl _) h8 hd kk hst
theorem zz_cVl (C : zz_Cx G l own nm cc nL ret d fin Z) {y : MethodName} {bytes : ByteArray} {mL dc idx : Nat} {rt : Option FieldType} {as : List Value} {r : Int64} {σ1 : zz_S} {st0 : List Value} {o ci : Nat} {fs : List (Option (Option Nat))} (hM : zz_M G l dc y bytes mL rt (.ref o :: as) sh σ (some (.long r), sh, σ1)) (hv : zz_CV y bytes mL rt as.length ci) (ho : sh[o]? = some (.inl (ci, fs))) (hlk : Cond.methodLink own idx y ∈ zz_T) (hdd : dc + 1 ≤ d) (h8 : (st.map fun v => v.category).sum ≤ 8) (hd : decode cc pc = .ok (.invokevirtual idx, 3)) (hst : st0 = as.reverse ++ .ref o :: st) (hg : fin.2.1 = sh) (kk : Z (pc + 3) lo (.long r :: st) sh σ1) : Z pc lo st0 sh σ := by
  have hq := hv.2.2.2
  cases hcl : zz_cl[ci]? with
  | none => rw [hcl] at hq; cases hq
  | some q =>
    rw [hcl] at hq
    exact zz_callV C ho hcl (Option.some.inj hq) hlk hv.2.1 hv.2.2.1 hM hv.1 rfl hdd (by rw [hg]; exact Nat.le_refl _) (by rw [hg]; exact Nat.le_refl _) h8 hd kk hst
theorem zz_cSl (C : zz_Cx G l own nm cc nL ret d fin Z) {y : MethodName} {bytes : ByteArray} {mL dc idx : Nat} {rt : Option FieldType} {as : List Value} {r : Int64} {σ1 : zz_S} {st0 : List Value} (hM : zz_M G l dc y bytes mL rt as sh σ (some (.long r), sh, σ1)) (hv : zz_CS y bytes mL rt as.length) (hlk : Cond.methodLink own idx y ∈ zz_T) (hdd : dc + 1 ≤ d) (h8 : (st.map fun v => v.category).sum ≤ 8) (hd : decode cc pc = .ok (.invokestatic idx, 3)) (hst : st0 = as.reverse ++ st) (hg : fin.2.1 = sh) (kk : Z (pc + 3) lo (.long r :: st) sh σ1) : Z pc lo st0 sh σ := zz_callS C hlk hv.2 hM hv.1 rfl hdd (by rw [hg]; exact Nat.le_refl _) (by rw [hg]; exact Nat.le_refl _) h8 hd kk hst
theorem zz_cVr (C : zz_Cx G l own nm cc nL ret d fin Z) {y : MethodName} {bytes : ByteArray} {mL dc idx : Nat} {rt : Option FieldType} {as : List Value} {r : Nat} {σ1 : zz_S} {st0 : List Value} {o ci : Nat} {fs : List (Option (Option Nat))} (hM : zz_M G l dc y bytes mL rt (.ref o :: as) sh σ (some (.ref r), sh, σ1)) (hv : zz_CV y bytes mL rt as.length ci) (ho : sh[o]? = some (.inl (ci, fs))) (hlk : Cond.methodLink own idx y ∈ zz_T) (hdd : dc + 1 ≤ d) (h8 : (st.map fun v => v.category).sum ≤ 8) (hd : decode cc pc = .ok (.invokevirtual idx, 3)) (hst : st0 = as.reverse ++ .ref o :: st) (hg : fin.2.1 = sh) (kk : Z (pc + 3) lo (.ref r :: st) sh σ1) : Z pc lo st0 sh σ := by
  have hq := hv.2.2.2
  cases hcl : zz_cl[ci]? with
  | none => rw [hcl] at hq; cases hq
  | some q =>
    rw [hcl] at hq
    exact zz_callV C ho hcl (Option.some.inj hq) hlk hv.2.1 hv.2.2.1 hM hv.1 rfl hdd (by rw [hg]; exact Nat.le_refl _) (by rw [hg]; exact Nat.le_refl _) h8 hd kk hst
theorem zz_cSr (C : zz_Cx G l own nm cc nL ret d fin Z) {y : MethodName} {bytes : ByteArray} {mL dc idx : Nat} {rt : Option FieldType} {as : List Value} {r : Nat} {σ1 : zz_S} {st0 : List Value} (hM : zz_M G l dc y bytes mL rt as sh σ (some (.ref r), sh, σ1)) (hv : zz_CS y bytes mL rt as.length) (hlk : Cond.methodLink own idx y ∈ zz_T) (hdd : dc + 1 ≤ d) (h8 : (st.map fun v => v.category).sum ≤ 8) (hd : decode cc pc = .ok (.invokestatic idx, 3)) (hst : st0 = as.reverse ++ st) (hg : fin.2.1 = sh) (kk : Z (pc + 3) lo (.ref r :: st) sh σ1) : Z pc lo st0 sh σ := zz_callS C hlk hv.2 hM hv.1 rfl hdd (by rw [hg]; exact Nat.le_refl _) (by rw [hg]; exact Nat.le_refl _) h8 hd kk hst
theorem zz_cVv (C : zz_Cx G l own nm cc nL ret d fin Z) {y : MethodName} {bytes : ByteArray} {mL dc idx : Nat} {rt : Option FieldType} {as : List Value} {σ1 : zz_S} {st0 : List Value} {o ci : Nat} {fs : List (Option (Option Nat))} (hM : zz_M G l dc y bytes mL rt (.ref o :: as) sh σ (none, sh, σ1)) (hv : zz_CV y bytes mL rt as.length ci) (ho : sh[o]? = some (.inl (ci, fs))) (hlk : Cond.methodLink own idx y ∈ zz_T) (hdd : dc + 1 ≤ d) (h8 : (st.map fun v => v.category).sum ≤ 8) (hd : decode cc pc = .ok (.invokevirtual idx, 3)) (hst : st0 = as.reverse ++ .ref o :: st) (hg : fin.2.1 = sh) (kk : Z (pc + 3) lo (st) sh σ1) : Z pc lo st0 sh σ := by
  have hq := hv.2.2.2
  cases hcl : zz_cl[ci]? with
  | none => rw [hcl] at hq; cases hq
  | some q =>
    rw [hcl] at hq
    exact zz_callV C ho hcl (Option.some.inj hq) hlk hv.2.1 hv.2.2.1 hM hv.1 rfl hdd (by rw [hg]; exact Nat.le_refl _) (by rw [hg]; exact Nat.le_refl _) h8 hd kk hst
theorem zz_cSv (C : zz_Cx G l own nm cc nL ret d fin Z) {y : MethodName} {bytes : ByteArray} {mL dc idx : Nat} {rt : Option FieldType} {as : List Value} {σ1 : zz_S} {st0 : List Value} (hM : zz_M G l dc y bytes mL rt as sh σ (none, sh, σ1)) (hv : zz_CS y bytes mL rt as.length) (hlk : Cond.methodLink own idx y ∈ zz_T) (hdd : dc + 1 ≤ d) (h8 : (st.map fun v => v.category).sum ≤ 8) (hd : decode cc pc = .ok (.invokestatic idx, 3)) (hst : st0 = as.reverse ++ st) (hg : fin.2.1 = sh) (kk : Z (pc + 3) lo (st) sh σ1) : Z pc lo st0 sh σ := zz_callS C hlk hv.2 hM hv.1 rfl hdd (by rw [hg]; exact Nat.le_refl _) (by rw [hg]; exact Nat.le_refl _) h8 hd kk hst
theorem zz_getIv (C : zz_Cx G l own nm cc nL ret d fin Z) {idx ci k o : Nat} {v : Int32} {fs : List (Option (Option Nat))} (hf : zz_FL own idx ci k) (ho : sh[o]? = some (.inl (ci, fs))) (hk : fs[k]? = some none) (hv : σ.1 o k = v) (hd : decode cc pc = .ok (.getfield idx, 3)) (kk : Z (pc + 3) lo (.int v :: st) sh σ) : Z pc lo (.ref o :: st) sh σ := by
  subst hv
  exact zz_getI C hf ho hk hd kk
theorem zz_ialdv (C : zz_Cx G l own nm cc nL ret d fin Z) {o n kx : Nat} {v : Int32} {rs : List (Option Nat)} {i : Int32} (hkx : i.toNatClampNeg = kx) (ho : sh[o]? = some (.inr (0, n, rs))) (hi : zz_in i n = true) (hv : σ.1 o kx = v) (hd : decode cc pc = .ok (.iaload, 1)) (kk : Z (pc + 1) lo (.int v :: st) sh σ) : Z pc lo (.int i :: .ref o :: st) sh σ := by
  subst hv
  exact zz_iald C hkx ho hi hd kk
theorem zz_baldv (C : zz_Cx G l own nm cc nL ret d fin Z) {o n kx : Nat} {v : Int32} {rs : List (Option Nat)} {i : Int32} (hkx : i.toNatClampNeg = kx) (ho : sh[o]? = some (.inr (1, n, rs))) (hi : zz_in i n = true) (hv : σ.1 o kx = v) (hd : decode cc pc = .ok (.baload, 1)) (kk : Z (pc + 1) lo (.int v :: st) sh σ) : Z pc lo (.int i :: .ref o :: st) sh σ := by
  subst hv
  exact zz_bald C hkx ho hi hd kk
theorem zz_saldv (C : zz_Cx G l own nm cc nL ret d fin Z) {o n kx : Nat} {v : Int32} {rs : List (Option Nat)} {i : Int32} (hkx : i.toNatClampNeg = kx) (ho : sh[o]? = some (.inr (2, n, rs))) (hi : zz_in i n = true) (hv : σ.1 o kx = v) (hd : decode cc pc = .ok (.saload, 1)) (kk : Z (pc + 1) lo (.int v :: st) sh σ) : Z pc lo (.int i :: .ref o :: st) sh σ := by
  subst hv
  exact zz_sald C hkx ho hi hd kk
theorem zz_laldv (C : zz_Cx G l own nm cc nL ret d fin Z) {o n kx : Nat} {v : Int64} {rs : List (Option Nat)} {i : Int32} (hkx : i.toNatClampNeg = kx) (ho : sh[o]? = some (.inr (3, n, rs))) (hi : zz_in i n = true) (hv : σ.2 o kx = v) (hd : decode cc pc = .ok (.laload, 1)) (kk : Z (pc + 1) lo (.long v :: st) sh σ) : Z pc lo (.int i :: .ref o :: st) sh σ := by
  subst hv
  exact zz_lald C hkx ho hi hd kk
end ZV
