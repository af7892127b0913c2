/-! calls -/
def zz_MC (y : MethodName) (bytes : ByteArray) (mL : Nat) (rt : Option FieldType) (n : Nat) : Prop := Cond.code y bytes mL rt ∈ zz_T ∧ Cond.initialized y.cls ∈ zz_T ∧ (y.cls ≠ "java/lang/invoke/MethodHandle" ∧ y.cls ≠ "java/lang/invoke/VarHandle" ∧ (parseMethodDescriptor y.desc).map (fun d => d.parameters.length) = some n) ∧ mL ≤ 45
theorem zz_goodM {y : MethodName} {bytes : ByteArray} {mL n : Nat} {rt : Option FieldType} (h : zz_MC y bytes mL rt n) : GoodIn zz_T (.code y bytes mL rt :: zz_T) := fun w hw => (List.mem_cons.mp hw).elim (fun e => e ▸ zz_goodT _ h.1) (zz_goodT w)
theorem zz_cat8 {st : List Value} {G : zz_G} {k : Nat} (h : (st.map fun v => v.category).sum ≤ 8) : 2 * k + ((st.map (zz_tr G)).map fun v => v.category).sum ≤ 8 + 2 * k := by rw [zz_cats]; omega
/-- what the callee changed in number: cells and slots -/
theorem zz_grow {a b k0 cells fl : Nat} (h1 : a ≤ b) (hc : cells + k0 = a) : cells + (b - a) + k0 = b := by omega
section ZC
variable {G : zz_G} {l : Launch} {own nm : String} {cc : ByteArray} {nL d : Nat} {ret : Option FieldType} {fin : zz_Fin} {Z : zz_Z} {pc : Nat} {lo : List (Option Value)} {st : List Value} {sh : List zz_Sh} {σ : zz_S}
variable {y : MethodName} {bytes : ByteArray} {mL n dc : Nat} {rt : Option FieldType} {as : List Value} {fc : zz_Fin}
theorem zz_callV (C : zz_Cx G l own nm cc nL ret d fin Z) {idx : Nat} {o ci : Nat} {fs : List (Option (Option Nat))} {q : vw_C} (ho : sh[o]? = some (.inl (ci, fs))) (hcl : zz_cl[ci]? = some q) (hyc : q.1 = y.cls) (hlk : Cond.methodLink own idx y ∈ zz_T) (hin : Cond.instanceMethod y ∈ zz_T) (hse : Cond.selects y.cls y y ∈ zz_T) (hM : zz_M G l dc y bytes mL rt (.ref o :: as) sh σ fc) (hm : zz_MC y bytes mL rt n) (hn : as.length = n) (hdd : dc + 1 ≤ d) (hg1 : fc.2.1.length ≤ fin.2.1.length) (hg2 : zz_sl fc.2.1 ≤ zz_sl fin.2.1) (h8 : (st.map fun v => v.category).sum ≤ 8) (hd : decode cc pc = .ok (.invokevirtual idx, 3)) (kk : Z (pc + 3) lo (fc.1.toList ++ st) fc.2.1 fc.2.2) {st0 : List Value} (hst : st0 = as.reverse ++ .ref o :: st) : Z pc lo st0 sh σ := by
  obtain ⟨⟨p, e, R, s, m, args, below, meth, c, Q, k0, n0, rfl, ⟨hx, hb, hml, hown, hts⟩, hnm, hX, hK, hz, hR1, hR2, hR3, hR4⟩, hret⟩ := C
  intro hlen H locs ls cells slots hRep hS hl hc hs
  obtain ⟨gw1, gw2, hMet⟩ := hM
  have hgood := zz_goodM hm
  subst hst
  have hlo : 8 + (mL + 11) + 64 * dc ≤ R.locals := by have := hm.2.2.2; omega
  have hpre := zz_preS (as := (.ref o :: as)) hX hK hz hRep hS
  have h8' : 2 * (F0 m pc ls ([] : List Value)).monitorRoom + ((st.map (zz_tr G)).map fun v => v.category).sum ≤ 8 := by
    rw [zz_cats]
    show 2 * 0 + _ ≤ 8
    omega
  rw [List.map_append, List.map_cons, zz_ref hRep ho, List.map_reverse]
  have hrec : ∃ cellB : Cell, H[G.1 + o]? = some cellB ∧ cellB.vm.isStatics = false ∧ s.vm.findClass y.cls = some cellB.cls := by
    have h := va_recv (zz_K0 hK) (zz_one (hRep.1 o _ ho)) (ci := ci) (q0 := 0) hcl rfl
    rw [hyc] at h
    exact h
  have eas : ((Value.ref o :: as).map (zz_tr G)) = Value.ref (G.1 + o) :: as.map (zz_tr G) := by rw [List.map_cons, zz_ref hRep ho]
  rw [eas] at hpre
  have hT : GoodIn zz_T (wsV own idx y.cls y (.code y bytes mL rt :: zz_T)) := by
    intro w hw
    unfold wsV at hw
    rcases List.mem_append.mp hw with h | h
    · simp only [List.mem_cons, List.not_mem_nil, or_false] at h
      rcases h with rfl | rfl | rfl | rfl
      · exact zz_goodT _ hlk
      · exact zz_goodT _ hin
      · exact zz_goodT _ hse
      · exact zz_goodT _ hm.2.1
    · exact hgood w h
  have hrun := va_runV (l := l) (e := e) (R := R) (locs := locs) (below := below) (meth := meth) (cells := cells) (slots := slots) (g := F0 m pc ls ((as.map (zz_tr G)).reverse ++ Value.ref (G.1 + o) :: st.map (zz_tr G))) ⟨hx, hb, hml, hown, hts⟩ hMet (cwV n hts hT rfl rfl rfl ⟨rfl, hm.2.2.1⟩ ⟨by show dc + 1 ≤ _; omega, hlo⟩) ⟨hpre.1, hrec, hpre.2⟩ rfl (by rw [List.length_map]; exact hn) hl.1 rfl h8' hd ⟨by omega, by omega⟩
  refine zz_after hrun hS (fun H1 locs1 hRep1 hS1 => ?_)
  have h3 := kk hlen H1 locs1 ls (cells + (fc.2.1.length - sh.length)) (slots + (zz_sl fc.2.1 - zz_sl sh)) hRep1 hS1 hl (by omega) (by omega)
  rw [List.map_append] at h3
  have e9 : fc.1.toList.map (zz_tr G) = (fc.1.map (zz_tr G)).toList := by cases fc.1 <;> rfl
  rw [e9] at h3
  exact h3
theorem zz_callS (C : zz_Cx G l own nm cc nL ret d fin Z) {idx : Nat} (hlk : Cond.methodLink own idx y ∈ zz_T) (hstt : Cond.static y ∈ zz_T) (hM : zz_M G l dc y bytes mL rt as sh σ fc) (hm : zz_MC y bytes mL rt n) (hn : as.length = n) (hdd : dc + 1 ≤ d) (hg1 : fc.2.1.length ≤ fin.2.1.length) (hg2 : zz_sl fc.2.1 ≤ zz_sl fin.2.1) (h8 : (st.map fun v => v.category).sum ≤ 8) (hd : decode cc pc = .ok (.invokestatic idx, 3)) (kk : Z (pc + 3) lo (fc.1.toList ++ st) fc.2.1 fc.2.2) {st0 : List Value} (hst : st0 = as.reverse ++ st) : Z pc lo st0 sh σ := by
  obtain ⟨⟨p, e, R, s, m, args, below, meth, c, Q, k0, n0, rfl, ⟨hx, hb, hml, hown, hts⟩, hnm, hX, hK, hz, hR1, hR2, hR3, hR4⟩, hret⟩ := C
  intro hlen H locs ls cells slots hRep hS hl hc hs
  obtain ⟨gw1, gw2, hMet⟩ := hM
  have hgood := zz_goodM hm
  subst hst
  have hlo : 8 + (mL + 11) + 64 * dc ≤ R.locals := by have := hm.2.2.2; omega
  have hpre := zz_preS (as := as) hX hK hz hRep hS
  have h8' : 2 * (F0 m pc ls ([] : List Value)).monitorRoom + ((st.map (zz_tr G)).map fun v => v.category).sum ≤ 8 := by
    rw [zz_cats]
    show 2 * 0 + _ ≤ 8
    omega
  rw [List.map_append, List.map_reverse]
  have hcb := callB_of (own := own) (index := idx) (R := R) (s := s) (args := args) n hts hgood rfl rfl rfl (hts _ hm.2.1) (hts _ hlk) hm.2.2.1 (rm := zz_rm dc (fc.2.1.length - sh.length) (zz_sl fc.2.1 - zz_sl sh)) ⟨by show dc + 1 ≤ _; omega, hlo⟩
  have hrun := va_runS (l := l) (e := e) (R := R) (locs := locs) (below := below) (meth := meth) (cells := cells) (slots := slots) (g := F0 m pc ls ((as.map (zz_tr G)).reverse ++ st.map (zz_tr G))) ⟨hx, hb, hml, hown, hts⟩ hMet ⟨hcb, hts _ hstt⟩ hpre rfl (by rw [List.length_map]; exact hn) hl.1 rfl h8' hd ⟨by omega, by omega⟩
  refine zz_after hrun hS (fun H1 locs1 hRep1 hS1 => ?_)
  have h3 := kk hlen H1 locs1 ls (cells + (fc.2.1.length - sh.length)) (slots + (zz_sl fc.2.1 - zz_sl sh)) hRep1 hS1 hl (by omega) (by omega)
  rw [List.map_append] at h3
  have e9 : fc.1.toList.map (zz_tr G) = (fc.1.map (zz_tr G)).toList := by cases fc.1 <;> rfl
  rw [e9] at h3
  exact h3
theorem zz_callSN (C : zz_Cx G l own nm cc nL ret d fin Z) {idx : Nat} {host : String} (hlk : Cond.methodLinkNest own idx y host ∈ zz_nst) (hstt : Cond.static y ∈ zz_T) (hM : zz_M G l dc y bytes mL rt as sh σ fc) (hm : zz_MC y bytes mL rt n) (hn : as.length = n) (hdd : dc + 1 ≤ d) (hg1 : fc.2.1.length ≤ fin.2.1.length) (hg2 : zz_sl fc.2.1 ≤ zz_sl fin.2.1) (h8 : (st.map fun v => v.category).sum ≤ 8) (hd : decode cc pc = .ok (.invokestatic idx, 3)) (kk : Z (pc + 3) lo (fc.1.toList ++ st) fc.2.1 fc.2.2) {st0 : List Value} (hst : st0 = as.reverse ++ st) : Z pc lo st0 sh σ := by
  obtain ⟨⟨p, e, R, s, m, args, below, meth, c, Q, k0, n0, rfl, ⟨hx, hb, hml, hown, hts⟩, hnm, hX, hK, hz, hR1, hR2, hR3, hR4⟩, hret⟩ := C
  intro hlen H locs ls cells slots hRep hS hl hc hs
  obtain ⟨gw1, gw2, hMet⟩ := hM
  have hgood := zz_goodM hm
  subst hst
  have hlo : 8 + (mL + 11) + 64 * dc ≤ R.locals := by have := hm.2.2.2; omega
  have hpre := zz_preS (as := as) hX hK hz hRep hS
  have h8' : 2 * (F0 m pc ls ([] : List Value)).monitorRoom + ((st.map (zz_tr G)).map fun v => v.category).sum ≤ 8 := by
    rw [zz_cats]
    show 2 * 0 + _ ≤ 8
    omega
  rw [List.map_append, List.map_reverse]
  have hcb := va_cnB (own := own) (host := host) (index := idx) (R := R) (s := s) (args := args) n hts hgood rfl rfl rfl (hX.1 _ hlk) (hts _ hm.2.1) hm.2.2.1 (rm := zz_rm dc (fc.2.1.length - sh.length) (zz_sl fc.2.1 - zz_sl sh)) ⟨by show dc + 1 ≤ _; omega, hlo⟩
  have hrun := va_runSN (l := l) (e := e) (R := R) (locs := locs) (below := below) (meth := meth) (cells := cells) (slots := slots) (g := F0 m pc ls ((as.map (zz_tr G)).reverse ++ st.map (zz_tr G))) ⟨hx, hb, hml, hown, hts⟩ hMet ⟨hcb, hts _ hstt, trivial⟩ hpre rfl (by rw [List.length_map]; exact hn) hl.1 rfl h8' hd ⟨by omega, by omega⟩
  refine zz_after hrun hS (fun H1 locs1 hRep1 hS1 => ?_)
  have h3 := kk hlen H1 locs1 ls (cells + (fc.2.1.length - sh.length)) (slots + (zz_sl fc.2.1 - zz_sl sh)) hRep1 hS1 hl (by omega) (by omega)
  rw [List.map_append] at h3
  have e9 : fc.1.toList.map (zz_tr G) = (fc.1.map (zz_tr G)).toList := by cases fc.1 <;> rfl
  rw [e9] at h3
  exact h3
theorem zz_callI (C : zz_Cx G l own nm cc nL ret d fin Z) {idx : Nat} {o : Nat} {c0 : zz_Sh} (ho : sh[o]? = some c0) (hlk : Cond.methodLink own idx y ∈ zz_T) (hin : Cond.instanceMethod y ∈ zz_T) (hyi : y.name = "<init>") (hrt : rt = none) (hM : zz_M G l dc y bytes mL rt (.ref o :: as) sh σ fc) (hm : zz_MC y bytes mL rt n) (hn : as.length = n) (hdd : dc + 1 ≤ d) (hg1 : fc.2.1.length ≤ fin.2.1.length) (hg2 : zz_sl fc.2.1 ≤ zz_sl fin.2.1) (h8 : (st.map fun v => v.category).sum ≤ 8) (hd : decode cc pc = .ok (.invokespecial idx, 3)) (kk : Z (pc + 3) lo (fc.1.toList ++ st) fc.2.1 fc.2.2) {st0 : List Value} (hst : st0 = as.reverse ++ .ref o :: st) : Z pc lo st0 sh σ := by
  obtain ⟨⟨p, e, R, s, m, args, below, meth, c, Q, k0, n0, rfl, ⟨hx, hb, hml, hown, hts⟩, hnm, hX, hK, hz, hR1, hR2, hR3, hR4⟩, hret⟩ := C
  intro hlen H locs ls cells slots hRep hS hl hc hs
  obtain ⟨gw1, gw2, hMet⟩ := hM
  have hgood := zz_goodM hm
  subst hst
  have hlo : 8 + (mL + 11) + 64 * dc ≤ R.locals := by have := hm.2.2.2; omega
  have hpre := zz_preS (as := (.ref o :: as)) hX hK hz hRep hS
  have h8' : 2 * (F0 m pc ls ([] : List Value)).monitorRoom + ((st.map (zz_tr G)).map fun v => v.category).sum ≤ 8 := by
    rw [zz_cats]
    show 2 * 0 + _ ≤ 8
    omega
  subst hrt
  rw [List.map_append, List.map_cons, zz_ref hRep ho, List.map_reverse]
  have eas : ((Value.ref o :: as).map (zz_tr G)) = Value.ref (G.1 + o) :: as.map (zz_tr G) := by rw [List.map_cons, zz_ref hRep ho]
  rw [eas] at hpre
  have hcb := callB_of (own := own) (index := idx) (R := R) (s := s) (args := args) n hts hgood rfl rfl rfl (hts _ hm.2.1) (hts _ hlk) hm.2.2.1 (rm := zz_rm dc (fc.2.1.length - sh.length) (zz_sl fc.2.1 - zz_sl sh)) ⟨by show dc + 1 ≤ _; omega, hlo⟩
  have hrun := va_runI (l := l) (e := e) (R := R) (locs := locs) (below := below) (meth := meth) (cells := cells) (slots := slots) (g := F0 m pc ls ((as.map (zz_tr G)).reverse ++ Value.ref (G.1 + o) :: st.map (zz_tr G))) ⟨hx, hb, hml, hown, hts⟩ hMet ⟨hcb, hyi, hts _ hin⟩ hpre rfl (by rw [List.length_map]; exact hn) hl.1 rfl h8' hd ⟨by omega, by omega⟩
  refine zz_after hrun hS (fun H1 locs1 hRep1 hS1 => ?_)
  have h3 := kk hlen H1 locs1 ls (cells + (fc.2.1.length - sh.length)) (slots + (zz_sl fc.2.1 - zz_sl sh)) hRep1 hS1 hl (by omega) (by omega)
  rw [List.map_append] at h3
  have e9 : fc.1.toList.map (zz_tr G) = (fc.1.map (zz_tr G)).toList := by cases fc.1 <;> rfl
  rw [e9] at h3
  exact h3
theorem zz_callIN (C : zz_Cx G l own nm cc nL ret d fin Z) {idx : Nat} {o : Nat} {c0 : zz_Sh} (ho : sh[o]? = some c0) {host : String} (hlk : Cond.methodLinkNest own idx y host ∈ zz_nst) (hin : Cond.instanceMethod y ∈ zz_T) (hyi : y.name = "<init>") (hrt : rt = none) (hM : zz_M G l dc y bytes mL rt (.ref o :: as) sh σ fc) (hm : zz_MC y bytes mL rt n) (hn : as.length = n) (hdd : dc + 1 ≤ d) (hg1 : fc.2.1.length ≤ fin.2.1.length) (hg2 : zz_sl fc.2.1 ≤ zz_sl fin.2.1) (h8 : (st.map fun v => v.category).sum ≤ 8) (hd : decode cc pc = .ok (.invokespecial idx, 3)) (kk : Z (pc + 3) lo (fc.1.toList ++ st) fc.2.1 fc.2.2) {st0 : List Value} (hst : st0 = as.reverse ++ .ref o :: st) : Z pc lo st0 sh σ := by
  obtain ⟨⟨p, e, R, s, m, args, below, meth, c, Q, k0, n0, rfl, ⟨hx, hb, hml, hown, hts⟩, hnm, hX, hK, hz, hR1, hR2, hR3, hR4⟩, hret⟩ := C
  intro hlen H locs ls cells slots hRep hS hl hc hs
  obtain ⟨gw1, gw2, hMet⟩ := hM
  have hgood := zz_goodM hm
  subst hst
  have hlo : 8 + (mL + 11) + 64 * dc ≤ R.locals := by have := hm.2.2.2; omega
  have hpre := zz_preS (as := (.ref o :: as)) hX hK hz hRep hS
  have h8' : 2 * (F0 m pc ls ([] : List Value)).monitorRoom + ((st.map (zz_tr G)).map fun v => v.category).sum ≤ 8 := by
    rw [zz_cats]
    show 2 * 0 + _ ≤ 8
    omega
  subst hrt
  rw [List.map_append, List.map_cons, zz_ref hRep ho, List.map_reverse]
  have eas : ((Value.ref o :: as).map (zz_tr G)) = Value.ref (G.1 + o) :: as.map (zz_tr G) := by rw [List.map_cons, zz_ref hRep ho]
  rw [eas] at hpre
  have hcb := va_cnB (own := own) (host := host) (index := idx) (R := R) (s := s) (args := args) n hts hgood rfl rfl rfl (hX.1 _ hlk) (hts _ hm.2.1) hm.2.2.1 (rm := zz_rm dc (fc.2.1.length - sh.length) (zz_sl fc.2.1 - zz_sl sh)) ⟨by show dc + 1 ≤ _; omega, hlo⟩
  have hrun := va_runIN (l := l) (e := e) (R := R) (locs := locs) (below := below) (meth := meth) (cells := cells) (slots := slots) (g := F0 m pc ls ((as.map (zz_tr G)).reverse ++ Value.ref (G.1 + o) :: st.map (zz_tr G))) ⟨hx, hb, hml, hown, hts⟩ hMet ⟨hcb, hyi, hts _ hin⟩ hpre rfl (by rw [List.length_map]; exact hn) hl.1 rfl h8' hd ⟨by omega, by omega⟩
  refine zz_after hrun hS (fun H1 locs1 hRep1 hS1 => ?_)
  have h3 := kk hlen H1 locs1 ls (cells + (fc.2.1.length - sh.length)) (slots + (zz_sl fc.2.1 - zz_sl sh)) hRep1 hS1 hl (by omega) (by omega)
  rw [List.map_append] at h3
  have e9 : fc.1.toList.map (zz_tr G) = (fc.1.map (zz_tr G)).toList := by cases fc.1 <;> rfl
  rw [e9] at h3
  exact h3
theorem zz_callX (C : zz_Cx G l own nm cc nL ret d fin Z) {idx : Nat} {i : Nat} (hi : i < 6) (hyc : y.cls = "java/lang/String") (hlk : Cond.methodLink own idx y ∈ zz_T) (hin : Cond.instanceMethod y ∈ zz_T) (hse : Cond.selects y.cls y y ∈ zz_T) (hM : zz_M G l dc y bytes mL rt (.ref (1300 + i) :: as) sh σ fc) (hm : zz_MC y bytes mL rt n) (hn : as.length = n) (hdd : dc + 1 ≤ d) (hg1 : fc.2.1.length ≤ fin.2.1.length) (hg2 : zz_sl fc.2.1 ≤ zz_sl fin.2.1) (h8 : (st.map fun v => v.category).sum ≤ 8) (hd : decode cc pc = .ok (.invokevirtual idx, 3)) (kk : Z (pc + 3) lo (fc.1.toList ++ st) fc.2.1 fc.2.2) {st0 : List Value} (hst : st0 = as.reverse ++ .ref (1300 + i) :: st) : Z pc lo st0 sh σ := by
  obtain ⟨⟨p, e, R, s, m, args, below, meth, c, Q, k0, n0, rfl, ⟨hx, hb, hml, hown, hts⟩, hnm, hX, hK, hz, hR1, hR2, hR3, hR4⟩, hret⟩ := C
  intro hlen H locs ls cells slots hRep hS hl hc hs
  obtain ⟨gw1, gw2, hMet⟩ := hM
  have hgood := zz_goodM hm
  subst hst
  have hlo : 8 + (mL + 11) + 64 * dc ≤ R.locals := by have := hm.2.2.2; omega
  have hpre := zz_preS (as := (.ref (1300 + i) :: as)) hX hK hz hRep hS
  have h8' : 2 * (F0 m pc ls ([] : List Value)).monitorRoom + ((st.map (zz_tr G)).map fun v => v.category).sum ≤ 8 := by
    rw [zz_cats]
    show 2 * 0 + _ ≤ 8
    omega
  rw [List.map_append, List.map_cons, List.map_reverse]
  have hrec : ∃ cellB : Cell, H[zz_ad G (1300 + i)]? = some cellB ∧ cellB.vm.isStatics = false ∧ s.vm.findClass y.cls = some cellB.cls := by
    rw [hyc]
    exact vk_recv (adK := fun i => zz_ad G (1300 + i)) (i := i) hX.2.2.2.2.1 hi hS
  rw [List.map_cons] at hpre
  have hT : GoodIn zz_T (wsV own idx y.cls y (.code y bytes mL rt :: zz_T)) := by
    intro w hw
    unfold wsV at hw
    rcases List.mem_append.mp hw with h | h
    · simp only [List.mem_cons, List.not_mem_nil, or_false] at h
      rcases h with rfl | rfl | rfl | rfl
      · exact zz_goodT _ hlk
      · exact zz_goodT _ hin
      · exact zz_goodT _ hse
      · exact zz_goodT _ hm.2.1
    · exact hgood w h
  have hrun := va_runV (l := l) (e := e) (R := R) (locs := locs) (below := below) (meth := meth) (cells := cells) (slots := slots) (g := F0 m pc ls ((as.map (zz_tr G)).reverse ++ Value.ref (zz_ad G (1300 + i)) :: st.map (zz_tr G))) ⟨hx, hb, hml, hown, hts⟩ hMet (cwV n hts hT rfl rfl rfl ⟨rfl, hm.2.2.1⟩ ⟨by show dc + 1 ≤ _; omega, hlo⟩) ⟨hpre.1, hrec, hpre.2⟩ rfl (by rw [List.length_map]; exact hn) hl.1 rfl h8' hd ⟨by omega, by omega⟩
  refine zz_after hrun hS (fun H1 locs1 hRep1 hS1 => ?_)
  have h3 := kk hlen H1 locs1 ls (cells + (fc.2.1.length - sh.length)) (slots + (zz_sl fc.2.1 - zz_sl sh)) hRep1 hS1 hl (by omega) (by omega)
  rw [List.map_append] at h3
  have e9 : fc.1.toList.map (zz_tr G) = (fc.1.map (zz_tr G)).toList := by cases fc.1 <;> rfl
  rw [e9] at h3
  exact h3
theorem zz_obj (C : zz_Cx G l own nm cc nL ret d fin Z) {idx o : Nat} (hlk : Cond.methodLink own idx Lib.objectInit ∈ zz_T) (hin : Cond.instanceMethod Lib.objectInit ∈ zz_T) (hcd : Cond.code Lib.objectInit ⟨#[0xb1]⟩ 1 none ∈ zz_T) (hdd : 1 ≤ d) (h8 : (st.map fun v => v.category).sum ≤ 8) (hd : decode cc pc = .ok (.invokespecial idx, 3)) (kk : Z (pc + 3) lo st sh σ) : Z pc lo (.ref o :: st) sh σ := by
  obtain ⟨⟨p, e, R, s, m, args, below, meth, c, Q, k0, n0, rfl, ⟨hx, hb, hml, hown, hts⟩, hnm, hX, hK, hz, hR1, hR2, hR3, hR4⟩, hret⟩ := C
  intro hlen H locs ls cells slots hRep hS hl hc hs
  refine W.objInit hx hb hown (hts _ hlk) (hts _ hin) (hts _ hcd) rfl (by rw [hml]; exact hl.1) (a := zz_ad G o) (rest := st.map (zz_tr G)) rfl hd (by omega) (by rw [zz_cats]; show 2 * 0 + _ + 12 ≤ _; omega) ?_
  exact kk hlen H locs ls cells slots hRep hS hl hc hs
end ZC
