/-! A SMALL MACHINE'S STATE: numbered cells (cell o of the system lies at base + o), their shapes, and what ints and longs they hold; how it lies in the heap -/
abbrev zz_Sh : Type := (Nat × List (Option (Option Nat))) ⊕ (Nat × Nat × List (Option Nat))
abbrev zz_S : Type := (Nat → Nat → Int32) × (Nat → Nat → Int64)
abbrev zz_G : Type := Nat × va_G × (Nat → ClassId) × (Nat → Nat) × Bool
def zz_ad (G : zz_G) (o : Nat) : Nat := if o < 1000 then G.1 + o else G.2.2.2.1 o
def zz_tr (G : zz_G) (v : Value) : Value := match v with
  | .ref o => .ref (zz_ad G o)
  | v => v
def zz_A (G : zz_G) (q : Nat) : Prop := G.1 ≤ q
def zz_ty (t : Nat) : FieldType := match t with
  | 0 => .int
  | 1 => .byte
  | 2 => .short
  | 3 => .long
  | 4 => .object "OneBlanket$Text"
  | _ => .object "OneBlanket$Shelf"
def zz_fd (G : zz_G) (σ : zz_S) (o k : Nat) (f : Option (Option Nat)) : Value := match f with
  | none => .int (σ.1 o k)
  | some r => zz_tr G (va_rf r)
def zz_rw (G : zz_G) (σ : zz_S) (o t : Nat) (rs : List (Option Nat)) : (Nat → Int32) ⊕ (Nat → Int64) ⊕ (Nat → UInt32) ⊕ (Nat → UInt64) ⊕ (Nat → Option Nat) :=
  if t < 3 then .inl (σ.1 o) else if t = 3 then .inr (.inl (σ.2 o)) else .inr (.inr (.inr (.inr fun j => (rs.getD j none).map (zz_ad G))))
def zz_E (G : zz_G) (σ : zz_S) (o : Nat) (c : zz_Sh) : va_E := match c with
  | .inl (ci, fs) => .inr (ci, fs.mapIdx (fun k f => zz_fd G σ o k f))
  | .inr (t, n, rs) => .inl (G.2.2.1 t, n, zz_rw G σ o t rs)
/-- the arrays' classes, as the tables have them -/
def zz_KA (G : zz_G) (U : State) (t : Nat) : Prop := ArrOfT U (G.2.2.1 t) (zz_ty t) ∧ va_RA U (G.2.2.1 t) (zz_ty t)
def zz_Rep (G : zz_G) (U : State) (sh : List zz_Sh) (σ : zz_S) (H : Heap) : Prop :=
  (∀ (o : Nat) (c : zz_Sh), sh[o]? = some c → va_at G.2.1 zz_cl (G.1 + o, zz_E G σ o c) H) ∧ (G.2.2.2.2 = true → H.size = G.1 + sh.length) ∧ sh.length ≤ 1000 ∧ ∀ (o t n : Nat) (rs : List (Option Nat)), sh[o]? = some (.inr (t, n, rs)) → zz_KA G U t
theorem zz_KA.moved {G : zz_G} {u U : State} {t : Nat} (hvm : u.vm.Alike U.vm) (h : zz_KA G u t) : zz_KA G U t := ⟨arrOfT_moved hvm h.1, h.2.moved hvm⟩
theorem zz_Rep.moved {G : zz_G} {u U : State} {sh : List zz_Sh} {σ : zz_S} {H : Heap} (hvm : u.vm.Alike U.vm) (h : zz_Rep G u sh σ H) : zz_Rep G U sh σ H := ⟨h.1, h.2.1, h.2.2.1, fun o t n rs ho => (h.2.2.2 o t n rs ho).moved hvm⟩
/-- changes of one int, one long -/
def zz_w (σ : zz_S) (o k : Nat) (v : Int32) : zz_S := (fun a j => if a = o then (if j = k then v else σ.1 a j) else σ.1 a j, σ.2)
def zz_wl (σ : zz_S) (o k : Nat) (v : Int64) : zz_S := (σ.1, fun a j => if a = o then (if j = k then v else σ.2 a j) else σ.2 a j)
theorem zz_w_same (σ : zz_S) (o k : Nat) (v : Int32) : (zz_w σ o k v).1 o = upd (σ.1 o) k v := by funext j; simp [zz_w, upd]
theorem zz_w_ne (σ : zz_S) (o k : Nat) (v : Int32) {a : Nat} (h : a ≠ o) : (zz_w σ o k v).1 a = σ.1 a := by funext j; simp [zz_w, h]
theorem zz_wl_same (σ : zz_S) (o k : Nat) (v : Int64) : (zz_wl σ o k v).2 o = vp_updL (σ.2 o) k v := by funext j; simp [zz_wl, vp_updL]
theorem zz_wl_ne (σ : zz_S) (o k : Nat) (v : Int64) {a : Nat} (h : a ≠ o) : (zz_wl σ o k v).2 a = σ.2 a := by funext j; simp [zz_wl, h]
theorem zz_E_off {G : zz_G} {σ σ' : zz_S} {o : Nat} (h1 : σ'.1 o = σ.1 o) (h2 : σ'.2 o = σ.2 o) (c : zz_Sh) : zz_E G σ' o c = zz_E G σ o c := by
  match c with
  | .inl (ci, fs) => simp only [zz_E, zz_fd, h1]
  | .inr (t, n, rs) => simp only [zz_E, zz_rw, h1, h2]
theorem zz_lt {G : zz_G} {U : State} {sh : List zz_Sh} {σ : zz_S} {H : Heap} (h : zz_Rep G U sh σ H) {o : Nat} {c : zz_Sh} (ho : sh[o]? = some c) : o < 1000 := Nat.lt_of_lt_of_le (List.getElem?_eq_some_iff.mp ho).1 h.2.2.1
theorem zz_ad_in {G : zz_G} {o : Nat} (h : o < 1000) : zz_ad G o = G.1 + o := if_pos h
/-- a change of one cell's ints or longs, cell by cell -/
theorem zz_Rep.put {G : zz_G} {U : State} {sh : List zz_Sh} {σ σ' : zz_S} {H H1 : Heap} (h : zz_Rep G U sh σ H) {o : Nat} {c : zz_Sh} (ho : sh[o]? = some c) (e : va_at G.2.1 zz_cl (G.1 + o, zz_E G σ' o c) H1) (z : H1.size = H.size) (oq : ∀ q : Nat, q ≠ G.1 + o → H1[q]? = H[q]?)
    (h1 : ∀ a, a ≠ o → σ'.1 a = σ.1 a) (h2 : ∀ a, a ≠ o → σ'.2 a = σ.2 a) : zz_Rep G U sh σ' H1 := by
  refine ⟨fun a c' ha => ?_, fun hx => by rw [z]; exact h.2.1 hx, h.2.2.1, h.2.2.2⟩
  by_cases hao : a = o
  · subst hao
    rw [ho] at ha
    cases ha
    exact e
  · rw [zz_E_off (h1 a hao) (h2 a hao)]
    exact (h.1 a c' ha).kept (oq _ (by show G.1 + a ≠ G.1 + o; omega))
/-! what lies outside: nest mates' words, static rows, string constants -/
def zz_nst : List Cond := [.methodLinkNest "OneBlanket" 11 ⟨"OneBlanket$Bed", "<init>", "()V"⟩ "OneBlanket", .methodLinkNest "OneBlanket" 18 ⟨"OneBlanket$Turns", "<init>", "()V"⟩ "OneBlanket", .methodLinkNest "OneBlanket$Night" 11 ⟨"OneBlanket$Tally", "<init>", "()V"⟩ "OneBlanket", .methodLinkNest "OneBlanket" 47 ⟨"OneBlanket$Changes", "<init>", "()V"⟩ "OneBlanket", .methodLinkNest "OneBlanket" 54 ⟨"OneBlanket$Tape", "<init>", "()V"⟩ "OneBlanket", .methodLinkNest "OneBlanket$Tape" 11 ⟨"OneBlanket$Text", "<init>", "()V"⟩ "OneBlanket", .methodLinkNest "OneBlanket" 61 ⟨"OneBlanket$Bodies", "<init>", "()V"⟩ "OneBlanket", .methodLinkNest "OneBlanket" 83 ⟨"OneBlanket$Text", "<init>", "()V"⟩ "OneBlanket", .methodLinkNest "OneBlanket" 84 ⟨"OneBlanket$Shelf", "<init>", "()V"⟩ "OneBlanket", .methodLinkNest "OneBlanket$Turns" 24 ⟨"OneBlanket", "isMinute", "(I)Z"⟩ "OneBlanket"]
theorem zz_nst_warm {w : Cond} (hw : w ∈ zz_nst) {s U : State} (hW : s.WarmedH U.vm) (h : va_Nw w s) : va_Nw w U := by
  simp only [zz_nst, List.mem_cons, List.not_mem_nil, or_false] at hw
  rcases hw with rfl | rfl | rfl | rfl | rfl | rfl | rfl | rfl | rfl | rfl <;> exact va_Nw.warmM hW h
def zz_abv : List Int32 := [-1, 0, 0, 2, 1, 4, 0, 6]
def zz_own : List Int32 := [1, 10, 11, 2, 20, 0, 0, 0, 0, 30, 0, 0, 0, 41, 40, 0, 0, 0, 0, 50, 0, 0, 60, 61, 70, 0, 0, 0, 81, 80, 0, 0]
/-- the string constants: entry, text, which of the texts -/
def zz_str : List (String × Nat × String × Nat) := [("OneBlanket$Room", 20, "tuwksbmh", 0), ("OneBlanket$Night", 30, "tuwksbmh", 0), ("OneBlanket$Tape", 77, "tuwksbmh", 0), ("OneBlanket$Tape", 56, "|", 1), ("OneBlanket$Tape", 58, "&", 2), ("OneBlanket$Tape", 60, "<=>", 3), ("OneBlanket$Tape", 62, "+-", 4), ("OneBlanket$Tape", 64, "*/%", 5)]
def zz_sln : List Nat := [8, 1, 1, 3, 2, 3]
def zz_sby : List (List Int32) := [[116, 117, 119, 107, 115, 98, 109, 104], [124], [38], [60, 61, 62], [43, 45], [42, 47, 37]]
def zz_X (G : zz_G) (U : State) (H : Heap) : Prop :=
  (∀ w ∈ zz_nst, va_Nw w U) ∧
  (va_Z "OneBlanket$Bodies" "ABOVE" "[I" (.ref (zz_ad G 1200)) (zz_A G) U H ∧ va_T .int (zz_ad G 1200) 8 (fun j => .int (zz_abv.getD j 0)) (zz_A G) U H) ∧
  (va_Z "OneBlanket$Bodies" "OWN" "[I" (.ref (zz_ad G 1201)) (zz_A G) U H ∧ va_T .int (zz_ad G 1201) 32 (fun j => .int (zz_own.getD j 0)) (zz_A G) U H) ∧
  va_Z "java/lang/String" "COMPACT_STRINGS" "Z" (.int 1) (zz_A G) U H ∧
  vk_S 6 zz_sln zz_sby (fun i => zz_ad G (1300 + i)) (fun i => zz_ad G (1400 + i)) (zz_A G) U H ∧
  (∀ q ∈ zz_str, vk_R q.1 q.2.1 q.2.2.1 (zz_ad G (1300 + q.2.2.2)) U) ∧
  (∀ (t : Nat) (cA : ClassId), U.vm.findClass ("[" ++ (zz_ty t).toString) = some cA → cA = G.2.2.1 t) ∧ ∀ Cn, Cn = "OneBlanket$Text" ∨ Cn = "OneBlanket$Shelf" → va_AO Cn U
theorem zz_X.go {G : zz_G} {s U : State} {H0 H : Heap} (h : zz_X G s H0) (hW : s.WarmedH U.vm) (hq : ∀ a : Nat, a < H0.size → ¬ zz_A G a → H[a]? = H0[a]?) : zz_X G U H := by
  obtain ⟨h1, ⟨h2, h3⟩, ⟨h4, h5⟩, h6, h7, h8, h9, h10⟩ := h
  have hvm := hW.alike
  exact ⟨fun w hw => zz_nst_warm hw hW (h1 w hw), ⟨(h2.moved hvm).kept hq, (h3.moved hvm).kept hq⟩, ⟨(h4.moved hvm).kept hq, (h5.moved hvm).kept hq⟩, (h6.moved hvm).kept hq, (h7.moved hvm).kept hq, fun q hq => (h8 q hq).warm hW, fun t cA h => h9 t cA (by rw [← hvm.findClass]; exact h), fun Cn h => (h10 Cn h).moved hvm⟩
/-! locals: a list with holes -/
def zz_lv (G : zz_G) (lo : List (Option Value)) : List (Nat × Value) := (List.range lo.length).filterMap (fun i => (lo.getD i none).map (fun v => (i, zz_tr G v)))
theorem zz_cat (G : zz_G) (v : Value) : (zz_tr G v).category = v.category := by cases v <;> rfl
theorem zz_cats (G : zz_G) (st : List Value) : ((st.map (zz_tr G)).map fun v => v.category).sum = (st.map fun v => v.category).sum := by
  rw [List.map_map]
  congr 1
  exact List.map_congr_left fun v _ => zz_cat G v
theorem zz_lv_mem {G : zz_G} {lo : List (Option Value)} {i : Nat} {w : Value} : (i, w) ∈ zz_lv G lo ↔ ∃ v, lo[i]? = some (some v) ∧ w = zz_tr G v := by
  unfold zz_lv
  rw [List.mem_filterMap]
  constructor
  · rintro ⟨a, ha, h⟩
    cases hv : lo.getD a none with
    | none => rw [hv] at h; cases h
    | some v =>
      rw [hv] at h
      cases h
      refine ⟨v, ?_, rfl⟩
      rw [List.getD_eq_getElem?_getD] at hv
      cases h2 : lo[i]? with
      | none => rw [h2] at hv; cases hv
      | some z => rw [h2] at hv; exact congrArg some hv
  · rintro ⟨v, hv, rfl⟩
    refine ⟨i, List.mem_range.mpr (List.getElem?_eq_some_iff.mp hv).1, ?_⟩
    rw [List.getD_eq_getElem?_getD, hv]
    rfl
theorem zz_lv_at {G : zz_G} {ls : Array Slot} {nL : Nat} {lo : List (Option Value)} (h : lv_has ls nL (zz_lv G lo)) {i : Nat} {v : Value} (hi : lo[i]? = some (some v)) : ls[i]? = some (.val (zz_tr G v)) := h.2.2 (i, zz_tr G v) (zz_lv_mem.mpr ⟨v, hi, rfl⟩)
theorem zz_lv_sub {G : zz_G} {ls : Array Slot} {nL : Nat} {l : List (Nat × Value)} {lo : List (Option Value)} (h : lv_has ls nL l) (hs : ∀ q ∈ zz_lv G lo, q ∈ l) : lv_has ls nL (zz_lv G lo) := ⟨h.1, h.2.1, fun q hq => h.2.2 q (hs q hq)⟩
/-- no long stands just ahead of place i -/
def zz_ok1 (lo : List (Option Value)) (i : Nat) : Bool := match i with
  | 0 => true
  | i + 1 => match lo.getD i none with
    | some (.long _) => false
    | some (.double _) => false
    | _ => true
theorem zz_ok1_spec {lo : List (Option Value)} {i j : Nat} {v : Value} (h : zz_ok1 lo i = true) (hj : lo[j]? = some (some v)) (hji : j + 1 = i) : ¬ v.category = 2 := by
  subst hji
  have : lo.getD j none = some v := by rw [List.getD_eq_getElem?_getD, hj]; rfl
  unfold zz_ok1 at h
  simp only [this] at h
  cases v <;> first | (simp [Value.category]; done) | (exact absurd h (by simp)) | (cases h)
theorem zz_set1 {G : zz_G} {lo : List (Option Value)} {i : Nat} {v : Value} (hi : i < lo.length) (h : zz_ok1 lo i = true) : ∀ q ∈ zz_lv G (lo.set i (some v)), q ∈ (i, zz_tr G v) :: (zz_lv G lo).filter (fun q => !(q.1 == i) && !(q.1 + 1 == i && q.2.category == 2)) := by
  rintro ⟨j, w⟩ hq
  obtain ⟨u, hu, rfl⟩ := zz_lv_mem.mp hq
  by_cases hji : j = i
  · subst hji
    rw [List.getElem?_set_self hi] at hu
    cases hu
    exact List.mem_cons_self
  · rw [List.getElem?_set_ne (Ne.symm hji)] at hu
    refine List.mem_cons_of_mem _ (List.mem_filter.mpr ⟨zz_lv_mem.mpr ⟨u, hu, rfl⟩, ?_⟩)
    have h2 : j + 1 = i → ¬ u.category = 2 := zz_ok1_spec h hu
    simp only [zz_cat, Bool.and_eq_true, Bool.not_eq_true', beq_eq_false_iff_ne, ne_eq, Bool.and_eq_false_iff]
    refine ⟨hji, ?_⟩
    by_cases h3 : j + 1 = i
    · exact Or.inr (h2 h3)
    · exact Or.inl h3
theorem zz_set2 {G : zz_G} {lo : List (Option Value)} {i : Nat} {v : Value} (hi : i < lo.length) (h : zz_ok1 lo i = true) : ∀ q ∈ zz_lv G ((lo.set i (some v)).set (i + 1) none), q ∈ (i, zz_tr G v) :: (zz_lv G lo).filter (fun q => !(q.1 == i) && (!(q.1 == i + 1) && !(q.1 + 1 == i && q.2.category == 2))) := by
  rintro ⟨j, w⟩ hq
  obtain ⟨u, hu, rfl⟩ := zz_lv_mem.mp hq
  by_cases hj1 : j = i + 1
  · subst hj1
    by_cases hl : i + 1 < lo.length
    · rw [List.getElem?_set_self (by rw [List.length_set]; exact hl)] at hu
      cases hu
    · rw [List.getElem?_eq_none (by rw [List.length_set, List.length_set]; omega)] at hu
      cases hu
  · rw [List.getElem?_set_ne (Ne.symm hj1)] at hu
    by_cases hji : j = i
    · subst hji
      rw [List.getElem?_set_self hi] at hu
      cases hu
      exact List.mem_cons_self
    · rw [List.getElem?_set_ne (Ne.symm hji)] at hu
      refine List.mem_cons_of_mem _ (List.mem_filter.mpr ⟨zz_lv_mem.mpr ⟨u, hu, rfl⟩, ?_⟩)
      have h2 : j + 1 = i → ¬ u.category = 2 := zz_ok1_spec h hu
      simp only [zz_cat, Bool.and_eq_true, Bool.not_eq_true', beq_eq_false_iff_ne, ne_eq, Bool.and_eq_false_iff]
      refine ⟨hji, hj1, ?_⟩
      by_cases h3 : j + 1 = i
      · exact Or.inr (h2 h3)
      · exact Or.inl h3
/-! the judgement: from this place with these locals, this stack and this state of the small machine the goal is reached -/
def zz_cs (c : zz_Sh) : Nat := match c with
  | .inl (ci, _) => zz_N ci
  | .inr (_, n, _) => n
def zz_sl (sh : List zz_Sh) : Nat := (sh.map zz_cs).sum
abbrev zz_Z : Type := Nat → List (Option Value) → List Value → List zz_Sh → zz_S → Prop
def zz_W (G : zz_G) (p : Program) (l : Launch) (e : Env) (R : Room) (s : State) (m : MethodId) (args : Array Value) (below : List Frame) (meth : Method) (c : Code) (Q : State → Prop) (nL k0 n0 : Nat) : zz_Z := fun pc lo st sh σ =>
  lo.length = nL → ∀ (H : Heap) (locs : List Loc) (ls : Array Slot) (cells slots : Nat), zz_Rep G s sh σ H → va_S (zz_A G) s.heap H locs → lv_has ls nL (zz_lv G lo) → cells + k0 = sh.length → slots + n0 = zz_sl sh →
    W p l e R s m args below meth c H locs cells slots Q (F0 m pc ls (st.map (zz_tr G)))
abbrev zz_Fin : Type := Option Value × List zz_Sh × zz_S
def zz_rok (I : Instr) (ret : Option FieldType) (v : Option Value) : Prop :=
  (∃ (x : Int32) (ty : FieldType), I = .ireturn ∧ v = some (.int x) ∧ ret = some ty ∧ narrow ty (.int x) = .int x) ∨ (∃ x : Int64, I = .lreturn ∧ v = some (.long x) ∧ ret = some .long) ∨
  (∃ (o : Nat) (rt : FieldType), I = .areturn ∧ v = some (.ref o) ∧ ret = some rt ∧ ((∃ n, rt = .object n) ∨ ∃ t, rt = .array t)) ∨ (I = .return_ ∧ v = none ∧ ret = none)
/-- what every instruction of a method may use -/
def zz_Ok (G : zz_G) (p : Program) (e : Env) (R : Room) (s : State) (m : MethodId) (args : Array Value) (meth : Method) (c : Code) (k0 n0 : Nat) (own nm : String) (cc : ByteArray) (nL d : Nat) (fin : zz_Fin) : Prop :=
  (p.tables.exec = Jvm.exec ∧ c.code = cc ∧ c.maxLocals = nL ∧ s.vm.findClass own = some m.cls ∧ ∀ w ∈ zz_T, w.before args s = true) ∧ meth.name = nm ∧ zz_X G s s.heap ∧
  (∀ (c : Nat) (q : vw_C), zz_cl[c]? = some q → u_Kn s q.1 q.2.1 q.2.2 (G.2.1.1 c) (G.2.1.2 c)) ∧ G.1 ≤ s.heap.size ∧ d ≤ R.frames ∧ 64 * d ≤ R.locals ∧ fin.2.1.length ≤ R.cells + k0 ∧ zz_sl fin.2.1 ≤ R.slots + n0
def zz_Cx (G : zz_G) (l : Launch) (own nm : String) (cc : ByteArray) (nL : Nat) (ret : Option FieldType) (d : Nat) (fin : zz_Fin) (Z : zz_Z) : Prop :=
  (∃ (p : Program) (e : Env) (R : Room) (s : State) (m : MethodId) (args : Array Value) (below : List Frame) (meth : Method) (c : Code) (Q : State → Prop) (k0 n0 : Nat), Z = zz_W G p l e R s m args below meth c Q nL k0 n0 ∧ zz_Ok G p e R s m args meth c k0 n0 own nm cc nL d fin) ∧
  ∀ (pc : Nat) (lo : List (Option Value)) (v : Option Value) (I : Instr), decode cc pc = .ok (I, 1) → zz_rok I ret v → fin.1 = v → Z pc lo v.toList fin.2.1 fin.2.2
/-! contracts -/
def zz_Pc (G : zz_G) (as : List Value) (sh : List zz_Sh) (σ : zz_S) : Array Value → State → Prop := fun a U =>
  a = (as.map (zz_tr G)).toArray ∧ zz_Rep G U sh σ U.heap ∧ (∀ (c : Nat) (q : vw_C), zz_cl[c]? = some q → u_Kn U q.1 q.2.1 q.2.2 (G.2.1.1 c) (G.2.1.2 c)) ∧ zz_X G U U.heap ∧ G.1 ≤ U.heap.size
def zz_Qc (G : zz_G) (fin : zz_Fin) : Array Value → State → Outcome → State → Prop := fun _ st o t => o = .returned (fin.1.map (zz_tr G)) ∧ zz_Rep G t fin.2.1 fin.2.2 t.heap ∧ va_F (zz_A G) st t
def zz_rm (d k n : Nat) : Room := { frames := d, cells := k, slots := n, locals := 64 * d }
def zz_M (G : zz_G) (l : Launch) (d : Nat) (y : MethodName) (cc : ByteArray) (nL : Nat) (ret : Option FieldType) (as : List Value) (sh : List zz_Sh) (σ : zz_S) (fin : zz_Fin) : Prop :=
  sh.length ≤ fin.2.1.length ∧ zz_sl sh ≤ zz_sl fin.2.1 ∧ Met l y (.code y cc nL ret :: zz_T) (zz_rm d (fin.2.1.length - sh.length) (zz_sl fin.2.1 - zz_sl sh)) (zz_Pc G as sh σ) (zz_Qc G fin) (fin.2.1.length - sh.length) (zz_sl fin.2.1 - zz_sl sh) (zz_A G)
theorem zz_nst_same {w : Cond} (hw : w ∈ zz_nst) {s U : State} (hv : s.vm = U.vm) (h : va_Nw w s) : va_Nw w U := by
  simp only [zz_nst, List.mem_cons, List.not_mem_nil, or_false] at hw
  rcases hw with rfl | rfl | rfl | rfl | rfl | rfl | rfl | rfl | rfl | rfl <;> exact va_Nw.same rfl hv h
theorem zz_X.same {G : zz_G} {s U : State} {H : Heap} (h : zz_X G s H) (hv : s.vm = U.vm) : zz_X G U H := by
  obtain ⟨h1, ⟨h2, h3⟩, ⟨h4, h5⟩, h6, h7, h8, h9, h10⟩ := h
  have hvm : s.vm.Alike U.vm := by rw [hv]; exact Vm.Alike.refl _
  exact ⟨fun w hw => zz_nst_same hw hv (h1 w hw), ⟨h2.moved hvm, h3.moved hvm⟩, ⟨h4.moved hvm, h5.moved hvm⟩, h6.moved hvm, h7.moved hvm, fun q hq => (h8 q hq).same hv.symm, fun t cA h => h9 t cA (by rw [hv]; exact h), fun Cn h => (h10 Cn h).moved hvm⟩
theorem zz_blind (G : zz_G) (as : List Value) (sh : List zz_Sh) (σ : zz_S) : FrameBlind (zz_Pc G as sh σ) := by
  rintro a U g mk ⟨h1, h2, h3, h4, h5⟩
  have hvm : U.vm.Alike (U.calling g mk a).vm := Vm.Alike.refl U.vm
  exact ⟨h1, h2.moved hvm, fun c q hq => u_Kn_moved hvm (h3 c q hq), h4.same rfl, h5⟩
theorem zz_preS {G : zz_G} {s : State} {H : Heap} {locs : List Loc} {as : List Value} {sh : List zz_Sh} {σ : zz_S} (hX : zz_X G s s.heap) (hK : ∀ (c : Nat) (q : vw_C), zz_cl[c]? = some q → u_Kn s q.1 q.2.1 q.2.2 (G.2.1.1 c) (G.2.1.2 c)) (hz : G.1 ≤ s.heap.size) (hR : zz_Rep G s sh σ H) (hS : va_S (zz_A G) s.heap H locs) :
    PreS s H (zz_Pc G as sh σ) (as.map (zz_tr G)) := by
  refine ⟨zz_blind G as sh σ, fun U hU hW => ?_⟩
  have hvm := hW.alike
  exact ⟨rfl, by rw [hU]; exact hR.moved hvm, fun c q hq => u_Kn_moved hvm (hK c q hq), by rw [hU]; exact hX.go hW hS.2.1, by rw [hU]; exact Nat.le_trans hz hS.1⟩
section ZZ
variable {p : Program} {l : Launch} {e : Env} {R : Room} {s : State} {m : MethodId} {args : Array Value} {below : List Frame} {meth : Method} {c : Code} {H : Heap} {locs : List Loc} {cells slots : Nat} {Q : State → Prop}
theorem zz_after {G : zz_G} {fc : zz_Fin} {a : Array Value} {pc mc ms : Nat} {ls : Array Slot} {st0 rest : List Value} (hr : va_Run p l e R s m args below meth c H locs cells slots mc ms (F0 m pc ls st0) rest (zz_Qc G fc a) (zz_A G)) (hS : va_S (zz_A G) s.heap H locs)
    (kk : ∀ (H1 : Heap) (locs1 : List Loc), zz_Rep G s fc.2.1 fc.2.2 H1 → va_S (zz_A G) s.heap H1 locs1 → W p l e R s m args below meth c H1 locs1 (cells + mc) (slots + ms) Q (F0 m (pc + 3) ls ((fc.1.map (zz_tr G)).toList ++ rest))) : W p l e R s m args below meth c H locs cells slots Q (F0 m pc ls st0) := by
  intro T hT X
  obtain ⟨v, st₀, t, T', L, h0, X', hL, e1, e2, ⟨hv, hRep, hz, hk⟩, st⟩ := hr T hT X
  cases hv
  rw [h0] at hz hk
  have hvm : t.vm.Alike s.vm := by rw [← e2]; exact X'.warmed.alike.symm
  obtain ⟨t2, a1, b1⟩ := kk T'.heap (locs ++ L) (by rw [e1]; exact hRep.moved hvm) ⟨Nat.le_trans hS.1 (by rw [e1]; exact hz), fun q h1 h2 => by rw [e1, hk q (Nat.lt_of_lt_of_le h1 hS.1) h2]; exact hS.2.1 q h1 h2, fun q hq => by
      rcases List.mem_append.mp hq with h | h
      · exact hS.2.2 q h
      · exact hL q h⟩ T' rfl X'
  exact ⟨t2, st t2 a1, b1⟩
end ZZ
