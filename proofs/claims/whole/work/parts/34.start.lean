/-! THE CLAIM OUT OF ONE WALK OF THE LAW'S BODY. Your part is whole_start (and what it stands on); all else here is the same for every law, but numbers. -/
def R_law : String := "OneBlanketLaw"
def lw_P (b : Addr) (xs : List Int32) (args : Array Value) (s : State) : Prop := args = #[.ref b] ∧ s.IntsAt b xs ∧ xs.length ≤ 384 ∧ (Jvm.Cond.and given_1 narrow_1).before args s = true
def lw_Q (_ : Array Value) (s : State) (o : Outcome) (t : State) : Prop := o = .returned (some (.int 1)) ∧ Framed s o t [] 600000 7302250
def lw_Z (below : List Frame) (a : Array Value) (s : State) : State → Prop := fun t => ∃ o, t.status = .running ∧ Ended t below o ∧ lw_Q a s o t
/-- the law's own end, with 1 on the stack, nothing written that was there before, its room as the claim has it -/
theorem lw_ret {p : Program} {l : Launch} {e : Env} {s : State} {m : MethodId} {below : List Frame} {meth : Method} {c : Code} {b : Nat} (hx : p.tables.exec = Jvm.exec) (hb : c.code = code) (hr : meth.sig.returnType = ret) (hlocks : meth.locks = false) {pc : Nat} {H : Heap} {ls : Array Slot} (hdg : decode code pc = .ok (.ireturn, 1)) : W p l e room_1 s m #[Value.ref b] below meth c H [] 600000 7302250 (lw_Z below #[Value.ref b] s) (F0 m pc ls [.int 1]) := by
  intro T hT X
  obtain ⟨fs, hret, hrun, hended, hW, hframe⟩ := X.leave (v := some (.int 1)) (hlocks := hlocks) (fun h => by rw [hr] at h; cases h)
  have hmeth' : T.vm.method? m = some meth := X.method'
  refine ⟨T.setFrames fs, ?_, .returned (some (.int 1)), hrun, hended, rfl, ⟨_, rfl⟩, hW, hframe⟩
  jvm_step X.here [X.here.top, hx, hb, hdg, hmeth', hr, ret, narrow_b1]
  (try refine ⟨rfl, ?_⟩); (try refine ⟨rfl, ?_⟩)
  first | (intro acts; rw [hret _ acts rfl rfl rfl]) | rw [hret _ _ rfl rfl rfl]
  exact Steps.refl _
/-- what holds at the law's entry: the machine, the code, the tables' words (any of lw_tbl by 'hts w (by decide +kernel)'), the script of L ints xs at the cell b, what the Statement gives of the start (any of its parts by flat_of_before) -/
def lw_At (p : Program) (s : State) (m : MethodId) (meth : Method) (c : Code) (b L : Nat) (xs : Nat → Int32) : Prop :=
  p.tables.exec = Jvm.exec ∧ c.code = code ∧ meth.sig.returnType = ret ∧ c.maxLocals = 4 ∧ s.vm.findClass R_law = some m.cls ∧ (∀ w ∈ lw_tbl, w.before #[Value.ref b] s = true) ∧ va_X b L xs s s.heap ∧ b < s.heap.size ∧ meth.locks = false ∧ (Jvm.Cond.and given_1 narrow_1).before #[Value.ref b] s = true
/-- the string constants as terms -/
def zz_tm (i : Nat) : Term := match i with
  | 0 => .string "OneBlanket$Room" 20
  | 1 => .string "OneBlanket$Tape" 56
  | 2 => .string "OneBlanket$Tape" 58
  | 3 => .string "OneBlanket$Tape" 60
  | 4 => .string "OneBlanket$Tape" 62
  | _ => .string "OneBlanket$Tape" 64
def zz_axf (t1 t2 b : Nat) (adK adV : Nat → Nat) (o : Nat) : Nat := if o = 1200 then t1 else if o = 1201 then t2 else if o = 1500 then b else if o < 1400 then adK (o - 1300) else adV (o - 1400)
theorem zz_eq_ref {X Y : Term} {args : Array Value} {s : State} {a : Nat} (h : (Cond.eq X Y).before args s = true) (hx : X.eval args s none [] s = some (.ref a)) : Y.eval args s none [] s = some (.ref a) := by
  cases hv : Y.eval args s none [] s with
  | none => simp [Cond.before, Cond.holds, Cond.value, hx, hv] at h
  | some v =>
    cases v <;> simp_all [Cond.before, Cond.holds, Cond.value]
def zz_G1 (base : Nat) (D : va_G) (dA : Nat → ClassId) (ax : Nat → Nat) (ex : Bool) : zz_G := (base, D, dA, ax, ex)
theorem zz_Rep.ex {base : Nat} {D : va_G} {dA : Nat → ClassId} {ax : Nat → Nat} {ex : Bool} {U : State} {sh : List zz_Sh} {σ : zz_S} {H : Heap} (h : zz_Rep (zz_G1 base D dA ax ex) U sh σ H) : zz_Rep (zz_G1 base D dA ax false) U sh σ H := ⟨h.1, fun q => (by cases q), h.2.2.1, h.2.2.2⟩
set_option maxHeartbeats 4000000 in
set_option maxRecDepth 100000 in
theorem zz_start {p : Program} {e : Env} {s : State} {m : MethodId} {below : List Frame} {meth : Method} {c : Code} (l : Launch) {b L : Nat} {xs : Nat → Int32} (hpure : ∀ σ : zz_S, ∃ σ' : zz_S, f_Law_law_L18 L xs zF 0 (zg_142 σ) = some (1, σ')) (C0 : lw_At p s m meth c b L xs) : W p l e room_1 s m #[Value.ref b] below meth c s.heap [] 0 0 (lw_Z below #[Value.ref b] s) (entryFrame m ([Value.ref b] : List Value).toArray 4) := by
  obtain ⟨hx, hb, hr, hml, hown, hts, hX, hbl, hlocks, hgv⟩ := C0
  have hs := flat_of_before _ hgv
  have hT : ∀ w ∈ zz_T, w.before #[Value.ref b] s = true := fun w hw => hts w (zz_sub hw)
  have hA : ∀ a : Nat, a < s.heap.size → ¬ (fun q : Nat => s.heap.size ≤ q) a := fun a h => Nat.not_le.mpr h
  -- the classes
  have hcls : ∀ ci : Nat, ∃ (z : ClassId × (Nat → Nat)), ∀ q : vw_C, zz_cl[ci]? = some q → u_Kn s q.1 q.2.1 q.2.2 z.1 z.2 := by
    intro ci
    match ci with
    | 0 => obtain ⟨c1, i1, h⟩ := u_known (C := "OneBlanket$Bed") (T := zz_F 0) (N := 11) (n := zz_N 0) hT zz_ws0 (hT _ zin_0); exact ⟨(c1, i1), fun q hq => by cases hq; exact h⟩
    | 1 => obtain ⟨c1, i1, h⟩ := u_known (C := "OneBlanket$Bodies") (T := zz_F 1) (N := 4) (n := zz_N 1) hT zz_ws1 (hT _ zin_1); exact ⟨(c1, i1), fun q hq => by cases hq; exact h⟩
    | 2 => obtain ⟨c1, i1, h⟩ := u_known (C := "OneBlanket$Changes") (T := zz_F 2) (N := 6) (n := zz_N 2) hT zz_ws2 (hT _ zin_2); exact ⟨(c1, i1), fun q hq => by cases hq; exact h⟩
    | 3 => obtain ⟨c1, i1, h⟩ := u_known (C := "OneBlanket$Lie") (T := zz_F 3) (N := 7) (n := zz_N 3) hT zz_ws3 (hT _ zin_3); exact ⟨(c1, i1), fun q hq => by cases hq; exact h⟩
    | 4 => obtain ⟨c1, i1, h⟩ := u_known (C := "OneBlanket$Night") (T := zz_F 4) (N := 17) (n := zz_N 4) hT zz_ws4 (hT _ zin_4); exact ⟨(c1, i1), fun q hq => by cases hq; exact h⟩
    | 5 => obtain ⟨c1, i1, h⟩ := u_known (C := "OneBlanket$Room") (T := zz_F 5) (N := 3) (n := zz_N 5) hT zz_ws5 (hT _ zin_5); exact ⟨(c1, i1), fun q hq => by cases hq; exact h⟩
    | 6 => obtain ⟨c1, i1, h⟩ := u_known (C := "OneBlanket$Shelf") (T := zz_F 6) (N := 5) (n := zz_N 6) hT zz_ws6 (hT _ zin_6); exact ⟨(c1, i1), fun q hq => by cases hq; exact h⟩
    | 7 => obtain ⟨c1, i1, h⟩ := u_known (C := "OneBlanket$Tally") (T := zz_F 7) (N := 6) (n := zz_N 7) hT zz_ws7 (hT _ zin_7); exact ⟨(c1, i1), fun q hq => by cases hq; exact h⟩
    | 8 => obtain ⟨c1, i1, h⟩ := u_known (C := "OneBlanket$Tape") (T := zz_F 8) (N := 5) (n := zz_N 8) hT zz_ws8 (hT _ zin_8); exact ⟨(c1, i1), fun q hq => by cases hq; exact h⟩
    | 9 => obtain ⟨c1, i1, h⟩ := u_known (C := "OneBlanket$Text") (T := zz_F 9) (N := 3) (n := zz_N 9) hT zz_ws9 (hT _ zin_9); exact ⟨(c1, i1), fun q hq => by cases hq; exact h⟩
    | 10 => obtain ⟨c1, i1, h⟩ := u_known (C := "OneBlanket$Turns") (T := zz_F 10) (N := 5) (n := zz_N 10) hT zz_ws10 (hT _ zin_10); exact ⟨(c1, i1), fun q hq => by cases hq; exact h⟩
    | 11 => obtain ⟨c1, i1, h⟩ := u_known (C := "OneBlanket") (T := zz_F 11) (N := 13) (n := zz_N 11) hT zz_ws11 (hT _ zin_11); exact ⟨(c1, i1), fun q hq => by cases hq; exact h⟩
    | 12 => obtain ⟨c1, i1, h⟩ := u_known (C := "OneBlanketModel") (T := zz_F 12) (N := 63) (n := zz_N 12) hT zz_ws12 (hT _ zin_12); exact ⟨(c1, i1), fun q hq => by cases hq; exact h⟩
    | k + 13 => exact ⟨(0, fun _ => 0), fun q hq => by simp [zz_cl] at hq⟩
  obtain ⟨zd, hzd⟩ := Classical.skolem.mp hcls
  -- static rows
  obtain ⟨t1, ht1, hT1⟩ := va_Tof (args := #[Value.ref b]) (s := s) (tm := .static "OneBlanket$Bodies" "ABOVE" "[I") (ty := .int) (N := 8) (f := fun j => .int (zz_abv.getD j 0)) (A := fun q => s.heap.size ≤ q) (by decide) (hs _ (by decide +kernel)) (va_eqt (hs _ (by decide +kernel))) (fun j hj => by
    match j, hj with
    | 0, _ => exact va_eqt (hs _ (by decide +kernel))
    | 1, _ => exact va_eqt (hs _ (by decide +kernel))
    | 2, _ => exact va_eqt (hs _ (by decide +kernel))
    | 3, _ => exact va_eqt (hs _ (by decide +kernel))
    | 4, _ => exact va_eqt (hs _ (by decide +kernel))
    | 5, _ => exact va_eqt (hs _ (by decide +kernel))
    | 6, _ => exact va_eqt (hs _ (by decide +kernel))
    | 7, _ => exact va_eqt (hs _ (by decide +kernel))) hA
  obtain ⟨t2, ht2, hT2⟩ := va_Tof (args := #[Value.ref b]) (s := s) (tm := .static "OneBlanket$Bodies" "OWN" "[I") (ty := .int) (N := 32) (f := fun j => .int (zz_own.getD j 0)) (A := fun q => s.heap.size ≤ q) (by decide) (hs _ (by decide +kernel)) (va_eqt (hs _ (by decide +kernel))) (fun j hj => by
    match j, hj with
    | 0, _ => exact va_eqt (hs _ (by decide +kernel))
    | 1, _ => exact va_eqt (hs _ (by decide +kernel))
    | 2, _ => exact va_eqt (hs _ (by decide +kernel))
    | 3, _ => exact va_eqt (hs _ (by decide +kernel))
    | 4, _ => exact va_eqt (hs _ (by decide +kernel))
    | 5, _ => exact va_eqt (hs _ (by decide +kernel))
    | 6, _ => exact va_eqt (hs _ (by decide +kernel))
    | 7, _ => exact va_eqt (hs _ (by decide +kernel))
    | 8, _ => exact va_eqt (hs _ (by decide +kernel))
    | 9, _ => exact va_eqt (hs _ (by decide +kernel))
    | 10, _ => exact va_eqt (hs _ (by decide +kernel))
    | 11, _ => exact va_eqt (hs _ (by decide +kernel))
    | 12, _ => exact va_eqt (hs _ (by decide +kernel))
    | 13, _ => exact va_eqt (hs _ (by decide +kernel))
    | 14, _ => exact va_eqt (hs _ (by decide +kernel))
    | 15, _ => exact va_eqt (hs _ (by decide +kernel))
    | 16, _ => exact va_eqt (hs _ (by decide +kernel))
    | 17, _ => exact va_eqt (hs _ (by decide +kernel))
    | 18, _ => exact va_eqt (hs _ (by decide +kernel))
    | 19, _ => exact va_eqt (hs _ (by decide +kernel))
    | 20, _ => exact va_eqt (hs _ (by decide +kernel))
    | 21, _ => exact va_eqt (hs _ (by decide +kernel))
    | 22, _ => exact va_eqt (hs _ (by decide +kernel))
    | 23, _ => exact va_eqt (hs _ (by decide +kernel))
    | 24, _ => exact va_eqt (hs _ (by decide +kernel))
    | 25, _ => exact va_eqt (hs _ (by decide +kernel))
    | 26, _ => exact va_eqt (hs _ (by decide +kernel))
    | 27, _ => exact va_eqt (hs _ (by decide +kernel))
    | 28, _ => exact va_eqt (hs _ (by decide +kernel))
    | 29, _ => exact va_eqt (hs _ (by decide +kernel))
    | 30, _ => exact va_eqt (hs _ (by decide +kernel))
    | 31, _ => exact va_eqt (hs _ (by decide +kernel))
    | n + 32, h => exact absurd h (by omega)) hA
  -- strings
  obtain ⟨adK, adV, hvS, hvE⟩ := vk_Sof (args := #[Value.ref b]) (s := s) (N := 6) (tm := zz_tm) (len := zz_sln) (byt := zz_sby) (A := fun q => s.heap.size ≤ q) (by decide)
    (fun i hi => by
      match i, hi with
      | 0, _ => exact hs _ (by decide +kernel)
      | 1, _ => exact hs _ (by decide +kernel)
      | 2, _ => exact hs _ (by decide +kernel)
      | 3, _ => exact hs _ (by decide +kernel)
      | 4, _ => exact hs _ (by decide +kernel)
      | 5, _ => exact hs _ (by decide +kernel))
    (fun i hi => by
      match i, hi with
      | 0, _ => exact hs _ (by decide +kernel)
      | 1, _ => exact hs _ (by decide +kernel)
      | 2, _ => exact hs _ (by decide +kernel)
      | 3, _ => exact hs _ (by decide +kernel)
      | 4, _ => exact hs _ (by decide +kernel)
      | 5, _ => exact hs _ (by decide +kernel))
    (fun i hi => by
      match i, hi with
      | 0, _ => exact hs _ (by decide +kernel)
      | 1, _ => exact hs _ (by decide +kernel)
      | 2, _ => exact hs _ (by decide +kernel)
      | 3, _ => exact hs _ (by decide +kernel)
      | 4, _ => exact hs _ (by decide +kernel)
      | 5, _ => exact hs _ (by decide +kernel))
    (fun i hi => by
      match i, hi with
      | 0, _ => exact hs _ (by decide +kernel)
      | 1, _ => exact hs _ (by decide +kernel)
      | 2, _ => exact hs _ (by decide +kernel)
      | 3, _ => exact hs _ (by decide +kernel)
      | 4, _ => exact hs _ (by decide +kernel)
      | 5, _ => exact hs _ (by decide +kernel))
    (fun i hi j hj => by
      match i, hi, j, hj with
      | 0, _, 0, _ => exact hs _ (by decide +kernel)
      | 0, _, 1, _ => exact hs _ (by decide +kernel)
      | 0, _, 2, _ => exact hs _ (by decide +kernel)
      | 0, _, 3, _ => exact hs _ (by decide +kernel)
      | 0, _, 4, _ => exact hs _ (by decide +kernel)
      | 0, _, 5, _ => exact hs _ (by decide +kernel)
      | 0, _, 6, _ => exact hs _ (by decide +kernel)
      | 0, _, 7, _ => exact hs _ (by decide +kernel)
      | 1, _, 0, _ => exact hs _ (by decide +kernel)
      | 2, _, 0, _ => exact hs _ (by decide +kernel)
      | 3, _, 0, _ => exact hs _ (by decide +kernel)
      | 3, _, 1, _ => exact hs _ (by decide +kernel)
      | 3, _, 2, _ => exact hs _ (by decide +kernel)
      | 4, _, 0, _ => exact hs _ (by decide +kernel)
      | 4, _, 1, _ => exact hs _ (by decide +kernel)
      | 5, _, 0, _ => exact hs _ (by decide +kernel)
      | 5, _, 1, _ => exact hs _ (by decide +kernel)
      | 5, _, 2, _ => exact hs _ (by decide +kernel))
    (fun i j hi hj hij => by
      match i, hi, j, hj, hij with
      | 0, _, 0, _, h => exact absurd rfl h
      | 0, _, 1, _, _ => exact Or.inl (hs _ (by decide +kernel))
      | 0, _, 2, _, _ => exact Or.inl (hs _ (by decide +kernel))
      | 0, _, 3, _, _ => exact Or.inl (hs _ (by decide +kernel))
      | 0, _, 4, _, _ => exact Or.inl (hs _ (by decide +kernel))
      | 0, _, 5, _, _ => exact Or.inl (hs _ (by decide +kernel))
      | 1, _, 0, _, _ => exact Or.inr (hs _ (by decide +kernel))
      | 1, _, 1, _, h => exact absurd rfl h
      | 1, _, 2, _, _ => exact Or.inl (hs _ (by decide +kernel))
      | 1, _, 3, _, _ => exact Or.inl (hs _ (by decide +kernel))
      | 1, _, 4, _, _ => exact Or.inl (hs _ (by decide +kernel))
      | 1, _, 5, _, _ => exact Or.inl (hs _ (by decide +kernel))
      | 2, _, 0, _, _ => exact Or.inr (hs _ (by decide +kernel))
      | 2, _, 1, _, _ => exact Or.inr (hs _ (by decide +kernel))
      | 2, _, 2, _, h => exact absurd rfl h
      | 2, _, 3, _, _ => exact Or.inl (hs _ (by decide +kernel))
      | 2, _, 4, _, _ => exact Or.inl (hs _ (by decide +kernel))
      | 2, _, 5, _, _ => exact Or.inl (hs _ (by decide +kernel))
      | 3, _, 0, _, _ => exact Or.inr (hs _ (by decide +kernel))
      | 3, _, 1, _, _ => exact Or.inr (hs _ (by decide +kernel))
      | 3, _, 2, _, _ => exact Or.inr (hs _ (by decide +kernel))
      | 3, _, 3, _, h => exact absurd rfl h
      | 3, _, 4, _, _ => exact Or.inl (hs _ (by decide +kernel))
      | 3, _, 5, _, _ => exact Or.inl (hs _ (by decide +kernel))
      | 4, _, 0, _, _ => exact Or.inr (hs _ (by decide +kernel))
      | 4, _, 1, _, _ => exact Or.inr (hs _ (by decide +kernel))
      | 4, _, 2, _, _ => exact Or.inr (hs _ (by decide +kernel))
      | 4, _, 3, _, _ => exact Or.inr (hs _ (by decide +kernel))
      | 4, _, 4, _, h => exact absurd rfl h
      | 4, _, 5, _, _ => exact Or.inl (hs _ (by decide +kernel))
      | 5, _, 0, _, _ => exact Or.inr (hs _ (by decide +kernel))
      | 5, _, 1, _, _ => exact Or.inr (hs _ (by decide +kernel))
      | 5, _, 2, _, _ => exact Or.inr (hs _ (by decide +kernel))
      | 5, _, 3, _, _ => exact Or.inr (hs _ (by decide +kernel))
      | 5, _, 4, _, _ => exact Or.inr (hs _ (by decide +kernel))
      | 5, _, 5, _, h => exact absurd rfl h) hA
  have hbA : ¬ (fun q : Nat => s.heap.size ≤ q) b := hA b hbl
  let ax := zz_axf t1 t2 b adK adV
  let D : va_G := (fun k => (zd k).1, fun k => (zd k).2)
  let dA : Nat → ClassId := fun t => (s.vm.findClass ("[" ++ (zz_ty t).toString)).getD 0
  have hK : ∀ (k : Nat) (q : vw_C), zz_cl[k]? = some q → u_Kn s q.1 q.2.1 q.2.2 (D.1 k) (D.2 k) := fun k q hq => hzd k q hq
  have eK : ∀ (ex : Bool) (i : Nat), i < 6 → zz_ad (zz_G1 s.heap.size D dA ax ex) (1300 + i) = adK i := by
    intro ex i hi
    show (if 1300 + i < 1000 then _ else zz_axf t1 t2 b adK adV (1300 + i)) = adK i
    rw [if_neg (by omega)]
    unfold zz_axf
    rw [if_neg (by omega), if_neg (by omega), if_neg (by omega), if_pos (by omega), Nat.add_sub_cancel_left]
  have eV : ∀ (ex : Bool) (i : Nat), i < 6 → zz_ad (zz_G1 s.heap.size D dA ax ex) (1400 + i) = adV i := by
    intro ex i hi
    show (if 1400 + i < 1000 then _ else zz_axf t1 t2 b adK adV (1400 + i)) = adV i
    rw [if_neg (by omega)]
    unfold zz_axf
    rw [if_neg (by omega), if_neg (by omega), if_neg (by omega), if_neg (by omega), Nat.add_sub_cancel_left]
  have hZX : ∀ ex : Bool, zz_X (zz_G1 s.heap.size D dA ax ex) s s.heap := by
    intro ex
    refine ⟨fun w hw => ?_, ⟨?_, hT1⟩, ⟨?_, hT2⟩, ?_, ⟨fun i hi => ?_, fun i j hi hj h => ?_⟩, fun q hq => ?_, fun t cA h => ?_, fun Cn h => ?_⟩
    · have hw2 : w ∈ lw_tbl := by
        simp only [zz_nst, List.mem_cons, List.not_mem_nil, or_false] at hw
        rcases hw with rfl | rfl | rfl | rfl | rfl | rfl | rfl | rfl | rfl | rfl
        · exact List.mem_of_getElem? (i := 111) (by decide +kernel)
        · exact List.mem_of_getElem? (i := 170) (by decide +kernel)
        · exact List.mem_of_getElem? (i := 239) (by decide +kernel)
        · exact List.mem_of_getElem? (i := 364) (by decide +kernel)
        · exact List.mem_of_getElem? (i := 391) (by decide +kernel)
        · exact List.mem_of_getElem? (i := 397) (by decide +kernel)
        · exact List.mem_of_getElem? (i := 432) (by decide +kernel)
        · exact List.mem_of_getElem? (i := 455) (by decide +kernel)
        · exact List.mem_of_getElem? (i := 457) (by decide +kernel)
        · exact List.mem_of_getElem? (i := 777) (by decide +kernel)
      have hon : w.onTables = true := by
        simp only [zz_nst, List.mem_cons, List.not_mem_nil, or_false] at hw
        rcases hw with rfl | rfl | rfl | rfl | rfl | rfl | rfl | rfl | rfl | rfl <;> rfl
      exact va_Nw.of hon (hts w hw2)
    · exact va_Zref (hts _ (List.mem_of_getElem? (i := 1083) (by decide +kernel))) (hT _ zit_1) ht1 hA
    · exact va_Zref (hts _ (List.mem_of_getElem? (i := 1081) (by decide +kernel))) (hT _ zit_1) ht2 hA
    · exact va_Zof (hts _ (List.mem_of_getElem? (i := 212) (by decide +kernel))) (hT _ (zz_mem 83 (by decide +kernel) (by decide +kernel))) (va_eqt (hs _ (by decide +kernel))) hA
    · have h := hvS.1 i hi
      show va_O "java/lang/String" (zz_ad (zz_G1 s.heap.size D dA ax ex) (1300 + i)) _ _ _ ∧ va_OF "java/lang/String" "coder" "B" (.int 0) (zz_ad (zz_G1 s.heap.size D dA ax ex) (1300 + i)) _ _ _ ∧ va_OF "java/lang/String" "value" "[B" (.ref (zz_ad (zz_G1 s.heap.size D dA ax ex) (1400 + i))) (zz_ad (zz_G1 s.heap.size D dA ax ex) (1300 + i)) _ _ _ ∧ va_T .byte (zz_ad (zz_G1 s.heap.size D dA ax ex) (1400 + i)) _ _ _ _ _
      rw [eK ex i hi, eV ex i hi]
      exact h
    · have h : zz_ad (zz_G1 s.heap.size D dA ax ex) (1300 + i) = zz_ad (zz_G1 s.heap.size D dA ax ex) (1300 + j) := h
      rw [eK ex i hi, eK ex j hj] at h
      exact hvS.2 i j hi hj h
    · simp only [zz_str, List.mem_cons, List.not_mem_nil, or_false] at hq
      have e0 := hvE 0 (by decide)
      rcases hq with rfl | rfl | rfl | rfl | rfl | rfl | rfl | rfl
      · rw [eK ex 0 (by decide)]; exact vk_R.of (hts _ (List.mem_of_getElem? (i := 202) (by decide +kernel))) e0
      · rw [eK ex 0 (by decide)]; exact vk_R.of (hts _ (List.mem_of_getElem? (i := 269) (by decide +kernel))) (zz_eq_ref (hs (.eq (.string "OneBlanket$Room" 20) (.string "OneBlanket$Night" 30)) (by decide +kernel)) e0)
      · rw [eK ex 0 (by decide)]; exact vk_R.of (hts _ (List.mem_of_getElem? (i := 623) (by decide +kernel))) (zz_eq_ref (hs (.eq (.string "OneBlanket$Room" 20) (.string "OneBlanket$Tape" 77)) (by decide +kernel)) e0)
      · rw [eK ex 1 (by decide)]; exact vk_R.of (hts _ (List.mem_of_getElem? (i := 730) (by decide +kernel))) (hvE 1 (by decide))
      · rw [eK ex 2 (by decide)]; exact vk_R.of (hts _ (List.mem_of_getElem? (i := 731) (by decide +kernel))) (hvE 2 (by decide))
      · rw [eK ex 3 (by decide)]; exact vk_R.of (hts _ (List.mem_of_getElem? (i := 732) (by decide +kernel))) (hvE 3 (by decide))
      · rw [eK ex 4 (by decide)]; exact vk_R.of (hts _ (List.mem_of_getElem? (i := 733) (by decide +kernel))) (hvE 4 (by decide))
      · rw [eK ex 5 (by decide)]; exact vk_R.of (hts _ (List.mem_of_getElem? (i := 734) (by decide +kernel))) (hvE 5 (by decide))
    · show cA = (s.vm.findClass ("[" ++ (zz_ty t).toString)).getD 0
      rw [h]
      rfl
    · rcases h with rfl | rfl
      · exact va_AO.of (hts _ (List.mem_of_getElem? (i := 230) (by decide +kernel)))
      · exact va_AO.of (hts _ (List.mem_of_getElem? (i := 454) (by decide +kernel)))
  -- the walk
  have hbad : ∀ ex : Bool, zz_ad (zz_G1 s.heap.size D dA ax ex) 1500 = b := fun ex => rfl
  obtain ⟨σ', hp⟩ := hpure (fun _ _ => 0, fun _ _ => 0)
  have hsz : zsh.length = 123 := by decide
  have hsl : zz_sl zsh ≤ 7302250 := by decide +kernel
  have hok : ∀ (ex : Bool) (fin : zz_Fin), fin.2.1 = zsh → zz_Ok (zz_G1 s.heap.size D dA ax ex) p e room_1 s m #[Value.ref b] meth c 0 0 "OneBlanketLaw" meth.name code 4 300 fin := by
    intro ex fin hf
    refine ⟨⟨hx, hb, hml, hown, hT⟩, rfl, hZX ex, hK, Nat.le_refl _, by decide, by decide, ?_, ?_⟩
    · rw [hf, hsz]; decide
    · rw [hf]; exact hsl
  have C2 : zz_Cx (zz_G1 s.heap.size D dA ax false) l "OneBlanketLaw" meth.name code 4 (some .boolean) 300 (some (.int 1), zsh, σ') (zz_W (zz_G1 s.heap.size D dA ax false) p l e room_1 s m #[Value.ref b] below meth c (lw_Z below #[Value.ref b] s) 4 0 0) := by
    refine ⟨⟨p, e, room_1, s, m, _, below, meth, c, _, 0, 0, rfl, hok false _ rfl⟩, ?_⟩
    intro pc lo v I hd hrk hfin hlen H locs ls cells slots hRep hS hl hc hsl2
    subst hfin
    rcases hrk with ⟨x, ty, rfl, hv, hre, -⟩ | ⟨x, rfl, hv, -⟩ | ⟨o, rt, rfl, hv, -⟩ | ⟨rfl, hv, -⟩
    · refine va_forget (fun q hq => hS.2.2 q hq) ?_
      have h1 : zsh.length ≤ 600000 := by rw [hsz]; decide
      have hc : cells + 0 = zsh.length := hc
      have hsl2 : slots + 0 = zz_sl zsh := hsl2
      refine W.widen (k := 600000) (n := 7302250) (by omega) (by omega) ?_
      exact lw_ret hx hb hr hlocks hd
    · cases hv
    · cases hv
    · cases hv
  have C1 : zz_Cx (zz_G1 s.heap.size D dA ax true) l "OneBlanketLaw" meth.name code 4 (some .int) 300 (none, zsh, σ') (zz_W (zz_G1 s.heap.size D dA ax true) p l e room_1 s m #[Value.ref b] below meth c (lw_Z below #[Value.ref b] s) 4 0 0) := by
    refine ⟨⟨p, e, room_1, s, m, _, below, meth, c, _, 0, 0, rfl, hok true _ rfl⟩, ?_⟩
    intro pc lo v I hd hrk hfin
    subst hfin
    rcases hrk with ⟨x, ty, -, hv, -⟩ | ⟨x, -, hv, -⟩ | ⟨o, rt, -, hv, -⟩ | ⟨-, -, hv⟩ <;> cases hv
  have hZ2 := zf_Law_law_L18 (G := zz_G1 s.heap.size D dA ax false) (q := (1, σ')) rfl C2 L xs ⟨p, e, room_1, s, m, _, below, meth, c, _, 4, 0, 0, rfl, hx, hb, hX, hbl, hbA⟩ zF 0 _ hp
  have hZ1 := zk_law (by decide) rfl C1 (s := (fun _ _ => 0, fun _ _ => 0)) (by
    intro hlen H locs ls cells slots hRep hS hl hc hsl2
    exact hZ2 hlen H locs ls cells slots hRep.ex hS hl hc hsl2)
  have hl := lv_entry ([.ref b]) (n := 4) (Nat.le_of_ble_eq_true rfl)
  rw [lg_entry_eq]
  generalize (lg_sl ([.ref b]) ++ List.replicate (4 - (lg_sl ([.ref b])).length) Slot.unset).toArray = ls at hl ⊢
  refine hZ1 rfl s.heap [] ls 0 0 ⟨fun o c h => (by cases h), fun _ => rfl, by decide, fun o t n rs h => (by cases h)⟩ va_S.rf ?_ rfl rfl
  refine zz_lv_sub hl ?_
  intro q hq
  have hq2 : q = (0, Value.ref b) := by
    have h3 : zz_lv (zz_G1 s.heap.size D dA ax true) [some (.ref 1500), none, none, none] = [(0, Value.ref b)] := rfl
    rw [h3] at hq
    exact List.mem_singleton.mp hq
  rw [hq2]
  exact List.mem_cons_self
