/-! rows for the constructors, with what comes out by name -/
theorem zob_1 : Cond.instanceMethod Lib.objectInit ∈ zz_T := zz_mem 107 (by decide +kernel) (by decide +kernel)
theorem zob_2 : Cond.code Lib.objectInit ⟨#[0xb1]⟩ 1 none ∈ zz_T := zz_mem 108 (by decide +kernel) (by decide +kernel)
def zft_isref (ci k : Nat) : Bool := match zz_ft ci k with
  | .object _ => true
  | .array _ => true
  | _ => false
theorem zft_ref (ci k : Nat) (h : zft_isref ci k = true) : ∀ a, narrow (zz_ft ci k) (.ref a) = .ref a := by
  intro a
  unfold zft_isref at h
  cases hf : zz_ft ci k <;> rw [hf] at h <;> first | rfl | cases h
theorem zft_ref2 (ci k : Nat) (h : zft_isref ci k = true) : ∀ a, fits (zz_ft ci k) (.ref a) = true := by
  intro a
  unfold zft_isref at h
  cases hf : zz_ft ci k <;> rw [hf] at h <;> first | rfl | cases h
section ZK
variable {G : zz_G} {l : Launch} {own nm : String} {cc : ByteArray} {nL d : Nat} {ret : Option FieldType} {fin : zz_Fin} {Z : zz_Z} {pc : Nat} {lo : List (Option Value)} {st : List Value} {sh sh' : List zz_Sh} {σ σ' : zz_S}
theorem zz_newK (C : zz_Cx G l own nm cc nL ret d fin Z) {idx ci n : Nat} {Cn : String} (hex : G.2.2.2.2 = true) (hn : sh.length = n) (hsh : sh ++ [.inl (ci, zz_bl ci)] = sh') (hσ : zz_z σ n = σ') (hcl : zz_cl[ci]? = some (Cn, zz_F ci, zz_N ci)) (hok : ∀ k, k < zz_N ci → defaultValue (zz_ft ci k) = vp_V ((zz_bl ci).map fun f => match f with | none => Value.int 0 | some _ => Value.null) k) (hclk : Cond.classLink own idx Cn ∈ zz_T) (hins : Cond.instantiable Cn (zz_N ci) ∈ zz_T) (hini : Cond.initialized Cn ∈ zz_T) (hl1 : sh.length + 1 ≤ 1000) (hg1 : sh.length + 1 ≤ fin.2.1.length) (hg2 : zz_sl sh + zz_N ci ≤ zz_sl fin.2.1) (hd : decode cc pc = .ok (.new idx, 3)) (kk : Z (pc + 3) lo (.ref n :: st) sh' σ') : Z pc lo st sh σ := by
  subst hn
  subst hsh
  subst hσ
  exact zz_new C hex hcl hok hclk hins hini hl1 hg1 hg2 hd kk
theorem zz_newaK (C : zz_Cx G l own nm cc nL ret d fin Z) {t n nn : Nat} {atype : ArrayType} {x : Int32} (hex : G.2.2.2.2 = true) (hnn : sh.length = nn) (hsh : sh ++ [.inr (t, n, [])] = sh') (hσ : zz_z σ nn = σ') (ht : newarray.typeOf atype = zz_ty t) (ht4 : t < 4) (hx0 : ¬ x < 0) (hxn : x.toNatClampNeg = n) (hby : n * componentBytes (newarray.typeOf atype) ≤ 536870912) (hw : Cond.arrayClass (newarray.typeOf atype) ∈ zz_T) (hl1 : sh.length + 1 ≤ 1000) (hg1 : sh.length + 1 ≤ fin.2.1.length) (hg2 : zz_sl sh + n ≤ zz_sl fin.2.1) (hd : decode cc pc = .ok (.newarray atype, 2)) (kk : Z (pc + 2) lo (.ref nn :: st) sh' σ') : Z pc lo (.int x :: st) sh σ := by
  subst hnn
  subst hsh
  subst hσ
  exact zz_newa C hex ht ht4 hx0 hxn hby hw hl1 hg1 hg2 hd kk
theorem zz_newqK (C : zz_Cx G l own nm cc nL ret d fin Z) {t n nn idx : Nat} {Cn : String} {x : Int32} (hex : G.2.2.2.2 = true) (hnn : sh.length = nn) (hsh : sh ++ [.inr (t, n, List.replicate n none)] = sh') (hσ : zz_z σ nn = σ') (ht : zz_ty t = .object Cn) (ht4 : ¬ t < 3 ∧ ¬ t = 3) (hCn : Cn = "OneBlanket$Text" ∨ Cn = "OneBlanket$Shelf") (hx0 : ¬ x < 0) (hxn : x.toNatClampNeg = n) (hby : n * 4 ≤ 536870912) (hclk : Cond.classLink own idx Cn ∈ zz_T) (hl1 : sh.length + 1 ≤ 1000) (hg1 : sh.length + 1 ≤ fin.2.1.length) (hg2 : zz_sl sh + n ≤ zz_sl fin.2.1) (hd : decode cc pc = .ok (.anewarray idx, 3)) (kk : Z (pc + 3) lo (.ref nn :: st) sh' σ') : Z pc lo (.int x :: st) sh σ := by
  subst hnn
  subst hsh
  subst hσ
  exact zz_newq C hex ht ht4 hCn hx0 hxn hby hclk hl1 hg1 hg2 hd kk
theorem zz_putFK (C : zz_Cx G l own nm cc nL ret d fin Z) {idx ci k o r : Nat} {fs : List (Option (Option Nat))} (hf : zz_FL own idx ci k) (ho : sh[o]? = some (.inl (ci, fs))) (hsh : sh.set o (.inl (ci, fs.set k (some (some r)))) = sh') (hkl : k < fs.length) (hfin : (zz_F ci k).2.2.2 = true) (hinit : nm = "<init>") (hown2 : (zz_F ci k).1 = own) (hn : ∀ a, narrow (zz_ft ci k) (.ref a) = .ref a) (hfit : ∀ a, fits (zz_ft ci k) (.ref a) = true) (hcF : (zz_cl[ci]?).map (fun q => q.2.1 k) = some (zz_F ci k)) (hd : decode cc pc = .ok (.putfield idx, 3)) (kk : Z (pc + 3) lo st sh' σ) : Z pc lo (.ref r :: .ref o :: st) sh σ := by
  subst hsh
  exact zz_putF C hf ho hkl hfin hinit hown2 hn hfit hcF hd kk
theorem zz_aastK (C : zz_Cx G l own nm cc nL ret d fin Z) {t o n r ci : Nat} {q : vw_C} {rs fs} {i : Int32} {kx : Nat} (hkx : i.toNatClampNeg = kx) (ho : sh[o]? = some (.inr (t, n, rs))) (ht : zz_ty t = .object q.1 ∧ ¬ t < 3 ∧ ¬ t = 3) (hv : sh[r]? = some (.inl (ci, fs))) (hcl : zz_cl[ci]? = some q) (hi : zz_in i n = true) (hrs : kx < rs.length) (hsh : sh.set o (.inr (t, n, rs.set kx (some r))) = sh') (hd : decode cc pc = .ok (.aastore, 1)) (kk : Z (pc + 1) lo st sh' σ) : Z pc lo (.ref r :: .int i :: .ref o :: st) sh σ := by
  subst hsh
  exact zz_aast C hkx ho ht hv hcl hi hrs hd kk
end ZK

theorem zkb_122 : (Int8.ofInt (122)).toInt32 = (122 : Int32) := by decide
theorem zks_780 : (Int16.ofInt (780)).toInt32 = (780 : Int32) := by decide
theorem zks_366 : (Int16.ofInt (366)).toInt32 = (366 : Int32) := by decide
theorem zks_360 : (Int16.ofInt (360)).toInt32 = (360 : Int32) := by decide
def y_Bed_init : MethodName := ⟨"OneBlanket$Bed", "<init>", "()V"⟩
def y_Turns_init : MethodName := ⟨"OneBlanket$Turns", "<init>", "()V"⟩
def y_Room_init : MethodName := ⟨"OneBlanket$Room", "<init>", "()V"⟩
def y_Tally_init : MethodName := ⟨"OneBlanket$Tally", "<init>", "()V"⟩
def y_Lie_init : MethodName := ⟨"OneBlanket$Lie", "<init>", "(LOneBlanket$Bed;)V"⟩
def y_Night_init : MethodName := ⟨"OneBlanket$Night", "<init>", "(LOneBlanket$Bed;LOneBlanket$Turns;LOneBlanket$Room;[LOneBlanket$Text;)V"⟩
def y_Changes_init : MethodName := ⟨"OneBlanket$Changes", "<init>", "()V"⟩
def y_Text_init : MethodName := ⟨"OneBlanket$Text", "<init>", "()V"⟩
def y_Tape_init : MethodName := ⟨"OneBlanket$Tape", "<init>", "()V"⟩
def y_Bodies_init : MethodName := ⟨"OneBlanket$Bodies", "<init>", "()V"⟩
def y_Shelf_init : MethodName := ⟨"OneBlanket$Shelf", "<init>", "()V"⟩
def y_B_init : MethodName := ⟨"OneBlanket", "<init>", "()V"⟩
def y_M_init : MethodName := ⟨"OneBlanketModel", "<init>", "()V"⟩
set_option maxRecDepth 100000 in
theorem zl_Law_7 : Cond.classLink "OneBlanketLaw" 7 "OneBlanket" ∈ zz_T := zz_mem 101 (by decide +kernel) (by decide +kernel)
set_option maxRecDepth 100000 in
theorem zin_11 : Cond.instantiable "OneBlanket" (zz_N 11) ∈ zz_T := zz_mem 102 (by decide +kernel) (by decide +kernel)
set_option maxRecDepth 100000 in
theorem zit_11 : Cond.initialized "OneBlanket" ∈ zz_T := zz_mem 79 (by decide +kernel) (by decide +kernel)
theorem zbl_11 : ∀ k, k < zz_N 11 → defaultValue (zz_ft 11 k) = vp_V ((zz_bl 11).map fun f => match f with | none => Value.int 0 | some _ => Value.null) k := by decide +kernel
set_option maxRecDepth 100000 in
theorem zl_11_3 : Cond.methodLink "OneBlanket" 3 Lib.objectInit ∈ zz_T := zz_mem 106 (by decide +kernel) (by decide +kernel)
set_option maxRecDepth 100000 in
theorem zl_11_9 : Cond.classLink "OneBlanket" 9 "OneBlanket$Bed" ∈ zz_T := zz_mem 109 (by decide +kernel) (by decide +kernel)
set_option maxRecDepth 100000 in
theorem zin_0 : Cond.instantiable "OneBlanket$Bed" (zz_N 0) ∈ zz_T := zz_mem 110 (by decide +kernel) (by decide +kernel)
set_option maxRecDepth 100000 in
theorem zit_0 : Cond.initialized "OneBlanket$Bed" ∈ zz_T := zz_mem 80 (by decide +kernel) (by decide +kernel)
theorem zbl_0 : ∀ k, k < zz_N 0 → defaultValue (zz_ft 0 k) = vp_V ((zz_bl 0).map fun f => match f with | none => Value.int 0 | some _ => Value.null) k := by decide +kernel
set_option maxRecDepth 100000 in
theorem zl_0_3 : Cond.methodLink "OneBlanket$Bed" 3 Lib.objectInit ∈ zz_T := zz_mem 114 (by decide +kernel) (by decide +kernel)
set_option maxRecDepth 100000 in
theorem zac_0 : Cond.arrayClass (newarray.typeOf .int) ∈ zz_T := zz_mem 167 (by decide +kernel) (by decide +kernel)
theorem zl_11_11n : Cond.methodLinkNest "OneBlanket" 11 y_Bed_init "OneBlanket" ∈ zz_nst := by decide
set_option maxRecDepth 100000 in
theorem zci_Bed_init : zz_MC y_Bed_init prog_2_method_1_code 1 none 0 ∧ Cond.instanceMethod y_Bed_init ∈ zz_T := ⟨⟨zz_mem 113 (by decide +kernel) (by decide +kernel), zz_mem 80 (by decide +kernel) (by decide +kernel), ⟨by decide +kernel, by decide +kernel, by decide +kernel⟩, by decide⟩, zz_mem 112 (by decide +kernel) (by decide +kernel)⟩
set_option maxRecDepth 100000 in
theorem zl_11_16 : Cond.classLink "OneBlanket" 16 "OneBlanket$Turns" ∈ zz_T := zz_mem 168 (by decide +kernel) (by decide +kernel)
set_option maxRecDepth 100000 in
theorem zin_10 : Cond.instantiable "OneBlanket$Turns" (zz_N 10) ∈ zz_T := zz_mem 169 (by decide +kernel) (by decide +kernel)
set_option maxRecDepth 100000 in
theorem zit_10 : Cond.initialized "OneBlanket$Turns" ∈ zz_T := zz_mem 81 (by decide +kernel) (by decide +kernel)
theorem zbl_10 : ∀ k, k < zz_N 10 → defaultValue (zz_ft 10 k) = vp_V ((zz_bl 10).map fun f => match f with | none => Value.int 0 | some _ => Value.null) k := by decide +kernel
set_option maxRecDepth 100000 in
theorem zl_10_3 : Cond.methodLink "OneBlanket$Turns" 3 Lib.objectInit ∈ zz_T := zz_mem 173 (by decide +kernel) (by decide +kernel)
theorem zl_11_18n : Cond.methodLinkNest "OneBlanket" 18 y_Turns_init "OneBlanket" ∈ zz_nst := by decide
set_option maxRecDepth 100000 in
theorem zci_Turns_init : zz_MC y_Turns_init prog_12_method_1_code 1 none 0 ∧ Cond.instanceMethod y_Turns_init ∈ zz_T := ⟨⟨zz_mem 172 (by decide +kernel) (by decide +kernel), zz_mem 81 (by decide +kernel) (by decide +kernel), ⟨by decide +kernel, by decide +kernel, by decide +kernel⟩, by decide⟩, zz_mem 171 (by decide +kernel) (by decide +kernel)⟩
set_option maxRecDepth 100000 in
theorem zl_11_23 : Cond.classLink "OneBlanket" 23 "OneBlanket$Room" ∈ zz_T := zz_mem 196 (by decide +kernel) (by decide +kernel)
set_option maxRecDepth 100000 in
theorem zin_5 : Cond.instantiable "OneBlanket$Room" (zz_N 5) ∈ zz_T := zz_mem 197 (by decide +kernel) (by decide +kernel)
set_option maxRecDepth 100000 in
theorem zit_5 : Cond.initialized "OneBlanket$Room" ∈ zz_T := zz_mem 82 (by decide +kernel) (by decide +kernel)
theorem zbl_5 : ∀ k, k < zz_N 5 → defaultValue (zz_ft 5 k) = vp_V ((zz_bl 5).map fun f => match f with | none => Value.int 0 | some _ => Value.null) k := by decide +kernel
set_option maxRecDepth 100000 in
theorem zl_5_3 : Cond.methodLink "OneBlanket$Room" 3 Lib.objectInit ∈ zz_T := zz_mem 201 (by decide +kernel) (by decide +kernel)
set_option maxRecDepth 100000 in
theorem zl_5_22 : Cond.methodLink "OneBlanket$Room" 22 y_Str_length ∈ zz_T := zz_mem 203 (by decide +kernel) (by decide +kernel)
set_option maxRecDepth 100000 in
theorem zl_5_31 : Cond.methodLink "OneBlanket$Room" 31 y_Arr_fillI ∈ zz_T := zz_mem 213 (by decide +kernel) (by decide +kernel)
set_option maxRecDepth 100000 in
theorem zl_11_25 : Cond.methodLink "OneBlanket" 25 y_Room_init ∈ zz_T := zz_mem 198 (by decide +kernel) (by decide +kernel)
set_option maxRecDepth 100000 in
theorem zci_Room_init : zz_MC y_Room_init prog_7_method_1_code 1 none 0 ∧ Cond.instanceMethod y_Room_init ∈ zz_T := ⟨⟨zz_mem 200 (by decide +kernel) (by decide +kernel), zz_mem 82 (by decide +kernel) (by decide +kernel), ⟨by decide +kernel, by decide +kernel, by decide +kernel⟩, by decide⟩, zz_mem 199 (by decide +kernel) (by decide +kernel)⟩
set_option maxRecDepth 100000 in
theorem zl_11_30 : Cond.classLink "OneBlanket" 30 "OneBlanket$Text" ∈ zz_T := zz_mem 229 (by decide +kernel) (by decide +kernel)
set_option maxRecDepth 100000 in
theorem zl_11_36 : Cond.classLink "OneBlanket" 36 "OneBlanket$Night" ∈ zz_T := zz_mem 231 (by decide +kernel) (by decide +kernel)
set_option maxRecDepth 100000 in
theorem zin_4 : Cond.instantiable "OneBlanket$Night" (zz_N 4) ∈ zz_T := zz_mem 232 (by decide +kernel) (by decide +kernel)
set_option maxRecDepth 100000 in
theorem zit_4 : Cond.initialized "OneBlanket$Night" ∈ zz_T := zz_mem 85 (by decide +kernel) (by decide +kernel)
theorem zbl_4 : ∀ k, k < zz_N 4 → defaultValue (zz_ft 4 k) = vp_V ((zz_bl 4).map fun f => match f with | none => Value.int 0 | some _ => Value.null) k := by decide +kernel
set_option maxRecDepth 100000 in
theorem zl_4_3 : Cond.methodLink "OneBlanket$Night" 3 Lib.objectInit ∈ zz_T := zz_mem 236 (by decide +kernel) (by decide +kernel)
set_option maxRecDepth 100000 in
theorem zl_4_9 : Cond.classLink "OneBlanket$Night" 9 "OneBlanket$Tally" ∈ zz_T := zz_mem 237 (by decide +kernel) (by decide +kernel)
set_option maxRecDepth 100000 in
theorem zin_7 : Cond.instantiable "OneBlanket$Tally" (zz_N 7) ∈ zz_T := zz_mem 238 (by decide +kernel) (by decide +kernel)
set_option maxRecDepth 100000 in
theorem zit_7 : Cond.initialized "OneBlanket$Tally" ∈ zz_T := zz_mem 86 (by decide +kernel) (by decide +kernel)
theorem zbl_7 : ∀ k, k < zz_N 7 → defaultValue (zz_ft 7 k) = vp_V ((zz_bl 7).map fun f => match f with | none => Value.int 0 | some _ => Value.null) k := by decide +kernel
set_option maxRecDepth 100000 in
theorem zl_7_3 : Cond.methodLink "OneBlanket$Tally" 3 Lib.objectInit ∈ zz_T := zz_mem 242 (by decide +kernel) (by decide +kernel)
theorem zl_4_11n : Cond.methodLinkNest "OneBlanket$Night" 11 y_Tally_init "OneBlanket" ∈ zz_nst := by decide
set_option maxRecDepth 100000 in
theorem zci_Tally_init : zz_MC y_Tally_init prog_9_method_1_code 1 none 0 ∧ Cond.instanceMethod y_Tally_init ∈ zz_T := ⟨⟨zz_mem 241 (by decide +kernel) (by decide +kernel), zz_mem 86 (by decide +kernel) (by decide +kernel), ⟨by decide +kernel, by decide +kernel, by decide +kernel⟩, by decide⟩, zz_mem 240 (by decide +kernel) (by decide +kernel)⟩
set_option maxRecDepth 100000 in
theorem zl_4_32 : Cond.methodLink "OneBlanket$Night" 32 y_Str_length ∈ zz_T := zz_mem 270 (by decide +kernel) (by decide +kernel)
set_option maxRecDepth 100000 in
theorem zl_4_57 : Cond.classLink "OneBlanket$Night" 57 "OneBlanket$Lie" ∈ zz_T := zz_mem 271 (by decide +kernel) (by decide +kernel)
set_option maxRecDepth 100000 in
theorem zin_3 : Cond.instantiable "OneBlanket$Lie" (zz_N 3) ∈ zz_T := zz_mem 272 (by decide +kernel) (by decide +kernel)
set_option maxRecDepth 100000 in
theorem zit_3 : Cond.initialized "OneBlanket$Lie" ∈ zz_T := zz_mem 87 (by decide +kernel) (by decide +kernel)
theorem zbl_3 : ∀ k, k < zz_N 3 → defaultValue (zz_ft 3 k) = vp_V ((zz_bl 3).map fun f => match f with | none => Value.int 0 | some _ => Value.null) k := by decide +kernel
set_option maxRecDepth 100000 in
theorem zl_3_3 : Cond.methodLink "OneBlanket$Lie" 3 Lib.objectInit ∈ zz_T := zz_mem 276 (by decide +kernel) (by decide +kernel)
set_option maxRecDepth 100000 in
theorem zac_3 : Cond.arrayClass (newarray.typeOf .long) ∈ zz_T := zz_mem 303 (by decide +kernel) (by decide +kernel)
set_option maxRecDepth 100000 in
theorem zl_4_59 : Cond.methodLink "OneBlanket$Night" 59 y_Lie_init ∈ zz_T := zz_mem 273 (by decide +kernel) (by decide +kernel)
set_option maxRecDepth 100000 in
theorem zci_Lie_init : zz_MC y_Lie_init prog_5_method_1_code 2 none 1 ∧ Cond.instanceMethod y_Lie_init ∈ zz_T := ⟨⟨zz_mem 275 (by decide +kernel) (by decide +kernel), zz_mem 87 (by decide +kernel) (by decide +kernel), ⟨by decide +kernel, by decide +kernel, by decide +kernel⟩, by decide⟩, zz_mem 274 (by decide +kernel) (by decide +kernel)⟩
set_option maxRecDepth 100000 in
theorem zl_11_38 : Cond.methodLink "OneBlanket" 38 y_Night_init ∈ zz_T := zz_mem 233 (by decide +kernel) (by decide +kernel)
set_option maxRecDepth 100000 in
theorem zci_Night_init : zz_MC y_Night_init prog_6_method_1_code 5 none 4 ∧ Cond.instanceMethod y_Night_init ∈ zz_T := ⟨⟨zz_mem 235 (by decide +kernel) (by decide +kernel), zz_mem 85 (by decide +kernel) (by decide +kernel), ⟨by decide +kernel, by decide +kernel, by decide +kernel⟩, by decide⟩, zz_mem 234 (by decide +kernel) (by decide +kernel)⟩
set_option maxRecDepth 100000 in
theorem zl_11_45 : Cond.classLink "OneBlanket" 45 "OneBlanket$Changes" ∈ zz_T := zz_mem 362 (by decide +kernel) (by decide +kernel)
set_option maxRecDepth 100000 in
theorem zin_2 : Cond.instantiable "OneBlanket$Changes" (zz_N 2) ∈ zz_T := zz_mem 363 (by decide +kernel) (by decide +kernel)
set_option maxRecDepth 100000 in
theorem zit_2 : Cond.initialized "OneBlanket$Changes" ∈ zz_T := zz_mem 88 (by decide +kernel) (by decide +kernel)
theorem zbl_2 : ∀ k, k < zz_N 2 → defaultValue (zz_ft 2 k) = vp_V ((zz_bl 2).map fun f => match f with | none => Value.int 0 | some _ => Value.null) k := by decide +kernel
set_option maxRecDepth 100000 in
theorem zl_2_1 : Cond.methodLink "OneBlanket$Changes" 1 Lib.objectInit ∈ zz_T := zz_mem 367 (by decide +kernel) (by decide +kernel)
theorem zl_11_47n : Cond.methodLinkNest "OneBlanket" 47 y_Changes_init "OneBlanket" ∈ zz_nst := by decide
set_option maxRecDepth 100000 in
theorem zci_Changes_init : zz_MC y_Changes_init prog_4_method_1_code 1 none 0 ∧ Cond.instanceMethod y_Changes_init ∈ zz_T := ⟨⟨zz_mem 366 (by decide +kernel) (by decide +kernel), zz_mem 88 (by decide +kernel) (by decide +kernel), ⟨by decide +kernel, by decide +kernel, by decide +kernel⟩, by decide⟩, zz_mem 365 (by decide +kernel) (by decide +kernel)⟩
set_option maxRecDepth 100000 in
theorem zl_11_52 : Cond.classLink "OneBlanket" 52 "OneBlanket$Tape" ∈ zz_T := zz_mem 389 (by decide +kernel) (by decide +kernel)
set_option maxRecDepth 100000 in
theorem zin_8 : Cond.instantiable "OneBlanket$Tape" (zz_N 8) ∈ zz_T := zz_mem 390 (by decide +kernel) (by decide +kernel)
set_option maxRecDepth 100000 in
theorem zit_8 : Cond.initialized "OneBlanket$Tape" ∈ zz_T := zz_mem 89 (by decide +kernel) (by decide +kernel)
theorem zbl_8 : ∀ k, k < zz_N 8 → defaultValue (zz_ft 8 k) = vp_V ((zz_bl 8).map fun f => match f with | none => Value.int 0 | some _ => Value.null) k := by decide +kernel
set_option maxRecDepth 100000 in
theorem zl_8_3 : Cond.methodLink "OneBlanket$Tape" 3 Lib.objectInit ∈ zz_T := zz_mem 394 (by decide +kernel) (by decide +kernel)
set_option maxRecDepth 100000 in
theorem zl_8_9 : Cond.classLink "OneBlanket$Tape" 9 "OneBlanket$Text" ∈ zz_T := zz_mem 395 (by decide +kernel) (by decide +kernel)
set_option maxRecDepth 100000 in
theorem zin_9 : Cond.instantiable "OneBlanket$Text" (zz_N 9) ∈ zz_T := zz_mem 396 (by decide +kernel) (by decide +kernel)
set_option maxRecDepth 100000 in
theorem zit_9 : Cond.initialized "OneBlanket$Text" ∈ zz_T := zz_mem 90 (by decide +kernel) (by decide +kernel)
theorem zbl_9 : ∀ k, k < zz_N 9 → defaultValue (zz_ft 9 k) = vp_V ((zz_bl 9).map fun f => match f with | none => Value.int 0 | some _ => Value.null) k := by decide +kernel
set_option maxRecDepth 100000 in
theorem zl_9_3 : Cond.methodLink "OneBlanket$Text" 3 Lib.objectInit ∈ zz_T := zz_mem 400 (by decide +kernel) (by decide +kernel)
theorem zl_8_11n : Cond.methodLinkNest "OneBlanket$Tape" 11 y_Text_init "OneBlanket" ∈ zz_nst := by decide
set_option maxRecDepth 100000 in
theorem zci_Text_init : zz_MC y_Text_init prog_11_method_1_code 1 none 0 ∧ Cond.instanceMethod y_Text_init ∈ zz_T := ⟨⟨zz_mem 399 (by decide +kernel) (by decide +kernel), zz_mem 90 (by decide +kernel) (by decide +kernel), ⟨by decide +kernel, by decide +kernel, by decide +kernel⟩, by decide⟩, zz_mem 398 (by decide +kernel) (by decide +kernel)⟩
theorem zl_11_54n : Cond.methodLinkNest "OneBlanket" 54 y_Tape_init "OneBlanket" ∈ zz_nst := by decide
set_option maxRecDepth 100000 in
theorem zci_Tape_init : zz_MC y_Tape_init prog_10_method_1_code 1 none 0 ∧ Cond.instanceMethod y_Tape_init ∈ zz_T := ⟨⟨zz_mem 393 (by decide +kernel) (by decide +kernel), zz_mem 89 (by decide +kernel) (by decide +kernel), ⟨by decide +kernel, by decide +kernel, by decide +kernel⟩, by decide⟩, zz_mem 392 (by decide +kernel) (by decide +kernel)⟩
set_option maxRecDepth 100000 in
theorem zl_11_59 : Cond.classLink "OneBlanket" 59 "OneBlanket$Bodies" ∈ zz_T := zz_mem 430 (by decide +kernel) (by decide +kernel)
set_option maxRecDepth 100000 in
theorem zin_1 : Cond.instantiable "OneBlanket$Bodies" (zz_N 1) ∈ zz_T := zz_mem 431 (by decide +kernel) (by decide +kernel)
set_option maxRecDepth 100000 in
theorem zit_1 : Cond.initialized "OneBlanket$Bodies" ∈ zz_T := zz_mem 91 (by decide +kernel) (by decide +kernel)
theorem zbl_1 : ∀ k, k < zz_N 1 → defaultValue (zz_ft 1 k) = vp_V ((zz_bl 1).map fun f => match f with | none => Value.int 0 | some _ => Value.null) k := by decide +kernel
set_option maxRecDepth 100000 in
theorem zl_1_3 : Cond.methodLink "OneBlanket$Bodies" 3 Lib.objectInit ∈ zz_T := zz_mem 435 (by decide +kernel) (by decide +kernel)
theorem zl_11_61n : Cond.methodLinkNest "OneBlanket" 61 y_Bodies_init "OneBlanket" ∈ zz_nst := by decide
set_option maxRecDepth 100000 in
theorem zci_Bodies_init : zz_MC y_Bodies_init prog_3_method_1_code 1 none 0 ∧ Cond.instanceMethod y_Bodies_init ∈ zz_T := ⟨⟨zz_mem 434 (by decide +kernel) (by decide +kernel), zz_mem 91 (by decide +kernel) (by decide +kernel), ⟨by decide +kernel, by decide +kernel, by decide +kernel⟩, by decide⟩, zz_mem 433 (by decide +kernel) (by decide +kernel)⟩
set_option maxRecDepth 100000 in
theorem zl_11_66 : Cond.classLink "OneBlanket" 66 "OneBlanket$Shelf" ∈ zz_T := zz_mem 453 (by decide +kernel) (by decide +kernel)
theorem zl_11_83n : Cond.methodLinkNest "OneBlanket" 83 y_Text_init "OneBlanket" ∈ zz_nst := by decide
set_option maxRecDepth 100000 in
theorem zin_6 : Cond.instantiable "OneBlanket$Shelf" (zz_N 6) ∈ zz_T := zz_mem 456 (by decide +kernel) (by decide +kernel)
set_option maxRecDepth 100000 in
theorem zit_6 : Cond.initialized "OneBlanket$Shelf" ∈ zz_T := zz_mem 92 (by decide +kernel) (by decide +kernel)
theorem zbl_6 : ∀ k, k < zz_N 6 → defaultValue (zz_ft 6 k) = vp_V ((zz_bl 6).map fun f => match f with | none => Value.int 0 | some _ => Value.null) k := by decide +kernel
set_option maxRecDepth 100000 in
theorem zl_6_3 : Cond.methodLink "OneBlanket$Shelf" 3 Lib.objectInit ∈ zz_T := zz_mem 460 (by decide +kernel) (by decide +kernel)
theorem zl_11_84n : Cond.methodLinkNest "OneBlanket" 84 y_Shelf_init "OneBlanket" ∈ zz_nst := by decide
set_option maxRecDepth 100000 in
theorem zci_Shelf_init : zz_MC y_Shelf_init prog_8_method_1_code 1 none 0 ∧ Cond.instanceMethod y_Shelf_init ∈ zz_T := ⟨⟨zz_mem 459 (by decide +kernel) (by decide +kernel), zz_mem 92 (by decide +kernel) (by decide +kernel), ⟨by decide +kernel, by decide +kernel, by decide +kernel⟩, by decide⟩, zz_mem 458 (by decide +kernel) (by decide +kernel)⟩
set_option maxRecDepth 100000 in
theorem zl_Law_9 : Cond.methodLink "OneBlanketLaw" 9 y_B_init ∈ zz_T := zz_mem 103 (by decide +kernel) (by decide +kernel)
set_option maxRecDepth 100000 in
theorem zci_B_init : zz_MC y_B_init prog_1_method_1_code 2 none 0 ∧ Cond.instanceMethod y_B_init ∈ zz_T := ⟨⟨zz_mem 105 (by decide +kernel) (by decide +kernel), zz_mem 79 (by decide +kernel) (by decide +kernel), ⟨by decide +kernel, by decide +kernel, by decide +kernel⟩, by decide⟩, zz_mem 104 (by decide +kernel) (by decide +kernel)⟩
set_option maxRecDepth 100000 in
theorem zl_Law_10 : Cond.classLink "OneBlanketLaw" 10 "OneBlanketModel" ∈ zz_T := zz_mem 1160 (by decide +kernel) (by decide +kernel)
set_option maxRecDepth 100000 in
theorem zin_12 : Cond.instantiable "OneBlanketModel" (zz_N 12) ∈ zz_T := zz_mem 1161 (by decide +kernel) (by decide +kernel)
set_option maxRecDepth 100000 in
theorem zit_12 : Cond.initialized "OneBlanketModel" ∈ zz_T := zz_mem 93 (by decide +kernel) (by decide +kernel)
theorem zbl_12 : ∀ k, k < zz_N 12 → defaultValue (zz_ft 12 k) = vp_V ((zz_bl 12).map fun f => match f with | none => Value.int 0 | some _ => Value.null) k := by decide +kernel
set_option maxRecDepth 100000 in
theorem zl_12_1 : Cond.methodLink "OneBlanketModel" 1 Lib.objectInit ∈ zz_T := zz_mem 1165 (by decide +kernel) (by decide +kernel)
set_option maxRecDepth 100000 in
theorem zac_1 : Cond.arrayClass (newarray.typeOf .byte) ∈ zz_T := zz_mem 228 (by decide +kernel) (by decide +kernel)
set_option maxRecDepth 100000 in
theorem zac_2 : Cond.arrayClass (newarray.typeOf .short) ∈ zz_T := zz_mem 1355 (by decide +kernel) (by decide +kernel)
set_option maxRecDepth 100000 in
theorem zl_Law_12 : Cond.methodLink "OneBlanketLaw" 12 y_M_init ∈ zz_T := zz_mem 1162 (by decide +kernel) (by decide +kernel)
set_option maxRecDepth 100000 in
theorem zci_M_init : zz_MC y_M_init prog_14_method_1_code 1 none 0 ∧ Cond.instanceMethod y_M_init ∈ zz_T := ⟨⟨zz_mem 1164 (by decide +kernel) (by decide +kernel), zz_mem 93 (by decide +kernel) (by decide +kernel), ⟨by decide +kernel, by decide +kernel, by decide +kernel⟩, by decide⟩, zz_mem 1163 (by decide +kernel) (by decide +kernel)⟩
def zc_0 : List zz_Sh := []
def zg_0 (s : zz_S) : zz_S := s
def zc_1 : List zz_Sh := zc_0 ++ [.inl (11, zz_bl 11)]
def zg_1 (s : zz_S) : zz_S := zz_z (zg_0 s) 0
def zc_2 : List zz_Sh := zc_1 ++ [.inl (0, zz_bl 0)]
def zg_2 (s : zz_S) : zz_S := zz_z (zg_1 s) 1
def zg_3 (s : zz_S) : zz_S := zz_w (zg_2 s) 1 0 (40 : Int32)
def zc_3 : List zz_Sh := zc_2 ++ [.inr (0, 6, [])]
def zg_4 (s : zz_S) : zz_S := zz_z (zg_3 s) 2
def zc_4 : List zz_Sh := zc_3.set 1 (.inl (0, ([none, none, none, some none, some none, some none, some none, some none, some none, some none, some none] : List (Option (Option Nat))).set 3 (some (some 2))))
def zc_5 : List zz_Sh := zc_4 ++ [.inr (0, 6, [])]
def zg_5 (s : zz_S) : zz_S := zz_z (zg_4 s) 3
def zc_6 : List zz_Sh := zc_5.set 1 (.inl (0, ([none, none, none, some (some 2), some none, some none, some none, some none, some none, some none, some none] : List (Option (Option Nat))).set 4 (some (some 3))))
def zc_7 : List zz_Sh := zc_6 ++ [.inr (0, 6, [])]
def zg_6 (s : zz_S) : zz_S := zz_z (zg_5 s) 4
def zc_8 : List zz_Sh := zc_7.set 1 (.inl (0, ([none, none, none, some (some 2), some (some 3), some none, some none, some none, some none, some none, some none] : List (Option (Option Nat))).set 5 (some (some 4))))
def zc_9 : List zz_Sh := zc_8 ++ [.inr (0, 6, [])]
def zg_7 (s : zz_S) : zz_S := zz_z (zg_6 s) 5
def zc_10 : List zz_Sh := zc_9.set 1 (.inl (0, ([none, none, none, some (some 2), some (some 3), some (some 4), some none, some none, some none, some none, some none] : List (Option (Option Nat))).set 6 (some (some 5))))
def zc_11 : List zz_Sh := zc_10 ++ [.inr (0, 3, [])]
def zg_8 (s : zz_S) : zz_S := zz_z (zg_7 s) 6
def zc_12 : List zz_Sh := zc_11.set 1 (.inl (0, ([none, none, none, some (some 2), some (some 3), some (some 4), some (some 5), some none, some none, some none, some none] : List (Option (Option Nat))).set 7 (some (some 6))))
def zc_13 : List zz_Sh := zc_12 ++ [.inr (0, 3, [])]
def zg_9 (s : zz_S) : zz_S := zz_z (zg_8 s) 7
def zc_14 : List zz_Sh := zc_13.set 1 (.inl (0, ([none, none, none, some (some 2), some (some 3), some (some 4), some (some 5), some (some 6), some none, some none, some none] : List (Option (Option Nat))).set 8 (some (some 7))))
def zc_15 : List zz_Sh := zc_14 ++ [.inr (0, 3, [])]
def zg_10 (s : zz_S) : zz_S := zz_z (zg_9 s) 8
def zc_16 : List zz_Sh := zc_15.set 1 (.inl (0, ([none, none, none, some (some 2), some (some 3), some (some 4), some (some 5), some (some 6), some (some 7), some none, some none] : List (Option (Option Nat))).set 9 (some (some 8))))
def zc_17 : List zz_Sh := zc_16 ++ [.inr (0, 3, [])]
def zg_11 (s : zz_S) : zz_S := zz_z (zg_10 s) 9
def zc_18 : List zz_Sh := zc_17.set 1 (.inl (0, ([none, none, none, some (some 2), some (some 3), some (some 4), some (some 5), some (some 6), some (some 7), some (some 8), some none] : List (Option (Option Nat))).set 10 (some (some 9))))
def zc_19 : List zz_Sh := zc_18.set 0 (.inl (11, ([some none, some none, some none, some none, some none, some none, some none, some none, some none, some none, some none, none, none] : List (Option (Option Nat))).set 0 (some (some 1))))
def zc_20 : List zz_Sh := zc_19 ++ [.inl (10, zz_bl 10)]
def zg_12 (s : zz_S) : zz_S := zz_z (zg_11 s) 10
def zc_21 : List zz_Sh := zc_20 ++ [.inr (0, 60, [])]
def zg_13 (s : zz_S) : zz_S := zz_z (zg_12 s) 11
def zc_22 : List zz_Sh := zc_21.set 10 (.inl (10, ([none, some none, some none, some none, some none] : List (Option (Option Nat))).set 1 (some (some 11))))
def zc_23 : List zz_Sh := zc_22 ++ [.inr (0, 60, [])]
def zg_14 (s : zz_S) : zz_S := zz_z (zg_13 s) 12
def zc_24 : List zz_Sh := zc_23.set 10 (.inl (10, ([none, some (some 11), some none, some none, some none] : List (Option (Option Nat))).set 2 (some (some 12))))
def zc_25 : List zz_Sh := zc_24 ++ [.inr (0, 60, [])]
def zg_15 (s : zz_S) : zz_S := zz_z (zg_14 s) 13
def zc_26 : List zz_Sh := zc_25.set 10 (.inl (10, ([none, some (some 11), some (some 12), some none, some none] : List (Option (Option Nat))).set 3 (some (some 13))))
def zc_27 : List zz_Sh := zc_26 ++ [.inr (0, 60, [])]
def zg_16 (s : zz_S) : zz_S := zz_z (zg_15 s) 14
def zc_28 : List zz_Sh := zc_27.set 10 (.inl (10, ([none, some (some 11), some (some 12), some (some 13), some none] : List (Option (Option Nat))).set 4 (some (some 14))))
def zc_29 : List zz_Sh := zc_28.set 0 (.inl (11, ([some (some 1), some none, some none, some none, some none, some none, some none, some none, some none, some none, some none, none, none] : List (Option (Option Nat))).set 1 (some (some 10))))
def zc_30 : List zz_Sh := zc_29 ++ [.inl (5, zz_bl 5)]
def zg_17 (s : zz_S) : zz_S := zz_z (zg_16 s) 15
def zc_31 : List zz_Sh := zc_30 ++ [.inr (0, 480, [])]
def zg_18 (s : zz_S) : zz_S := zz_z (zg_17 s) 16
def zc_32 : List zz_Sh := zc_31.set 15 (.inl (5, ([some none, some none, some none] : List (Option (Option Nat))).set 0 (some (some 16))))
def zc_33 : List zz_Sh := zc_32 ++ [.inr (0, 480, [])]
def zg_19 (s : zz_S) : zz_S := zz_z (zg_18 s) 17
def zc_34 : List zz_Sh := zc_33.set 15 (.inl (5, ([some (some 16), some none, some none] : List (Option (Option Nat))).set 1 (some (some 17))))
def zc_35 : List zz_Sh := zc_34 ++ [.inr (0, 8, [])]
def zg_20 (s : zz_S) : zz_S := zz_z (zg_19 s) 18
def zc_36 : List zz_Sh := zc_35.set 15 (.inl (5, ([some (some 16), some (some 17), some none] : List (Option (Option Nat))).set 2 (some (some 18))))
def zg_21 (s : zz_S) : zz_S := zz_fillI (zg_20 s) 16 480 (10 : Int32)
def zg_22 (s : zz_S) : zz_S := zz_fillI (zg_21 s) 17 480 (480 : Int32)
def zc_37 : List zz_Sh := zc_36.set 0 (.inl (11, ([some (some 1), some (some 10), some none, some none, some none, some none, some none, some none, some none, some none, some none, none, none] : List (Option (Option Nat))).set 2 (some (some 15))))
def zc_38 : List zz_Sh := zc_37 ++ [.inr (4, 4, List.replicate 4 none)]
def zg_23 (s : zz_S) : zz_S := zz_z (zg_22 s) 19
def zc_39 : List zz_Sh := zc_38.set 0 (.inl (11, ([some (some 1), some (some 10), some (some 15), some none, some none, some none, some none, some none, some none, some none, some none, none, none] : List (Option (Option Nat))).set 3 (some (some 19))))
def zc_40 : List zz_Sh := zc_39 ++ [.inl (4, zz_bl 4)]
def zg_24 (s : zz_S) : zz_S := zz_z (zg_23 s) 20
def zc_41 : List zz_Sh := zc_40 ++ [.inl (7, zz_bl 7)]
def zg_25 (s : zz_S) : zz_S := zz_z (zg_24 s) 21
def zc_42 : List zz_Sh := zc_41 ++ [.inr (0, 6, [])]
def zg_26 (s : zz_S) : zz_S := zz_z (zg_25 s) 22
def zc_43 : List zz_Sh := zc_42.set 21 (.inl (7, ([some none, some none, some none, some none, some none, some none] : List (Option (Option Nat))).set 0 (some (some 22))))
def zc_44 : List zz_Sh := zc_43 ++ [.inr (0, 6, [])]
def zg_27 (s : zz_S) : zz_S := zz_z (zg_26 s) 23
def zc_45 : List zz_Sh := zc_44.set 21 (.inl (7, ([some (some 22), some none, some none, some none, some none, some none] : List (Option (Option Nat))).set 1 (some (some 23))))
def zc_46 : List zz_Sh := zc_45 ++ [.inr (0, 6, [])]
def zg_28 (s : zz_S) : zz_S := zz_z (zg_27 s) 24
def zc_47 : List zz_Sh := zc_46.set 21 (.inl (7, ([some (some 22), some (some 23), some none, some none, some none, some none] : List (Option (Option Nat))).set 2 (some (some 24))))
def zc_48 : List zz_Sh := zc_47 ++ [.inr (0, 6, [])]
def zg_29 (s : zz_S) : zz_S := zz_z (zg_28 s) 25
def zc_49 : List zz_Sh := zc_48.set 21 (.inl (7, ([some (some 22), some (some 23), some (some 24), some none, some none, some none] : List (Option (Option Nat))).set 3 (some (some 25))))
def zc_50 : List zz_Sh := zc_49 ++ [.inr (0, 6, [])]
def zg_30 (s : zz_S) : zz_S := zz_z (zg_29 s) 26
def zc_51 : List zz_Sh := zc_50.set 21 (.inl (7, ([some (some 22), some (some 23), some (some 24), some (some 25), some none, some none] : List (Option (Option Nat))).set 4 (some (some 26))))
def zc_52 : List zz_Sh := zc_51 ++ [.inr (0, 6, [])]
def zg_31 (s : zz_S) : zz_S := zz_z (zg_30 s) 27
def zc_53 : List zz_Sh := zc_52.set 21 (.inl (7, ([some (some 22), some (some 23), some (some 24), some (some 25), some (some 26), some none] : List (Option (Option Nat))).set 5 (some (some 27))))
def zc_54 : List zz_Sh := zc_53.set 20 (.inl (4, ([some none, some none, some none, some none, some none, some none, some none, some none, some none, some none, none, none, none, none, none, none, none] : List (Option (Option Nat))).set 5 (some (some 21))))
def zc_55 : List zz_Sh := zc_54 ++ [.inr (0, 18, [])]
def zg_32 (s : zz_S) : zz_S := zz_z (zg_31 s) 28
def zc_56 : List zz_Sh := zc_55.set 20 (.inl (4, ([some none, some none, some none, some none, some none, some (some 21), some none, some none, some none, some none, none, none, none, none, none, none, none] : List (Option (Option Nat))).set 6 (some (some 28))))
def zc_57 : List zz_Sh := zc_56 ++ [.inr (0, 6, [])]
def zg_33 (s : zz_S) : zz_S := zz_z (zg_32 s) 29
def zc_58 : List zz_Sh := zc_57.set 20 (.inl (4, ([some none, some none, some none, some none, some none, some (some 21), some (some 28), some none, some none, some none, none, none, none, none, none, none, none] : List (Option (Option Nat))).set 7 (some (some 29))))
def zc_59 : List zz_Sh := zc_58 ++ [.inr (0, 3, [])]
def zg_34 (s : zz_S) : zz_S := zz_z (zg_33 s) 30
def zc_60 : List zz_Sh := zc_59.set 20 (.inl (4, ([some none, some none, some none, some none, some none, some (some 21), some (some 28), some (some 29), some none, some none, none, none, none, none, none, none, none] : List (Option (Option Nat))).set 8 (some (some 30))))
def zc_61 : List zz_Sh := zc_60 ++ [.inr (0, 8, [])]
def zg_35 (s : zz_S) : zz_S := zz_z (zg_34 s) 31
def zc_62 : List zz_Sh := zc_61.set 20 (.inl (4, ([some none, some none, some none, some none, some none, some (some 21), some (some 28), some (some 29), some (some 30), some none, none, none, none, none, none, none, none] : List (Option (Option Nat))).set 9 (some (some 31))))
def zc_63 : List zz_Sh := zc_62.set 20 (.inl (4, ([some none, some none, some none, some none, some none, some (some 21), some (some 28), some (some 29), some (some 30), some (some 31), none, none, none, none, none, none, none] : List (Option (Option Nat))).set 0 (some (some 1))))
def zc_64 : List zz_Sh := zc_63.set 20 (.inl (4, ([some (some 1), some none, some none, some none, some none, some (some 21), some (some 28), some (some 29), some (some 30), some (some 31), none, none, none, none, none, none, none] : List (Option (Option Nat))).set 1 (some (some 10))))
def zc_65 : List zz_Sh := zc_64.set 20 (.inl (4, ([some (some 1), some (some 10), some none, some none, some none, some (some 21), some (some 28), some (some 29), some (some 30), some (some 31), none, none, none, none, none, none, none] : List (Option (Option Nat))).set 2 (some (some 15))))
def zc_66 : List zz_Sh := zc_65.set 20 (.inl (4, ([some (some 1), some (some 10), some (some 15), some none, some none, some (some 21), some (some 28), some (some 29), some (some 30), some (some 31), none, none, none, none, none, none, none] : List (Option (Option Nat))).set 3 (some (some 19))))
def zc_67 : List zz_Sh := zc_66 ++ [.inl (3, zz_bl 3)]
def zg_36 (s : zz_S) : zz_S := zz_z (zg_35 s) 32
def zc_68 : List zz_Sh := zc_67 ++ [.inr (0, 6, [])]
def zg_37 (s : zz_S) : zz_S := zz_z (zg_36 s) 33
def zc_69 : List zz_Sh := zc_68.set 32 (.inl (3, ([some none, some none, some none, some none, some none, some none, some none] : List (Option (Option Nat))).set 1 (some (some 33))))
def zc_70 : List zz_Sh := zc_69 ++ [.inr (0, 6, [])]
def zg_38 (s : zz_S) : zz_S := zz_z (zg_37 s) 34
def zc_71 : List zz_Sh := zc_70.set 32 (.inl (3, ([some none, some (some 33), some none, some none, some none, some none, some none] : List (Option (Option Nat))).set 2 (some (some 34))))
def zc_72 : List zz_Sh := zc_71 ++ [.inr (0, 6, [])]
def zg_39 (s : zz_S) : zz_S := zz_z (zg_38 s) 35
def zc_73 : List zz_Sh := zc_72.set 32 (.inl (3, ([some none, some (some 33), some (some 34), some none, some none, some none, some none] : List (Option (Option Nat))).set 3 (some (some 35))))
def zc_74 : List zz_Sh := zc_73 ++ [.inr (0, 3, [])]
def zg_40 (s : zz_S) : zz_S := zz_z (zg_39 s) 36
def zc_75 : List zz_Sh := zc_74.set 32 (.inl (3, ([some none, some (some 33), some (some 34), some (some 35), some none, some none, some none] : List (Option (Option Nat))).set 4 (some (some 36))))
def zc_76 : List zz_Sh := zc_75 ++ [.inr (3, 6, [])]
def zg_41 (s : zz_S) : zz_S := zz_z (zg_40 s) 37
def zc_77 : List zz_Sh := zc_76.set 32 (.inl (3, ([some none, some (some 33), some (some 34), some (some 35), some (some 36), some none, some none] : List (Option (Option Nat))).set 5 (some (some 37))))
def zc_78 : List zz_Sh := zc_77 ++ [.inr (3, 3, [])]
def zg_42 (s : zz_S) : zz_S := zz_z (zg_41 s) 38
def zc_79 : List zz_Sh := zc_78.set 32 (.inl (3, ([some none, some (some 33), some (some 34), some (some 35), some (some 36), some (some 37), some none] : List (Option (Option Nat))).set 6 (some (some 38))))
def zc_80 : List zz_Sh := zc_79.set 32 (.inl (3, ([some none, some (some 33), some (some 34), some (some 35), some (some 36), some (some 37), some (some 38)] : List (Option (Option Nat))).set 0 (some (some 1))))
def zc_81 : List zz_Sh := zc_80.set 20 (.inl (4, ([some (some 1), some (some 10), some (some 15), some (some 19), some none, some (some 21), some (some 28), some (some 29), some (some 30), some (some 31), none, none, none, none, none, none, none] : List (Option (Option Nat))).set 4 (some (some 32))))
def zc_82 : List zz_Sh := zc_81.set 0 (.inl (11, ([some (some 1), some (some 10), some (some 15), some (some 19), some none, some none, some none, some none, some none, some none, some none, none, none] : List (Option (Option Nat))).set 4 (some (some 20))))
def zc_83 : List zz_Sh := zc_82 ++ [.inl (2, zz_bl 2)]
def zg_43 (s : zz_S) : zz_S := zz_z (zg_42 s) 39
def zc_84 : List zz_Sh := zc_83 ++ [.inr (0, 40, [])]
def zg_44 (s : zz_S) : zz_S := zz_z (zg_43 s) 40
def zc_85 : List zz_Sh := zc_84.set 39 (.inl (2, ([none, none, some none, some none, some none, some none] : List (Option (Option Nat))).set 2 (some (some 40))))
def zc_86 : List zz_Sh := zc_85 ++ [.inr (0, 40, [])]
def zg_45 (s : zz_S) : zz_S := zz_z (zg_44 s) 41
def zc_87 : List zz_Sh := zc_86.set 39 (.inl (2, ([none, none, some (some 40), some none, some none, some none] : List (Option (Option Nat))).set 3 (some (some 41))))
def zc_88 : List zz_Sh := zc_87 ++ [.inr (0, 40, [])]
def zg_46 (s : zz_S) : zz_S := zz_z (zg_45 s) 42
def zc_89 : List zz_Sh := zc_88.set 39 (.inl (2, ([none, none, some (some 40), some (some 41), some none, some none] : List (Option (Option Nat))).set 4 (some (some 42))))
def zc_90 : List zz_Sh := zc_89 ++ [.inr (0, 40, [])]
def zg_47 (s : zz_S) : zz_S := zz_z (zg_46 s) 43
def zc_91 : List zz_Sh := zc_90.set 39 (.inl (2, ([none, none, some (some 40), some (some 41), some (some 42), some none] : List (Option (Option Nat))).set 5 (some (some 43))))
def zc_92 : List zz_Sh := zc_91.set 0 (.inl (11, ([some (some 1), some (some 10), some (some 15), some (some 19), some (some 20), some none, some none, some none, some none, some none, some none, none, none] : List (Option (Option Nat))).set 5 (some (some 39))))
def zc_93 : List zz_Sh := zc_92 ++ [.inl (8, zz_bl 8)]
def zg_48 (s : zz_S) : zz_S := zz_z (zg_47 s) 44
def zc_94 : List zz_Sh := zc_93 ++ [.inl (9, zz_bl 9)]
def zg_49 (s : zz_S) : zz_S := zz_z (zg_48 s) 45
def zc_95 : List zz_Sh := zc_94 ++ [.inr (0, 121, [])]
def zg_50 (s : zz_S) : zz_S := zz_z (zg_49 s) 46
def zc_96 : List zz_Sh := zc_95.set 45 (.inl (9, ([none, some none, some none] : List (Option (Option Nat))).set 1 (some (some 46))))
def zc_97 : List zz_Sh := zc_96 ++ [.inr (0, 122, [])]
def zg_51 (s : zz_S) : zz_S := zz_z (zg_50 s) 47
def zc_98 : List zz_Sh := zc_97.set 45 (.inl (9, ([none, some (some 46), some none] : List (Option (Option Nat))).set 2 (some (some 47))))
def zc_99 : List zz_Sh := zc_98.set 44 (.inl (8, ([none, some none, some none, none, none] : List (Option (Option Nat))).set 1 (some (some 45))))
def zc_100 : List zz_Sh := zc_99 ++ [.inr (0, 120, [])]
def zg_52 (s : zz_S) : zz_S := zz_z (zg_51 s) 48
def zc_101 : List zz_Sh := zc_100.set 44 (.inl (8, ([none, some (some 45), some none, none, none] : List (Option (Option Nat))).set 2 (some (some 48))))
def zc_102 : List zz_Sh := zc_101.set 0 (.inl (11, ([some (some 1), some (some 10), some (some 15), some (some 19), some (some 20), some (some 39), some none, some none, some none, some none, some none, none, none] : List (Option (Option Nat))).set 6 (some (some 44))))
def zc_103 : List zz_Sh := zc_102 ++ [.inl (1, zz_bl 1)]
def zg_53 (s : zz_S) : zz_S := zz_z (zg_52 s) 49
def zc_104 : List zz_Sh := zc_103 ++ [.inr (0, 50, [])]
def zg_54 (s : zz_S) : zz_S := zz_z (zg_53 s) 50
def zc_105 : List zz_Sh := zc_104.set 49 (.inl (1, ([none, none, some none, some none] : List (Option (Option Nat))).set 2 (some (some 50))))
def zc_106 : List zz_Sh := zc_105 ++ [.inr (0, 24, [])]
def zg_55 (s : zz_S) : zz_S := zz_z (zg_54 s) 51
def zc_107 : List zz_Sh := zc_106.set 49 (.inl (1, ([none, none, some (some 50), some none] : List (Option (Option Nat))).set 3 (some (some 51))))
def zc_108 : List zz_Sh := zc_107.set 0 (.inl (11, ([some (some 1), some (some 10), some (some 15), some (some 19), some (some 20), some (some 39), some (some 44), some none, some none, some none, some none, none, none] : List (Option (Option Nat))).set 7 (some (some 49))))
def zc_109 : List zz_Sh := zc_108 ++ [.inr (5, 6, List.replicate 6 none)]
def zg_56 (s : zz_S) : zz_S := zz_z (zg_55 s) 52
def zc_110 : List zz_Sh := zc_109.set 0 (.inl (11, ([some (some 1), some (some 10), some (some 15), some (some 19), some (some 20), some (some 39), some (some 44), some (some 49), some none, some none, some none, none, none] : List (Option (Option Nat))).set 8 (some (some 52))))
def zc_111 : List zz_Sh := zc_110 ++ [.inr (0, 6, [])]
def zg_57 (s : zz_S) : zz_S := zz_z (zg_56 s) 53
def zc_112 : List zz_Sh := zc_111.set 0 (.inl (11, ([some (some 1), some (some 10), some (some 15), some (some 19), some (some 20), some (some 39), some (some 44), some (some 49), some (some 52), some none, some none, none, none] : List (Option (Option Nat))).set 9 (some (some 53))))
def zc_113 : List zz_Sh := zc_112 ++ [.inr (0, 6, [])]
def zg_58 (s : zz_S) : zz_S := zz_z (zg_57 s) 54
def zc_114 : List zz_Sh := zc_113.set 0 (.inl (11, ([some (some 1), some (some 10), some (some 15), some (some 19), some (some 20), some (some 39), some (some 44), some (some 49), some (some 52), some (some 53), some none, none, none] : List (Option (Option Nat))).set 10 (some (some 54))))
def zg_59 (s : zz_S) : zz_S := zz_w (zg_58 s) 0 12 (-1 : Int32)
def zc_115 : List zz_Sh := zc_114 ++ [.inl (9, zz_bl 9)]
def zg_60 (s : zz_S) : zz_S := zz_z (zg_59 s) 55
def zc_116 : List zz_Sh := zc_115 ++ [.inr (0, 121, [])]
def zg_61 (s : zz_S) : zz_S := zz_z (zg_60 s) 56
def zc_117 : List zz_Sh := zc_116.set 55 (.inl (9, ([none, some none, some none] : List (Option (Option Nat))).set 1 (some (some 56))))
def zc_118 : List zz_Sh := zc_117 ++ [.inr (0, 122, [])]
def zg_62 (s : zz_S) : zz_S := zz_z (zg_61 s) 57
def zc_119 : List zz_Sh := zc_118.set 55 (.inl (9, ([none, some (some 56), some none] : List (Option (Option Nat))).set 2 (some (some 57))))
def zc_120 : List zz_Sh := zc_119.set 19 (.inr (4, 4, ([none, none, none, none] : List (Option Nat)).set 0 (some 55)))
def zc_121 : List zz_Sh := zc_120 ++ [.inl (9, zz_bl 9)]
def zg_63 (s : zz_S) : zz_S := zz_z (zg_62 s) 58
def zc_122 : List zz_Sh := zc_121 ++ [.inr (0, 121, [])]
def zg_64 (s : zz_S) : zz_S := zz_z (zg_63 s) 59
def zc_123 : List zz_Sh := zc_122.set 58 (.inl (9, ([none, some none, some none] : List (Option (Option Nat))).set 1 (some (some 59))))
def zc_124 : List zz_Sh := zc_123 ++ [.inr (0, 122, [])]
def zg_65 (s : zz_S) : zz_S := zz_z (zg_64 s) 60
def zc_125 : List zz_Sh := zc_124.set 58 (.inl (9, ([none, some (some 59), some none] : List (Option (Option Nat))).set 2 (some (some 60))))
def zc_126 : List zz_Sh := zc_125.set 19 (.inr (4, 4, ([some 55, none, none, none] : List (Option Nat)).set 1 (some 58)))
def zc_127 : List zz_Sh := zc_126 ++ [.inl (9, zz_bl 9)]
def zg_66 (s : zz_S) : zz_S := zz_z (zg_65 s) 61
def zc_128 : List zz_Sh := zc_127 ++ [.inr (0, 121, [])]
def zg_67 (s : zz_S) : zz_S := zz_z (zg_66 s) 62
def zc_129 : List zz_Sh := zc_128.set 61 (.inl (9, ([none, some none, some none] : List (Option (Option Nat))).set 1 (some (some 62))))
def zc_130 : List zz_Sh := zc_129 ++ [.inr (0, 122, [])]
def zg_68 (s : zz_S) : zz_S := zz_z (zg_67 s) 63
def zc_131 : List zz_Sh := zc_130.set 61 (.inl (9, ([none, some (some 62), some none] : List (Option (Option Nat))).set 2 (some (some 63))))
def zc_132 : List zz_Sh := zc_131.set 19 (.inr (4, 4, ([some 55, some 58, none, none] : List (Option Nat)).set 2 (some 61)))
def zc_133 : List zz_Sh := zc_132 ++ [.inl (9, zz_bl 9)]
def zg_69 (s : zz_S) : zz_S := zz_z (zg_68 s) 64
def zc_134 : List zz_Sh := zc_133 ++ [.inr (0, 121, [])]
def zg_70 (s : zz_S) : zz_S := zz_z (zg_69 s) 65
def zc_135 : List zz_Sh := zc_134.set 64 (.inl (9, ([none, some none, some none] : List (Option (Option Nat))).set 1 (some (some 65))))
def zc_136 : List zz_Sh := zc_135 ++ [.inr (0, 122, [])]
def zg_71 (s : zz_S) : zz_S := zz_z (zg_70 s) 66
def zc_137 : List zz_Sh := zc_136.set 64 (.inl (9, ([none, some (some 65), some none] : List (Option (Option Nat))).set 2 (some (some 66))))
def zc_138 : List zz_Sh := zc_137.set 19 (.inr (4, 4, ([some 55, some 58, some 61, none] : List (Option Nat)).set 3 (some 64)))
def zc_139 : List zz_Sh := zc_138 ++ [.inl (6, zz_bl 6)]
def zg_72 (s : zz_S) : zz_S := zz_z (zg_71 s) 67
def zg_73 (s : zz_S) : zz_S := zz_w (zg_72 s) 67 0 (0 : Int32)
def zc_140 : List zz_Sh := zc_139 ++ [.inr (3, 60, [])]
def zg_74 (s : zz_S) : zz_S := zz_z (zg_73 s) 68
def zc_141 : List zz_Sh := zc_140.set 67 (.inl (6, ([none, none, none, none, some none] : List (Option (Option Nat))).set 4 (some (some 68))))
def zc_142 : List zz_Sh := zc_141.set 52 (.inr (5, 6, ([none, none, none, none, none, none] : List (Option Nat)).set 0 (some 67)))
def zc_143 : List zz_Sh := zc_142 ++ [.inl (6, zz_bl 6)]
def zg_75 (s : zz_S) : zz_S := zz_z (zg_74 s) 69
def zg_76 (s : zz_S) : zz_S := zz_w (zg_75 s) 69 0 (0 : Int32)
def zc_144 : List zz_Sh := zc_143 ++ [.inr (3, 60, [])]
def zg_77 (s : zz_S) : zz_S := zz_z (zg_76 s) 70
def zc_145 : List zz_Sh := zc_144.set 69 (.inl (6, ([none, none, none, none, some none] : List (Option (Option Nat))).set 4 (some (some 70))))
def zc_146 : List zz_Sh := zc_145.set 52 (.inr (5, 6, ([some 67, none, none, none, none, none] : List (Option Nat)).set 1 (some 69)))
def zc_147 : List zz_Sh := zc_146 ++ [.inl (6, zz_bl 6)]
def zg_78 (s : zz_S) : zz_S := zz_z (zg_77 s) 71
def zg_79 (s : zz_S) : zz_S := zz_w (zg_78 s) 71 0 (0 : Int32)
def zc_148 : List zz_Sh := zc_147 ++ [.inr (3, 60, [])]
def zg_80 (s : zz_S) : zz_S := zz_z (zg_79 s) 72
def zc_149 : List zz_Sh := zc_148.set 71 (.inl (6, ([none, none, none, none, some none] : List (Option (Option Nat))).set 4 (some (some 72))))
def zc_150 : List zz_Sh := zc_149.set 52 (.inr (5, 6, ([some 67, some 69, none, none, none, none] : List (Option Nat)).set 2 (some 71)))
def zc_151 : List zz_Sh := zc_150 ++ [.inl (6, zz_bl 6)]
def zg_81 (s : zz_S) : zz_S := zz_z (zg_80 s) 73
def zg_82 (s : zz_S) : zz_S := zz_w (zg_81 s) 73 0 (0 : Int32)
def zc_152 : List zz_Sh := zc_151 ++ [.inr (3, 60, [])]
def zg_83 (s : zz_S) : zz_S := zz_z (zg_82 s) 74
def zc_153 : List zz_Sh := zc_152.set 73 (.inl (6, ([none, none, none, none, some none] : List (Option (Option Nat))).set 4 (some (some 74))))
def zc_154 : List zz_Sh := zc_153.set 52 (.inr (5, 6, ([some 67, some 69, some 71, none, none, none] : List (Option Nat)).set 3 (some 73)))
def zc_155 : List zz_Sh := zc_154 ++ [.inl (6, zz_bl 6)]
def zg_84 (s : zz_S) : zz_S := zz_z (zg_83 s) 75
def zg_85 (s : zz_S) : zz_S := zz_w (zg_84 s) 75 0 (0 : Int32)
def zc_156 : List zz_Sh := zc_155 ++ [.inr (3, 60, [])]
def zg_86 (s : zz_S) : zz_S := zz_z (zg_85 s) 76
def zc_157 : List zz_Sh := zc_156.set 75 (.inl (6, ([none, none, none, none, some none] : List (Option (Option Nat))).set 4 (some (some 76))))
def zc_158 : List zz_Sh := zc_157.set 52 (.inr (5, 6, ([some 67, some 69, some 71, some 73, none, none] : List (Option Nat)).set 4 (some 75)))
def zc_159 : List zz_Sh := zc_158 ++ [.inl (6, zz_bl 6)]
def zg_87 (s : zz_S) : zz_S := zz_z (zg_86 s) 77
def zg_88 (s : zz_S) : zz_S := zz_w (zg_87 s) 77 0 (0 : Int32)
def zc_160 : List zz_Sh := zc_159 ++ [.inr (3, 60, [])]
def zg_89 (s : zz_S) : zz_S := zz_z (zg_88 s) 78
def zc_161 : List zz_Sh := zc_160.set 77 (.inl (6, ([none, none, none, none, some none] : List (Option (Option Nat))).set 4 (some (some 78))))
def zc_162 : List zz_Sh := zc_161.set 52 (.inr (5, 6, ([some 67, some 69, some 71, some 73, some 75, none] : List (Option Nat)).set 5 (some 77)))
def zc_163 : List zz_Sh := zc_162 ++ [.inl (12, zz_bl 12)]
def zg_90 (s : zz_S) : zz_S := zz_z (zg_89 s) 79
def zg_91 (s : zz_S) : zz_S := zz_w (zg_90 s) 79 1 (40 : Int32)
def zc_164 : List zz_Sh := zc_163 ++ [.inr (0, 6, [])]
def zg_92 (s : zz_S) : zz_S := zz_z (zg_91 s) 80
def zc_165 : List zz_Sh := zc_164.set 79 (.inl (12, ([none, none, none, some none, some none, some none, some none, none, some none, some none, some none, some none, none, some none, some none, some none, none, none, some none, some none, some none, some none, some none, none, none, none, none, none, some none, some none, some none, some none, some none, some none, some none, none, none, none, none, some none, some none, some none, some none, some none, some none, some none, some none, some none, some none, some none, some none, none, some none, some none, none, none, some none, none, some none, some none, some none, some none, some none] : List (Option (Option Nat))).set 3 (some (some 80))))
def zc_166 : List zz_Sh := zc_165 ++ [.inr (0, 6, [])]
def zg_93 (s : zz_S) : zz_S := zz_z (zg_92 s) 81
def zc_167 : List zz_Sh := zc_166.set 79 (.inl (12, ([none, none, none, some (some 80), some none, some none, some none, none, some none, some none, some none, some none, none, some none, some none, some none, none, none, some none, some none, some none, some none, some none, none, none, none, none, none, some none, some none, some none, some none, some none, some none, some none, none, none, none, none, some none, some none, some none, some none, some none, some none, some none, some none, some none, some none, some none, some none, none, some none, some none, none, none, some none, none, some none, some none, some none, some none, some none] : List (Option (Option Nat))).set 4 (some (some 81))))
def zc_168 : List zz_Sh := zc_167 ++ [.inr (0, 6, [])]
def zg_94 (s : zz_S) : zz_S := zz_z (zg_93 s) 82
def zc_169 : List zz_Sh := zc_168.set 79 (.inl (12, ([none, none, none, some (some 80), some (some 81), some none, some none, none, some none, some none, some none, some none, none, some none, some none, some none, none, none, some none, some none, some none, some none, some none, none, none, none, none, none, some none, some none, some none, some none, some none, some none, some none, none, none, none, none, some none, some none, some none, some none, some none, some none, some none, some none, some none, some none, some none, some none, none, some none, some none, none, none, some none, none, some none, some none, some none, some none, some none] : List (Option (Option Nat))).set 5 (some (some 82))))
def zc_170 : List zz_Sh := zc_169 ++ [.inr (0, 6, [])]
def zg_95 (s : zz_S) : zz_S := zz_z (zg_94 s) 83
def zc_171 : List zz_Sh := zc_170.set 79 (.inl (12, ([none, none, none, some (some 80), some (some 81), some (some 82), some none, none, some none, some none, some none, some none, none, some none, some none, some none, none, none, some none, some none, some none, some none, some none, none, none, none, none, none, some none, some none, some none, some none, some none, some none, some none, none, none, none, none, some none, some none, some none, some none, some none, some none, some none, some none, some none, some none, some none, some none, none, some none, some none, none, none, some none, none, some none, some none, some none, some none, some none] : List (Option (Option Nat))).set 6 (some (some 83))))
def zc_172 : List zz_Sh := zc_171 ++ [.inr (0, 3, [])]
def zg_96 (s : zz_S) : zz_S := zz_z (zg_95 s) 84
def zc_173 : List zz_Sh := zc_172.set 79 (.inl (12, ([none, none, none, some (some 80), some (some 81), some (some 82), some (some 83), none, some none, some none, some none, some none, none, some none, some none, some none, none, none, some none, some none, some none, some none, some none, none, none, none, none, none, some none, some none, some none, some none, some none, some none, some none, none, none, none, none, some none, some none, some none, some none, some none, some none, some none, some none, some none, some none, some none, some none, none, some none, some none, none, none, some none, none, some none, some none, some none, some none, some none] : List (Option (Option Nat))).set 8 (some (some 84))))
def zc_174 : List zz_Sh := zc_173 ++ [.inr (0, 3, [])]
def zg_97 (s : zz_S) : zz_S := zz_z (zg_96 s) 85
def zc_175 : List zz_Sh := zc_174.set 79 (.inl (12, ([none, none, none, some (some 80), some (some 81), some (some 82), some (some 83), none, some (some 84), some none, some none, some none, none, some none, some none, some none, none, none, some none, some none, some none, some none, some none, none, none, none, none, none, some none, some none, some none, some none, some none, some none, some none, none, none, none, none, some none, some none, some none, some none, some none, some none, some none, some none, some none, some none, some none, some none, none, some none, some none, none, none, some none, none, some none, some none, some none, some none, some none] : List (Option (Option Nat))).set 9 (some (some 85))))
def zc_176 : List zz_Sh := zc_175 ++ [.inr (0, 3, [])]
def zg_98 (s : zz_S) : zz_S := zz_z (zg_97 s) 86
def zc_177 : List zz_Sh := zc_176.set 79 (.inl (12, ([none, none, none, some (some 80), some (some 81), some (some 82), some (some 83), none, some (some 84), some (some 85), some none, some none, none, some none, some none, some none, none, none, some none, some none, some none, some none, some none, none, none, none, none, none, some none, some none, some none, some none, some none, some none, some none, none, none, none, none, some none, some none, some none, some none, some none, some none, some none, some none, some none, some none, some none, some none, none, some none, some none, none, none, some none, none, some none, some none, some none, some none, some none] : List (Option (Option Nat))).set 10 (some (some 86))))
def zc_178 : List zz_Sh := zc_177 ++ [.inr (0, 3, [])]
def zg_99 (s : zz_S) : zz_S := zz_z (zg_98 s) 87
def zc_179 : List zz_Sh := zc_178.set 79 (.inl (12, ([none, none, none, some (some 80), some (some 81), some (some 82), some (some 83), none, some (some 84), some (some 85), some (some 86), some none, none, some none, some none, some none, none, none, some none, some none, some none, some none, some none, none, none, none, none, none, some none, some none, some none, some none, some none, some none, some none, none, none, none, none, some none, some none, some none, some none, some none, some none, some none, some none, some none, some none, some none, some none, none, some none, some none, none, none, some none, none, some none, some none, some none, some none, some none] : List (Option (Option Nat))).set 11 (some (some 87))))
def zc_180 : List zz_Sh := zc_179 ++ [.inr (0, 60, [])]
def zg_100 (s : zz_S) : zz_S := zz_z (zg_99 s) 88
def zc_181 : List zz_Sh := zc_180.set 79 (.inl (12, ([none, none, none, some (some 80), some (some 81), some (some 82), some (some 83), none, some (some 84), some (some 85), some (some 86), some (some 87), none, some none, some none, some none, none, none, some none, some none, some none, some none, some none, none, none, none, none, none, some none, some none, some none, some none, some none, some none, some none, none, none, none, none, some none, some none, some none, some none, some none, some none, some none, some none, some none, some none, some none, some none, none, some none, some none, none, none, some none, none, some none, some none, some none, some none, some none] : List (Option (Option Nat))).set 13 (some (some 88))))
def zc_182 : List zz_Sh := zc_181 ++ [.inr (0, 60, [])]
def zg_101 (s : zz_S) : zz_S := zz_z (zg_100 s) 89
def zc_183 : List zz_Sh := zc_182.set 79 (.inl (12, ([none, none, none, some (some 80), some (some 81), some (some 82), some (some 83), none, some (some 84), some (some 85), some (some 86), some (some 87), none, some (some 88), some none, some none, none, none, some none, some none, some none, some none, some none, none, none, none, none, none, some none, some none, some none, some none, some none, some none, some none, none, none, none, none, some none, some none, some none, some none, some none, some none, some none, some none, some none, some none, some none, some none, none, some none, some none, none, none, some none, none, some none, some none, some none, some none, some none] : List (Option (Option Nat))).set 14 (some (some 89))))
def zc_184 : List zz_Sh := zc_183 ++ [.inr (0, 60, [])]
def zg_102 (s : zz_S) : zz_S := zz_z (zg_101 s) 90
def zc_185 : List zz_Sh := zc_184.set 79 (.inl (12, ([none, none, none, some (some 80), some (some 81), some (some 82), some (some 83), none, some (some 84), some (some 85), some (some 86), some (some 87), none, some (some 88), some (some 89), some none, none, none, some none, some none, some none, some none, some none, none, none, none, none, none, some none, some none, some none, some none, some none, some none, some none, none, none, none, none, some none, some none, some none, some none, some none, some none, some none, some none, some none, some none, some none, some none, none, some none, some none, none, none, some none, none, some none, some none, some none, some none, some none] : List (Option (Option Nat))).set 15 (some (some 90))))
def zc_186 : List zz_Sh := zc_185 ++ [.inr (0, 40, [])]
def zg_103 (s : zz_S) : zz_S := zz_z (zg_102 s) 91
def zc_187 : List zz_Sh := zc_186.set 79 (.inl (12, ([none, none, none, some (some 80), some (some 81), some (some 82), some (some 83), none, some (some 84), some (some 85), some (some 86), some (some 87), none, some (some 88), some (some 89), some (some 90), none, none, some none, some none, some none, some none, some none, none, none, none, none, none, some none, some none, some none, some none, some none, some none, some none, none, none, none, none, some none, some none, some none, some none, some none, some none, some none, some none, some none, some none, some none, some none, none, some none, some none, none, none, some none, none, some none, some none, some none, some none, some none] : List (Option (Option Nat))).set 18 (some (some 91))))
def zc_188 : List zz_Sh := zc_187 ++ [.inr (0, 40, [])]
def zg_104 (s : zz_S) : zz_S := zz_z (zg_103 s) 92
def zc_189 : List zz_Sh := zc_188.set 79 (.inl (12, ([none, none, none, some (some 80), some (some 81), some (some 82), some (some 83), none, some (some 84), some (some 85), some (some 86), some (some 87), none, some (some 88), some (some 89), some (some 90), none, none, some (some 91), some none, some none, some none, some none, none, none, none, none, none, some none, some none, some none, some none, some none, some none, some none, none, none, none, none, some none, some none, some none, some none, some none, some none, some none, some none, some none, some none, some none, some none, none, some none, some none, none, none, some none, none, some none, some none, some none, some none, some none] : List (Option (Option Nat))).set 19 (some (some 92))))
def zc_190 : List zz_Sh := zc_189 ++ [.inr (0, 40, [])]
def zg_105 (s : zz_S) : zz_S := zz_z (zg_104 s) 93
def zc_191 : List zz_Sh := zc_190.set 79 (.inl (12, ([none, none, none, some (some 80), some (some 81), some (some 82), some (some 83), none, some (some 84), some (some 85), some (some 86), some (some 87), none, some (some 88), some (some 89), some (some 90), none, none, some (some 91), some (some 92), some none, some none, some none, none, none, none, none, none, some none, some none, some none, some none, some none, some none, some none, none, none, none, none, some none, some none, some none, some none, some none, some none, some none, some none, some none, some none, some none, some none, none, some none, some none, none, none, some none, none, some none, some none, some none, some none, some none] : List (Option (Option Nat))).set 20 (some (some 93))))
def zc_192 : List zz_Sh := zc_191 ++ [.inr (0, 40, [])]
def zg_106 (s : zz_S) : zz_S := zz_z (zg_105 s) 94
def zc_193 : List zz_Sh := zc_192.set 79 (.inl (12, ([none, none, none, some (some 80), some (some 81), some (some 82), some (some 83), none, some (some 84), some (some 85), some (some 86), some (some 87), none, some (some 88), some (some 89), some (some 90), none, none, some (some 91), some (some 92), some (some 93), some none, some none, none, none, none, none, none, some none, some none, some none, some none, some none, some none, some none, none, none, none, none, some none, some none, some none, some none, some none, some none, some none, some none, some none, some none, some none, some none, none, some none, some none, none, none, some none, none, some none, some none, some none, some none, some none] : List (Option (Option Nat))).set 21 (some (some 94))))
def zc_194 : List zz_Sh := zc_193 ++ [.inr (1, 120, [])]
def zg_107 (s : zz_S) : zz_S := zz_z (zg_106 s) 95
def zc_195 : List zz_Sh := zc_194.set 79 (.inl (12, ([none, none, none, some (some 80), some (some 81), some (some 82), some (some 83), none, some (some 84), some (some 85), some (some 86), some (some 87), none, some (some 88), some (some 89), some (some 90), none, none, some (some 91), some (some 92), some (some 93), some (some 94), some none, none, none, none, none, none, some none, some none, some none, some none, some none, some none, some none, none, none, none, none, some none, some none, some none, some none, some none, some none, some none, some none, some none, some none, some none, some none, none, some none, some none, none, none, some none, none, some none, some none, some none, some none, some none] : List (Option (Option Nat))).set 22 (some (some 95))))
def zc_196 : List zz_Sh := zc_195 ++ [.inr (1, 780, [])]
def zg_108 (s : zz_S) : zz_S := zz_z (zg_107 s) 96
def zc_197 : List zz_Sh := zc_196.set 79 (.inl (12, ([none, none, none, some (some 80), some (some 81), some (some 82), some (some 83), none, some (some 84), some (some 85), some (some 86), some (some 87), none, some (some 88), some (some 89), some (some 90), none, none, some (some 91), some (some 92), some (some 93), some (some 94), some (some 95), none, none, none, none, none, some none, some none, some none, some none, some none, some none, some none, none, none, none, none, some none, some none, some none, some none, some none, some none, some none, some none, some none, some none, some none, some none, none, some none, some none, none, none, some none, none, some none, some none, some none, some none, some none] : List (Option (Option Nat))).set 28 (some (some 96))))
def zc_198 : List zz_Sh := zc_197 ++ [.inr (0, 780, [])]
def zg_109 (s : zz_S) : zz_S := zz_z (zg_108 s) 97
def zc_199 : List zz_Sh := zc_198.set 79 (.inl (12, ([none, none, none, some (some 80), some (some 81), some (some 82), some (some 83), none, some (some 84), some (some 85), some (some 86), some (some 87), none, some (some 88), some (some 89), some (some 90), none, none, some (some 91), some (some 92), some (some 93), some (some 94), some (some 95), none, none, none, none, none, some (some 96), some none, some none, some none, some none, some none, some none, none, none, none, none, some none, some none, some none, some none, some none, some none, some none, some none, some none, some none, some none, some none, none, some none, some none, none, none, some none, none, some none, some none, some none, some none, some none] : List (Option (Option Nat))).set 29 (some (some 97))))
def zc_200 : List zz_Sh := zc_199 ++ [.inr (0, 6, [])]
def zg_110 (s : zz_S) : zz_S := zz_z (zg_109 s) 98
def zc_201 : List zz_Sh := zc_200.set 79 (.inl (12, ([none, none, none, some (some 80), some (some 81), some (some 82), some (some 83), none, some (some 84), some (some 85), some (some 86), some (some 87), none, some (some 88), some (some 89), some (some 90), none, none, some (some 91), some (some 92), some (some 93), some (some 94), some (some 95), none, none, none, none, none, some (some 96), some (some 97), some none, some none, some none, some none, some none, none, none, none, none, some none, some none, some none, some none, some none, some none, some none, some none, some none, some none, some none, some none, none, some none, some none, none, none, some none, none, some none, some none, some none, some none, some none] : List (Option (Option Nat))).set 30 (some (some 98))))
def zc_202 : List zz_Sh := zc_201 ++ [.inr (2, 366, [])]
def zg_111 (s : zz_S) : zz_S := zz_z (zg_110 s) 99
def zc_203 : List zz_Sh := zc_202.set 79 (.inl (12, ([none, none, none, some (some 80), some (some 81), some (some 82), some (some 83), none, some (some 84), some (some 85), some (some 86), some (some 87), none, some (some 88), some (some 89), some (some 90), none, none, some (some 91), some (some 92), some (some 93), some (some 94), some (some 95), none, none, none, none, none, some (some 96), some (some 97), some (some 98), some none, some none, some none, some none, none, none, none, none, some none, some none, some none, some none, some none, some none, some none, some none, some none, some none, some none, some none, none, some none, some none, none, none, some none, none, some none, some none, some none, some none, some none] : List (Option (Option Nat))).set 31 (some (some 99))))
def zc_204 : List zz_Sh := zc_203 ++ [.inr (2, 366, [])]
def zg_112 (s : zz_S) : zz_S := zz_z (zg_111 s) 100
def zc_205 : List zz_Sh := zc_204.set 79 (.inl (12, ([none, none, none, some (some 80), some (some 81), some (some 82), some (some 83), none, some (some 84), some (some 85), some (some 86), some (some 87), none, some (some 88), some (some 89), some (some 90), none, none, some (some 91), some (some 92), some (some 93), some (some 94), some (some 95), none, none, none, none, none, some (some 96), some (some 97), some (some 98), some (some 99), some none, some none, some none, none, none, none, none, some none, some none, some none, some none, some none, some none, some none, some none, some none, some none, some none, some none, none, some none, some none, none, none, some none, none, some none, some none, some none, some none, some none] : List (Option (Option Nat))).set 32 (some (some 100))))
def zc_206 : List zz_Sh := zc_205 ++ [.inr (0, 8, [])]
def zg_113 (s : zz_S) : zz_S := zz_z (zg_112 s) 101
def zc_207 : List zz_Sh := zc_206.set 79 (.inl (12, ([none, none, none, some (some 80), some (some 81), some (some 82), some (some 83), none, some (some 84), some (some 85), some (some 86), some (some 87), none, some (some 88), some (some 89), some (some 90), none, none, some (some 91), some (some 92), some (some 93), some (some 94), some (some 95), none, none, none, none, none, some (some 96), some (some 97), some (some 98), some (some 99), some (some 100), some none, some none, none, none, none, none, some none, some none, some none, some none, some none, some none, some none, some none, some none, some none, some none, some none, none, some none, some none, none, none, some none, none, some none, some none, some none, some none, some none] : List (Option (Option Nat))).set 33 (some (some 101))))
def zc_208 : List zz_Sh := zc_207 ++ [.inr (0, 130, [])]
def zg_114 (s : zz_S) : zz_S := zz_z (zg_113 s) 102
def zc_209 : List zz_Sh := zc_208.set 79 (.inl (12, ([none, none, none, some (some 80), some (some 81), some (some 82), some (some 83), none, some (some 84), some (some 85), some (some 86), some (some 87), none, some (some 88), some (some 89), some (some 90), none, none, some (some 91), some (some 92), some (some 93), some (some 94), some (some 95), none, none, none, none, none, some (some 96), some (some 97), some (some 98), some (some 99), some (some 100), some (some 101), some none, none, none, none, none, some none, some none, some none, some none, some none, some none, some none, some none, some none, some none, some none, some none, none, some none, some none, none, none, some none, none, some none, some none, some none, some none, some none] : List (Option (Option Nat))).set 34 (some (some 102))))
def zg_115 (s : zz_S) : zz_S := zz_w (zg_114 s) 79 36 (-1 : Int32)
def zc_210 : List zz_Sh := zc_209 ++ [.inr (0, 6, [])]
def zg_116 (s : zz_S) : zz_S := zz_z (zg_115 s) 103
def zc_211 : List zz_Sh := zc_210.set 79 (.inl (12, ([none, none, none, some (some 80), some (some 81), some (some 82), some (some 83), none, some (some 84), some (some 85), some (some 86), some (some 87), none, some (some 88), some (some 89), some (some 90), none, none, some (some 91), some (some 92), some (some 93), some (some 94), some (some 95), none, none, none, none, none, some (some 96), some (some 97), some (some 98), some (some 99), some (some 100), some (some 101), some (some 102), none, none, none, none, some none, some none, some none, some none, some none, some none, some none, some none, some none, some none, some none, some none, none, some none, some none, none, none, some none, none, some none, some none, some none, some none, some none] : List (Option (Option Nat))).set 39 (some (some 103))))
def zc_212 : List zz_Sh := zc_211 ++ [.inr (0, 3, [])]
def zg_117 (s : zz_S) : zz_S := zz_z (zg_116 s) 104
def zc_213 : List zz_Sh := zc_212.set 79 (.inl (12, ([none, none, none, some (some 80), some (some 81), some (some 82), some (some 83), none, some (some 84), some (some 85), some (some 86), some (some 87), none, some (some 88), some (some 89), some (some 90), none, none, some (some 91), some (some 92), some (some 93), some (some 94), some (some 95), none, none, none, none, none, some (some 96), some (some 97), some (some 98), some (some 99), some (some 100), some (some 101), some (some 102), none, none, none, none, some (some 103), some none, some none, some none, some none, some none, some none, some none, some none, some none, some none, some none, none, some none, some none, none, none, some none, none, some none, some none, some none, some none, some none] : List (Option (Option Nat))).set 40 (some (some 104))))
def zc_214 : List zz_Sh := zc_213 ++ [.inr (0, 6, [])]
def zg_118 (s : zz_S) : zz_S := zz_z (zg_117 s) 105
def zc_215 : List zz_Sh := zc_214.set 79 (.inl (12, ([none, none, none, some (some 80), some (some 81), some (some 82), some (some 83), none, some (some 84), some (some 85), some (some 86), some (some 87), none, some (some 88), some (some 89), some (some 90), none, none, some (some 91), some (some 92), some (some 93), some (some 94), some (some 95), none, none, none, none, none, some (some 96), some (some 97), some (some 98), some (some 99), some (some 100), some (some 101), some (some 102), none, none, none, none, some (some 103), some (some 104), some none, some none, some none, some none, some none, some none, some none, some none, some none, some none, none, some none, some none, none, none, some none, none, some none, some none, some none, some none, some none] : List (Option (Option Nat))).set 41 (some (some 105))))
def zc_216 : List zz_Sh := zc_215 ++ [.inr (0, 3, [])]
def zg_119 (s : zz_S) : zz_S := zz_z (zg_118 s) 106
def zc_217 : List zz_Sh := zc_216.set 79 (.inl (12, ([none, none, none, some (some 80), some (some 81), some (some 82), some (some 83), none, some (some 84), some (some 85), some (some 86), some (some 87), none, some (some 88), some (some 89), some (some 90), none, none, some (some 91), some (some 92), some (some 93), some (some 94), some (some 95), none, none, none, none, none, some (some 96), some (some 97), some (some 98), some (some 99), some (some 100), some (some 101), some (some 102), none, none, none, none, some (some 103), some (some 104), some (some 105), some none, some none, some none, some none, some none, some none, some none, some none, some none, none, some none, some none, none, none, some none, none, some none, some none, some none, some none, some none] : List (Option (Option Nat))).set 42 (some (some 106))))
def zc_218 : List zz_Sh := zc_217 ++ [.inr (0, 6, [])]
def zg_120 (s : zz_S) : zz_S := zz_z (zg_119 s) 107
def zc_219 : List zz_Sh := zc_218.set 79 (.inl (12, ([none, none, none, some (some 80), some (some 81), some (some 82), some (some 83), none, some (some 84), some (some 85), some (some 86), some (some 87), none, some (some 88), some (some 89), some (some 90), none, none, some (some 91), some (some 92), some (some 93), some (some 94), some (some 95), none, none, none, none, none, some (some 96), some (some 97), some (some 98), some (some 99), some (some 100), some (some 101), some (some 102), none, none, none, none, some (some 103), some (some 104), some (some 105), some (some 106), some none, some none, some none, some none, some none, some none, some none, some none, none, some none, some none, none, none, some none, none, some none, some none, some none, some none, some none] : List (Option (Option Nat))).set 43 (some (some 107))))
def zc_220 : List zz_Sh := zc_219 ++ [.inr (0, 6, [])]
def zg_121 (s : zz_S) : zz_S := zz_z (zg_120 s) 108
def zc_221 : List zz_Sh := zc_220.set 79 (.inl (12, ([none, none, none, some (some 80), some (some 81), some (some 82), some (some 83), none, some (some 84), some (some 85), some (some 86), some (some 87), none, some (some 88), some (some 89), some (some 90), none, none, some (some 91), some (some 92), some (some 93), some (some 94), some (some 95), none, none, none, none, none, some (some 96), some (some 97), some (some 98), some (some 99), some (some 100), some (some 101), some (some 102), none, none, none, none, some (some 103), some (some 104), some (some 105), some (some 106), some (some 107), some none, some none, some none, some none, some none, some none, some none, none, some none, some none, none, none, some none, none, some none, some none, some none, some none, some none] : List (Option (Option Nat))).set 44 (some (some 108))))
def zc_222 : List zz_Sh := zc_221 ++ [.inr (0, 6, [])]
def zg_122 (s : zz_S) : zz_S := zz_z (zg_121 s) 109
def zc_223 : List zz_Sh := zc_222.set 79 (.inl (12, ([none, none, none, some (some 80), some (some 81), some (some 82), some (some 83), none, some (some 84), some (some 85), some (some 86), some (some 87), none, some (some 88), some (some 89), some (some 90), none, none, some (some 91), some (some 92), some (some 93), some (some 94), some (some 95), none, none, none, none, none, some (some 96), some (some 97), some (some 98), some (some 99), some (some 100), some (some 101), some (some 102), none, none, none, none, some (some 103), some (some 104), some (some 105), some (some 106), some (some 107), some (some 108), some none, some none, some none, some none, some none, some none, none, some none, some none, none, none, some none, none, some none, some none, some none, some none, some none] : List (Option (Option Nat))).set 45 (some (some 109))))
def zc_224 : List zz_Sh := zc_223 ++ [.inr (0, 6, [])]
def zg_123 (s : zz_S) : zz_S := zz_z (zg_122 s) 110
def zc_225 : List zz_Sh := zc_224.set 79 (.inl (12, ([none, none, none, some (some 80), some (some 81), some (some 82), some (some 83), none, some (some 84), some (some 85), some (some 86), some (some 87), none, some (some 88), some (some 89), some (some 90), none, none, some (some 91), some (some 92), some (some 93), some (some 94), some (some 95), none, none, none, none, none, some (some 96), some (some 97), some (some 98), some (some 99), some (some 100), some (some 101), some (some 102), none, none, none, none, some (some 103), some (some 104), some (some 105), some (some 106), some (some 107), some (some 108), some (some 109), some none, some none, some none, some none, some none, none, some none, some none, none, none, some none, none, some none, some none, some none, some none, some none] : List (Option (Option Nat))).set 46 (some (some 110))))
def zc_226 : List zz_Sh := zc_225 ++ [.inr (0, 6, [])]
def zg_124 (s : zz_S) : zz_S := zz_z (zg_123 s) 111
def zc_227 : List zz_Sh := zc_226.set 79 (.inl (12, ([none, none, none, some (some 80), some (some 81), some (some 82), some (some 83), none, some (some 84), some (some 85), some (some 86), some (some 87), none, some (some 88), some (some 89), some (some 90), none, none, some (some 91), some (some 92), some (some 93), some (some 94), some (some 95), none, none, none, none, none, some (some 96), some (some 97), some (some 98), some (some 99), some (some 100), some (some 101), some (some 102), none, none, none, none, some (some 103), some (some 104), some (some 105), some (some 106), some (some 107), some (some 108), some (some 109), some (some 110), some none, some none, some none, some none, none, some none, some none, none, none, some none, none, some none, some none, some none, some none, some none] : List (Option (Option Nat))).set 47 (some (some 111))))
def zc_228 : List zz_Sh := zc_227 ++ [.inr (0, 6, [])]
def zg_125 (s : zz_S) : zz_S := zz_z (zg_124 s) 112
def zc_229 : List zz_Sh := zc_228.set 79 (.inl (12, ([none, none, none, some (some 80), some (some 81), some (some 82), some (some 83), none, some (some 84), some (some 85), some (some 86), some (some 87), none, some (some 88), some (some 89), some (some 90), none, none, some (some 91), some (some 92), some (some 93), some (some 94), some (some 95), none, none, none, none, none, some (some 96), some (some 97), some (some 98), some (some 99), some (some 100), some (some 101), some (some 102), none, none, none, none, some (some 103), some (some 104), some (some 105), some (some 106), some (some 107), some (some 108), some (some 109), some (some 110), some (some 111), some none, some none, some none, none, some none, some none, none, none, some none, none, some none, some none, some none, some none, some none] : List (Option (Option Nat))).set 48 (some (some 112))))
def zc_230 : List zz_Sh := zc_229 ++ [.inr (0, 18, [])]
def zg_126 (s : zz_S) : zz_S := zz_z (zg_125 s) 113
def zc_231 : List zz_Sh := zc_230.set 79 (.inl (12, ([none, none, none, some (some 80), some (some 81), some (some 82), some (some 83), none, some (some 84), some (some 85), some (some 86), some (some 87), none, some (some 88), some (some 89), some (some 90), none, none, some (some 91), some (some 92), some (some 93), some (some 94), some (some 95), none, none, none, none, none, some (some 96), some (some 97), some (some 98), some (some 99), some (some 100), some (some 101), some (some 102), none, none, none, none, some (some 103), some (some 104), some (some 105), some (some 106), some (some 107), some (some 108), some (some 109), some (some 110), some (some 111), some (some 112), some none, some none, none, some none, some none, none, none, some none, none, some none, some none, some none, some none, some none] : List (Option (Option Nat))).set 49 (some (some 113))))
def zc_232 : List zz_Sh := zc_231 ++ [.inr (0, 6, [])]
def zg_127 (s : zz_S) : zz_S := zz_z (zg_126 s) 114
def zc_233 : List zz_Sh := zc_232.set 79 (.inl (12, ([none, none, none, some (some 80), some (some 81), some (some 82), some (some 83), none, some (some 84), some (some 85), some (some 86), some (some 87), none, some (some 88), some (some 89), some (some 90), none, none, some (some 91), some (some 92), some (some 93), some (some 94), some (some 95), none, none, none, none, none, some (some 96), some (some 97), some (some 98), some (some 99), some (some 100), some (some 101), some (some 102), none, none, none, none, some (some 103), some (some 104), some (some 105), some (some 106), some (some 107), some (some 108), some (some 109), some (some 110), some (some 111), some (some 112), some (some 113), some none, none, some none, some none, none, none, some none, none, some none, some none, some none, some none, some none] : List (Option (Option Nat))).set 50 (some (some 114))))
def zg_128 (s : zz_S) : zz_S := zz_w (zg_127 s) 79 51 (-1 : Int32)
def zc_234 : List zz_Sh := zc_233 ++ [.inr (0, 6, [])]
def zg_129 (s : zz_S) : zz_S := zz_z (zg_128 s) 115
def zc_235 : List zz_Sh := zc_234.set 79 (.inl (12, ([none, none, none, some (some 80), some (some 81), some (some 82), some (some 83), none, some (some 84), some (some 85), some (some 86), some (some 87), none, some (some 88), some (some 89), some (some 90), none, none, some (some 91), some (some 92), some (some 93), some (some 94), some (some 95), none, none, none, none, none, some (some 96), some (some 97), some (some 98), some (some 99), some (some 100), some (some 101), some (some 102), none, none, none, none, some (some 103), some (some 104), some (some 105), some (some 106), some (some 107), some (some 108), some (some 109), some (some 110), some (some 111), some (some 112), some (some 113), some (some 114), none, some none, some none, none, none, some none, none, some none, some none, some none, some none, some none] : List (Option (Option Nat))).set 52 (some (some 115))))
def zc_236 : List zz_Sh := zc_235 ++ [.inr (0, 6, [])]
def zg_130 (s : zz_S) : zz_S := zz_z (zg_129 s) 116
def zc_237 : List zz_Sh := zc_236.set 79 (.inl (12, ([none, none, none, some (some 80), some (some 81), some (some 82), some (some 83), none, some (some 84), some (some 85), some (some 86), some (some 87), none, some (some 88), some (some 89), some (some 90), none, none, some (some 91), some (some 92), some (some 93), some (some 94), some (some 95), none, none, none, none, none, some (some 96), some (some 97), some (some 98), some (some 99), some (some 100), some (some 101), some (some 102), none, none, none, none, some (some 103), some (some 104), some (some 105), some (some 106), some (some 107), some (some 108), some (some 109), some (some 110), some (some 111), some (some 112), some (some 113), some (some 114), none, some (some 115), some none, none, none, some none, none, some none, some none, some none, some none, some none] : List (Option (Option Nat))).set 53 (some (some 116))))
def zc_238 : List zz_Sh := zc_237 ++ [.inr (0, 50, [])]
def zg_131 (s : zz_S) : zz_S := zz_z (zg_130 s) 117
def zc_239 : List zz_Sh := zc_238.set 79 (.inl (12, ([none, none, none, some (some 80), some (some 81), some (some 82), some (some 83), none, some (some 84), some (some 85), some (some 86), some (some 87), none, some (some 88), some (some 89), some (some 90), none, none, some (some 91), some (some 92), some (some 93), some (some 94), some (some 95), none, none, none, none, none, some (some 96), some (some 97), some (some 98), some (some 99), some (some 100), some (some 101), some (some 102), none, none, none, none, some (some 103), some (some 104), some (some 105), some (some 106), some (some 107), some (some 108), some (some 109), some (some 110), some (some 111), some (some 112), some (some 113), some (some 114), none, some (some 115), some (some 116), none, none, some none, none, some none, some none, some none, some none, some none] : List (Option (Option Nat))).set 56 (some (some 117))))
def zc_240 : List zz_Sh := zc_239 ++ [.inr (0, 24, [])]
def zg_132 (s : zz_S) : zz_S := zz_z (zg_131 s) 118
def zc_241 : List zz_Sh := zc_240.set 79 (.inl (12, ([none, none, none, some (some 80), some (some 81), some (some 82), some (some 83), none, some (some 84), some (some 85), some (some 86), some (some 87), none, some (some 88), some (some 89), some (some 90), none, none, some (some 91), some (some 92), some (some 93), some (some 94), some (some 95), none, none, none, none, none, some (some 96), some (some 97), some (some 98), some (some 99), some (some 100), some (some 101), some (some 102), none, none, none, none, some (some 103), some (some 104), some (some 105), some (some 106), some (some 107), some (some 108), some (some 109), some (some 110), some (some 111), some (some 112), some (some 113), some (some 114), none, some (some 115), some (some 116), none, none, some (some 117), none, some none, some none, some none, some none, some none] : List (Option (Option Nat))).set 58 (some (some 118))))
def zc_242 : List zz_Sh := zc_241 ++ [.inr (0, 6, [])]
def zg_133 (s : zz_S) : zz_S := zz_z (zg_132 s) 119
def zg_134 (s : zz_S) : zz_S := zz_w (zg_133 s) 119 0 (-1 : Int32)
def zg_135 (s : zz_S) : zz_S := zz_w (zg_134 s) 119 1 (-1 : Int32)
def zg_136 (s : zz_S) : zz_S := zz_w (zg_135 s) 119 2 (-1 : Int32)
def zg_137 (s : zz_S) : zz_S := zz_w (zg_136 s) 119 3 (-1 : Int32)
def zg_138 (s : zz_S) : zz_S := zz_w (zg_137 s) 119 4 (-1 : Int32)
def zg_139 (s : zz_S) : zz_S := zz_w (zg_138 s) 119 5 (-1 : Int32)
def zc_243 : List zz_Sh := zc_242.set 79 (.inl (12, ([none, none, none, some (some 80), some (some 81), some (some 82), some (some 83), none, some (some 84), some (some 85), some (some 86), some (some 87), none, some (some 88), some (some 89), some (some 90), none, none, some (some 91), some (some 92), some (some 93), some (some 94), some (some 95), none, none, none, none, none, some (some 96), some (some 97), some (some 98), some (some 99), some (some 100), some (some 101), some (some 102), none, none, none, none, some (some 103), some (some 104), some (some 105), some (some 106), some (some 107), some (some 108), some (some 109), some (some 110), some (some 111), some (some 112), some (some 113), some (some 114), none, some (some 115), some (some 116), none, none, some (some 117), none, some (some 118), some none, some none, some none, some none] : List (Option (Option Nat))).set 59 (some (some 119))))
def zc_244 : List zz_Sh := zc_243 ++ [.inr (0, 6, [])]
def zg_140 (s : zz_S) : zz_S := zz_z (zg_139 s) 120
def zc_245 : List zz_Sh := zc_244.set 79 (.inl (12, ([none, none, none, some (some 80), some (some 81), some (some 82), some (some 83), none, some (some 84), some (some 85), some (some 86), some (some 87), none, some (some 88), some (some 89), some (some 90), none, none, some (some 91), some (some 92), some (some 93), some (some 94), some (some 95), none, none, none, none, none, some (some 96), some (some 97), some (some 98), some (some 99), some (some 100), some (some 101), some (some 102), none, none, none, none, some (some 103), some (some 104), some (some 105), some (some 106), some (some 107), some (some 108), some (some 109), some (some 110), some (some 111), some (some 112), some (some 113), some (some 114), none, some (some 115), some (some 116), none, none, some (some 117), none, some (some 118), some (some 119), some none, some none, some none] : List (Option (Option Nat))).set 60 (some (some 120))))
def zc_246 : List zz_Sh := zc_245 ++ [.inr (3, 360, [])]
def zg_141 (s : zz_S) : zz_S := zz_z (zg_140 s) 121
def zc_247 : List zz_Sh := zc_246.set 79 (.inl (12, ([none, none, none, some (some 80), some (some 81), some (some 82), some (some 83), none, some (some 84), some (some 85), some (some 86), some (some 87), none, some (some 88), some (some 89), some (some 90), none, none, some (some 91), some (some 92), some (some 93), some (some 94), some (some 95), none, none, none, none, none, some (some 96), some (some 97), some (some 98), some (some 99), some (some 100), some (some 101), some (some 102), none, none, none, none, some (some 103), some (some 104), some (some 105), some (some 106), some (some 107), some (some 108), some (some 109), some (some 110), some (some 111), some (some 112), some (some 113), some (some 114), none, some (some 115), some (some 116), none, none, some (some 117), none, some (some 118), some (some 119), some (some 120), some none, some none] : List (Option (Option Nat))).set 61 (some (some 121))))
def zc_248 : List zz_Sh := zc_247 ++ [.inr (3, 60, [])]
def zg_142 (s : zz_S) : zz_S := zz_z (zg_141 s) 122
def zc_249 : List zz_Sh := zc_248.set 79 (.inl (12, ([none, none, none, some (some 80), some (some 81), some (some 82), some (some 83), none, some (some 84), some (some 85), some (some 86), some (some 87), none, some (some 88), some (some 89), some (some 90), none, none, some (some 91), some (some 92), some (some 93), some (some 94), some (some 95), none, none, none, none, none, some (some 96), some (some 97), some (some 98), some (some 99), some (some 100), some (some 101), some (some 102), none, none, none, none, some (some 103), some (some 104), some (some 105), some (some 106), some (some 107), some (some 108), some (some 109), some (some 110), some (some 111), some (some 112), some (some 113), some (some 114), none, some (some 115), some (some 116), none, none, some (some 117), none, some (some 118), some (some 119), some (some 120), some (some 121), some none] : List (Option (Option Nat))).set 62 (some (some 122))))
