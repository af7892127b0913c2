/-! the parser: bytes -/
abbrev bP0 (v w : Int32) : Prop := ((v = 33 ↔ w = 33) ∧ (v = 40 ↔ w = 40) ∧ (v = 41 ↔ w = 41) ∧ (v = 45 ↔ w = 45) ∧ (v = 59 ↔ w = 59) ∧ (v = 63 ↔ w = 63))
abbrev bP1 (v w : Int32) : Prop := ((f_Tape_isDigit v = 0 ↔ f_M_in w 48 57 = 0) ∧ (¬ f_Tape_isDigit v = 0 → w = v ∧ 48 ≤ v.toInt ∧ v.toInt ≤ 57 ∧ f_M_nameOf w = -1 ∧ ¬ v = 33 ∧ ¬ v = 40 ∧ ¬ v = 45))
abbrev bP2 (v w : Int32) : Prop := (f_Tape_placeIn 0 v = some (f_M_nameOf w) ∧ -1 ≤ (f_M_nameOf w).toInt ∧ (f_M_nameOf w).toInt ≤ 7)
abbrev bP3 (v w : Int32) : Prop := ((f_Tape_placeIn 1 v).isSome = true ∧ (0 ≤ (f_Tape_placeIn 1 v).getD 0 ↔ v = 124) ∧ (v = 124 ↔ w = 124))
abbrev bP4 (v w : Int32) : Prop := ((f_Tape_placeIn 2 v).isSome = true ∧ (0 ≤ (f_Tape_placeIn 2 v).getD 0 ↔ v = 38) ∧ (v = 38 ↔ w = 38))
abbrev bP5 (v w : Int32) : Prop := ((f_Tape_placeIn 3 v).isSome = true ∧ (0 ≤ (f_Tape_placeIn 3 v).getD 0 ↔ v = 60 ∨ v = 61 ∨ v = 62) ∧ (v = 60 ↔ w = 60) ∧ (v = 61 ↔ w = 61) ∧ (v = 62 ↔ w = 62))
abbrev bP6 (v w : Int32) : Prop := ((f_Tape_placeIn 4 v).isSome = true ∧ (0 ≤ (f_Tape_placeIn 4 v).getD 0 ↔ v = 43 ∨ v = 45) ∧ (v = 43 ↔ w = 43))
abbrev bP7 (v w : Int32) : Prop := ((f_Tape_placeIn 5 v).isSome = true ∧ (0 ≤ (f_Tape_placeIn 5 v).getD 0 ↔ v = 42 ∨ v = 47 ∨ v = 37) ∧ (v = 42 ↔ w = 42) ∧ (v = 47 ↔ w = 47) ∧ (v = 37 ↔ w = 37))
def bP (v w : Int32) : Prop := bP0 v w ∧ bP1 v w ∧ bP2 v w ∧ bP3 v w ∧ bP4 v w ∧ bP5 v w ∧ bP6 v w ∧ bP7 v w
set_option maxRecDepth 100000 in
theorem bP0_all : ∀ i : Fin 256, bP0 (Int32.ofNat i.val) (vp_nar .byte (Int32.ofNat i.val).toInt8.toInt32) := by decide +kernel
set_option maxRecDepth 100000 in
theorem bP0_end : bP0 (-1) (-1) := by decide +kernel
set_option maxRecDepth 100000 in
theorem bP1_all : ∀ i : Fin 256, bP1 (Int32.ofNat i.val) (vp_nar .byte (Int32.ofNat i.val).toInt8.toInt32) := by decide +kernel
set_option maxRecDepth 100000 in
theorem bP1_end : bP1 (-1) (-1) := by decide +kernel
set_option maxRecDepth 100000 in
theorem bP2_all : ∀ i : Fin 256, bP2 (Int32.ofNat i.val) (vp_nar .byte (Int32.ofNat i.val).toInt8.toInt32) := by decide +kernel
set_option maxRecDepth 100000 in
theorem bP2_end : bP2 (-1) (-1) := by decide +kernel
set_option maxRecDepth 100000 in
theorem bP3_all : ∀ i : Fin 256, bP3 (Int32.ofNat i.val) (vp_nar .byte (Int32.ofNat i.val).toInt8.toInt32) := by decide +kernel
set_option maxRecDepth 100000 in
theorem bP3_end : bP3 (-1) (-1) := by decide +kernel
set_option maxRecDepth 100000 in
theorem bP4_all : ∀ i : Fin 256, bP4 (Int32.ofNat i.val) (vp_nar .byte (Int32.ofNat i.val).toInt8.toInt32) := by decide +kernel
set_option maxRecDepth 100000 in
theorem bP4_end : bP4 (-1) (-1) := by decide +kernel
set_option maxRecDepth 100000 in
theorem bP5_all : ∀ i : Fin 256, bP5 (Int32.ofNat i.val) (vp_nar .byte (Int32.ofNat i.val).toInt8.toInt32) := by decide +kernel
set_option maxRecDepth 100000 in
theorem bP5_end : bP5 (-1) (-1) := by decide +kernel
set_option maxRecDepth 100000 in
theorem bP6_all : ∀ i : Fin 256, bP6 (Int32.ofNat i.val) (vp_nar .byte (Int32.ofNat i.val).toInt8.toInt32) := by decide +kernel
set_option maxRecDepth 100000 in
theorem bP6_end : bP6 (-1) (-1) := by decide +kernel
set_option maxRecDepth 100000 in
theorem bP7_all : ∀ i : Fin 256, bP7 (Int32.ofNat i.val) (vp_nar .byte (Int32.ofNat i.val).toInt8.toInt32) := by decide +kernel
set_option maxRecDepth 100000 in
theorem bP7_end : bP7 (-1) (-1) := by decide +kernel
theorem bP_all (i : Fin 256) : bP (Int32.ofNat i.val) (vp_nar .byte (Int32.ofNat i.val).toInt8.toInt32) := ⟨bP0_all i, bP1_all i, bP2_all i, bP3_all i, bP4_all i, bP5_all i, bP6_all i, bP7_all i⟩
theorem bP_end : bP (-1) (-1) := ⟨bP0_end, bP1_end, bP2_end, bP3_end, bP4_end, bP5_end, bP6_end, bP7_end⟩
theorem bP_byte {v : Int32} (h0 : 0 ≤ v.toInt) (h1 : v.toInt ≤ 255) : bP v (vp_nar .byte v.toInt8.toInt32) := by
  have h := bP_all ⟨v.toInt.toNat, by omega⟩
  have e : Int32.ofNat v.toInt.toNat = v := i_lit (by rw [Int32.toInt_ofNat_of_lt (by omega)]; omega)
  rw [show (Int32.ofNat (⟨v.toInt.toNat, by omega⟩ : Fin 256).val) = v from e] at h
  exact h
