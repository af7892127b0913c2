/-! the first state -/
set_option maxRecDepth 100000 in
theorem first_0 (s : zz_S) : iv_bed (zg_142 s) := by
  have e1 : (zg_142 s).1 1 1 = 0 := rfl
  have e2 : (zg_142 s).1 1 2 = 0 := rfl
  have e3 : (zg_142 s).1 1 0 = 40 := rfl
  refine ⟨⟨rfl, rfl, rfl⟩, ⟨funext fun _ => rfl, funext fun _ => rfl, funext fun _ => rfl, funext fun _ => rfl⟩, ⟨funext fun _ => rfl, funext fun _ => rfl, funext fun _ => rfl, funext fun _ => rfl⟩, ?_, fun i hi => ?_, fun i hi => ?_⟩
  · rw [e1, e2, e3]; decide
  · rw [e1, show (0 : Int32).toInt = 0 from rfl] at hi; omega
  · rw [e2, show (0 : Int32).toInt = 0 from rfl] at hi; omega
set_option maxRecDepth 100000 in
theorem first_1 (s : zz_S) : iv_turn (zg_142 s) := by
  have e1 : (zg_142 s).1 10 0 = 0 := rfl
  refine ⟨rfl, ⟨funext fun _ => rfl, funext fun _ => rfl, funext fun _ => rfl⟩, ?_, fun k hk => ?_, ?_⟩
  · rw [e1]; decide
  · rw [e1, show (0 : Int32).toInt = 0 from rfl] at hk; omega
  · rw [e1]
    have z : (0 : Int32).toInt.toNat = 0 := rfl
    rw [z]
    exact ⟨fun k hk => by omega, fun k hk => by omega, fun a b h1 h2 => by omega⟩
set_option maxRecDepth 100000 in
theorem first_2 (s : zz_S) : iv_chg (zg_142 s) := by
  have e1 : (zg_142 s).1 39 0 = 0 := rfl
  have e2 : (zg_142 s).1 39 1 = 0 := rfl
  have e3 : (zg_142 s).1 79 17 = 0 := rfl
  refine ⟨rfl, ?_, ?_, fun k hk => ?_⟩
  · rw [e1, e2, e3]; decide
  · rw [e1, e2]; decide
  · rw [e2, show (0 : Int32).toInt = 0 from rfl] at hk; omega
set_option maxRecDepth 100000 in
theorem first_3 (s : zz_S) : iv_tape (zg_142 s) := by
  have e1 : (zg_142 s).1 44 0 = 0 := rfl
  refine ⟨rfl, ?_, fun k hk => ?_⟩
  · rw [e1]; decide
  · rw [e1, show (0 : Int32).toInt = 0 from rfl] at hk; omega
set_option maxRecDepth 100000 in
theorem first_4 (s : zz_S) : iv_body (zg_142 s) := by
  have e1 : (zg_142 s).1 49 0 = 0 := rfl
  have e2 : (zg_142 s).1 49 1 = 0 := rfl
  refine ⟨⟨rfl, rfl, funext fun _ => rfl, funext fun _ => rfl⟩, ?_, fun k hk => ?_⟩
  · rw [e1, e2]; decide
  · rw [e1, show (0 : Int32).toInt = 0 from rfl] at hk; omega
set_option maxRecDepth 100000 in
theorem first_5 (s : zz_S) : iv_shl (zg_142 s) := by
  refine ⟨⟨fun _ _ => rfl, Or.inl ⟨rfl, rfl⟩⟩, ⟨fun _ _ => rfl, Or.inl ⟨rfl, rfl⟩⟩, ⟨fun _ _ => rfl, Or.inl ⟨rfl, rfl⟩⟩, ⟨fun _ _ => rfl, Or.inl ⟨rfl, rfl⟩⟩, ⟨fun _ _ => rfl, Or.inl ⟨rfl, rfl⟩⟩, ⟨fun _ _ => rfl, Or.inl ⟨rfl, rfl⟩⟩⟩
set_option maxRecDepth 100000 in
theorem first_6 (s : zz_S) : iv_rest (zg_142 s) := ⟨rfl, rfl⟩
set_option maxRecDepth 100000 in
theorem first_7 (s : zz_S) : iv_law (zg_142 s) := by
  have e1 : (zg_142 s).1 0 11 = 0 := rfl
  have e2 : (zg_142 s).1 0 12 = -1 := rfl
  have d : ∀ m, m < 480 → (zg_142 s).1 16 m = 10 := fun m hm => by
    have : (zg_142 s).1 16 m = if m < 480 then 10 else (zg_20 s).1 16 m := rfl
    rw [this, if_pos hm]
  have d2 : ∀ m, m < 480 → (zg_142 s).1 17 m = 480 := fun m hm => by
    have : (zg_142 s).1 17 m = if m < 480 then 480 else (zg_21 s).1 17 m := rfl
    rw [this, if_pos hm]
  have l0 : (0 : Int32).toInt = 0 := rfl
  have l480 : (480 : Int32).toInt = 480 := rfl
  refine ⟨⟨rfl, rfl⟩, ?_, fun h => ?_, fun h => ?_, fun h => ?_, fun h => ?_, fun m hm => ⟨?_, ?_, fun k h1 h2 => ?_⟩, fun _ _ => rfl, Or.inl ⟨rfl, d⟩⟩
  · rw [e1, e2]; decide
  · rw [e1, l0] at h; omega
  · rw [e1, l0] at h; omega
  · rw [e1, l0] at h; omega
  · rw [e1, l0] at h; omega
  · rw [d m hm]; decide
  · rw [d2 m hm, l480]; omega
  · rw [d2 m hm, l480] at h2
    rw [d m hm, d k (by omega)]
theorem iv_first (s : zz_S) : iv (zg_142 s) := ⟨first_0 s, first_1 s, first_2 s, first_3 s, first_4 s, first_5 s, first_7 s, first_6 s⟩
