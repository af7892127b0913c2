/-! texts: what they are worth, on both sides -/
theorem i_addsub (a b : Int32) : a + b - a = b := by
  rw [Int32.add_comm, Int32.sub_eq_add_neg, Int32.add_assoc, Int32.add_right_neg, Int32.add_zero]
theorem i_mod_m1 (x : Int32) : x % (-1 : Int32) = 0 := by
  refine i_lit ?_
  rw [Int32.toInt_mod, show (-1 : Int32).toInt = -1 from rfl, Int.tmod_neg, Int.tmod_one]
  rfl
theorem i_div_m1 (x : Int32) : x / (-1 : Int32) = -x := by
  refine i_lit ?_
  rw [Int32.toInt_div, show (-1 : Int32).toInt = -1 from rfl, Int.tdiv_neg, Int.tdiv_one, Int32.toInt_neg]
theorem tw_ex {w : Int32} (h : sgn w) (x y : Int32) : ∃ v, f_M_twoOf w x y = some v ∧ f_Text_worthOfTwo w x y = some v := by
  rcases h with rfl | rfl | rfl | rfl | rfl | rfl | rfl | rfl | rfl | rfl
  · by_cases a : y = 0
    · exact ⟨0, by simp +decide only [f_M_twoOf, f_Text_worthOfTwo, f_M_twoOf_J163, f_M_twoOf_J226, f_Text_worthOfTwo_J92, if_true, if_false, a], by simp +decide only [f_M_twoOf, f_Text_worthOfTwo, f_M_twoOf_J163, f_M_twoOf_J226, f_Text_worthOfTwo_J92, if_true, if_false, a]⟩
    · by_cases b : y = -1
      · exact ⟨0, by simp +decide only [f_M_twoOf, f_Text_worthOfTwo, f_M_twoOf_J163, f_M_twoOf_J226, f_Text_worthOfTwo_J92, if_true, if_false, a, b], by simp +decide only [f_M_twoOf, f_Text_worthOfTwo, f_M_twoOf_J163, f_M_twoOf_J226, f_Text_worthOfTwo_J92, if_true, if_false, a, b, i_mod_m1]⟩
      · exact ⟨x % y, by simp +decide only [f_M_twoOf, f_Text_worthOfTwo, f_M_twoOf_J163, f_M_twoOf_J226, f_Text_worthOfTwo_J92, if_true, if_false, a, b], by simp +decide only [f_M_twoOf, f_Text_worthOfTwo, f_M_twoOf_J163, f_M_twoOf_J226, f_Text_worthOfTwo_J92, if_true, if_false, a, b]⟩
  · by_cases a : x = 0
    · exact ⟨0, by simp +decide only [f_M_twoOf, f_Text_worthOfTwo, f_M_twoOf_J163, f_M_twoOf_J226, f_Text_worthOfTwo_J92, if_true, if_false, a], by simp +decide only [f_M_twoOf, f_Text_worthOfTwo, f_M_twoOf_J163, f_M_twoOf_J226, f_Text_worthOfTwo_J92, if_true, if_false, a]⟩
    · by_cases b : y = 0
      · exact ⟨0, by simp +decide only [f_M_twoOf, f_Text_worthOfTwo, f_M_twoOf_J163, f_M_twoOf_J226, f_Text_worthOfTwo_J92, if_true, if_false, a, b], by simp +decide only [f_M_twoOf, f_Text_worthOfTwo, f_M_twoOf_J163, f_M_twoOf_J226, f_Text_worthOfTwo_J92, if_true, if_false, a, b]⟩
      · exact ⟨1, by simp +decide only [f_M_twoOf, f_Text_worthOfTwo, f_M_twoOf_J163, f_M_twoOf_J226, f_Text_worthOfTwo_J92, if_true, if_false, a, b], by simp +decide only [f_M_twoOf, f_Text_worthOfTwo, f_M_twoOf_J163, f_M_twoOf_J226, f_Text_worthOfTwo_J92, if_true, if_false, a, b]⟩
  · exact ⟨x * y, rfl, rfl⟩
  · exact ⟨x + y, rfl, rfl⟩
  · exact ⟨x - y, rfl, rfl⟩
  · by_cases a : y = 0
    · exact ⟨0, by simp +decide only [f_M_twoOf, f_Text_worthOfTwo, f_M_twoOf_J163, f_M_twoOf_J226, f_Text_worthOfTwo_J92, if_true, if_false, a], by simp +decide only [f_M_twoOf, f_Text_worthOfTwo, f_M_twoOf_J163, f_M_twoOf_J226, f_Text_worthOfTwo_J92, if_true, if_false, a]⟩
    · by_cases b : y = -1
      · exact ⟨-x, by simp +decide only [f_M_twoOf, f_Text_worthOfTwo, f_M_twoOf_J163, f_M_twoOf_J226, f_Text_worthOfTwo_J92, if_true, if_false, a, b], by simp +decide only [f_M_twoOf, f_Text_worthOfTwo, f_M_twoOf_J163, f_M_twoOf_J226, f_Text_worthOfTwo_J92, if_true, if_false, a, b, i_div_m1]⟩
      · exact ⟨x / y, by simp +decide only [f_M_twoOf, f_Text_worthOfTwo, f_M_twoOf_J163, f_M_twoOf_J226, f_Text_worthOfTwo_J92, if_true, if_false, a, b], by simp +decide only [f_M_twoOf, f_Text_worthOfTwo, f_M_twoOf_J163, f_M_twoOf_J226, f_Text_worthOfTwo_J92, if_true, if_false, a, b]⟩
  · by_cases a : y ≤ x
    · exact ⟨0, by simp +decide only [f_M_twoOf, f_Text_worthOfTwo, f_M_twoOf_J163, f_M_twoOf_J226, f_Text_worthOfTwo_J92, if_true, if_false, a], by simp +decide only [f_M_twoOf, f_Text_worthOfTwo, f_M_twoOf_J163, f_M_twoOf_J226, f_Text_worthOfTwo_J92, if_true, if_false, a]⟩
    · exact ⟨1, by simp +decide only [f_M_twoOf, f_Text_worthOfTwo, f_M_twoOf_J163, f_M_twoOf_J226, f_Text_worthOfTwo_J92, if_true, if_false, a], by simp +decide only [f_M_twoOf, f_Text_worthOfTwo, f_M_twoOf_J163, f_M_twoOf_J226, f_Text_worthOfTwo_J92, if_true, if_false, a]⟩
  · by_cases a : x = y
    · exact ⟨1, by simp +decide only [f_M_twoOf, f_Text_worthOfTwo, f_M_twoOf_J163, f_M_twoOf_J226, f_Text_worthOfTwo_J92, if_true, if_false, a], by simp +decide only [f_M_twoOf, f_Text_worthOfTwo, f_M_twoOf_J163, f_M_twoOf_J226, f_Text_worthOfTwo_J92, if_true, if_false, a]⟩
    · exact ⟨0, by simp +decide only [f_M_twoOf, f_Text_worthOfTwo, f_M_twoOf_J163, f_M_twoOf_J226, f_Text_worthOfTwo_J92, if_true, if_false, a], by simp +decide only [f_M_twoOf, f_Text_worthOfTwo, f_M_twoOf_J163, f_M_twoOf_J226, f_Text_worthOfTwo_J92, if_true, if_false, a]⟩
  · by_cases a : x ≤ y
    · exact ⟨0, by simp +decide only [f_M_twoOf, f_Text_worthOfTwo, f_M_twoOf_J163, f_M_twoOf_J226, f_Text_worthOfTwo_J92, if_true, if_false, a], by simp +decide only [f_M_twoOf, f_Text_worthOfTwo, f_M_twoOf_J163, f_M_twoOf_J226, f_Text_worthOfTwo_J92, if_true, if_false, a]⟩
    · exact ⟨1, by simp +decide only [f_M_twoOf, f_Text_worthOfTwo, f_M_twoOf_J163, f_M_twoOf_J226, f_Text_worthOfTwo_J92, if_true, if_false, a], by simp +decide only [f_M_twoOf, f_Text_worthOfTwo, f_M_twoOf_J163, f_M_twoOf_J226, f_Text_worthOfTwo_J92, if_true, if_false, a]⟩
  · by_cases a : x = 0
    · by_cases b : y = 0
      · exact ⟨0, by simp +decide only [f_M_twoOf, f_Text_worthOfTwo, f_M_twoOf_J163, f_M_twoOf_J226, f_Text_worthOfTwo_J92, if_true, if_false, a, b], by simp +decide only [f_M_twoOf, f_Text_worthOfTwo, f_M_twoOf_J163, f_M_twoOf_J226, f_Text_worthOfTwo_J92, if_true, if_false, a, b]⟩
      · exact ⟨1, by simp +decide only [f_M_twoOf, f_Text_worthOfTwo, f_M_twoOf_J163, f_M_twoOf_J226, f_Text_worthOfTwo_J92, if_true, if_false, a, b], by simp +decide only [f_M_twoOf, f_Text_worthOfTwo, f_M_twoOf_J163, f_M_twoOf_J226, f_Text_worthOfTwo_J92, if_true, if_false, a, b]⟩
    · exact ⟨1, by simp +decide only [f_M_twoOf, f_Text_worthOfTwo, f_M_twoOf_J163, f_M_twoOf_J226, f_Text_worthOfTwo_J92, if_true, if_false, a], by simp +decide only [f_M_twoOf, f_Text_worthOfTwo, f_M_twoOf_J163, f_M_twoOf_J226, f_Text_worthOfTwo_J92, if_true, if_false, a]⟩
theorem tw_M {w : Int32} (h : sgn w) (x y : Int32) : f_M_twoOf w x y = some (tw w x y) := by
  obtain ⟨v, h1, -⟩ := tw_ex h x y
  unfold tw
  rw [h1]
  rfl
theorem tw_T {w : Int32} (h : sgn w) (x y : Int32) : f_Text_worthOfTwo w x y = some (tw w x y) := by
  obtain ⟨v, h1, h2⟩ := tw_ex h x y
  unfold tw
  rw [h1, h2]
  rfl
theorem sgn_ne {w : Int32} (h : sgn w) : (¬ w = 1 ∧ ¬ w = 2 ∧ ¬ w = 3 ∧ ¬ w = 4) ∧ (-w < 20000 ∧ -w < 10000 ∧ -w < 0 ∧ ¬ -w = -59 ∧ ¬ -w = -126 ∧ ¬ -w = -33 ∧ - -w = w) ∧ w ≠ 0 := by
  rcases h with rfl | rfl | rfl | rfl | rfl | rfl | rfl | rfl | rfl | rfl <;> decide
/-- a pile, its newest first -/
def stk (f : Nat → Int32) : List Int32 → Prop
  | [] => True
  | x :: r => f r.length = x ∧ stk f r
theorem stk_upd {f : Nat → Int32} {k : Nat} {v : Int32} : ∀ {st : List Int32}, stk f st → st.length ≤ k → stk (upd f k v) st
  | [], _, _ => trivial
  | x :: r, h, hk => by
    have hk : r.length + 1 ≤ k := hk
    refine ⟨?_, stk_upd h.2 (by omega)⟩
    rw [upd_at, if_neg (by omega)]
    exact h.1
theorem stk_push {f : Nat → Int32} {st : List Int32} (h : stk f st) {k : Nat} (hk : k = st.length) (v : Int32) : stk (upd f k v) (v :: st) :=
  ⟨by rw [upd_at, if_pos hk.symm], stk_upd h (by omega)⟩
theorem xrun_len (nm : Nat → Int32) : ∀ (l : List (Int32 × Int32)) (st : List Int32) (h : Nat), (∀ o ∈ l, opOK o) → xdep l st.length = some h → (xrun nm l st).length = h
  | [], st, h, _, hd => Option.some.inj hd
  | o :: l, st, h, ho, hd => by
    have ih := fun st2 h2 => xrun_len nm l st2 h (fun o h => ho o (List.mem_cons_of_mem _ h)) h2
    unfold xrun
    unfold xdep at hd
    refine ih _ ?_
    unfold xst
    rcases ho o List.mem_cons_self with ⟨q, -⟩ | ⟨q, -⟩ | q | q | q
    · rw [if_pos (Or.inl q)] at hd
      rw [if_pos q]
      exact hd
    · rw [if_pos (Or.inr q)] at hd
      rw [if_neg (by rw [q]; decide), if_pos q]
      exact hd
    · rw [if_neg (by rw [q]; decide), if_pos (Or.inl q)] at hd
      rw [if_neg (by rw [q]; decide), if_neg (by rw [q]; decide), if_pos q]
      match st, hd with
      | x :: r, hd => exact hd
    · rw [if_neg (by rw [q]; decide), if_pos (Or.inr q)] at hd
      rw [if_neg (by rw [q]; decide), if_neg (by rw [q]; decide), if_neg (by rw [q]; decide), if_pos q]
      match st, hd with
      | x :: r, hd => exact hd
    · obtain ⟨⟨n1, n2, n3, n4⟩, -⟩ := sgn_ne q
      rw [if_neg (by simp [n1, n2]), if_neg (by simp [n3, n4])] at hd
      rw [if_neg n1, if_neg n2, if_neg n3, if_neg n4]
      match st, hd with
      | y :: x :: r, hd => exact hd
