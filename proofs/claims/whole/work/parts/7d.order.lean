/-! the reference: is a number an order -/
theorem bit_t : ∀ h : Fin 64, ∀ d : Fin 6, (((nI h.val >>> (nI d.val &&& 31)) &&& 1 = 1) ↔ Nat.testBit h.val d.val = true) ∧ nI h.val ||| ((1 : Int32) <<< (nI d.val &&& 31)) = nI (h.val ||| 2 ^ d.val) ∧ (h.val ||| 2 ^ d.val) < 64 := by decide +kernel
theorem bit_of {h d : Nat} (h1 : h < 64) (h2 : d < 6) : (((nI h >>> (nI d &&& 31)) &&& 1 = 1) ↔ Nat.testBit h d = true) ∧ nI h ||| ((1 : Int32) <<< (nI d &&& 31)) = nI (h ||| 2 ^ d) ∧ (h ||| 2 ^ d) < 64 := bit_t ⟨h, h1⟩ ⟨d, h2⟩
theorem dg_lt {S N i : Nat} (h : 0 < S) : dg S N i < S := Nat.mod_lt _ h
theorem i_modS {a b : Int32} {x y : Nat} (ha : a.toInt = x) (hb : b.toInt = y) : (a % b).toInt = (x % y : Nat) := by
  rw [Int32.toInt_mod, ha, hb, Int.tmod_eq_emod_of_nonneg (by omega)]
  rfl
theorem i_divS {a b : Int32} {x y : Nat} (ha : a.toInt = x) (hb : b.toInt = y) : (a / b).toInt = (x / y : Nat) := by
  rw [Int32.toInt_div_of_ne_right _ _ (by intro e; rw [e, lm1] at hb; omega), ha, hb, Int.tdiv_eq_ediv_of_nonneg (by omega)]
  rfl
theorem ord_loop {r0 : zz_S} {S N : Nat} (hS0 : 0 < S) (hS : S ≤ 6) (hr : (r0.1 79 2).toInt = S) :
    ∀ (m n h : Nat) (v2 v3 v4 : Int32) (r : zz_S), m ≤ S → m < n → v4.toInt = (m : Int) - 1 → v2.toInt = (N / S ^ (S - m) : Nat) → v3 = nI h → h < 64 → (∀ o, o ≠ 116 → r.1 o = r0.1 o) → r.2 = r0.2 → (∀ i, m ≤ i → i < S → r.1 116 i = nI (dg S N i)) →
      ∃ r2, f_M_isOrder_L12 n v2 v3 v4 r = some (if dsn S N m h = true then 1 else 0, r2) ∧ (∀ o, o ≠ 116 → r2.1 o = r0.1 o) ∧ r2.2 = r0.2 ∧ (dsn S N m h = true → ∀ i, i < S → r2.1 116 i = nI (dg S N i)) := by
  have l0 : (0 : Int32).toInt = 0 := rfl
  intro m
  induction m with
  | zero =>
    intro n h v2 v3 v4 r hm hn h4 h2 h3 hh f1 f2 f3
    obtain ⟨n, rfl⟩ : ∃ x, n = x + 1 := ⟨n - 1, by omega⟩
    exact ⟨r, by rw [f_M_isOrder_L12, if_pos (by rw [i_lt, l0]; omega), dsn, if_pos rfl], f1, f2, fun _ i hi => f3 i (by omega) hi⟩
  | succ m ih =>
    intro n h v2 v3 v4 r hm hn h4 h2 h3 hh f1 f2 f3
    obtain ⟨n, rfl⟩ : ∃ x, n = x + 1 := ⟨n - 1, by omega⟩
    have h4' : v4.toInt = m := by omega
    have e79 : r.1 79 = r0.1 79 := f1 79 (by decide)
    have n0 : ¬ r.1 79 2 = 0 := fun q => by rw [e79] at q; rw [q, l0] at hr; omega
    have hd4 := i_add (a := v4) (b := -1) (by rw [lm1]; omega) (by rw [lm1]; omega)
    rw [lm1] at hd4
    have hS' : (r.1 79 2).toInt = S := by rw [e79]; exact hr
    have hdg : v2 % r.1 79 2 = nI (dg S N m) := by
      refine i_lit ?_
      have hlt := dg_lt (S := S) (N := N) (i := m) hS0
      rw [i_modS h2 hS', nI_int (by omega)]
      unfold dg
      rw [show S - 1 - m = S - (m + 1) by omega]
    have hdv := i_divS h2 hS'
    rw [Nat.div_div_eq_div_mul, ← Nat.pow_succ, show (S - (m + 1)).succ = S - m by omega] at hdv
    have hlt := dg_lt (S := S) (N := N) (i := m) hS0
    obtain ⟨b1, b2, b3⟩ := bit_of (h := h) (d := dg S N m) hh (by omega)
    rw [f_M_isOrder_L12, if_neg (by rw [i_lt, l0]; omega), if_neg n0, if_pos (i_in.mpr (by omega)), if_neg n0, nz_eq h4', hdg]
    have ew : (zz_w r 116 m (nI (dg S N m))).1 116 m = nI (dg S N m) := by simp [w_get]
    rw [ew, h3]
    cases c : Nat.testBit h (dg S N m) with
    | true =>
      rw [if_pos (b1.mpr c), dsn, c, cond_true]
      exact ⟨_, rfl, fun o ho => by rw [w_row, if_neg ho]; exact f1 o ho, f2, fun q => by cases q⟩
    | false =>
      rw [if_neg (fun q => by rw [b1.mp q] at c; cases c), b2, dsn, c, cond_false]
      refine ih n (h ||| 2 ^ dg S N m) _ _ _ _ (by omega) (by omega) (by omega) hdv rfl b3 (fun o ho => by rw [w_row, if_neg ho]; exact f1 o ho) f2 (fun i h1 h2 => ?_)
      rw [w_get, if_pos rfl]
      by_cases q : i = m
      · rw [if_pos q, q]
      · rw [if_neg q]; exact f3 i (by omega) h2
theorem ord_of {r : zz_S} {S N : Nat} (v : Int32) (hv : v.toInt = N) (hS0 : 0 < S) (hS : S ≤ 6) (hr : (r.1 79 2).toInt = S) : ∃ r2, f_M_isOrder v r = some (if dsn S N S 0 = true then 1 else 0, r2) ∧ (∀ o, o ≠ 116 → r2.1 o = r.1 o) ∧ r2.2 = r.2 ∧ (dsn S N S 0 = true → ∀ i, i < S → r2.1 116 i = nI (dg S N i)) := by
  have hd := i_dec (a := r.1 79 2) (by omega)
  exact ord_loop hS0 hS hr S zF 0 v 0 _ r (Nat.le_refl S) (by unfold zF; omega) (by omega) (by rw [Nat.sub_self, Nat.pow_zero, Nat.div_one]; exact hv) rfl (by decide) (fun _ _ => rfl) rfl (fun i h1 h2 => by omega)
