section
variable (A B C D E F : zz_S → Option zz_S) (R1 : Int32 → Int32 → zz_S → Option zz_S) (R2 : Int32 → zz_S → Option zz_S) (v2 : Int32) (op : Nat)
theorem lv_or (h : SP isX (R1 1 v2) A op) : SP isX (f_Tape_readLevel R1 R2 0 v2) (f_M_either A B C D E F) op := by
  refine lv_level R1 R2 0 v2 A (f_M_either_L4 A B C D E F) (fun v => v = 124) op (by decide) (by decide) sg_or h (fun n s q => ?_) (fun n s w q1 q2 q3 => ?_) (fun n s w q1 q2 q3 => ?_)
  · rw [f_M_either_L4, if_pos q]
  · rw [f_M_either_L4, if_neg q1, q2, Option.bind_some, if_neg q3]
  · rw [f_M_either_L4, if_neg q1, q2, Option.bind_some, if_pos q3, q3]
theorem lv_and (h : SP isX (R1 2 v2) B op) : SP isX (f_Tape_readLevel R1 R2 1 v2) (f_M_both A B C D E F) op := by
  refine lv_level R1 R2 1 v2 B (f_M_both_L4 A B C D E F) (fun v => v = 38) op (by decide) (by decide) sg_and h (fun n s q => ?_) (fun n s w q1 q2 q3 => ?_) (fun n s w q1 q2 q3 => ?_)
  · rw [f_M_both_L4, if_pos q]
  · rw [f_M_both_L4, if_neg q1, q2, Option.bind_some, if_neg q3]
  · rw [f_M_both_L4, if_neg q1, q2, Option.bind_some, if_pos q3, q3]
theorem lv_sum (h : SP isX (R1 4 v2) E op) : SP isX (f_Tape_readLevel R1 R2 3 v2) (f_M_sum A B C D E F) op := by
  refine lv_level R1 R2 3 v2 E (f_M_sum_L4 A B C D E F) (fun v => v = 43 ∨ v = 45) op (by decide) (by decide) sg_sum h (fun n s q => ?_) (fun n s w q1 q2 q3 => ?_) (fun n s w q1 q2 q3 => ?_)
  · rw [f_M_sum_L4, if_pos q]
  · rw [f_M_sum_L4, if_neg q1, q2, Option.bind_some, if_neg (fun q => q3 (Or.inl q)), Option.bind_some, if_neg (fun q => q3 (Or.inr q))]
  · rw [f_M_sum_L4, if_neg q1, q2, Option.bind_some]
    unfold f_M_sum_J29
    rcases q3 with q3 | q3
    · rw [if_pos q3, q2, Option.bind_some]
    · rw [if_neg (by rw [q3]; decide), Option.bind_some, if_pos q3, q2, Option.bind_some]
theorem lv_mul (h : SP isX (R1 5 v2) D op) : SP isX (f_Tape_readLevel R1 R2 4 v2) (f_M_product A B C D E F) op := by
  refine lv_level R1 R2 4 v2 D (f_M_product_L4 A B C D E F) (fun v => v = 42 ∨ v = 47 ∨ v = 37) op (by decide) (by decide) sg_mul h (fun n s q => ?_) (fun n s w q1 q2 q3 => ?_) (fun n s w q1 q2 q3 => ?_)
  · rw [f_M_product_L4, if_pos q]
  · rw [f_M_product_L4, if_neg q1, q2, Option.bind_some, if_neg (fun q => q3 (Or.inl q)), Option.bind_some, if_neg (fun q => q3 (Or.inr (Or.inl q))), Option.bind_some, if_neg (fun q => q3 (Or.inr (Or.inr q)))]
  · rw [f_M_product_L4, if_neg q1, q2, Option.bind_some]
    unfold f_M_product_J38
    rcases q3 with q3 | q3 | q3
    · rw [if_pos q3, q2, Option.bind_some]
    · rw [if_neg (by rw [q3]; decide), Option.bind_some, if_pos q3, q2, Option.bind_some]
    · rw [if_neg (by rw [q3]; decide), Option.bind_some, if_neg (by rw [q3]; decide), Option.bind_some, if_pos q3, q2, Option.bind_some]
theorem lv_five (h : SP isX (R2 v2) D op) : SP isX (f_Tape_readLevel R1 R2 5 v2) D op := by
  intro c r N a sz ld hG hs hl
  obtain ⟨c2, r2, k1, k2, k3⟩ := h c r N a sz ld hG hs hl
  refine ⟨c2, r2, ?_, k2, k3⟩
  unfold f_Tape_readLevel
  rw [if_neg (by decide), k1]
  rfl
end
theorem rd_l5 {v2 : Int32} {op n0 m0 : Nat} (H : ∀ n m, n0 ≤ n → m0 ≤ m → SP isX (g_Tape_readOperand n v2) (g_M_operand m) op) : ∀ n m, n0 + 1 ≤ n → m0 ≤ m → SP isX (g_Tape_readLevel n 5 v2) (g_M_operand m) op := by
  intro n m hn hm
  obtain ⟨n, rfl⟩ : ∃ k, n = k + 1 := ⟨n - 1, by omega⟩
  exact lv_five _ (f_grp_Tape_readLevel n).1 (f_grp_Tape_readLevel n).2 v2 op (H n m (by omega) hm)
theorem rd_l4 {v2 : Int32} {op n0 m0 : Nat} (H : ∀ n m, n0 ≤ n → m0 ≤ m → SP isX (g_Tape_readOperand n v2) (g_M_operand m) op) : ∀ n m, n0 + 2 ≤ n → m0 + 1 ≤ m → SP isX (g_Tape_readLevel n 4 v2) (g_M_product m) op := by
  intro n m hn hm
  obtain ⟨n, rfl⟩ : ∃ k, n = k + 1 := ⟨n - 1, by omega⟩
  obtain ⟨m, rfl⟩ : ∃ k, m = k + 1 := ⟨m - 1, by omega⟩
  exact lv_mul _ _ _ _ _ _ (f_grp_Tape_readLevel n).1 (f_grp_Tape_readLevel n).2 v2 op (rd_l5 H n m (by omega) (by omega))
theorem rd_l3 {v2 : Int32} {op n0 m0 : Nat} (H : ∀ n m, n0 ≤ n → m0 ≤ m → SP isX (g_Tape_readOperand n v2) (g_M_operand m) op) : ∀ n m, n0 + 3 ≤ n → m0 + 2 ≤ m → SP isX (g_Tape_readLevel n 3 v2) (g_M_sum m) op := by
  intro n m hn hm
  obtain ⟨n, rfl⟩ : ∃ k, n = k + 1 := ⟨n - 1, by omega⟩
  obtain ⟨m, rfl⟩ : ∃ k, m = k + 1 := ⟨m - 1, by omega⟩
  exact lv_sum _ _ _ _ _ _ (f_grp_Tape_readLevel n).1 (f_grp_Tape_readLevel n).2 v2 op (rd_l4 H n m (by omega) (by omega))
theorem rd_l2 {v2 : Int32} {op n0 m0 : Nat} (H : ∀ n m, n0 ≤ n → m0 ≤ m → SP isX (g_Tape_readOperand n v2) (g_M_operand m) op) : ∀ n m, n0 + 4 ≤ n → m0 + 3 ≤ m → SP isX (g_Tape_readLevel n 2 v2) (g_M_compared m) op := by
  intro n m hn hm
  obtain ⟨n, rfl⟩ : ∃ k, n = k + 1 := ⟨n - 1, by omega⟩
  obtain ⟨m, rfl⟩ : ∃ k, m = k + 1 := ⟨m - 1, by omega⟩
  exact lv_cmp (f_grp_Tape_readLevel n).1 (f_grp_Tape_readLevel n).2 v2 _ _ _ _ _ _ op (rd_l3 H n m (by omega) (by omega))
theorem rd_l1 {v2 : Int32} {op n0 m0 : Nat} (H : ∀ n m, n0 ≤ n → m0 ≤ m → SP isX (g_Tape_readOperand n v2) (g_M_operand m) op) : ∀ n m, n0 + 5 ≤ n → m0 + 4 ≤ m → SP isX (g_Tape_readLevel n 1 v2) (g_M_both m) op := by
  intro n m hn hm
  obtain ⟨n, rfl⟩ : ∃ k, n = k + 1 := ⟨n - 1, by omega⟩
  obtain ⟨m, rfl⟩ : ∃ k, m = k + 1 := ⟨m - 1, by omega⟩
  exact lv_and _ _ _ _ _ _ (f_grp_Tape_readLevel n).1 (f_grp_Tape_readLevel n).2 v2 op (rd_l2 H n m (by omega) (by omega))
theorem rd_l0 {v2 : Int32} {op n0 m0 : Nat} (H : ∀ n m, n0 ≤ n → m0 ≤ m → SP isX (g_Tape_readOperand n v2) (g_M_operand m) op) : ∀ n m, n0 + 6 ≤ n → m0 + 5 ≤ m → SP isX (g_Tape_readLevel n 0 v2) (g_M_either m) op := by
  intro n m hn hm
  obtain ⟨n, rfl⟩ : ∃ k, n = k + 1 := ⟨n - 1, by omega⟩
  obtain ⟨m, rfl⟩ : ∃ k, m = k + 1 := ⟨m - 1, by omega⟩
  exact lv_or _ _ _ _ _ _ (f_grp_Tape_readLevel n).1 (f_grp_Tape_readLevel n).2 v2 op (rd_l1 H n m (by omega) (by omega))
theorem rd_operand : ∀ (k op : Nat), op + k = 6 → ∀ (n m : Nat) (v2 : Int32), 7 * k + 1 ≤ n → 6 * k + 1 ≤ m → v2.toInt = op → SP isX (g_Tape_readOperand n v2) (g_M_operand m) op
  | 0, op, hk, n, m, v2, hn, hm, hv => by
    obtain ⟨n, rfl⟩ : ∃ k, n = k + 1 := ⟨n - 1, by omega⟩
    obtain ⟨m, rfl⟩ : ∃ k, m = k + 1 := ⟨m - 1, by omega⟩
    exact lv_operand (f_grp_Tape_readLevel n).1 (f_grp_Tape_readLevel n).2 v2 _ _ _ _ _ _ op hv (by omega) (fun h => by omega) (fun h => by omega)
  | k + 1, op, hk, n, m, v2, hn, hm, hv => by
    obtain ⟨n, rfl⟩ : ∃ k, n = k + 1 := ⟨n - 1, by omega⟩
    obtain ⟨m, rfl⟩ : ∃ k, m = k + 1 := ⟨m - 1, by omega⟩
    have hv1 : (v2 + 1).toInt = (op + 1 : Nat) := by rw [i_inc (by omega)]; omega
    have ih := fun n m hn hm => rd_operand k (op + 1) (by omega) n m (v2 + 1) hn hm hv1
    exact lv_operand (f_grp_Tape_readLevel n).1 (f_grp_Tape_readLevel n).2 v2 _ _ _ _ _ _ op hv (by omega) (fun h => rd_l0 ih n m (by omega) (by omega)) (fun h => ih n m (by omega) (by omega))
/-- an expression, on both sides -/
theorem rd_expr : SP isX (g_Tape_readLevel zR 0 0) (g_M_either zR) 0 :=
  rd_l0 (fun n m hn hm => rd_operand 6 0 rfl n m 0 hn hm rfl) zR zR (by unfold zR; omega) (by unfold zR; omega)
