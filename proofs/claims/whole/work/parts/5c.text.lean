theorem J49_bad {c r : zz_S} {N a ld : Nat} (h : pB c r N a ld) : ∃ c2, f_Tape_readAll_J49 c = some (r.1 79 25, zz_w c2 44 0 0) ∧ lF c r c2 r := by
  obtain ⟨k1, k2, k3, -⟩ := p_fail2 h
  obtain ⟨t, h2, h3, h4, h5, h6, h7⟩ := h
  unfold f_Tape_readAll_J49 f_Tape_readAll_J64
  by_cases q : c.1 44 0 ≤ c.1 44 3
  · rw [if_pos q]
    rcases h7 with h7 | ⟨-, h8, h9, -⟩
    · exact ⟨c, by rw [h7], lF_me _ _⟩
    · rw [h8, i_le, t.1] at q
      omega
  · rw [if_neg q]
    exact ⟨f_Tape_fail c, by rw [k3], lF_of k2⟩
theorem rt_loop (use : Int32) : ∀ (m : Nat) (c r : zz_S) (N a sz ld n n2 : Nat) (L : List (List (Int32 × Int32) × List (Int32 × Int32))) (v1 : Int32), LG c r N a sz ld L → N - a ≤ m → m < n → m < n2 → sz ≤ a + 1 → ld ≤ a → 2 * L.length ≤ a + 1 → 0 ≤ v1.toInt → v1.toInt ≤ a →
    ∃ (c2 r2 : zz_S) (x : Int32), f_Tape_readAll_L24 n v1 c = some (x, zz_w c2 44 0 0) ∧ lF c r c2 r2 ∧
      ((x = -1 ∧ ∃ (a2 sz2 ld2 : Nat) (L2 : List (List (Int32 × Int32) × List (Int32 × Int32))), LG c2 r2 N a2 sz2 ld2 L2 ∧ sz2 ≤ 121 ∧ ld2 ≤ 121 ∧ L2.length ≤ 61 ∧ f_M_readText_L31 n2 use r = f_M_readText_L105 zF use 0 (zz_w r2 79 23 0)) ∨ (0 ≤ x.toInt ∧ f_M_readText_L31 n2 use r = some (x, zz_w r2 79 23 0))) := by
  have l0 : (0 : Int32).toInt = 0 := rfl
  have l120 : (120 : Int32).toInt = 120 := rfl
  intro m
  induction m with
  | zero =>
    intro c r N a sz ld n n2 L v1 hLG hm hn hn2 hs hl hL hv0 hv
    obtain ⟨n, rfl⟩ : ∃ k, n = k + 1 := ⟨n - 1, by omega⟩
    obtain ⟨n2, rfl⟩ : ∃ k, n2 = k + 1 := ⟨n2 - 1, by omega⟩
    have hG := hLG.1
    have hle := hG.2.1
    have hN := hG.1.2.1
    obtain ⟨v, w, p1, p2, p3, p4⟩ := pk_good hG
    have hv' : v = -1 := p4.resolve_right (by omega)
    have h59 : ¬ v = 59 := by rw [hv']; decide
    have hend : c.1 44 0 ≤ c.1 44 3 := by rw [i_le, hG.1.1, hG.2.2.1.1]; omega
    have hend2 : r.1 79 23 ≤ r.1 79 24 := by rw [i_le, hG.1.2.2.1, hG.2.2.1.2]; omega
    have eJ : f_Tape_readAll_J49 c = some (-1, zz_w c 44 0 0) := by unfold f_Tape_readAll_J49 f_Tape_readAll_J64; rw [if_pos hend, hG.2.2.2.1.1]
    refine ⟨c, r, -1, ?_, lF_me _ _, Or.inl ⟨rfl, a, sz, ld, L, hLG, by omega, by omega, by omega, ?_⟩⟩
    · rw [f_Tape_readAll_L24]
      by_cases q : (120 : Int32) ≤ v1
      · rw [if_pos q]; exact eJ
      · rw [if_neg q, takes_no p1 h59, Option.bind_some, if_pos rfl]; exact eJ
    · rw [f_M_readText_L31, if_neg (nofault hG), p2, Option.bind_some, if_neg (fun q => h59 (p3.1.2.2.2.2.1.mpr q))]
      unfold f_M_readText_J64 f_M_readText_J86
      rw [if_neg (nofault hG), if_pos hend2, if_pos (by rw [hG.2.2.2.1.2]; decide)]
  | succ m ih =>
    intro c r N a sz ld n n2 L v1 hLG hm hn hn2 hs hl hL hv0 hv
    obtain ⟨n, rfl⟩ : ∃ k, n = k + 1 := ⟨n - 1, by omega⟩
    obtain ⟨n2, rfl⟩ : ∃ k, n2 = k + 1 := ⟨n2 - 1, by omega⟩
    have hG := hLG.1
    have hle := hG.2.1
    have hN := hG.1.2.1
    obtain ⟨v, w, p1, p2, p3, p4⟩ := pk_good hG
    by_cases h59 : v = 59
    · have hlt : a < N := p4.resolve_left fun q => by rw [q] at h59; exact absurd h59 (by decide)
      obtain ⟨t1, t2⟩ := pG_take hG hlt
      have hLG1 : LG (zz_w c 44 3 (c.1 44 3 + 1)) (zz_w r 79 24 (r.1 79 24 + 1)) N (a + 1) sz ld L := by
        obtain ⟨-, x2, x3, x4, x5, x6⟩ := hLG
        refine ⟨t1, ?_, x3, x4, ?_, ?_⟩
        · simp [w_get]; exact x2
        · rw [show (zz_w c 44 3 (c.1 44 3 + 1)).1 46 = c.1 46 by simp [w_row]]; exact x5
        · rw [show (zz_w r 79 24 (r.1 79 24 + 1)).1 96 = r.1 96 by simp [w_row], show (zz_w r 79 24 (r.1 79 24 + 1)).1 97 = r.1 97 by simp [w_row], show (zz_w r 79 24 (r.1 79 24 + 1)).1 99 = r.1 99 by simp [w_row], show (zz_w r 79 24 (r.1 79 24 + 1)).1 100 = r.1 100 by simp [w_row]]; exact x6
      obtain ⟨c1, r1, g1, g2, g3, hk⟩ := ln_line hLG1 (by omega) (by omega) (by omega)
      have e1 : f_Tape_readAll_L24 (n + 1) v1 c = f_Tape_readAll_L24 n (v1 + 1) c1 := by
        rw [f_Tape_readAll_L24, if_neg (by rw [i_le, l120]; omega), takes_yes p1 h59, Option.bind_some, if_neg one_ne, g1, Option.bind_some]
      have e2 : f_M_readText_L31 (n2 + 1) use r = f_M_readText_L31 n2 use r1 := by
        rw [f_M_readText_L31, if_neg (nofault hG), p2, Option.bind_some, if_pos (p3.1.2.2.2.2.1.mp h59), g2, Option.bind_some]
      rw [e1, e2]
      have hv1 := i_inc (a := v1) (by omega)
      have hF := lF_tr (lF_of t2) g3
      rcases hk with ⟨a2, sz2, ld2, q, k1, k2, k3, k4, k5⟩ | ⟨a2, ld2, k1⟩
      · have hll : (L ++ [q]).length = L.length + 1 := by rw [List.length_append]; rfl
        obtain ⟨c3, r3, x, m1, m2, m3⟩ := ih c1 r1 N a2 sz2 ld2 n n2 (L ++ [q]) (v1 + 1) k1 (by omega) (by omega) (by omega) k3 k4 (by omega) (by omega) (by omega)
        exact ⟨c3, r3, x, m1, lF_tr hF m2, m3⟩
      · obtain ⟨n, rfl⟩ : ∃ k, n = k + 1 := ⟨n - 1, by omega⟩
        obtain ⟨n2, rfl⟩ : ∃ k, n2 = k + 1 := ⟨n2 - 1, by omega⟩
        obtain ⟨⟨v', u, d1, d2, d3⟩, -⟩ := pk_bad k1
        have h59' : ¬ v' = 59 := fun q => by
          rcases d3 with d3 | d3
          · rw [q] at d3; exact absurd d3 (by decide)
          · rw [q, show (59 : Int32).toInt = 59 from rfl] at d3; omega
        obtain ⟨c2, j1, j2⟩ := J49_bad k1
        refine ⟨c2, r1, r1.1 79 25, ?_, lF_tr hF j2, Or.inr ⟨k1.2.2.2.2.2.1.1, ?_⟩⟩
        · rw [f_Tape_readAll_L24]
          by_cases q : (120 : Int32) ≤ v1 + 1
          · rw [if_pos q]; exact j1
          · rw [if_neg q, takes_no d1 h59', Option.bind_some, if_pos rfl]; exact j1
        · rw [f_M_readText_L31, if_pos (isfault k1)]
          unfold f_M_readText_J64 f_M_readText_J86
          have hf := isfault k1
          rw [if_pos hf, if_neg (by rw [i_lt]; rw [i_le] at hf; omega)]
    · have e2 : f_M_readText_L31 (n2 + 1) use r = f_M_readText_J64 use r := by
        rw [f_M_readText_L31, if_neg (nofault hG), p2, Option.bind_some, if_neg (fun q => h59 (p3.1.2.2.2.2.1.mpr q))]
      have e1 : f_Tape_readAll_L24 (n + 1) v1 c = f_Tape_readAll_J49 c := by
        rw [f_Tape_readAll_L24]
        by_cases q : (120 : Int32) ≤ v1
        · rw [if_pos q]
        · rw [if_neg q, takes_no p1 h59, Option.bind_some, if_pos rfl]
      rw [e1, e2]
      unfold f_Tape_readAll_J49 f_Tape_readAll_J64 f_M_readText_J64 f_M_readText_J86
      by_cases hend : a < N
      · obtain ⟨t1, t2⟩ := p_fail hG (by omega)
        have hc : c.1 44 0 ≤ c.1 44 3 ↔ False := by rw [i_le, hG.1.1, hG.2.2.1.1]; simp; omega
        have hr : r.1 79 23 ≤ r.1 79 24 ↔ False := by rw [i_le, hG.1.2.2.1, hG.2.2.1.2]; simp; omega
        have hf := isfault t1
        have hx : (f_Tape_fail c).1 44 4 = (f_M_faulty r).1 79 25 := by
          have e3 : f_Tape_fail c = zz_w c 44 4 (c.1 44 3) := by unfold f_Tape_fail; rw [if_pos hG.2.2.2.1.1]
          have e4 : f_M_faulty r = zz_w r 79 25 (r.1 79 24) := by unfold f_M_faulty; rw [if_neg (nofault hG)]
          rw [e3, e4]
          simp only [w_get, if_true]
          exact i_lit (by rw [hG.2.2.1.1, hG.2.2.1.2])
        refine ⟨f_Tape_fail c, f_M_faulty r, (f_M_faulty r).1 79 25, ?_, lF_of t2, Or.inr ⟨t1.2.2.2.2.2.1.1, ?_⟩⟩
        · rw [if_neg (fun q => hc.mp q), hx]
        · rw [if_neg (nofault hG), if_neg (fun q => hr.mp q), if_neg (by rw [i_lt]; rw [i_le] at hf; omega)]
      · have hc : c.1 44 0 ≤ c.1 44 3 := by rw [i_le, hG.1.1, hG.2.2.1.1]; omega
        have hr : r.1 79 23 ≤ r.1 79 24 := by rw [i_le, hG.1.2.2.1, hG.2.2.1.2]; omega
        refine ⟨c, r, -1, ?_, lF_me _ _, Or.inl ⟨rfl, a, sz, ld, L, hLG, by omega, by omega, by omega, ?_⟩⟩
        · rw [if_pos hc, hG.2.2.2.1.1]
        · rw [if_neg (nofault hG), if_pos hr, if_pos (by rw [hG.2.2.2.1.2]; decide)]
/-- the tape is read, on both sides -/
theorem rt_all (use : Int32) {c r : zz_S} {N : Nat} (h : pT c r N) : ∃ (c2 r2 : zz_S) (x : Int32), f_Tape_readAll c = some (x, zz_w c2 44 0 0) ∧ lF c r c2 r2 ∧
      ((x = -1 ∧ ∃ (a2 sz2 ld2 : Nat) (L2 : List (List (Int32 × Int32) × List (Int32 × Int32))), LG c2 r2 N a2 sz2 ld2 L2 ∧ sz2 ≤ 121 ∧ ld2 ≤ 121 ∧ L2.length ≤ 61 ∧ f_M_readText use r = f_M_readText_L105 zF use 0 (zz_w r2 79 23 0)) ∨ (0 ≤ x.toInt ∧ f_M_readText use r = some (x, zz_w r2 79 23 0))) := by
  have hF0 : lF c r (zz_w (zz_w (zz_w c 44 3 0) 44 4 (-1)) 45 0 0) (zz_w (zz_w (zz_w (zz_w (zz_w r 79 24 0) 79 25 (-1)) 79 26 0) 79 27 0) 98 5 0) := ⟨⟨fun o a b d => by simp [w_row, a, b], rfl, fun k a b => by simp [w_get, a, b]⟩, fun o a b d e f g => by simp [w_row, a, e], rfl, fun k a => by
    have n1 : ¬ k = 24 := by omega
    have n2 : ¬ k = 25 := by omega
    have n3 : ¬ k = 26 := by omega
    have n4 : ¬ k = 27 := by omega
    simp [w_get, n1, n2, n3, n4], fun k a => by simp [w_get], fun k a => by simp [w_get, a], fun k a => by simp [w_get]⟩
  have hLG : LG (zz_w (zz_w (zz_w c 44 3 0) 44 4 (-1)) 45 0 0) (zz_w (zz_w (zz_w (zz_w (zz_w r 79 24 0) 79 25 (-1)) 79 26 0) 79 27 0) 98 5 0) N 0 0 0 [] := by
    refine ⟨⟨pT_lF h hF0, Nat.zero_le _, ⟨?_, ?_⟩, ⟨?_, ?_⟩, ?_, ?_, ?_⟩, ?_, rfl, fun q hq => (by cases hq), rfl, trivial⟩
    · simp [w_get]
    · simp [w_get]
    · simp [w_get]
    · simp [w_get]
    · simp [w_get]
    · simp [w_get]
    · simp [w_get]
    · simp [w_get]
  have hN := h.2.1
  obtain ⟨c1, r1, g1, g2, g3, hk⟩ := ln_line hLG (Nat.le_refl _) (Nat.le_refl _) (Nat.le_refl _)
  have hF := lF_tr hF0 g3
  unfold f_Tape_readAll f_M_readText
  rw [g1, Option.bind_some, g2, Option.bind_some]
  rcases hk with ⟨a2, sz2, ld2, q, k1, k2, k3, k4, k5⟩ | ⟨a2, ld2, k1⟩
  · obtain ⟨c3, r3, x, m1, m2, m3⟩ := rt_loop use 120 c1 r1 N a2 sz2 ld2 zF zF ([] ++ [q]) 0 k1 (by omega) (by unfold zF; omega) (by unfold zF; omega) k3 k4 k5 (by decide) (by rw [show (0 : Int32).toInt = 0 from rfl]; omega)
    exact ⟨c3, r3, x, m1, lF_tr hF m2, m3⟩
  · obtain ⟨⟨v', u, d1, d2, d3⟩, -⟩ := pk_bad k1
    have h59' : ¬ v' = 59 := fun q => by
      rcases d3 with d3 | d3
      · rw [q] at d3; exact absurd d3 (by decide)
      · rw [q, show (59 : Int32).toInt = 59 from rfl] at d3; omega
    obtain ⟨c2, j1, j2⟩ := J49_bad k1
    refine ⟨c2, r1, r1.1 79 25, ?_, lF_tr hF j2, Or.inr ⟨k1.2.2.2.2.2.1.1, ?_⟩⟩
    · rw [show zF = 99999 + 1 from rfl, f_Tape_readAll_L24, if_neg (by decide), takes_no d1 h59', Option.bind_some, if_pos rfl]; exact j1
    · rw [show zF = 99999 + 1 from rfl, f_M_readText_L31, if_pos (isfault k1)]
      unfold f_M_readText_J64 f_M_readText_J86
      have hf := isfault k1
      rw [if_pos hf, if_neg (by rw [i_lt]; rw [i_le] at hf; omega)]
