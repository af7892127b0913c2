/-- the class's first order -/
theorem fst_loop (w : Int32) {c0 : zz_S} {S : Nat} (hS6 : S ≤ 6) : ∀ (q j n : Nat) (v3 : Int32) (c : zz_S), j + q = S → v3.toInt = j → q < n → (∀ o, o ≠ 53 → c.1 o = c0.1 o) → c.2 = c0.2 → (∀ i, i < j → c.1 53 i = nI i) →
    ∃ c2, f_B_across_L28 n w (nI S) v3 c = f_B_across_L57 zF w (nI S) 0 (-1) 1 0 c2 ∧ (∀ o, o ≠ 53 → c2.1 o = c0.1 o) ∧ c2.2 = c0.2 ∧ ∀ i, i < S → c2.1 53 i = nI i := by
  have hSi := nI_int (n := S) (by omega)
  intro q
  induction q with
  | zero =>
    intro j n v3 c hj hv hn h1 h2 h3
    obtain ⟨n, rfl⟩ : ∃ x, n = x + 1 := ⟨n - 1, by omega⟩
    exact ⟨c, by rw [f_B_across_L28, if_pos (by rw [i_le]; omega)], h1, h2, fun i hi => h3 i (by omega)⟩
  | succ q ih =>
    intro j n v3 c hj hv hn h1 h2 h3
    obtain ⟨n, rfl⟩ : ∃ x, n = x + 1 := ⟨n - 1, by omega⟩
    have hi := i_inc (a := v3) (by omega)
    have e : v3 = nI j := i_lit (by rw [nI_int (by omega)]; exact hv)
    rw [f_B_across_L28, if_neg (by rw [i_le]; omega), if_pos (i_in.mpr (by omega)), nz_eq hv]
    refine ih (j + 1) n (v3 + 1) _ (by omega) (by omega) (by omega) (fun o ho => by rw [w_row, if_neg ho]; exact h1 o ho) h2 (fun i hi => ?_)
    rw [w_get, if_pos rfl]
    by_cases q : i = j
    · rw [if_pos q, q, e]
    · rw [if_neg q]; exact h3 i (by omega)
/-- the reference keeps the places -/
theorem kp_loop (w : Int32) {r0 : zz_S} {S : Nat} (hS6 : S ≤ 6) (hSr : (r0.1 79 2).toInt = S) : ∀ (q j n : Nat) (v2 : Int32) (r : zz_S), j + q = S → v2.toInt = j → q < n → (∀ o, o ≠ 115 → r.1 o = r0.1 o) → r.2 = r0.2 → (∀ i, i < j → r.1 115 i = r0.1 80 i) →
    ∃ r2, f_M_across_L23 n w v2 r = f_M_across_L53 zF w 1 0 r2 ∧ (∀ o, o ≠ 115 → r2.1 o = r0.1 o) ∧ r2.2 = r0.2 ∧ ∀ i, i < S → r2.1 115 i = r0.1 80 i := by
  intro q
  induction q with
  | zero =>
    intro j n v2 r hj hv hn h1 h2 h3
    obtain ⟨n, rfl⟩ : ∃ x, n = x + 1 := ⟨n - 1, by omega⟩
    exact ⟨r, by rw [f_M_across_L23, if_pos (by rw [i_le, h1 79 (by decide)]; omega)], h1, h2, fun i hi => h3 i (by omega)⟩
  | succ q ih =>
    intro j n v2 r hj hv hn h1 h2 h3
    obtain ⟨n, rfl⟩ : ∃ x, n = x + 1 := ⟨n - 1, by omega⟩
    have hi := i_inc (a := v2) (by omega)
    rw [f_M_across_L23, if_neg (by rw [i_le, h1 79 (by decide)]; omega), if_pos (i_in.mpr (by omega)), nz_eq hv]
    refine ih (j + 1) n (v2 + 1) _ (by omega) (by omega) (by omega) (fun o ho => by rw [w_row, if_neg ho]; exact h1 o ho) h2 (fun i hi => ?_)
    rw [w_get, if_pos rfl]
    by_cases q : i = j
    · rw [if_pos q, q, h1 80 (by decide)]
    · rw [if_neg q]; exact h3 i (by omega)
theorem pow_le2 {S j : Nat} (hS0 : 0 < S) (hS : S ≤ 6) (hj : j ≤ S) : S ^ j ≤ 46656 := Nat.le_trans (Nat.pow_le_pow_right hS0 hj) (pow_le S hS)
/-- how many numbers there are -/
theorem pw_loop (w : Int32) {r : zz_S} {S : Nat} (hS0 : 0 < S) (hS6 : S ≤ 6) (hSr : (r.1 79 2).toInt = S) : ∀ (q j n : Nat) (v2 v3 : Int32), j + q = S → v3.toInt = j → q < n → v2.toInt = (S ^ j : Nat) →
    ∃ all : Int32, all.toInt = (S ^ S : Nat) ∧ f_M_across_L53 n w v2 v3 r = f_M_across_L82 zF w all 0 (-1) 0 r := by
  intro q
  induction q with
  | zero =>
    intro j n v2 v3 hj hv hn h2
    obtain ⟨n, rfl⟩ : ∃ x, n = x + 1 := ⟨n - 1, by omega⟩
    obtain rfl : j = S := by omega
    exact ⟨v2, h2, by rw [f_M_across_L53, if_pos (by rw [i_le]; omega)]⟩
  | succ q ih =>
    intro j n v2 v3 hj hv hn h2
    obtain ⟨n, rfl⟩ : ∃ x, n = x + 1 := ⟨n - 1, by omega⟩
    have hi := i_inc (a := v3) (by omega)
    have hp := pow_le2 hS0 hS6 (show j + 1 ≤ S by omega)
    have em : v2.toInt * (r.1 79 2).toInt = (S ^ (j + 1) : Nat) := by
      rw [h2, hSr, Nat.pow_succ]
      exact (Int.natCast_mul _ _).symm
    have em1 : (0 : Int) ≤ v2.toInt * (r.1 79 2).toInt := by rw [em]; exact Int.natCast_nonneg _
    have em2 : v2.toInt * (r.1 79 2).toInt ≤ (46656 : Nat) := by rw [em]; exact Int.ofNat_le.mpr hp
    have hm := i_mul (a := v2) (b := r.1 79 2) (Int.le_trans (by decide) em1) (Int.le_trans em2 (by decide))
    rw [f_M_across_L53, if_neg (by rw [i_le]; omega)]
    exact ih (j + 1) n _ (v3 + 1) (by omega) (by omega) (by omega) (by rw [hm, em])
theorem p_across (w : Int32) {s : zz_S} (h : iv s) : ag iv (f_B_across w s) (f_M_across w) := by
  have l0 : (0 : Int32).toInt = 0 := rfl
  have l1 : (1 : Int32).toInt = 1 := rfl
  refine lock (s := s) fun r hr => ?_
  obtain ⟨S, C, W, T, hb, hS, hC, hp, hL, ⟨h38, h51, h36, h35⟩, ⟨i1, i2, i3⟩⟩ := iv_nB h hr
  have hSr : r.1 79 2 = s.1 1 1 := hb.1.2.2.2.1.2.1
  have hS6 := hb.1.2.1.2
  unfold f_B_across f_M_across
  by_cases c2 : 0 ≤ w.toInt ∧ w.toInt ≤ 1
  · have n3 : ¬ f_M_in w 0 1 = 0 := fun q => (in_of (n := 1) rfl).mp q c2
    rw [if_neg (by rw [i_lt, l0]; omega), if_pos (by rw [i_le, l1]; omega), if_neg n3, hSr]
    by_cases z : s.1 1 1 = 0
    · rw [if_pos z, if_pos z]; exact same_of h hr _
    · rw [if_neg z, if_neg z]
      have hS0 : 0 < S := by
        rcases Nat.eq_zero_or_pos S with q | q
        · exact absurd (i_lit (b := 0) (by rw [hS, q]; rfl)) z
        · exact q
      have hSn : s.1 1 1 = nI S := i_lit (by rw [hS, nI_int (by omega)])
      have hSr' : (r.1 79 2).toInt = S := by rw [hSr]; exact hS
      obtain ⟨c2, a1, a2, a3, a4⟩ := fst_loop w (c0 := s) hS6 S 0 zF 0 s (by omega) rfl (by unfold zF; omega) (fun _ _ => rfl) rfl (fun i hi => by omega)
      obtain ⟨r2, b1, b2, b3, b4⟩ := kp_loop w hS6 hSr' S 0 zF 0 r (by omega) rfl (by unfold zF; omega) (fun _ _ => rfl) rfl (fun i hi => by omega)
      obtain ⟨all, d1, d2⟩ := pw_loop w (r := r2) hS0 hS6 (by rw [b2 79 (by decide)]; exact hSr') S 0 zF 1 0 (by omega) rfl (by unfold zF; omega) rfl
      obtain ⟨P, kf, w1, w2, w3⟩ := wlk_all hS0 hS6
      have hpw := pow_le S hS6
      have hF : aF s r c2 r2 := aF_wr (fun o a _ => a2 o a) a3 (fun o _ a _ => b2 o a) b3
      obtain ⟨v, c3, r3, k1, k2, k3, k4⟩ := acr_loop w (Z := S ^ S) rfl hpw hb (hL _ i1 i2) ⟨h38, h51, h36⟩ hS0 d1 (S ^ S) 0 P 0 zF zF 0 (-1) 1 0 0 c2 r2 (Nat.zero_add _) rfl rfl (by omega) (by unfold zF; omega) (Nat.lt_of_le_of_lt hpw (by unfold zF; omega)) w1 hF b4 (fun i hi => by rw [b2 80 (by decide)]) (Or.inl ⟨rfl, w2, fun i hi => by rw [a4 i hi, w3 i hi]⟩)
      obtain ⟨g1, g2, g3⟩ := aF_iv h hr k3 k4
      rw [hSn, a1, b1, d2]
      exact ⟨v, c3, r3, k1, k2, g1, g2, g3⟩
  · have n3 : f_M_in w 0 1 = 0 := (in_of (n := 1) rfl).mpr c2
    rw [if_pos n3]
    by_cases n1 : w < 0
    · rw [if_pos n1]; exact same_of h hr _
    · rw [if_neg n1, if_neg (by rw [i_le, l1]; rw [i_lt, l0] at n1; omega)]; exact same_of h hr _
/-- THE PURE STATEMENT -/
theorem zz_pure {L : Nat} {xs : Nat → Int32} (hL : L ≤ 384) : ∀ s, ∃ s2, f_Law_law_L18 L xs zF 0 (zg_142 s) = some (1, s2) := fun s => pure_of (fun a _ h => p_across a h) hL s
