theorem bc_spec {n : Nat} (hn : n < 2 ^ 64) : f_Long_bitCount (lN n) = nI (ct n.testBit 64) := by
  have hl := bys_len 8 n
  have hb := bys_lt 8 n
  have he := bys_num 8 n hn
  generalize bys 8 n = l at hl hb he
  subst he
  match l, hl, hb, hn with
  | [b0, b1, b2, b3, b4, b5, b6, b7], _, hb, hn =>
    have hct := ct_num _ hb
    rw [show 8 * [b0, b1, b2, b3, b4, b5, b6, b7].length = 64 from rfl] at hct
    rw [hct]
    have h0 := hb b0 (by simp)
    have h1 := hb b1 (by simp)
    have h2 := hb b2 (by simp)
    have h3 := hb b3 (by simp)
    have h4 := hb b4 (by simp)
    have h5 := hb b5 (by simp)
    have h6 := hb b6 (by simp)
    have h7 := hb b7 (by simp)
    have k0 := fab_chk ⟨b0, h0⟩
    have k1 := fab_chk ⟨b1, h1⟩
    have k2 := fab_chk ⟨b2, h2⟩
    have k3 := fab_chk ⟨b3, h3⟩
    have k4 := fab_chk ⟨b4, h4⟩
    have k5 := fab_chk ⟨b5, h5⟩
    have k6 := fab_chk ⟨b6, h6⟩
    have k7 := fab_chk ⟨b7, h7⟩
    simp only at k0 k1 k2 k3 k4 k5 k6 k7
    obtain ⟨a1, a2⟩ := num_a _ hb
    rw [show bmk 85 [b0, b1, b2, b3, b4, b5, b6, b7].length = 6148914691236517205 from rfl] at a1 a2
    have hA : ∀ b ∈ [b0, b1, b2, b3, b4, b5, b6, b7].map fa, b < 256 := by
      intro b hm
      obtain ⟨b', hm', rfl⟩ := List.mem_map.mp hm
      exact (fab_chk ⟨b', hb b' hm'⟩).1
    have hB : ∀ b ∈ ([b0, b1, b2, b3, b4, b5, b6, b7].map fa).map fb, b ≤ 68 ∧ b % 16 ≤ 4 := by
      intro b hm
      obtain ⟨b', hm', rfl⟩ := List.mem_map.mp hm
      obtain ⟨b'', hm'', rfl⟩ := List.mem_map.mp hm'
      have := fab_chk ⟨b'', hb b'' hm''⟩
      exact ⟨this.2.1, this.2.2.1⟩
    have b2' := num_b _ hA
    obtain ⟨-, c2⟩ := num_c _ hB
    rw [show bmk 51 ([b0, b1, b2, b3, b4, b5, b6, b7].map fa).length = 3689348814741910323 from rfl] at b2'
    rw [show bmk 15 (([b0, b1, b2, b3, b4, b5, b6, b7].map fa).map fb).length = 1085102592571150095 from rfl] at c2
    have lt2 : num ([b0, b1, b2, b3, b4, b5, b6, b7].map fa) < 2 ^ 64 := by
      rw [← a2]; exact Nat.lt_of_le_of_lt (Nat.sub_le _ _) hn
    have e1 : g1 (lN (num [b0, b1, b2, b3, b4, b5, b6, b7])) = lN (num ([b0, b1, b2, b3, b4, b5, b6, b7].map fa)) := by
      unfold g1
      rw [wb_shr hn (by decide), wb_and (Nat.lt_of_le_of_lt (Nat.div_le_self _ _) hn) (by decide), show (2 : Nat) ^ 1 = 2 from rfl, wb_sub a1, a2]
    have e2 : g2 (lN (num ([b0, b1, b2, b3, b4, b5, b6, b7].map fa))) = lN (num (([b0, b1, b2, b3, b4, b5, b6, b7].map fa).map fb)) := by
      unfold g2
      rw [wb_shr lt2 (by decide), wb_and lt2 (by decide), wb_and (Nat.lt_of_le_of_lt (Nat.div_le_self _ _) lt2) (by decide), show (2 : Nat) ^ 2 = 4 from rfl, wb_add, b2']
    have lt3 : num (([b0, b1, b2, b3, b4, b5, b6, b7].map fa).map fb) < 2 ^ 63 := by
      show fb (fa b0) + 256 * (fb (fa b1) + 256 * (fb (fa b2) + 256 * (fb (fa b3) + 256 * (fb (fa b4) + 256 * (fb (fa b5) + 256 * (fb (fa b6) + 256 * (fb (fa b7) + 256 * 0))))))) < 2 ^ 63
      omega
    have e3 : g3 (lN (num (([b0, b1, b2, b3, b4, b5, b6, b7].map fa).map fb))) = lN (num ((([b0, b1, b2, b3, b4, b5, b6, b7].map fa).map fb).map fc)) := by
      unfold g3
      rw [wb_shr (by omega) (by decide), wb_add, wb_and (by have := Nat.div_le_self (num (([b0, b1, b2, b3, b4, b5, b6, b7].map fa).map fb)) (2 ^ 4); omega) (by decide), show (2 : Nat) ^ 4 = 16 from rfl, c2]
    rw [bc_eq, e1, e2, e3]
    show (g6 (g5 (g4 (lN (fc (fb (fa b0)) + 256 * (fc (fb (fa b1)) + 256 * (fc (fb (fa b2)) + 256 * (fc (fb (fa b3)) + 256 * (fc (fb (fa b4)) + 256 * (fc (fb (fa b5)) + 256 * (fc (fb (fa b6)) + 256 * (fc (fb (fa b7)) + 256 * 0)))))))))))).toInt32 &&& nI 127 = nI (fc (fb (fa b0)) + (fc (fb (fa b1)) + (fc (fb (fa b2)) + (fc (fb (fa b3)) + (fc (fb (fa b4)) + (fc (fb (fa b5)) + (fc (fb (fa b6)) + (fc (fb (fa b7)) + 0))))))))
    replace k0 := k0.2.2.2
    replace k1 := k1.2.2.2
    replace k2 := k2.2.2.2
    replace k3 := k3.2.2.2
    replace k4 := k4.2.2.2
    replace k5 := k5.2.2.2
    replace k6 := k6.2.2.2
    replace k7 := k7.2.2.2
    clear a1 a2 hA hB b2' c2 lt2 e1 e2 lt3 e3 hct hb hn h0 h1 h2 h3 h4 h5 h6 h7
    generalize fc (fb (fa b0)) = c0 at *
    generalize fc (fb (fa b1)) = c1 at *
    generalize fc (fb (fa b2)) = c2 at *
    generalize fc (fb (fa b3)) = c3 at *
    generalize fc (fb (fa b4)) = c4 at *
    generalize fc (fb (fa b5)) = c5 at *
    generalize fc (fb (fa b6)) = c6 at *
    generalize fc (fb (fa b7)) = c7 at *
    obtain ⟨x, y, z, v, hx, hy, hz, hv, hs, l1, l2, l3⟩ := sum_bytes c0 c1 c2 c3 c4 c5 c6 c7 k0 k1 k2 k3 k4 k5 k6 k7
    rw [hx, ← hs]
    unfold g6 g5 g4
    rw [wb_shr l1 (by decide), hy, wb_add, wb_shr l2 (by decide), hz, wb_add, wb_shr l3 (by decide), hv, wb_add, wb_to32, nx_and, show (127 : Nat) = 2 ^ 7 - 1 from rfl, Nat.and_two_pow_sub_one_eq_mod]
