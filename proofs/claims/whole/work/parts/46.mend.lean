theorem chgP_at {d : Nat} {f g : Nat → Int32} {x : Int32} (h : chgP d f g x) (hd : d ≤ 40) (k : Nat) (hk : k < (if d < 40 then d + 1 else 40)) : (k + 1 = (if d < 40 then d + 1 else 40) ∧ g k = x) ∨ (k + 1 < (if d < 40 then d + 1 else 40) ∧ g k = f (if d < 40 then k else k + 1)) := by
  unfold chgP at h
  by_cases h1 : d < 40
  · rw [if_pos h1] at h hk
    rw [if_pos h1, if_pos h1]
    by_cases h2 : k = d
    · exact Or.inl ⟨by omega, by rw [h2]; exact h.1⟩
    · exact Or.inr ⟨by omega, h.2 k (by omega)⟩
  · rw [if_neg h1] at h hk
    rw [if_neg h1, if_neg h1]
    by_cases h2 : k = 39
    · exact Or.inl ⟨by omega, by rw [h2]; exact h.1⟩
    · exact Or.inr ⟨by omega, h.2 k (by omega)⟩
/-- the heart of mend: cell cid of the class, cell mid of the reference take the new value; one change more -/
theorem mend_core (n w v : Int32) (cid mid nb : Nat) {s : zz_S} (g : zz_S → Option (Int32 × zz_S)) (h : iv s) (hg : ∀ s' : zz_S, s'.1 79 = s.1 79 → g s' = (f_M_changes w n v s').bind fun q4 => some (q4.1, q4.2)) (hcid : cid < 39) (hmid : 79 < mid ∧ mid < 91) (hval : ∀ s', f_M_valueAt w n s' = some (s'.1 mid n.toInt.toNat)) (hlay : ∀ s', f_M_lays w n v s' = some (zz_w s' mid n.toInt.toNat v)) (heq : s.1 mid = s.1 cid)
    (hx : hOK (s.1 1 1) (s.1 1 2) n w (s.1 cid n.toInt.toNat) v)
    (hiv : ∀ s2 : zz_S, (∀ o, o < 39 ∨ (43 < o ∧ o < 79) ∨ (79 < o ∧ o < 91) ∨ 94 < o → o ≠ cid → o ≠ mid → s2.1 o = s.1 o) → s2.2 = s.2 → (∀ k, k ≠ 16 → k ≠ 17 → s2.1 79 k = s.1 79 k) → s2.1 cid = upd (s.1 cid) n.toInt.toNat v → s2.1 mid = upd (s.1 mid) n.toInt.toNat v → iv_bed s2 ∧ iv_turn s2 ∧ iv_tape s2 ∧ iv_body s2 ∧ iv_shl s2 ∧ iv_law s2 ∧ iv_rest s2 ∧ s2.1 1 1 = s.1 1 1 ∧ s2.1 1 2 = s.1 1 2) :
    ag iv (if v = s.1 cid n.toInt.toNat then some (s.1 cid n.toInt.toNat, s) else (f_Changes_add n w (s.1 cid n.toInt.toNat) v (zz_w s cid n.toInt.toNat v)).bind fun q9 => some (s.1 cid n.toInt.toNat, q9)) g := by
  obtain ⟨hb, ht, ⟨c1, c2, ⟨c3, c4, c5⟩, c6⟩, hta, hbo, hsh, hla, hre⟩ := id h
  by_cases hv : v = s.1 cid n.toInt.toNat
  · rw [if_pos hv]
    refine ⟨_, s, s, rfl, ?_, h⟩
    rw [hg s rfl]
    unfold f_M_changes
    simp only [hval, Option.bind_some]
    rw [heq, if_pos hv.symm]
    rfl
  · rw [if_neg hv]
    have h39 : (zz_w s cid n.toInt.toNat v).1 39 = s.1 39 := zz_w_ne s _ _ _ (by omega)
    obtain ⟨q, hq, q1, q2, q3, q4, q5, q6, q7, q8⟩ := chg_B n w (s.1 cid n.toInt.toNat) v (s := zz_w s cid n.toInt.toNat v) (by rw [h39]; exact c3) (by rw [h39]; omega)
    rw [hq]
    rw [h39] at q3 q4 q5 q6 q7
    have e40 : (zz_w s cid n.toInt.toNat v).1 40 = s.1 40 := zz_w_ne s _ _ _ (by omega)
    have e41 : (zz_w s cid n.toInt.toNat v).1 41 = s.1 41 := zz_w_ne s _ _ _ (by omega)
    have e42 : (zz_w s cid n.toInt.toNat v).1 42 = s.1 42 := zz_w_ne s _ _ _ (by omega)
    have e43 : (zz_w s cid n.toInt.toNat v).1 43 = s.1 43 := zz_w_ne s _ _ _ (by omega)
    rw [e40] at q3
    rw [e41] at q4
    rw [e42] at q5
    rw [e43] at q6
    have qf : ∀ o, o < 39 ∨ 43 < o → o ≠ cid → q.1 o = s.1 o := fun o h1 h2 => by rw [q1 o h1]; exact zz_w_ne s _ _ _ h2
    have qm : q.1 mid = s.1 mid := qf mid (by omega) (by omega)
    have q79 : q.1 79 = s.1 79 := qf 79 (by omega) (by omega)
    obtain ⟨z, hz, z1, z2, z3, z4, z5, z6, z7, z8, z9, z10⟩ := chg_M w n v (s := q) mid nb (by omega) (hval q) hlay (by rw [q79, c1]; exact c3) (by rw [q79, c1]; omega) (by rw [qm, heq]; exact fun h => hv h.symm)
    rw [q79, c1] at z5 z6 z7 z8 z9
    rw [qm, heq] at z7
    rw [qf 92 (by omega) (by omega)] at z5
    rw [qf 91 (by omega) (by omega)] at z6
    rw [qf 93 (by omega) (by omega)] at z7
    rw [qf 94 (by omega) (by omega)] at z8
    refine ag_of rfl ⟨z, ?_, ?_⟩
    · rw [hg q q79, hz, qm, heq]
      rfl
    · have zf : ∀ o, o < 79 → z.1 o = q.1 o := fun o h1 => z1 o (by omega) (by omega)
      obtain ⟨g1, g2, g3, g4, g5, g6, g7, g8, g9⟩ := hiv z (fun o h1 h2 h3 => by rw [z1 o (by omega) h3]; exact qf o (by omega) h2) (z2.trans q2) (fun k h1 h2 => by rw [z3 k h1 h2, q79]) (by rw [zf cid (by omega), q1 cid (by omega)]; exact zz_w_same s _ _ _) (by rw [z4, qm])
      refine ⟨g1, g2, ⟨?_, ?_, ?_, ?_⟩, g3, g4, g5, g6, g7⟩
      · rw [zf 39 (by omega), i_eq, z9, q7]
      · rw [zf 39 (by omega), z10, q8]; omega
      · rw [zf 39 (by omega), q8, q7]
        split <;> omega
      · intro k hk
        rw [zf 39 (by omega), q8, q7] at hk
        have hd : (s.1 39 0).toInt.toNat ≤ 40 := by omega
        have hk2 : k < (if (s.1 39 0).toInt.toNat < 40 then (s.1 39 0).toInt.toNat + 1 else 40) := by
          by_cases hh : (s.1 39 0).toInt < 40
          · rw [if_pos hh] at hk; rw [if_pos (by omega)]; omega
          · rw [if_neg hh] at hk; rw [if_neg (by omega)]; omega
        rw [zf 40 (by omega), zf 41 (by omega), zf 42 (by omega), zf 43 (by omega), g8, g9]
        rcases chgP_at q3 hd k hk2 with ⟨a1, a2⟩ | ⟨a1, a2⟩
        · rcases chgP_at q4 hd k hk2 with ⟨-, b2⟩ | ⟨b1, -⟩
          · rcases chgP_at q5 hd k hk2 with ⟨-, d2⟩ | ⟨d1, -⟩
            · rcases chgP_at q6 hd k hk2 with ⟨-, f2⟩ | ⟨f1, -⟩
              · rcases chgP_at z5 hd k hk2 with ⟨-, a3⟩ | ⟨a3, -⟩
                · rcases chgP_at z6 hd k hk2 with ⟨-, b3⟩ | ⟨b3, -⟩
                  · rcases chgP_at z7 hd k hk2 with ⟨-, d3⟩ | ⟨d3, -⟩
                    · rcases chgP_at z8 hd k hk2 with ⟨-, f3⟩ | ⟨f3, -⟩
                      · rw [a2, b2, d2, f2, a3, b3, d3, f3]
                        exact ⟨⟨rfl, rfl, rfl, rfl⟩, hx⟩
                      · omega
                    · omega
                  · omega
                · omega
              · omega
            · omega
          · omega
        · rcases chgP_at q4 hd k hk2 with ⟨b1, -⟩ | ⟨-, b2⟩
          · omega
          · rcases chgP_at q5 hd k hk2 with ⟨d1, -⟩ | ⟨-, d2⟩
            · omega
            · rcases chgP_at q6 hd k hk2 with ⟨f1, -⟩ | ⟨-, f2⟩
              · omega
              · rcases chgP_at z5 hd k hk2 with ⟨a3, -⟩ | ⟨-, a3⟩
                · omega
                · rcases chgP_at z6 hd k hk2 with ⟨b3, -⟩ | ⟨-, b3⟩
                  · omega
                  · rcases chgP_at z7 hd k hk2 with ⟨d3, -⟩ | ⟨-, d3⟩
                    · omega
                    · rcases chgP_at z8 hd k hk2 with ⟨f3, -⟩ | ⟨-, f3⟩
                      · omega
                      · rw [a2, b2, d2, f2, a3, b3, d3, f3]
                        refine c6 _ ?_
                        by_cases hh : (s.1 39 0).toInt.toNat < 40
                        · rw [if_pos hh] at a1 ⊢; omega
                        · rw [if_neg hh] at a1 ⊢; omega
