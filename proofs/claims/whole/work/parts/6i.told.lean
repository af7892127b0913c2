/-! the night: the turns of a minute -/
def nT (c r : zz_S) (T : Nat) : Prop := (r.1 79 12 = c.1 10 0 ∧ r.1 88 = c.1 11 ∧ r.1 89 = c.1 12 ∧ r.1 90 = c.1 13) ∧ ((c.1 10 0).toInt = T ∧ T ≤ 60) ∧ (∀ k, k < T → tOK (c.1 11 k) (c.1 12 k) (c.1 13 k)) ∧ byM (c.1 11) (c.1 14) T ∧ r.1 79 51 = c.1 20 14 ∧ -1 ≤ (c.1 20 14).toInt ∧ (c.1 20 14).toInt ≤ 5
/-- the a-th turn of a night: which, when -/
def tk (c : zz_S) (a : Nat) : Nat := (c.1 14 a).toInt.toNat
def tm (c : zz_S) (a : Nat) : Int := (c.1 11 (tk c a)).toInt
/-- what a minute's turns leave as it was -/
def mF (c r c2 r2 : zz_S) : Prop := ((∀ o, o ≠ 20 → o ≠ 25 → o ≠ 26 → o ≠ 28 → o ≠ 29 → o ≠ 30 → o ≠ 31 → o ≠ 33 → o ≠ 34 → o ≠ 35 → o ≠ 36 → o ≠ 57 → o ≠ 60 → o ≠ 63 → o ≠ 66 → c2.1 o = c.1 o) ∧ (∀ k, k ≠ 12 → k ≠ 15 → c2.1 20 k = c.1 20 k) ∧ ∀ o, o ≠ 37 → o ≠ 38 → c2.2 o = c.2 o) ∧
  (∀ o, o ≠ 79 → ¬ (101 ≤ o ∧ o ≤ 106) → ¬ (111 ≤ o ∧ o ≤ 114) → r2.1 o = r.1 o) ∧ (∀ k, k ≠ 54 → r2.1 79 k = r.1 79 k) ∧ r2.2 = r.2
theorem mF_me (c r : zz_S) : mF c r c r := ⟨⟨fun _ _ _ _ _ _ _ _ _ _ _ _ _ _ _ _ => rfl, fun _ _ _ => rfl, fun _ _ _ => rfl⟩, fun _ _ _ _ => rfl, fun _ _ => rfl, rfl⟩
theorem mF_tr {c r c2 r2 c3 r3 : zz_S} (h : mF c r c2 r2) (k : mF c2 r2 c3 r3) : mF c r c3 r3 := by
  obtain ⟨⟨h1, h1', h2⟩, h3, h3', h4⟩ := h
  obtain ⟨⟨k1, k1', k2⟩, k3, k3', k4⟩ := k
  exact ⟨⟨fun o a b d e f g i j l m n p q s t => (k1 o a b d e f g i j l m n p q s t).trans (h1 o a b d e f g i j l m n p q s t), fun k a b => (k1' k a b).trans (h1' k a b), fun o a b => (k2 o a b).trans (h2 o a b)⟩, fun o a b d => (k3 o a b d).trans (h3 o a b d), fun k a => (k3' k a).trans (h3' k a), k4.trans h4⟩
theorem mF_of {c r c2 r2 : zz_S} (h : tF c r c2 r2) : mF c r c2 r2 := by
  obtain ⟨⟨h1, h2⟩, h3, h4⟩ := h
  exact ⟨⟨fun o _ b d e f g i j l _ n p q s t => h1 o b d e f g i j l n p q s t, fun k _ _ => by rw [h1 20 (by decide) (by decide) (by decide) (by decide) (by decide) (by decide) (by decide) (by decide) (by decide) (by decide) (by decide) (by decide) (by decide)], h2⟩, fun o _ b d => h3 o b d, fun k _ => by rw [h3 79 (by omega) (by omega)], h4⟩
theorem mF_nS {c r c2 r2 : zz_S} {S C W : Nat} (h : mF c r c2 r2) (hs : nS c r S C W) : nS c2 r2 S C W := by
  obtain ⟨⟨h1, -, h2⟩, h3, h3', h4⟩ := h
  exact nS_fr hs (fun o a b => h1 o (by omega) (by omega) (by omega) (by omega) (by omega) (by omega) (by omega) (by omega) (by omega) (by omega) (by omega) (by omega) (by omega) (by omega) (by omega)) (fun k _ => h3' k (by omega)) (fun o a b => h3 o (by omega) (by omega) (by omega))
theorem mF_nW {c r c2 r2 : zz_S} (h : mF c r c2 r2) (hw : nW c r) : nW c2 r2 := by
  obtain ⟨⟨h1, h1', h2⟩, h3, h3', h4⟩ := h
  obtain ⟨w1, ⟨w2, w2'⟩, w3⟩ := hw
  unfold nW
  rw [h1' 10 (by decide) (by decide), h3' 36 (by decide), h3 96 (by decide) (by decide) (by decide), h3 97 (by decide) (by decide) (by decide), h3 98 (by decide) (by decide) (by decide), h3 99 (by decide) (by decide) (by decide), h3 100 (by decide) (by decide) (by decide)]
  refine ⟨w1, ⟨w2, w2'⟩, fun hlaw => ?_⟩
  rw [h1 (55 + 3 * (c.1 20 10).toInt.toNat) (by omega) (by omega) (by omega) (by omega) (by omega) (by omega) (by omega) (by omega) (by omega) (by omega) (by omega) (by omega) (by omega) (by omega) (by omega), h1 (56 + 3 * (c.1 20 10).toInt.toNat) (by omega) (by omega) (by omega) (by omega) (by omega) (by omega) (by omega) (by omega) (by omega) (by omega) (by omega) (by omega) (by omega) (by omega) (by omega)]
  exact w3 hlaw
theorem mF_nR {c r c2 r2 : zz_S} (h : mF c r c2 r2) (hR : nR c r) : nR c2 r2 := by
  obtain ⟨⟨h1, h1', h2⟩, h3, h3', h4⟩ := h
  unfold nR at hR ⊢
  rw [h1 16 (by decide) (by decide) (by decide) (by decide) (by decide) (by decide) (by decide) (by decide) (by decide) (by decide) (by decide) (by decide) (by decide) (by decide) (by decide), h1 17 (by decide) (by decide) (by decide) (by decide) (by decide) (by decide) (by decide) (by decide) (by decide) (by decide) (by decide) (by decide) (by decide) (by decide) (by decide), h1 18 (by decide) (by decide) (by decide) (by decide) (by decide) (by decide) (by decide) (by decide) (by decide) (by decide) (by decide) (by decide) (by decide) (by decide) (by decide), h1' 13 (by decide) (by decide), h3' 37 (by decide), h3' 38 (by decide), h3 96 (by decide) (by decide) (by decide), h3 97 (by decide) (by decide) (by decide), h3 98 (by decide) (by decide) (by decide), h3 99 (by decide) (by decide) (by decide), h3 100 (by decide) (by decide) (by decide)]
  exact hR
theorem mF_nT {c r c2 r2 : zz_S} {T : Nat} (h : mF c r c2 r2) (hT : nT c r T) : nT c2 r2 T := by
  obtain ⟨⟨h1, h1', h2⟩, h3, h3', h4⟩ := h
  unfold nT at hT ⊢
  rw [h1 10 (by decide) (by decide) (by decide) (by decide) (by decide) (by decide) (by decide) (by decide) (by decide) (by decide) (by decide) (by decide) (by decide) (by decide) (by decide), h1 11 (by decide) (by decide) (by decide) (by decide) (by decide) (by decide) (by decide) (by decide) (by decide) (by decide) (by decide) (by decide) (by decide) (by decide) (by decide), h1 12 (by decide) (by decide) (by decide) (by decide) (by decide) (by decide) (by decide) (by decide) (by decide) (by decide) (by decide) (by decide) (by decide) (by decide) (by decide), h1 13 (by decide) (by decide) (by decide) (by decide) (by decide) (by decide) (by decide) (by decide) (by decide) (by decide) (by decide) (by decide) (by decide) (by decide) (by decide), h1 14 (by decide) (by decide) (by decide) (by decide) (by decide) (by decide) (by decide) (by decide) (by decide) (by decide) (by decide) (by decide) (by decide) (by decide) (by decide), h1' 14 (by decide) (by decide), h3' 12 (by decide), h3' 51 (by decide), h3 88 (by decide) (by decide) (by decide), h3 89 (by decide) (by decide) (by decide), h3 90 (by decide) (by decide) (by decide)]
  exact hT
theorem mF_tk {c r c2 r2 : zz_S} (h : mF c r c2 r2) : tk c2 = tk c ∧ tm c2 = tm c := by
  have e14 : c2.1 14 = c.1 14 := h.1.1 14 (by decide) (by decide) (by decide) (by decide) (by decide) (by decide) (by decide) (by decide) (by decide) (by decide) (by decide) (by decide) (by decide) (by decide) (by decide)
  have e11 : c2.1 11 = c.1 11 := h.1.1 11 (by decide) (by decide) (by decide) (by decide) (by decide) (by decide) (by decide) (by decide) (by decide) (by decide) (by decide) (by decide) (by decide) (by decide) (by decide)
  have t : tk c2 = tk c := funext fun a => by unfold tk; rw [e14]
  exact ⟨t, funext fun a => by unfold tm; rw [t, e11]⟩
theorem nD_mono {c r : zz_S} {S C W B B2 : Nat} (h : nD c r S C W B) (hB : B ≤ B2) : nD c r S C W B2 := by
  obtain ⟨h1, h2, h3⟩ := h
  exact ⟨h1, fun k hk => ⟨(h2 k hk).1, by have := (h2 k hk).2.1; omega, (h2 k hk).2.2⟩, h3⟩
/-- nD rests on some cells alone -/
theorem nD_fr {c r c2 r2 : zz_S} {S C W B : Nat} (h : nD c r S C W B) (hc : ∀ o, o = 3 ∨ o = 7 ∨ (25 ≤ o ∧ o ≤ 27) ∨ (28 ≤ o ∧ o ≤ 29) ∨ (33 ≤ o ∧ o ≤ 34) ∨ o = 36 → c2.1 o = c.1 o) (hc2 : c2.2 = c.2) (hr : ∀ o, (103 ≤ o ∧ o ≤ 105) ∨ (111 ≤ o ∧ o ≤ 113) → r2.1 o = r.1 o) : nD c2 r2 S C W B := by
  unfold nD nP nQ at h ⊢
  rw [hc 3 (by omega), hc 7 (by omega), hc 25 (by omega), hc 26 (by omega), hc 27 (by omega), hc 28 (by omega), hc 29 (by omega), hc 33 (by omega), hc 34 (by omega), hc 36 (by omega), hc2, hr 103 (by omega), hr 104 (by omega), hr 105 (by omega), hr 111 (by omega), hr 112 (by omega), hr 113 (by omega)]
  exact h
