theorem i_mod60 {a : Int32} (h : 0 ≤ a.toInt) : (a % 60).toInt = a.toInt % 60 := by
  rw [Int32.toInt_mod, Int.tmod_eq_emod_of_nonneg h]
  rfl
theorem cmp_eq (x y : Int64) : lg_cmp x y = 0 ↔ x = y := by
  unfold lg_cmp
  by_cases h : x > y
  · rw [if_pos h]
    refine ⟨fun q => absurd q (by decide), fun q => ?_⟩
    subst q
    exact absurd h Int64.lt_irrefl
  · rw [if_neg h]
    by_cases e : x = y
    · rw [if_pos e]; exact ⟨fun _ => e, fun _ => rfl⟩
    · rw [if_neg e]; exact ⟨fun q => absurd q (by decide), fun q => absurd q e⟩
/-- one stretch of the film: the reference's minutes -/
theorem asFilm_step {last j : Nat} {last' v1 v3 : Int32} (hl : last'.toInt = last) (hv : v3.toInt = j) (hj : j ≤ 8) (hlast : last = min (60 * j) 479) (m : Nat) (hm : j = 0 ∧ m = 0 ∨ 1 ≤ j ∧ m + 59 = 60 * j) :
    ∀ (f k : Nat) (k' : Int32) (r : zz_S), k'.toInt = k → m ≤ k → k ≤ last →
      (if k'.toInt ≤ last then f_M_isAsFilm_L6 (f + 1) v1 k' r else f_M_isAsFilm_J45 (f_M_isAsFilm_L6 (f + 1)) v1 last' v3 r) = (f_M_minute k' r).bind fun q => if (k' + 1).toInt ≤ last then f_M_isAsFilm_L6 f v1 (k' + 1) q else f_M_isAsFilm_J45 (f_M_isAsFilm_L6 f) v1 last' v3 q := by
  have l480 : (480 : Int32).toInt = 480 := rfl
  have l479 : (479 : Int32).toInt = 479 := rfl
  have l0 : (0 : Int32).toInt = 0 := rfl
  intro f k k' r hk h1 h2
  have hk1 := i_inc (a := k') (by omega)
  have hmod := i_mod60 (a := k') (by omega)
  have hdiv := i_div60 (a := k') (by omega)
  rw [if_pos (by omega), f_M_isAsFilm_L6, if_neg (by rw [i_le, l480]; omega)]
  refine congrArg (Option.bind _) (funext fun q => ?_)
  by_cases e : k = last
  · have ek : k' = last' := i_lit (by omega)
    rw [if_neg (show ¬ (k' + 1).toInt ≤ (last : Int) by omega)]
    by_cases e8 : j = 8
    · have h3 : v3 = 8 := i_lit (by rw [hv, e8]; rfl)
      rw [if_pos (i_lit (by rw [l479]; omega)), ek, h3]
    · have n479 : ¬ k' = 479 := fun q => by have := congrArg Int32.toInt q; rw [l479] at this; omega
      rw [if_neg n479, if_pos (i_lit (by rw [l0, hmod]; omega)), show k' / 60 = v3 from i_lit (by omega), ek]
  · have n479 : ¬ k' = 479 := fun q => by have := congrArg Int32.toInt q; rw [l479] at this; omega
    have n60 : ¬ k' % 60 = 0 := fun q => by have := congrArg Int32.toInt q; rw [l0, hmod] at this; omega
    rw [if_neg n479, if_neg n60, if_pos (show (k' + 1).toInt ≤ (last : Int) by omega)]
    unfold f_M_isAsFilm_J45
    rw [if_pos (by decide)]
theorem film_loop {S C W T pb base : Nat} {v1 : Int32} (hC : 0 < C) (hpb : pb + 1 ≠ 37 ∧ pb + 1 ≠ 38) (hv1 : (60 * v1).toInt = base) (hbase : base ≤ 300) :
    ∀ (q j m n n2 : Nat) (v3 m' : Int32) (c r : zz_S), j + q = 9 → v3.toInt = j → (j = 0 ∧ m = 0 ∨ 1 ≤ j ∧ j ≤ 8 ∧ m + 59 = 60 * j ∨ j = 9 ∧ m = 480) → m'.toInt = m → q < n → 481 - m < n2 → eM c r S C W T m → nX c T m → (c.1 20 16).toInt < 0 → (∀ k, k < 9 → c.2 (pb + 1) k = r.2 121 (base + k)) →
      ∃ v c2 r2, f_B_isFilmOf_L17 n pb v3 c = some (v, c2) ∧ f_M_isAsFilm_L6 n2 v1 m' r = some (v, r2) ∧ nF c r c2 r2 := by
  have l9 : (9 : Int32).toInt = 9 := rfl
  have l480 : (480 : Int32).toInt = 480 := rfl
  have l479 : (479 : Int32).toInt = 479 := rfl
  have l60 : (60 : Int32).toInt = 60 := rfl
  have l0 : (0 : Int32).toInt = 0 := rfl
  intro q
  induction q with
  | zero =>
    intro j m n n2 v3 m' c r hj hv hm hm' hn hn2 hM hX hO hsh
    obtain ⟨n, rfl⟩ : ∃ x, n = x + 1 := ⟨n - 1, by omega⟩
    obtain ⟨n2, rfl⟩ : ∃ x, n2 = x + 1 := ⟨n2 - 1, by omega⟩
    rw [f_B_isFilmOf_L17, if_pos (by rw [i_le, l9]; omega), f_M_isAsFilm_L6, if_pos (by rw [i_le, l480]; omega)]
    exact ⟨_, c, r, rfl, rfl, nF_me c r⟩
  | succ q ih =>
    intro j m n n2 v3 m' c r hj hv hm hm' hn hn2 hM hX hO hsh
    obtain ⟨n, rfl⟩ : ∃ x, n = x + 1 := ⟨n - 1, by omega⟩
    have hv3 := i_inc (a := v3) (by omega)
    have hmul := i_mul (a := 60) (b := v3) (by rw [l60]; omega) (by rw [l60]; omega)
    rw [l60] at hmul
    have hmin := zmin_toInt (60 * v3) 479
    rw [l479] at hmin
    generalize hla : zz_min (60 * v3) 479 = last' at *
    obtain ⟨last, hlast⟩ : ∃ last : Nat, last = min (60 * j) 479 := ⟨_, rfl⟩
    have hl : last'.toInt = last := by omega
    have hl1 := i_inc (a := last') (by omega)
    have hj8 : j ≤ 8 := by omega
    have hst := asFilm_step (v1 := v1) (last' := last') (v3 := v3) hl hv hj8 hlast m (by omega)
    obtain ⟨c2, r2, k2, f, g1, g2, g3, g4, g5, g6, g7⟩ := play_film hl (by omega) (fun f k r => if k.toInt ≤ last then f_M_isAsFilm_L6 f v1 k r else f_M_isAsFilm_J45 (f_M_isAsFilm_L6 f) v1 last' v3 r) m hst 480 m zF n2 m' 0 c r (by omega) (Nat.le_refl _) (by omega) hM hX hO hm' (by decide) (by rw [l0]; omega) (by unfold zF; omega) (by omega)
    have e1 : f_M_isAsFilm_L6 n2 v1 m' r = f_M_isAsFilm_J45 (f_M_isAsFilm_L6 f) v1 last' v3 r2 := by
      have : (if m'.toInt ≤ (last : Int) then f_M_isAsFilm_L6 n2 v1 m' r else f_M_isAsFilm_J45 (f_M_isAsFilm_L6 n2) v1 last' v3 r) = (if k2.toInt ≤ (last : Int) then f_M_isAsFilm_L6 f v1 k2 r2 else f_M_isAsFilm_J45 (f_M_isAsFilm_L6 f) v1 last' v3 r2) := g2
      rw [if_pos (by omega), if_neg (by omega)] at this
      exact this
    have e2 : f_Night_play last' c = some c2 := g1
    have hadd := i_add (a := 60 * v1) (b := v3) (by omega) (by omega)
    have hz : zz_in (60 * v1 + v3) 360 = true := i_in.mpr (by rw [hadd]; omega)
    have hz3 : zz_in v3 60 = true := i_in.mpr (by omega)
    have hq : r2.1 104 0 = c2.1 36 0 := (g6.2.2.2.2.1.2.1 0 hC).1
    have hel : c2.2 (pb + 1) j = r2.2 121 (base + j) := by
      rw [g5.1.2.2 (pb + 1) hpb.1 hpb.2, g5.2.2.2]
      exact hsh j (by omega)
    rw [f_B_isFilmOf_L17, if_neg (by rw [i_le, l9]; omega), hla, e2, Option.bind_some, if_pos hz3, nz_eq hv, hel, e1]
    unfold f_M_isAsFilm_J45
    have nv : ¬ v3 < 0 := by rw [i_lt, l0]; omega
    rw [if_neg nv, if_pos hz, nz_eq (show (60 * v1 + v3).toInt = ((base + j : Nat) : Int) by rw [hadd, hv1, hv]; omega), hq]
    by_cases e : (c2.1 36 0).toInt64 = r2.2 121 (base + j)
    · rw [if_pos ((cmp_eq _ _).mpr e), if_pos ((cmp_eq _ _).mpr e.symm)]
      obtain ⟨v, c3, r3, i1, i2, i3⟩ := ih (j + 1) (last + 1) n f (v3 + 1) (last' + 1) c2 r2 (by omega) (by omega) (by omega) (by omega) (by omega) (by omega) g6 g7 (by rw [g5.1.2.1 16 (by decide) (by decide) (by decide)]; exact hO) (fun k hk => by
        rw [g5.1.2.2 (pb + 1) hpb.1 hpb.2, g5.2.2.2]
        exact hsh k hk)
      exact ⟨v, c3, r3, i1, i2, nF_tr g5 i3⟩
    · rw [if_neg (fun q => e ((cmp_eq _ _).mp q)), if_neg (fun q => e ((cmp_eq _ _).mp q).symm)]
      exact ⟨_, c2, r2, rfl, rfl, g5⟩
