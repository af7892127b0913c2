/-! all orders, by the kernel -/
theorem wlk_1 : wlk 1 1 0 0 0 = some (1, 1) := by decide +kernel
theorem wlk_2 : wlk 2 4 0 1 0 = some (4, 2) := by decide +kernel
theorem wlk_3 : wlk 3 27 0 5 0 = some (27, 6) := by decide +kernel
theorem wlk_4 : wlk 4 256 0 27 0 = some (256, 24) := by decide +kernel
theorem wlk_5 : wlk 5 3125 0 194 0 = some (3125, 120) := by decide +kernel
theorem wlk_6a : wlk 6 7776 0 1865 0 = some (8345, 120) := by decide +kernel
theorem wlk_6b : wlk 6 7776 7776 8345 120 = some (15905, 240) := by decide +kernel
theorem wlk_6c : wlk 6 7776 15552 15905 240 = some (23645, 360) := by decide +kernel
theorem wlk_6d : wlk 6 7776 23328 23645 360 = some (31415, 480) := by decide +kernel
theorem wlk_6e : wlk 6 7776 31104 31415 480 = some (39190, 600) := by decide +kernel
theorem wlk_6f : wlk 6 7776 38880 39190 600 = some (46656, 720) := by decide +kernel
theorem wlk_6 : wlk 6 46656 0 1865 0 = some (46656, 720) := by
  have e1 : wlk 6 46656 0 1865 0 = wlk 6 38880 7776 8345 120 := wlk_add 7776 38880 0 1865 0 (8345, 120) wlk_6a
  have e2 : wlk 6 38880 7776 8345 120 = wlk 6 31104 15552 15905 240 := wlk_add 7776 31104 7776 8345 120 (15905, 240) wlk_6b
  have e3 : wlk 6 31104 15552 15905 240 = wlk 6 23328 23328 23645 360 := wlk_add 7776 23328 15552 15905 240 (23645, 360) wlk_6c
  have e4 : wlk 6 23328 23328 23645 360 = wlk 6 15552 31104 31415 480 := wlk_add 7776 15552 23328 23645 360 (31415, 480) wlk_6d
  have e5 : wlk 6 15552 31104 31415 480 = wlk 6 7776 38880 39190 600 := wlk_add 7776 7776 31104 31415 480 (39190, 600) wlk_6e
  rw [e1, e2, e3, e4, e5]
  exact wlk_6f
/-- the first order's number -/
theorem wlk_all {S : Nat} (hS0 : 0 < S) (hS : S ≤ 6) : ∃ P k, wlk S (S ^ S) 0 P 0 = some (S ^ S, k) ∧ P < S ^ S ∧ ∀ i, i < S → dg S P i = i := by
  have hc : S = 1 ∨ S = 2 ∨ S = 3 ∨ S = 4 ∨ S = 5 ∨ S = 6 := by omega
  rcases hc with rfl | rfl | rfl | rfl | rfl | rfl
  · exact ⟨0, 1, wlk_1, by decide, by decide⟩
  · exact ⟨1, 2, wlk_2, by decide, by decide⟩
  · exact ⟨5, 6, wlk_3, by decide, by decide⟩
  · exact ⟨27, 24, wlk_4, by decide, by decide⟩
  · exact ⟨194, 120, wlk_5, by decide, by decide⟩
  · exact ⟨1865, 720, wlk_6, by decide, by decide⟩
