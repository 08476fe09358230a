/-! small rows that both sides use -/
theorem wi_nI {w : Int32} {m : Nat} (hm : m < 2 ^ 31) (h : 0 ≤ w ∧ w ≤ nI m) : ∃ j, j ≤ m ∧ w = nI j := by
  obtain ⟨j, hj, rfl⟩ := nI_of (k2_nlt h.1)
  exact ⟨j, (nI_leI hj hm).mp h.2, rfl⟩
theorem bz_n0 {p : Prop} {i : Decidable p} (h : ¬ @bz p i = 0) : p := Decidable.of_not_not (fun q => h (bz_0.mpr q))
theorem pow_lt {N : Nat} (h : N ≤ 6) : N ^ N < 2 ^ 31 := by
  rcases (show N = 0 ∨ N = 1 ∨ N = 2 ∨ N = 3 ∨ N = 4 ∨ N = 5 ∨ N = 6 by omega) with rfl | rfl | rfl | rfl | rfl | rfl | rfl <;> decide
theorem pow_pos' {N : Nat} (h1 : 1 ≤ N) : 0 < N ^ N := Nat.pow_pos h1
theorem upd_ne {f : Nat → Int32} {k j : Nat} {x : Int32} (h : j ≠ k) : upd f k x j = f j := if_neg h
