/-! elements, element, word, find, done, solve: there is one answer (pure) -/
theorem LR.un {N L : Nat} {lm : Nat → Nat} {A : Nat → Int32 → Prop} {z z' : Int32} (h : LR N L lm A z) (h' : LR N L lm A z') (k : (EQ N L lm).length ≤ 1500 → A (EQ N L lm).length z → A (EQ N L lm).length z' → z = z') : z = z' := by
  rcases h with ⟨h, rfl⟩ | ⟨h, a⟩ <;> rcases h' with ⟨h', rfl⟩ | ⟨h', a'⟩
  · rfl
  · omega
  · omega
  · exact k h a a'
theorem in_nI {j m : Nat} (hj : j ≤ m) (hm : m < 2 ^ 31) : 0 ≤ nI j ∧ nI j ≤ nI m := ⟨nI_pos' (by omega), nI_le hj hm⟩
theorem un_elements {w z z' : Int32} {a : Sx} (h : aeEl w a z) (h' : aeEl w a z') : z = z' := by
  obtain ⟨N, L, lm, s, e⟩ := a
  rcases h with ⟨j, hj, rfl, h⟩ | ⟨h, rfl⟩ <;> rcases h' with ⟨j', hj', e', h'⟩ | ⟨h', rfl⟩
  · obtain rfl : j = j' := (nI_eq (by omega) (by omega)).mp e'
    exact h.un h' (fun _ a b => a.trans b.symm)
  · exact absurd (in_nI hj (by decide)) h'
  · rw [e'] at h
    exact absurd (in_nI hj' (by decide)) h
  · rfl
theorem Ar.un {M : Nat} {e z z' : Int32} {f : Nat → Int32} (hM : M ≤ 1500) (h : Ar M e f z) (h' : Ar M e f z') : z = z' := by
  rcases h with ⟨x, hx, rfl, rfl⟩ | ⟨h, rfl⟩ <;> rcases h' with ⟨x', hx', e', rfl⟩ | ⟨h', rfl⟩
  · obtain rfl : x = x' := (nI_eq (by omega) (by omega)).mp e'
    rfl
  · exact absurd ⟨x, hx, rfl⟩ h'
  · exact absurd ⟨x', hx', e'⟩ h
  · rfl
theorem un_element {x w z z' : Int32} {a : Sx} (h : aeEm x w a z) (h' : aeEm x w a z') : z = z' := by
  obtain ⟨N, L, lm, s, e⟩ := a
  rcases h with ⟨j, hj, rfl, h⟩ | ⟨h, rfl⟩ <;> rcases h' with ⟨j', hj', e', h'⟩ | ⟨h', rfl⟩
  · obtain rfl : j = j' := (nI_eq (by omega) (by omega)).mp e'
    exact h.un h' (fun h15 a b => a.un h15 b)
  · exact absurd (in_nI hj (by decide)) h'
  · rw [e'] at h
    exact absurd (in_nI hj' (by decide)) h
  · rfl
theorem un_word {x i z z' : Int32} {a : Sx} (h : aeWo x i a z) (h' : aeWo x i a z') : z = z' := by
  obtain ⟨N, L, lm, s, e⟩ := a
  have h : LR N L lm (fun M z => Wr N L lm M x i z) z := h
  refine LR.un h h' (fun h15 a b => ?_)
  have hd := fun x hx => dep_le (EQ_BI (N := N) (L := L) (lm := lm)) x hx
  rcases a with ⟨x, y, hx, rfl, rfl, hy, rfl⟩ | ⟨g, rfl⟩ <;> rcases b with ⟨x', y', hx', e1, e2, hy', rfl⟩ | ⟨g', rfl⟩
  · have d1 := hd x hx
    have d2 := hd x' hx'
    obtain rfl : x = x' := (nI_eq (by omega) (by omega)).mp e1
    obtain rfl : y = y' := (nI_eq (by omega) (by omega)).mp e2
    rfl
  · exact absurd ⟨x, y, hx, rfl, rfl, hy⟩ g'
  · exact absurd ⟨x', y', hx', e1, e2, hy'⟩ g
  · rfl
theorem un_find {m z z' : Int32} {σ : Hp} {a : Sx} (hX : XS σ a) (h : aeFi m a z) (h' : aeFi m a z') : z = z' := by
  obtain ⟨N, L, lm, s, e⟩ := a
  have h31 := pow_lt hX.1.2.2.1
  rcases h with ⟨j, hj, rfl, h⟩ | ⟨h, rfl⟩ <;> rcases h' with ⟨j', hj', e', h'⟩ | ⟨h', rfl⟩
  · obtain rfl : j = j' := (nI_eq (by omega) (by omega)).mp e'
    refine h.un h' (fun _ a b => ?_)
    rcases a with ⟨a1, rfl⟩ | ⟨a1, rfl⟩ <;> rcases b with ⟨b1, rfl⟩ | ⟨b1, rfl⟩
    · rfl
    · rw [a1] at b1
      cases b1
    · rw [a1] at b1
      cases b1
    · rfl
  · exact absurd (in_nI (by omega) (by omega)) h'
  · rw [e'] at h
    exact absurd (in_nI (by omega) (by omega)) h
  · rfl
theorem Ar2.un {M : Nat} {x y z z' : Int32} {f : Nat → Nat → Int32} (hM : M ≤ 1500) (h : Ar2 M x y f z) (h' : Ar2 M x y f z') : z = z' := by
  rcases h with ⟨i, j, hi, hj, rfl, rfl, rfl⟩ | ⟨h, rfl⟩ <;> rcases h' with ⟨i', j', hi', hj', e1, e2, rfl⟩ | ⟨h', rfl⟩
  · obtain rfl : i = i' := (nI_eq (by omega) (by omega)).mp e1
    obtain rfl : j = j' := (nI_eq (by omega) (by omega)).mp e2
    rfl
  · exact absurd ⟨i, j, hi, hj, rfl, rfl⟩ h'
  · exact absurd ⟨i', j', hi', hj', e1, e2⟩ h
  · rfl
theorem un_done {x y z z' : Int32} {a : Sx} (h : aeDo x y a z) (h' : aeDo x y a z') : z = z' := by
  obtain ⟨N, L, lm, s, e⟩ := a
  have h : LR N L lm (fun M z => Ar2 M x y (fun x y => nI (psN (EQ N L lm) (bN N (itm (EQ N L lm) x) (itm (EQ N L lm) y)))) z) z := h
  exact LR.un h h' (fun h15 a b => a.un h15 b)
theorem un_solve {x y b w z z' : Int32} {a : Sx} (h : aeSo x y b w a z) (h' : aeSo x y b w a z') : z = z' := by
  obtain ⟨N, L, lm, s, e⟩ := a
  have i1 : ∀ j, j ≤ 1 → 0 ≤ nI j ∧ nI j ≤ 1 := fun j hj => in_nI (m := 1) hj (by decide)
  rcases h with ⟨v, k, hv, hk, rfl, rfl, h⟩ | ⟨h, rfl⟩ <;> rcases h' with ⟨v', k', hv', hk', e1, e2, h'⟩ | ⟨h', rfl⟩
  · obtain rfl : v = v' := (nI_eq (by omega) (by omega)).mp e1
    obtain rfl : k = k' := (nI_eq (by omega) (by omega)).mp e2
    exact h.un h' (fun h15 a b => a.un h15 b)
  · exact absurd ⟨i1 v hv, i1 k hk⟩ h'
  · rw [e1, e2] at h
    exact absurd ⟨i1 v' hv', i1 k' hk'⟩ h
  · rfl
