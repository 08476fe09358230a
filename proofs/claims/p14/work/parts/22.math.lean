/-! maps as numbers: digits, one behind another, powers (pure). The first two rows began as kit/laws/COUNTS.to-paste.lean.txt -/
theorem fb_holes : ∀ (m n : Nat) (f : Nat → Nat), (∀ i, i < n → f i < m) → (∀ i j, i < j → j < n → f i ≠ f j) → n ≤ m := by
  intro m
  induction m with
  | zero =>
    intro n f h1 _
    rcases Nat.eq_zero_or_pos n with h | h
    · omega
    · exact absurd (h1 0 h) (Nat.not_lt_zero _)
  | succ m ih =>
    intro n f h1 h2
    by_cases hx : ∃ i, i < n ∧ f i = m
    · obtain ⟨a, ha, hfa⟩ := hx
      have hg := ih (n - 1) (fun i => if i < a then f i else f (i + 1)) (by
        intro i hi
        by_cases q : i < a
        · simp only [if_pos q]
          have b1 := h1 i (by omega)
          have b2 := h2 i a q ha
          omega
        · simp only [if_neg q]
          have b1 := h1 (i + 1) (by omega)
          have b2 := h2 a (i + 1) (by omega) (by omega)
          omega) (by
        intro i j hij hj
        by_cases q : i < a
        · by_cases r : j < a
          · simp only [if_pos q, if_pos r]
            exact h2 i j hij (by omega)
          · simp only [if_pos q, if_neg r]
            exact h2 i (j + 1) (by omega) (by omega)
        · have r : ¬ j < a := by omega
          simp only [if_neg q, if_neg r]
          exact h2 (i + 1) (j + 1) (by omega) (by omega))
      omega
    · have hg := ih n f (fun i hi => by
        have b1 := h1 i hi
        have b2 : f i ≠ m := fun e => hx ⟨i, hi, e⟩
        omega) h2
      omega
theorem fb_twice {m n : Nat} {f : Nat → Nat} (h : ∀ i, i < n → f i < m) (hm : m < n) : ∃ i j, i < j ∧ j < n ∧ f i = f j := by
  refine Classical.byContradiction fun hx => ?_
  have := fb_holes m n f h (fun i j hij hj e => hx ⟨i, j, hij, hj, e⟩)
  omega
def gN (N m i : Nat) : Nat := m / N ^ i % N
theorem gN_lt {N m i : Nat} (h : 0 < N) : gN N m i < N := Nat.mod_lt _ h
/-- digits f (K - J) .. f (K - 1), the last ones first -/
def hz (N K : Nat) (f : Nat → Nat) (J : Nat) : Nat := it (fun j v => N * v + f (K - 1 - j)) J 0
theorem hz_lt {N K : Nat} {f : Nat → Nat} (h : ∀ i, i < K → f i < N) : ∀ J, J ≤ K → hz N K f J < N ^ J
  | 0, _ => by show 0 < N ^ 0; rw [Nat.pow_zero]; decide
  | J + 1, hJ => by
    have ih := hz_lt h J (by omega)
    have h2 := h (K - 1 - J) (by omega)
    show N * hz N K f J + f (K - 1 - J) < N ^ (J + 1)
    rw [Nat.pow_succ, Nat.mul_comm (N ^ J) N]
    have h3 : N * (hz N K f J + 1) ≤ N * N ^ J := Nat.mul_le_mul_left N ih
    rw [Nat.mul_add, Nat.mul_one] at h3
    omega
theorem hz_dig {N K : Nat} {f : Nat → Nat} (h : ∀ i, i < K → f i < N) : ∀ J, J ≤ K → ∀ i, i < J → hz N K f J / N ^ i % N = f (K - J + i)
  | 0, _, i, hi => absurd hi (Nat.not_lt_zero i)
  | J + 1, hJ, 0, _ => by
    have h2 := h (K - 1 - J) (by omega)
    show (N * hz N K f J + f (K - 1 - J)) / N ^ 0 % N = _
    rw [Nat.pow_zero, Nat.div_one, Nat.mul_add_mod, Nat.mod_eq_of_lt h2, show K - (J + 1) + 0 = K - 1 - J by omega]
  | J + 1, hJ, i + 1, hi => by
    have h2 := h (K - 1 - J) (by omega)
    have hN : 0 < N := Nat.lt_of_le_of_lt (Nat.zero_le _) h2
    have ih := hz_dig h J (by omega) i (by omega)
    show (N * hz N K f J + f (K - 1 - J)) / N ^ (i + 1) % N = _
    rw [Nat.pow_succ, Nat.mul_comm (N ^ i) N, ← Nat.div_div_eq_div_mul, Nat.mul_add_div hN, Nat.div_eq_of_lt h2, Nat.add_zero, ih, show K - J + i = K - (J + 1) + (i + 1) by omega]
def hzN (N : Nat) (f : Nat → Nat) : Nat := hz N N f N
theorem hzN_lt {N : Nat} {f : Nat → Nat} (h : ∀ i, i < N → f i < N) : hzN N f < N ^ N := hz_lt h N (Nat.le_refl _)
theorem hzN_dig {N : Nat} {f : Nat → Nat} (h : ∀ i, i < N → f i < N) {i : Nat} (hi : i < N) : gN N (hzN N f) i = f i := by
  have := hz_dig h N (Nat.le_refl _) i hi
  rw [Nat.sub_self, Nat.zero_add] at this
  exact this
theorem dig_ext {N : Nat} (hN : 0 < N) : ∀ (K a b : Nat), a < N ^ K → b < N ^ K → (∀ i, i < K → a / N ^ i % N = b / N ^ i % N) → a = b
  | 0, a, b, ha, hb, _ => by rw [Nat.pow_zero] at ha hb; omega
  | K + 1, a, b, ha, hb, h => by
    have h0 := h 0 (by omega)
    rw [Nat.pow_zero, Nat.div_one, Nat.div_one] at h0
    have hq := dig_ext hN K (a / N) (b / N) (Nat.div_lt_of_lt_mul (by rw [Nat.mul_comm, ← Nat.pow_succ]; exact ha)) (Nat.div_lt_of_lt_mul (by rw [Nat.mul_comm, ← Nat.pow_succ]; exact hb)) (fun i hi => by
      have := h (i + 1) (by omega)
      rw [Nat.pow_succ, Nat.mul_comm (N ^ i) N, ← Nat.div_div_eq_div_mul, ← Nat.div_div_eq_div_mul] at this
      exact this)
    rw [← Nat.div_add_mod a N, ← Nat.div_add_mod b N, hq, h0]
theorem gN_ext {N a b : Nat} (hN : 0 < N) (ha : a < N ^ N) (hb : b < N ^ N) (h : ∀ i, i < N → gN N a i = gN N b i) : a = b := dig_ext hN N a b ha hb h
def bN (N a b : Nat) : Nat := hzN N (fun i => gN N b (gN N a i))
theorem bN_lt {N a b : Nat} (hN : 0 < N) : bN N a b < N ^ N := hzN_lt (fun _ _ => gN_lt hN)
theorem bN_dig {N a b i : Nat} (hi : i < N) : gN N (bN N a b) i = gN N b (gN N a i) := hzN_dig (fun _ _ => gN_lt (by omega)) hi
theorem bN_assoc {N a b c : Nat} (hN : 0 < N) : bN N (bN N a b) c = bN N a (bN N b c) := by
  refine gN_ext hN (bN_lt hN) (bN_lt hN) (fun i hi => ?_)
  rw [bN_dig hi, bN_dig hi, bN_dig hi, bN_dig (gN_lt hN)]
def idN (N : Nat) : Nat := hzN N (fun i => i)
theorem idN_lt {N : Nat} : idN N < N ^ N := hzN_lt (fun _ h => h)
theorem idN_dig {N i : Nat} (hi : i < N) : gN N (idN N) i = i := hzN_dig (fun _ h => h) hi
theorem bN_id {N b : Nat} (hN : 0 < N) (hb : b < N ^ N) : bN N (idN N) b = b := by
  refine gN_ext hN (bN_lt hN) hb (fun i hi => ?_)
  rw [bN_dig hi, idN_dig hi]
theorem bN_id2 {N b : Nat} (hN : 0 < N) (hb : b < N ^ N) : bN N b (idN N) = b := by
  refine gN_ext hN (bN_lt hN) hb (fun i hi => ?_)
  rw [bN_dig hi, idN_dig (gN_lt hN)]
/-- the power k + 1 -/
def pwN (N m k : Nat) : Nat := it (fun _ v => bN N v m) k m
theorem pwN_lt {N m : Nat} (hN : 0 < N) (hm : m < N ^ N) : ∀ k, pwN N m k < N ^ N
  | 0 => hm
  | _ + 1 => bN_lt hN
theorem pwN_s {N m k : Nat} : pwN N m (k + 1) = bN N (pwN N m k) m := rfl
def itf (f : Nat → Nat) : Nat → Nat → Nat
  | 0, x => x
  | k + 1, x => f (itf f k x)
theorem itf_add (f : Nat → Nat) (x : Nat) : ∀ a b, itf f (a + b) x = itf f a (itf f b x)
  | 0, b => by rw [Nat.zero_add]; rfl
  | a + 1, b => by
    rw [show a + 1 + b = a + b + 1 by omega]
    show f (itf f (a + b) x) = f (itf f a (itf f b x))
    rw [itf_add f x a b]
theorem itf_lt {f : Nat → Nat} {n : Nat} (h : ∀ i, i < n → f i < n) {x : Nat} (hx : x < n) : ∀ k, itf f k x < n
  | 0 => hx
  | k + 1 => h _ (itf_lt h hx k)
theorem pwN_dig {N m : Nat} {i : Nat} (hi : i < N) : ∀ k, gN N (pwN N m k) i = itf (gN N m) (k + 1) i
  | 0 => rfl
  | k + 1 => by
    rw [pwN_s, bN_dig hi, pwN_dig hi k]
    rfl
theorem pwN_mul {N m : Nat} (hN : 0 < N) (hm : m < N ^ N) (a b : Nat) : bN N (pwN N m a) (pwN N m b) = pwN N m (a + b + 1) := by
  refine gN_ext hN (bN_lt hN) (pwN_lt hN hm _) (fun i hi => ?_)
  rw [bN_dig hi, pwN_dig hi, pwN_dig hi, pwN_dig (itf_lt (fun _ _ => gN_lt hN) hi _), ← itf_add, show a + b + 1 + 1 = b + 1 + (a + 1) by omega]
theorem itf_per {f : Nat → Nat} {x p i : Nat} (h : itf f (i + p) x = itf f i x) : ∀ k, itf f (k + i + p) x = itf f (k + i) x := by
  intro k
  rw [show k + i + p = k + (i + p) by omega, itf_add, h, ← itf_add]
theorem itf_mul {f : Nat → Nat} {x p i : Nat} (h : itf f (i + p) x = itf f i x) (a : Nat) (ha : i ≤ a) : ∀ t, itf f (a + t * p) x = itf f a x
  | 0 => by rw [Nat.zero_mul, Nat.add_zero]
  | t + 1 => by
    have ih := itf_mul h a ha t
    have := itf_per h (a + t * p - i)
    rw [show a + t * p - i + i = a + t * p by have := Nat.zero_le (t * p); omega] at this
    rw [Nat.succ_mul, ← Nat.add_assoc, this, ih]
theorem itf_60 {f : Nat → Nat} {n x : Nat} (h6 : n ≤ 6) (h : ∀ i, i < n → f i < n) (hx : x < n) (a : Nat) (ha : 6 ≤ a) : itf f (a + 60) x = itf f a x := by
  obtain ⟨i, j, hij, hj, e⟩ := fb_twice (m := n) (n := 7) (f := fun k => itf f k x) (fun k _ => itf_lt h hx k) (by omega)
  have e2 : itf f (i + (j - i)) x = itf f i x := by rw [show i + (j - i) = j by omega]; exact e.symm
  have e3 := itf_mul e2 a (by omega)
  rcases (show j - i = 1 ∨ j - i = 2 ∨ j - i = 3 ∨ j - i = 4 ∨ j - i = 5 ∨ j - i = 6 by omega) with q | q | q | q | q | q
  · have := e3 60; rw [q] at this; exact this
  · have := e3 30; rw [q] at this; exact this
  · have := e3 20; rw [q] at this; exact this
  · have := e3 15; rw [q] at this; exact this
  · have := e3 12; rw [q] at this; exact this
  · have := e3 10; rw [q] at this; exact this
theorem pwN_60 {N m : Nat} (hN : 0 < N) (h6 : N ≤ 6) (hm : m < N ^ N) {k : Nat} (hk : 5 ≤ k) : pwN N m (k + 60) = pwN N m k := by
  refine gN_ext hN (pwN_lt hN hm _) (pwN_lt hN hm _) (fun i hi => ?_)
  rw [pwN_dig hi, pwN_dig hi, show k + 60 + 1 = k + 1 + 60 by omega]
  exact itf_60 h6 (fun _ _ => gN_lt hN) hi _ (by omega)
theorem pwN_still {N m : Nat} (hN : 0 < N) (h6 : N ≤ 6) (hm : m < N ^ N) : bN N (pwN N m 59) (pwN N m 59) = pwN N m 59 := by
  rw [pwN_mul hN hm]
  exact pwN_60 hN h6 hm (k := 59) (by omega)
theorem pow6 {N : Nat} (h : N ≤ 6) : N ^ N ≤ 46656 := by
  rcases (show N = 0 ∨ N = 1 ∨ N = 2 ∨ N = 3 ∨ N = 4 ∨ N = 5 ∨ N = 6 by omega) with rfl | rfl | rfl | rfl | rfl | rfl | rfl <;> decide
theorem pow_le6 {N i : Nat} (h1 : 1 ≤ N) (h : N ≤ 6) (hi : i ≤ 6) : N ^ i ≤ 46656 := Nat.le_trans (Nat.pow_le_pow_left h i) (Nat.le_trans (Nat.pow_le_pow_right (by decide) hi) (by decide))
