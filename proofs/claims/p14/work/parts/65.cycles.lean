/-! the powers of a map on six points (pure) -/
theorem cyc_pts {f : Nat → Nat} {n : Nat} (h6 : n ≤ 6) (h : ∀ i, i < n → f i < n) : ∃ R, 1 ≤ R ∧ R ≤ 6 ∧ ∀ x, x < n → ∀ a, 6 ≤ a → itf f (a + R) x = itf f a x := by
  have ex : ∀ x, x < n → ∃ p, 1 ≤ p ∧ p ≤ 6 ∧ itf f (6 + p) x = itf f 6 x ∧ ∀ q, 1 ≤ q → q < p → itf f (6 + q) x ≠ itf f 6 x := fun x hx => by
    obtain ⟨i, j, hij, hj, e⟩ := fb_twice (m := n) (n := 7) (f := fun k => itf f k x) (fun k _ => itf_lt h hx k) (by omega)
    have e2 : itf f (i + (j - i)) x = itf f i x := by rw [show i + (j - i) = j by omega]; exact e.symm
    have e3 := itf_mul e2 6 (by omega) 1
    rw [Nat.one_mul] at e3
    obtain ⟨p, p1, p2⟩ := pk_least (fun p => 1 ≤ p ∧ itf f (6 + p) x = itf f 6 x) ⟨j - i, by omega, e3⟩
    refine ⟨p, p1.1, ?_, p1.2, fun q q1 q2 q3 => p2 q q2 ⟨q1, q3⟩⟩
    rcases Nat.lt_or_ge (j - i) p with q | q
    · exact absurd ⟨by omega, e3⟩ (p2 _ q)
    · omega
  -- two cycles of unlike lengths lie apart
  have apart : ∀ x y p q, x < n → y < n → 1 ≤ p → 1 ≤ q → itf f (6 + p) x = itf f 6 x → (∀ r, 1 ≤ r → r < p → itf f (6 + r) x ≠ itf f 6 x) → itf f (6 + q) y = itf f 6 y → (∀ r, 1 ≤ r → r < q → itf f (6 + r) y ≠ itf f 6 y) → p ≠ q → p + q ≤ n := by
    intro x y p q hx hy p1 q1 ep mp eq mq hpq
    have low : ∀ (x y p q s t : Nat), 1 ≤ q → itf f (6 + p) x = itf f 6 x → (∀ r, 1 ≤ r → r < p → itf f (6 + r) x ≠ itf f 6 x) → itf f (6 + q) y = itf f 6 y → s < p → itf f (6 + s) x = itf f (6 + t) y → p ≤ q := by
      intro x y p q s t q1 ep mp eq hs e
      rcases Nat.lt_or_ge q p with z | z
      · refine absurd ?_ (mp q q1 z)
        have u : itf f (6 + t + q) y = itf f (6 + t) y := by
          have := itf_per eq t
          rw [show t + 6 + q = 6 + t + q by omega, show t + 6 = 6 + t by omega] at this
          exact this
        have e1 : itf f (p - s) (itf f (6 + s) x) = itf f 6 x := by
          rw [← itf_add, show p - s + (6 + s) = 6 + p by omega, ep]
        have e2 : itf f q (itf f (6 + s) x) = itf f (6 + s) x := by
          rw [e, ← itf_add, show q + (6 + t) = 6 + t + q by omega, u]
        rw [show 6 + q = q + 6 by omega, itf_add, ← e1, ← itf_add, show q + (p - s) = p - s + q by omega, itf_add, e2]
      · exact z
    have inj : ∀ (x p : Nat), itf f (6 + p) x = itf f 6 x → (∀ r, 1 ≤ r → r < p → itf f (6 + r) x ≠ itf f 6 x) → ∀ s t, s < t → t < p → itf f (6 + s) x ≠ itf f (6 + t) x := by
      intro x p ep mp s t hst ht e
      have e1 : itf f (p - t) (itf f (6 + t) x) = itf f 6 x := by rw [← itf_add, show p - t + (6 + t) = 6 + p by omega, ep]
      rw [← e, ← itf_add, show p - t + (6 + s) = 6 + (p - t + s) by omega] at e1
      exact mp _ (by omega) (by omega) e1
    refine fb_holes n (p + q) (fun k => if k < p then itf f (6 + k) x else itf f (6 + (k - p)) y) (fun k _ => ?_) (fun i j hij hj e => ?_)
    · try dsimp only
      split
      · exact itf_lt h hx _
      · exact itf_lt h hy _
    · try dsimp only at e
      by_cases a : i < p
      · by_cases b : j < p
        · rw [if_pos a, if_pos b] at e
          exact inj x p ep mp i j hij b e
        · rw [if_pos a, if_neg b] at e
          have l1 := low x y p q i (j - p) q1 ep mp eq a e
          have l2 := low y x q p (j - p) i p1 eq mq ep (by omega) e.symm
          omega
      · rw [if_neg a, if_neg (show ¬ j < p by omega)] at e
        exact inj y q eq mq (i - p) (j - p) (by omega) (by omega) e
  have fin : ∀ R, 1 ≤ R → R ≤ 6 → (∀ x, x < n → ∀ p, 1 ≤ p → p ≤ 6 → itf f (6 + p) x = itf f 6 x → (∀ q, 1 ≤ q → q < p → itf f (6 + q) x ≠ itf f 6 x) → R % p = 0) → ∃ R, 1 ≤ R ∧ R ≤ 6 ∧ ∀ x, x < n → ∀ a, 6 ≤ a → itf f (a + R) x = itf f a x := by
    intro R r1 r6 hR
    refine ⟨R, r1, r6, fun x hx a ha => ?_⟩
    obtain ⟨p, p1, p6, ep, mp⟩ := ex x hx
    have hd := hR x hx p p1 p6 ep mp
    have := itf_mul ep a ha (R / p)
    rwa [show R / p * p = R by have := Nat.div_add_mod R p; rw [Nat.mul_comm]; omega] at this
  by_cases c5 : ∃ x, x < n ∧ itf f (6 + 5) x = itf f 6 x ∧ ∀ q, 1 ≤ q → q < 5 → itf f (6 + q) x ≠ itf f 6 x
  · obtain ⟨x, hx, ex5, mx⟩ := c5
    refine fin 5 (by decide) (by decide) (fun y hy p p1 p6 ep mp => ?_)
    by_cases z : p = 5
    · rw [z]
    · have := apart y x p 5 hy hx p1 (by decide) ep mp ex5 mx z
      rw [show p = 1 by omega]
  · by_cases c4 : ∃ x, x < n ∧ itf f (6 + 4) x = itf f 6 x ∧ ∀ q, 1 ≤ q → q < 4 → itf f (6 + q) x ≠ itf f 6 x
    · obtain ⟨x, hx, ex4, mx⟩ := c4
      refine fin 4 (by decide) (by decide) (fun y hy p p1 p6 ep mp => ?_)
      by_cases z : p = 4
      · rw [z]
      · have := apart y x p 4 hy hx p1 (by decide) ep mp ex4 mx z
        rcases (show p = 1 ∨ p = 2 by omega) with rfl | rfl <;> rfl
    · refine fin 6 (by decide) (by decide) (fun y hy p p1 p6 ep mp => ?_)
      have n5 : p ≠ 5 := fun z => c5 ⟨y, hy, by rw [z] at ep mp; exact ⟨ep, mp⟩⟩
      have n4 : p ≠ 4 := fun z => c4 ⟨y, hy, by rw [z] at ep mp; exact ⟨ep, mp⟩⟩
      rcases (show p = 1 ∨ p = 2 ∨ p = 3 ∨ p = 6 by omega) with rfl | rfl | rfl | rfl <;> rfl
theorem pw_cyc {N m : Nat} (h0 : 0 < N) (h6 : N ≤ 6) (hm : m < N ^ N) : ∃ R, 1 ≤ R ∧ R ≤ 6 ∧ ∀ k, 5 ≤ k → pwN N m (k + R) = pwN N m k := by
  obtain ⟨R, r1, r6, h⟩ := cyc_pts (f := gN N m) h6 (fun i _ => gN_lt h0)
  refine ⟨R, r1, r6, fun k hk => gN_ext h0 (pwN_lt h0 hm _) (pwN_lt h0 hm _) (fun i hi => ?_)⟩
  rw [pwN_dig hi, pwN_dig hi, show k + R + 1 = k + 1 + R by omega]
  exact h i hi (k + 1) (by omega)
theorem pw_add {N m a b : Nat} (h : pwN N m a = pwN N m b) : ∀ n, pwN N m (a + n) = pwN N m (b + n)
  | 0 => h
  | n + 1 => by
    show bN N (pwN N m (a + n)) m = bN N (pwN N m (b + n)) m
    rw [pw_add h n]
theorem pw_per {N m i p : Nat} (h : pwN N m (i + p) = pwN N m i) {a : Nat} (ha : i ≤ a) : ∀ t, pwN N m (a + t * p) = pwN N m a
  | 0 => by rw [Nat.zero_mul, Nat.add_zero]
  | t + 1 => by
    have e1 := pw_add h (a + t * p - i)
    rw [show i + p + (a + t * p - i) = a + (t + 1) * p by rw [Nat.succ_mul]; omega, show i + (a + t * p - i) = a + t * p by omega] at e1
    rw [e1, pw_per h ha t]
theorem pwF_mp {N m : Nat} (h0 : 0 < N) (h6 : N ≤ 6) : ∀ j, pwF (nI (mpN N m)) N j = nI (mpN N (pwN N m j))
  | 0 => rfl
  | j + 1 => by
    show ahF (pwF (nI (mpN N m)) N j) (nI (mpN N m)) N = _
    rw [pwF_mp h0 h6 j, ah_mp h0 h6]
    rfl
/-- the row of powers: where the next one stands in it, tail and ring -/
theorem pw_row {N m k : Nat} (h0 : 0 < N) (h6 : N ≤ 6) (hm : m < N ^ N) (h16 : k ≤ 16) {z : Int32} (hd : ∀ t, t < k → ∀ i, i < t → pwN N m i ≠ pwN N m t) (hp : PlOf (fun j => nI (mpN N (pwN N m j))) (nI (mpN N (pwN N m k))) k z) (hz : k = 16 ∨ z ≠ -9) :
    ∃ i, i < k ∧ k ≤ 11 ∧ z = nI i ∧ i = tlN N m ∧ k - i = rgN N m ∧ i ≤ slN N m ∧ slN N m < k := by
  obtain ⟨R, r1, r6, hR⟩ := pw_cyc h0 h6 hm
  have plt := fun j => pwN_lt h0 hm j
  have k11 : k ≤ 11 := by
    rcases Nat.lt_or_ge 11 k with q | q
    · exact absurd (hR 5 (by omega)).symm (hd (5 + R) (by omega) 5 (by omega))
    · exact q
  rcases hp with ⟨i, hi, ei, -, rfl⟩ | ⟨-, rfl⟩
  · have ei : pwN N m i = pwN N m k := (mp_eq h0 h6 (plt i) (plt k)).mp ei
    have per : pwN N m (i + (k - i)) = pwN N m i := by rw [show i + (k - i) = k by omega]; exact ei.symm
    have hrg : k - i = rgN N m := by
      refine RgOf.eq ⟨by omega, by omega, ?_, fun r r1 r2 e => ?_⟩
      · have := pw_add per (12 - i)
        rwa [show i + (k - i) + (12 - i) = 12 + (k - i) by omega, show i + (12 - i) = 12 by omega] at this
      · have e1 := pw_add e (i + 12 * (k - i) - 12)
        rw [show 12 + r + (i + 12 * (k - i) - 12) = i + r + 12 * (k - i) by omega, show 12 + (i + 12 * (k - i) - 12) = i + 12 * (k - i) by omega, pw_per per (by omega), pw_per per (Nat.le_refl _)] at e1
        exact hd (i + r) (by omega) i (by omega) e1.symm
    have htl : i = tlN N m := by
      refine TlOf.eq ⟨by omega, by rw [← hrg]; exact per, fun t ht e => ?_⟩
      rw [← hrg] at e
      exact hd (t + (k - i)) (by omega) t (by omega) e.symm
    have red : ∀ a, i ≤ a → ∃ b, i ≤ b ∧ b < k ∧ pwN N m a = pwN N m b := fun a ha => by
      refine ⟨i + (a - i) % (k - i), by omega, ?_, ?_⟩
      · have := Nat.mod_lt (a - i) (show 0 < k - i by omega)
        omega
      · have := pw_per per (a := i + (a - i) % (k - i)) (by omega) ((a - i) / (k - i))
        rwa [show i + (a - i) % (k - i) + (a - i) / (k - i) * (k - i) = a by
          have := Nat.div_add_mod (a - i) (k - i)
          rw [Nat.mul_comm]
          omega] at this
    have s2 := (slN_spec h0 h6 hm).2
    refine ⟨i, hi, k11, rfl, htl, hrg, ?_, ?_⟩
    · rcases Nat.lt_or_ge (slN N m) i with q | q
      · exfalso
        rw [pwN_mul h0 hm] at s2
        rcases Nat.lt_or_ge (slN N m + slN N m + 1) k with q2 | q2
        · exact hd _ q2 (slN N m) (by omega) s2.symm
        · obtain ⟨b, b1, b2, b3⟩ := red (slN N m + slN N m + 1) (by omega)
          exact hd b b2 (slN N m) (by omega) (s2.symm.trans b3)
      · exact q
    · have st := pwN_still h0 h6 hm
      rcases Nat.lt_or_ge 59 i with q | q
      · omega
      · obtain ⟨b, b1, b2, b3⟩ := red 59 q
        rw [b3] at st
        rcases Nat.lt_or_ge (slN N m) k with q2 | q2
        · exact q2
        · exfalso
          have : slN N m ≤ b := by
            rcases Nat.lt_or_ge b (slN N m) with q3 | q3
            · exfalso
              have h1 := sr_none (p := fun k => bN N (pwN N m k) (pwN N m k) = pwN N m k) (n := b) 
              obtain ⟨c, c1, c2⟩ := pk_least (fun k => bN N (pwN N m k) (pwN N m k) = pwN N m k) ⟨b, st⟩
              have hcb : c ≤ b := by
                rcases Nat.lt_or_ge b c with y | y
                · exact absurd st (c2 b y)
                · exact y
              have : slN N m = c := sr_first (fun j hj => c2 j hj) c1 (by rw [n60_eq]; omega)
              omega
            · exact q3
          omega
  · rcases hz with hz | hz
    · omega
    · exact absurd rfl hz
theorem bcI_nI {S : Nat} (h : S < 64) : bcI (nI S) = nI (pcN S) := by
  have : ∀ S, S < 64 → bcI (nI S) = nI (pcN S) := by decide +kernel
  exact this S h
