/-! the class's maps: octal digits in one int (pure) -/
theorem and_nI (a b : Nat) : nI a &&& nI b = nI (a &&& b) := by
  apply Int32.toBitVec_inj.mp
  show BitVec.ofNat 32 a &&& BitVec.ofNat 32 b = BitVec.ofNat 32 (a &&& b)
  rw [BitVec.ofNat_and]
def oN (K : Nat) (f : Nat → Nat) : Nat := it (fun i r => r + f i * 8 ^ i) K 0
def D8 (K : Nat) (f : Nat → Nat) : Prop := ∀ i, i < K → f i < 8
theorem oN_lt {f : Nat → Nat} : ∀ {K : Nat}, D8 K f → oN K f < 8 ^ K
  | 0, _ => by show 0 < 8 ^ 0; decide
  | K + 1, h => by
    have ih := oN_lt (K := K) (fun i hi => h i (by omega))
    have h1 := h K (by omega)
    show oN K f + f K * 8 ^ K < 8 ^ (K + 1)
    have h2 : f K * 8 ^ K ≤ 7 * 8 ^ K := Nat.mul_le_mul_right _ (by omega)
    rw [Nat.pow_succ]
    omega
theorem oN_dig {f : Nat → Nat} : ∀ {K : Nat}, D8 K f → ∀ i, oN K f / 8 ^ i % 8 = if i < K then f i else 0
  | 0, _, i => by
    show 0 / 8 ^ i % 8 = _
    rw [Nat.zero_div, if_neg (Nat.not_lt_zero i)]
  | K + 1, h, i => by
    have hK : D8 K f := fun i hi => h i (by omega)
    have ih := oN_dig hK i
    have hlt := oN_lt hK
    have h1 := h K (by omega)
    show (oN K f + f K * 8 ^ K) / 8 ^ i % 8 = _
    rcases Nat.lt_trichotomy i K with q | q | q
    · rw [if_pos (by omega)]
      rw [if_pos q] at ih
      rw [show f K * 8 ^ K = 8 ^ i * (8 * (f K * 8 ^ (K - i - 1))) by
        have e : 8 ^ K = 8 ^ i * (8 * 8 ^ (K - i - 1)) := by
          rw [← Nat.pow_succ', ← Nat.pow_add]
          congr 1
          omega
        rw [e, Nat.mul_left_comm (f K), Nat.mul_left_comm (f K)]]
      rw [Nat.add_mul_div_left _ _ (Nat.pow_pos (by decide)), Nat.add_mul_mod_self_left]
      exact ih
    · subst q
      rw [if_pos (by omega), Nat.add_mul_div_right _ _ (Nat.pow_pos (by decide)), Nat.div_eq_of_lt hlt, Nat.zero_add, Nat.mod_eq_of_lt h1]
    · rw [if_neg (by omega), Nat.div_eq_of_lt, Nat.zero_mod]
      have h2 : f K * 8 ^ K ≤ 7 * 8 ^ K := Nat.mul_le_mul_right _ (by omega)
      have h3 : 8 ^ (K + 1) ≤ 8 ^ i := Nat.pow_le_pow_right (by decide) (by omega)
      rw [Nat.pow_succ] at h3
      omega
theorem oN_ext {K : Nat} {f g : Nat → Nat} (h : ∀ i, i < K → f i = g i) : oN K f = oN K g := by
  have : ∀ k, k ≤ K → oN k f = oN k g := by
    intro k
    induction k with
    | zero => intro _; rfl
    | succ k ih =>
      intro hk
      show oN k f + f k * 8 ^ k = oN k g + g k * 8 ^ k
      rw [ih (by omega), h k (by omega)]
  exact this K (Nat.le_refl _)
theorem oN_inj {K : Nat} {f g : Nat → Nat} (hf : D8 K f) (hg : D8 K g) (h : oN K f = oN K g) : ∀ i, i < K → f i = g i := by
  intro i hi
  have h1 := oN_dig hf i
  have h2 := oN_dig hg i
  rw [if_pos hi] at h1 h2
  rw [← h1, ← h2, h]
theorem pow8_le {N : Nat} (h : N ≤ 6) : 8 ^ N ≤ 262144 := Nat.le_trans (Nat.pow_le_pow_right (by decide) h) (by decide)
/-- digit p becomes t -/
def stD (M p t : Nat) : Nat := M / 8 ^ (p + 1) * 8 ^ (p + 1) + t * 8 ^ p + M % 8 ^ p
theorem stD_dig {M p t i : Nat} (hp : p ≤ 5) (ht : t < 8) (hi : i ≤ 5) : stD M p t / 8 ^ i % 8 = if i = p then t else M / 8 ^ i % 8 := by
  unfold stD
  rcases (show p = 0 ∨ p = 1 ∨ p = 2 ∨ p = 3 ∨ p = 4 ∨ p = 5 by omega) with rfl | rfl | rfl | rfl | rfl | rfl <;>
  rcases (show i = 0 ∨ i = 1 ∨ i = 2 ∨ i = 3 ∨ i = 4 ∨ i = 5 by omega) with rfl | rfl | rfl | rfl | rfl | rfl <;> simp <;> omega
theorem stD_lt {M p t : Nat} (hM : M < 262144) (hp : p ≤ 5) (ht : t < 8) : stD M p t < 262144 := by
  unfold stD
  rcases (show p = 0 ∨ p = 1 ∨ p = 2 ∨ p = 3 ∨ p = 4 ∨ p = 5 by omega) with rfl | rfl | rfl | rfl | rfl | rfl <;> simp <;> omega
theorem gF_nI {M p : Nat} (hM : M < 2 ^ 31) (hp : p ≤ 9) : gF (nI M) (nI p) = nI (M / 8 ^ p % 8) := by
  have e : nI M >>> ((3 * nI p) &&& 31) = nI (M / 2 ^ (3 * p)) := by
    rcases (show p = 0 ∨ p = 1 ∨ p = 2 ∨ p = 3 ∨ p = 4 ∨ p = 5 ∨ p = 6 ∨ p = 7 ∨ p = 8 ∨ p = 9 by omega) with rfl | rfl | rfl | rfl | rfl | rfl | rfl | rfl | rfl | rfl <;> exact pk_shrN hM _ _ (by decide)
  rw [gF, e, Nat.pow_mul]
  exact pk_andN (Nat.lt_of_le_of_lt (Nat.div_le_self _ _) (by omega)) 3 (by decide)
theorem uF_nI {M p t : Nat} (hM : M < 262144) (hp : p ≤ 5) (ht : t < 8) : uF (nI M) (nI p) (nI t) = nI (stD M p t) := by
  have e1 : (7 : Int32) <<< ((3 * nI p) &&& 31) ^^^ (-1) = nI (4294967295 - 7 * 8 ^ p) := by
    rcases (show p = 0 ∨ p = 1 ∨ p = 2 ∨ p = 3 ∨ p = 4 ∨ p = 5 by omega) with rfl | rfl | rfl | rfl | rfl | rfl <;> decide
  have e2 : nI t <<< ((3 * nI p) &&& 31) = nI (t * 2 ^ (3 * p)) := by
    rcases (show p = 0 ∨ p = 1 ∨ p = 2 ∨ p = 3 ∨ p = 4 ∨ p = 5 by omega) with rfl | rfl | rfl | rfl | rfl | rfl <;> exact pk_shlN _ _ (by decide) (by omega)
  rw [uF, e1, e2, and_nI, or_nI]
  congr 1
  apply Nat.eq_of_testBit_eq
  intro j
  have hz : ∀ j, 18 ≤ j → M.testBit j = false := fun j hj => Nat.testBit_lt_two_pow (Nat.lt_of_lt_of_le hM (Nat.pow_le_pow_right (n := 2) (by decide) hj))
  have e3 : stD M p t = 2 ^ (3 * p) * (2 ^ 3 * (M / 2 ^ (3 * p + 3)) + t) + M % 2 ^ (3 * p) := by
    rw [stD, show 8 ^ (p + 1) = 2 ^ (3 * p + 3) by rw [show (8 : Nat) = 2 ^ 3 from rfl, ← Nat.pow_mul]; congr 1, show 8 ^ p = 2 ^ (3 * p) by rw [show (8 : Nat) = 2 ^ 3 from rfl, ← Nat.pow_mul], Nat.mul_add, ← Nat.mul_assoc, ← Nat.pow_add, Nat.mul_comm (2 ^ (3 * p + 3)), Nat.mul_comm t]
  rw [e3, Nat.testBit_or, Nat.testBit_and, Nat.testBit_two_pow_mul_add _ (Nat.mod_lt _ (Nat.two_pow_pos _)), Nat.testBit_two_pow_mul_add _ (show t < 2 ^ 3 by omega), Nat.testBit_mod_two_pow, Nat.testBit_div_two_pow, Nat.testBit_mul_two_pow]
  have hc : (4294967295 - 7 * 8 ^ p).testBit j = (decide (j < 32) && !(decide (3 * p ≤ j) && decide (j < 3 * p + 3))) := by
    rcases Nat.lt_or_ge j 32 with q | q
    · have : ∀ p, p < 6 → ∀ j, j < 32 → (4294967295 - 7 * 8 ^ p).testBit j = (decide (j < 32) && !(decide (3 * p ≤ j) && decide (j < 3 * p + 3))) := by decide +kernel
      exact this p (by omega) j q
    · rw [Nat.testBit_lt_two_pow (Nat.lt_of_lt_of_le (show 4294967295 - 7 * 8 ^ p < 2 ^ 32 by omega) (Nat.pow_le_pow_right (by decide) q)), decide_eq_false (by omega)]
      rfl
  rw [hc]
  rcases Nat.lt_or_ge j (3 * p) with q | q
  · simp only [q, if_true, decide_true, Bool.true_and]
    rw [decide_eq_false (show ¬ 3 * p ≤ j by omega), decide_eq_true (show j < 32 by omega)]
    simp
  · rw [if_neg (by omega), decide_eq_true q]
    rcases Nat.lt_or_ge j (3 * p + 3) with q2 | q2
    · rw [if_pos (by omega), decide_eq_true q2]
      simp
    · rw [if_neg (by omega), decide_eq_false (show ¬ j < 3 * p + 3 by omega), show j - 3 * p - 3 + (3 * p + 3) = j by omega, Nat.testBit_lt_two_pow (x := t) (i := j - 3 * p) (Nat.lt_of_lt_of_le (show t < 2 ^ 3 by omega) (Nat.pow_le_pow_right (by decide) (by omega)))]
      rcases Nat.lt_or_ge j 32 with q3 | q3
      · rw [decide_eq_true q3]
        simp
      · rw [hz j (by omega)]
        simp
/-- the map that takes i to f i -/
def Oc (N : Nat) (f : Nat → Nat) : Int32 := nI (oN N f)
theorem Oc_ext {N : Nat} {f g : Nat → Nat} (h : ∀ i, i < N → f i = g i) : Oc N f = Oc N g := congrArg nI (oN_ext h)
theorem oN_31 {N : Nat} {f : Nat → Nat} (h6 : N ≤ 6) (hf : D8 N f) : oN N f < 262144 := Nat.lt_of_lt_of_le (oN_lt hf) (pow8_le h6)
theorem Oc_inj {N : Nat} {f g : Nat → Nat} (h6 : N ≤ 6) (hf : D8 N f) (hg : D8 N g) : Oc N f = Oc N g ↔ ∀ i, i < N → f i = g i := by
  have h1 := oN_31 h6 hf
  have h2 := oN_31 h6 hg
  constructor
  · intro h
    exact oN_inj hf hg ((nI_eq (by omega) (by omega)).mp h)
  · exact Oc_ext
theorem gF_Oc {N p : Nat} {f : Nat → Nat} (h6 : N ≤ 6) (hf : D8 N f) (hp : p ≤ 9) : gF (Oc N f) (nI p) = nI (if p < N then f p else 0) := by
  have h1 := oN_31 h6 hf
  rw [Oc, gF_nI (by omega) hp, oN_dig hf]
theorem gF_at {N p : Nat} {f : Nat → Nat} (h6 : N ≤ 6) (hf : D8 N f) (hp : p < N) : gF (Oc N f) (nI p) = nI (f p) := by
  rw [gF_Oc h6 hf (by omega), if_pos hp]
theorem uF_Oc {N p t : Nat} {f : Nat → Nat} (h6 : N ≤ 6) (hf : D8 N f) (hp : p < N) (ht : t < 8) : uF (Oc N f) (nI p) (nI t) = Oc N (fun i => if i = p then t else f i) := by
  have h1 := oN_31 h6 hf
  have hg : D8 N (fun i => if i = p then t else f i) := fun i hi => by
    dsimp only
    split
    · exact ht
    · exact hf i hi
  have h2 := oN_31 h6 hg
  rw [Oc, uF_nI h1 (by omega) ht, Oc]
  congr 1
  have h3 := stD_lt h1 (show p ≤ 5 by omega) ht
  refine dig_ext (N := 8) (by decide) 6 _ _ h3 h2 (fun i hi => ?_)
  rw [stD_dig (by omega) ht (by omega), oN_dig hg, oN_dig hf]
  by_cases q : i = p
  · subst q
    rw [if_pos rfl, if_pos hp, if_pos rfl]
  · rw [if_neg q]
    split
    · first | rfl | rw [if_neg q]
    · rfl
theorem uF_add {K t : Nat} {f : Nat → Nat} (h5 : K ≤ 5) (hf : D8 K f) (ht : t < 8) : uF (Oc K f) (nI K) (nI t) = Oc (K + 1) (fun i => if i = K then t else f i) := by
  have e : oN K f = oN (K + 1) (fun i => if i = K then 0 else f i) := by
    show oN K f = oN K (fun i => if i = K then 0 else f i) + (if K = K then 0 else f K) * 8 ^ K
    rw [if_pos rfl, Nat.zero_mul, Nat.add_zero]
    exact oN_ext (fun i hi => by rw [if_neg (by omega)])
  rw [Oc, e]
  have hg : D8 (K + 1) (fun i => if i = K then 0 else f i) := fun i hi => by
    dsimp only
    split
    · decide
    · exact hf i (by omega)
  have := uF_Oc (N := K + 1) (p := K) (by omega) hg (by omega) ht
  rw [Oc] at this
  rw [this]
  exact Oc_ext (fun i hi => by
    by_cases q : i = K
    · rw [if_pos q, if_pos q]
    · rw [if_neg q, if_neg q, if_neg q])
