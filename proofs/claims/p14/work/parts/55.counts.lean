/-! sums, counts, rows of choices (pure) -/
theorem sm_cg {F G : Nat → Nat} : ∀ {n : Nat}, (∀ k, k < n → F k = G k) → sm F n = sm G n
  | 0, _ => rfl
  | n + 1, h => by
    show sm F n + F n = sm G n + G n
    rw [sm_cg (fun k hk => h k (by omega)), h n (by omega)]
theorem sm_add (F G : Nat → Nat) : ∀ n, sm (fun k => F k + G k) n = sm F n + sm G n
  | 0 => rfl
  | n + 1 => by
    show sm (fun k => F k + G k) n + (F n + G n) = sm F n + F n + (sm G n + G n)
    rw [sm_add F G n]
    omega
theorem sm_0 : ∀ n, sm (fun _ => 0) n = 0
  | 0 => rfl
  | n + 1 => by
    show sm (fun _ => 0) n + 0 = 0
    rw [sm_0 n]
theorem sm_swap (g : Nat → Nat → Nat) (m : Nat) : ∀ n, sm (fun k => sm (g k) m) n = sm (fun c => sm (fun k => g k c) n) m
  | 0 => (sm_0 m).symm
  | n + 1 => by
    show sm (fun k => sm (g k) m) n + sm (g n) m = sm (fun c => sm (fun k => g k c) n + g n c) m
    rw [sm_swap g m n, sm_add]
theorem sm_one {c0 : Nat} : ∀ {n : Nat}, c0 < n → sm (fun c => if c = c0 then 1 else 0) n = 1
  | n + 1, h => by
    show sm (fun c => if c = c0 then 1 else 0) n + (if n = c0 then 1 else 0) = 1
    by_cases q : n = c0
    · subst q
      rw [if_pos rfl, sm_cg (G := fun _ => 0) (fun k hk => if_neg (by omega)), sm_0]
    · rw [if_neg q, sm_one (show c0 < n by omega)]
/-- as many of one kind as of the other -/
theorem cnt_bij {n m : Nat} {p q : Nat → Prop} [DecidablePred p] [DecidablePred q] {num : Nat → Nat} (h1 : ∀ c, c < m → q c → num c < n ∧ p (num c)) (h2 : ∀ k, k < n → p k → ∃ c, c < m ∧ q c ∧ num c = k) (h3 : ∀ c d, c < m → d < m → q c → q d → num c = num d → c = d) :
    sm (fun k => if p k then 1 else 0) n = sm (fun c => if q c then 1 else 0) m := by
  have e1 : sm (fun k => if p k then 1 else 0) n = sm (fun k => sm (fun c => if p k ∧ q c ∧ num c = k then 1 else 0) m) n := by
    refine sm_cg (fun k hk => ?_)
    by_cases hp : p k
    · obtain ⟨c0, hc, hq, he⟩ := h2 k hk hp
      rw [if_pos hp]
      refine (sm_one hc).symm.trans (sm_cg (fun c hc2 => ?_))
      by_cases q2 : c = c0
      · subst q2
        rw [if_pos rfl, if_pos ⟨hp, hq, he⟩]
      · rw [if_neg q2, if_neg (fun z => q2 (h3 c c0 hc2 hc z.2.1 hq (z.2.2.trans he.symm)))]
    · rw [if_neg hp, sm_cg (G := fun _ => 0) (fun c _ => if_neg (fun z => hp z.1)), sm_0]
  rw [e1, sm_swap]
  refine sm_cg (fun c hc => ?_)
  by_cases hq : q c
  · obtain ⟨hk, hp⟩ := h1 c hc hq
    rw [if_pos hq]
    refine Eq.trans (sm_cg (fun k hk2 => ?_)) (sm_one hk)
    by_cases q2 : k = num c
    · subst q2
      rw [if_pos rfl, if_pos ⟨hp, hq, rfl⟩]
    · rw [if_neg q2, if_neg (fun z => q2 z.2.2.symm)]
  · rw [if_neg hq, sm_cg (G := fun _ => 0) (fun k _ => if_neg (fun z => hq z.2.1)), sm_0]
theorem cnt_nI {q : Nat → Prop} [DecidablePred q] : ∀ m, it (fun c r => r + bz (q c)) m (0 : Int32) = nI (sm (fun c => if q c then 1 else 0) m)
  | 0 => rfl
  | m + 1 => by
    show it (fun c r => r + bz (q c)) m (0 : Int32) + bz (q m) = nI (sm (fun c => if q c then 1 else 0) m + (if q m then 1 else 0))
    rw [cnt_nI m, ← nI_add]
    congr 1
    unfold bz
    split <;> rfl
/-- how many rows of choices: of 0 .. i at each place i -/
def fc : Nat → Nat
  | 0 => 1
  | n + 1 => fc n * (n + 1)
theorem fc_pos : ∀ n, 0 < fc n
  | 0 => by decide
  | n + 1 => Nat.mul_pos (fc_pos n) (Nat.succ_pos n)
theorem chF_fc : ∀ N, 1 ≤ N → N ≤ 6 → chF N = fc N := by
  intro N h1 h6
  rcases (show N = 1 ∨ N = 2 ∨ N = 3 ∨ N = 4 ∨ N = 5 ∨ N = 6 by omega) with rfl | rfl | rfl | rfl | rfl | rfl <;> rfl
/-- the choice at place i -/
def mr (c i : Nat) : Nat := c / fc i % (i + 1)
theorem mr_le (c i : Nat) : mr c i ≤ i := by
  have := Nat.mod_lt (c / fc i) (show 0 < i + 1 by omega)
  unfold mr
  omega
theorem fc_dvd : ∀ {j K : Nat}, j < K → ∃ d, fc K = fc j * ((j + 1) * d)
  | j, K + 1, h => by
    rcases Nat.lt_or_ge j K with q | q
    · obtain ⟨d, hd⟩ := fc_dvd q
      refine ⟨d * (K + 1), ?_⟩
      show fc K * (K + 1) = _
      rw [hd, Nat.mul_assoc, Nat.mul_assoc]
    · obtain rfl : j = K := by omega
      exact ⟨1, by rw [Nat.mul_one]; rfl⟩
theorem mr_add {K a o i : Nat} (hi : i < K) : mr (a + fc K * o) i = mr a i := by
  obtain ⟨d, hd⟩ := fc_dvd hi
  unfold mr
  rw [hd, Nat.mul_assoc, Nat.add_mul_div_left _ _ (fc_pos i), Nat.mul_assoc, Nat.add_mul_mod_self_left]
theorem mr_top {K a o : Nat} (ha : a < fc K) (ho : o ≤ K) : mr (a + fc K * o) K = o := by
  unfold mr
  rw [Nat.add_mul_div_left _ _ (fc_pos K), Nat.div_eq_of_lt ha, Nat.zero_add, Nat.mod_eq_of_lt (by omega)]
theorem mr_ex : ∀ (K : Nat) (f : Nat → Nat), (∀ i, i < K → f i ≤ i) → ∃ c, c < fc K ∧ ∀ i, i < K → mr c i = f i
  | 0, _, _ => ⟨0, by decide, fun i hi => absurd hi (Nat.not_lt_zero i)⟩
  | K + 1, f, h => by
    obtain ⟨c, hc, hm⟩ := mr_ex K f (fun i hi => h i (by omega))
    have hK := h K (by omega)
    refine ⟨c + fc K * f K, ?_, fun i hi => ?_⟩
    · show c + fc K * f K < fc K * (K + 1)
      have := Nat.mul_le_mul_left (fc K) hK
      rw [Nat.mul_add, Nat.mul_one]
      omega
    · rcases Nat.lt_or_ge i K with q | q
      · rw [mr_add q, hm i q]
      · obtain rfl : i = K := by omega
        exact mr_top hc hK
theorem mr_split {K c : Nat} (hc : c < fc (K + 1)) : c = c % fc K + fc K * mr c K ∧ c % fc K < fc K := by
  have h1 := Nat.mod_add_div c (fc K)
  have h2 : c / fc K < K + 1 := Nat.div_lt_of_lt_mul hc
  refine ⟨?_, Nat.mod_lt _ (fc_pos K)⟩
  unfold mr
  rw [Nat.mod_eq_of_lt h2, h1]
theorem mr_un : ∀ {K c d : Nat}, c < fc K → d < fc K → (∀ i, i < K → mr c i = mr d i) → c = d
  | 0, c, d, hc, hd, _ => by
    have : fc 0 = 1 := rfl
    omega
  | K + 1, c, d, hc, hd, h => by
    obtain ⟨c1, c2⟩ := mr_split hc
    obtain ⟨d1, d2⟩ := mr_split hd
    have e := mr_un c2 d2 (fun i hi => by
      have a := h i (by omega)
      rw [c1, d1, mr_add hi, mr_add hi] at a
      exact a)
    rw [c1, d1, e, h K (by omega)]
theorem div_fc (c K : Nat) : c / fc K / (K + 1) = c / fc (K + 1) := Nat.div_div_eq_div_mul c (fc K) (K + 1)
