/-! what the class does with its maps, told by what they do (pure) -/
theorem nI_8 {N : Nat} {f : Nat → Nat} (h6 : N ≤ 6) (hf : ∀ i, i < N → f i < N) : D8 N f := fun i hi => by have := hf i hi; omega
theorem noF_Oc {N : Nat} (h6 : N ≤ 6) : noF N = Oc N (fun i => i) := by
  have key : ∀ K, K ≤ 6 → it (fun k r => uF r (nI k) (nI k)) K 0 = Oc K (fun i => i) := by
    intro K
    induction K with
    | zero => intro _; rfl
    | succ K ih =>
      intro hK
      show uF (it (fun k r => uF r (nI k) (nI k)) K 0) (nI K) (nI K) = _
      rw [ih (by omega), uF_add (by omega) (fun i hi => by omega) (by omega)]
      exact Oc_ext (fun i hi => by
        try dsimp only
        split
        · rename_i h; exact h.symm
        · rfl)
  exact key N h6
theorem onF_Oc {N m : Nat} (h0 : 0 < N) (h6 : N ≤ 6) : onF m N = Oc N (gN N m) := by
  have key : ∀ K, K ≤ 6 → it (onS m N) K 0 = Oc K (gN N m) := by
    intro K
    induction K with
    | zero => intro _; rfl
    | succ K ih =>
      intro hK
      show uF (it (onS m N) K 0) (nI K) (nI (gN N m K)) = _
      have h1 : ∀ i, gN N m i < 8 := fun i => by have := gN_lt (N := N) (m := m) (i := i) h0; omega
      rw [ih (by omega), uF_add (by omega) (fun i _ => h1 i) (h1 K)]
      exact Oc_ext (fun i hi => by
        try dsimp only
        split
        · rename_i h; rw [h]
        · rfl)
  exact key N h6
theorem or_add {K : Nat} {f : Nat → Nat} {t : Nat} (h5 : K ≤ 5) (hf : D8 K f) (ht : t < 8) : Oc K f ||| (nI t <<< ((3 * nI K) &&& 31)) = Oc (K + 1) (fun i => if i = K then t else f i) := by
  have e2 : nI t <<< ((3 * nI K) &&& 31) = nI (t * 2 ^ (3 * K)) := by
    rcases (show K = 0 ∨ K = 1 ∨ K = 2 ∨ K = 3 ∨ K = 4 ∨ K = 5 by omega) with rfl | rfl | rfl | rfl | rfl | rfl <;> exact pk_shlN _ _ (by decide) (by omega)
  have hlt := oN_lt hf
  have e8 : (8 : Nat) ^ K = 2 ^ (3 * K) := by rw [show (8 : Nat) = 2 ^ 3 from rfl, ← Nat.pow_mul]
  rw [e8] at hlt
  rw [e2, Oc, or_nI, Nat.or_comm, Nat.mul_comm t, ← Nat.two_pow_add_eq_or_of_lt hlt, Oc]
  congr 1
  show 2 ^ (3 * K) * t + oN K f = oN K (fun i => if i = K then t else f i) + (if K = K then t else f K) * 8 ^ K
  rw [if_pos rfl, e8, Nat.mul_comm t, Nat.add_comm]
  congr 1
  exact oN_ext (fun i hi => by rw [if_neg (by omega)])
theorem ahF_Oc {N : Nat} {f g : Nat → Nat} (h6 : N ≤ 6) (hf : ∀ i, i < N → f i < N) (hg : D8 N g) : ahF (Oc N f) (Oc N g) N = Oc N (fun i => g (f i)) := by
  have key : ∀ K, K ≤ N → it (ahS (Oc N f) (Oc N g)) K 0 = Oc K (fun i => g (f i)) := by
    intro K
    induction K with
    | zero => intro _; rfl
    | succ K ih =>
      intro hK
      show it (ahS (Oc N f) (Oc N g)) K 0 ||| (gF (Oc N g) (gF (Oc N f) (nI K)) <<< ((3 * nI K) &&& 31)) = _
      rw [ih (by omega), gF_at h6 (nI_8 h6 hf) (by omega), gF_at h6 hg (hf K (by omega)), or_add (by omega) (fun i hi => hg _ (hf i (by omega))) (hg _ (hf K (by omega)))]
      exact Oc_ext (fun i hi => by
        try dsimp only
        split
        · rename_i h; rw [h]
        · rfl)
  exact key N (Nat.le_refl _)
theorem tnF_Oc {N : Nat} {f : Nat → Nat} (h6 : N ≤ 6) (hf : D8 N f) : tnF (Oc N f) N = nI (hzN N f) := by
  have key : ∀ J, J ≤ N → it (tnS (Oc N f) N) J 0 = nI (hz N N f J) := by
    intro J
    induction J with
    | zero => intro _; rfl
    | succ J ih =>
      intro hJ
      show it (tnS (Oc N f) N) J 0 * nI N + gF (Oc N f) (nI (N - 1 - J)) = nI (N * hz N N f J + f (N - 1 - J))
      rw [ih (by omega), gF_at h6 hf (by omega), pk_mul, nI_add, Nat.mul_comm]
  exact key N (Nat.le_refl _)
theorem osF_Oc {N m S : Nat} (h0 : 0 < N) (h6 : N ≤ 6) (hS : S < 2 ^ N) : osF (Oc N (gN N m)) (nI S) = nI (imN N m S) := by
  have h26 := pow2_le6 h6
  have h8 : D8 N (gN N m) := fun i _ => by have := gN_lt (N := N) (m := m) (i := i) h0; omega
  have key : ∀ K, K ≤ 6 → it (osS (Oc N (gN N m)) (nI S)) K 0 = nI (it (fun i v => v ||| (if S / 2 ^ i % 2 = 1 then 2 ^ gN N m i else 0)) (if K ≤ N then K else N) 0) := by
    intro K
    induction K with
    | zero => intro _; rw [if_pos (Nat.zero_le _)]; rfl
    | succ K ih =>
      intro hK
      have hb := bt_nI (S := S) (i := K) (by omega) (by omega)
      have hm := Nat.mod_lt (S / 2 ^ K) (show 0 < 2 by decide)
      show (if (nI S >>> (nI K &&& 31)) &&& 1 = 1 then it (osS (Oc N (gN N m)) (nI S)) K 0 ||| (1 <<< (gF (Oc N (gN N m)) (nI K) &&& 31)) else it (osS (Oc N (gN N m)) (nI S)) K 0) = _
      rw [hb, ih (by omega)]
      by_cases hN : K + 1 ≤ N
      · rw [if_pos hN, if_pos (show K ≤ N by omega)]
        show _ = nI (it (fun i v => v ||| (if S / 2 ^ i % 2 = 1 then 2 ^ gN N m i else 0)) K 0 ||| (if S / 2 ^ K % 2 = 1 then 2 ^ gN N m K else 0))
        by_cases q : S / 2 ^ K % 2 = 1
        · rw [q, if_pos (show nI 1 = 1 from rfl), if_pos rfl, gF_at h6 h8 (by omega), sh_nI (by have := gN_lt (N := N) (m := m) (i := K) h0; omega), or_nI]
        · have q' : ¬ nI (S / 2 ^ K % 2) = 1 := fun h => q ((nI_eq (by omega) (by decide)).mp (show nI (S / 2 ^ K % 2) = nI 1 from h))
          rw [if_neg q', if_neg q, Nat.or_zero]
      · have hz : S / 2 ^ K = 0 := Nat.div_eq_of_lt (Nat.lt_of_lt_of_le hS (Nat.pow_le_pow_right (by decide) (by omega)))
        rw [hz, if_neg (by decide), if_neg hN]
        by_cases q : K ≤ N
        · rw [if_pos q, show K = N by omega]
        · rw [if_neg q]
  have := key 6 (Nat.le_refl _)
  rw [osF, this]
  by_cases q : 6 ≤ N
  · rw [if_pos q, show N = 6 by omega]; rfl
  · rw [if_neg q]; rfl
theorem opF_Oc {N a b : Nat} {f : Nat → Nat} (h6 : N ≤ 6) (hf : D8 N f) (ha : a < N) (hb : b < N) : opF (Oc N f) (nI (8 * a + b)) = nI (8 * f a + f b) := by
  have e1 : nI (8 * a + b) >>> ((3 : Int32) &&& 31) = nI a := by
    rw [pk_shrN (by omega) _ 3 (by decide)]
    congr 1
    omega
  have e2 : nI (8 * a + b) &&& 7 = nI b := by
    rw [pk_andN (by omega) 3 (by decide)]
    congr 1
    omega
  rw [opF, e1, e2, gF_at h6 hf ha, gF_at h6 hf hb, prF]
  show nI (f a) * nI 8 + nI (f b) = _
  rw [pk_mul, nI_add, Nat.mul_comm]
theorem knF_Oc {N : Nat} {f : Nat → Nat} (h6 : N ≤ 6) (hf : D8 N f) : knF (Oc N f) N = Oc N (fun i => sr (fun l => f l = f i) i 0) := by
  have key : ∀ K, K ≤ N → it (knS (Oc N f)) K 0 = Oc K (fun i => sr (fun l => f l = f i) i 0) := by
    intro K
    induction K with
    | zero => intro _; rfl
    | succ K ih =>
      intro hK
      show uF (it (knS (Oc N f)) K 0) (nI K) (nI (sr (fun l => gF (Oc N f) (nI l) = gF (Oc N f) (nI K)) K 0)) = _
      have e : sr (fun l => gF (Oc N f) (nI l) = gF (Oc N f) (nI K)) K 0 = sr (fun l => f l = f K) K 0 := by
        have g : ∀ n k, k + n ≤ K → sr (fun l => gF (Oc N f) (nI l) = gF (Oc N f) (nI K)) n k = sr (fun l => f l = f K) n k := by
          intro n
          induction n with
          | zero => intro _ _; rfl
          | succ n ih2 =>
            intro k hk
            have hp : (gF (Oc N f) (nI k) = gF (Oc N f) (nI K)) ↔ f k = f K := by
              have a1 := hf k (by omega)
              have a2 := hf K (by omega)
              rw [gF_at h6 hf (by omega), gF_at h6 hf (by omega), nI_eq (by omega) (by omega)]
            show (if gF (Oc N f) (nI k) = gF (Oc N f) (nI K) then k else sr _ n (k + 1)) = (if f k = f K then k else sr _ n (k + 1))
            by_cases q : f k = f K
            · rw [if_pos q, if_pos (hp.mpr q)]
            · rw [if_neg q, if_neg (fun h => q (hp.mp h)), ih2 (k + 1) (by omega)]
        exact g K 0 (by omega)
      have hs : ∀ i, i ≤ K → sr (fun l => f l = f i) i 0 < 8 := fun i hi => by have := sr_le (fun l => f l = f i) i 0; omega
      rw [ih (by omega), e, uF_add (by omega) (fun i hi => hs i (by omega)) (hs K (Nat.le_refl _))]
      exact Oc_ext (fun i hi => by
        try dsimp only
        split
        · rename_i h; rw [h]
        · rfl)
  exact key N (Nat.le_refl _)
theorem gN8 {N m : Nat} (h0 : 0 < N) (h6 : N ≤ 6) : D8 N (gN N m) := fun i _ => by have := gN_lt (N := N) (m := m) (i := i) h0; omega
