/-! contracts: what all parts use; maps -/
def it {α : Type} (f : Nat → α → α) : Nat → α → α
  | 0, x => x
  | k + 1, x => f k (it f k x)
theorem lp_nat {N : Nat} {P : Nat → Prop} (h : ∀ k, k ≤ N → (k < N → P (k + 1)) → P k) : ∀ k, k ≤ N → P k := by
  intro k hk
  obtain ⟨d, hd⟩ : ∃ d, d = N - k := ⟨_, rfl⟩
  induction d generalizing k with
  | zero => exact h k hk (fun h2 => absurd h2 (by omega))
  | succ d ih => exact h k hk (fun h2 => ih (k + 1) h2 (by omega))
theorem nI_nge {a b : Nat} (h : ¬ nI b ≤ nI a) (ha : a < 2 ^ 31) (hb : b < 2 ^ 31) : a < b := by
  rcases Nat.lt_or_ge a b with q | q
  · exact q
  · exact absurd (nI_le q ha) h
theorem nI_ge2 {a b : Nat} (h : nI b ≤ nI a) (ha : a < 2 ^ 31) (hb : b < 2 ^ 31) : b ≤ a := (nI_leI hb ha).mp h
def rdA (σ : Hp) (a n : Nat) (i : Int32) : Int32 := if 0 ≤ i ∧ i < Int32.ofNat n then σ.1 a i.toNatClampNeg else 0
def wrA (σ : Hp) (a n : Nat) (i x : Int32) : Hp := if 0 ≤ i ∧ i < Int32.ofNat n then wI σ a i.toNatClampNeg x else σ
theorem at_in {n : Nat} {i : Int32} (h1 : ¬ i < 0) (h2 : ¬ Int32.ofNat n ≤ i) (hn : n < 2 ^ 31) : vp_in i n := by
  obtain ⟨j, hj, rfl⟩ := nI_of h1
  exact vp_in_nI (nI_nge h2 hj hn) hn
theorem c_P_at {a n : Nat} {fs : List (Nat × Nat)} (ha : kdl[a]? = some (0, n, fs)) (hn : n < 2 ^ 31) (i : Int32) (σ : Hp) : Ct m_P_at [.ref a, .int i] σ (Rt (.int (rdA σ a n i)) σ) := by
  show WP m_P_at 0 [.ref a, .int i] [] σ _
  refine wp_iload_n d_P_at_0 rfl ?_
  refine wp_if_lt (tgt := 16) d_P_at_1 (by decide) (fun h1 => ?_) (fun h1 => ?_)
  · have ee : rdA σ a n i = 0 := if_neg (fun q => absurd h1 (k2_nlt q.1))
    rw [ee]
    refine wp_iconst (v := 0) d_P_at_16 (by decide) ?_
    refine wp_iret d_P_at_17 rfl ?_
    exact ⟨rfl, rfl⟩
  refine wp_iload_n d_P_at_4 rfl ?_
  refine wp_aload_n d_P_at_5 rfl ?_
  refine wp_alen d_P_at_6 ha rfl ?_
  refine wp_icmp_ge (tgt := 16) d_P_at_7 (by decide) (fun h2 => ?_) (fun h2 => ?_)
  · have ee : rdA σ a n i = 0 := if_neg (fun q => absurd h2 (k2_nle q.2))
    rw [ee]
    refine wp_iconst (v := 0) d_P_at_16 (by decide) ?_
    refine wp_iret d_P_at_17 rfl ?_
    exact ⟨rfl, rfl⟩
  · have ee : rdA σ a n i = σ.1 a i.toNatClampNeg := if_pos ⟨k2_le h1, k2_lt h2⟩
    rw [ee]
    refine wp_aload_n d_P_at_10 rfl ?_
    refine wp_iload_n d_P_at_11 rfl ?_
    refine wp_iald d_P_at_12 ha (at_in h1 h2 hn) ?_
    refine wp_goto (tgt := 17) d_P_at_13 (by decide) ?_
    refine wp_iret d_P_at_17 rfl ?_
    exact ⟨rfl, rfl⟩
theorem c_P_put {a n : Nat} {fs : List (Nat × Nat)} (ha : kdl[a]? = some (0, n, fs)) (hn : n < 2 ^ 31) (i x : Int32) (σ : Hp) : Ct m_P_put [.ref a, .int i, .int x] σ (Rv (wrA σ a n i x)) := by
  show WP m_P_put 0 [.ref a, .int i, .int x] [] σ _
  refine wp_iload_n d_P_put_0 rfl ?_
  refine wp_if_lt (tgt := 14) d_P_put_1 (by decide) (fun h1 => ?_) (fun h1 => ?_)
  · have ee : wrA σ a n i x = σ := if_neg (fun q => absurd h1 (k2_nlt q.1))
    rw [ee]
    refine wp_vret d_P_put_14 rfl ?_
    exact ⟨rfl, rfl⟩
  refine wp_iload_n d_P_put_4 rfl ?_
  refine wp_aload_n d_P_put_5 rfl ?_
  refine wp_alen d_P_put_6 ha rfl ?_
  refine wp_icmp_ge (tgt := 14) d_P_put_7 (by decide) (fun h2 => ?_) (fun h2 => ?_)
  · have ee : wrA σ a n i x = σ := if_neg (fun q => absurd h2 (k2_nle q.2))
    rw [ee]
    refine wp_vret d_P_put_14 rfl ?_
    exact ⟨rfl, rfl⟩
  · have ee : wrA σ a n i x = wI σ a i.toNatClampNeg x := if_pos ⟨k2_le h1, k2_lt h2⟩
    rw [ee]
    refine wp_aload_n d_P_put_10 rfl ?_
    refine wp_iload_n d_P_put_11 rfl ?_
    refine wp_iload_n d_P_put_12 rfl ?_
    refine wp_iast d_P_put_13 ha (at_in h1 h2 hn) ?_
    refine wp_vret d_P_put_14 rfl ?_
    exact ⟨rfl, rfl⟩
def bz (p : Prop) [Decidable p] : Int32 := if p then 1 else 0
theorem bz_t {p : Prop} {i : Decidable p} (h : p) : @bz p i = 1 := if_pos h
theorem bz_f {p : Prop} {i : Decidable p} (h : ¬ p) : @bz p i = 0 := if_neg h
theorem bz_nar {p : Prop} {i : Decidable p} : narrow .boolean (.int (@bz p i)) = .int (@bz p i) := by
  unfold bz
  split <;> decide
theorem bz_0 {p : Prop} {i : Decidable p} : @bz p i = 0 ↔ ¬ p := by
  unfold bz
  split <;> simp_all
theorem bz_cong {p q : Prop} {i : Decidable p} {j : Decidable q} (h : p ↔ q) : @bz p i = @bz q j := by
  unfold bz
  by_cases hp : p
  · rw [if_pos hp, if_pos (h.mp hp)]
  · rw [if_neg hp, if_neg (fun k => hp (h.mpr k))]
theorem c_P_within (v a b : Int32) (σ : Hp) : Ct m_P_within [.int v, .int a, .int b] σ (Rt (.int (bz (a ≤ v ∧ v ≤ b))) σ) := by
  show WP m_P_within 0 [.int v, .int a, .int b] [] σ _
  refine wp_iload_n d_P_within_0 rfl ?_
  refine wp_iload_n d_P_within_1 rfl ?_
  refine wp_icmp_lt (tgt := 14) d_P_within_2 (by decide) (fun h1 => ?_) (fun h1 => ?_)
  · rw [bz_f (fun q => absurd h1 (k2_nlt q.1))]
    refine wp_iconst (v := 0) d_P_within_14 (by decide) ?_
    refine wp_zret d_P_within_15 rfl ?_ ?_
    · decide
    · exact ⟨rfl, rfl⟩
  refine wp_iload_n d_P_within_5 rfl ?_
  refine wp_iload_n d_P_within_6 rfl ?_
  refine wp_icmp_gt (tgt := 14) d_P_within_7 (by decide) (fun h2 => ?_) (fun h2 => ?_)
  · rw [bz_f (fun q => absurd h2 (k2_nlt q.2))]
    refine wp_iconst (v := 0) d_P_within_14 (by decide) ?_
    refine wp_zret d_P_within_15 rfl ?_ ?_
    · decide
    · exact ⟨rfl, rfl⟩
  · rw [bz_t ⟨k2_le h1, k2_le h2⟩]
    refine wp_iconst (v := 1) d_P_within_10 (by decide) ?_
    refine wp_goto (tgt := 15) d_P_within_11 (by decide) ?_
    refine wp_zret d_P_within_15 rfl ?_ ?_
    · decide
    · exact ⟨rfl, rfl⟩
theorem c_P_oneIf (p : Prop) [Decidable p] (σ : Hp) : Ct m_P_oneIf [.int (bz p)] σ (Rt (.int (bz p)) σ) := by
  show WP m_P_oneIf 0 [.int (bz p)] [] σ _
  refine wp_iload_n d_P_oneIf_0 rfl ?_
  refine wp_if_eq (tgt := 8) d_P_oneIf_1 (by decide) (fun h1 => ?_) (fun h1 => ?_)
  · rw [h1]
    refine wp_iconst (v := 0) d_P_oneIf_8 (by decide) ?_
    refine wp_iret d_P_oneIf_9 rfl ?_
    exact ⟨rfl, rfl⟩
  · have ee : bz p = 1 := by
      unfold bz at h1 ⊢
      split at h1 <;> simp_all
    rw [ee]
    refine wp_iconst (v := 1) d_P_oneIf_4 (by decide) ?_
    refine wp_goto (tgt := 9) d_P_oneIf_5 (by decide) ?_
    refine wp_iret d_P_oneIf_9 rfl ?_
    exact ⟨rfl, rfl⟩
def mxI (x y : Int32) : Int32 := if x < y then y else x
def mnI (x y : Int32) : Int32 := if y < x then y else x
theorem c_Jm_max (x y : Int32) (σ : Hp) : Ct m_Jm_max [.int x, .int y] σ (Rt (.int (mxI x y)) σ) := by
  show WP m_Jm_max 0 [.int x, .int y] [] σ _
  refine wp_iload_n d_Jm_max_0 rfl ?_
  refine wp_iload_n d_Jm_max_1 rfl ?_
  refine wp_icmp_lt (tgt := 9) d_Jm_max_2 (by decide) (fun h1 => ?_) (fun h1 => ?_)
  · rw [mxI, if_pos h1]
    refine wp_iload_n d_Jm_max_9 rfl ?_
    refine wp_iret d_Jm_max_10 rfl ?_
    exact ⟨rfl, rfl⟩
  · rw [mxI, if_neg h1]
    refine wp_iload_n d_Jm_max_5 rfl ?_
    refine wp_goto (tgt := 10) d_Jm_max_6 (by decide) ?_
    refine wp_iret d_Jm_max_10 rfl ?_
    exact ⟨rfl, rfl⟩
theorem c_Jm_min (x y : Int32) (σ : Hp) : Ct m_Jm_min [.int x, .int y] σ (Rt (.int (mnI x y)) σ) := by
  show WP m_Jm_min 0 [.int x, .int y] [] σ _
  refine wp_iload_n d_Jm_min_0 rfl ?_
  refine wp_iload_n d_Jm_min_1 rfl ?_
  refine wp_icmp_gt (tgt := 9) d_Jm_min_2 (by decide) (fun h1 => ?_) (fun h1 => ?_)
  · rw [mnI, if_pos h1]
    refine wp_iload_n d_Jm_min_9 rfl ?_
    refine wp_iret d_Jm_min_10 rfl ?_
    exact ⟨rfl, rfl⟩
  · rw [mnI, if_neg h1]
    refine wp_iload_n d_Jm_min_5 rfl ?_
    refine wp_goto (tgt := 10) d_Jm_min_6 (by decide) ?_
    refine wp_iret d_Jm_min_10 rfl ?_
    exact ⟨rfl, rfl⟩
theorem pk_xorpos {a b : Nat} (ha : a < 2 ^ 31) (hb : b < 2 ^ 31) : 0 ≤ nI a ^^^ nI b := by
  have e : nI a ^^^ nI b = nI (a ^^^ b) := by
    apply Int32.toBitVec_inj.mp
    simp only [Int32.toBitVec_xor]
    apply BitVec.eq_of_toNat_eq
    rw [BitVec.toNat_xor, pk_tn (by omega), pk_tn (by omega), pk_tn]
    exact Nat.xor_lt_two_pow (n := 32) (by omega) (by omega)
  rw [e]
  exact nI_pos' (Nat.xor_lt_two_pow (n := 31) ha hb)
theorem c_Jm_floorMod {a b : Nat} (ha : a < 2 ^ 31) (h0 : 0 < b) (hb : b < 2 ^ 31) (σ : Hp) : Ct m_Jm_floorMod [.int (nI a), .int (nI b)] σ (Rt (.int (nI (a % b))) σ) := by
  show WP m_Jm_floorMod 0 [.int (nI a), .int (nI b), .null] [] σ _
  refine wp_iload_n d_Jm_floorMod_0 rfl ?_
  refine wp_iload_n d_Jm_floorMod_1 rfl ?_
  refine wp_irem d_Jm_floorMod_2 ?_ ?_
  · exact nI_ne0 h0 hb
  rw [pk_rem ha h0 hb]
  refine wp_istore2 d_Jm_floorMod_3 (by decide) rfl ?_
  refine wp_iload_n d_Jm_floorMod_4 rfl ?_
  refine wp_iload_n d_Jm_floorMod_5 rfl ?_
  refine wp_ixor d_Jm_floorMod_6 ?_
  refine wp_if_ge (tgt := 18) d_Jm_floorMod_7 (by decide) (fun h1 => ?_) (fun h1 => ?_)
  · refine wp_iload_n d_Jm_floorMod_18 rfl ?_
    refine wp_iret d_Jm_floorMod_19 rfl ?_
    exact ⟨rfl, rfl⟩
  · exact absurd (pk_xorpos ha hb) h1
theorem c_Jm_floorDiv {a b : Nat} (ha : a < 2 ^ 31) (h0 : 0 < b) (hb : b < 2 ^ 31) (σ : Hp) : Ct m_Jm_floorDiv [.int (nI a), .int (nI b)] σ (Rt (.int (nI (a / b))) σ) := by
  show WP m_Jm_floorDiv 0 [.int (nI a), .int (nI b), .null] [] σ _
  refine wp_iload_n d_Jm_floorDiv_0 rfl ?_
  refine wp_iload_n d_Jm_floorDiv_1 rfl ?_
  refine wp_idiv d_Jm_floorDiv_2 ?_ ?_
  · exact nI_ne0 h0 hb
  rw [pk_div ha h0 hb]
  refine wp_istore2 d_Jm_floorDiv_3 (by decide) rfl ?_
  refine wp_iload_n d_Jm_floorDiv_4 rfl ?_
  refine wp_iload_n d_Jm_floorDiv_5 rfl ?_
  refine wp_ixor d_Jm_floorDiv_6 ?_
  refine wp_if_ge (tgt := 21) d_Jm_floorDiv_7 (by decide) (fun h1 => ?_) (fun h1 => ?_)
  · refine wp_iload_n d_Jm_floorDiv_21 rfl ?_
    refine wp_iret d_Jm_floorDiv_22 rfl ?_
    exact ⟨rfl, rfl⟩
  · exact absurd (pk_xorpos ha hb) h1
/-- an array is filled: so far -/
def flA (σ : Hp) (a : Nat) (x : Int32) (k : Nat) : Hp := (fun q => if q = a then (fun j => if j < k then x else σ.1 a j) else σ.1 q, σ.2)
theorem flA_0 (σ : Hp) (a : Nat) (x : Int32) : flA σ a x 0 = σ := by
  unfold flA
  ext q j
  · by_cases h : q = a <;> simp [h]
  · rfl
theorem flA_s (σ : Hp) (a : Nat) (x : Int32) (k : Nat) : wI (flA σ a x k) a k x = flA σ a x (k + 1) := by
  unfold flA wI upd
  ext q j
  · by_cases h : q = a
    · simp only [h, if_true]
      by_cases h2 : j = k
      · simp [h2]
      · by_cases h3 : j < k
        · simp [h2, h3, Nat.lt_succ_of_lt h3]
        · have h4 : ¬ j < k + 1 := by omega
          simp [h2, h3, h4]
    · simp [h]
  · rfl
theorem c_Ja_fill {a n : Nat} {fs : List (Nat × Nat)} (ha : kdl[a]? = some (0, n, fs)) (hn : n < 2 ^ 31) (x : Int32) (σ : Hp) : Ct m_Ja_fill [.ref a, .int x] σ (Rv (flA σ a x n)) := by
  show WP m_Ja_fill 0 [.ref a, .int x, .null, .null] [] σ _
  refine wp_iconst (v := 0) d_Ja_fill_0 (by decide) ?_
  refine wp_istore2 d_Ja_fill_1 (by decide) rfl ?_
  refine wp_aload_n d_Ja_fill_2 rfl ?_
  refine wp_alen d_Ja_fill_3 ha rfl ?_
  refine wp_istore3 d_Ja_fill_4 (by decide) rfl ?_
  suffices H : ∀ k, k ≤ n → WP m_Ja_fill 5 [.ref a, .int x, .int (nI k), .int (nI n)] [] (flA σ a x k) (Rv (flA σ a x n)) by
    have := H 0 (Nat.zero_le _)
    rwa [flA_0] at this
  refine lp_nat (fun k hk ih => ?_)
  refine wp_iload_n d_Ja_fill_5 rfl ?_
  refine wp_iload_n d_Ja_fill_6 rfl ?_
  refine wp_icmp_ge (tgt := 20) d_Ja_fill_7 (by decide) (fun h1 => ?_) (fun h1 => ?_)
  · have hk2 : k = n := Nat.le_antisymm hk (nI_ge2 h1 (by omega) hn)
    subst hk2
    refine wp_vret d_Ja_fill_20 rfl ?_
    exact ⟨rfl, rfl⟩
  · have hk2 := nI_nge h1 (by omega) hn
    refine wp_aload_n d_Ja_fill_10 rfl ?_
    refine wp_iload_n d_Ja_fill_11 rfl ?_
    refine wp_iload_n d_Ja_fill_12 rfl ?_
    refine wp_iast d_Ja_fill_13 ha (vp_in_nI hk2 hn) ?_
    rw [nI_clamp (by omega), flA_s]
    refine wp_iinc2 d_Ja_fill_14 (hn_ii1 _) (by decide) rfl ?_
    refine wp_goto (tgt := 5) d_Ja_fill_17 (by decide) ?_
    rw [nI_1]
    exact ih hk2
