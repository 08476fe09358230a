/-! contracts: meaning, taken, as the reference has them -/
def fiP (S : Nat) (h : Nat → Nat) (i : Nat) : Bool := decide (S / 2 ^ i % 2 = 1) && (List.range i).all (fun j => decide (S / 2 ^ j % 2 = 0 ∨ h j ≠ h i))
def mgN (N S : Nat) (h : Nat → Nat) (m : Nat) : Nat := it (fun i v => 6 * v + (if fiP S h i = true then h (gN N m i) else 0)) N 0
theorem all_s {p : Nat → Bool} {j : Nat} : (List.range (j + 1)).all p = ((List.range j).all p && p j) := by
  rw [List.range_succ, List.all_append]
  simp
theorem c_M_meaning {m S N : Nat} {h : Nat → Nat} (hm : m < 2 ^ 31) (hS : S < 2 ^ 31) (σ : Hp) (hB : MB σ N) (hR : HR σ N h) (hlt : ∀ i, i < N → h i < 2 ^ 31) : Ct m_M_meaning [.ref 56, .int (nI m), .int (nI S)] σ (Rt (.int (nI (mgN N S h m))) σ) := by
  have h6 := hB.2.2
  show WP m_M_meaning 0 [.ref 56, .int (nI m), .int (nI S), .null, .null, .null, .null] [] σ _
  refine wp_iconst (v := 0) d_M_meaning_0 (by decide) ?_
  refine wp_istore3 d_M_meaning_1 (by decide) rfl ?_
  refine wp_iconst (v := 0) d_M_meaning_2 (by decide) ?_
  refine wp_istore4 d_M_meaning_3 (by decide) rfl ?_
  suffices H : ∀ i, i ≤ N → ∀ x5 x6 : Value, x5.category = 1 → WP m_M_meaning 5 [.ref 56, .int (nI m), .int (nI S), .int (nI (it (fun i v => 6 * v + (if fiP S h i = true then h (gN N m i) else 0)) i 0)), .int (nI i), x5, x6] [] σ (Rt (.int (nI (mgN N S h m))) σ) from H 0 (Nat.zero_le _) _ _ rfl
  refine lp_nat (fun i hi ih x5 x6 hx5 => ?_)
  refine wp_iload d_M_meaning_5 rfl ?_
  refine wp_aload_n d_M_meaning_7 rfl ?_
  refine wp_getI d_M_meaning_8 fl_M_7 rfl rfl (by decide) ?_
  refine wp_icmp_ge (tgt := 116) d_M_meaning_11 (by decide) (fun hc => ?_) (fun hc => ?_)
  · rw [hB.1] at hc
    obtain rfl := Nat.le_antisymm hi (nI_ge2 hc (by omega) (by omega))
    refine wp_iload_n d_M_meaning_116 rfl ?_
    refine wp_iret d_M_meaning_117 rfl ?_
    exact ⟨rfl, rfl⟩
  · rw [hB.1] at hc
    have hi2 := nI_nge hc (by omega) (by omega)
    have li := hlt i hi2
    obtain ⟨v, hv⟩ : ∃ v, v = it (fun i v => 6 * v + (if fiP S h i = true then h (gN N m i) else 0)) i 0 := ⟨_, rfl⟩
    have hnx : it (fun i v => 6 * v + (if fiP S h i = true then h (gN N m i) else 0)) (i + 1) 0 = 6 * v + (if fiP S h i = true then h (gN N m i) else 0) := by rw [hv]; rfl
    have ih := ih hi2
    rw [hnx] at ih
    rw [← hv]
    have fin : WP m_M_meaning 83 [.ref 56, .int (nI m), .int (nI S), .int (nI v), .int (nI i), .int (bz (fiP S h i = true)), .int (nI i)] [] σ (Rt (.int (nI (mgN N S h m))) σ) := by
      have fin2 : ∀ z, z = (if fiP S h i = true then h (gN N m i) else 0) → WP m_M_meaning 108 [.ref 56, .int (nI m), .int (nI S), .int (nI v), .int (nI i), .int (bz (fiP S h i = true)), .int (nI i)] [.int (nI z), .int (nI (6 * v))] σ (Rt (.int (nI (mgN N S h m))) σ) := by
        intro z hz
        refine wp_iadd d_M_meaning_108 ?_
        refine wp_istore3 d_M_meaning_109 (by decide) rfl ?_
        refine wp_iinc4 d_M_meaning_110 (hn_ii1 _) (by decide) rfl ?_
        refine wp_goto (tgt := 5) d_M_meaning_113 (by decide) ?_
        rw [nI_1, nI_add, hz]
        exact ih _ _ rfl
      refine wp_bipush (v := 6) d_M_meaning_83 (by decide) ?_
      refine wp_iload_n d_M_meaning_85 rfl ?_
      refine wp_imul d_M_meaning_86 ?_
      rw [show (6 : Int32) = nI 6 from rfl, pk_mul]
      refine wp_iload d_M_meaning_87 rfl ?_
      refine wp_if_eq (tgt := 107) d_M_meaning_89 (by decide) (fun hc2 => ?_) (fun hc2 => ?_)
      · rw [bz_0] at hc2
        refine wp_iconst (v := 0) d_M_meaning_107 (by decide) ?_
        exact fin2 0 (by rw [if_neg hc2])
      · have hc2 := bz_n0 hc2
        have g1 := gN_lt (N := N) (m := m) (i := i) hB.2.1
        refine wp_aload_n d_M_meaning_92 rfl ?_
        refine wp_getA d_M_meaning_93 fl_M_73 rfl rfl rfl ?_
        refine wp_aload_n d_M_meaning_96 rfl ?_
        refine wp_iload_n d_M_meaning_97 rfl ?_
        refine wp_iload d_M_meaning_98 rfl ?_
        refine wp_callV2e d_M_meaning_100 cv_M_96 rfl rfl rfl ⟨Nat.le_of_ble_eq_true rfl, Nat.le_of_ble_eq_true rfl⟩ (Nat.le_of_ble_eq_true rfl) (Nat.le_of_ble_eq_true rfl) (c_M_goes hm (by omega) _ hB) ?_
        refine wp_iald d_M_meaning_103 rfl ?_ ?_
        · exact vp_in_nI (n := gN N m i) (by omega) (by decide)
        rw [nI_clamp (show gN N m i < 2 ^ 31 by omega), hR _ g1]
        refine wp_goto (tgt := 108) d_M_meaning_104 (by decide) ?_
        exact fin2 _ (by rw [if_pos hc2])
    have lp : ∀ j, j ≤ i → ∀ b : Bool, b = (decide (S / 2 ^ i % 2 = 1) && (List.range j).all (fun j => decide (S / 2 ^ j % 2 = 0 ∨ h j ≠ h i))) → WP m_M_meaning 34 [.ref 56, .int (nI m), .int (nI S), .int (nI v), .int (nI i), .int (bz (b = true)), .int (nI j)] [] σ (Rt (.int (nI (mgN N S h m))) σ) := by
      refine lp_nat (fun j hj ihj b hb => ?_)
      refine wp_iload d_M_meaning_34 rfl ?_
      refine wp_iload d_M_meaning_36 rfl ?_
      refine wp_icmp_ge (tgt := 83) d_M_meaning_38 (by decide) (fun hc2 => ?_) (fun hc2 => ?_)
      · obtain rfl := Nat.le_antisymm hj (nI_ge2 hc2 (by omega) (by omega))
        have : fiP S h j = b := by rw [hb]; rfl
        rw [← this]
        exact fin
      · have hj2 := nI_nge hc2 (by omega) (by omega)
        have lj := hlt j (by omega)
        have good : decide (S / 2 ^ j % 2 = 0 ∨ h j ≠ h i) = true → WP m_M_meaning 69 [.ref 56, .int (nI m), .int (nI S), .int (nI v), .int (nI i), .int (bz (b = true)), .int (nI j)] [.int (bz (b = true))] σ (Rt (.int (nI (mgN N S h m))) σ) := by
          intro q
          refine wp_iconst (v := 1) d_M_meaning_69 (by decide) ?_
          refine wp_goto (tgt := 74) d_M_meaning_70 (by decide) ?_
          refine wp_iand d_M_meaning_74 ?_
          rw [bz_and1]
          refine wp_istore5 d_M_meaning_75 (by decide) rfl ?_
          refine wp_iinc6 d_M_meaning_77 (hn_ii1 _) (by decide) rfl ?_
          refine wp_goto (tgt := 34) d_M_meaning_80 (by decide) ?_
          rw [nI_1]
          exact ihj hj2 b (by rw [all_s, q, Bool.and_true]; exact hb)
        have hm2 := Nat.mod_lt (S / 2 ^ j) (show 0 < 2 by decide)
        refine wp_iload d_M_meaning_41 rfl ?_
        refine wp_iload_n d_M_meaning_43 rfl ?_
        refine wp_iload d_M_meaning_44 rfl ?_
        refine wp_ishr d_M_meaning_46 ?_
        refine wp_iconst (v := 1) d_M_meaning_47 (by decide) ?_
        refine wp_iand d_M_meaning_48 ?_
        rw [bt_nI hS (by omega)]
        refine wp_if_eq (tgt := 69) d_M_meaning_49 (by decide) (fun hc3 => ?_) (fun hc3 => ?_)
        · rw [show (0 : Int32) = nI 0 from rfl, nI_eq (by omega) (by omega)] at hc3
          exact good (decide_eq_true (Or.inl hc3))
        · rw [show (0 : Int32) = nI 0 from rfl, nI_eq (by omega) (by omega)] at hc3
          refine wp_aload_n d_M_meaning_52 rfl ?_
          refine wp_getA d_M_meaning_53 fl_M_73 rfl rfl rfl ?_
          refine wp_iload d_M_meaning_56 rfl ?_
          refine wp_iald d_M_meaning_58 rfl ?_ ?_
          · exact vp_in_nI (n := j) (by omega) (by decide)
          rw [nI_clamp (show j < 2 ^ 31 by omega), hR _ (by omega)]
          refine wp_aload_n d_M_meaning_59 rfl ?_
          refine wp_getA d_M_meaning_60 fl_M_73 rfl rfl rfl ?_
          refine wp_iload d_M_meaning_63 rfl ?_
          refine wp_iald d_M_meaning_65 rfl ?_ ?_
          · exact vp_in_nI (n := i) (by omega) (by decide)
          rw [nI_clamp (show i < 2 ^ 31 by omega), hR _ hi2]
          refine wp_icmp_eq (tgt := 73) d_M_meaning_66 (by decide) (fun hc5 => ?_) (fun hc5 => ?_)
          · rw [nI_eq lj li] at hc5
            refine wp_iconst (v := 0) d_M_meaning_73 (by decide) ?_
            refine wp_iand d_M_meaning_74 ?_
            rw [bz_and0]
            refine wp_istore5 d_M_meaning_75 (by decide) rfl ?_
            refine wp_iinc6 d_M_meaning_77 (hn_ii1 _) (by decide) rfl ?_
            refine wp_goto (tgt := 34) d_M_meaning_80 (by decide) ?_
            rw [nI_1]
            exact ihj hj2 false (by rw [all_s, show decide (S / 2 ^ j % 2 = 0 ∨ h j ≠ h i) = false from decide_eq_false (fun q => q.elim hc3 (fun q => q hc5)), Bool.and_false, Bool.and_false])
          · rw [nI_eq lj li] at hc5
            exact good (decide_eq_true (Or.inr hc5))
    refine wp_iload_n d_M_meaning_14 rfl ?_
    refine wp_iload d_M_meaning_15 rfl ?_
    refine wp_ishr d_M_meaning_17 ?_
    refine wp_iconst (v := 1) d_M_meaning_18 (by decide) ?_
    refine wp_iand d_M_meaning_19 ?_
    refine wp_iconst (v := 1) d_M_meaning_20 (by decide) ?_
    rw [bt_nI hS (by omega)]
    have hm2 := Nat.mod_lt (S / 2 ^ i) (show 0 < 2 by decide)
    refine wp_icmp_ne (tgt := 28) d_M_meaning_21 (by decide) (fun hc2 => ?_) (fun hc2 => ?_)
    · rw [show (1 : Int32) = nI 1 from rfl, nI_eq (by omega) (by omega)] at hc2
      refine wp_iconst (v := 0) d_M_meaning_28 (by decide) ?_
      refine wp_istore5 d_M_meaning_29 (by decide) rfl ?_
      refine wp_iconst (v := 0) d_M_meaning_31 (by decide) ?_
      refine wp_istore6 d_M_meaning_32 (by decide) rfl ?_
      exact lp 0 (Nat.zero_le _) false (by rw [decide_eq_false hc2]; rfl)
    · rw [show (1 : Int32) = nI 1 from rfl, nI_eq (by omega) (by omega)] at hc2
      refine wp_iconst (v := 1) d_M_meaning_24 (by decide) ?_
      refine wp_goto (tgt := 29) d_M_meaning_25 (by decide) ?_
      refine wp_istore5 d_M_meaning_29 (by decide) rfl ?_
      refine wp_iconst (v := 0) d_M_meaning_31 (by decide) ?_
      refine wp_istore6 d_M_meaning_32 (by decide) rfl ?_
      exact lp 0 (Nat.zero_le _) true (by rw [decide_eq_true hc2]; rfl)
/-! ways -/
/-- 1000000007, so written that it isn't counted out -/
def bigM (N : Nat) : Nat := 1000000007 + 0 * N
theorem bigM_eq (N : Nat) : bigM N = 1000000007 := by rw [bigM, Nat.zero_mul]
def wgS (N : Nat) (lm : Nat → Nat) (w : Nat → Nat) (i l : Nat) (g : Nat → Nat) : Nat → Nat := fun k => if k = gN N (lm l) i then g k + w i else g k
def wgI (N L : Nat) (lm : Nat → Nat) (w : Nat → Nat) (i : Nat) : Nat → Nat := it (fun i g => it (wgS N lm w i) L g) i (fun _ => 0)
def wayN (N L : Nat) (lm : Nat → Nat) (s t : Nat) : Nat → Nat := it (fun _ w => fun i => wgI N L lm w N i % bigM N) t (fun i => if i = s then 1 else 0)
theorem wgK_le {N : Nat} {lm : Nat → Nat} {w : Nat → Nat} {i B : Nat} (hw : w i ≤ B) {g : Nat → Nat} {C : Nat} (hg : ∀ k, g k ≤ C) : ∀ l k, it (wgS N lm w i) l g k ≤ C + l * B
  | 0, k => by rw [Nat.zero_mul, Nat.add_zero]; exact hg k
  | l + 1, k => by
    have ih := wgK_le (N := N) (lm := lm) hw hg l k
    show (if k = gN N (lm l) i then it (wgS N lm w i) l g k + w i else it (wgS N lm w i) l g k) ≤ _
    rw [Nat.succ_mul]
    split <;> omega
theorem wgI_le {N L : Nat} {lm : Nat → Nat} {w : Nat → Nat} {B : Nat} (hL : L ≤ 4) : ∀ i, (∀ k, k < i → w k ≤ B) → ∀ k, wgI N L lm w i k ≤ i * (4 * B)
  | 0, _, k => by rw [Nat.zero_mul]; exact Nat.le_refl _
  | i + 1, hw, k => by
    have ih := wgI_le (N := N) (lm := lm) hL i (fun k hk => hw k (by omega))
    have := wgK_le (N := N) (lm := lm) (hw i (by omega)) ih L k
    have h2 : L * B ≤ 4 * B := Nat.mul_le_mul_right B hL
    show it (wgS N lm w i) L (wgI N L lm w i) k ≤ _
    rw [Nat.succ_mul]
    omega
theorem wayN_lt {N L s : Nat} {lm : Nat → Nat} : ∀ t k, wayN N L lm s t k < 1000000007
  | 0, k => by
    show (if k = s then 1 else 0) < _
    split <;> decide
  | t + 1, k => by
    show wgI N L lm _ N k % bigM N < _
    rw [bigM_eq]
    exact Nat.mod_lt _ (by decide)
def tkN (e : Nat) (w : Nat → Nat) (K : Nat) : Nat := it (fun i v => v + (if e / 2 ^ i % 2 = 1 then w i else 0)) K 0
theorem tkN_le {e : Nat} {w : Nat → Nat} {B : Nat} (hw : ∀ k, w k ≤ B) : ∀ K, tkN e w K ≤ K * B
  | 0 => by rw [Nat.zero_mul]; exact Nat.le_refl _
  | K + 1 => by
    have ih := tkN_le (e := e) hw K
    have := hw K
    show tkN e w K + (if e / 2 ^ K % 2 = 1 then w K else 0) ≤ _
    rw [Nat.succ_mul]
    split <;> omega
def hS80 : List Nat := [79, 80]
theorem c_M_taken_no (t : Int32) (σ : Hp) (h : ¬ (0 ≤ t ∧ t ≤ 40)) : Ct m_M_taken [.ref 56, .int t] σ (Rt (.int (-1)) (Th σ)) := by
  show WP m_M_taken 0 [.ref 56, .int t, .null, .null, .null] [] σ _
  refine wp_aload_n d_M_taken_0 rfl ?_
  refine wp_iconst (v := 0) d_M_taken_1 (by decide) ?_
  refine wp_putI d_M_taken_2 fp_M_89 rfl rfl (by decide) rfl rfl ?_
  show WP m_M_taken 5 _ _ (Th σ) _
  refine wp_iload_n d_M_taken_5 rfl ?_
  refine wp_iconst (v := 0) d_M_taken_6 (by decide) ?_
  refine wp_bipush (v := 40) d_M_taken_7 (by decide) ?_
  refine wp_callS3e d_M_taken_9 cs_M_100 ⟨Nat.le_of_ble_eq_true rfl, Nat.le_of_ble_eq_true rfl⟩ (Nat.le_of_ble_eq_true rfl) (Nat.le_of_ble_eq_true rfl) (c_M_in _ _ _ _) ?_
  refine wp_if_ne (tgt := 17) d_M_taken_12 (by decide) (fun hc => ?_) (fun hc => ?_)
  · exact absurd (bz_n0 hc) h
  · refine wp_iconst (v := -1) d_M_taken_15 (by decide) ?_
    refine wp_iret d_M_taken_16 rfl ?_
    exact ⟨rfl, rfl⟩
theorem c_M_taken {t s e N L : Nat} {lm : Nat → Nat} (ht : t ≤ 40) (σ : Hp) (hB : MB σ N) (hL : LT σ N L lm) (hs : s < N) (h4 : σ.1 56 4 = nI s) (he : e < 2 ^ N) (h5 : σ.1 56 5 = nI e) : Ct m_M_taken [.ref 56, .int (nI t)] σ (fun w τ => w = some (.int (nI (tkN e (wayN N L lm s t) N % 1000000007))) ∧ Fp hS80 (Th σ) τ) := by
  have hB := hB.th
  have hL := hL.th
  have h4 : (Th σ).1 56 4 = nI s := (Th_0 (by decide)).trans h4
  have h5 : (Th σ).1 56 5 = nI e := (Th_0 (by decide)).trans h5
  have h6 := hB.2.2
  have hp6 := pow6 h6
  have h2 := pow2_le6 h6
  have hL4 := hL.2.1
  show WP m_M_taken 0 [.ref 56, .int (nI t), .null, .null, .null] [] σ _
  have last : ∀ (τ : Hp) (x2 x3 x4 : Value), x3.category = 1 → Fp hS80 (Th σ) τ → (∀ j, j < N → τ.2 79 j = lN (wayN N L lm s t j)) → WP m_M_taken 180 [.ref 56, .int (nI t), x2, x3, x4] [] τ (fun w τ => w = some (.int (nI (tkN e (wayN N L lm s t) N % 1000000007))) ∧ Fp hS80 (Th σ) τ) := by
    intro τ x2 x3 x4 hx3 hF hv
    have hB1 := hF.MB (by decide) hB
    refine wp_lconst (v := 0) d_M_taken_180 (by decide) ?_
    refine wp_lstore2 d_M_taken_181 (by decide) rfl ?_
    refine wp_iconst (v := 0) d_M_taken_182 (by decide) ?_
    refine wp_istore4 d_M_taken_183 (by decide) rfl ?_
    suffices H : ∀ i, i ≤ N → WP m_M_taken 185 [.ref 56, .int (nI t), .long (lN (tkN e (wayN N L lm s t) i)), .null, .int (nI i)] [] τ (fun w τ => w = some (.int (nI (tkN e (wayN N L lm s t) N % 1000000007))) ∧ Fp hS80 (Th σ) τ) from H 0 (Nat.zero_le _)
    refine lp_nat (fun i hi ih => ?_)
    refine wp_iload d_M_taken_185 rfl ?_
    refine wp_aload_n d_M_taken_187 rfl ?_
    refine wp_getI d_M_taken_188 fl_M_7 rfl rfl (by decide) ?_
    refine wp_icmp_ge (tgt := 227) d_M_taken_191 (by decide) (fun hc => ?_) (fun hc => ?_)
    · rw [hB1.1] at hc
      obtain rfl := Nat.le_antisymm hi (nI_ge2 hc (by omega) (by omega))
      have hle := tkN_le (e := e) (w := wayN i L lm s t) (B := 1000000007) (fun k => Nat.le_of_lt (wayN_lt t k)) i
      have : i * 1000000007 ≤ 6 * 1000000007 := Nat.mul_le_mul_right _ h6
      refine wp_lload_n d_M_taken_227 rfl ?_
      refine wp_ldc2 d_M_taken_228 kc_M_214 ?_
      refine wp_lrem d_M_taken_231 ?_ ?_
      · decide
      rw [show (1000000007 : Int64) = lN 1000000007 from rfl, pk_lRem (by omega) (by decide) (by decide)]
      refine wp_l2i d_M_taken_232 ?_
      refine wp_iret d_M_taken_233 rfl ?_
      rw [lN_i]
      exact ⟨rfl, hF⟩
    · rw [hB1.1] at hc
      have hi2 := nI_nge hc (by omega) (by omega)
      have fin : ∀ z, z = (if e / 2 ^ i % 2 = 1 then wayN N L lm s t i else 0) → WP m_M_taken 219 [.ref 56, .int (nI t), .long (lN (tkN e (wayN N L lm s t) i)), .null, .int (nI i)] [.long (lN z), .long (lN (tkN e (wayN N L lm s t) i))] τ (fun w τ => w = some (.int (nI (tkN e (wayN N L lm s t) N % 1000000007))) ∧ Fp hS80 (Th σ) τ) := by
        intro z hz
        refine wp_ladd d_M_taken_219 ?_
        refine wp_lstore2 d_M_taken_220 (by decide) rfl ?_
        refine wp_iinc4 d_M_taken_221 (hn_ii1 _) (by decide) rfl ?_
        refine wp_goto (tgt := 185) d_M_taken_224 (by decide) ?_
        rw [nI_1, lN_add, hz]
        exact ih hi2
      refine wp_lload_n d_M_taken_194 rfl ?_
      refine wp_aload_n d_M_taken_195 rfl ?_
      refine wp_getI d_M_taken_196 fl_M_110 rfl rfl (by decide) ?_
      refine wp_iload d_M_taken_199 rfl ?_
      refine wp_ishr d_M_taken_201 ?_
      refine wp_iconst (v := 1) d_M_taken_202 (by decide) ?_
      refine wp_iand d_M_taken_203 ?_
      rw [show τ.1 56 5 = nI e by rw [(hF 56 (by decide)).1]; exact h5, bt_nI (by omega) (by omega)]
      have hm2 := Nat.mod_lt (e / 2 ^ i) (show 0 < 2 by decide)
      refine wp_iconst (v := 1) d_M_taken_204 (by decide) ?_
      refine wp_icmp_ne (tgt := 218) d_M_taken_205 (by decide) (fun hc2 => ?_) (fun hc2 => ?_)
      · rw [show (1 : Int32) = nI 1 from rfl, nI_eq (by omega) (by omega)] at hc2
        refine wp_lconst (v := 0) d_M_taken_218 (by decide) ?_
        exact fin 0 (by rw [if_neg hc2])
      · rw [show (1 : Int32) = nI 1 from rfl, nI_eq (by omega) (by omega)] at hc2
        refine wp_aload_n d_M_taken_208 rfl ?_
        refine wp_getA d_M_taken_209 fl_M_82 rfl rfl rfl ?_
        refine wp_iload d_M_taken_212 rfl ?_
        refine wp_lald d_M_taken_214 rfl ?_ ?_
        · exact vp_in_nI (n := i) (by omega) (by decide)
        rw [nI_clamp (show i < 2 ^ 31 by omega), hv i hi2]
        refine wp_goto (tgt := 219) d_M_taken_215 (by decide) ?_
        exact fin _ (by rw [if_pos hc2])
  have rounds : ∀ k, k ≤ t → ∀ (τ : Hp) (x3 x4 : Value), x3.category = 1 → Fp hS80 (Th σ) τ → (∀ j, j < N → τ.2 79 j = lN (wayN N L lm s k j)) → WP m_M_taken 54 [.ref 56, .int (nI t), .int (nI k), x3, x4] [] τ (fun w τ => w = some (.int (nI (tkN e (wayN N L lm s t) N % 1000000007))) ∧ Fp hS80 (Th σ) τ) := by
    refine lp_nat (fun k hk ihk τ x3 x4 hx3 hF hv => ?_)
    refine wp_iload_n d_M_taken_54 rfl ?_
    refine wp_iload_n d_M_taken_55 rfl ?_
    refine wp_icmp_ge (tgt := 180) d_M_taken_56 (by decide) (fun hc => ?_) (fun hc => ?_)
    · obtain rfl := Nat.le_antisymm hk (nI_ge2 hc (by omega) (by omega))
      exact last τ _ _ _ hx3 hF hv
    · have hk2 := nI_nge hc (by omega) (by omega)
      obtain ⟨w, hw⟩ : ∃ w, w = wayN N L lm s k := ⟨_, rfl⟩
      have hwlt : ∀ j, w j < 1000000007 := fun j => by rw [hw]; exact wayN_lt k j
      have hnx : ∀ j, wayN N L lm s (k + 1) j = wgI N L lm w N j % 1000000007 := fun j => by
        rw [hw, ← bigM_eq N]; rfl
      rw [← hw] at hv
      refine wp_iconst (v := 0) d_M_taken_59 (by decide) ?_
      refine wp_istore3 d_M_taken_60 (by decide) rfl ?_
      suffices H : ∀ i, i ≤ N → ∀ (τ : Hp), Fp hS80 (Th σ) τ → (∀ j, j < N → τ.2 79 j = lN (w j)) → (∀ j, j < i → τ.2 80 j = 0) → WP m_M_taken 61 [.ref 56, .int (nI t), .int (nI k), .int (nI i), x4] [] τ (fun w τ => w = some (.int (nI (tkN e (wayN N L lm s t) N % 1000000007))) ∧ Fp hS80 (Th σ) τ) from H 0 (Nat.zero_le _) τ hF hv (fun j hj => absurd hj (Nat.not_lt_zero j))
      clear hv hF τ
      refine lp_nat (fun i hi ihi τ hF hv h0 => ?_)
      have hB1 := hF.MB (by decide) hB
      refine wp_iload_n d_M_taken_61 rfl ?_
      refine wp_aload_n d_M_taken_62 rfl ?_
      refine wp_getI d_M_taken_63 fl_M_7 rfl rfl (by decide) ?_
      refine wp_icmp_ge (tgt := 82) d_M_taken_66 (by decide) (fun hc2 => ?_) (fun hc2 => ?_)
      · rw [hB1.1] at hc2
        obtain rfl := Nat.le_antisymm hi (nI_ge2 hc2 (by omega) (by omega))
        refine wp_iconst (v := 0) d_M_taken_82 (by decide) ?_
        refine wp_istore3 d_M_taken_83 (by decide) rfl ?_
        suffices H : ∀ a, a ≤ i → ∀ (τ : Hp) (x4 : Value), Fp hS80 (Th σ) τ → (∀ j, j < i → τ.2 79 j = lN (w j)) → (∀ j, j < i → τ.2 80 j = lN (wgI i L lm w a j)) → WP m_M_taken 84 [.ref 56, .int (nI t), .int (nI k), .int (nI a), x4] [] τ (fun w τ => w = some (.int (nI (tkN e (wayN i L lm s t) i % 1000000007))) ∧ Fp hS80 (Th σ) τ) from H 0 (Nat.zero_le _) τ _ hF hv h0
        clear h0 hv hF hB1 τ
        refine lp_nat (fun a ha iha τ x4 hF hv hg => ?_)
        have hB1 := hF.MB (by decide) hB
        refine wp_iload_n d_M_taken_84 rfl ?_
        refine wp_aload_n d_M_taken_85 rfl ?_
        refine wp_getI d_M_taken_86 fl_M_7 rfl rfl (by decide) ?_
        refine wp_icmp_ge (tgt := 142) d_M_taken_89 (by decide) (fun hc3 => ?_) (fun hc3 => ?_)
        · rw [hB1.1] at hc3
          obtain rfl := Nat.le_antisymm ha (nI_ge2 hc3 (by omega) (by omega))
          refine wp_iconst (v := 0) d_M_taken_142 (by decide) ?_
          refine wp_istore3 d_M_taken_143 (by decide) rfl ?_
          suffices H : ∀ b, b ≤ a → ∀ (τ : Hp), Fp hS80 (Th σ) τ → (∀ j, j < a → τ.2 80 j = lN (wgI a L lm w a j)) → (∀ j, j < b → τ.2 79 j = lN (wayN a L lm s (k + 1) j)) → WP m_M_taken 144 [.ref 56, .int (nI t), .int (nI k), .int (nI b), x4] [] τ (fun w τ => w = some (.int (nI (tkN e (wayN a L lm s t) a % 1000000007))) ∧ Fp hS80 (Th σ) τ) from H 0 (Nat.zero_le _) τ hF hg (fun j hj => absurd hj (Nat.not_lt_zero j))
          clear hg hv hF hB1 τ
          refine lp_nat (fun b hb ihb τ hF hg hn => ?_)
          have hB1 := hF.MB (by decide) hB
          refine wp_iload_n d_M_taken_144 rfl ?_
          refine wp_aload_n d_M_taken_145 rfl ?_
          refine wp_getI d_M_taken_146 fl_M_7 rfl rfl (by decide) ?_
          refine wp_icmp_ge (tgt := 174) d_M_taken_149 (by decide) (fun hc5 => ?_) (fun hc5 => ?_)
          · rw [hB1.1] at hc5
            obtain rfl := Nat.le_antisymm hb (nI_ge2 hc5 (by omega) (by omega))
            refine wp_iinc2 d_M_taken_174 (hn_ii1 _) (by decide) rfl ?_
            refine wp_goto (tgt := 54) d_M_taken_177 (by decide) ?_
            rw [nI_1]
            exact ihk hk2 τ _ _ rfl hF hn
          · rw [hB1.1] at hc5
            have hb2 := nI_nge hc5 (by omega) (by omega)
            have hle := wgI_le (N := a) (L := L) (lm := lm) (w := w) (B := 1000000007) hL4 a (fun j _ => Nat.le_of_lt (hwlt j)) b
            have : a * (4 * 1000000007) ≤ 6 * (4 * 1000000007) := Nat.mul_le_mul_right _ h6
            refine wp_aload_n d_M_taken_152 rfl ?_
            refine wp_getA d_M_taken_153 fl_M_82 rfl rfl rfl ?_
            refine wp_iload_n d_M_taken_156 rfl ?_
            refine wp_aload_n d_M_taken_157 rfl ?_
            refine wp_getA d_M_taken_158 fl_M_86 rfl rfl rfl ?_
            refine wp_iload_n d_M_taken_161 rfl ?_
            refine wp_lald d_M_taken_162 rfl ?_ ?_
            · exact vp_in_nI (n := b) (by omega) (by decide)
            rw [nI_clamp (show b < 2 ^ 31 by omega), hg b hb2]
            refine wp_ldc2 d_M_taken_163 kc_M_214 ?_
            refine wp_lrem d_M_taken_166 ?_ ?_
            · decide
            rw [show (1000000007 : Int64) = lN 1000000007 from rfl, pk_lRem (by omega) (by decide) (by decide)]
            refine wp_last d_M_taken_167 rfl ?_ ?_
            · exact vp_in_nI (n := b) (by omega) (by decide)
            rw [nI_clamp (show b < 2 ^ 31 by omega)]
            refine wp_iinc3 d_M_taken_168 (hn_ii1 _) (by decide) rfl ?_
            refine wp_goto (tgt := 144) d_M_taken_171 (by decide) ?_
            rw [nI_1]
            refine ihb hb2 _ (hF.wL (by decide)) (fun j hj => by rw [wL_ne (by decide)]; exact hg j hj) (fun j hj => ?_)
            rw [wL_eq]
            by_cases q : j = b
            · rw [q, pk_uLs, hnx]
            · rw [pk_uLn q]; exact hn j (by omega)
        · rw [hB1.1] at hc3
          have ha2 := nI_nge hc3 (by omega) (by omega)
          refine wp_iconst (v := 0) d_M_taken_92 (by decide) ?_
          refine wp_istore4 d_M_taken_93 (by decide) rfl ?_
          obtain ⟨g0, hg0⟩ : ∃ g, g = wgI i L lm w a := ⟨_, rfl⟩
          rw [← hg0] at hg
          suffices H : ∀ l, l ≤ L → ∀ (τ : Hp), Fp hS80 (Th σ) τ → (∀ j, j < i → τ.2 79 j = lN (w j)) → (∀ j, j < i → τ.2 80 j = lN (it (wgS i lm w a) l g0 j)) → WP m_M_taken 95 [.ref 56, .int (nI t), .int (nI k), .int (nI a), .int (nI l)] [] τ (fun w τ => w = some (.int (nI (tkN e (wayN i L lm s t) i % 1000000007))) ∧ Fp hS80 (Th σ) τ) from H 0 (Nat.zero_le _) τ hF hv hg
          clear hg hv hF hB1 τ
          refine lp_nat (fun l hl ihl τ hF hv hg => ?_)
          have hB1 := hF.MB (by decide) hB
          have hL1 := hF.LT (by decide) (by decide) hL
          refine wp_iload d_M_taken_95 rfl ?_
          refine wp_aload_n d_M_taken_97 rfl ?_
          refine wp_getI d_M_taken_98 fl_M_104 rfl rfl (by decide) ?_
          refine wp_icmp_ge (tgt := 136) d_M_taken_101 (by decide) (fun hc5 => ?_) (fun hc5 => ?_)
          · rw [hL1.1] at hc5
            obtain rfl := Nat.le_antisymm hl (nI_ge2 hc5 (by omega) (by omega))
            refine wp_iinc3 d_M_taken_136 (hn_ii1 _) (by decide) rfl ?_
            refine wp_goto (tgt := 84) d_M_taken_139 (by decide) ?_
            rw [nI_1]
            exact iha ha2 τ _ hF hv (fun j hj => by rw [hg j hj, hg0]; rfl)
          · rw [hL1.1] at hc5
            have hl2 := nI_nge hc5 (by omega) (by omega)
            obtain ⟨l1, l2⟩ := hL1.2.2 l hl2
            have g1 := gN_lt (N := i) (m := lm l) (i := a) hB.2.1
            refine wp_aload_n d_M_taken_104 rfl ?_
            refine wp_getA d_M_taken_105 fl_M_86 rfl rfl rfl ?_
            refine wp_aload_n d_M_taken_108 rfl ?_
            refine wp_aload_n d_M_taken_109 rfl ?_
            refine wp_getA d_M_taken_110 fl_M_13 rfl rfl rfl ?_
            refine wp_iload d_M_taken_113 rfl ?_
            refine wp_iald d_M_taken_115 rfl ?_ ?_
            · exact vp_in_nI (n := l) (by omega) (by decide)
            rw [nI_clamp (show l < 2 ^ 31 by omega), l1]
            refine wp_iload_n d_M_taken_116 rfl ?_
            refine wp_callV2e d_M_taken_117 cv_M_96 rfl rfl rfl ⟨Nat.le_of_ble_eq_true rfl, Nat.le_of_ble_eq_true rfl⟩ (Nat.le_of_ble_eq_true rfl) (Nat.le_of_ble_eq_true rfl) (c_M_goes (by omega) (by omega) _ hB1) ?_
            refine wp_dup2 d_M_taken_120 rfl rfl ?_
            refine wp_lald d_M_taken_121 rfl ?_ ?_
            · exact vp_in_nI (n := gN i (lm l) a) (by omega) (by decide)
            rw [nI_clamp (show gN i (lm l) a < 2 ^ 31 by omega), hg _ g1]
            refine wp_aload_n d_M_taken_122 rfl ?_
            refine wp_getA d_M_taken_123 fl_M_82 rfl rfl rfl ?_
            refine wp_iload_n d_M_taken_126 rfl ?_
            refine wp_lald d_M_taken_127 rfl ?_ ?_
            · exact vp_in_nI (n := a) (by omega) (by decide)
            rw [nI_clamp (show a < 2 ^ 31 by omega), hv a ha2]
            refine wp_ladd d_M_taken_128 ?_
            refine wp_last d_M_taken_129 rfl ?_ ?_
            · exact vp_in_nI (n := gN i (lm l) a) (by omega) (by decide)
            rw [nI_clamp (show gN i (lm l) a < 2 ^ 31 by omega), lN_add]
            refine wp_iinc4 d_M_taken_130 (hn_ii1 _) (by decide) rfl ?_
            refine wp_goto (tgt := 95) d_M_taken_133 (by decide) ?_
            rw [nI_1]
            refine ihl hl2 _ (hF.wL (by decide)) (fun j hj => by rw [wL_ne (by decide)]; exact hv j hj) (fun j hj => ?_)
            rw [wL_eq]
            show _ = lN (if j = gN i (lm l) a then _ else _)
            by_cases q : j = gN i (lm l) a
            · rw [if_pos q, q, pk_uLs]
            · rw [if_neg q, pk_uLn q]; exact hg j hj
      · rw [hB1.1] at hc2
        have hi2 := nI_nge hc2 (by omega) (by omega)
        refine wp_aload_n d_M_taken_69 rfl ?_
        refine wp_getA d_M_taken_70 fl_M_86 rfl rfl rfl ?_
        refine wp_iload_n d_M_taken_73 rfl ?_
        refine wp_lconst (v := 0) d_M_taken_74 (by decide) ?_
        refine wp_last d_M_taken_75 rfl ?_ ?_
        · exact vp_in_nI (n := i) (by omega) (by decide)
        rw [nI_clamp (show i < 2 ^ 31 by omega)]
        refine wp_iinc3 d_M_taken_76 (hn_ii1 _) (by decide) rfl ?_
        refine wp_goto (tgt := 61) d_M_taken_79 (by decide) ?_
        rw [nI_1]
        refine ihi hi2 _ (hF.wL (by decide)) (fun j hj => by rw [wL_ne (by decide)]; exact hv j hj) (fun j hj => ?_)
        rw [wL_eq]
        by_cases q : j = i
        · rw [q, pk_uLs]
        · rw [pk_uLn q]; exact h0 j (by omega)
  refine wp_aload_n d_M_taken_0 rfl ?_
  refine wp_iconst (v := 0) d_M_taken_1 (by decide) ?_
  refine wp_putI d_M_taken_2 fp_M_89 rfl rfl (by decide) rfl rfl ?_
  show WP m_M_taken 5 _ _ (Th σ) _
  refine wp_iload_n d_M_taken_5 rfl ?_
  refine wp_iconst (v := 0) d_M_taken_6 (by decide) ?_
  refine wp_bipush (v := 40) d_M_taken_7 (by decide) ?_
  refine wp_callS3e d_M_taken_9 cs_M_100 ⟨Nat.le_of_ble_eq_true rfl, Nat.le_of_ble_eq_true rfl⟩ (Nat.le_of_ble_eq_true rfl) (Nat.le_of_ble_eq_true rfl) (c_M_in _ _ _ _) ?_
  refine wp_if_ne (tgt := 17) d_M_taken_12 (by decide) (fun hc => ?_) (fun hc => ?_)
  · refine wp_iconst (v := 0) d_M_taken_17 (by decide) ?_
    refine wp_istore2 d_M_taken_18 (by decide) rfl ?_
    suffices H : ∀ i, i ≤ N → ∀ τ, Fp hS80 (Th σ) τ → (∀ j, j < i → τ.2 79 j = lN (if j = s then 1 else 0)) → WP m_M_taken 19 [.ref 56, .int (nI t), .int (nI i), .null, .null] [] τ (fun w τ => w = some (.int (nI (tkN e (wayN N L lm s t) N % 1000000007))) ∧ Fp hS80 (Th σ) τ) from H 0 (Nat.zero_le _) _ Fp.rf (fun j hj => absurd hj (Nat.not_lt_zero j))
    refine lp_nat (fun i hi ih τ hF hv => ?_)
    have hB1 := hF.MB (by decide) hB
    refine wp_iload_n d_M_taken_19 rfl ?_
    refine wp_aload_n d_M_taken_20 rfl ?_
    refine wp_getI d_M_taken_21 fl_M_7 rfl rfl (by decide) ?_
    refine wp_icmp_ge (tgt := 52) d_M_taken_24 (by decide) (fun hc2 => ?_) (fun hc2 => ?_)
    · rw [hB1.1] at hc2
      obtain rfl := Nat.le_antisymm hi (nI_ge2 hc2 (by omega) (by omega))
      refine wp_iconst (v := 0) d_M_taken_52 (by decide) ?_
      refine wp_istore2 d_M_taken_53 (by decide) rfl ?_
      exact rounds 0 (Nat.zero_le _) τ _ _ rfl hF hv
    · rw [hB1.1] at hc2
      have hi2 := nI_nge hc2 (by omega) (by omega)
      have fin : ∀ z, z = (if i = s then 1 else 0) → WP m_M_taken 45 [.ref 56, .int (nI t), .int (nI i), .null, .null] [.long (lN z), .int (nI i), .ref 79] τ (fun w τ => w = some (.int (nI (tkN e (wayN N L lm s t) N % 1000000007))) ∧ Fp hS80 (Th σ) τ) := by
        intro z hz
        refine wp_last d_M_taken_45 rfl ?_ ?_
        · exact vp_in_nI (n := i) (by omega) (by decide)
        rw [nI_clamp (show i < 2 ^ 31 by omega)]
        refine wp_iinc2 d_M_taken_46 (hn_ii1 _) (by decide) rfl ?_
        refine wp_goto (tgt := 19) d_M_taken_49 (by decide) ?_
        rw [nI_1]
        refine ih hi2 _ (hF.wL (by decide)) (fun j hj => ?_)
        rw [wL_eq]
        by_cases q : j = i
        · rw [q, pk_uLs, hz]
        · rw [pk_uLn q]; exact hv j (by omega)
      refine wp_aload_n d_M_taken_27 rfl ?_
      refine wp_getA d_M_taken_28 fl_M_82 rfl rfl rfl ?_
      refine wp_iload_n d_M_taken_31 rfl ?_
      refine wp_iload_n d_M_taken_32 rfl ?_
      refine wp_aload_n d_M_taken_33 rfl ?_
      refine wp_getI d_M_taken_34 fl_M_107 rfl rfl (by decide) ?_
      refine wp_icmp_ne (tgt := 44) d_M_taken_37 (by decide) (fun hc3 => ?_) (fun hc3 => ?_)
      · rw [show τ.1 56 4 = nI s by rw [(hF 56 (by decide)).1]; exact h4, nI_eq (by omega) (by omega)] at hc3
        refine wp_lconst (v := 0) d_M_taken_44 (by decide) ?_
        exact fin 0 (by rw [if_neg hc3])
      · rw [show τ.1 56 4 = nI s by rw [(hF 56 (by decide)).1]; exact h4, nI_eq (by omega) (by omega)] at hc3
        refine wp_lconst (v := 1) d_M_taken_40 (by decide) ?_
        refine wp_goto (tgt := 45) d_M_taken_41 (by decide) ?_
        exact fin 1 (by rw [if_pos hc3])
  · exact absurd ⟨nI_pos' (by omega), nI_le (b := 40) ht (by decide)⟩ (bz_0.mp hc)
