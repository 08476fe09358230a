/-! contracts: the reference, sets of points, walks -/
theorem or_nI (a b : Nat) : nI a ||| nI b = nI (a ||| b) := by
  apply Int32.toBitVec_inj.mp
  show BitVec.ofNat 32 a ||| BitVec.ofNat 32 b = BitVec.ofNat 32 (a ||| b)
  rw [BitVec.ofNat_or]
theorem sh_nI {g : Nat} (h : g ≤ 6) : (1 : Int32) <<< (nI g &&& 31) = nI (2 ^ g) := by
  rcases (show g = 0 ∨ g = 1 ∨ g = 2 ∨ g = 3 ∨ g = 4 ∨ g = 5 ∨ g = 6 by omega) with rfl | rfl | rfl | rfl | rfl | rfl | rfl <;> decide
theorem bt_nI {S i : Nat} (hS : S < 2 ^ 31) (h : i ≤ 6) : (nI S >>> (nI i &&& 31)) &&& 1 = nI (S / 2 ^ i % 2) := by
  have e : nI S >>> (nI i &&& 31) = nI (S / 2 ^ i) := by
    rcases (show i = 0 ∨ i = 1 ∨ i = 2 ∨ i = 3 ∨ i = 4 ∨ i = 5 ∨ i = 6 by omega) with rfl | rfl | rfl | rfl | rfl | rfl | rfl <;> exact pk_shrN hS _ _ (by decide)
  rw [e]
  exact pk_andN (Nat.lt_of_le_of_lt (Nat.div_le_self _ _) (by omega)) 1 (by decide)
def pcN (S : Nat) : Nat := it (fun i v => v + S / 2 ^ i % 2) 6 0
theorem c_M_ones {S : Nat} (hS : S < 2 ^ 31) (σ : Hp) : Ct m_M_ones [.int (nI S)] σ (Rt (.int (nI (pcN S))) σ) := by
  show WP m_M_ones 0 [.int (nI S), .null, .null] [] σ _
  refine wp_iconst (v := 0) d_M_ones_0 (by decide) ?_
  refine wp_istore1 d_M_ones_1 (by decide) rfl ?_
  refine wp_iconst (v := 0) d_M_ones_2 (by decide) ?_
  refine wp_istore2 d_M_ones_3 (by decide) rfl ?_
  suffices H : ∀ j, j ≤ 6 → WP m_M_ones 4 [.int (nI S), .int (nI (it (fun i v => v + S / 2 ^ i % 2) j 0)), .int (nI j)] [] σ (Rt (.int (nI (pcN S))) σ) from H 0 (Nat.zero_le _)
  refine lp_nat (fun j hj ih => ?_)
  refine wp_iload_n d_M_ones_4 rfl ?_
  refine wp_bipush (v := 6) d_M_ones_5 (by decide) ?_
  refine wp_icmp_ge (tgt := 24) d_M_ones_7 (by decide) (fun hc => ?_) (fun hc => ?_)
  · obtain rfl := Nat.le_antisymm hj (nI_ge2 (b := 6) hc (by omega) (by omega))
    refine wp_iload_n d_M_ones_24 rfl ?_
    refine wp_iret d_M_ones_25 rfl ?_
    exact ⟨rfl, rfl⟩
  · have hj2 := nI_nge (b := 6) hc (by omega) (by omega)
    refine wp_iload_n d_M_ones_10 rfl ?_
    refine wp_iload_n d_M_ones_11 rfl ?_
    refine wp_iload_n d_M_ones_12 rfl ?_
    refine wp_ishr d_M_ones_13 ?_
    refine wp_iconst (v := 1) d_M_ones_14 (by decide) ?_
    refine wp_iand d_M_ones_15 ?_
    refine wp_iadd d_M_ones_16 ?_
    refine wp_istore1 d_M_ones_17 (by decide) rfl ?_
    refine wp_iinc2 d_M_ones_18 (hn_ii1 _) (by decide) rfl ?_
    refine wp_goto (tgt := 4) d_M_ones_21 (by decide) ?_
    rw [nI_1, bt_nI hS (by omega), nI_add]
    exact ih hj2
theorem pcN_le (S : Nat) : pcN S ≤ 6 := by
  have key : ∀ j, it (fun i v => v + S / 2 ^ i % 2) j 0 ≤ j := by
    intro j
    induction j with
    | zero => exact Nat.le_refl _
    | succ j ih =>
      show it (fun i v => v + S / 2 ^ i % 2) j 0 + S / 2 ^ j % 2 ≤ j + 1
      have := Nat.mod_lt (S / 2 ^ j) (show 0 < 2 by decide)
      omega
  exact key 6
def rsN (N m : Nat) : Nat := it (fun i s => s ||| 2 ^ gN N m i) N 0
theorem it_or_lt {f : Nat → Nat} {K : Nat} (h : ∀ i, i < K → f i < 2 ^ K) : ∀ j, j ≤ K → it (fun i s => s ||| f i) j 0 < 2 ^ K
  | 0, _ => Nat.two_pow_pos K
  | j + 1, hj => Nat.or_lt_two_pow (it_or_lt h j (by omega)) (h j (by omega))
theorem pow2_lt {a b : Nat} (h : a < b) : 2 ^ a < 2 ^ b := Nat.pow_lt_pow_right (by decide) h
theorem pow2_le6 {N : Nat} (h : N ≤ 6) : 2 ^ N ≤ 64 := Nat.le_trans (Nat.pow_le_pow_right (by decide) h) (by decide)
theorem c_M_rankOf {m N : Nat} (hm : m < 2 ^ 31) (σ : Hp) (hB : MB σ N) : Ct m_M_rankOf [.ref 56, .int (nI m)] σ (Rt (.int (nI (pcN (rsN N m)))) σ) := by
  have h6 := hB.2.2
  show WP m_M_rankOf 0 [.ref 56, .int (nI m), .null, .null] [] σ _
  refine wp_iconst (v := 0) d_M_rankOf_0 (by decide) ?_
  refine wp_istore2 d_M_rankOf_1 (by decide) rfl ?_
  refine wp_iconst (v := 0) d_M_rankOf_2 (by decide) ?_
  refine wp_istore3 d_M_rankOf_3 (by decide) rfl ?_
  suffices H : ∀ j, j ≤ N → WP m_M_rankOf 4 [.ref 56, .int (nI m), .int (nI (it (fun i s => s ||| 2 ^ gN N m i) j 0)), .int (nI j)] [] σ (Rt (.int (nI (pcN (rsN N m)))) σ) from H 0 (Nat.zero_le _)
  refine lp_nat (fun j hj ih => ?_)
  refine wp_iload_n d_M_rankOf_4 rfl ?_
  refine wp_aload_n d_M_rankOf_5 rfl ?_
  refine wp_getI d_M_rankOf_6 fl_M_7 rfl rfl (by decide) ?_
  refine wp_icmp_ge (tgt := 29) d_M_rankOf_9 (by decide) (fun hc => ?_) (fun hc => ?_)
  · rw [hB.1] at hc
    obtain rfl := Nat.le_antisymm hj (nI_ge2 hc (by omega) (by omega))
    refine wp_iload_n d_M_rankOf_29 rfl ?_
    have hlt : it (fun i s => s ||| 2 ^ gN j m i) j 0 < 2 ^ j := it_or_lt (fun i _ => pow2_lt (gN_lt hB.2.1)) j (Nat.le_refl _)
    have := pow2_le6 h6
    refine wp_callS1e d_M_rankOf_30 cs_M_155 ⟨Nat.le_of_ble_eq_true rfl, Nat.le_of_ble_eq_true rfl⟩ (Nat.le_of_ble_eq_true rfl) (Nat.le_of_ble_eq_true rfl) (c_M_ones (by omega) _) ?_
    refine wp_iret d_M_rankOf_33 rfl ?_
    exact ⟨rfl, rfl⟩
  · rw [hB.1] at hc
    have hj2 := nI_nge hc (by omega) (by omega)
    refine wp_iload_n d_M_rankOf_12 rfl ?_
    refine wp_iconst (v := 1) d_M_rankOf_13 (by decide) ?_
    refine wp_aload_n d_M_rankOf_14 rfl ?_
    refine wp_iload_n d_M_rankOf_15 rfl ?_
    refine wp_iload_n d_M_rankOf_16 rfl ?_
    refine wp_callV2e d_M_rankOf_17 cv_M_96 rfl rfl rfl ⟨Nat.le_of_ble_eq_true rfl, Nat.le_of_ble_eq_true rfl⟩ (Nat.le_of_ble_eq_true rfl) (Nat.le_of_ble_eq_true rfl) (c_M_goes hm (by omega) _ hB) ?_
    refine wp_ishl d_M_rankOf_20 ?_
    refine wp_ior d_M_rankOf_21 ?_
    refine wp_istore2 d_M_rankOf_22 (by decide) rfl ?_
    refine wp_iinc3 d_M_rankOf_23 (hn_ii1 _) (by decide) rfl ?_
    refine wp_goto (tgt := 4) d_M_rankOf_26 (by decide) ?_
    have hg := gN_lt (N := N) (m := m) (i := j) hB.2.1
    rw [nI_1, sh_nI (by omega), or_nI]
    exact ih hj2
theorem sr_le (p : Nat → Prop) [DecidablePred p] : ∀ f k, sr p f k ≤ k + f
  | 0, k => Nat.le_refl _
  | f + 1, k => by
    rw [sr]
    split
    · omega
    · have := sr_le p f (k + 1)
      omega
def knN (N m : Nat) : Nat := hzN N (fun i => sr (fun l => gN N m l = gN N m i) i 0)
theorem c_M_kernelOf {m N : Nat} (hm : m < 2 ^ 31) (σ : Hp) (hB : MB σ N) : Ct m_M_kernelOf [.ref 56, .int (nI m)] σ (Rt (.int (nI (knN N m))) σ) := by
  have h6 := hB.2.2
  show WP m_M_kernelOf 0 [.ref 56, .int (nI m), .null, .null, .null] [] σ _
  refine wp_iconst (v := 0) d_M_kernelOf_0 (by decide) ?_
  refine wp_istore2 d_M_kernelOf_1 (by decide) rfl ?_
  refine wp_aload_n d_M_kernelOf_2 rfl ?_
  refine wp_getI d_M_kernelOf_3 fl_M_7 rfl rfl (by decide) ?_
  refine wp_iconst (v := 1) d_M_kernelOf_6 (by decide) ?_
  refine wp_isub d_M_kernelOf_7 ?_
  refine wp_istore3 d_M_kernelOf_8 (by decide) rfl ?_
  rw [hB.1]
  suffices H : ∀ j, j ≤ N → ∀ x4 : Value, WP m_M_kernelOf 9 [.ref 56, .int (nI m), .int (nI (hz N N (fun i => sr (fun l => gN N m l = gN N m i) i 0) j)), .int (nI (N - j) - 1), x4] [] σ (Rt (.int (nI (knN N m))) σ) from H 0 (Nat.zero_le _) _
  refine lp_nat (fun j hj ih x4 => ?_)
  refine wp_iload_n d_M_kernelOf_9 rfl ?_
  refine wp_if_lt (tgt := 54) d_M_kernelOf_10 (by decide) (fun hc => ?_) (fun hc => ?_)
  · obtain rfl := nI_down (by omega) hc hj
    refine wp_iload_n d_M_kernelOf_54 rfl ?_
    refine wp_iret d_M_kernelOf_55 rfl ?_
    exact ⟨rfl, rfl⟩
  · obtain ⟨hjN, hd2⟩ := nI_down2 hc
    rw [hd2]
    refine wp_iconst (v := 0) d_M_kernelOf_13 (by decide) ?_
    refine wp_istore4 d_M_kernelOf_14 (by decide) rfl ?_
    suffices H : ∀ l, l ≤ N - 1 - j → sr (fun l => gN N m l = gN N m (N - 1 - j)) (N - 1 - j - l) l = sr (fun l => gN N m l = gN N m (N - 1 - j)) (N - 1 - j) 0 → WP m_M_kernelOf 16 [.ref 56, .int (nI m), .int (nI (hz N N (fun i => sr (fun l => gN N m l = gN N m i) i 0) j)), .int (nI (N - 1 - j)), .int (nI l)] [] σ (Rt (.int (nI (knN N m))) σ) from H 0 (Nat.zero_le _) rfl
    refine lp_nat (fun l hl ih2 hs => ?_)
    have hg1 := gN_lt (N := N) (m := m) (i := l) hB.2.1
    have hg2 := gN_lt (N := N) (m := m) (i := N - 1 - j) hB.2.1
    refine wp_aload_n d_M_kernelOf_16 rfl ?_
    refine wp_iload_n d_M_kernelOf_17 rfl ?_
    refine wp_iload d_M_kernelOf_18 rfl ?_
    refine wp_callV2e d_M_kernelOf_20 cv_M_96 rfl rfl rfl ⟨Nat.le_of_ble_eq_true rfl, Nat.le_of_ble_eq_true rfl⟩ (Nat.le_of_ble_eq_true rfl) (Nat.le_of_ble_eq_true rfl) (c_M_goes hm (by omega) _ hB) ?_
    refine wp_aload_n d_M_kernelOf_23 rfl ?_
    refine wp_iload_n d_M_kernelOf_24 rfl ?_
    refine wp_iload_n d_M_kernelOf_25 rfl ?_
    refine wp_callV2e d_M_kernelOf_26 cv_M_96 rfl rfl rfl ⟨Nat.le_of_ble_eq_true rfl, Nat.le_of_ble_eq_true rfl⟩ (Nat.le_of_ble_eq_true rfl) (Nat.le_of_ble_eq_true rfl) (c_M_goes hm (by omega) _ hB) ?_
    refine wp_icmp_eq (tgt := 38) d_M_kernelOf_29 (by decide) (fun h3 => ?_) (fun h3 => ?_)
    · rw [nI_eq (by omega) (by omega)] at h3
      have hl2 : sr (fun l => gN N m l = gN N m (N - 1 - j)) (N - 1 - j) 0 = l := by
        rw [← hs]
        obtain ⟨d, hd⟩ : ∃ d, N - 1 - j - l = d := ⟨_, rfl⟩
        rw [hd]
        cases d with
        | zero => rfl
        | succ d => rw [sr, if_pos h3]
      refine wp_aload_n d_M_kernelOf_38 rfl ?_
      refine wp_getI d_M_kernelOf_39 fl_M_7 rfl rfl (by decide) ?_
      refine wp_iload_n d_M_kernelOf_42 rfl ?_
      refine wp_imul d_M_kernelOf_43 ?_
      refine wp_iload d_M_kernelOf_44 rfl ?_
      refine wp_iadd d_M_kernelOf_46 ?_
      refine wp_istore2 d_M_kernelOf_47 (by decide) rfl ?_
      refine wp_iinc3 d_M_kernelOf_48 (hn_iim1 _) (by decide) rfl ?_
      refine wp_goto (tgt := 9) d_M_kernelOf_51 (by decide) ?_
      rw [hB.1, pk_mul, nI_add, nI_down3 hjN]
      have := ih hjN (.int (nI l))
      show WP m_M_kernelOf 9 [.ref 56, .int (nI m), .int (nI (N * hz N N (fun i => sr (fun l => gN N m l = gN N m i) i 0) j + l)), _, _] [] σ _
      have e3 : N * hz N N (fun i => sr (fun l => gN N m l = gN N m i) i 0) j + l = hz N N (fun i => sr (fun l => gN N m l = gN N m i) i 0) (j + 1) := by
        show _ = N * hz N N (fun i => sr (fun l => gN N m l = gN N m i) i 0) j + sr (fun l => gN N m l = gN N m (N - 1 - j)) (N - 1 - j) 0
        rw [hl2]
      rw [e3]
      exact this
    · rw [nI_eq (by omega) (by omega)] at h3
      have hl3 : l < N - 1 - j := by
        rcases Nat.lt_or_ge l (N - 1 - j) with q | q
        · exact q
        · obtain rfl : l = N - 1 - j := by omega
          exact absurd rfl h3
      obtain ⟨d, hd⟩ : ∃ d, N - 1 - j - l = d + 1 := ⟨N - 1 - j - l - 1, by omega⟩
      rw [hd, sr, if_neg h3] at hs
      refine wp_iinc4 d_M_kernelOf_32 (hn_ii1 _) (by decide) rfl ?_
      refine wp_goto (tgt := 16) d_M_kernelOf_35 (by decide) ?_
      rw [nI_1]
      exact ih2 hl3 (by rw [show N - 1 - j - (l + 1) = d by omega]; exact hs)
def imN (N m S : Nat) : Nat := it (fun i v => v ||| (if S / 2 ^ i % 2 = 1 then 2 ^ gN N m i else 0)) N 0
theorem imN_lt {N m S : Nat} (hN : 0 < N) : imN N m S < 2 ^ N := by
  refine it_or_lt (fun i hi => ?_) N (Nat.le_refl _)
  split
  · exact pow2_lt (gN_lt hN)
  · exact Nat.two_pow_pos N
theorem c_M_image {S m N : Nat} (hS : S < 2 ^ 31) (hm : m < 2 ^ 31) (σ : Hp) (hB : MB σ N) : Ct m_M_image [.ref 56, .int (nI S), .int (nI m)] σ (Rt (.int (nI (imN N m S))) σ) := by
  have h6 := hB.2.2
  show WP m_M_image 0 [.ref 56, .int (nI S), .int (nI m), .null, .null] [] σ _
  refine wp_iconst (v := 0) d_M_image_0 (by decide) ?_
  refine wp_istore3 d_M_image_1 (by decide) rfl ?_
  refine wp_iconst (v := 0) d_M_image_2 (by decide) ?_
  refine wp_istore4 d_M_image_3 (by decide) rfl ?_
  suffices H : ∀ j, j ≤ N → WP m_M_image 5 [.ref 56, .int (nI S), .int (nI m), .int (nI (it (fun i v => v ||| (if S / 2 ^ i % 2 = 1 then 2 ^ gN N m i else 0)) j 0)), .int (nI j)] [] σ (Rt (.int (nI (imN N m S))) σ) from H 0 (Nat.zero_le _)
  refine lp_nat (fun j hj ih => ?_)
  refine wp_iload d_M_image_5 rfl ?_
  refine wp_aload_n d_M_image_7 rfl ?_
  refine wp_getI d_M_image_8 fl_M_7 rfl rfl (by decide) ?_
  refine wp_icmp_ge (tgt := 46) d_M_image_11 (by decide) (fun hc => ?_) (fun hc => ?_)
  · rw [hB.1] at hc
    obtain rfl := Nat.le_antisymm hj (nI_ge2 hc (by omega) (by omega))
    refine wp_iload_n d_M_image_46 rfl ?_
    refine wp_iret d_M_image_47 rfl ?_
    exact ⟨rfl, rfl⟩
  · rw [hB.1] at hc
    have hj2 := nI_nge hc (by omega) (by omega)
    have hm2 := Nat.mod_lt (S / 2 ^ j) (show 0 < 2 by decide)
    refine wp_iload_n d_M_image_14 rfl ?_
    refine wp_iload_n d_M_image_15 rfl ?_
    refine wp_iload d_M_image_16 rfl ?_
    refine wp_ishr d_M_image_18 ?_
    refine wp_iconst (v := 1) d_M_image_19 (by decide) ?_
    refine wp_iand d_M_image_20 ?_
    refine wp_iconst (v := 1) d_M_image_21 (by decide) ?_
    refine wp_icmp_ne (tgt := 37) d_M_image_22 (by decide) (fun h2 => ?_) (fun h2 => ?_)
    · rw [bt_nI hS (by omega)] at h2
      have h3 : ¬ S / 2 ^ j % 2 = 1 := fun q => h2 (by rw [q]; rfl)
      refine wp_iconst (v := 0) d_M_image_37 (by decide) ?_
      refine wp_ior d_M_image_38 ?_
      refine wp_istore3 d_M_image_39 (by decide) rfl ?_
      refine wp_iinc4 d_M_image_40 (hn_ii1 _) (by decide) rfl ?_
      refine wp_goto (tgt := 5) d_M_image_43 (by decide) ?_
      rw [nI_1, show (0 : Int32) = nI 0 from rfl, or_nI]
      have := ih hj2
      have e3 : it (fun i v => v ||| (if S / 2 ^ i % 2 = 1 then 2 ^ gN N m i else 0)) (j + 1) 0 = it (fun i v => v ||| (if S / 2 ^ i % 2 = 1 then 2 ^ gN N m i else 0)) j 0 ||| 0 := by
        show _ ||| (if S / 2 ^ j % 2 = 1 then 2 ^ gN N m j else 0) = _
        rw [if_neg h3]
      rw [e3] at this
      exact this
    · rw [bt_nI hS (by omega)] at h2
      have h3 : S / 2 ^ j % 2 = 1 := (nI_eq (b := 1) (by omega) (by omega)).mp h2
      refine wp_iconst (v := 1) d_M_image_25 (by decide) ?_
      refine wp_aload_n d_M_image_26 rfl ?_
      refine wp_iload_n d_M_image_27 rfl ?_
      refine wp_iload d_M_image_28 rfl ?_
      refine wp_callV2e d_M_image_30 cv_M_96 rfl rfl rfl ⟨Nat.le_of_ble_eq_true rfl, Nat.le_of_ble_eq_true rfl⟩ (Nat.le_of_ble_eq_true rfl) (Nat.le_of_ble_eq_true rfl) (c_M_goes hm (by omega) _ hB) ?_
      refine wp_ishl d_M_image_33 ?_
      refine wp_goto (tgt := 38) d_M_image_34 (by decide) ?_
      refine wp_ior d_M_image_38 ?_
      refine wp_istore3 d_M_image_39 (by decide) rfl ?_
      refine wp_iinc4 d_M_image_40 (hn_ii1 _) (by decide) rfl ?_
      refine wp_goto (tgt := 5) d_M_image_43 (by decide) ?_
      have hg := gN_lt (N := N) (m := m) (i := j) hB.2.1
      rw [nI_1, sh_nI (by omega), or_nI]
      have := ih hj2
      have e3 : it (fun i v => v ||| (if S / 2 ^ i % 2 = 1 then 2 ^ gN N m i else 0)) (j + 1) 0 = it (fun i v => v ||| (if S / 2 ^ i % 2 = 1 then 2 ^ gN N m i else 0)) j 0 ||| 2 ^ gN N m j := by
        show _ ||| (if S / 2 ^ j % 2 = 1 then 2 ^ gN N m j else 0) = _
        rw [if_pos h3]
      rw [e3] at this
      exact this
theorem c_M_isSet {N : Nat} (s : Int32) (σ : Hp) (hB : MB σ N) : Ct m_M_isSet [.ref 56, .int s] σ (Rt (.int (bz (1 ≤ s ∧ s ≤ nI (2 ^ N - 1)))) σ) := by
  show WP m_M_isSet 0 [.ref 56, .int s] [] σ _
  refine wp_iload_n d_M_isSet_0 rfl ?_
  refine wp_iconst (v := 1) d_M_isSet_1 (by decide) ?_
  refine wp_iconst (v := 1) d_M_isSet_2 (by decide) ?_
  refine wp_aload_n d_M_isSet_3 rfl ?_
  refine wp_getI d_M_isSet_4 fl_M_7 rfl rfl (by decide) ?_
  refine wp_ishl d_M_isSet_7 ?_
  refine wp_iconst (v := 1) d_M_isSet_8 (by decide) ?_
  refine wp_isub d_M_isSet_9 ?_
  refine wp_callS3e d_M_isSet_10 cs_M_100 ⟨Nat.le_of_ble_eq_true rfl, Nat.le_of_ble_eq_true rfl⟩ (Nat.le_of_ble_eq_true rfl) (Nat.le_of_ble_eq_true rfl) (c_M_in _ _ _ _) ?_
  refine wp_zret d_M_isSet_13 rfl ?_ ?_
  · exact bz_nar
  refine ⟨?_, rfl⟩
  rw [hB.1, whole_nI N hB.2.2]
theorem c_M_isPoint {N : Nat} (p : Int32) (σ : Hp) (hB : MB σ N) : Ct m_M_isPoint [.ref 56, .int p] σ (Rt (.int (bz (0 ≤ p ∧ p ≤ nI (N - 1)))) σ) := by
  have h1 := hB.2.1
  show WP m_M_isPoint 0 [.ref 56, .int p] [] σ _
  refine wp_iload_n d_M_isPoint_0 rfl ?_
  refine wp_iconst (v := 0) d_M_isPoint_1 (by decide) ?_
  refine wp_aload_n d_M_isPoint_2 rfl ?_
  refine wp_getI d_M_isPoint_3 fl_M_7 rfl rfl (by decide) ?_
  refine wp_iconst (v := 1) d_M_isPoint_6 (by decide) ?_
  refine wp_isub d_M_isPoint_7 ?_
  refine wp_callS3e d_M_isPoint_8 cs_M_100 ⟨Nat.le_of_ble_eq_true rfl, Nat.le_of_ble_eq_true rfl⟩ (Nat.le_of_ble_eq_true rfl) (Nat.le_of_ble_eq_true rfl) (c_M_in _ _ _ _) ?_
  refine wp_zret d_M_isPoint_11 rfl ?_ ?_
  · exact bz_nar
  refine ⟨?_, rfl⟩
  rw [hB.1, show N = N - 1 + 1 by omega, nI_pred, show N - 1 + 1 - 1 = N - 1 by omega]
/-- the letters, as the reference has them -/
def LT (σ : Hp) (N L : Nat) (lm : Nat → Nat) : Prop := σ.1 56 2 = nI L ∧ L ≤ 4 ∧ ∀ l, l < L → σ.1 57 l = nI (lm l) ∧ lm l < N ^ N
/-- the walk so far: queue, whence, by which letter; what hasn't come is marked -/
def WK (τ : Hp) (B : Nat) (Q : BQ) : Prop := (∀ j, j < Q.length → τ.1 73 j = nI (itm Q j) ∧ τ.1 74 (itm Q j) = nI (itm Q (par Q j)) ∧ (0 < j → τ.1 75 (itm Q j) = nI (ltr Q j))) ∧ ∀ x, x < B → hasB Q x = false → τ.1 74 x = -9
theorem itm_app {Q : BQ} {e : Nat × Nat × Nat} : itm (Q ++ [e]) Q.length = e.1 := by unfold itm; rw [app_eq]
theorem par_app {Q : BQ} {e : Nat × Nat × Nat} : par (Q ++ [e]) Q.length = e.2.1 := by unfold par; rw [app_eq]
theorem ltr_app {Q : BQ} {e : Nat × Nat × Nat} : ltr (Q ++ [e]) Q.length = e.2.2 := by unfold ltr; rw [app_eq]
theorem itm_old {Q : BQ} {e : Nat × Nat × Nat} {j : Nat} (h : j < Q.length) : itm (Q ++ [e]) j = itm Q j := by unfold itm; rw [app_lt h]
theorem par_old {Q : BQ} {e : Nat × Nat × Nat} {j : Nat} (h : j < Q.length) : par (Q ++ [e]) j = par Q j := by unfold par; rw [app_lt h]
theorem ltr_old {Q : BQ} {e : Nat × Nat × Nat} {j : Nat} (h : j < Q.length) : ltr (Q ++ [e]) j = ltr Q j := by unfold ltr; rw [app_lt h]
theorem upd_eq {f : Nat → Int32} {k : Nat} {x : Int32} : upd f k x k = x := if_pos rfl
theorem WK.add {τ : Hp} {B : Nat} {st : Nat → Nat → Nat} {L s : Nat} {Q : BQ} (hI : BI st L s Q) (h : WK τ B Q) {w i k : Nat} (hi : i < Q.length) (hn : hasB Q w = false) : WK (wI (wI (wI τ 74 w (nI (itm Q i))) 75 w (nI k)) 73 Q.length (nI w)) B (Q ++ [(w, i, k)]) := by
  have nn : ∀ j, j < Q.length → itm Q j ≠ w := fun j hj e => by
    rw [hasB_iff.mpr ⟨j, hj, e⟩] at hn
    cases hn
  have e73 : (wI (wI (wI τ 74 w (nI (itm Q i))) 75 w (nI k)) 73 Q.length (nI w)).1 73 = upd (τ.1 73) Q.length (nI w) := by
    rw [wI_eq, wI_ne (by decide), wI_ne (by decide)]
  have e74 : (wI (wI (wI τ 74 w (nI (itm Q i))) 75 w (nI k)) 73 Q.length (nI w)).1 74 = upd (τ.1 74) w (nI (itm Q i)) := by
    rw [wI_ne (by decide), wI_ne (by decide), wI_eq]
  have e75 : (wI (wI (wI τ 74 w (nI (itm Q i))) 75 w (nI k)) 73 Q.length (nI w)).1 75 = upd (τ.1 75) w (nI k) := by
    rw [wI_ne (by decide), wI_eq, wI_ne (by decide)]
  refine ⟨fun j hj => ?_, fun x hx hxn => ?_⟩
  · simp only [List.length_append, List.length_cons, List.length_nil] at hj
    rw [e73, e74, e75]
    rcases Nat.lt_or_ge j Q.length with q | q
    · have hpl : par Q j < Q.length := by
        rcases Nat.eq_zero_or_pos j with rfl | h0
        · rw [hI.2.1.2]; exact hI.1
        · have := (hI.2.2.2 j h0 q).1
          omega
      rw [itm_old q, par_old q, ltr_old q, itm_old hpl, upd_ne (by omega), upd_ne (nn j q), upd_ne (nn j q)]
      exact h.1 j q
    · obtain rfl : j = Q.length := by omega
      rw [itm_app, par_app, ltr_app, itm_old hi, upd_eq, upd_eq, upd_eq]
      exact ⟨rfl, rfl, fun _ => rfl⟩
  · have hxw : x ≠ w := fun e => by
      rw [e, hasB_iff.mpr ⟨Q.length, by simp, itm_app⟩] at hxn
      cases hxn
    rw [e74, upd_ne hxw]
    refine h.2 x hx ?_
    cases q : hasB Q x with
    | false => rfl
    | true => rw [Pre.app.has q] at hxn; cases hxn
