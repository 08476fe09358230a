/-! contracts: letters, words, numbers by keys, powers -/
def KI (σ : Hp) (N L : Nat) : Prop := σ.1 1 1 = nI N ∧ 1 ≤ N ∧ N ≤ 6 ∧ σ.1 1 2 = nI L ∧ L ≤ 4
theorem rdA_in {σ : Hp} {a n k : Nat} (h : k < n) (hn : n < 2 ^ 31) : rdA σ a n (nI k) = σ.1 a k := by
  rw [rdA, if_pos ⟨nI_pos' (by omega), nI_lt h hn⟩, nI_clamp (by omega)]
theorem wrA_in {σ : Hp} {a n k : Nat} {x : Int32} (h : k < n) (hn : n < 2 ^ 31) : wrA σ a n (nI k) x = wI σ a k x := by
  rw [wrA, if_pos ⟨nI_pos' (by omega), nI_lt h hn⟩, nI_clamp (by omega)]
theorem c_L_beginWith (n : Int32) (σ : Hp) : Ct m_L_beginWith [.ref 1, .int n] σ (Rv (wI (wI (wI σ 1 1 n) 1 2 0) 1 3 (σ.1 1 3 + 1))) := by
  show WP m_L_beginWith 0 [.ref 1, .int n] [] σ _
  refine wp_aload_n d_L_beginWith_0 rfl ?_
  refine wp_iload_n d_L_beginWith_1 rfl ?_
  refine wp_putI d_L_beginWith_2 fp_L_15 rfl rfl (by decide) rfl rfl ?_
  refine wp_aload_n d_L_beginWith_5 rfl ?_
  refine wp_iconst (v := 0) d_L_beginWith_6 (by decide) ?_
  refine wp_putI d_L_beginWith_7 fp_L_19 rfl rfl (by decide) rfl rfl ?_
  refine wp_aload_n d_L_beginWith_10 rfl ?_
  refine wp_dup d_L_beginWith_11 rfl ?_
  refine wp_getI d_L_beginWith_12 fl_L_22 rfl rfl (by decide) ?_
  refine wp_iconst (v := 1) d_L_beginWith_15 (by decide) ?_
  refine wp_iadd d_L_beginWith_16 ?_
  refine wp_putI d_L_beginWith_17 fp_L_22 rfl rfl (by decide) rfl rfl ?_
  refine wp_vret d_L_beginWith_20 rfl ?_
  exact ⟨rfl, rfl⟩
theorem c_L_add (x : Int32) {L : Nat} (σ : Hp) (hL : σ.1 1 2 = nI L) (h4 : L < 4) : Ct m_L_add [.ref 1, .int x] σ (Rt (.int (nI L)) (wI (wI (wI σ 2 L x) 1 3 (σ.1 1 3 + 1)) 1 2 (nI (L + 1)))) := by
  show WP m_L_add 0 [.ref 1, .int x] [] σ _
  refine wp_aload_n d_L_add_0 rfl ?_
  refine wp_getA d_L_add_1 fl_L_9 rfl rfl rfl ?_
  refine wp_aload_n d_L_add_4 rfl ?_
  refine wp_getI d_L_add_5 fl_L_19 rfl rfl (by decide) ?_
  refine wp_iload_n d_L_add_8 rfl ?_
  refine wp_callSN3v d_L_add_9 csn_L_25 ⟨Nat.le_of_ble_eq_true rfl, Nat.le_of_ble_eq_true rfl⟩ (Nat.le_of_ble_eq_true rfl) (Nat.le_of_ble_eq_true rfl) (c_P_put (a := 2) rfl (by decide) _ _ _) ?_
  rw [hL, wrA_in h4 (by decide)]
  refine wp_aload_n d_L_add_12 rfl ?_
  refine wp_dup d_L_add_13 rfl ?_
  refine wp_getI d_L_add_14 fl_L_22 rfl rfl (by decide) ?_
  refine wp_iconst (v := 1) d_L_add_17 (by decide) ?_
  refine wp_iadd d_L_add_18 ?_
  refine wp_putI d_L_add_19 fp_L_22 rfl rfl (by decide) rfl rfl ?_
  refine wp_aload_n d_L_add_22 rfl ?_
  refine wp_dup d_L_add_23 rfl ?_
  refine wp_getI d_L_add_24 fl_L_19 rfl rfl (by decide) ?_
  refine wp_iconst (v := 1) d_L_add_27 (by decide) ?_
  refine wp_iadd d_L_add_28 ?_
  refine wp_putI d_L_add_29 fp_L_19 rfl rfl (by decide) rfl rfl ?_
  refine wp_aload_n d_L_add_32 rfl ?_
  refine wp_getI d_L_add_33 fl_L_19 rfl rfl (by decide) ?_
  refine wp_iconst (v := 1) d_L_add_36 (by decide) ?_
  refine wp_isub d_L_add_37 ?_
  refine wp_iret d_L_add_38 rfl ?_
  refine ⟨?_, ?_⟩
  · show some (Value.int (σ.1 1 2 + 1 - 1)) = _
    rw [hL, nI_1, nI_pred]
  · show wI (wI (wI σ 2 L x) 1 3 (σ.1 1 3 + 1)) 1 2 (σ.1 1 2 + 1) = _
    rw [hL, nI_1]
theorem c_L_removeLast {L : Nat} (σ : Hp) (hL : σ.1 1 2 = nI (L + 1)) : Ct m_L_removeLast [.ref 1] σ (Rt (.int (nI L)) (wI (wI σ 1 3 (σ.1 1 3 + 1)) 1 2 (nI L))) := by
  show WP m_L_removeLast 0 [.ref 1] [] σ _
  refine wp_aload_n d_L_removeLast_0 rfl ?_
  refine wp_dup d_L_removeLast_1 rfl ?_
  refine wp_getI d_L_removeLast_2 fl_L_22 rfl rfl (by decide) ?_
  refine wp_iconst (v := 1) d_L_removeLast_5 (by decide) ?_
  refine wp_iadd d_L_removeLast_6 ?_
  refine wp_putI d_L_removeLast_7 fp_L_22 rfl rfl (by decide) rfl rfl ?_
  refine wp_aload_n d_L_removeLast_10 rfl ?_
  refine wp_dup d_L_removeLast_11 rfl ?_
  refine wp_getI d_L_removeLast_12 fl_L_19 rfl rfl (by decide) ?_
  refine wp_iconst (v := 1) d_L_removeLast_15 (by decide) ?_
  refine wp_isub d_L_removeLast_16 ?_
  refine wp_putI d_L_removeLast_17 fp_L_19 rfl rfl (by decide) rfl rfl ?_
  refine wp_aload_n d_L_removeLast_20 rfl ?_
  refine wp_getI d_L_removeLast_21 fl_L_19 rfl rfl (by decide) ?_
  refine wp_iret d_L_removeLast_24 rfl ?_
  refine ⟨?_, ?_⟩
  · show some (Value.int (σ.1 1 2 - 1)) = _
    rw [hL, nI_pred]
  · show wI (wI σ 1 3 (σ.1 1 3 + 1)) 1 2 (σ.1 1 2 - 1) = _
    rw [hL, nI_pred]
theorem c_L_map (k : Int32) (σ : Hp) : Ct m_L_map [.ref 1, .int k] σ (Rt (.int (rdA σ 2 4 k)) σ) := by
  show WP m_L_map 0 [.ref 1, .int k] [] σ _
  refine wp_aload_n d_L_map_0 rfl ?_
  refine wp_getA d_L_map_1 fl_L_9 rfl rfl rfl ?_
  refine wp_iload_n d_L_map_4 rfl ?_
  refine wp_callSN2e d_L_map_5 csn_L_29 ⟨Nat.le_of_ble_eq_true rfl, Nat.le_of_ble_eq_true rfl⟩ (Nat.le_of_ble_eq_true rfl) (Nat.le_of_ble_eq_true rfl) (c_P_at (a := 2) rfl (by decide) _ _) ?_
  refine wp_iret d_L_map_8 rfl ?_
  exact ⟨rfl, rfl⟩
theorem c_L_mostMaps {N L : Nat} (σ : Hp) (hI : KI σ N L) : Ct m_L_mostMaps [.ref 1] σ (Rt (.int (nI (N ^ N))) σ) := by
  obtain ⟨hn, h1, h6, -⟩ := hI
  show WP m_L_mostMaps 0 [.ref 1, .null, .null] [] σ _
  refine wp_iconst (v := 1) d_L_mostMaps_0 (by decide) ?_
  refine wp_istore1 d_L_mostMaps_1 (by decide) rfl ?_
  refine wp_iconst (v := 0) d_L_mostMaps_2 (by decide) ?_
  refine wp_istore2 d_L_mostMaps_3 (by decide) rfl ?_
  suffices H : ∀ k, k ≤ N → WP m_L_mostMaps 4 [.ref 1, .int (nI (N ^ k)), .int (nI k)] [] σ (Rt (.int (nI (N ^ N))) σ) from H 0 (Nat.zero_le _)
  refine lp_nat (fun k hk ih => ?_)
  refine wp_iload_n d_L_mostMaps_4 rfl ?_
  refine wp_aload_n d_L_mostMaps_5 rfl ?_
  refine wp_getI d_L_mostMaps_6 fl_L_15 rfl rfl (by decide) ?_
  refine wp_icmp_ge (tgt := 25) d_L_mostMaps_9 (by decide) (fun hc => ?_) (fun hc => ?_)
  · rw [hn] at hc
    obtain rfl := Nat.le_antisymm hk (nI_ge2 hc (by omega) (by omega))
    refine wp_iload_n d_L_mostMaps_25 rfl ?_
    refine wp_iret d_L_mostMaps_26 rfl ?_
    exact ⟨rfl, rfl⟩
  · rw [hn] at hc
    have hk2 := nI_nge hc (by omega) (by omega)
    refine wp_iload_n d_L_mostMaps_12 rfl ?_
    refine wp_aload_n d_L_mostMaps_13 rfl ?_
    refine wp_getI d_L_mostMaps_14 fl_L_15 rfl rfl (by decide) ?_
    refine wp_imul d_L_mostMaps_17 ?_
    refine wp_istore1 d_L_mostMaps_18 (by decide) rfl ?_
    refine wp_iinc2 d_L_mostMaps_19 (hn_ii1 _) (by decide) rfl ?_
    refine wp_goto (tgt := 4) d_L_mostMaps_22 (by decide) ?_
    rw [nI_1, hn, pk_mul, ← Nat.pow_succ]
    exact ih hk2
theorem whole_nI : ∀ N, N ≤ 6 → (1 : Int32) <<< (nI N &&& 31) - 1 = nI (2 ^ N - 1) := by
  intro N hN
  rcases (show N = 0 ∨ N = 1 ∨ N = 2 ∨ N = 3 ∨ N = 4 ∨ N = 5 ∨ N = 6 by omega) with rfl | rfl | rfl | rfl | rfl | rfl | rfl <;> decide
theorem c_L_wholeSet {N L : Nat} (σ : Hp) (hI : KI σ N L) : Ct m_L_wholeSet [.ref 1] σ (Rt (.int (nI (2 ^ N - 1))) σ) := by
  obtain ⟨hn, h1, h6, -⟩ := hI
  show WP m_L_wholeSet 0 [.ref 1] [] σ _
  refine wp_iconst (v := 1) d_L_wholeSet_0 (by decide) ?_
  refine wp_aload_n d_L_wholeSet_1 rfl ?_
  refine wp_getI d_L_wholeSet_2 fl_L_15 rfl rfl (by decide) ?_
  refine wp_ishl d_L_wholeSet_5 ?_
  refine wp_iconst (v := 1) d_L_wholeSet_6 (by decide) ?_
  refine wp_isub d_L_wholeSet_7 ?_
  refine wp_iret d_L_wholeSet_8 rfl ?_
  refine ⟨?_, rfl⟩
  rw [hn, whole_nI N h6]
theorem c_L_hasPoint (p : Int32) {N L : Nat} (σ : Hp) (hI : KI σ N L) : Ct m_L_hasPoint [.ref 1, .int p] σ (Rt (.int (bz (0 ≤ p ∧ p ≤ nI (N - 1)))) σ) := by
  obtain ⟨hn, h1, h6, -⟩ := hI
  show WP m_L_hasPoint 0 [.ref 1, .int p] [] σ _
  refine wp_iload_n d_L_hasPoint_0 rfl ?_
  refine wp_iconst (v := 0) d_L_hasPoint_1 (by decide) ?_
  refine wp_aload_n d_L_hasPoint_2 rfl ?_
  refine wp_getI d_L_hasPoint_3 fl_L_15 rfl rfl (by decide) ?_
  refine wp_iconst (v := 1) d_L_hasPoint_6 (by decide) ?_
  refine wp_isub d_L_hasPoint_7 ?_
  refine wp_callSN3e d_L_hasPoint_8 csn_L_33 ⟨Nat.le_of_ble_eq_true rfl, Nat.le_of_ble_eq_true rfl⟩ (Nat.le_of_ble_eq_true rfl) (Nat.le_of_ble_eq_true rfl) (c_P_within _ _ _ _) ?_
  refine wp_zret d_L_hasPoint_11 rfl ?_ ?_
  · exact bz_nar
  refine ⟨?_, rfl⟩
  rw [hn, show N = N - 1 + 1 by omega, nI_pred, show N - 1 + 1 - 1 = N - 1 by omega]
theorem c_L_allCommuteWith (m : Int32) {N L : Nat} (σ : Hp) (hI : KI σ N L) : Ct m_L_allCommuteWith [.ref 1, .int m] σ (Rt (.int (bz (∀ k, k < L → ahF m (σ.1 2 k) N = ahF (σ.1 2 k) m N))) σ) := by
  obtain ⟨hn, h1, h6, hl, h4⟩ := hI
  have hN : N < 2 ^ 31 := by omega
  show WP m_L_allCommuteWith 0 [.ref 1, .int m, .null] [] σ _
  refine wp_iconst (v := 0) d_L_allCommuteWith_0 (by decide) ?_
  refine wp_istore2 d_L_allCommuteWith_1 (by decide) rfl ?_
  suffices H : ∀ k, k ≤ L → (∀ j, j < k → ahF m (σ.1 2 j) N = ahF (σ.1 2 j) m N) → WP m_L_allCommuteWith 2 [.ref 1, .int m, .int (nI k)] [] σ (Rt (.int (bz (∀ k, k < L → ahF m (σ.1 2 k) N = ahF (σ.1 2 k) m N))) σ) from H 0 (Nat.zero_le _) (fun j hj => absurd hj (by omega))
  refine lp_nat (fun k hk ih hp => ?_)
  refine wp_iload_n d_L_allCommuteWith_2 rfl ?_
  refine wp_aload_n d_L_allCommuteWith_3 rfl ?_
  refine wp_getI d_L_allCommuteWith_4 fl_L_19 rfl rfl (by decide) ?_
  refine wp_icmp_ge (tgt := 37) d_L_allCommuteWith_7 (by decide) (fun hc => ?_) (fun hc => ?_)
  · rw [hl] at hc
    obtain rfl := Nat.le_antisymm hk (nI_ge2 hc (by omega) (by omega))
    rw [bz_t hp]
    refine wp_iconst (v := 1) d_L_allCommuteWith_37 (by decide) ?_
    refine wp_zret d_L_allCommuteWith_38 rfl ?_ ?_
    · decide
    · exact ⟨rfl, rfl⟩
  · rw [hl] at hc
    have hk2 := nI_nge hc (by omega) (by omega)
    refine wp_iload_n d_L_allCommuteWith_10 rfl ?_
    refine wp_aload_n d_L_allCommuteWith_11 rfl ?_
    refine wp_getA d_L_allCommuteWith_12 fl_L_9 rfl rfl rfl ?_
    refine wp_iload_n d_L_allCommuteWith_15 rfl ?_
    refine wp_callSN2e d_L_allCommuteWith_16 csn_L_29 ⟨Nat.le_of_ble_eq_true rfl, Nat.le_of_ble_eq_true rfl⟩ (Nat.le_of_ble_eq_true rfl) (Nat.le_of_ble_eq_true rfl) (c_P_at (a := 2) rfl (by decide) _ _) ?_
    rw [rdA_in (by omega) (by decide)]
    refine wp_aload_n d_L_allCommuteWith_19 rfl ?_
    refine wp_getI d_L_allCommuteWith_20 fl_L_15 rfl rfl (by decide) ?_
    rw [hn]
    refine wp_callS3e d_L_allCommuteWith_23 cs_L_37 ⟨Nat.le_of_ble_eq_true rfl, Nat.le_of_ble_eq_true rfl⟩ (Nat.le_of_ble_eq_true rfl) (Nat.le_of_ble_eq_true rfl) (c_G_commute _ _ hN _) ?_
    refine wp_if_ne (tgt := 31) d_L_allCommuteWith_26 (by decide) (fun h2 => ?_) (fun h2 => ?_)
    · rw [bz_0] at h2
      have h3 := Decidable.of_not_not h2
      refine wp_iinc2 d_L_allCommuteWith_31 (hn_ii1 _) (by decide) rfl ?_
      refine wp_goto (tgt := 2) d_L_allCommuteWith_34 (by decide) ?_
      rw [nI_1]
      exact ih hk2 (lt_s hp h3)
    · have h3 : ¬ ahF m (σ.1 2 k) N = ahF (σ.1 2 k) m N := bz_0.mp h2
      rw [bz_f (fun q => h3 (q k hk2))]
      refine wp_iconst (v := 0) d_L_allCommuteWith_29 (by decide) ?_
      refine wp_zret d_L_allCommuteWith_30 rfl ?_ ?_
      · decide
      · exact ⟨rfl, rfl⟩
