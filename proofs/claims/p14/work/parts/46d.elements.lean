/-! contracts: the elements (what they change; what they read) -/
theorem c_E_has (e : Int32) (σ : Hp) : Ct m_E_has [.ref 3, .int e] σ (Rt (.int (bz (0 ≤ e ∧ e ≤ σ.1 3 6 - 1))) σ) := by
  show WP m_E_has 0 [.ref 3, .int e] [] σ _
  refine wp_iload_n d_E_has_0 rfl ?_
  refine wp_iconst (v := 0) d_E_has_1 (by decide) ?_
  refine wp_aload_n d_E_has_2 rfl ?_
  refine wp_getI d_E_has_3 fl_E_61 rfl rfl (by decide) ?_
  refine wp_iconst (v := 1) d_E_has_6 (by decide) ?_
  refine wp_isub d_E_has_7 ?_
  refine wp_callSN3e d_E_has_8 csn_E_106 ⟨Nat.le_of_ble_eq_true rfl, Nat.le_of_ble_eq_true rfl⟩ (Nat.le_of_ble_eq_true rfl) (Nat.le_of_ble_eq_true rfl) (c_P_within _ _ _ _) ?_
  refine wp_zret d_E_has_11 rfl ?_ ?_
  · exact bz_nar
  exact ⟨rfl, rfl⟩
theorem c_E_map (e : Int32) (σ : Hp) : Ct m_E_map [.ref 3, .int e] σ (Rt (.int (rdA σ 4 1500 e)) σ) := by
  show WP m_E_map 0 [.ref 3, .int e] [] σ _
  refine wp_aload_n d_E_map_0 rfl ?_
  refine wp_getA d_E_map_1 fl_E_9 rfl rfl rfl ?_
  refine wp_iload_n d_E_map_4 rfl ?_
  refine wp_callSN2e d_E_map_5 csn_E_110 ⟨Nat.le_of_ble_eq_true rfl, Nat.le_of_ble_eq_true rfl⟩ (Nat.le_of_ble_eq_true rfl) (Nat.le_of_ble_eq_true rfl) (c_P_at (a := 4) rfl (by decide) _ _) ?_
  refine wp_iret d_E_map_8 rfl ?_
  exact ⟨rfl, rfl⟩
theorem c_E_numberOf (m : Int32) (σ : Hp) : Ct m_E_numberOf [.ref 3, .int m] σ (Rt (.int (lkF σ 7 8 m)) σ) := by
  show WP m_E_numberOf 0 [.ref 3, .int m] [] σ _
  refine wp_aload_n d_E_numberOf_0 rfl ?_
  refine wp_getA d_E_numberOf_1 fl_E_21 rfl rfl rfl ?_
  refine wp_iload_n d_E_numberOf_4 rfl ?_
  refine wp_callV1e d_E_numberOf_5 cv_E_92 rfl rfl rfl ⟨Nat.le_of_ble_eq_true rfl, Nat.le_of_ble_eq_true rfl⟩ (Nat.le_of_ble_eq_true rfl) (Nat.le_of_ble_eq_true rfl) (c_F_look fiK_6 _ _) ?_
  refine wp_iret d_E_numberOf_8 rfl ?_
  exact ⟨rfl, rfl⟩
theorem c_E_withLetterBehind (e k : Int32) (σ : Hp) : Ct m_E_withLetterBehind [.ref 3, .int e, .int k] σ (Rt (.int (rdA σ 5 6000 (e * 4 + k))) σ) := by
  show WP m_E_withLetterBehind 0 [.ref 3, .int e, .int k] [] σ _
  refine wp_aload_n d_E_withLetterBehind_0 rfl ?_
  refine wp_getA d_E_withLetterBehind_1 fl_E_15 rfl rfl rfl ?_
  refine wp_iload_n d_E_withLetterBehind_4 rfl ?_
  refine wp_iconst (v := 4) d_E_withLetterBehind_5 (by decide) ?_
  refine wp_imul d_E_withLetterBehind_6 ?_
  refine wp_iload_n d_E_withLetterBehind_7 rfl ?_
  refine wp_iadd d_E_withLetterBehind_8 ?_
  refine wp_callSN2e d_E_withLetterBehind_9 csn_E_110 ⟨Nat.le_of_ble_eq_true rfl, Nat.le_of_ble_eq_true rfl⟩ (Nat.le_of_ble_eq_true rfl) (Nat.le_of_ble_eq_true rfl) (c_P_at (a := 5) rfl (by decide) _ _) ?_
  refine wp_iret d_E_withLetterBehind_12 rfl ?_
  exact ⟨rfl, rfl⟩
theorem c_E_withLetterAhead (e k : Int32) {N L : Nat} (σ : Hp) (hI : KI σ N L) : Ct m_E_withLetterAhead [.ref 3, .int e, .int k] σ (Rt (.int (lkF σ 7 8 (ahF (rdA σ 2 4 k) (rdA σ 4 1500 e) N))) σ) := by
  obtain ⟨hn, h1, h6, hl, h4⟩ := hI
  show WP m_E_withLetterAhead 0 [.ref 3, .int e, .int k] [] σ _
  refine wp_aload_n d_E_withLetterAhead_0 rfl ?_
  refine wp_getA d_E_withLetterAhead_1 fl_E_21 rfl rfl rfl ?_
  refine wp_aload_n d_E_withLetterAhead_4 rfl ?_
  refine wp_getA d_E_withLetterAhead_5 fl_E_45 rfl rfl rfl ?_
  refine wp_iload_n d_E_withLetterAhead_8 rfl ?_
  refine wp_callV1e d_E_withLetterAhead_9 cv_E_87 rfl rfl rfl ⟨Nat.le_of_ble_eq_true rfl, Nat.le_of_ble_eq_true rfl⟩ (Nat.le_of_ble_eq_true rfl) (Nat.le_of_ble_eq_true rfl) (c_L_map _ _) ?_
  refine wp_aload_n d_E_withLetterAhead_12 rfl ?_
  refine wp_iload_n d_E_withLetterAhead_13 rfl ?_
  refine wp_callV1e d_E_withLetterAhead_14 cv_E_84 rfl rfl rfl ⟨Nat.le_of_ble_eq_true rfl, Nat.le_of_ble_eq_true rfl⟩ (Nat.le_of_ble_eq_true rfl) (Nat.le_of_ble_eq_true rfl) (c_E_map _ _) ?_
  refine wp_aload_n d_E_withLetterAhead_17 rfl ?_
  refine wp_getA d_E_withLetterAhead_18 fl_E_45 rfl rfl rfl ?_
  refine wp_getI d_E_withLetterAhead_21 fl_E_67 rfl rfl (by decide) ?_
  rw [hn]
  refine wp_callS3e d_E_withLetterAhead_24 cs_E_88 ⟨Nat.le_of_ble_eq_true rfl, Nat.le_of_ble_eq_true rfl⟩ (Nat.le_of_ble_eq_true rfl) (Nat.le_of_ble_eq_true rfl) (c_G_ahead _ _ (by omega) _) ?_
  refine wp_callV1e d_E_withLetterAhead_27 cv_E_92 rfl rfl rfl ⟨Nat.le_of_ble_eq_true rfl, Nat.le_of_ble_eq_true rfl⟩ (Nat.le_of_ble_eq_true rfl) (Nat.le_of_ble_eq_true rfl) (c_F_look fiK_6 _ _) ?_
  refine wp_iret d_E_withLetterAhead_30 rfl ?_
  exact ⟨rfl, rfl⟩
theorem c_E_product (a b : Int32) {N L : Nat} (σ : Hp) (hI : KI σ N L) : Ct m_E_product [.ref 3, .int a, .int b] σ (Rt (.int (ahF (rdA σ 4 1500 a) (rdA σ 4 1500 b) N)) σ) := by
  obtain ⟨hn, h1, h6, hl, h4⟩ := hI
  show WP m_E_product 0 [.ref 3, .int a, .int b] [] σ _
  refine wp_aload_n d_E_product_0 rfl ?_
  refine wp_iload_n d_E_product_1 rfl ?_
  refine wp_callV1e d_E_product_2 cv_E_84 rfl rfl rfl ⟨Nat.le_of_ble_eq_true rfl, Nat.le_of_ble_eq_true rfl⟩ (Nat.le_of_ble_eq_true rfl) (Nat.le_of_ble_eq_true rfl) (c_E_map _ _) ?_
  refine wp_aload_n d_E_product_5 rfl ?_
  refine wp_iload_n d_E_product_6 rfl ?_
  refine wp_callV1e d_E_product_7 cv_E_84 rfl rfl rfl ⟨Nat.le_of_ble_eq_true rfl, Nat.le_of_ble_eq_true rfl⟩ (Nat.le_of_ble_eq_true rfl) (Nat.le_of_ble_eq_true rfl) (c_E_map _ _) ?_
  refine wp_aload_n d_E_product_10 rfl ?_
  refine wp_getA d_E_product_11 fl_E_45 rfl rfl rfl ?_
  refine wp_getI d_E_product_14 fl_E_67 rfl rfl (by decide) ?_
  rw [hn]
  refine wp_callS3e d_E_product_17 cs_E_88 ⟨Nat.le_of_ble_eq_true rfl, Nat.le_of_ble_eq_true rfl⟩ (Nat.le_of_ble_eq_true rfl) (Nat.le_of_ble_eq_true rfl) (c_G_ahead _ _ (by omega) _) ?_
  refine wp_iret d_E_product_20 rfl ?_
  exact ⟨rfl, rfl⟩
theorem c_E_isStill (e : Int32) {N L : Nat} (σ : Hp) (hI : KI σ N L) : Ct m_E_isStill [.ref 3, .int e] σ (Rt (.int (bz (ahF (rdA σ 4 1500 e) (rdA σ 4 1500 e) N = rdA σ 4 1500 e))) σ) := by
  obtain ⟨hn, h1, h6, hl, h4⟩ := hI
  show WP m_E_isStill 0 [.ref 3, .int e] [] σ _
  refine wp_aload_n d_E_isStill_0 rfl ?_
  refine wp_iload_n d_E_isStill_1 rfl ?_
  refine wp_callV1e d_E_isStill_2 cv_E_84 rfl rfl rfl ⟨Nat.le_of_ble_eq_true rfl, Nat.le_of_ble_eq_true rfl⟩ (Nat.le_of_ble_eq_true rfl) (Nat.le_of_ble_eq_true rfl) (c_E_map _ _) ?_
  refine wp_aload_n d_E_isStill_5 rfl ?_
  refine wp_getA d_E_isStill_6 fl_E_45 rfl rfl rfl ?_
  refine wp_getI d_E_isStill_9 fl_E_67 rfl rfl (by decide) ?_
  rw [hn]
  refine wp_callS2e d_E_isStill_12 cs_E_114 ⟨Nat.le_of_ble_eq_true rfl, Nat.le_of_ble_eq_true rfl⟩ (Nat.le_of_ble_eq_true rfl) (Nat.le_of_ble_eq_true rfl) (c_G_isStill _ (by omega) _) ?_
  refine wp_zret d_E_isStill_15 rfl ?_ ?_
  · exact bz_nar
  exact ⟨rfl, rfl⟩
theorem c_E_rank (e : Int32) {N L : Nat} (σ : Hp) (hI : KI σ N L) : Ct m_E_rank [.ref 3, .int e] σ (Rt (.int (bcI (osF (rdA σ 4 1500 e) (nI (2 ^ N - 1))))) σ) := by
  obtain ⟨hn, h1, h6, hl, h4⟩ := hI
  show WP m_E_rank 0 [.ref 3, .int e] [] σ _
  refine wp_aload_n d_E_rank_0 rfl ?_
  refine wp_iload_n d_E_rank_1 rfl ?_
  refine wp_callV1e d_E_rank_2 cv_E_84 rfl rfl rfl ⟨Nat.le_of_ble_eq_true rfl, Nat.le_of_ble_eq_true rfl⟩ (Nat.le_of_ble_eq_true rfl) (Nat.le_of_ble_eq_true rfl) (c_E_map _ _) ?_
  refine wp_aload_n d_E_rank_5 rfl ?_
  refine wp_getA d_E_rank_6 fl_E_45 rfl rfl rfl ?_
  refine wp_getI d_E_rank_9 fl_E_67 rfl rfl (by decide) ?_
  rw [hn]
  refine wp_callS2e d_E_rank_12 cs_E_154 ⟨Nat.le_of_ble_eq_true rfl, Nat.le_of_ble_eq_true rfl⟩ (Nat.le_of_ble_eq_true rfl) (Nat.le_of_ble_eq_true rfl) (c_G_rank _ h6 _) ?_
  refine wp_iret d_E_rank_15 rfl ?_
  exact ⟨rfl, rfl⟩
/-- e, an element, is still -/
def stB (σ : Hp) (N e : Nat) : Bool := decide (ahF (σ.1 4 e) (σ.1 4 e) N = σ.1 4 e)
theorem stB_iff {σ : Hp} {N e : Nat} : stB σ N e = true ↔ ahF (σ.1 4 e) (σ.1 4 e) N = σ.1 4 e := decide_eq_true_iff
theorem c_E_stillOnes {N L M : Nat} (σ : Hp) (hI : KI σ N L) (hM : EM σ M) : Ct m_E_stillOnes [.ref 3] σ (Rt (.int (it (fun e r => r + bz (stB σ N e = true)) M 0)) σ) := by
  obtain ⟨hm, h15, -⟩ := hM
  show WP m_E_stillOnes 0 [.ref 3, .null, .null] [] σ _
  refine wp_iconst (v := 0) d_E_stillOnes_0 (by decide) ?_
  refine wp_istore1 d_E_stillOnes_1 (by decide) rfl ?_
  refine wp_iconst (v := 0) d_E_stillOnes_2 (by decide) ?_
  refine wp_istore2 d_E_stillOnes_3 (by decide) rfl ?_
  suffices H : ∀ k, k ≤ M → WP m_E_stillOnes 4 [.ref 3, .int (it (fun e r => r + bz (stB σ N e = true)) k 0), .int (nI k)] [] σ (Rt (.int (it (fun e r => r + bz (stB σ N e = true)) M 0)) σ) from H 0 (Nat.zero_le _)
  refine lp_nat (fun k hk ih => ?_)
  refine wp_iload_n d_E_stillOnes_4 rfl ?_
  refine wp_aload_n d_E_stillOnes_5 rfl ?_
  refine wp_getI d_E_stillOnes_6 fl_E_61 rfl rfl (by decide) ?_
  refine wp_icmp_ge (tgt := 29) d_E_stillOnes_9 (by decide) (fun hc => ?_) (fun hc => ?_)
  · rw [hm] at hc
    obtain rfl := Nat.le_antisymm hk (nI_ge2 hc (by omega) (by omega))
    refine wp_iload_n d_E_stillOnes_29 rfl ?_
    refine wp_iret d_E_stillOnes_30 rfl ?_
    exact ⟨rfl, rfl⟩
  · rw [hm] at hc
    have hk2 := nI_nge hc (by omega) (by omega)
    refine wp_iload_n d_E_stillOnes_12 rfl ?_
    refine wp_aload_n d_E_stillOnes_13 rfl ?_
    refine wp_iload_n d_E_stillOnes_14 rfl ?_
    refine wp_callV1e d_E_stillOnes_15 cv_E_134 rfl rfl rfl ⟨Nat.le_of_ble_eq_true rfl, Nat.le_of_ble_eq_true rfl⟩ (Nat.le_of_ble_eq_true rfl) (Nat.le_of_ble_eq_true rfl) (c_E_isStill _ _ hI) ?_
    rw [rdA_in (by omega) (by decide)]
    refine wp_callSN1e d_E_stillOnes_18 csn_E_137 ⟨Nat.le_of_ble_eq_true rfl, Nat.le_of_ble_eq_true rfl⟩ (Nat.le_of_ble_eq_true rfl) (Nat.le_of_ble_eq_true rfl) (c_P_oneIf _ _) ?_
    refine wp_iadd d_E_stillOnes_21 ?_
    refine wp_istore1 d_E_stillOnes_22 (by decide) rfl ?_
    refine wp_iinc2 d_E_stillOnes_23 (hn_ii1 _) (by decide) rfl ?_
    refine wp_goto (tgt := 4) d_E_stillOnes_26 (by decide) ?_
    rw [nI_1, bz_cong (p := ahF (σ.1 4 k) (σ.1 4 k) N = σ.1 4 k) (q := stB σ N k = true) stB_iff.symm]
    exact ih hk2
/-- e commutes with all letters -/
def ceB (σ : Hp) (N L e : Nat) : Bool := (List.range L).all fun k => decide (ahF (σ.1 4 e) (σ.1 2 k) N = ahF (σ.1 2 k) (σ.1 4 e) N)
theorem ceB_iff {σ : Hp} {N L e : Nat} : ceB σ N L e = true ↔ ∀ k, k < L → ahF (σ.1 4 e) (σ.1 2 k) N = ahF (σ.1 2 k) (σ.1 4 e) N := by
  rw [ceB, List.all_eq_true]
  exact ⟨fun q k hk => of_decide_eq_true (q k (List.mem_range.mpr hk)), fun q k hk => decide_eq_true (q k (List.mem_range.mp hk))⟩
theorem c_E_central {N L M : Nat} (σ : Hp) (hI : KI σ N L) (hM : EM σ M) : Ct m_E_central [.ref 3] σ (Rt (.int (it (fun e r => r + bz (ceB σ N L e = true)) M 0)) σ) := by
  obtain ⟨hm, h15, -⟩ := hM
  show WP m_E_central 0 [.ref 3, .null, .null] [] σ _
  refine wp_iconst (v := 0) d_E_central_0 (by decide) ?_
  refine wp_istore1 d_E_central_1 (by decide) rfl ?_
  refine wp_iconst (v := 0) d_E_central_2 (by decide) ?_
  refine wp_istore2 d_E_central_3 (by decide) rfl ?_
  suffices H : ∀ k, k ≤ M → WP m_E_central 4 [.ref 3, .int (it (fun e r => r + bz (ceB σ N L e = true)) k 0), .int (nI k)] [] σ (Rt (.int (it (fun e r => r + bz (ceB σ N L e = true)) M 0)) σ) from H 0 (Nat.zero_le _)
  refine lp_nat (fun k hk ih => ?_)
  refine wp_iload_n d_E_central_4 rfl ?_
  refine wp_aload_n d_E_central_5 rfl ?_
  refine wp_getI d_E_central_6 fl_E_61 rfl rfl (by decide) ?_
  refine wp_icmp_ge (tgt := 36) d_E_central_9 (by decide) (fun hc => ?_) (fun hc => ?_)
  · rw [hm] at hc
    obtain rfl := Nat.le_antisymm hk (nI_ge2 hc (by omega) (by omega))
    refine wp_iload_n d_E_central_36 rfl ?_
    refine wp_iret d_E_central_37 rfl ?_
    exact ⟨rfl, rfl⟩
  · rw [hm] at hc
    have hk2 := nI_nge hc (by omega) (by omega)
    refine wp_iload_n d_E_central_12 rfl ?_
    refine wp_aload_n d_E_central_13 rfl ?_
    refine wp_getA d_E_central_14 fl_E_45 rfl rfl rfl ?_
    refine wp_aload_n d_E_central_17 rfl ?_
    refine wp_iload_n d_E_central_18 rfl ?_
    refine wp_callV1e d_E_central_19 cv_E_84 rfl rfl rfl ⟨Nat.le_of_ble_eq_true rfl, Nat.le_of_ble_eq_true rfl⟩ (Nat.le_of_ble_eq_true rfl) (Nat.le_of_ble_eq_true rfl) (c_E_map _ _) ?_
    rw [rdA_in (by omega) (by decide)]
    refine wp_callV1e d_E_central_22 cv_E_156 rfl rfl rfl ⟨Nat.le_of_ble_eq_true rfl, Nat.le_of_ble_eq_true rfl⟩ (Nat.le_of_ble_eq_true rfl) (Nat.le_of_ble_eq_true rfl) (c_L_allCommuteWith _ _ hI) ?_
    refine wp_callSN1e d_E_central_25 csn_E_137 ⟨Nat.le_of_ble_eq_true rfl, Nat.le_of_ble_eq_true rfl⟩ (Nat.le_of_ble_eq_true rfl) (Nat.le_of_ble_eq_true rfl) (c_P_oneIf _ _) ?_
    refine wp_iadd d_E_central_28 ?_
    refine wp_istore1 d_E_central_29 (by decide) rfl ?_
    refine wp_iinc2 d_E_central_30 (hn_ii1 _) (by decide) rfl ?_
    refine wp_goto (tgt := 4) d_E_central_33 (by decide) ?_
    rw [nI_1, bz_cong (q := ceB σ N L k = true) ceB_iff.symm]
    exact ih hk2
theorem w_E_greatestRing {N L M : Nat} (σ : Hp) (hI : KI σ N L) (hM : EM σ M) : Ct m_E_greatestRing [.ref 3] σ (fun w τ => (∃ z, w = some (.int z)) ∧ Fp [9, 10] σ τ) := by
  obtain ⟨hm, h15, -⟩ := hM
  obtain ⟨hn, h1, h6, hl, h4⟩ := hI
  show WP m_E_greatestRing 0 [.ref 3, .null, .null] [] σ _
  refine wp_iconst (v := 1) d_E_greatestRing_0 (by decide) ?_
  refine wp_istore1 d_E_greatestRing_1 (by decide) rfl ?_
  refine wp_iconst (v := 0) d_E_greatestRing_2 (by decide) ?_
  refine wp_istore2 d_E_greatestRing_3 (by decide) rfl ?_
  suffices H : ∀ k, k ≤ M → ∀ (τ : Hp) (z : Int32), Fp [9, 10] σ τ → WP m_E_greatestRing 4 [.ref 3, .int z, .int (nI k)] [] τ (fun w τ => (∃ z, w = some (.int z)) ∧ Fp [9, 10] σ τ) from H 0 (Nat.zero_le _) _ _ Fp.rf
  refine lp_nat (fun k hk ih τ z hF => ?_)
  have e1 : τ.1 1 = σ.1 1 := (hF 1 (by decide)).1
  have e3 : τ.1 3 = σ.1 3 := (hF 3 (by decide)).1
  refine wp_iload_n d_E_greatestRing_4 rfl ?_
  refine wp_aload_n d_E_greatestRing_5 rfl ?_
  refine wp_getI d_E_greatestRing_6 fl_E_61 rfl rfl (by decide) ?_
  refine wp_icmp_ge (tgt := 49) d_E_greatestRing_9 (by decide) (fun hc => ?_) (fun hc => ?_)
  · rw [e3, hm] at hc
    obtain rfl := Nat.le_antisymm hk (nI_ge2 hc (by omega) (by omega))
    refine wp_iload_n d_E_greatestRing_49 rfl ?_
    refine wp_iret d_E_greatestRing_50 rfl ?_
    exact ⟨⟨_, rfl⟩, hF⟩
  · rw [e3, hm] at hc
    have hk2 := nI_nge hc (by omega) (by omega)
    refine wp_aload_n d_E_greatestRing_12 rfl ?_
    refine wp_getA d_E_greatestRing_13 fl_E_28 rfl rfl rfl ?_
    refine wp_aload_n d_E_greatestRing_16 rfl ?_
    refine wp_iload_n d_E_greatestRing_17 rfl ?_
    refine wp_callV1e d_E_greatestRing_18 cv_E_84 rfl rfl rfl ⟨Nat.le_of_ble_eq_true rfl, Nat.le_of_ble_eq_true rfl⟩ (Nat.le_of_ble_eq_true rfl) (Nat.le_of_ble_eq_true rfl) (c_E_map _ _) ?_
    refine wp_aload_n d_E_greatestRing_21 rfl ?_
    refine wp_getA d_E_greatestRing_22 fl_E_45 rfl rfl rfl ?_
    refine wp_getI d_E_greatestRing_25 fl_E_67 rfl rfl (by decide) ?_
    rw [e1, hn]
    refine wp_callV2 d_E_greatestRing_28 cv_E_118 rfl rfl rfl ⟨Nat.le_of_ble_eq_true rfl, Nat.le_of_ble_eq_true rfl⟩ (Nat.le_of_ble_eq_true rfl) (Nat.le_of_ble_eq_true rfl) (c_O_listOf poK_9 (by decide) _ (by omega) _) (fun v υ hv => ?_)
    obtain ⟨rfl, k2, z2, -, -, -, -, -, -, -, -, hF2⟩ := hv
    show WP m_E_greatestRing 31 _ [] υ _
    refine wp_iload_n d_E_greatestRing_31 rfl ?_
    refine wp_aload_n d_E_greatestRing_32 rfl ?_
    refine wp_getA d_E_greatestRing_33 fl_E_28 rfl rfl rfl ?_
    refine wp_callV0e d_E_greatestRing_36 cv_E_145 rfl rfl rfl ⟨Nat.le_of_ble_eq_true rfl, Nat.le_of_ble_eq_true rfl⟩ (Nat.le_of_ble_eq_true rfl) (Nat.le_of_ble_eq_true rfl) (c_O_ring poK_9 _) ?_
    refine wp_callS2e d_E_greatestRing_39 cs_E_159 ⟨Nat.le_of_ble_eq_true rfl, Nat.le_of_ble_eq_true rfl⟩ (Nat.le_of_ble_eq_true rfl) (Nat.le_of_ble_eq_true rfl) (c_Jm_max _ _ _) ?_
    refine wp_istore1 d_E_greatestRing_42 (by decide) rfl ?_
    refine wp_iinc2 d_E_greatestRing_43 (hn_ii1 _) (by decide) rfl ?_
    refine wp_goto (tgt := 4) d_E_greatestRing_46 (by decide) ?_
    rw [nI_1]
    exact ih hk2 _ _ (hF.tr hF2)
/-- e commutes with all still ones before f -/
def cwB (σ : Hp) (N e f : Nat) : Bool := (List.range f).all fun j => !stB σ N j || decide (ahF (σ.1 4 e) (σ.1 4 j) N = ahF (σ.1 4 j) (σ.1 4 e) N)
theorem cwB_iff {σ : Hp} {N e f : Nat} : cwB σ N e f = true ↔ ∀ j, j < f → stB σ N j = true → ahF (σ.1 4 e) (σ.1 4 j) N = ahF (σ.1 4 j) (σ.1 4 e) N := by
  rw [cwB, List.all_eq_true]
  constructor
  · intro q j hj hs
    have := q j (List.mem_range.mpr hj)
    rw [hs] at this
    simpa using this
  · intro q j hj
    cases hs : stB σ N j with
    | false => rfl
    | true => simpa using q j (List.mem_range.mp hj) hs
theorem c_E_commutesWithEarlierStillOnes {N L e : Nat} (he : e < 1500) (σ : Hp) (hI : KI σ N L) : Ct m_E_commutesWithEarlierStillOnes [.ref 3, .int (nI e)] σ (Rt (.int (bz (cwB σ N e e = true))) σ) := by
  have h0 := hI
  obtain ⟨hn, h1, h6, hl, h4⟩ := h0
  show WP m_E_commutesWithEarlierStillOnes 0 [.ref 3, .int (nI e), .null] [] σ _
  refine wp_iconst (v := 0) d_E_commutesWithEarlierStillOnes_0 (by decide) ?_
  refine wp_istore2 d_E_commutesWithEarlierStillOnes_1 (by decide) rfl ?_
  suffices H : ∀ k, k ≤ e → (∀ j, j < k → stB σ N j = true → ahF (σ.1 4 e) (σ.1 4 j) N = ahF (σ.1 4 j) (σ.1 4 e) N) → WP m_E_commutesWithEarlierStillOnes 2 [.ref 3, .int (nI e), .int (nI k)] [] σ (Rt (.int (bz (cwB σ N e e = true))) σ) from H 0 (Nat.zero_le _) (fun j hj => absurd hj (by omega))
  refine lp_nat (fun k hk ih hp => ?_)
  refine wp_iload_n d_E_commutesWithEarlierStillOnes_2 rfl ?_
  refine wp_iload_n d_E_commutesWithEarlierStillOnes_3 rfl ?_
  refine wp_icmp_ge (tgt := 46) d_E_commutesWithEarlierStillOnes_4 (by decide) (fun hc => ?_) (fun hc => ?_)
  · obtain rfl := Nat.le_antisymm hk (nI_ge2 hc (by omega) (by omega))
    rw [bz_t (cwB_iff.mpr hp)]
    refine wp_iconst (v := 1) d_E_commutesWithEarlierStillOnes_46 (by decide) ?_
    refine wp_zret d_E_commutesWithEarlierStillOnes_47 rfl ?_ ?_
    · decide
    · exact ⟨rfl, rfl⟩
  · have hk2 := nI_nge hc (by omega) (by omega)
    refine wp_aload_n d_E_commutesWithEarlierStillOnes_7 rfl ?_
    refine wp_iload_n d_E_commutesWithEarlierStillOnes_8 rfl ?_
    refine wp_callV1e d_E_commutesWithEarlierStillOnes_9 cv_E_134 rfl rfl rfl ⟨Nat.le_of_ble_eq_true rfl, Nat.le_of_ble_eq_true rfl⟩ (Nat.le_of_ble_eq_true rfl) (Nat.le_of_ble_eq_true rfl) (c_E_isStill _ _ hI) ?_
    rw [rdA_in (by omega) (by decide)]
    refine wp_if_eq (tgt := 40) d_E_commutesWithEarlierStillOnes_12 (by decide) (fun h2 => ?_) (fun h2 => ?_)
    · have h3 : ¬ stB σ N k = true := fun q => bz_0.mp h2 (stB_iff.mp q)
      refine wp_iinc2 d_E_commutesWithEarlierStillOnes_40 (hn_ii1 _) (by decide) rfl ?_
      refine wp_goto (tgt := 2) d_E_commutesWithEarlierStillOnes_43 (by decide) ?_
      rw [nI_1]
      exact ih hk2 (lt_s hp (fun q => absurd q h3))
    · have h3 : stB σ N k = true := stB_iff.mpr (Decidable.of_not_not (fun q => h2 (bz_0.mpr q)))
      refine wp_aload_n d_E_commutesWithEarlierStillOnes_15 rfl ?_
      refine wp_iload_n d_E_commutesWithEarlierStillOnes_16 rfl ?_
      refine wp_callV1e d_E_commutesWithEarlierStillOnes_17 cv_E_84 rfl rfl rfl ⟨Nat.le_of_ble_eq_true rfl, Nat.le_of_ble_eq_true rfl⟩ (Nat.le_of_ble_eq_true rfl) (Nat.le_of_ble_eq_true rfl) (c_E_map _ _) ?_
      refine wp_aload_n d_E_commutesWithEarlierStillOnes_20 rfl ?_
      refine wp_iload_n d_E_commutesWithEarlierStillOnes_21 rfl ?_
      refine wp_callV1e d_E_commutesWithEarlierStillOnes_22 cv_E_84 rfl rfl rfl ⟨Nat.le_of_ble_eq_true rfl, Nat.le_of_ble_eq_true rfl⟩ (Nat.le_of_ble_eq_true rfl) (Nat.le_of_ble_eq_true rfl) (c_E_map _ _) ?_
      refine wp_aload_n d_E_commutesWithEarlierStillOnes_25 rfl ?_
      refine wp_getA d_E_commutesWithEarlierStillOnes_26 fl_E_45 rfl rfl rfl ?_
      refine wp_getI d_E_commutesWithEarlierStillOnes_29 fl_E_67 rfl rfl (by decide) ?_
      rw [rdA_in (by omega) (by decide), rdA_in (by omega) (by decide), hn]
      refine wp_callS3e d_E_commutesWithEarlierStillOnes_32 cs_E_167 ⟨Nat.le_of_ble_eq_true rfl, Nat.le_of_ble_eq_true rfl⟩ (Nat.le_of_ble_eq_true rfl) (Nat.le_of_ble_eq_true rfl) (c_G_commute _ _ (by omega) _) ?_
      refine wp_if_ne (tgt := 40) d_E_commutesWithEarlierStillOnes_35 (by decide) (fun h5 => ?_) (fun h5 => ?_)
      · have h7 := Decidable.of_not_not (fun q => h5 (bz_0.mpr q))
        refine wp_iinc2 d_E_commutesWithEarlierStillOnes_40 (hn_ii1 _) (by decide) rfl ?_
        refine wp_goto (tgt := 2) d_E_commutesWithEarlierStillOnes_43 (by decide) ?_
        rw [nI_1]
        exact ih hk2 (lt_s hp (fun _ => h7))
      · rw [bz_0] at h5
        rw [bz_f (fun q => h5 (cwB_iff.mp q k hk2 h3))]
        refine wp_iconst (v := 0) d_E_commutesWithEarlierStillOnes_38 (by decide) ?_
        refine wp_zret d_E_commutesWithEarlierStillOnes_39 rfl ?_ ?_
        · decide
        · exact ⟨rfl, rfl⟩
def scB (σ : Hp) (N M : Nat) : Bool := (List.range M).all fun e => !stB σ N e || cwB σ N e e
theorem scB_iff {σ : Hp} {N M : Nat} : scB σ N M = true ↔ ∀ e, e < M → stB σ N e = true → cwB σ N e e = true := by
  rw [scB, List.all_eq_true]
  constructor
  · intro q j hj hs
    have := q j (List.mem_range.mpr hj)
    rw [hs] at this
    simpa using this
  · intro q j hj
    cases hs : stB σ N j with
    | false => rfl
    | true => simpa using q j (List.mem_range.mp hj) hs
theorem c_E_stillOnesCommute {N L M : Nat} (σ : Hp) (hI : KI σ N L) (hM : EM σ M) : Ct m_E_stillOnesCommute [.ref 3] σ (Rt (.int (bz (scB σ N M = true))) σ) := by
  obtain ⟨hm, h15, -⟩ := hM
  show WP m_E_stillOnesCommute 0 [.ref 3, .null] [] σ _
  refine wp_iconst (v := 0) d_E_stillOnesCommute_0 (by decide) ?_
  refine wp_istore1 d_E_stillOnesCommute_1 (by decide) rfl ?_
  suffices H : ∀ k, k ≤ M → (∀ e, e < k → stB σ N e = true → cwB σ N e e = true) → WP m_E_stillOnesCommute 2 [.ref 3, .int (nI k)] [] σ (Rt (.int (bz (scB σ N M = true))) σ) from H 0 (Nat.zero_le _) (fun j hj => absurd hj (by omega))
  refine lp_nat (fun k hk ih hp => ?_)
  refine wp_iload_n d_E_stillOnesCommute_2 rfl ?_
  refine wp_aload_n d_E_stillOnesCommute_3 rfl ?_
  refine wp_getI d_E_stillOnesCommute_4 fl_E_61 rfl rfl (by decide) ?_
  refine wp_icmp_ge (tgt := 34) d_E_stillOnesCommute_7 (by decide) (fun hc => ?_) (fun hc => ?_)
  · rw [hm] at hc
    obtain rfl := Nat.le_antisymm hk (nI_ge2 hc (by omega) (by omega))
    rw [bz_t (scB_iff.mpr hp)]
    refine wp_iconst (v := 1) d_E_stillOnesCommute_34 (by decide) ?_
    refine wp_zret d_E_stillOnesCommute_35 rfl ?_ ?_
    · decide
    · exact ⟨rfl, rfl⟩
  · rw [hm] at hc
    have hk2 := nI_nge hc (by omega) (by omega)
    refine wp_aload_n d_E_stillOnesCommute_10 rfl ?_
    refine wp_iload_n d_E_stillOnesCommute_11 rfl ?_
    refine wp_callV1e d_E_stillOnesCommute_12 cv_E_134 rfl rfl rfl ⟨Nat.le_of_ble_eq_true rfl, Nat.le_of_ble_eq_true rfl⟩ (Nat.le_of_ble_eq_true rfl) (Nat.le_of_ble_eq_true rfl) (c_E_isStill _ _ hI) ?_
    rw [rdA_in (by omega) (by decide)]
    refine wp_if_eq (tgt := 28) d_E_stillOnesCommute_15 (by decide) (fun h2 => ?_) (fun h2 => ?_)
    · have h3 : ¬ stB σ N k = true := fun q => bz_0.mp h2 (stB_iff.mp q)
      refine wp_iinc1 d_E_stillOnesCommute_28 (hn_ii1 _) (by decide) rfl ?_
      refine wp_goto (tgt := 2) d_E_stillOnesCommute_31 (by decide) ?_
      rw [nI_1]
      exact ih hk2 (lt_s hp (fun q => absurd q h3))
    · have h3 : stB σ N k = true := stB_iff.mpr (Decidable.of_not_not (fun q => h2 (bz_0.mpr q)))
      refine wp_aload_n d_E_stillOnesCommute_18 rfl ?_
      refine wp_iload_n d_E_stillOnesCommute_19 rfl ?_
      refine wp_callV1e d_E_stillOnesCommute_20 cv_E_164 rfl rfl rfl ⟨Nat.le_of_ble_eq_true rfl, Nat.le_of_ble_eq_true rfl⟩ (Nat.le_of_ble_eq_true rfl) (Nat.le_of_ble_eq_true rfl) (c_E_commutesWithEarlierStillOnes (by omega) _ hI) ?_
      refine wp_if_ne (tgt := 28) d_E_stillOnesCommute_23 (by decide) (fun h5 => ?_) (fun h5 => ?_)
      · have h7 := Decidable.of_not_not (fun q => h5 (bz_0.mpr q))
        refine wp_iinc1 d_E_stillOnesCommute_28 (hn_ii1 _) (by decide) rfl ?_
        refine wp_goto (tgt := 2) d_E_stillOnesCommute_31 (by decide) ?_
        rw [nI_1]
        exact ih hk2 (lt_s hp (fun _ => h7))
      · rw [bz_0] at h5
        rw [bz_f (fun q => h5 (scB_iff.mp q k hk2 h3))]
        refine wp_iconst (v := 0) d_E_stillOnesCommute_26 (by decide) ?_
        refine wp_zret d_E_stillOnesCommute_27 rfl ?_ ?_
        · decide
        · exact ⟨rfl, rfl⟩
def svB (σ : Hp) (N : Nat) (a b z : Int32) (x : Nat) : Bool := decide ((if z = 0 then ahF (σ.1 4 x) (rdA σ 4 1500 a) N else ahF (rdA σ 4 1500 a) (σ.1 4 x) N) = rdA σ 4 1500 b)
theorem c_E_solves {x : Nat} (hx : x < 1500) (a b z : Int32) {N L : Nat} (σ : Hp) (hI : KI σ N L) : Ct m_E_solves [.ref 3, .int (nI x), .int a, .int b, .int z] σ (Rt (.int (bz (svB σ N a b z x = true))) σ) := by
  show WP m_E_solves 0 [.ref 3, .int (nI x), .int a, .int b, .int z] [] σ _
  have fin : ∀ u : Int32, u = (if z = 0 then ahF (σ.1 4 x) (rdA σ 4 1500 a) N else ahF (rdA σ 4 1500 a) (σ.1 4 x) N) → WP m_E_solves 20 [.ref 3, .int (nI x), .int a, .int b, .int z] [.int u] σ (Rt (.int (bz (svB σ N a b z x = true))) σ) := by
    intro u hu
    subst hu
    refine wp_aload_n d_E_solves_20 rfl ?_
    refine wp_iload_n d_E_solves_21 rfl ?_
    refine wp_callV1e d_E_solves_22 cv_E_84 rfl rfl rfl ⟨Nat.le_of_ble_eq_true rfl, Nat.le_of_ble_eq_true rfl⟩ (Nat.le_of_ble_eq_true rfl) (Nat.le_of_ble_eq_true rfl) (c_E_map _ _) ?_
    refine wp_icmp_ne (tgt := 32) d_E_solves_25 (by decide) (fun h2 => ?_) (fun h2 => ?_)
    · rw [bz_f (p := svB σ N a b z x = true) (fun q => h2 (of_decide_eq_true q))]
      refine wp_iconst (v := 0) d_E_solves_32 (by decide) ?_
      refine wp_zret d_E_solves_33 rfl ?_ ?_
      · decide
      · exact ⟨rfl, rfl⟩
    · rw [bz_t (p := svB σ N a b z x = true) (decide_eq_true h2)]
      refine wp_iconst (v := 1) d_E_solves_28 (by decide) ?_
      refine wp_goto (tgt := 33) d_E_solves_29 (by decide) ?_
      refine wp_zret d_E_solves_33 rfl ?_ ?_
      · decide
      · exact ⟨rfl, rfl⟩
  refine wp_iload d_E_solves_0 rfl ?_
  refine wp_if_eq (tgt := 14) d_E_solves_2 (by decide) (fun h1 => ?_) (fun h1 => ?_)
  · refine wp_aload_n d_E_solves_14 rfl ?_
    refine wp_iload_n d_E_solves_15 rfl ?_
    refine wp_iload_n d_E_solves_16 rfl ?_
    refine wp_callV2e d_E_solves_17 cv_E_170 rfl rfl rfl ⟨Nat.le_of_ble_eq_true rfl, Nat.le_of_ble_eq_true rfl⟩ (Nat.le_of_ble_eq_true rfl) (Nat.le_of_ble_eq_true rfl) (c_E_product _ _ _ hI) ?_
    rw [rdA_in hx (by decide)]
    exact fin _ (by rw [if_pos h1])
  · refine wp_aload_n d_E_solves_5 rfl ?_
    refine wp_iload_n d_E_solves_6 rfl ?_
    refine wp_iload_n d_E_solves_7 rfl ?_
    refine wp_callV2e d_E_solves_8 cv_E_170 rfl rfl rfl ⟨Nat.le_of_ble_eq_true rfl, Nat.le_of_ble_eq_true rfl⟩ (Nat.le_of_ble_eq_true rfl) (Nat.le_of_ble_eq_true rfl) (c_E_product _ _ _ hI) ?_
    refine wp_goto (tgt := 20) d_E_solves_11 (by decide) ?_
    rw [rdA_in hx (by decide)]
    exact fin _ (by rw [if_neg h1])
theorem c_E_solutions (a b z : Int32) {N L M : Nat} (σ : Hp) (hI : KI σ N L) (hM : EM σ M) : Ct m_E_solutions [.ref 3, .int a, .int b, .int z] σ (Rt (.int (it (fun x r => r + bz (svB σ N a b z x = true)) M 0)) σ) := by
  obtain ⟨hm, h15, -⟩ := hM
  show WP m_E_solutions 0 [.ref 3, .int a, .int b, .int z, .null, .null] [] σ _
  refine wp_iconst (v := 0) d_E_solutions_0 (by decide) ?_
  refine wp_istore4 d_E_solutions_1 (by decide) rfl ?_
  refine wp_iconst (v := 0) d_E_solutions_3 (by decide) ?_
  refine wp_istore5 d_E_solutions_4 (by decide) rfl ?_
  suffices H : ∀ k, k ≤ M → WP m_E_solutions 6 [.ref 3, .int a, .int b, .int z, .int (it (fun x r => r + bz (svB σ N a b z x = true)) k 0), .int (nI k)] [] σ (Rt (.int (it (fun x r => r + bz (svB σ N a b z x = true)) M 0)) σ) from H 0 (Nat.zero_le _)
  refine lp_nat (fun k hk ih => ?_)
  refine wp_iload d_E_solutions_6 rfl ?_
  refine wp_aload_n d_E_solutions_8 rfl ?_
  refine wp_getI d_E_solutions_9 fl_E_61 rfl rfl (by decide) ?_
  refine wp_icmp_ge (tgt := 38) d_E_solutions_12 (by decide) (fun hc => ?_) (fun hc => ?_)
  · rw [hm] at hc
    obtain rfl := Nat.le_antisymm hk (nI_ge2 hc (by omega) (by omega))
    refine wp_iload d_E_solutions_38 rfl ?_
    refine wp_iret d_E_solutions_40 rfl ?_
    exact ⟨rfl, rfl⟩
  · rw [hm] at hc
    have hk2 := nI_nge hc (by omega) (by omega)
    refine wp_iload d_E_solutions_15 rfl ?_
    refine wp_aload_n d_E_solutions_17 rfl ?_
    refine wp_iload d_E_solutions_18 rfl ?_
    refine wp_iload_n d_E_solutions_20 rfl ?_
    refine wp_iload_n d_E_solutions_21 rfl ?_
    refine wp_iload_n d_E_solutions_22 rfl ?_
    refine wp_callV4e d_E_solutions_23 cv_E_173 rfl rfl rfl ⟨Nat.le_of_ble_eq_true rfl, Nat.le_of_ble_eq_true rfl⟩ (Nat.le_of_ble_eq_true rfl) (Nat.le_of_ble_eq_true rfl) (c_E_solves (by omega) _ _ _ _ hI) ?_
    refine wp_callSN1e d_E_solutions_26 csn_E_137 ⟨Nat.le_of_ble_eq_true rfl, Nat.le_of_ble_eq_true rfl⟩ (Nat.le_of_ble_eq_true rfl) (Nat.le_of_ble_eq_true rfl) (c_P_oneIf _ _) ?_
    refine wp_iadd d_E_solutions_29 ?_
    refine wp_istore4 d_E_solutions_30 (by decide) rfl ?_
    refine wp_iinc5 d_E_solutions_32 (hn_ii1 _) (by decide) rfl ?_
    refine wp_goto (tgt := 6) d_E_solutions_35 (by decide) ?_
    rw [nI_1]
    exact ih hk2
def fsF (p : Nat → Bool) : Nat → Nat → Int32
  | 0, _ => -9
  | d + 1, k => if p k = true then nI k else fsF p d (k + 1)
theorem c_E_leastSolution (a b z : Int32) {N L M : Nat} (σ : Hp) (hI : KI σ N L) (hM : EM σ M) : Ct m_E_leastSolution [.ref 3, .int a, .int b, .int z] σ (Rt (.int (fsF (svB σ N a b z) M 0)) σ) := by
  obtain ⟨hm, h15, -⟩ := hM
  show WP m_E_leastSolution 0 [.ref 3, .int a, .int b, .int z, .null] [] σ _
  refine wp_iconst (v := 0) d_E_leastSolution_0 (by decide) ?_
  refine wp_istore4 d_E_leastSolution_1 (by decide) rfl ?_
  suffices H : ∀ k, k ≤ M → fsF (svB σ N a b z) (M - k) k = fsF (svB σ N a b z) M 0 → WP m_E_leastSolution 3 [.ref 3, .int a, .int b, .int z, .int (nI k)] [] σ (Rt (.int (fsF (svB σ N a b z) M 0)) σ) from H 0 (Nat.zero_le _) rfl
  refine lp_nat (fun k hk ih hs => ?_)
  refine wp_iload d_E_leastSolution_3 rfl ?_
  refine wp_aload_n d_E_leastSolution_5 rfl ?_
  refine wp_getI d_E_leastSolution_6 fl_E_61 rfl rfl (by decide) ?_
  refine wp_icmp_ge (tgt := 33) d_E_leastSolution_9 (by decide) (fun hc => ?_) (fun hc => ?_)
  · rw [hm] at hc
    obtain rfl := Nat.le_antisymm hk (nI_ge2 hc (by omega) (by omega))
    rw [Nat.sub_self, fsF] at hs
    refine wp_bipush (v := -9) d_E_leastSolution_33 (by decide) ?_
    refine wp_iret d_E_leastSolution_35 rfl ?_
    exact ⟨by rw [← hs], rfl⟩
  · rw [hm] at hc
    have hk2 := nI_nge hc (by omega) (by omega)
    obtain ⟨d, hd⟩ : ∃ d, M - k = d + 1 := ⟨M - k - 1, by omega⟩
    rw [hd, fsF] at hs
    refine wp_aload_n d_E_leastSolution_12 rfl ?_
    refine wp_iload d_E_leastSolution_13 rfl ?_
    refine wp_iload_n d_E_leastSolution_15 rfl ?_
    refine wp_iload_n d_E_leastSolution_16 rfl ?_
    refine wp_iload_n d_E_leastSolution_17 rfl ?_
    refine wp_callV4e d_E_leastSolution_18 cv_E_173 rfl rfl rfl ⟨Nat.le_of_ble_eq_true rfl, Nat.le_of_ble_eq_true rfl⟩ (Nat.le_of_ble_eq_true rfl) (Nat.le_of_ble_eq_true rfl) (c_E_solves (by omega) _ _ _ _ hI) ?_
    refine wp_if_eq (tgt := 27) d_E_leastSolution_21 (by decide) (fun h2 => ?_) (fun h2 => ?_)
    · rw [bz_0] at h2
      rw [if_neg h2] at hs
      refine wp_iinc4 d_E_leastSolution_27 (hn_ii1 _) (by decide) rfl ?_
      refine wp_goto (tgt := 3) d_E_leastSolution_30 (by decide) ?_
      rw [nI_1]
      exact ih hk2 (by rw [show M - (k + 1) = d by omega]; exact hs)
    · rw [if_pos (Decidable.of_not_not (fun q => h2 (bz_0.mpr q)))] at hs
      refine wp_iload d_E_leastSolution_24 rfl ?_
      refine wp_iret d_E_leastSolution_26 rfl ?_
      exact ⟨by rw [← hs], rfl⟩
/-! the list of elements is made: what is changed -/
theorem kp_ne {σ : Hp} {a b q : Nat} {key x : Int32} (h1 : q ≠ a) (h2 : q ≠ b) : (kpW σ a b key x).1 q = σ.1 q := by
  rw [kpW, wrA_ne h2, wrA_ne h1]
def emW (σ : Hp) (m : Int32) : Hp := wI (kpW (wrA σ 4 1500 (σ.1 3 6) m) 7 8 m (σ.1 3 6)) 3 6 (σ.1 3 6 + 1)
theorem c_E_meet (m : Int32) (σ : Hp) : Ct m_E_meet [.ref 3, .int m] σ (Rv (emW σ m)) := by
  show WP m_E_meet 0 [.ref 3, .int m] [] σ _
  refine wp_aload_n d_E_meet_0 rfl ?_
  refine wp_getA d_E_meet_1 fl_E_9 rfl rfl rfl ?_
  refine wp_aload_n d_E_meet_4 rfl ?_
  refine wp_getI d_E_meet_5 fl_E_61 rfl rfl (by decide) ?_
  refine wp_iload_n d_E_meet_8 rfl ?_
  refine wp_callSN3v d_E_meet_9 csn_E_99 ⟨Nat.le_of_ble_eq_true rfl, Nat.le_of_ble_eq_true rfl⟩ (Nat.le_of_ble_eq_true rfl) (Nat.le_of_ble_eq_true rfl) (c_P_put (a := 4) rfl (by decide) _ _ _) ?_
  refine wp_aload_n d_E_meet_12 rfl ?_
  refine wp_getA d_E_meet_13 fl_E_21 rfl rfl rfl ?_
  refine wp_iload_n d_E_meet_16 rfl ?_
  refine wp_aload_n d_E_meet_17 rfl ?_
  refine wp_getI d_E_meet_18 fl_E_61 rfl rfl (by decide) ?_
  refine wp_callV2v d_E_meet_21 cv_E_103 rfl rfl rfl ⟨Nat.le_of_ble_eq_true rfl, Nat.le_of_ble_eq_true rfl⟩ (Nat.le_of_ble_eq_true rfl) (Nat.le_of_ble_eq_true rfl) (c_F_keep fiK_6 _ _ _) ?_
  refine wp_aload_n d_E_meet_24 rfl ?_
  refine wp_dup d_E_meet_25 rfl ?_
  refine wp_getI d_E_meet_26 fl_E_61 rfl rfl (by decide) ?_
  refine wp_iconst (v := 1) d_E_meet_29 (by decide) ?_
  refine wp_iadd d_E_meet_30 ?_
  refine wp_putI d_E_meet_31 fp_E_61 rfl rfl (by decide) rfl rfl ?_
  refine wp_vret d_E_meet_34 rfl ?_
  refine ⟨rfl, ?_⟩
  rw [emW, kp_ne (by decide) (by decide), wrA_ne (by decide)]
def eS : List Nat := [3, 4, 5, 7, 8, 12, 13, 14]
theorem emW_Fp {σ : Hp} {m : Int32} : Fp eS σ (emW σ m) := by
  refine Fp.wI ?_ (by decide)
  exact ((Fp.rf.wrA (by decide)).wrA (by decide)).wrA (by decide)
theorem emW_6 {σ : Hp} {m : Int32} : (emW σ m).1 3 6 = σ.1 3 6 + 1 := by
  rw [emW, wI_eq]; rfl
theorem emW_7 {σ : Hp} {m : Int32} : (emW σ m).1 3 7 = σ.1 3 7 := by
  rw [emW, wI_eq, upd_ne (by decide), kp_ne (by decide) (by decide), wrA_ne (by decide)]
/-- tell, of any of 0 .. 7: some int; the powers alone are changed -/
theorem w_E_tell {N L w0 : Nat} (e : Int32) (hw : w0 < 8) (σ : Hp) (hI : KI σ N L) : Ct m_E_tell [.ref 3, .int e, .int (nI w0)] σ (fun w τ => (∃ z, w = some (.int z)) ∧ Fp [9, 10] σ τ) := by
  have h0 := hI
  obtain ⟨hn, h1, h6, hl, h4⟩ := h0
  show WP m_E_tell 0 [.ref 3, .int e, .int (nI w0)] [] σ _
  refine wp_aload_n d_E_tell_0 rfl ?_
  refine wp_getA d_E_tell_1 fl_E_28 rfl rfl rfl ?_
  refine wp_aload_n d_E_tell_4 rfl ?_
  refine wp_iload_n d_E_tell_5 rfl ?_
  refine wp_callV1e d_E_tell_6 cv_E_84 rfl rfl rfl ⟨Nat.le_of_ble_eq_true rfl, Nat.le_of_ble_eq_true rfl⟩ (Nat.le_of_ble_eq_true rfl) (Nat.le_of_ble_eq_true rfl) (c_E_map _ _) ?_
  refine wp_aload_n d_E_tell_9 rfl ?_
  refine wp_getA d_E_tell_10 fl_E_45 rfl rfl rfl ?_
  refine wp_getI d_E_tell_13 fl_E_67 rfl rfl (by decide) ?_
  rw [hn]
  refine wp_callV2 d_E_tell_16 cv_E_118 rfl rfl rfl ⟨Nat.le_of_ble_eq_true rfl, Nat.le_of_ble_eq_true rfl⟩ (Nat.le_of_ble_eq_true rfl) (Nat.le_of_ble_eq_true rfl) (c_O_listOf poK_9 (by decide) _ (by omega) _) (fun v τ hv => ?_)
  obtain ⟨rfl, k, z, hk1, hk16, hne, hpl, -, t1, t2, -, hF⟩ := hv
  show WP m_E_tell 19 _ [] τ _
  have e1 : τ.1 1 = σ.1 1 := (hF 1 (by decide)).1
  have hI2 := hI.mv e1
  have hn2 : τ.1 1 1 = nI N := hI2.1
  rcases (show w0 = 0 ∨ w0 = 1 ∨ w0 = 2 ∨ w0 = 3 ∨ w0 = 4 ∨ w0 = 5 ∨ w0 = 6 ∨ w0 = 7 by omega) with rfl | rfl | rfl | rfl | rfl | rfl | rfl | rfl
  · refine wp_iload_n d_E_tell_19 rfl ?_
    refine wp_tabIn (tgt := 64) (off := 44) d_E_tell_20 (by decide) (by decide) (by decide) (by decide) ?_
    refine wp_aload_n d_E_tell_64 rfl ?_
    refine wp_iload_n d_E_tell_65 rfl ?_
    refine wp_callV1e d_E_tell_66 cv_E_84 rfl rfl rfl ⟨Nat.le_of_ble_eq_true rfl, Nat.le_of_ble_eq_true rfl⟩ (Nat.le_of_ble_eq_true rfl) (Nat.le_of_ble_eq_true rfl) (c_E_map _ _) ?_
    refine wp_aload_n d_E_tell_69 rfl ?_
    refine wp_getA d_E_tell_70 fl_E_45 rfl rfl rfl ?_
    refine wp_getI d_E_tell_73 fl_E_67 rfl rfl (by decide) ?_
    rw [hn2]
    refine wp_callS2e d_E_tell_76 cs_E_121 ⟨Nat.le_of_ble_eq_true rfl, Nat.le_of_ble_eq_true rfl⟩ (Nat.le_of_ble_eq_true rfl) (Nat.le_of_ble_eq_true rfl) (c_G_toNumber _ (by omega) _) ?_
    refine wp_iret d_E_tell_79 rfl ?_
    exact ⟨⟨_, rfl⟩, hF⟩
  · refine wp_iload_n d_E_tell_19 rfl ?_
    refine wp_tabIn (tgt := 80) (off := 60) d_E_tell_20 (by decide) (by decide) (by decide) (by decide) ?_
    refine wp_aload_n d_E_tell_80 rfl ?_
    refine wp_iload_n d_E_tell_81 rfl ?_
    refine wp_callV1e d_E_tell_82 cv_E_125 rfl rfl rfl ⟨Nat.le_of_ble_eq_true rfl, Nat.le_of_ble_eq_true rfl⟩ (Nat.le_of_ble_eq_true rfl) (Nat.le_of_ble_eq_true rfl) (c_E_rank _ _ hI2) ?_
    refine wp_iret d_E_tell_85 rfl ?_
    exact ⟨⟨_, rfl⟩, hF⟩
  · refine wp_iload_n d_E_tell_19 rfl ?_
    refine wp_tabIn (tgt := 86) (off := 66) d_E_tell_20 (by decide) (by decide) (by decide) (by decide) ?_
    refine wp_aload_n d_E_tell_86 rfl ?_
    refine wp_iload_n d_E_tell_87 rfl ?_
    refine wp_callV1e d_E_tell_88 cv_E_84 rfl rfl rfl ⟨Nat.le_of_ble_eq_true rfl, Nat.le_of_ble_eq_true rfl⟩ (Nat.le_of_ble_eq_true rfl) (Nat.le_of_ble_eq_true rfl) (c_E_map _ _) ?_
    refine wp_aload_n d_E_tell_91 rfl ?_
    refine wp_getA d_E_tell_92 fl_E_45 rfl rfl rfl ?_
    refine wp_getI d_E_tell_95 fl_E_67 rfl rfl (by decide) ?_
    rw [hn2]
    refine wp_callS2e d_E_tell_98 cs_E_128 ⟨Nat.le_of_ble_eq_true rfl, Nat.le_of_ble_eq_true rfl⟩ (Nat.le_of_ble_eq_true rfl) (Nat.le_of_ble_eq_true rfl) (c_G_kernel _ (by omega) _) ?_
    refine wp_aload_n d_E_tell_101 rfl ?_
    refine wp_getA d_E_tell_102 fl_E_45 rfl rfl rfl ?_
    refine wp_getI d_E_tell_105 fl_E_67 rfl rfl (by decide) ?_
    rw [hn2]
    refine wp_callS2e d_E_tell_108 cs_E_121 ⟨Nat.le_of_ble_eq_true rfl, Nat.le_of_ble_eq_true rfl⟩ (Nat.le_of_ble_eq_true rfl) (Nat.le_of_ble_eq_true rfl) (c_G_toNumber _ (by omega) _) ?_
    refine wp_iret d_E_tell_111 rfl ?_
    exact ⟨⟨_, rfl⟩, hF⟩
  · refine wp_iload_n d_E_tell_19 rfl ?_
    refine wp_tabIn (tgt := 112) (off := 92) d_E_tell_20 (by decide) (by decide) (by decide) (by decide) ?_
    refine wp_aload_n d_E_tell_112 rfl ?_
    refine wp_getA d_E_tell_113 fl_E_37 rfl rfl rfl ?_
    refine wp_iload_n d_E_tell_116 rfl ?_
    refine wp_callV1e d_E_tell_117 cv_E_131 rfl rfl rfl ⟨Nat.le_of_ble_eq_true rfl, Nat.le_of_ble_eq_true rfl⟩ (Nat.le_of_ble_eq_true rfl) (Nat.le_of_ble_eq_true rfl) (c_R_lengthOf trK_11 _ _) ?_
    refine wp_iret d_E_tell_120 rfl ?_
    exact ⟨⟨_, rfl⟩, hF⟩
  · refine wp_iload_n d_E_tell_19 rfl ?_
    refine wp_tabIn (tgt := 121) (off := 101) d_E_tell_20 (by decide) (by decide) (by decide) (by decide) ?_
    refine wp_aload_n d_E_tell_121 rfl ?_
    refine wp_iload_n d_E_tell_122 rfl ?_
    refine wp_callV1e d_E_tell_123 cv_E_134 rfl rfl rfl ⟨Nat.le_of_ble_eq_true rfl, Nat.le_of_ble_eq_true rfl⟩ (Nat.le_of_ble_eq_true rfl) (Nat.le_of_ble_eq_true rfl) (c_E_isStill _ _ hI2) ?_
    refine wp_callSN1e d_E_tell_126 csn_E_137 ⟨Nat.le_of_ble_eq_true rfl, Nat.le_of_ble_eq_true rfl⟩ (Nat.le_of_ble_eq_true rfl) (Nat.le_of_ble_eq_true rfl) (c_P_oneIf _ _) ?_
    refine wp_iret d_E_tell_129 rfl ?_
    exact ⟨⟨_, rfl⟩, hF⟩
  · refine wp_iload_n d_E_tell_19 rfl ?_
    refine wp_tabIn (tgt := 130) (off := 110) d_E_tell_20 (by decide) (by decide) (by decide) (by decide) ?_
    refine wp_aload_n d_E_tell_130 rfl ?_
    refine wp_getA d_E_tell_131 fl_E_28 rfl rfl rfl ?_
    refine wp_callV0e d_E_tell_134 cv_E_141 rfl rfl rfl ⟨Nat.le_of_ble_eq_true rfl, Nat.le_of_ble_eq_true rfl⟩ (Nat.le_of_ble_eq_true rfl) (Nat.le_of_ble_eq_true rfl) (c_O_tail poK_9 _) ?_
    refine wp_iret d_E_tell_137 rfl ?_
    exact ⟨⟨_, rfl⟩, hF⟩
  · refine wp_iload_n d_E_tell_19 rfl ?_
    refine wp_tabIn (tgt := 138) (off := 118) d_E_tell_20 (by decide) (by decide) (by decide) (by decide) ?_
    refine wp_aload_n d_E_tell_138 rfl ?_
    refine wp_getA d_E_tell_139 fl_E_28 rfl rfl rfl ?_
    refine wp_callV0e d_E_tell_142 cv_E_145 rfl rfl rfl ⟨Nat.le_of_ble_eq_true rfl, Nat.le_of_ble_eq_true rfl⟩ (Nat.le_of_ble_eq_true rfl) (Nat.le_of_ble_eq_true rfl) (c_O_ring poK_9 _) ?_
    refine wp_iret d_E_tell_145 rfl ?_
    exact ⟨⟨_, rfl⟩, hF⟩
  · refine wp_iload_n d_E_tell_19 rfl ?_
    refine wp_tabOut (tgt := 146) d_E_tell_20 (by decide) (by decide) ?_
    refine wp_aload_n d_E_tell_146 rfl ?_
    refine wp_aload_n d_E_tell_147 rfl ?_
    refine wp_getA d_E_tell_148 fl_E_28 rfl rfl rfl ?_
    refine wp_aload_n d_E_tell_151 rfl ?_
    refine wp_getA d_E_tell_152 fl_E_45 rfl rfl rfl ?_
    refine wp_getI d_E_tell_155 fl_E_67 rfl rfl (by decide) ?_
    rw [hn2]
    obtain ⟨T, hT, hTk⟩ : ∃ T, τ.1 9 2 = nI T ∧ T ≤ k := by
      rw [t2]
      rcases hpl with ⟨i, hi, -, -, rfl⟩ | ⟨-, rfl⟩
      · refine ⟨i, ?_, by omega⟩
        unfold mxI
        split
        · rfl
        · rename_i q
          have := (nI_leI (a := i) (b := 0) (by omega) (by omega)).mp (k2_le q)
          rw [show i = 0 by omega]; rfl
      · exact ⟨0, by decide, by omega⟩
    refine wp_callV1 d_E_tell_158 cv_E_148 rfl rfl rfl ⟨Nat.le_of_ble_eq_true rfl, Nat.le_of_ble_eq_true rfl⟩ (Nat.le_of_ble_eq_true rfl) (Nat.le_of_ble_eq_true rfl) (c_O_stillOne poK_9 (by omega) _ t1 hk16 hT hTk) (fun v2 υ hv2 => ?_)
    obtain ⟨z2, rfl, rfl, -⟩ := hv2
    show WP m_E_tell 161 _ [.int z2, .ref 3] _ _
    refine wp_callV1e d_E_tell_161 cv_E_151 rfl rfl rfl ⟨Nat.le_of_ble_eq_true rfl, Nat.le_of_ble_eq_true rfl⟩ (Nat.le_of_ble_eq_true rfl) (Nat.le_of_ble_eq_true rfl) (c_E_numberOf _ _) ?_
    refine wp_iret d_E_tell_164 rfl ?_
    exact ⟨⟨_, rfl⟩, hF⟩
