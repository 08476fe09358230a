/-! contracts: the reference, what it reads of maps -/
def MB (σ : Hp) (N : Nat) : Prop := σ.1 56 1 = nI N ∧ 1 ≤ N ∧ N ≤ 6
theorem MB.mv {σ τ : Hp} {N : Nat} (h : MB σ N) (e : τ.1 56 1 = σ.1 56 1) : MB τ N := by rw [MB, e]; exact h
theorem c_M_in (v a b : Int32) (σ : Hp) : Ct m_M_in [.int v, .int a, .int b] σ (Rt (.int (bz (a ≤ v ∧ v ≤ b))) σ) := by
  show WP m_M_in 0 [.int v, .int a, .int b] [] σ _
  refine wp_iload_n d_M_in_0 rfl ?_
  refine wp_iload_n d_M_in_1 rfl ?_
  refine wp_icmp_lt (tgt := 14) d_M_in_2 (by decide) (fun h1 => ?_) (fun h1 => ?_)
  · rw [bz_f (fun q => absurd h1 (k2_nlt q.1))]
    refine wp_iconst (v := 0) d_M_in_14 (by decide) ?_
    refine wp_zret d_M_in_15 rfl ?_ ?_
    · decide
    · exact ⟨rfl, rfl⟩
  refine wp_iload_n d_M_in_5 rfl ?_
  refine wp_iload_n d_M_in_6 rfl ?_
  refine wp_icmp_gt (tgt := 14) d_M_in_7 (by decide) (fun h2 => ?_) (fun h2 => ?_)
  · rw [bz_f (fun q => absurd h2 (k2_nlt q.2))]
    refine wp_iconst (v := 0) d_M_in_14 (by decide) ?_
    refine wp_zret d_M_in_15 rfl ?_ ?_
    · decide
    · exact ⟨rfl, rfl⟩
  · rw [bz_t ⟨k2_le h1, k2_le h2⟩]
    refine wp_iconst (v := 1) d_M_in_10 (by decide) ?_
    refine wp_goto (tgt := 15) d_M_in_11 (by decide) ?_
    refine wp_zret d_M_in_15 rfl ?_ ?_
    · decide
    · exact ⟨rfl, rfl⟩
theorem c_M_power {k N : Nat} (hk : k < 2 ^ 31) (σ : Hp) (hB : MB σ N) : Ct m_M_power [.ref 56, .int (nI k)] σ (Rt (.int (nI (N ^ k))) σ) := by
  show WP m_M_power 0 [.ref 56, .int (nI k), .null, .null] [] σ _
  refine wp_iconst (v := 1) d_M_power_0 (by decide) ?_
  refine wp_istore2 d_M_power_1 (by decide) rfl ?_
  refine wp_iconst (v := 0) d_M_power_2 (by decide) ?_
  refine wp_istore3 d_M_power_3 (by decide) rfl ?_
  suffices H : ∀ j, j ≤ k → WP m_M_power 4 [.ref 56, .int (nI k), .int (nI (N ^ j)), .int (nI j)] [] σ (Rt (.int (nI (N ^ k))) σ) from H 0 (Nat.zero_le _)
  refine lp_nat (fun j hj ih => ?_)
  refine wp_iload_n d_M_power_4 rfl ?_
  refine wp_iload_n d_M_power_5 rfl ?_
  refine wp_icmp_ge (tgt := 22) d_M_power_6 (by decide) (fun hc => ?_) (fun hc => ?_)
  · obtain rfl := Nat.le_antisymm hj (nI_ge2 hc (by omega) (by omega))
    refine wp_iload_n d_M_power_22 rfl ?_
    refine wp_iret d_M_power_23 rfl ?_
    exact ⟨rfl, rfl⟩
  · have hj2 := nI_nge hc (by omega) (by omega)
    refine wp_iload_n d_M_power_9 rfl ?_
    refine wp_aload_n d_M_power_10 rfl ?_
    refine wp_getI d_M_power_11 fl_M_7 rfl rfl (by decide) ?_
    refine wp_imul d_M_power_14 ?_
    refine wp_istore2 d_M_power_15 (by decide) rfl ?_
    refine wp_iinc3 d_M_power_16 (hn_ii1 _) (by decide) rfl ?_
    refine wp_goto (tgt := 4) d_M_power_19 (by decide) ?_
    rw [nI_1, hB.1, pk_mul, ← Nat.pow_succ]
    exact ih hj2
theorem c_M_goes {m i N : Nat} (hm : m < 2 ^ 31) (hi : i ≤ 6) (σ : Hp) (hB : MB σ N) : Ct m_M_goes [.ref 56, .int (nI m), .int (nI i)] σ (Rt (.int (nI (gN N m i))) σ) := by
  have hp := pow_le6 hB.2.1 hB.2.2 hi
  have hp0 : 0 < N ^ i := Nat.pow_pos hB.2.1
  have hq : m / N ^ i < 2 ^ 31 := Nat.lt_of_le_of_lt (Nat.div_le_self _ _) hm
  show WP m_M_goes 0 [.ref 56, .int (nI m), .int (nI i)] [] σ _
  refine wp_iload_n d_M_goes_0 rfl ?_
  refine wp_aload_n d_M_goes_1 rfl ?_
  refine wp_iload_n d_M_goes_2 rfl ?_
  refine wp_callV1e d_M_goes_3 cv_M_92 rfl rfl rfl ⟨Nat.le_of_ble_eq_true rfl, Nat.le_of_ble_eq_true rfl⟩ (Nat.le_of_ble_eq_true rfl) (Nat.le_of_ble_eq_true rfl) (c_M_power (by omega) _ hB) ?_
  refine wp_idiv d_M_goes_6 (nI_ne0 hp0 (by omega)) ?_
  rw [pk_div hm hp0 (by omega)]
  refine wp_aload_n d_M_goes_7 rfl ?_
  refine wp_getI d_M_goes_8 fl_M_7 rfl rfl (by decide) ?_
  rw [hB.1]
  refine wp_irem d_M_goes_11 (nI_ne0 hB.2.1 (by have := hB.2.2; omega)) ?_
  rw [pk_rem hq hB.2.1 (by have := hB.2.2; omega)]
  refine wp_iret d_M_goes_12 rfl ?_
  exact ⟨rfl, rfl⟩
theorem nI_down {N j : Nat} (hN : N < 2 ^ 31) (h : nI (N - j) - 1 < 0) (hj : j ≤ N) : j = N := by
  rcases Nat.lt_or_ge j N with q | q
  · obtain ⟨d, hd⟩ : ∃ d, N - j = d + 1 := ⟨N - j - 1, by omega⟩
    rw [hd, nI_pred] at h
    exact absurd h (nI_pos (by omega))
  · omega
theorem nI_down2 {N j : Nat} (h : ¬ nI (N - j) - 1 < 0) : j < N ∧ nI (N - j) - 1 = nI (N - 1 - j) := by
  rcases Nat.lt_or_ge j N with q | q
  · refine ⟨q, ?_⟩
    obtain ⟨d, hd⟩ : ∃ d, N - j = d + 1 := ⟨N - j - 1, by omega⟩
    rw [hd, nI_pred, show N - 1 - j = d by omega]
  · rw [show N - j = 0 by omega] at h
    exact absurd (by decide) h
theorem nI_down3 {N j : Nat} (h : j < N) : nI (N - 1 - j) + (-1) = nI (N - (j + 1)) - 1 := by
  rw [show N - 1 - j = N - (j + 1) by omega, Int32.sub_eq_add_neg]
theorem c_M_both {a b N : Nat} (ha : a < 2 ^ 31) (hb : b < 2 ^ 31) (σ : Hp) (hB : MB σ N) : Ct m_M_both [.ref 56, .int (nI a), .int (nI b)] σ (Rt (.int (nI (bN N a b))) σ) := by
  have h6 := hB.2.2
  show WP m_M_both 0 [.ref 56, .int (nI a), .int (nI b), .null, .null] [] σ _
  refine wp_iconst (v := 0) d_M_both_0 (by decide) ?_
  refine wp_istore3 d_M_both_1 (by decide) rfl ?_
  refine wp_aload_n d_M_both_2 rfl ?_
  refine wp_getI d_M_both_3 fl_M_7 rfl rfl (by decide) ?_
  refine wp_iconst (v := 1) d_M_both_6 (by decide) ?_
  refine wp_isub d_M_both_7 ?_
  refine wp_istore4 d_M_both_8 (by decide) rfl ?_
  rw [hB.1]
  suffices H : ∀ j, j ≤ N → WP m_M_both 10 [.ref 56, .int (nI a), .int (nI b), .int (nI (hz N N (fun i => gN N b (gN N a i)) j)), .int (nI (N - j) - 1)] [] σ (Rt (.int (nI (bN N a b))) σ) from H 0 (Nat.zero_le _)
  refine lp_nat (fun j hj ih => ?_)
  refine wp_iload d_M_both_10 rfl ?_
  refine wp_if_lt (tgt := 41) d_M_both_12 (by decide) (fun hc => ?_) (fun hc => ?_)
  · obtain rfl := nI_down (by omega) hc hj
    refine wp_iload_n d_M_both_41 rfl ?_
    refine wp_iret d_M_both_42 rfl ?_
    exact ⟨rfl, rfl⟩
  · obtain ⟨hjN, hd2⟩ := nI_down2 hc
    rw [hd2]
    refine wp_aload_n d_M_both_15 rfl ?_
    refine wp_getI d_M_both_16 fl_M_7 rfl rfl (by decide) ?_
    refine wp_iload_n d_M_both_19 rfl ?_
    refine wp_imul d_M_both_20 ?_
    refine wp_aload_n d_M_both_21 rfl ?_
    refine wp_iload_n d_M_both_22 rfl ?_
    refine wp_aload_n d_M_both_23 rfl ?_
    refine wp_iload_n d_M_both_24 rfl ?_
    refine wp_iload d_M_both_25 rfl ?_
    refine wp_callV2e d_M_both_27 cv_M_96 rfl rfl rfl ⟨Nat.le_of_ble_eq_true rfl, Nat.le_of_ble_eq_true rfl⟩ (Nat.le_of_ble_eq_true rfl) (Nat.le_of_ble_eq_true rfl) (c_M_goes ha (by omega) _ hB) ?_
    refine wp_callV2e d_M_both_30 cv_M_96 rfl rfl rfl ⟨Nat.le_of_ble_eq_true rfl, Nat.le_of_ble_eq_true rfl⟩ (Nat.le_of_ble_eq_true rfl) (Nat.le_of_ble_eq_true rfl) (c_M_goes hb (by have := gN_lt (N := N) (m := a) (i := N - 1 - j) (by omega); omega) _ hB) ?_
    refine wp_iadd d_M_both_33 ?_
    refine wp_istore3 d_M_both_34 (by decide) rfl ?_
    refine wp_iinc4 d_M_both_35 (hn_iim1 _) (by decide) rfl ?_
    refine wp_goto (tgt := 10) d_M_both_38 (by decide) ?_
    rw [hB.1, pk_mul, nI_add, nI_down3 hjN]
    exact ih hjN
theorem c_M_nothing {N : Nat} (σ : Hp) (hB : MB σ N) : Ct m_M_nothing [.ref 56] σ (Rt (.int (nI (idN N))) σ) := by
  have h6 := hB.2.2
  show WP m_M_nothing 0 [.ref 56, .null, .null] [] σ _
  refine wp_iconst (v := 0) d_M_nothing_0 (by decide) ?_
  refine wp_istore1 d_M_nothing_1 (by decide) rfl ?_
  refine wp_aload_n d_M_nothing_2 rfl ?_
  refine wp_getI d_M_nothing_3 fl_M_7 rfl rfl (by decide) ?_
  refine wp_iconst (v := 1) d_M_nothing_6 (by decide) ?_
  refine wp_isub d_M_nothing_7 ?_
  refine wp_istore2 d_M_nothing_8 (by decide) rfl ?_
  rw [hB.1]
  suffices H : ∀ j, j ≤ N → WP m_M_nothing 9 [.ref 56, .int (nI (hz N N (fun i => i) j)), .int (nI (N - j) - 1)] [] σ (Rt (.int (nI (idN N))) σ) from H 0 (Nat.zero_le _)
  refine lp_nat (fun j hj ih => ?_)
  refine wp_iload_n d_M_nothing_9 rfl ?_
  refine wp_if_lt (tgt := 28) d_M_nothing_10 (by decide) (fun hc => ?_) (fun hc => ?_)
  · obtain rfl := nI_down (by omega) hc hj
    refine wp_iload_n d_M_nothing_28 rfl ?_
    refine wp_iret d_M_nothing_29 rfl ?_
    exact ⟨rfl, rfl⟩
  · obtain ⟨hjN, hd2⟩ := nI_down2 hc
    rw [hd2]
    refine wp_aload_n d_M_nothing_13 rfl ?_
    refine wp_getI d_M_nothing_14 fl_M_7 rfl rfl (by decide) ?_
    refine wp_iload_n d_M_nothing_17 rfl ?_
    refine wp_imul d_M_nothing_18 ?_
    refine wp_iload_n d_M_nothing_19 rfl ?_
    refine wp_iadd d_M_nothing_20 ?_
    refine wp_istore1 d_M_nothing_21 (by decide) rfl ?_
    refine wp_iinc2 d_M_nothing_22 (hn_iim1 _) (by decide) rfl ?_
    refine wp_goto (tgt := 9) d_M_nothing_25 (by decide) ?_
    rw [hB.1, pk_mul, nI_add, nI_down3 hjN]
    exact ih hjN
theorem c_M_isAgain {v m r N k : Nat} (hv : v = pwN N m k) (hm : m < N ^ N) (hr : r < 2 ^ 31) (σ : Hp) (hB : MB σ N) : Ct m_M_isAgain [.ref 56, .int (nI v), .int (nI m), .int (nI r)] σ (Rt (.int (bz (pwN N m (k + r) = pwN N m k))) σ) := by
  subst hv
  have h6 := hB.2.2
  have hp6 := pow6 h6
  have hlt := fun j => pwN_lt hB.2.1 hm j
  show WP m_M_isAgain 0 [.ref 56, .int (nI (pwN N m k)), .int (nI m), .int (nI r), .null, .null] [] σ _
  refine wp_iload_n d_M_isAgain_0 rfl ?_
  refine wp_istore4 d_M_isAgain_1 (by decide) rfl ?_
  refine wp_iconst (v := 0) d_M_isAgain_3 (by decide) ?_
  refine wp_istore5 d_M_isAgain_4 (by decide) rfl ?_
  suffices H : ∀ j, j ≤ r → WP m_M_isAgain 6 [.ref 56, .int (nI (pwN N m k)), .int (nI m), .int (nI r), .int (nI (pwN N m (k + j))), .int (nI j)] [] σ (Rt (.int (bz (pwN N m (k + r) = pwN N m k))) σ) from H 0 (Nat.zero_le _)
  refine lp_nat (fun j hj ih => ?_)
  have hlj := hlt (k + j)
  have hlk := hlt k
  refine wp_iload d_M_isAgain_6 rfl ?_
  refine wp_iload_n d_M_isAgain_8 rfl ?_
  refine wp_icmp_ge (tgt := 27) d_M_isAgain_9 (by decide) (fun hc => ?_) (fun hc => ?_)
  · obtain rfl := Nat.le_antisymm hj (nI_ge2 hc (by omega) (by omega))
    refine wp_iload d_M_isAgain_27 rfl ?_
    refine wp_iload_n d_M_isAgain_29 rfl ?_
    refine wp_icmp_ne (tgt := 37) d_M_isAgain_30 (by decide) (fun h2 => ?_) (fun h2 => ?_)
    · rw [nI_eq (by omega) (by omega)] at h2
      rw [bz_f h2]
      refine wp_iconst (v := 0) d_M_isAgain_37 (by decide) ?_
      refine wp_zret d_M_isAgain_38 rfl ?_ ?_
      · decide
      · exact ⟨rfl, rfl⟩
    · rw [nI_eq (by omega) (by omega)] at h2
      rw [bz_t h2]
      refine wp_iconst (v := 1) d_M_isAgain_33 (by decide) ?_
      refine wp_goto (tgt := 38) d_M_isAgain_34 (by decide) ?_
      refine wp_zret d_M_isAgain_38 rfl ?_ ?_
      · decide
      · exact ⟨rfl, rfl⟩
  · have hj2 := nI_nge hc (by omega) (by omega)
    refine wp_aload_n d_M_isAgain_12 rfl ?_
    refine wp_iload d_M_isAgain_13 rfl ?_
    refine wp_iload_n d_M_isAgain_15 rfl ?_
    refine wp_callV2e d_M_isAgain_16 cv_M_124 rfl rfl rfl ⟨Nat.le_of_ble_eq_true rfl, Nat.le_of_ble_eq_true rfl⟩ (Nat.le_of_ble_eq_true rfl) (Nat.le_of_ble_eq_true rfl) (c_M_both (by omega) (by omega) _ hB) ?_
    refine wp_istore4 d_M_isAgain_19 (by decide) rfl ?_
    refine wp_iinc5 d_M_isAgain_21 (hn_ii1 _) (by decide) rfl ?_
    refine wp_goto (tgt := 6) d_M_isAgain_24 (by decide) ?_
    rw [nI_1]
    exact ih hj2
def RgOf (N m R : Nat) : Prop := 1 ≤ R ∧ R ≤ 60 ∧ pwN N m (12 + R) = pwN N m 12 ∧ ∀ r, 1 ≤ r → r < R → pwN N m (12 + r) ≠ pwN N m 12
def TlOf (N m R T : Nat) : Prop := T ≤ 12 ∧ pwN N m (T + R) = pwN N m T ∧ ∀ t, t < T → pwN N m (t + R) ≠ pwN N m t
theorem c_M_powers {m N : Nat} (hm : m < N ^ N) (w : Int32) (σ : Hp) (hB : MB σ N) : Ct m_M_powers [.ref 56, .int (nI m), .int w] σ (fun x τ => τ = σ ∧ ∃ R T, RgOf N m R ∧ TlOf N m R T ∧ x = some (.int (if w = 1 then nI R else nI T))) := by
  have h6 := hB.2.2
  have hp6 := pow6 h6
  have hlt := fun j => pwN_lt hB.2.1 hm j
  show WP m_M_powers 0 [.ref 56, .int (nI m), .int w, .null, .null, .null] [] σ _
  refine wp_iload_n d_M_powers_0 rfl ?_
  refine wp_istore3 d_M_powers_1 (by decide) rfl ?_
  refine wp_iconst (v := 0) d_M_powers_2 (by decide) ?_
  refine wp_istore4 d_M_powers_3 (by decide) rfl ?_
  suffices H : ∀ j, j ≤ 12 → WP m_M_powers 5 [.ref 56, .int (nI m), .int w, .int (nI (pwN N m j)), .int (nI j), .null] [] σ (fun x τ => τ = σ ∧ ∃ R T, RgOf N m R ∧ TlOf N m R T ∧ x = some (.int (if w = 1 then nI R else nI T))) from H 0 (Nat.zero_le _)
  refine lp_nat (fun j hj ih => ?_)
  have hlj := hlt j
  refine wp_iload d_M_powers_5 rfl ?_
  refine wp_bipush (v := 12) d_M_powers_7 (by decide) ?_
  refine wp_icmp_ge (tgt := 25) d_M_powers_9 (by decide) (fun hc => ?_) (fun hc => ?_)
  · obtain rfl := Nat.le_antisymm hj (nI_ge2 (b := 12) hc (by omega) (by omega))
    refine wp_iconst (v := 1) d_M_powers_25 (by decide) ?_
    refine wp_istore4 d_M_powers_26 (by decide) rfl ?_
    refine wp_aload_n d_M_powers_28 rfl ?_
    refine wp_iload_n d_M_powers_29 rfl ?_
    refine wp_iload_n d_M_powers_30 rfl ?_
    refine wp_callV2e d_M_powers_31 cv_M_124 rfl rfl rfl ⟨Nat.le_of_ble_eq_true rfl, Nat.le_of_ble_eq_true rfl⟩ (Nat.le_of_ble_eq_true rfl) (Nat.le_of_ble_eq_true rfl) (c_M_both (by omega) (by omega) _ hB) ?_
    refine wp_istore5 d_M_powers_34 (by decide) rfl ?_
    have fin : ∀ R, RgOf N m R → ∀ x5 : Value, WP m_M_powers 57 [.ref 56, .int (nI m), .int w, .int (nI (pwN N m 12)), .int (nI R), x5] [] σ (fun x τ => τ = σ ∧ ∃ R T, RgOf N m R ∧ TlOf N m R T ∧ x = some (.int (if w = 1 then nI R else nI T))) := by
      intro R hR x5
      -- the tail is there
      obtain ⟨T0, hT0⟩ : ∃ T, TlOf N m R T := by
        obtain ⟨T, h1, h2⟩ := pk_least (fun T => pwN N m (T + R) = pwN N m T) ⟨12, hR.2.2.1⟩
        refine ⟨T, ?_, h1, h2⟩
        rcases Nat.lt_or_ge 12 T with q | q
        · exact absurd hR.2.2.1 (h2 12 q)
        · exact q
      refine wp_iload_n d_M_powers_57 rfl ?_
      refine wp_iconst (v := 1) d_M_powers_58 (by decide) ?_
      refine wp_icmp_ne (tgt := 65) d_M_powers_59 (by decide) (fun h3 => ?_) (fun h3 => ?_)
      · refine wp_iconst (v := 0) d_M_powers_65 (by decide) ?_
        refine wp_istore5 d_M_powers_66 (by decide) rfl ?_
        refine wp_iload_n d_M_powers_68 rfl ?_
        refine wp_istore3 d_M_powers_69 (by decide) rfl ?_
        suffices H : ∀ t, t ≤ T0 → WP m_M_powers 70 [.ref 56, .int (nI m), .int w, .int (nI (pwN N m t)), .int (nI R), .int (nI t)] [] σ (fun x τ => τ = σ ∧ ∃ R T, RgOf N m R ∧ TlOf N m R T ∧ x = some (.int (if w = 1 then nI R else nI T))) from H 0 (Nat.zero_le _)
        have hT12 := hT0.1
        refine lp_nat (fun t ht ih2 => ?_)
        have hlt2 := hlt t
        refine wp_aload_n d_M_powers_70 rfl ?_
        refine wp_iload_n d_M_powers_71 rfl ?_
        refine wp_iload_n d_M_powers_72 rfl ?_
        refine wp_iload d_M_powers_73 rfl ?_
        refine wp_callV3e d_M_powers_75 cv_M_138 rfl rfl rfl ⟨Nat.le_of_ble_eq_true rfl, Nat.le_of_ble_eq_true rfl⟩ (Nat.le_of_ble_eq_true rfl) (Nat.le_of_ble_eq_true rfl) (c_M_isAgain rfl hm (by have := hR.2.1; omega) _ hB) ?_
        refine wp_if_ne (tgt := 94) d_M_powers_78 (by decide) (fun h5 => ?_) (fun h5 => ?_)
        · have h7 := bz_n0 h5
          have htT : t = T0 := by
            rcases Nat.lt_or_ge t T0 with q | q
            · exact absurd h7 (hT0.2.2 t q)
            · omega
          subst htT
          refine wp_iload d_M_powers_94 rfl ?_
          refine wp_iret d_M_powers_96 rfl ?_
          exact ⟨rfl, R, t, hR, hT0, by rw [if_neg h3]⟩
        · rw [bz_0] at h5
          have htT : t < T0 := by
            rcases Nat.lt_or_ge t T0 with q | q
            · exact q
            · obtain rfl : t = T0 := by omega
              exact absurd hT0.2.1 h5
          refine wp_aload_n d_M_powers_81 rfl ?_
          refine wp_iload_n d_M_powers_82 rfl ?_
          refine wp_iload_n d_M_powers_83 rfl ?_
          refine wp_callV2e d_M_powers_84 cv_M_124 rfl rfl rfl ⟨Nat.le_of_ble_eq_true rfl, Nat.le_of_ble_eq_true rfl⟩ (Nat.le_of_ble_eq_true rfl) (Nat.le_of_ble_eq_true rfl) (c_M_both (by omega) (by omega) _ hB) ?_
          refine wp_istore3 d_M_powers_87 (by decide) rfl ?_
          refine wp_iinc5 d_M_powers_88 (hn_ii1 _) (by decide) rfl ?_
          refine wp_goto (tgt := 70) d_M_powers_91 (by decide) ?_
          rw [nI_1]
          exact ih2 htT
      · refine wp_iload d_M_powers_62 rfl ?_
        refine wp_iret d_M_powers_64 rfl ?_
        exact ⟨rfl, R, T0, hR, hT0, by rw [if_pos h3]⟩
    have ring : ∀ d R, 60 - R = d → 1 ≤ R → R ≤ 60 → (∀ r, 1 ≤ r → r < R → pwN N m (12 + r) ≠ pwN N m 12) → WP m_M_powers 36 [.ref 56, .int (nI m), .int w, .int (nI (pwN N m 12)), .int (nI R), .int (nI (pwN N m (12 + R)))] [] σ (fun x τ => τ = σ ∧ ∃ R T, RgOf N m R ∧ TlOf N m R T ∧ x = some (.int (if w = 1 then nI R else nI T))) := by
      intro d
      induction d with
      | zero =>
        intro R hd h1 h60 hr
        have hR : R = 60 := by omega
        have he : pwN N m (12 + R) = pwN N m 12 := by rw [hR]; exact pwN_60 hB.2.1 h6 hm (k := 12) (by omega)
        refine wp_iload d_M_powers_36 rfl ?_
        refine wp_iload_n d_M_powers_38 rfl ?_
        refine wp_icmp_eq (tgt := 57) d_M_powers_39 (by decide) (fun h2 => ?_) (fun h2 => ?_)
        · exact fin R ⟨h1, h60, he, hr⟩ _
        · exact absurd (by rw [he]) h2
      | succ d ihd =>
        intro R hd h1 h60 hr
        have hlR := hlt (12 + R)
        refine wp_iload d_M_powers_36 rfl ?_
        refine wp_iload_n d_M_powers_38 rfl ?_
        refine wp_icmp_eq (tgt := 57) d_M_powers_39 (by decide) (fun h2 => ?_) (fun h2 => ?_)
        · rw [nI_eq (by omega) (by omega)] at h2
          exact fin R ⟨h1, h60, h2, hr⟩ _
        · rw [nI_eq (by omega) (by omega)] at h2
          refine wp_iinc4 d_M_powers_42 (hn_ii1 _) (by decide) rfl ?_
          refine wp_aload_n d_M_powers_45 rfl ?_
          refine wp_iload d_M_powers_46 rfl ?_
          refine wp_iload_n d_M_powers_48 rfl ?_
          rw [nI_1]
          refine wp_callV2e d_M_powers_49 cv_M_124 rfl rfl rfl ⟨Nat.le_of_ble_eq_true rfl, Nat.le_of_ble_eq_true rfl⟩ (Nat.le_of_ble_eq_true rfl) (Nat.le_of_ble_eq_true rfl) (c_M_both (by omega) (by omega) _ hB) ?_
          refine wp_istore5 d_M_powers_52 (by decide) rfl ?_
          refine wp_goto (tgt := 36) d_M_powers_54 (by decide) ?_
          refine ihd (R + 1) (by omega) (by omega) (by omega) (fun r hr1 hr2 => ?_)
          by_cases hrR : r = R
          · rw [hrR]; exact h2
          · exact hr r hr1 (by omega)
    exact ring 59 1 rfl (by omega) (by omega) (fun r h1 h2 => absurd h1 (by omega))
  · have hj2 := nI_nge (b := 12) hc (by omega) (by omega)
    refine wp_aload_n d_M_powers_12 rfl ?_
    refine wp_iload_n d_M_powers_13 rfl ?_
    refine wp_iload_n d_M_powers_14 rfl ?_
    refine wp_callV2e d_M_powers_15 cv_M_124 rfl rfl rfl ⟨Nat.le_of_ble_eq_true rfl, Nat.le_of_ble_eq_true rfl⟩ (Nat.le_of_ble_eq_true rfl) (Nat.le_of_ble_eq_true rfl) (c_M_both (by omega) (by omega) _ hB) ?_
    refine wp_istore3 d_M_powers_18 (by decide) rfl ?_
    refine wp_iinc4 d_M_powers_19 (hn_ii1 _) (by decide) rfl ?_
    refine wp_goto (tgt := 5) d_M_powers_22 (by decide) ?_
    rw [nI_1]
    exact ih hj2
