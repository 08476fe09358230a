/-! contracts: points, letter, drop, set, count, twists, as the reference has them -/
theorem Th_0 {σ : Hp} {j : Nat} (h : j ≠ 0) : (Th σ).1 56 j = σ.1 56 j := by rw [Th, wI_eq, upd_ne h]
theorem Th_ne {σ : Hp} {q : Nat} (h : q ≠ 56) : (Th σ).1 q = σ.1 q := wI_ne h
def mpW (σ : Hp) (v : Int32) : Hp := wI (wI (wI (wI (wI (Th σ) 56 1 v) 56 2 0) 56 4 0) 56 5 0) 56 6 0
theorem c_M_points_no (v : Int32) (σ : Hp) (h : ¬ (1 ≤ v ∧ v ≤ 6)) : Ct m_M_points [.ref 56, .int v] σ (Rt (.int (-1)) (Th σ)) := by
  show WP m_M_points 0 [.ref 56, .int v, .null] [] σ _
  refine wp_aload_n d_M_points_0 rfl ?_
  refine wp_iconst (v := 0) d_M_points_1 (by decide) ?_
  refine wp_putI d_M_points_2 fp_M_89 rfl rfl (by decide) rfl rfl ?_
  show WP m_M_points 5 _ _ (Th σ) _
  refine wp_iload_n d_M_points_5 rfl ?_
  refine wp_iconst (v := 1) d_M_points_6 (by decide) ?_
  refine wp_bipush (v := 6) d_M_points_7 (by decide) ?_
  refine wp_callS3e d_M_points_9 cs_M_100 ⟨Nat.le_of_ble_eq_true rfl, Nat.le_of_ble_eq_true rfl⟩ (Nat.le_of_ble_eq_true rfl) (Nat.le_of_ble_eq_true rfl) (c_M_in _ _ _ _) ?_
  refine wp_if_ne (tgt := 17) d_M_points_12 (by decide) (fun hc => ?_) (fun hc => ?_)
  · exact absurd (bz_n0 hc) h
  · refine wp_iconst (v := -1) d_M_points_15 (by decide) ?_
    refine wp_iret d_M_points_16 rfl ?_
    exact ⟨rfl, rfl⟩
theorem c_M_points (v : Int32) (σ : Hp) (h : 1 ≤ v ∧ v ≤ 6) : Ct m_M_points [.ref 56, .int v] σ (Rt (.int (σ.1 56 1)) (mpW σ v)) := by
  show WP m_M_points 0 [.ref 56, .int v, .null] [] σ _
  refine wp_aload_n d_M_points_0 rfl ?_
  refine wp_iconst (v := 0) d_M_points_1 (by decide) ?_
  refine wp_putI d_M_points_2 fp_M_89 rfl rfl (by decide) rfl rfl ?_
  show WP m_M_points 5 _ _ (Th σ) _
  refine wp_iload_n d_M_points_5 rfl ?_
  refine wp_iconst (v := 1) d_M_points_6 (by decide) ?_
  refine wp_bipush (v := 6) d_M_points_7 (by decide) ?_
  refine wp_callS3e d_M_points_9 cs_M_100 ⟨Nat.le_of_ble_eq_true rfl, Nat.le_of_ble_eq_true rfl⟩ (Nat.le_of_ble_eq_true rfl) (Nat.le_of_ble_eq_true rfl) (c_M_in _ _ _ _) ?_
  refine wp_if_ne (tgt := 17) d_M_points_12 (by decide) (fun hc => ?_) (fun hc => ?_)
  · refine wp_aload_n d_M_points_17 rfl ?_
    refine wp_getI d_M_points_18 fl_M_7 rfl rfl (by decide) ?_
    refine wp_istore2 d_M_points_21 (by decide) rfl ?_
    refine wp_aload_n d_M_points_22 rfl ?_
    refine wp_iload_n d_M_points_23 rfl ?_
    refine wp_putI d_M_points_24 fp_M_7 rfl rfl (by decide) rfl rfl ?_
    refine wp_aload_n d_M_points_27 rfl ?_
    refine wp_iconst (v := 0) d_M_points_28 (by decide) ?_
    refine wp_putI d_M_points_29 fp_M_104 rfl rfl (by decide) rfl rfl ?_
    refine wp_aload_n d_M_points_32 rfl ?_
    refine wp_iconst (v := 0) d_M_points_33 (by decide) ?_
    refine wp_putI d_M_points_34 fp_M_107 rfl rfl (by decide) rfl rfl ?_
    refine wp_aload_n d_M_points_37 rfl ?_
    refine wp_iconst (v := 0) d_M_points_38 (by decide) ?_
    refine wp_putI d_M_points_39 fp_M_110 rfl rfl (by decide) rfl rfl ?_
    refine wp_aload_n d_M_points_42 rfl ?_
    refine wp_iconst (v := 0) d_M_points_43 (by decide) ?_
    refine wp_putI d_M_points_44 fp_M_113 rfl rfl (by decide) (by decide) (by decide) ?_
    refine wp_iload_n d_M_points_47 rfl ?_
    refine wp_iret d_M_points_48 rfl ?_
    exact ⟨congrArg (fun x => some (Value.int x)) (Th_0 (by decide)), rfl⟩
  · exact absurd h (bz_0.mp hc)
theorem pw_e9 {N : Nat} (h1 : 1 ≤ N) : nI (N ^ N) - 1 = nI (N ^ N - 1) := by
  have := pow_pos' h1
  rw [show N ^ N = N ^ N - 1 + 1 by omega, nI_pred, show N ^ N - 1 + 1 - 1 = N ^ N - 1 by omega]
def mlW (σ : Hp) (L m : Nat) : Hp := wI (wI (wI (Th σ) 57 L (nI m)) 56 2 (nI (L + 1))) 56 6 0
theorem c_M_letter_no (m : Int32) {N : Nat} (σ : Hp) (hB : MB σ N) (h : ¬ (0 ≤ m ∧ m ≤ nI (N ^ N - 1))) : Ct m_M_letter [.ref 56, .int m] σ (Rt (.int (-1)) (Th σ)) := by
  have hB := hB.th
  show WP m_M_letter 0 [.ref 56, .int m] [] σ _
  refine wp_aload_n d_M_letter_0 rfl ?_
  refine wp_iconst (v := 0) d_M_letter_1 (by decide) ?_
  refine wp_putI d_M_letter_2 fp_M_89 rfl rfl (by decide) rfl rfl ?_
  show WP m_M_letter 5 _ _ (Th σ) _
  refine wp_iload_n d_M_letter_5 rfl ?_
  refine wp_iconst (v := 0) d_M_letter_6 (by decide) ?_
  refine wp_aload_n d_M_letter_7 rfl ?_
  refine wp_aload_n d_M_letter_8 rfl ?_
  refine wp_getI d_M_letter_9 fl_M_7 rfl rfl (by decide) ?_
  rw [hB.1]
  refine wp_callV1e d_M_letter_12 cv_M_92 rfl rfl rfl ⟨Nat.le_of_ble_eq_true rfl, Nat.le_of_ble_eq_true rfl⟩ (Nat.le_of_ble_eq_true rfl) (Nat.le_of_ble_eq_true rfl) (c_M_power (by have := hB.2.2; omega) _ hB) ?_
  refine wp_iconst (v := 1) d_M_letter_15 (by decide) ?_
  refine wp_isub d_M_letter_16 ?_
  rw [pw_e9 hB.2.1]
  refine wp_callS3e d_M_letter_17 cs_M_100 ⟨Nat.le_of_ble_eq_true rfl, Nat.le_of_ble_eq_true rfl⟩ (Nat.le_of_ble_eq_true rfl) (Nat.le_of_ble_eq_true rfl) (c_M_in _ _ _ _) ?_
  refine wp_if_ne (tgt := 25) d_M_letter_20 (by decide) (fun hc => ?_) (fun hc => ?_)
  · exact absurd (bz_n0 hc) h
  · refine wp_iconst (v := -1) d_M_letter_23 (by decide) ?_
    refine wp_iret d_M_letter_24 rfl ?_
    exact ⟨rfl, rfl⟩
theorem c_M_letter_full (m : Int32) {N : Nat} (σ : Hp) (hB : MB σ N) (h : 0 ≤ m ∧ m ≤ nI (N ^ N - 1)) (h4 : σ.1 56 2 = 4) : Ct m_M_letter [.ref 56, .int m] σ (Rt (.int (-3)) (Th σ)) := by
  have hB := hB.th
  have h4 : (Th σ).1 56 2 = 4 := (Th_0 (by decide)).trans h4
  show WP m_M_letter 0 [.ref 56, .int m] [] σ _
  refine wp_aload_n d_M_letter_0 rfl ?_
  refine wp_iconst (v := 0) d_M_letter_1 (by decide) ?_
  refine wp_putI d_M_letter_2 fp_M_89 rfl rfl (by decide) rfl rfl ?_
  show WP m_M_letter 5 _ _ (Th σ) _
  refine wp_iload_n d_M_letter_5 rfl ?_
  refine wp_iconst (v := 0) d_M_letter_6 (by decide) ?_
  refine wp_aload_n d_M_letter_7 rfl ?_
  refine wp_aload_n d_M_letter_8 rfl ?_
  refine wp_getI d_M_letter_9 fl_M_7 rfl rfl (by decide) ?_
  rw [hB.1]
  refine wp_callV1e d_M_letter_12 cv_M_92 rfl rfl rfl ⟨Nat.le_of_ble_eq_true rfl, Nat.le_of_ble_eq_true rfl⟩ (Nat.le_of_ble_eq_true rfl) (Nat.le_of_ble_eq_true rfl) (c_M_power (by have := hB.2.2; omega) _ hB) ?_
  refine wp_iconst (v := 1) d_M_letter_15 (by decide) ?_
  refine wp_isub d_M_letter_16 ?_
  rw [pw_e9 hB.2.1]
  refine wp_callS3e d_M_letter_17 cs_M_100 ⟨Nat.le_of_ble_eq_true rfl, Nat.le_of_ble_eq_true rfl⟩ (Nat.le_of_ble_eq_true rfl) (Nat.le_of_ble_eq_true rfl) (c_M_in _ _ _ _) ?_
  refine wp_if_ne (tgt := 25) d_M_letter_20 (by decide) (fun hc => ?_) (fun hc => ?_)
  · refine wp_aload_n d_M_letter_25 rfl ?_
    refine wp_getI d_M_letter_26 fl_M_104 rfl rfl (by decide) ?_
    refine wp_iconst (v := 4) d_M_letter_29 (by decide) ?_
    refine wp_icmp_ne (tgt := 36) d_M_letter_30 (by decide) (fun hc2 => ?_) (fun hc2 => ?_)
    · exact absurd h4 hc2
    · refine wp_bipush (v := -3) d_M_letter_33 (by decide) ?_
      refine wp_iret d_M_letter_35 rfl ?_
      exact ⟨rfl, rfl⟩
  · exact absurd h (bz_0.mp hc)
theorem c_M_letter {m N L : Nat} (σ : Hp) (hB : MB σ N) (h : m < N ^ N) (hl : σ.1 56 2 = nI L) (h4 : L < 4) : Ct m_M_letter [.ref 56, .int (nI m)] σ (Rt (.int (nI L)) (mlW σ L m)) := by
  have h31 := pow_lt hB.2.2
  have hB := hB.th
  have hl : (Th σ).1 56 2 = nI L := (Th_0 (by decide)).trans hl
  show WP m_M_letter 0 [.ref 56, .int (nI m)] [] σ _
  refine wp_aload_n d_M_letter_0 rfl ?_
  refine wp_iconst (v := 0) d_M_letter_1 (by decide) ?_
  refine wp_putI d_M_letter_2 fp_M_89 rfl rfl (by decide) rfl rfl ?_
  show WP m_M_letter 5 _ _ (Th σ) _
  refine wp_iload_n d_M_letter_5 rfl ?_
  refine wp_iconst (v := 0) d_M_letter_6 (by decide) ?_
  refine wp_aload_n d_M_letter_7 rfl ?_
  refine wp_aload_n d_M_letter_8 rfl ?_
  refine wp_getI d_M_letter_9 fl_M_7 rfl rfl (by decide) ?_
  rw [hB.1]
  refine wp_callV1e d_M_letter_12 cv_M_92 rfl rfl rfl ⟨Nat.le_of_ble_eq_true rfl, Nat.le_of_ble_eq_true rfl⟩ (Nat.le_of_ble_eq_true rfl) (Nat.le_of_ble_eq_true rfl) (c_M_power (by have := hB.2.2; omega) _ hB) ?_
  refine wp_iconst (v := 1) d_M_letter_15 (by decide) ?_
  refine wp_isub d_M_letter_16 ?_
  rw [pw_e9 hB.2.1]
  refine wp_callS3e d_M_letter_17 cs_M_100 ⟨Nat.le_of_ble_eq_true rfl, Nat.le_of_ble_eq_true rfl⟩ (Nat.le_of_ble_eq_true rfl) (Nat.le_of_ble_eq_true rfl) (c_M_in _ _ _ _) ?_
  refine wp_if_ne (tgt := 25) d_M_letter_20 (by decide) (fun hc => ?_) (fun hc => ?_)
  · refine wp_aload_n d_M_letter_25 rfl ?_
    refine wp_getI d_M_letter_26 fl_M_104 rfl rfl (by decide) ?_
    refine wp_iconst (v := 4) d_M_letter_29 (by decide) ?_
    refine wp_icmp_ne (tgt := 36) d_M_letter_30 (by decide) (fun hc2 => ?_) (fun hc2 => ?_)
    · refine wp_aload_n d_M_letter_36 rfl ?_
      refine wp_getA d_M_letter_37 fl_M_13 rfl rfl rfl ?_
      refine wp_aload_n d_M_letter_40 rfl ?_
      refine wp_getI d_M_letter_41 fl_M_104 rfl rfl (by decide) ?_
      refine wp_iload_n d_M_letter_44 rfl ?_
      rw [hl]
      refine wp_iast d_M_letter_45 rfl ?_ ?_
      · exact vp_in_nI (n := L) (by omega) (by decide)
      rw [nI_clamp (show L < 2 ^ 31 by omega)]
      refine wp_aload_n d_M_letter_46 rfl ?_
      refine wp_dup d_M_letter_47 rfl ?_
      refine wp_getI d_M_letter_48 fl_M_104 rfl rfl (by decide) ?_
      refine wp_iconst (v := 1) d_M_letter_51 (by decide) ?_
      refine wp_iadd d_M_letter_52 ?_
      rw [wI_ne (by decide), hl, show nI L + 1 = nI (L + 1) from nI_1 L]
      refine wp_putI d_M_letter_53 fp_M_104 rfl rfl (by decide) rfl rfl ?_
      refine wp_aload_n d_M_letter_56 rfl ?_
      refine wp_iconst (v := 0) d_M_letter_57 (by decide) ?_
      refine wp_putI d_M_letter_58 fp_M_113 rfl rfl (by decide) (by decide) (by decide) ?_
      refine wp_aload_n d_M_letter_61 rfl ?_
      refine wp_getI d_M_letter_62 fl_M_104 rfl rfl (by decide) ?_
      refine wp_iconst (v := 1) d_M_letter_65 (by decide) ?_
      refine wp_isub d_M_letter_66 ?_
      refine wp_iret d_M_letter_67 rfl ?_
      refine ⟨?_, rfl⟩
      rw [wI_eq, upd_ne (by decide), wI_eq, upd_eq, nI_pred]
    · rw [hl] at hc2
      exact absurd ((nI_eq (b := 4) (by omega) (by omega)).mp hc2) (by omega)
  · exact absurd ⟨nI_pos' (by omega), nI_le (by omega) (by omega)⟩ (bz_0.mp hc)
def mdW (σ : Hp) (L : Nat) : Hp := wI (wI (Th σ) 56 2 (nI L)) 56 6 0
theorem c_M_drop_no (σ : Hp) (hl : σ.1 56 2 = 0) : Ct m_M_drop [.ref 56] σ (Rt (.int (-1)) (Th σ)) := by
  have hl : (Th σ).1 56 2 = 0 := (Th_0 (by decide)).trans hl
  show WP m_M_drop 0 [.ref 56] [] σ _
  refine wp_aload_n d_M_drop_0 rfl ?_
  refine wp_iconst (v := 0) d_M_drop_1 (by decide) ?_
  refine wp_putI d_M_drop_2 fp_M_89 rfl rfl (by decide) rfl rfl ?_
  show WP m_M_drop 5 _ _ (Th σ) _
  refine wp_aload_n d_M_drop_5 rfl ?_
  refine wp_getI d_M_drop_6 fl_M_104 rfl rfl (by decide) ?_
  refine wp_if_ne (tgt := 14) d_M_drop_9 (by decide) (fun hc => ?_) (fun hc => ?_)
  · exact absurd hl hc
  · refine wp_iconst (v := -1) d_M_drop_12 (by decide) ?_
    refine wp_iret d_M_drop_13 rfl ?_
    exact ⟨rfl, rfl⟩
theorem c_M_drop {L : Nat} (σ : Hp) (hl : σ.1 56 2 = nI (L + 1)) (h4 : L < 4) : Ct m_M_drop [.ref 56] σ (Rt (.int (nI L)) (mdW σ L)) := by
  have hl : (Th σ).1 56 2 = nI (L + 1) := (Th_0 (by decide)).trans hl
  show WP m_M_drop 0 [.ref 56] [] σ _
  refine wp_aload_n d_M_drop_0 rfl ?_
  refine wp_iconst (v := 0) d_M_drop_1 (by decide) ?_
  refine wp_putI d_M_drop_2 fp_M_89 rfl rfl (by decide) rfl rfl ?_
  show WP m_M_drop 5 _ _ (Th σ) _
  refine wp_aload_n d_M_drop_5 rfl ?_
  refine wp_getI d_M_drop_6 fl_M_104 rfl rfl (by decide) ?_
  refine wp_if_ne (tgt := 14) d_M_drop_9 (by decide) (fun hc => ?_) (fun hc => ?_)
  · refine wp_aload_n d_M_drop_14 rfl ?_
    refine wp_dup d_M_drop_15 rfl ?_
    refine wp_getI d_M_drop_16 fl_M_104 rfl rfl (by decide) ?_
    refine wp_iconst (v := 1) d_M_drop_19 (by decide) ?_
    refine wp_isub d_M_drop_20 ?_
    rw [hl, nI_pred]
    refine wp_putI d_M_drop_21 fp_M_104 rfl rfl (by decide) rfl rfl ?_
    refine wp_aload_n d_M_drop_24 rfl ?_
    refine wp_iconst (v := 0) d_M_drop_25 (by decide) ?_
    refine wp_putI d_M_drop_26 fp_M_113 rfl rfl (by decide) (by decide) (by decide) ?_
    refine wp_aload_n d_M_drop_29 rfl ?_
    refine wp_getI d_M_drop_30 fl_M_104 rfl rfl (by decide) ?_
    refine wp_iret d_M_drop_33 rfl ?_
    refine ⟨?_, rfl⟩
    rw [wI_eq, upd_ne (by decide), wI_eq, upd_eq]
  · rw [hl] at hc
    exact absurd ((nI_eq (b := 0) (by omega) (by omega)).mp hc) (by omega)
def mcF (σ : Hp) (w : Int32) : Int32 := if w = 0 then σ.1 56 1 else if w = 1 then σ.1 56 2 else if w = 2 then σ.1 56 4 else if w = 3 then σ.1 56 5 else -1
theorem c_M_count (w : Int32) (σ : Hp) : Ct m_M_count [.ref 56, .int w] σ (Rt (.int (mcF σ w)) (Th σ)) := by
  show WP m_M_count 0 [.ref 56, .int w] [] σ _
  refine wp_aload_n d_M_count_0 rfl ?_
  refine wp_iconst (v := 0) d_M_count_1 (by decide) ?_
  refine wp_putI d_M_count_2 fp_M_89 rfl rfl (by decide) rfl rfl ?_
  show WP m_M_count 5 _ _ (Th σ) _
  refine wp_iload_n d_M_count_5 rfl ?_
  refine wp_if_ne (tgt := 16) d_M_count_6 (by decide) (fun h0 => ?_) (fun h0 => ?_)
  · refine wp_iload_n d_M_count_16 rfl ?_
    refine wp_iconst (v := 1) d_M_count_17 (by decide) ?_
    refine wp_icmp_ne (tgt := 28) d_M_count_18 (by decide) (fun h1 => ?_) (fun h1 => ?_)
    · refine wp_iload_n d_M_count_28 rfl ?_
      refine wp_iconst (v := 2) d_M_count_29 (by decide) ?_
      refine wp_icmp_ne (tgt := 40) d_M_count_30 (by decide) (fun h2 => ?_) (fun h2 => ?_)
      · refine wp_iload_n d_M_count_40 rfl ?_
        refine wp_iconst (v := 3) d_M_count_41 (by decide) ?_
        refine wp_icmp_ne (tgt := 52) d_M_count_42 (by decide) (fun h3 => ?_) (fun h3 => ?_)
        · refine wp_iconst (v := -1) d_M_count_52 (by decide) ?_
          refine wp_iret d_M_count_53 rfl ?_
          refine ⟨?_, rfl⟩
          rw [mcF, if_neg h0, if_neg h1, if_neg h2, if_neg h3]
        · refine wp_aload_n d_M_count_45 rfl ?_
          refine wp_getI d_M_count_46 fl_M_110 rfl rfl (by decide) ?_
          refine wp_goto (tgt := 53) d_M_count_49 (by decide) ?_
          refine wp_iret d_M_count_53 rfl ?_
          refine ⟨?_, rfl⟩
          rw [mcF, if_neg h0, if_neg h1, if_neg h2, if_pos h3, Th_0 (by decide)]
      · refine wp_aload_n d_M_count_33 rfl ?_
        refine wp_getI d_M_count_34 fl_M_107 rfl rfl (by decide) ?_
        refine wp_goto (tgt := 53) d_M_count_37 (by decide) ?_
        refine wp_iret d_M_count_53 rfl ?_
        refine ⟨?_, rfl⟩
        rw [mcF, if_neg h0, if_neg h1, if_pos h2, Th_0 (by decide)]
    · refine wp_aload_n d_M_count_21 rfl ?_
      refine wp_getI d_M_count_22 fl_M_104 rfl rfl (by decide) ?_
      refine wp_goto (tgt := 53) d_M_count_25 (by decide) ?_
      refine wp_iret d_M_count_53 rfl ?_
      refine ⟨?_, rfl⟩
      rw [mcF, if_neg h0, if_pos h1, Th_0 (by decide)]
  · refine wp_aload_n d_M_count_9 rfl ?_
    refine wp_getI d_M_count_10 fl_M_7 rfl rfl (by decide) ?_
    refine wp_goto (tgt := 53) d_M_count_13 (by decide) ?_
    refine wp_iret d_M_count_53 rfl ?_
    refine ⟨?_, rfl⟩
    rw [mcF, if_pos h0, Th_0 (by decide)]
theorem c_M_set_no (w v : Int32) {N : Nat} (σ : Hp) (hB : MB σ N) (h : ¬ ((w = 0 ∧ 0 ≤ v ∧ v ≤ nI (N - 1)) ∨ (w = 1 ∧ 0 ≤ v ∧ v ≤ nI (2 ^ N - 1)))) : Ct m_M_set [.ref 56, .int w, .int v] σ (Rt (.int (-1)) (Th σ)) := by
  have hB := hB.th
  have e9 : (Th σ).1 56 1 - 1 = nI (N - 1) := by
    have := hB.2.1
    rw [hB.1, show N = N - 1 + 1 by omega, nI_pred, show N - 1 + 1 - 1 = N - 1 by omega]
  show WP m_M_set 0 [.ref 56, .int w, .int v, .null] [] σ _
  have bad : WP m_M_set 43 [.ref 56, .int w, .int v, .null] [] (Th σ) (Rt (.int (-1)) (Th σ)) := by
    refine wp_iconst (v := -1) d_M_set_43 (by decide) ?_
    refine wp_iret d_M_set_44 rfl ?_
    exact ⟨rfl, rfl⟩
  refine wp_aload_n d_M_set_0 rfl ?_
  refine wp_iconst (v := 0) d_M_set_1 (by decide) ?_
  refine wp_putI d_M_set_2 fp_M_89 rfl rfl (by decide) rfl rfl ?_
  show WP m_M_set 5 _ _ (Th σ) _
  refine wp_iload_n d_M_set_5 rfl ?_
  refine wp_iconst (v := 0) d_M_set_6 (by decide) ?_
  refine wp_iconst (v := 1) d_M_set_7 (by decide) ?_
  refine wp_callS3e d_M_set_8 cs_M_100 ⟨Nat.le_of_ble_eq_true rfl, Nat.le_of_ble_eq_true rfl⟩ (Nat.le_of_ble_eq_true rfl) (Nat.le_of_ble_eq_true rfl) (c_M_in _ _ _ _) ?_
  refine wp_if_eq (tgt := 43) d_M_set_11 (by decide) (fun hc => ?_) (fun hc => ?_)
  · exact bad
  · refine wp_iload_n d_M_set_14 rfl ?_
    refine wp_iconst (v := 0) d_M_set_15 (by decide) ?_
    refine wp_iload_n d_M_set_16 rfl ?_
    refine wp_if_ne (tgt := 29) d_M_set_17 (by decide) (fun hc2 => ?_) (fun hc2 => ?_)
    · obtain ⟨j, hj, rfl⟩ := wi_nI (m := 1) (by decide) (bz_n0 hc)
      refine wp_iconst (v := 1) d_M_set_29 (by decide) ?_
      refine wp_aload_n d_M_set_30 rfl ?_
      refine wp_getI d_M_set_31 fl_M_7 rfl rfl (by decide) ?_
      refine wp_ishl d_M_set_34 ?_
      refine wp_iconst (v := 1) d_M_set_35 (by decide) ?_
      refine wp_isub d_M_set_36 ?_
      rw [hB.1, whole_nI N hB.2.2]
      refine wp_callS3e d_M_set_37 cs_M_100 ⟨Nat.le_of_ble_eq_true rfl, Nat.le_of_ble_eq_true rfl⟩ (Nat.le_of_ble_eq_true rfl) (Nat.le_of_ble_eq_true rfl) (c_M_in _ _ _ _) ?_
      refine wp_if_ne (tgt := 45) d_M_set_40 (by decide) (fun hc3 => ?_) (fun hc3 => ?_)
      · have hj1 : j = 1 := by
          rcases (show j = 0 ∨ j = 1 by omega) with q | q
          · rw [q] at hc2; exact absurd rfl hc2
          · exact q
        rw [hj1] at h
        exact absurd (Or.inr ⟨rfl, bz_n0 hc3⟩) h
      · exact bad
    · refine wp_aload_n d_M_set_20 rfl ?_
      refine wp_getI d_M_set_21 fl_M_7 rfl rfl (by decide) ?_
      refine wp_iconst (v := 1) d_M_set_24 (by decide) ?_
      refine wp_isub d_M_set_25 ?_
      refine wp_goto (tgt := 37) d_M_set_26 (by decide) ?_
      rw [e9]
      refine wp_callS3e d_M_set_37 cs_M_100 ⟨Nat.le_of_ble_eq_true rfl, Nat.le_of_ble_eq_true rfl⟩ (Nat.le_of_ble_eq_true rfl) (Nat.le_of_ble_eq_true rfl) (c_M_in _ _ _ _) ?_
      refine wp_if_ne (tgt := 45) d_M_set_40 (by decide) (fun hc3 => ?_) (fun hc3 => ?_)
      · exact absurd (Or.inl ⟨hc2, bz_n0 hc3⟩) h
      · exact bad
theorem c_M_set0 (v : Int32) {N : Nat} (σ : Hp) (hB : MB σ N) (h : 0 ≤ v ∧ v ≤ nI (N - 1)) : Ct m_M_set [.ref 56, .int 0, .int v] σ (Rt (.int (σ.1 56 4)) (wI (wI (Th σ) 56 4 v) 56 5 (σ.1 56 5))) := by
  have hB := hB.th
  have e9 : (Th σ).1 56 1 - 1 = nI (N - 1) := by
    have := hB.2.1
    rw [hB.1, show N = N - 1 + 1 by omega, nI_pred, show N - 1 + 1 - 1 = N - 1 by omega]
  show WP m_M_set 0 [.ref 56, .int 0, .int v, .null] [] σ _
  refine wp_aload_n d_M_set_0 rfl ?_
  refine wp_iconst (v := 0) d_M_set_1 (by decide) ?_
  refine wp_putI d_M_set_2 fp_M_89 rfl rfl (by decide) rfl rfl ?_
  show WP m_M_set 5 _ _ (Th σ) _
  refine wp_iload_n d_M_set_5 rfl ?_
  refine wp_iconst (v := 0) d_M_set_6 (by decide) ?_
  refine wp_iconst (v := 1) d_M_set_7 (by decide) ?_
  refine wp_callS3e d_M_set_8 cs_M_100 ⟨Nat.le_of_ble_eq_true rfl, Nat.le_of_ble_eq_true rfl⟩ (Nat.le_of_ble_eq_true rfl) (Nat.le_of_ble_eq_true rfl) (c_M_in _ _ _ _) ?_
  refine wp_if_eq (tgt := 43) d_M_set_11 (by decide) (fun hc => ?_) (fun hc => ?_)
  · exact absurd (bz_0.mp hc) (fun q => q (by decide))
  · refine wp_iload_n d_M_set_14 rfl ?_
    refine wp_iconst (v := 0) d_M_set_15 (by decide) ?_
    refine wp_iload_n d_M_set_16 rfl ?_
    refine wp_if_ne (tgt := 29) d_M_set_17 (by decide) (fun hc2 => ?_) (fun hc2 => ?_)
    · exact absurd rfl hc2
    · refine wp_aload_n d_M_set_20 rfl ?_
      refine wp_getI d_M_set_21 fl_M_7 rfl rfl (by decide) ?_
      refine wp_iconst (v := 1) d_M_set_24 (by decide) ?_
      refine wp_isub d_M_set_25 ?_
      refine wp_goto (tgt := 37) d_M_set_26 (by decide) ?_
      rw [e9]
      refine wp_callS3e d_M_set_37 cs_M_100 ⟨Nat.le_of_ble_eq_true rfl, Nat.le_of_ble_eq_true rfl⟩ (Nat.le_of_ble_eq_true rfl) (Nat.le_of_ble_eq_true rfl) (c_M_in _ _ _ _) ?_
      refine wp_if_ne (tgt := 45) d_M_set_40 (by decide) (fun hc3 => ?_) (fun hc3 => ?_)
      · refine wp_iload_n d_M_set_45 rfl ?_
        refine wp_if_ne (tgt := 56) d_M_set_46 (by decide) (fun hc5 => ?_) (fun hc5 => ?_)
        · exact absurd rfl hc5
        · refine wp_aload_n d_M_set_49 rfl ?_
          refine wp_getI d_M_set_50 fl_M_107 rfl rfl (by decide) ?_
          refine wp_goto (tgt := 60) d_M_set_53 (by decide) ?_
          refine wp_istore3 d_M_set_60 (by decide) rfl ?_
          refine wp_aload_n d_M_set_61 rfl ?_
          refine wp_iload_n d_M_set_62 rfl ?_
          refine wp_if_ne (tgt := 70) d_M_set_63 (by decide) (fun hc6 => ?_) (fun hc6 => ?_)
          · exact absurd rfl hc6
          · refine wp_iload_n d_M_set_66 rfl ?_
            refine wp_goto (tgt := 74) d_M_set_67 (by decide) ?_
            refine wp_putI d_M_set_74 fp_M_107 rfl rfl (by decide) rfl rfl ?_
            refine wp_aload_n d_M_set_77 rfl ?_
            refine wp_iload_n d_M_set_78 rfl ?_
            refine wp_iconst (v := 1) d_M_set_79 (by decide) ?_
            refine wp_icmp_ne (tgt := 87) d_M_set_80 (by decide) (fun hc7 => ?_) (fun hc7 => ?_)
            · refine wp_aload_n d_M_set_87 rfl ?_
              refine wp_getI d_M_set_88 fl_M_110 rfl rfl (by decide) ?_
              refine wp_putI d_M_set_91 fp_M_110 rfl rfl (by decide) rfl rfl ?_
              refine wp_iload_n d_M_set_94 rfl ?_
              refine wp_iret d_M_set_95 rfl ?_
              refine ⟨congrArg (fun x => some (Value.int x)) (Th_0 (by decide)), ?_⟩
              rw [wI_eq, upd_ne (by decide), Th_0 (by decide)]
            · exact absurd hc7 (by decide)
      · exact absurd h (bz_0.mp hc3)
theorem c_M_set1 (v : Int32) {N : Nat} (σ : Hp) (hB : MB σ N) (h : 0 ≤ v ∧ v ≤ nI (2 ^ N - 1)) : Ct m_M_set [.ref 56, .int 1, .int v] σ (Rt (.int (σ.1 56 5)) (wI (wI (Th σ) 56 4 (σ.1 56 4)) 56 5 v)) := by
  have hB := hB.th
  show WP m_M_set 0 [.ref 56, .int 1, .int v, .null] [] σ _
  refine wp_aload_n d_M_set_0 rfl ?_
  refine wp_iconst (v := 0) d_M_set_1 (by decide) ?_
  refine wp_putI d_M_set_2 fp_M_89 rfl rfl (by decide) rfl rfl ?_
  show WP m_M_set 5 _ _ (Th σ) _
  refine wp_iload_n d_M_set_5 rfl ?_
  refine wp_iconst (v := 0) d_M_set_6 (by decide) ?_
  refine wp_iconst (v := 1) d_M_set_7 (by decide) ?_
  refine wp_callS3e d_M_set_8 cs_M_100 ⟨Nat.le_of_ble_eq_true rfl, Nat.le_of_ble_eq_true rfl⟩ (Nat.le_of_ble_eq_true rfl) (Nat.le_of_ble_eq_true rfl) (c_M_in _ _ _ _) ?_
  refine wp_if_eq (tgt := 43) d_M_set_11 (by decide) (fun hc => ?_) (fun hc => ?_)
  · exact absurd (bz_0.mp hc) (fun q => q (by decide))
  · refine wp_iload_n d_M_set_14 rfl ?_
    refine wp_iconst (v := 0) d_M_set_15 (by decide) ?_
    refine wp_iload_n d_M_set_16 rfl ?_
    refine wp_if_ne (tgt := 29) d_M_set_17 (by decide) (fun hc2 => ?_) (fun hc2 => ?_)
    · refine wp_iconst (v := 1) d_M_set_29 (by decide) ?_
      refine wp_aload_n d_M_set_30 rfl ?_
      refine wp_getI d_M_set_31 fl_M_7 rfl rfl (by decide) ?_
      refine wp_ishl d_M_set_34 ?_
      refine wp_iconst (v := 1) d_M_set_35 (by decide) ?_
      refine wp_isub d_M_set_36 ?_
      rw [hB.1, whole_nI N hB.2.2]
      refine wp_callS3e d_M_set_37 cs_M_100 ⟨Nat.le_of_ble_eq_true rfl, Nat.le_of_ble_eq_true rfl⟩ (Nat.le_of_ble_eq_true rfl) (Nat.le_of_ble_eq_true rfl) (c_M_in _ _ _ _) ?_
      refine wp_if_ne (tgt := 45) d_M_set_40 (by decide) (fun hc3 => ?_) (fun hc3 => ?_)
      · refine wp_iload_n d_M_set_45 rfl ?_
        refine wp_if_ne (tgt := 56) d_M_set_46 (by decide) (fun hc5 => ?_) (fun hc5 => ?_)
        · refine wp_aload_n d_M_set_56 rfl ?_
          refine wp_getI d_M_set_57 fl_M_110 rfl rfl (by decide) ?_
          refine wp_istore3 d_M_set_60 (by decide) rfl ?_
          refine wp_aload_n d_M_set_61 rfl ?_
          refine wp_iload_n d_M_set_62 rfl ?_
          refine wp_if_ne (tgt := 70) d_M_set_63 (by decide) (fun hc6 => ?_) (fun hc6 => ?_)
          · refine wp_aload_n d_M_set_70 rfl ?_
            refine wp_getI d_M_set_71 fl_M_107 rfl rfl (by decide) ?_
            refine wp_putI d_M_set_74 fp_M_107 rfl rfl (by decide) rfl rfl ?_
            refine wp_aload_n d_M_set_77 rfl ?_
            refine wp_iload_n d_M_set_78 rfl ?_
            refine wp_iconst (v := 1) d_M_set_79 (by decide) ?_
            refine wp_icmp_ne (tgt := 87) d_M_set_80 (by decide) (fun hc7 => ?_) (fun hc7 => ?_)
            · exact absurd rfl hc7
            · refine wp_iload_n d_M_set_83 rfl ?_
              refine wp_goto (tgt := 91) d_M_set_84 (by decide) ?_
              refine wp_putI d_M_set_91 fp_M_110 rfl rfl (by decide) rfl rfl ?_
              refine wp_iload_n d_M_set_94 rfl ?_
              refine wp_iret d_M_set_95 rfl ?_
              refine ⟨congrArg (fun x => some (Value.int x)) (Th_0 (by decide)), ?_⟩
              rw [Th_0 (by decide)]
          · exact absurd hc6 (by decide)
        · exact absurd hc5 (by decide)
      · exact absurd h (bz_0.mp hc3)
    · exact absurd hc2 (by decide)
def twP (N L : Nat) (lm : Nat → Nat) (k : Nat) : Bool := decide (pcN (rsN N k) = N) && (List.range L).all (fun l => decide (bN N k (lm l) = bN N (lm l) k))
def twC (N L : Nat) (lm : Nat → Nat) (K : Nat) : Nat := it (fun k r => r + (if twP N L lm k = true then 1 else 0)) K 0
theorem twC_le {N L : Nat} {lm : Nat → Nat} : ∀ K, twC N L lm K ≤ K
  | 0 => Nat.le_refl _
  | K + 1 => by
    have := twC_le (N := N) (L := L) (lm := lm) K
    show twC N L lm K + (if twP N L lm K = true then 1 else 0) ≤ _
    split <;> omega
theorem bzN {p : Prop} {i : Decidable p} : @bz p i = nI (if p then 1 else 0) := by
  unfold bz
  split <;> rfl
theorem c_M_twists {N L : Nat} {lm : Nat → Nat} (σ : Hp) (hB : MB σ N) (hL : LT σ N L lm) : Ct m_M_twists [.ref 56] σ (Rt (.int (nI (twC N L lm (N ^ N)))) (Th σ)) := by
  have hB := hB.th
  have hL := hL.th
  have h6 := hB.2.2
  have hp6 := pow6 h6
  show WP m_M_twists 0 [.ref 56, .null, .null, .null, .null, .null] [] σ _
  refine wp_aload_n d_M_twists_0 rfl ?_
  refine wp_iconst (v := 0) d_M_twists_1 (by decide) ?_
  refine wp_putI d_M_twists_2 fp_M_89 rfl rfl (by decide) rfl rfl ?_
  show WP m_M_twists 5 _ _ (Th σ) _
  refine wp_iconst (v := 0) d_M_twists_5 (by decide) ?_
  refine wp_istore1 d_M_twists_6 (by decide) rfl ?_
  refine wp_aload_n d_M_twists_7 rfl ?_
  refine wp_aload_n d_M_twists_8 rfl ?_
  refine wp_getI d_M_twists_9 fl_M_7 rfl rfl (by decide) ?_
  rw [hB.1]
  refine wp_callV1e d_M_twists_12 cv_M_92 rfl rfl rfl ⟨Nat.le_of_ble_eq_true rfl, Nat.le_of_ble_eq_true rfl⟩ (Nat.le_of_ble_eq_true rfl) (Nat.le_of_ble_eq_true rfl) (c_M_power (by omega) _ hB) ?_
  refine wp_istore2 d_M_twists_15 (by decide) rfl ?_
  refine wp_iconst (v := 0) d_M_twists_16 (by decide) ?_
  refine wp_istore3 d_M_twists_17 (by decide) rfl ?_
  suffices H : ∀ k, k ≤ N ^ N → ∀ x4 x5 : Value, x4.category = 1 → WP m_M_twists 18 [.ref 56, .int (nI (twC N L lm k)), .int (nI (N ^ N)), .int (nI k), x4, x5] [] (Th σ) (Rt (.int (nI (twC N L lm (N ^ N)))) (Th σ)) from H 0 (Nat.zero_le _) _ _ rfl
  refine lp_nat (fun k hk ih x4 x5 hx4 => ?_)
  refine wp_iload_n d_M_twists_18 rfl ?_
  refine wp_iload_n d_M_twists_19 rfl ?_
  refine wp_icmp_ge (tgt := 118) d_M_twists_20 (by decide) (fun hc => ?_) (fun hc => ?_)
  · obtain rfl := Nat.le_antisymm hk (nI_ge2 hc (by omega) (by omega))
    refine wp_iload_n d_M_twists_118 rfl ?_
    refine wp_iret d_M_twists_119 rfl ?_
    exact ⟨rfl, rfl⟩
  · have hk2 := nI_nge hc (by omega) (by omega)
    have fin : ∀ (b : Bool) (x5 : Value), b = twP N L lm k → WP m_M_twists 99 [.ref 56, .int (nI (twC N L lm k)), .int (nI (N ^ N)), .int (nI k), .int (bz (b = true)), x5] [] (Th σ) (Rt (.int (nI (twC N L lm (N ^ N)))) (Th σ)) := by
      intro b x5 hb
      have e0 : ∀ z, z = (if twP N L lm k = true then 1 else 0) → nI (twC N L lm k) + nI z = nI (twC N L lm (k + 1)) := by
        intro z hz
        rw [nI_add, hz]; rfl
      refine wp_iload_n d_M_twists_99 rfl ?_
      refine wp_iload d_M_twists_100 rfl ?_
      refine wp_if_eq (tgt := 109) d_M_twists_102 (by decide) (fun h3 => ?_) (fun h3 => ?_)
      · have h3 := bz_0.mp h3
        refine wp_iconst (v := 0) d_M_twists_109 (by decide) ?_
        rw [show (0 : Int32) = nI 0 from rfl]
        refine wp_iadd d_M_twists_110 ?_
        refine wp_istore1 d_M_twists_111 (by decide) rfl ?_
        refine wp_iinc3 d_M_twists_112 (hn_ii1 _) (by decide) rfl ?_
        refine wp_goto (tgt := 18) d_M_twists_115 (by decide) ?_
        rw [nI_1, e0 0 (by rw [← hb, if_neg h3])]
        exact ih hk2 _ _ rfl
      · have h3 := bz_n0 h3
        refine wp_iconst (v := 1) d_M_twists_105 (by decide) ?_
        refine wp_goto (tgt := 110) d_M_twists_106 (by decide) ?_
        rw [show (1 : Int32) = nI 1 from rfl]
        refine wp_iadd d_M_twists_110 ?_
        refine wp_istore1 d_M_twists_111 (by decide) rfl ?_
        refine wp_iinc3 d_M_twists_112 (hn_ii1 _) (by decide) rfl ?_
        refine wp_goto (tgt := 18) d_M_twists_115 (by decide) ?_
        rw [nI_1, e0 1 (by rw [← hb, if_pos h3])]
        exact ih hk2 _ _ rfl
    have lp : ∀ l, l ≤ L → ∀ b : Bool, b = (decide (pcN (rsN N k) = N) && (List.range l).all (fun l => decide (bN N k (lm l) = bN N (lm l) k))) → WP m_M_twists 45 [.ref 56, .int (nI (twC N L lm k)), .int (nI (N ^ N)), .int (nI k), .int (bz (b = true)), .int (nI l)] [] (Th σ) (Rt (.int (nI (twC N L lm (N ^ N)))) (Th σ)) := by
      have h4 := hL.2.1
      refine lp_nat (fun l hl ih2 b hb => ?_)
      refine wp_iload d_M_twists_45 rfl ?_
      refine wp_aload_n d_M_twists_47 rfl ?_
      refine wp_getI d_M_twists_48 fl_M_104 rfl rfl (by decide) ?_
      refine wp_icmp_ge (tgt := 99) d_M_twists_51 (by decide) (fun h2 => ?_) (fun h2 => ?_)
      · rw [hL.1] at h2
        obtain rfl := Nat.le_antisymm hl (nI_ge2 h2 (by omega) (by omega))
        exact fin b _ hb
      · rw [hL.1] at h2
        have hl2 := nI_nge h2 (by omega) (by omega)
        refine wp_iload d_M_twists_54 rfl ?_
        refine wp_if_eq (tgt := 99) d_M_twists_56 (by decide) (fun h3 => ?_) (fun h3 => ?_)
        · have h3 := bz_0.mp h3
          refine fin b _ ?_
          have hbf : b = false := by cases b with
            | false => rfl
            | true => exact absurd rfl h3
          rw [hbf] at hb ⊢
          rw [twP]
          cases q : decide (pcN (rsN N k) = N) with
          | false => rw [Bool.false_and]
          | true =>
            rw [q, Bool.true_and] at hb
            rw [Bool.true_and]
            symm
            rw [List.all_eq_false]
            obtain ⟨x, hx, hx2⟩ := List.all_eq_false.mp hb.symm
            exact ⟨x, List.mem_range.mpr (Nat.lt_trans (List.mem_range.mp hx) hl2), hx2⟩
        · obtain ⟨l1, l2⟩ := hL.2.2 l hl2
          have h3 := bz_n0 h3
          have hs : (decide (pcN (rsN N k) = N) && (List.range (l + 1)).all (fun l => decide (bN N k (lm l) = bN N (lm l) k))) = decide (bN N k (lm l) = bN N (lm l) k) := by
            rw [List.range_succ, List.all_append, ← Bool.and_assoc, ← hb, h3]
            simp
          have b1 := bN_lt (N := N) (a := k) (b := lm l) hB.2.1
          have b2 := bN_lt (N := N) (a := lm l) (b := k) hB.2.1
          refine wp_aload_n d_M_twists_59 rfl ?_
          refine wp_iload_n d_M_twists_60 rfl ?_
          refine wp_aload_n d_M_twists_61 rfl ?_
          refine wp_getA d_M_twists_62 fl_M_13 rfl rfl rfl ?_
          refine wp_iload d_M_twists_65 rfl ?_
          refine wp_iald d_M_twists_67 rfl ?_ ?_
          · exact vp_in_nI (n := l) (by omega) (by decide)
          rw [nI_clamp (show l < 2 ^ 31 by omega), l1]
          refine wp_callV2e d_M_twists_68 cv_M_124 rfl rfl rfl ⟨Nat.le_of_ble_eq_true rfl, Nat.le_of_ble_eq_true rfl⟩ (Nat.le_of_ble_eq_true rfl) (Nat.le_of_ble_eq_true rfl) (c_M_both (by omega) (by omega) _ hB) ?_
          refine wp_aload_n d_M_twists_71 rfl ?_
          refine wp_aload_n d_M_twists_72 rfl ?_
          refine wp_getA d_M_twists_73 fl_M_13 rfl rfl rfl ?_
          refine wp_iload d_M_twists_76 rfl ?_
          refine wp_iald d_M_twists_78 rfl ?_ ?_
          · exact vp_in_nI (n := l) (by omega) (by decide)
          rw [nI_clamp (show l < 2 ^ 31 by omega), l1]
          refine wp_iload_n d_M_twists_79 rfl ?_
          refine wp_callV2e d_M_twists_80 cv_M_124 rfl rfl rfl ⟨Nat.le_of_ble_eq_true rfl, Nat.le_of_ble_eq_true rfl⟩ (Nat.le_of_ble_eq_true rfl) (Nat.le_of_ble_eq_true rfl) (c_M_both (by omega) (by omega) _ hB) ?_
          refine wp_icmp_ne (tgt := 90) d_M_twists_83 (by decide) (fun h5 => ?_) (fun h5 => ?_)
          · rw [nI_eq (by omega) (by omega)] at h5
            refine wp_iconst (v := 0) d_M_twists_90 (by decide) ?_
            refine wp_istore4 d_M_twists_91 (by decide) rfl ?_
            refine wp_iinc5 d_M_twists_93 (hn_ii1 _) (by decide) rfl ?_
            refine wp_goto (tgt := 45) d_M_twists_96 (by decide) ?_
            rw [nI_1]
            have := ih2 hl2 false (by rw [hs, decide_eq_false h5])
            exact this
          · rw [nI_eq (by omega) (by omega)] at h5
            refine wp_iconst (v := 1) d_M_twists_86 (by decide) ?_
            refine wp_goto (tgt := 91) d_M_twists_87 (by decide) ?_
            refine wp_istore4 d_M_twists_91 (by decide) rfl ?_
            refine wp_iinc5 d_M_twists_93 (hn_ii1 _) (by decide) rfl ?_
            refine wp_goto (tgt := 45) d_M_twists_96 (by decide) ?_
            rw [nI_1]
            have := ih2 hl2 true (by rw [hs, decide_eq_true h5])
            exact this
    refine wp_aload_n d_M_twists_23 rfl ?_
    refine wp_iload_n d_M_twists_24 rfl ?_
    refine wp_callV1e d_M_twists_25 cv_M_158 rfl rfl rfl ⟨Nat.le_of_ble_eq_true rfl, Nat.le_of_ble_eq_true rfl⟩ (Nat.le_of_ble_eq_true rfl) (Nat.le_of_ble_eq_true rfl) (c_M_rankOf (by omega) _ hB) ?_
    have hpc := pcN_le (rsN N k)
    refine wp_aload_n d_M_twists_28 rfl ?_
    refine wp_getI d_M_twists_29 fl_M_7 rfl rfl (by decide) ?_
    refine wp_icmp_ne (tgt := 39) d_M_twists_32 (by decide) (fun h1 => ?_) (fun h1 => ?_)
    · rw [hB.1, nI_eq (by omega) (by omega)] at h1
      refine wp_iconst (v := 0) d_M_twists_39 (by decide) ?_
      refine wp_istore4 d_M_twists_40 (by decide) rfl ?_
      refine wp_iconst (v := 0) d_M_twists_42 (by decide) ?_
      refine wp_istore5 d_M_twists_43 (by decide) rfl ?_
      exact lp 0 (Nat.zero_le _) false (by rw [decide_eq_false h1]; rfl)
    · rw [hB.1, nI_eq (by omega) (by omega)] at h1
      refine wp_iconst (v := 1) d_M_twists_35 (by decide) ?_
      refine wp_goto (tgt := 40) d_M_twists_36 (by decide) ?_
      refine wp_istore4 d_M_twists_40 (by decide) rfl ?_
      refine wp_iconst (v := 0) d_M_twists_42 (by decide) ?_
      refine wp_istore5 d_M_twists_43 (by decide) rfl ?_
      exact lp 0 (Nat.zero_le _) true (by rw [decide_eq_true h1]; rfl)
