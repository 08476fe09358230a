/-! contracts: steps, boxes (what they change); what the machine asks of the elements -/
def Ri (σ : Hp) : Option Value → Hp → Prop := fun w τ => (∃ x : Int32, w = some (.int x)) ∧ τ = σ
def Rf (S : List Nat) (σ : Hp) : Option Value → Hp → Prop := fun w τ => w = none ∧ Fp S σ τ
def Rg (S : List Nat) (σ : Hp) : Option Value → Hp → Prop := fun w τ => (∃ x : Int32, w = some (.int x)) ∧ Fp S σ τ
theorem bnd (b : Int32) : ∃ N, N < 2 ^ 31 ∧ ∀ k, k ≤ N → ¬ b ≤ nI k → k < N := by
  by_cases hb : b < 0
  · exact ⟨0, by decide, fun k hk h => absurd (Int32.le_of_lt (Int32.lt_of_lt_of_le hb (nI_pos' (by omega)))) h⟩
  · obtain ⟨j, hj, rfl⟩ := nI_of hb
    exact ⟨j, hj, fun k hk h => nI_nge h (by omega) hj⟩
def tS : List Nat := [16, 18, 19, 20, 21, 22, 23]
theorem c_T_lead (e w x : Int32) (σ : Hp) : Ct m_T_lead [.ref 16, .int e, .int w, .int x] σ (Rv (wrA σ 17 12000 (e * 8 + w) x)) := by
  show WP m_T_lead 0 [.ref 16, .int e, .int w, .int x] [] σ _
  refine wp_aload_n d_T_lead_0 rfl ?_
  refine wp_getA d_T_lead_1 fl_T_11 rfl rfl rfl ?_
  refine wp_iload_n d_T_lead_4 rfl ?_
  refine wp_bipush (v := 8) d_T_lead_5 (by decide) ?_
  refine wp_imul d_T_lead_7 ?_
  refine wp_iload_n d_T_lead_8 rfl ?_
  refine wp_iadd d_T_lead_9 ?_
  refine wp_iload_n d_T_lead_10 rfl ?_
  refine wp_callSN3v d_T_lead_11 csn_T_33 ⟨Nat.le_of_ble_eq_true rfl, Nat.le_of_ble_eq_true rfl⟩ (Nat.le_of_ble_eq_true rfl) (Nat.le_of_ble_eq_true rfl) (c_P_put (a := 17) rfl (by decide) _ _ _) ?_
  refine wp_vret d_T_lead_14 rfl ?_
  exact ⟨rfl, rfl⟩
theorem c_T_from (e w : Int32) (σ : Hp) : Ct m_T_from [.ref 16, .int e, .int w] σ (Rt (.int (rdA σ 17 12000 (e * 8 + w))) σ) := by
  show WP m_T_from 0 [.ref 16, .int e, .int w] [] σ _
  refine wp_aload_n d_T_from_0 rfl ?_
  refine wp_getA d_T_from_1 fl_T_11 rfl rfl rfl ?_
  refine wp_iload_n d_T_from_4 rfl ?_
  refine wp_bipush (v := 8) d_T_from_5 (by decide) ?_
  refine wp_imul d_T_from_7 ?_
  refine wp_iload_n d_T_from_8 rfl ?_
  refine wp_iadd d_T_from_9 ?_
  refine wp_callSN2e d_T_from_10 csn_T_37 ⟨Nat.le_of_ble_eq_true rfl, Nat.le_of_ble_eq_true rfl⟩ (Nat.le_of_ble_eq_true rfl) (Nat.le_of_ble_eq_true rfl) (c_P_at (a := 17) rfl (by decide) _ _) ?_
  refine wp_iret d_T_from_13 rfl ?_
  exact ⟨rfl, rfl⟩
theorem c_T_rootOf (e : Int32) (σ : Hp) : Ct m_T_rootOf [.ref 16, .int e] σ (Rt (.int (rdA σ 21 1500 e)) σ) := by
  show WP m_T_rootOf 0 [.ref 16, .int e] [] σ _
  refine wp_aload_n d_T_rootOf_0 rfl ?_
  refine wp_getA d_T_rootOf_1 fl_T_24 rfl rfl rfl ?_
  refine wp_iload_n d_T_rootOf_4 rfl ?_
  refine wp_callSN2e d_T_rootOf_5 csn_T_37 ⟨Nat.le_of_ble_eq_true rfl, Nat.le_of_ble_eq_true rfl⟩ (Nat.le_of_ble_eq_true rfl) (Nat.le_of_ble_eq_true rfl) (c_P_at (a := 21) rfl (by decide) _ _) ?_
  refine wp_iret d_T_rootOf_8 rfl ?_
  exact ⟨rfl, rfl⟩
def lwW (σ : Hp) (e x : Int32) : Hp := wrA σ 20 1500 e (mnI (rdA σ 20 1500 e) x)
theorem c_T_lower (e x : Int32) (σ : Hp) : Ct m_T_lower [.ref 16, .int e, .int x] σ (Rv (lwW σ e x)) := by
  show WP m_T_lower 0 [.ref 16, .int e, .int x] [] σ _
  refine wp_aload_n d_T_lower_0 rfl ?_
  refine wp_getA d_T_lower_1 fl_T_21 rfl rfl rfl ?_
  refine wp_iload_n d_T_lower_4 rfl ?_
  refine wp_aload_n d_T_lower_5 rfl ?_
  refine wp_getA d_T_lower_6 fl_T_21 rfl rfl rfl ?_
  refine wp_iload_n d_T_lower_9 rfl ?_
  refine wp_callSN2e d_T_lower_10 csn_T_37 ⟨Nat.le_of_ble_eq_true rfl, Nat.le_of_ble_eq_true rfl⟩ (Nat.le_of_ble_eq_true rfl) (Nat.le_of_ble_eq_true rfl) (c_P_at (a := 20) rfl (by decide) _ _) ?_
  refine wp_iload_n d_T_lower_13 rfl ?_
  refine wp_callS2e d_T_lower_14 cs_T_82 ⟨Nat.le_of_ble_eq_true rfl, Nat.le_of_ble_eq_true rfl⟩ (Nat.le_of_ble_eq_true rfl) (Nat.le_of_ble_eq_true rfl) (c_Jm_min _ _ _) ?_
  refine wp_callSN3v d_T_lower_17 csn_T_33 ⟨Nat.le_of_ble_eq_true rfl, Nat.le_of_ble_eq_true rfl⟩ (Nat.le_of_ble_eq_true rfl) (Nat.le_of_ble_eq_true rfl) (c_P_put (a := 20) rfl (by decide) _ _ _) ?_
  refine wp_vret d_T_lower_20 rfl ?_
  exact ⟨rfl, rfl⟩
theorem lwW_Fp {S : List Nat} {σ τ : Hp} {e x : Int32} (h : Fp S σ τ) (hs : 20 ∈ S) : Fp S σ (lwW τ e x) := h.wrA hs
theorem w_T_open (e x : Int32) (σ : Hp) : Ct m_T_open [.ref 16, .int e, .int x] σ (Rf tS σ) := by
  show WP m_T_open 0 [.ref 16, .int e, .int x] [] σ _
  refine wp_aload_n d_T_open_0 rfl ?_
  refine wp_dup d_T_open_1 rfl ?_
  refine wp_getI d_T_open_2 fl_T_41 rfl rfl (by decide) ?_
  refine wp_iconst (v := 1) d_T_open_5 (by decide) ?_
  refine wp_iadd d_T_open_6 ?_
  refine wp_putI d_T_open_7 fp_T_41 rfl rfl (by decide) rfl rfl ?_
  refine wp_aload_n d_T_open_10 rfl ?_
  refine wp_getA d_T_open_11 fl_T_18 rfl rfl rfl ?_
  refine wp_iload_n d_T_open_14 rfl ?_
  refine wp_aload_n d_T_open_15 rfl ?_
  refine wp_getI d_T_open_16 fl_T_41 rfl rfl (by decide) ?_
  refine wp_callSN3v d_T_open_19 csn_T_33 ⟨Nat.le_of_ble_eq_true rfl, Nat.le_of_ble_eq_true rfl⟩ (Nat.le_of_ble_eq_true rfl) (Nat.le_of_ble_eq_true rfl) (c_P_put (a := 19) rfl (by decide) _ _ _) ?_
  refine wp_aload_n d_T_open_22 rfl ?_
  refine wp_getA d_T_open_23 fl_T_21 rfl rfl rfl ?_
  refine wp_iload_n d_T_open_26 rfl ?_
  refine wp_aload_n d_T_open_27 rfl ?_
  refine wp_getI d_T_open_28 fl_T_41 rfl rfl (by decide) ?_
  refine wp_callSN3v d_T_open_31 csn_T_33 ⟨Nat.le_of_ble_eq_true rfl, Nat.le_of_ble_eq_true rfl⟩ (Nat.le_of_ble_eq_true rfl) (Nat.le_of_ble_eq_true rfl) (c_P_put (a := 20) rfl (by decide) _ _ _) ?_
  refine wp_aload_n d_T_open_34 rfl ?_
  refine wp_getA d_T_open_35 fl_T_15 rfl rfl rfl ?_
  refine wp_iload_n d_T_open_38 rfl ?_
  refine wp_iload_n d_T_open_39 rfl ?_
  refine wp_callSN3v d_T_open_40 csn_T_33 ⟨Nat.le_of_ble_eq_true rfl, Nat.le_of_ble_eq_true rfl⟩ (Nat.le_of_ble_eq_true rfl) (Nat.le_of_ble_eq_true rfl) (c_P_put (a := 18) rfl (by decide) _ _ _) ?_
  refine wp_aload_n d_T_open_43 rfl ?_
  refine wp_getA d_T_open_44 fl_T_27 rfl rfl rfl ?_
  refine wp_aload_n d_T_open_47 rfl ?_
  refine wp_getI d_T_open_48 fl_T_55 rfl rfl (by decide) ?_
  refine wp_iload_n d_T_open_51 rfl ?_
  refine wp_callSN3v d_T_open_52 csn_T_33 ⟨Nat.le_of_ble_eq_true rfl, Nat.le_of_ble_eq_true rfl⟩ (Nat.le_of_ble_eq_true rfl) (Nat.le_of_ble_eq_true rfl) (c_P_put (a := 22) rfl (by decide) _ _ _) ?_
  refine wp_aload_n d_T_open_55 rfl ?_
  refine wp_getA d_T_open_56 fl_T_30 rfl rfl rfl ?_
  refine wp_aload_n d_T_open_59 rfl ?_
  refine wp_getI d_T_open_60 fl_T_58 rfl rfl (by decide) ?_
  refine wp_iload_n d_T_open_63 rfl ?_
  refine wp_callSN3v d_T_open_64 csn_T_33 ⟨Nat.le_of_ble_eq_true rfl, Nat.le_of_ble_eq_true rfl⟩ (Nat.le_of_ble_eq_true rfl) (Nat.le_of_ble_eq_true rfl) (c_P_put (a := 23) rfl (by decide) _ _ _) ?_
  refine wp_aload_n d_T_open_67 rfl ?_
  refine wp_dup d_T_open_68 rfl ?_
  refine wp_getI d_T_open_69 fl_T_55 rfl rfl (by decide) ?_
  refine wp_iconst (v := 1) d_T_open_72 (by decide) ?_
  refine wp_iadd d_T_open_73 ?_
  refine wp_putI d_T_open_74 fp_T_55 rfl rfl (by decide) rfl rfl ?_
  refine wp_aload_n d_T_open_77 rfl ?_
  refine wp_dup d_T_open_78 rfl ?_
  refine wp_getI d_T_open_79 fl_T_58 rfl rfl (by decide) ?_
  refine wp_iconst (v := 1) d_T_open_82 (by decide) ?_
  refine wp_iadd d_T_open_83 ?_
  refine wp_putI d_T_open_84 fp_T_58 rfl rfl (by decide) rfl rfl ?_
  refine wp_vret d_T_open_87 rfl ?_
  exact ⟨rfl, (((((((Fp.rf.wI (by decide)).wrA (by decide)).wrA (by decide)).wrA (by decide)).wrA (by decide)).wrA (by decide)).wI (by decide)).wI (by decide)⟩
theorem w_T_tryWay (e x z : Int32) (σ : Hp) : Ct m_T_tryWay [.ref 16, .int e, .int x, .int z] σ (Rf tS σ) := by
  show WP m_T_tryWay 0 [.ref 16, .int e, .int x, .int z] [] σ _
  refine wp_aload_n d_T_tryWay_0 rfl ?_
  refine wp_getA d_T_tryWay_1 fl_T_18 rfl rfl rfl ?_
  refine wp_iload_n d_T_tryWay_4 rfl ?_
  refine wp_callSN2e d_T_tryWay_5 csn_T_37 ⟨Nat.le_of_ble_eq_true rfl, Nat.le_of_ble_eq_true rfl⟩ (Nat.le_of_ble_eq_true rfl) (Nat.le_of_ble_eq_true rfl) (c_P_at (a := 19) rfl (by decide) _ _) ?_
  refine wp_if_ne (tgt := 20) d_T_tryWay_8 (by decide) (fun hc => ?_) (fun hc => ?_)
  · refine wp_aload_n d_T_tryWay_20 rfl ?_
    refine wp_getA d_T_tryWay_21 fl_T_24 rfl rfl rfl ?_
    refine wp_iload_n d_T_tryWay_24 rfl ?_
    refine wp_callSN2e d_T_tryWay_25 csn_T_37 ⟨Nat.le_of_ble_eq_true rfl, Nat.le_of_ble_eq_true rfl⟩ (Nat.le_of_ble_eq_true rfl) (Nat.le_of_ble_eq_true rfl) (c_P_at (a := 21) rfl (by decide) _ _) ?_
    refine wp_bipush (v := -9) d_T_tryWay_28 (by decide) ?_
    refine wp_icmp_ne (tgt := 46) d_T_tryWay_30 (by decide) (fun hc2 => ?_) (fun hc2 => ?_)
    · refine wp_vret d_T_tryWay_46 rfl ?_
      exact ⟨rfl, Fp.rf⟩
    · refine wp_aload_n d_T_tryWay_33 rfl ?_
      refine wp_iload_n d_T_tryWay_34 rfl ?_
      refine wp_aload_n d_T_tryWay_35 rfl ?_
      refine wp_getA d_T_tryWay_36 fl_T_18 rfl rfl rfl ?_
      refine wp_iload_n d_T_tryWay_39 rfl ?_
      refine wp_callSN2e d_T_tryWay_40 csn_T_37 ⟨Nat.le_of_ble_eq_true rfl, Nat.le_of_ble_eq_true rfl⟩ (Nat.le_of_ble_eq_true rfl) (Nat.le_of_ble_eq_true rfl) (c_P_at (a := 19) rfl (by decide) _ _) ?_
      refine wp_callV2v d_T_tryWay_43 cv_T_76 rfl rfl rfl ⟨Nat.le_of_ble_eq_true rfl, Nat.le_of_ble_eq_true rfl⟩ (Nat.le_of_ble_eq_true rfl) (Nat.le_of_ble_eq_true rfl) (c_T_lower _ _ _) ?_
      refine wp_vret d_T_tryWay_46 rfl ?_
      exact ⟨rfl, lwW_Fp Fp.rf (by decide)⟩
  · refine wp_aload_n d_T_tryWay_11 rfl ?_
    refine wp_iload_n d_T_tryWay_12 rfl ?_
    refine wp_iload_n d_T_tryWay_13 rfl ?_
    refine wp_callV2 d_T_tryWay_14 cv_T_61 rfl rfl rfl ⟨Nat.le_of_ble_eq_true rfl, Nat.le_of_ble_eq_true rfl⟩ (Nat.le_of_ble_eq_true rfl) (Nat.le_of_ble_eq_true rfl) (w_T_open _ _ _) (fun v τ hv => ?_)
    obtain ⟨rfl, hF⟩ := hv
    show WP m_T_tryWay 17 _ [] τ _
    refine wp_goto (tgt := 46) d_T_tryWay_17 (by decide) ?_
    refine wp_vret d_T_tryWay_46 rfl ?_
    exact ⟨rfl, hF⟩
theorem gt0_pred {x : Int32} (h : ¬ x ≤ 0) : ∃ n, n + 1 < 2 ^ 31 ∧ x = nI (n + 1) := by
  have h2 := k2_lt h
  obtain ⟨j, hj, rfl⟩ := nI_of (k2_nlt (Int32.le_of_lt h2))
  have : 0 < j := (nI_ltI (a := 0) (by decide) hj).mp h2
  exact ⟨j - 1, by omega, by rw [show j - 1 + 1 = j by omega]⟩
theorem w_T_takeWaiting (e : Int32) (σ : Hp) : Ct m_T_takeWaiting [.ref 16, .int e] σ (Rf tS σ) := by
  show WP m_T_takeWaiting 0 [.ref 16, .int e] [] σ _
  suffices H : ∀ (n : Nat) (τ : Hp), (τ.1 16 8 ≤ 0 ∨ ∃ j, j ≤ n ∧ n < 2 ^ 31 ∧ τ.1 16 8 = nI j) → Fp tS σ τ → WP m_T_takeWaiting 0 [.ref 16, .int e] [] τ (Rf tS σ) by
    by_cases h : σ.1 16 8 ≤ 0
    · exact H 0 σ (Or.inl h) Fp.rf
    · obtain ⟨n, hn, e1⟩ := gt0_pred h
      exact H (n + 1) σ (Or.inr ⟨n + 1, Nat.le_refl _, hn, e1⟩) Fp.rf
  intro n
  induction n with
  | zero =>
    intro τ hw hF
    refine wp_aload_n d_T_takeWaiting_0 rfl ?_
    refine wp_getI d_T_takeWaiting_1 fl_T_58 rfl rfl (by decide) ?_
    refine wp_if_le (tgt := 52) d_T_takeWaiting_4 (by decide) (fun hc => ?_) (fun hc => ?_)
    · refine wp_vret d_T_takeWaiting_52 rfl ?_
      exact ⟨rfl, hF⟩
    · exfalso
      rcases hw with hw | ⟨j, hj, -, hw⟩
      · exact hc hw
      · rw [hw, show j = 0 by omega] at hc
        exact hc (by decide)
  | succ n ih =>
    intro τ hw hF
    refine wp_aload_n d_T_takeWaiting_0 rfl ?_
    refine wp_getI d_T_takeWaiting_1 fl_T_58 rfl rfl (by decide) ?_
    refine wp_if_le (tgt := 52) d_T_takeWaiting_4 (by decide) (fun hc => ?_) (fun hc => ?_)
    · refine wp_vret d_T_takeWaiting_52 rfl ?_
      exact ⟨rfl, hF⟩
    · refine wp_aload_n d_T_takeWaiting_7 rfl ?_
      refine wp_getA d_T_takeWaiting_8 fl_T_24 rfl rfl rfl ?_
      refine wp_iload_n d_T_takeWaiting_11 rfl ?_
      refine wp_callSN2e d_T_takeWaiting_12 csn_T_37 ⟨Nat.le_of_ble_eq_true rfl, Nat.le_of_ble_eq_true rfl⟩ (Nat.le_of_ble_eq_true rfl) (Nat.le_of_ble_eq_true rfl) (c_P_at (a := 21) rfl (by decide) _ _) ?_
      refine wp_bipush (v := -9) d_T_takeWaiting_15 (by decide) ?_
      refine wp_icmp_ne (tgt := 52) d_T_takeWaiting_17 (by decide) (fun hc2 => ?_) (fun hc2 => ?_)
      · refine wp_vret d_T_takeWaiting_52 rfl ?_
        exact ⟨rfl, hF⟩
      · refine wp_aload_n d_T_takeWaiting_20 rfl ?_
        refine wp_dup d_T_takeWaiting_21 rfl ?_
        refine wp_getI d_T_takeWaiting_22 fl_T_58 rfl rfl (by decide) ?_
        refine wp_iconst (v := 1) d_T_takeWaiting_25 (by decide) ?_
        refine wp_isub d_T_takeWaiting_26 ?_
        refine wp_putI d_T_takeWaiting_27 fp_T_58 rfl rfl (by decide) rfl rfl ?_
        refine wp_aload_n d_T_takeWaiting_30 rfl ?_
        refine wp_getA d_T_takeWaiting_31 fl_T_24 rfl rfl rfl ?_
        refine wp_aload_n d_T_takeWaiting_34 rfl ?_
        refine wp_getA d_T_takeWaiting_35 fl_T_30 rfl rfl rfl ?_
        refine wp_aload_n d_T_takeWaiting_38 rfl ?_
        refine wp_getI d_T_takeWaiting_39 fl_T_58 rfl rfl (by decide) ?_
        refine wp_callSN2e d_T_takeWaiting_42 csn_T_37 ⟨Nat.le_of_ble_eq_true rfl, Nat.le_of_ble_eq_true rfl⟩ (Nat.le_of_ble_eq_true rfl) (Nat.le_of_ble_eq_true rfl) (c_P_at (a := 23) rfl (by decide) _ _) ?_
        refine wp_iload_n d_T_takeWaiting_45 rfl ?_
        refine wp_callSN3v d_T_takeWaiting_46 csn_T_33 ⟨Nat.le_of_ble_eq_true rfl, Nat.le_of_ble_eq_true rfl⟩ (Nat.le_of_ble_eq_true rfl) (Nat.le_of_ble_eq_true rfl) (c_P_put (a := 21) rfl (by decide) _ _ _) ?_
        refine wp_goto (tgt := 0) d_T_takeWaiting_49 (by decide) ?_
        refine ih _ ?_ ((hF.wI (by decide)).wrA (by decide))
        rcases hw with hw | ⟨j, hj, hn, hw⟩
        · exact absurd hw hc
        · refine Or.inr ⟨j - 1, by omega, by omega, ?_⟩
          rw [wrA_ne (by decide), wI_eq]
          show τ.1 16 8 - 1 = _
          rw [hw]
          have : j ≠ 0 := by
            intro q
            rw [hw, q] at hc
            exact hc (by decide)
          rw [show j = j - 1 + 1 by omega, nI_pred, show j - 1 + 1 - 1 = j - 1 by omega]
theorem w_T_close (e : Int32) (σ : Hp) : Ct m_T_close [.ref 16, .int e] σ (Rf tS σ) := by
  show WP m_T_close 0 [.ref 16, .int e] [] σ _
  refine wp_aload_n d_T_close_0 rfl ?_
  refine wp_dup d_T_close_1 rfl ?_
  refine wp_getI d_T_close_2 fl_T_55 rfl rfl (by decide) ?_
  refine wp_iconst (v := 1) d_T_close_5 (by decide) ?_
  refine wp_isub d_T_close_6 ?_
  refine wp_putI d_T_close_7 fp_T_55 rfl rfl (by decide) rfl rfl ?_
  refine wp_aload_n d_T_close_10 rfl ?_
  refine wp_getA d_T_close_11 fl_T_21 rfl rfl rfl ?_
  refine wp_iload_n d_T_close_14 rfl ?_
  refine wp_callSN2e d_T_close_15 csn_T_37 ⟨Nat.le_of_ble_eq_true rfl, Nat.le_of_ble_eq_true rfl⟩ (Nat.le_of_ble_eq_true rfl) (Nat.le_of_ble_eq_true rfl) (c_P_at (a := 20) rfl (by decide) _ _) ?_
  refine wp_aload_n d_T_close_18 rfl ?_
  refine wp_getA d_T_close_19 fl_T_18 rfl rfl rfl ?_
  refine wp_iload_n d_T_close_22 rfl ?_
  refine wp_callSN2e d_T_close_23 csn_T_37 ⟨Nat.le_of_ble_eq_true rfl, Nat.le_of_ble_eq_true rfl⟩ (Nat.le_of_ble_eq_true rfl) (Nat.le_of_ble_eq_true rfl) (c_P_at (a := 19) rfl (by decide) _ _) ?_
  have last : ∀ τ, Fp tS σ τ → WP m_T_close 34 [.ref 16, .int e] [] τ (Rf tS σ) := by
    intro τ hF
    refine wp_aload_n d_T_close_34 rfl ?_
    refine wp_getI d_T_close_35 fl_T_55 rfl rfl (by decide) ?_
    refine wp_if_le (tgt := 66) d_T_close_38 (by decide) (fun hc => ?_) (fun hc => ?_)
    · refine wp_vret d_T_close_66 rfl ?_
      exact ⟨rfl, hF⟩
    · refine wp_aload_n d_T_close_41 rfl ?_
      refine wp_aload_n d_T_close_42 rfl ?_
      refine wp_getA d_T_close_43 fl_T_27 rfl rfl rfl ?_
      refine wp_aload_n d_T_close_46 rfl ?_
      refine wp_getI d_T_close_47 fl_T_55 rfl rfl (by decide) ?_
      refine wp_iconst (v := 1) d_T_close_50 (by decide) ?_
      refine wp_isub d_T_close_51 ?_
      refine wp_callSN2e d_T_close_52 csn_T_37 ⟨Nat.le_of_ble_eq_true rfl, Nat.le_of_ble_eq_true rfl⟩ (Nat.le_of_ble_eq_true rfl) (Nat.le_of_ble_eq_true rfl) (c_P_at (a := 22) rfl (by decide) _ _) ?_
      refine wp_aload_n d_T_close_55 rfl ?_
      refine wp_getA d_T_close_56 fl_T_21 rfl rfl rfl ?_
      refine wp_iload_n d_T_close_59 rfl ?_
      refine wp_callSN2e d_T_close_60 csn_T_37 ⟨Nat.le_of_ble_eq_true rfl, Nat.le_of_ble_eq_true rfl⟩ (Nat.le_of_ble_eq_true rfl) (Nat.le_of_ble_eq_true rfl) (c_P_at (a := 20) rfl (by decide) _ _) ?_
      refine wp_callV2v d_T_close_63 cv_T_76 rfl rfl rfl ⟨Nat.le_of_ble_eq_true rfl, Nat.le_of_ble_eq_true rfl⟩ (Nat.le_of_ble_eq_true rfl) (Nat.le_of_ble_eq_true rfl) (c_T_lower _ _ _) ?_
      refine wp_vret d_T_close_66 rfl ?_
      exact ⟨rfl, lwW_Fp hF (by decide)⟩
  refine wp_icmp_ne (tgt := 34) d_T_close_26 (by decide) (fun hc => ?_) (fun hc => ?_)
  · exact last _ (Fp.rf.wI (by decide))
  · refine wp_aload_n d_T_close_29 rfl ?_
    refine wp_iload_n d_T_close_30 rfl ?_
    refine wp_callV1 d_T_close_31 cv_T_79 rfl rfl rfl ⟨Nat.le_of_ble_eq_true rfl, Nat.le_of_ble_eq_true rfl⟩ (Nat.le_of_ble_eq_true rfl) (Nat.le_of_ble_eq_true rfl) (w_T_takeWaiting _ _) (fun v τ hv => ?_)
    obtain ⟨rfl, hF⟩ := hv
    exact last _ ((Fp.rf.wI (by decide)).tr hF)
theorem w_T_followFrom (e x z : Int32) (σ : Hp) : Ct m_T_followFrom [.ref 16, .int e, .int x, .int z] σ (Rf tS σ) := by
  show WP m_T_followFrom 0 [.ref 16, .int e, .int x, .int z, .null, .null, .null] [] σ _
  refine wp_aload_n d_T_followFrom_0 rfl ?_
  refine wp_iconst (v := 0) d_T_followFrom_1 (by decide) ?_
  refine wp_putI d_T_followFrom_2 fp_T_55 rfl rfl (by decide) rfl rfl ?_
  refine wp_aload_n d_T_followFrom_5 rfl ?_
  refine wp_iconst (v := 0) d_T_followFrom_6 (by decide) ?_
  refine wp_putI d_T_followFrom_7 fp_T_58 rfl rfl (by decide) rfl rfl ?_
  refine wp_aload_n d_T_followFrom_10 rfl ?_
  refine wp_iload_n d_T_followFrom_11 rfl ?_
  refine wp_iload_n d_T_followFrom_12 rfl ?_
  refine wp_callV2 d_T_followFrom_13 cv_T_61 rfl rfl rfl ⟨Nat.le_of_ble_eq_true rfl, Nat.le_of_ble_eq_true rfl⟩ (Nat.le_of_ble_eq_true rfl) (Nat.le_of_ble_eq_true rfl) (w_T_open _ _ _) (fun v τ hv => ?_)
  obtain ⟨rfl, hF⟩ := hv
  show WP m_T_followFrom 16 _ [] τ _
  refine wp_iconst (v := 0) d_T_followFrom_16 (by decide) ?_
  refine wp_istore4 d_T_followFrom_17 (by decide) rfl ?_
  suffices H : ∀ k, k ≤ 15000 → ∀ (τ : Hp) (x5 x6 : Value), x5.category = 1 → Fp tS σ τ → WP m_T_followFrom 19 [.ref 16, .int e, .int x, .int z, .int (nI k), x5, x6] [] τ (Rf tS σ) from H 0 (Nat.zero_le _) τ _ _ rfl (((Fp.rf.wI (by decide)).wI (by decide)).tr hF)
  clear hF τ
  refine lp_nat (fun k hk ih τ x5 x6 hx5 hF => ?_)
  have fin : WP m_T_followFrom 109 [.ref 16, .int e, .int x, .int z, .int (nI k), x5, x6] [] τ (Rf tS σ) := by
    refine wp_vret d_T_followFrom_109 rfl ?_
    exact ⟨rfl, hF⟩
  refine wp_iload d_T_followFrom_19 rfl ?_
  refine wp_sipush (v := 15000) d_T_followFrom_21 (by decide) ?_
  refine wp_icmp_ge (tgt := 109) d_T_followFrom_24 (by decide) (fun hc => ?_) (fun hc => ?_)
  · exact fin
  · have hk2 := nI_nge (b := 15000) hc (by omega) (by omega)
    refine wp_aload_n d_T_followFrom_27 rfl ?_
    refine wp_getI d_T_followFrom_28 fl_T_55 rfl rfl (by decide) ?_
    refine wp_if_le (tgt := 109) d_T_followFrom_31 (by decide) (fun hc2 => ?_) (fun hc2 => ?_)
    · exact fin
    · refine wp_aload_n d_T_followFrom_34 rfl ?_
      refine wp_getA d_T_followFrom_35 fl_T_27 rfl rfl rfl ?_
      refine wp_aload_n d_T_followFrom_38 rfl ?_
      refine wp_getI d_T_followFrom_39 fl_T_55 rfl rfl (by decide) ?_
      refine wp_iconst (v := 1) d_T_followFrom_42 (by decide) ?_
      refine wp_isub d_T_followFrom_43 ?_
      refine wp_callSN2e d_T_followFrom_44 csn_T_37 ⟨Nat.le_of_ble_eq_true rfl, Nat.le_of_ble_eq_true rfl⟩ (Nat.le_of_ble_eq_true rfl) (Nat.le_of_ble_eq_true rfl) (c_P_at (a := 22) rfl (by decide) _ _) ?_
      refine wp_istore5 d_T_followFrom_47 (by decide) rfl ?_
      refine wp_aload_n d_T_followFrom_49 rfl ?_
      refine wp_getA d_T_followFrom_50 fl_T_15 rfl rfl rfl ?_
      refine wp_iload d_T_followFrom_53 rfl ?_
      refine wp_callSN2e d_T_followFrom_55 csn_T_37 ⟨Nat.le_of_ble_eq_true rfl, Nat.le_of_ble_eq_true rfl⟩ (Nat.le_of_ble_eq_true rfl) (Nat.le_of_ble_eq_true rfl) (c_P_at (a := 18) rfl (by decide) _ _) ?_
      refine wp_istore6 d_T_followFrom_58 (by decide) rfl ?_
      refine wp_iload d_T_followFrom_60 rfl ?_
      refine wp_iload_n d_T_followFrom_62 rfl ?_
      refine wp_icmp_ge (tgt := 97) d_T_followFrom_63 (by decide) (fun hc3 => ?_) (fun hc3 => ?_)
      · refine wp_aload_n d_T_followFrom_97 rfl ?_
        refine wp_iload d_T_followFrom_98 rfl ?_
        refine wp_callV1 d_T_followFrom_100 cv_T_72 rfl rfl rfl ⟨Nat.le_of_ble_eq_true rfl, Nat.le_of_ble_eq_true rfl⟩ (Nat.le_of_ble_eq_true rfl) (Nat.le_of_ble_eq_true rfl) (w_T_close _ _) (fun v υ hv => ?_)
        obtain ⟨rfl, hF2⟩ := hv
        show WP m_T_followFrom 103 _ [] υ _
        refine wp_iinc4 d_T_followFrom_103 (hn_ii1 _) (by decide) rfl ?_
        refine wp_goto (tgt := 19) d_T_followFrom_106 (by decide) ?_
        rw [nI_1]
        exact ih hk2 υ _ _ rfl (hF.tr hF2)
      · refine wp_aload_n d_T_followFrom_66 rfl ?_
        refine wp_getA d_T_followFrom_67 fl_T_15 rfl rfl rfl ?_
        refine wp_iload d_T_followFrom_70 rfl ?_
        refine wp_iload d_T_followFrom_72 rfl ?_
        refine wp_iconst (v := 1) d_T_followFrom_74 (by decide) ?_
        refine wp_iadd d_T_followFrom_75 ?_
        refine wp_callSN3v d_T_followFrom_76 csn_T_33 ⟨Nat.le_of_ble_eq_true rfl, Nat.le_of_ble_eq_true rfl⟩ (Nat.le_of_ble_eq_true rfl) (Nat.le_of_ble_eq_true rfl) (c_P_put (a := 18) rfl (by decide) _ _ _) ?_
        refine wp_aload_n d_T_followFrom_79 rfl ?_
        refine wp_iload d_T_followFrom_80 rfl ?_
        refine wp_aload_n d_T_followFrom_82 rfl ?_
        refine wp_iload d_T_followFrom_83 rfl ?_
        refine wp_iload d_T_followFrom_85 rfl ?_
        refine wp_callV2e d_T_followFrom_87 cv_T_65 rfl rfl rfl ⟨Nat.le_of_ble_eq_true rfl, Nat.le_of_ble_eq_true rfl⟩ (Nat.le_of_ble_eq_true rfl) (Nat.le_of_ble_eq_true rfl) (c_T_from _ _ _) ?_
        refine wp_iload_n d_T_followFrom_90 rfl ?_
        refine wp_callV3 d_T_followFrom_91 cv_T_69 rfl rfl rfl ⟨Nat.le_of_ble_eq_true rfl, Nat.le_of_ble_eq_true rfl⟩ (Nat.le_of_ble_eq_true rfl) (Nat.le_of_ble_eq_true rfl) (w_T_tryWay _ _ _ _) (fun v υ hv => ?_)
        obtain ⟨rfl, hF2⟩ := hv
        show WP m_T_followFrom 94 _ [] υ _
        refine wp_goto (tgt := 103) d_T_followFrom_94 (by decide) ?_
        refine wp_iinc4 d_T_followFrom_103 (hn_ii1 _) (by decide) rfl ?_
        refine wp_goto (tgt := 19) d_T_followFrom_106 (by decide) ?_
        rw [nI_1]
        exact ih hk2 υ _ _ rfl ((hF.wrA (by decide)).tr hF2)
theorem w_T_findRoots {M : Nat} (hM : M ≤ 1500) (x z : Int32) (σ : Hp) : Ct m_T_findRoots [.ref 16, .int (nI M), .int x, .int z] σ (Rf tS σ) := by
  show WP m_T_findRoots 0 [.ref 16, .int (nI M), .int x, .int z, .null] [] σ _
  refine wp_aload_n d_T_findRoots_0 rfl ?_
  refine wp_iconst (v := 0) d_T_findRoots_1 (by decide) ?_
  refine wp_putI d_T_findRoots_2 fp_T_41 rfl rfl (by decide) rfl rfl ?_
  refine wp_aload_n d_T_findRoots_5 rfl ?_
  refine wp_getA d_T_findRoots_6 fl_T_18 rfl rfl rfl ?_
  refine wp_iconst (v := 0) d_T_findRoots_9 (by decide) ?_
  refine wp_callS2v d_T_findRoots_10 cs_T_45 ⟨Nat.le_of_ble_eq_true rfl, Nat.le_of_ble_eq_true rfl⟩ (Nat.le_of_ble_eq_true rfl) (Nat.le_of_ble_eq_true rfl) (c_Ja_fill (a := 19) rfl (by decide) _ _) ?_
  refine wp_aload_n d_T_findRoots_13 rfl ?_
  refine wp_getA d_T_findRoots_14 fl_T_24 rfl rfl rfl ?_
  refine wp_bipush (v := -9) d_T_findRoots_17 (by decide) ?_
  refine wp_callS2v d_T_findRoots_19 cs_T_45 ⟨Nat.le_of_ble_eq_true rfl, Nat.le_of_ble_eq_true rfl⟩ (Nat.le_of_ble_eq_true rfl) (Nat.le_of_ble_eq_true rfl) (c_Ja_fill (a := 21) rfl (by decide) _ _) ?_
  refine wp_iconst (v := 0) d_T_findRoots_22 (by decide) ?_
  refine wp_istore4 d_T_findRoots_23 (by decide) rfl ?_
  suffices H : ∀ k, k ≤ M → ∀ (τ : Hp), Fp tS σ τ → WP m_T_findRoots 25 [.ref 16, .int (nI M), .int x, .int z, .int (nI k)] [] τ (Rf tS σ) from H 0 (Nat.zero_le _) _ (((Fp.rf.wI (by decide)).flA (by decide)).flA (by decide))
  refine lp_nat (fun k hk ih τ hF => ?_)
  refine wp_iload d_T_findRoots_25 rfl ?_
  refine wp_iload_n d_T_findRoots_27 rfl ?_
  refine wp_icmp_ge (tgt := 57) d_T_findRoots_28 (by decide) (fun hc => ?_) (fun hc => ?_)
  · refine wp_vret d_T_findRoots_57 rfl ?_
    exact ⟨rfl, hF⟩
  · have hk2 := nI_nge hc (by omega) (by omega)
    refine wp_aload_n d_T_findRoots_31 rfl ?_
    refine wp_getA d_T_findRoots_32 fl_T_18 rfl rfl rfl ?_
    refine wp_iload d_T_findRoots_35 rfl ?_
    refine wp_callSN2e d_T_findRoots_37 csn_T_37 ⟨Nat.le_of_ble_eq_true rfl, Nat.le_of_ble_eq_true rfl⟩ (Nat.le_of_ble_eq_true rfl) (Nat.le_of_ble_eq_true rfl) (c_P_at (a := 19) rfl (by decide) _ _) ?_
    refine wp_if_ne (tgt := 51) d_T_findRoots_40 (by decide) (fun hc2 => ?_) (fun hc2 => ?_)
    · refine wp_iinc4 d_T_findRoots_51 (hn_ii1 _) (by decide) rfl ?_
      refine wp_goto (tgt := 25) d_T_findRoots_54 (by decide) ?_
      rw [nI_1]
      exact ih hk2 τ hF
    · refine wp_aload_n d_T_findRoots_43 rfl ?_
      refine wp_iload d_T_findRoots_44 rfl ?_
      refine wp_iload_n d_T_findRoots_46 rfl ?_
      refine wp_iload_n d_T_findRoots_47 rfl ?_
      refine wp_callV3 d_T_findRoots_48 cv_T_51 rfl rfl rfl ⟨Nat.le_of_ble_eq_true rfl, Nat.le_of_ble_eq_true rfl⟩ (Nat.le_of_ble_eq_true rfl) (Nat.le_of_ble_eq_true rfl) (w_T_followFrom _ _ _ _) (fun v υ hv => ?_)
      obtain ⟨rfl, hF2⟩ := hv
      show WP m_T_findRoots 51 _ [] υ _
      refine wp_iinc4 d_T_findRoots_51 (hn_ii1 _) (by decide) rfl ?_
      refine wp_goto (tgt := 25) d_T_findRoots_54 (by decide) ?_
      rw [nI_1]
      exact ih hk2 υ (hF.tr hF2)
/-! boxes -/
def bS : List Nat := [15, 16, 17, 18, 19, 20, 21, 22, 23, 25, 26, 27, 28, 29, 30, 31, 32, 33, 34]
theorem c_B_howMany (k : Int32) (σ : Hp) : Ct m_B_howMany [.ref 15, .int k] σ (Rt (.int (rdA σ 29 4 k)) σ) := by
  show WP m_B_howMany 0 [.ref 15, .int k] [] σ _
  refine wp_aload_n d_B_howMany_0 rfl ?_
  refine wp_getA d_B_howMany_1 fl_B_32 rfl rfl rfl ?_
  refine wp_iload_n d_B_howMany_4 rfl ?_
  refine wp_callSN2e d_B_howMany_5 csn_B_139 ⟨Nat.le_of_ble_eq_true rfl, Nat.le_of_ble_eq_true rfl⟩ (Nat.le_of_ble_eq_true rfl) (Nat.le_of_ble_eq_true rfl) (c_P_at (a := 29) rfl (by decide) _ _) ?_
  refine wp_iret d_B_howMany_8 rfl ?_
  exact ⟨rfl, rfl⟩
theorem c_B_numberOf (k e : Int32) (σ : Hp) : Ct m_B_numberOf [.ref 15, .int k, .int e] σ (Rt (.int (rdA σ 27 6000 (k * 1500 + e))) σ) := by
  show WP m_B_numberOf 0 [.ref 15, .int k, .int e] [] σ _
  refine wp_aload_n d_B_numberOf_0 rfl ?_
  refine wp_getA d_B_numberOf_1 fl_B_25 rfl rfl rfl ?_
  refine wp_iload_n d_B_numberOf_4 rfl ?_
  refine wp_sipush (v := 1500) d_B_numberOf_5 (by decide) ?_
  refine wp_imul d_B_numberOf_8 ?_
  refine wp_iload_n d_B_numberOf_9 rfl ?_
  refine wp_iadd d_B_numberOf_10 ?_
  refine wp_callSN2e d_B_numberOf_11 csn_B_139 ⟨Nat.le_of_ble_eq_true rfl, Nat.le_of_ble_eq_true rfl⟩ (Nat.le_of_ble_eq_true rfl) (Nat.le_of_ble_eq_true rfl) (c_P_at (a := 27) rfl (by decide) _ _) ?_
  refine wp_iret d_B_numberOf_14 rfl ?_
  exact ⟨rfl, rfl⟩
theorem c_B_leastOf (k e : Int32) (σ : Hp) : Ct m_B_leastOf [.ref 15, .int k, .int e] σ (Rt (.int (rdA σ 28 6000 (k * 1500 + e))) σ) := by
  show WP m_B_leastOf 0 [.ref 15, .int k, .int e] [] σ _
  refine wp_aload_n d_B_leastOf_0 rfl ?_
  refine wp_getA d_B_leastOf_1 fl_B_29 rfl rfl rfl ?_
  refine wp_iload_n d_B_leastOf_4 rfl ?_
  refine wp_sipush (v := 1500) d_B_leastOf_5 (by decide) ?_
  refine wp_imul d_B_leastOf_8 ?_
  refine wp_iload_n d_B_leastOf_9 rfl ?_
  refine wp_iadd d_B_leastOf_10 ?_
  refine wp_callSN2e d_B_leastOf_11 csn_B_139 ⟨Nat.le_of_ble_eq_true rfl, Nat.le_of_ble_eq_true rfl⟩ (Nat.le_of_ble_eq_true rfl) (Nat.le_of_ble_eq_true rfl) (c_P_at (a := 28) rfl (by decide) _ _) ?_
  refine wp_iret d_B_leastOf_14 rfl ?_
  exact ⟨rfl, rfl⟩
theorem c_B_size (i : Int32) (σ : Hp) : Ct m_B_size [.ref 15, .int i] σ (Rt (.int (rdA σ 30 1500 i)) σ) := by
  show WP m_B_size 0 [.ref 15, .int i] [] σ _
  refine wp_aload_n d_B_size_0 rfl ?_
  refine wp_getA d_B_size_1 fl_B_35 rfl rfl rfl ?_
  refine wp_iload_n d_B_size_4 rfl ?_
  refine wp_callSN2e d_B_size_5 csn_B_139 ⟨Nat.le_of_ble_eq_true rfl, Nat.le_of_ble_eq_true rfl⟩ (Nat.le_of_ble_eq_true rfl) (Nat.le_of_ble_eq_true rfl) (c_P_at (a := 30) rfl (by decide) _ _) ?_
  refine wp_iret d_B_size_8 rfl ?_
  exact ⟨rfl, rfl⟩
theorem c_B_has (i : Int32) (σ : Hp) : Ct m_B_has [.ref 15, .int i] σ (Rt (.int (bz (0 ≤ i ∧ i ≤ rdA σ 29 4 0 - 1))) σ) := by
  show WP m_B_has 0 [.ref 15, .int i] [] σ _
  refine wp_iload_n d_B_has_0 rfl ?_
  refine wp_iconst (v := 0) d_B_has_1 (by decide) ?_
  refine wp_aload_n d_B_has_2 rfl ?_
  refine wp_iconst (v := 0) d_B_has_3 (by decide) ?_
  refine wp_callV1e d_B_has_4 cv_B_126 rfl rfl rfl ⟨Nat.le_of_ble_eq_true rfl, Nat.le_of_ble_eq_true rfl⟩ (Nat.le_of_ble_eq_true rfl) (Nat.le_of_ble_eq_true rfl) (c_B_howMany _ _) ?_
  refine wp_iconst (v := 1) d_B_has_7 (by decide) ?_
  refine wp_isub d_B_has_8 ?_
  refine wp_callSN3e d_B_has_9 csn_B_157 ⟨Nat.le_of_ble_eq_true rfl, Nat.le_of_ble_eq_true rfl⟩ (Nat.le_of_ble_eq_true rfl) (Nat.le_of_ble_eq_true rfl) (c_P_within _ _ _ _) ?_
  refine wp_zret d_B_has_12 rfl ?_ ?_
  · exact bz_nar
  exact ⟨rfl, rfl⟩
theorem c_B_beginNumbers (k : Int32) (σ : Hp) : Ct m_B_beginNumbers [.ref 15, .int k] σ (Rv (wrA (flA σ 25 0 4096) 29 4 k 0)) := by
  show WP m_B_beginNumbers 0 [.ref 15, .int k] [] σ _
  refine wp_aload_n d_B_beginNumbers_0 rfl ?_
  refine wp_getA d_B_beginNumbers_1 fl_B_21 rfl rfl rfl ?_
  refine wp_callV0v d_B_beginNumbers_4 cv_B_116 rfl rfl rfl ⟨Nat.le_of_ble_eq_true rfl, Nat.le_of_ble_eq_true rfl⟩ (Nat.le_of_ble_eq_true rfl) (Nat.le_of_ble_eq_true rfl) (c_F_clear fiK_24 _) ?_
  refine wp_aload_n d_B_beginNumbers_7 rfl ?_
  refine wp_getA d_B_beginNumbers_8 fl_B_32 rfl rfl rfl ?_
  refine wp_iload_n d_B_beginNumbers_11 rfl ?_
  refine wp_iconst (v := 0) d_B_beginNumbers_12 (by decide) ?_
  refine wp_callSN3v d_B_beginNumbers_13 csn_B_119 ⟨Nat.le_of_ble_eq_true rfl, Nat.le_of_ble_eq_true rfl⟩ (Nat.le_of_ble_eq_true rfl) (Nat.le_of_ble_eq_true rfl) (c_P_put (a := 29) rfl (by decide) _ _ _) ?_
  refine wp_vret d_B_beginNumbers_16 rfl ?_
  exact ⟨rfl, rfl⟩
theorem kpW_Fp {S : List Nat} {σ τ : Hp} {a b : Nat} {key x : Int32} (h : Fp S σ τ) (h1 : a ∈ S) (h2 : b ∈ S) : Fp S σ (kpW τ a b key x) := (h.wrA h1).wrA h2
theorem w_B_giveNumber (k e x : Int32) (σ : Hp) : Ct m_B_giveNumber [.ref 15, .int k, .int e, .int x] σ (Rf bS σ) := by
  show WP m_B_giveNumber 0 [.ref 15, .int k, .int e, .int x, .null] [] σ _
  have last : ∀ (τ : Hp) (z : Int32), Fp bS σ τ → WP m_B_giveNumber 62 [.ref 15, .int k, .int e, .int x, .int z] [] τ (Rf bS σ) := by
    intro τ z hF
    refine wp_aload_n d_B_giveNumber_62 rfl ?_
    refine wp_getA d_B_giveNumber_63 fl_B_25 rfl rfl rfl ?_
    refine wp_iload_n d_B_giveNumber_66 rfl ?_
    refine wp_sipush (v := 1500) d_B_giveNumber_67 (by decide) ?_
    refine wp_imul d_B_giveNumber_70 ?_
    refine wp_iload_n d_B_giveNumber_71 rfl ?_
    refine wp_iadd d_B_giveNumber_72 ?_
    refine wp_iload d_B_giveNumber_73 rfl ?_
    refine wp_callSN3v d_B_giveNumber_75 csn_B_119 ⟨Nat.le_of_ble_eq_true rfl, Nat.le_of_ble_eq_true rfl⟩ (Nat.le_of_ble_eq_true rfl) (Nat.le_of_ble_eq_true rfl) (c_P_put (a := 27) rfl (by decide) _ _ _) ?_
    refine wp_vret d_B_giveNumber_78 rfl ?_
    exact ⟨rfl, hF.wrA (by decide)⟩
  refine wp_aload_n d_B_giveNumber_0 rfl ?_
  refine wp_getA d_B_giveNumber_1 fl_B_21 rfl rfl rfl ?_
  refine wp_iload_n d_B_giveNumber_4 rfl ?_
  refine wp_callV1e d_B_giveNumber_5 cv_B_123 rfl rfl rfl ⟨Nat.le_of_ble_eq_true rfl, Nat.le_of_ble_eq_true rfl⟩ (Nat.le_of_ble_eq_true rfl) (Nat.le_of_ble_eq_true rfl) (c_F_look fiK_24 _ _) ?_
  refine wp_istore4 d_B_giveNumber_8 (by decide) rfl ?_
  refine wp_iload d_B_giveNumber_10 rfl ?_
  refine wp_bipush (v := -9) d_B_giveNumber_12 (by decide) ?_
  refine wp_icmp_ne (tgt := 62) d_B_giveNumber_14 (by decide) (fun hc => ?_) (fun hc => ?_)
  · exact last _ _ Fp.rf
  · refine wp_aload_n d_B_giveNumber_17 rfl ?_
    refine wp_iload_n d_B_giveNumber_18 rfl ?_
    refine wp_callV1e d_B_giveNumber_19 cv_B_126 rfl rfl rfl ⟨Nat.le_of_ble_eq_true rfl, Nat.le_of_ble_eq_true rfl⟩ (Nat.le_of_ble_eq_true rfl) (Nat.le_of_ble_eq_true rfl) (c_B_howMany _ _) ?_
    refine wp_istore4 d_B_giveNumber_22 (by decide) rfl ?_
    refine wp_aload_n d_B_giveNumber_24 rfl ?_
    refine wp_getA d_B_giveNumber_25 fl_B_21 rfl rfl rfl ?_
    refine wp_iload_n d_B_giveNumber_28 rfl ?_
    refine wp_iload d_B_giveNumber_29 rfl ?_
    refine wp_callV2v d_B_giveNumber_31 cv_B_129 rfl rfl rfl ⟨Nat.le_of_ble_eq_true rfl, Nat.le_of_ble_eq_true rfl⟩ (Nat.le_of_ble_eq_true rfl) (Nat.le_of_ble_eq_true rfl) (c_F_keep fiK_24 _ _ _) ?_
    refine wp_aload_n d_B_giveNumber_34 rfl ?_
    refine wp_getA d_B_giveNumber_35 fl_B_29 rfl rfl rfl ?_
    refine wp_iload_n d_B_giveNumber_38 rfl ?_
    refine wp_sipush (v := 1500) d_B_giveNumber_39 (by decide) ?_
    refine wp_imul d_B_giveNumber_42 ?_
    refine wp_iload d_B_giveNumber_43 rfl ?_
    refine wp_iadd d_B_giveNumber_45 ?_
    refine wp_iload_n d_B_giveNumber_46 rfl ?_
    refine wp_callSN3v d_B_giveNumber_47 csn_B_119 ⟨Nat.le_of_ble_eq_true rfl, Nat.le_of_ble_eq_true rfl⟩ (Nat.le_of_ble_eq_true rfl) (Nat.le_of_ble_eq_true rfl) (c_P_put (a := 28) rfl (by decide) _ _ _) ?_
    refine wp_aload_n d_B_giveNumber_50 rfl ?_
    refine wp_getA d_B_giveNumber_51 fl_B_32 rfl rfl rfl ?_
    refine wp_iload_n d_B_giveNumber_54 rfl ?_
    refine wp_iload d_B_giveNumber_55 rfl ?_
    refine wp_iconst (v := 1) d_B_giveNumber_57 (by decide) ?_
    refine wp_iadd d_B_giveNumber_58 ?_
    refine wp_callSN3v d_B_giveNumber_59 csn_B_119 ⟨Nat.le_of_ble_eq_true rfl, Nat.le_of_ble_eq_true rfl⟩ (Nat.le_of_ble_eq_true rfl) (Nat.le_of_ble_eq_true rfl) (c_P_put (a := 29) rfl (by decide) _ _ _) ?_
    exact last _ _ (((kpW_Fp Fp.rf (by decide) (by decide)).wrA (by decide)).wrA (by decide))
theorem Fp.KI {S : List Nat} {σ τ : Hp} {N L : Nat} (h : Fp S σ τ) (hs : 1 ∉ S) (hI : KI σ N L) : KI τ N L := hI.mv (h 1 hs).1
theorem w_B_stepsOut {N L : Nat} (e : Int32) (σ : Hp) (hI : KI σ N L) : Ct m_B_stepsOut [.ref 15, .int e] σ (fun w τ => (w = some (.int 0) ∨ w = some (.int 1)) ∧ τ = σ) := by
  show WP m_B_stepsOut 0 [.ref 15, .int e, .null] [] σ _
  obtain ⟨B, hB, hb⟩ := bnd (2 * σ.1 1 2)
  refine wp_iconst (v := 0) d_B_stepsOut_0 (by decide) ?_
  refine wp_istore2 d_B_stepsOut_1 (by decide) rfl ?_
  suffices H : ∀ i, i ≤ B → WP m_B_stepsOut 2 [.ref 15, .int e, .int (nI i)] [] σ (fun w τ => (w = some (.int 0) ∨ w = some (.int 1)) ∧ τ = σ) from H 0 (Nat.zero_le _)
  refine lp_nat (fun i hi ih => ?_)
  refine wp_iload_n d_B_stepsOut_2 rfl ?_
  refine wp_iconst (v := 2) d_B_stepsOut_3 (by decide) ?_
  refine wp_aload_n d_B_stepsOut_4 rfl ?_
  refine wp_getA d_B_stepsOut_5 fl_B_54 rfl rfl rfl ?_
  refine wp_getI d_B_stepsOut_8 fl_B_76 rfl rfl (by decide) ?_
  refine wp_imul d_B_stepsOut_11 ?_
  refine wp_icmp_ge (tgt := 46) d_B_stepsOut_12 (by decide) (fun hc => ?_) (fun hc => ?_)
  · refine wp_iconst (v := 0) d_B_stepsOut_46 (by decide) ?_
    refine wp_zret d_B_stepsOut_47 rfl ?_ ?_
    · decide
    · exact ⟨Or.inl rfl, rfl⟩
  · refine wp_aload_n d_B_stepsOut_15 rfl ?_
    refine wp_iconst (v := 0) d_B_stepsOut_16 (by decide) ?_
    refine wp_aload_n d_B_stepsOut_17 rfl ?_
    refine wp_getA d_B_stepsOut_18 fl_B_12 rfl rfl rfl ?_
    refine wp_iload_n d_B_stepsOut_21 rfl ?_
    refine wp_iload_n d_B_stepsOut_22 rfl ?_
    refine wp_callV2e d_B_stepsOut_23 cv_B_154 rfl rfl rfl ⟨Nat.le_of_ble_eq_true rfl, Nat.le_of_ble_eq_true rfl⟩ (Nat.le_of_ble_eq_true rfl) (Nat.le_of_ble_eq_true rfl) (c_T_from _ _ _) ?_
    refine wp_callV2e d_B_stepsOut_26 cv_B_113 rfl rfl rfl ⟨Nat.le_of_ble_eq_true rfl, Nat.le_of_ble_eq_true rfl⟩ (Nat.le_of_ble_eq_true rfl) (Nat.le_of_ble_eq_true rfl) (c_B_numberOf _ _ _) ?_
    refine wp_aload_n d_B_stepsOut_29 rfl ?_
    refine wp_iconst (v := 0) d_B_stepsOut_30 (by decide) ?_
    refine wp_iload_n d_B_stepsOut_31 rfl ?_
    refine wp_callV2e d_B_stepsOut_32 cv_B_113 rfl rfl rfl ⟨Nat.le_of_ble_eq_true rfl, Nat.le_of_ble_eq_true rfl⟩ (Nat.le_of_ble_eq_true rfl) (Nat.le_of_ble_eq_true rfl) (c_B_numberOf _ _ _) ?_
    refine wp_icmp_eq (tgt := 40) d_B_stepsOut_35 (by decide) (fun hc2 => ?_) (fun hc2 => ?_)
    · have hi2 : i < B := hb i hi hc
      refine wp_iinc2 d_B_stepsOut_40 (hn_ii1 _) (by decide) rfl ?_
      refine wp_goto (tgt := 2) d_B_stepsOut_43 (by decide) ?_
      rw [nI_1]
      exact ih hi2
    · refine wp_iconst (v := 1) d_B_stepsOut_38 (by decide) ?_
      refine wp_zret d_B_stepsOut_39 rfl ?_ ?_
      · decide
      · exact ⟨Or.inr rfl, rfl⟩
