/-! contracts: what the class sums up of its boxes -/
theorem c0_nI (x : Nat) : (0 : Int32) * 1500 + nI x = nI (1500 * 0 + x) := col_nI (K := 0)
theorem soB_iff {L e : Nat} {sp : Nat → Nat → Nat} {b : Nat → Nat} : soB L sp b e = true ↔ ∃ l, l < 2 * L ∧ b (sp e l) ≠ b e := by
  rw [soB, List.any_eq_true]
  constructor
  · rintro ⟨l, hl, h⟩
    exact ⟨l, List.mem_range.mp hl, of_decide_eq_true h⟩
  · rintro ⟨l, hl, h⟩
    exact ⟨l, List.mem_range.mpr hl, decide_eq_true h⟩
theorem v_B_stepsOut {N L M e : Nat} {sp : Nat → Nat → Nat} {b : Nat → Nat} (hM : M ≤ 1500) (he : e < M) (σ : Hp) (hI : KI σ N L) (hN : ∀ e, e < M → σ.1 27 (1500 * 0 + e) = nI (b e) ∧ b e < 1500) (hE : ∀ e l, e < M → l < 2 * L → σ.1 17 (8 * e + l) = nI (sp e l) ∧ sp e l < M) : Ct m_B_stepsOut [.ref 15, .int (nI e)] σ (Rt (.int (bz (soB L sp b e = true))) σ) := by
  have h4 := hI.2.2.2.2
  show WP m_B_stepsOut 0 [.ref 15, .int (nI e), .null] [] σ _
  have L2 : (2 : Int32) * σ.1 1 2 = nI (2 * L) := by
    rw [hI.2.2.2.1, show (2 : Int32) = nI 2 from rfl, pk_mul]
  refine wp_iconst (v := 0) d_B_stepsOut_0 (by decide) ?_
  refine wp_istore2 d_B_stepsOut_1 (by decide) rfl ?_
  suffices H : ∀ i, i ≤ 2 * L → (∀ l, l < i → ¬ b (sp e l) ≠ b e) → WP m_B_stepsOut 2 [.ref 15, .int (nI e), .int (nI i)] [] σ (Rt (.int (bz (soB L sp b e = true))) σ) from H 0 (Nat.zero_le _) (fun l hl => absurd hl (Nat.not_lt_zero l))
  refine lp_nat (fun i hi ih hp => ?_)
  refine wp_iload_n d_B_stepsOut_2 rfl ?_
  refine wp_iconst (v := 2) d_B_stepsOut_3 (by decide) ?_
  refine wp_aload_n d_B_stepsOut_4 rfl ?_
  refine wp_getA d_B_stepsOut_5 fl_B_54 rfl rfl rfl ?_
  refine wp_getI d_B_stepsOut_8 fl_B_76 rfl rfl (by decide) ?_
  refine wp_imul d_B_stepsOut_11 ?_
  refine wp_icmp_ge (tgt := 46) d_B_stepsOut_12 (by decide) (fun hc => ?_) (fun hc => ?_)
  · rw [L2] at hc
    obtain rfl := Nat.le_antisymm hi (nI_ge2 hc (by omega) (by omega))
    rw [bz_f (fun z => by
      obtain ⟨l, hl, hne⟩ := soB_iff.mp z
      exact hp l hl hne)]
    refine wp_iconst (v := 0) d_B_stepsOut_46 (by decide) ?_
    refine wp_zret d_B_stepsOut_47 rfl ?_ ?_
    · decide
    · exact ⟨rfl, rfl⟩
  · rw [L2] at hc
    have hi2 := nI_nge hc (by omega) (by omega)
    obtain ⟨s1, s2⟩ := hE e i he hi2
    have r1 : rdA σ 17 12000 (nI e * 8 + nI i) = nI (sp e i) := by
      have e8 : nI e * 8 + nI i = nI (8 * e + i) := by
        show nI e * nI 8 + nI i = _
        rw [pk_mul, nI_add, Nat.mul_comm]
      rw [e8, rdA_in (by omega) (by decide)]
      exact s1
    refine wp_aload_n d_B_stepsOut_15 rfl ?_
    refine wp_iconst (v := 0) d_B_stepsOut_16 (by decide) ?_
    refine wp_aload_n d_B_stepsOut_17 rfl ?_
    refine wp_getA d_B_stepsOut_18 fl_B_12 rfl rfl rfl ?_
    refine wp_iload_n d_B_stepsOut_21 rfl ?_
    refine wp_iload_n d_B_stepsOut_22 rfl ?_
    refine wp_callV2e d_B_stepsOut_23 cv_B_154 rfl rfl rfl ⟨Nat.le_of_ble_eq_true rfl, Nat.le_of_ble_eq_true rfl⟩ (Nat.le_of_ble_eq_true rfl) (Nat.le_of_ble_eq_true rfl) (c_T_from _ _ _) ?_
    refine wp_callV2e d_B_stepsOut_26 cv_B_113 rfl rfl rfl ⟨Nat.le_of_ble_eq_true rfl, Nat.le_of_ble_eq_true rfl⟩ (Nat.le_of_ble_eq_true rfl) (Nat.le_of_ble_eq_true rfl) (c_B_numberOf _ _ _) ?_
    refine wp_aload_n d_B_stepsOut_29 rfl ?_
    refine wp_iconst (v := 0) d_B_stepsOut_30 (by decide) ?_
    refine wp_iload_n d_B_stepsOut_31 rfl ?_
    refine wp_callV2e d_B_stepsOut_32 cv_B_113 rfl rfl rfl ⟨Nat.le_of_ble_eq_true rfl, Nat.le_of_ble_eq_true rfl⟩ (Nat.le_of_ble_eq_true rfl) (Nat.le_of_ble_eq_true rfl) (c_B_numberOf _ _ _) ?_
    rw [r1, c0_nI, c0_nI, rdA_in (by omega) (by decide), rdA_in (by omega) (by decide), (hN _ s2).1, (hN e he).1]
    have b1 := (hN _ s2).2
    have b2 := (hN e he).2
    refine wp_icmp_eq (tgt := 40) d_B_stepsOut_35 (by decide) (fun hc2 => ?_) (fun hc2 => ?_)
    · rw [nI_eq (by omega) (by omega)] at hc2
      refine wp_iinc2 d_B_stepsOut_40 (hn_ii1 _) (by decide) rfl ?_
      refine wp_goto (tgt := 2) d_B_stepsOut_43 (by decide) ?_
      rw [nI_1]
      exact ih hi2 (lt_s hp (fun z => z hc2))
    · rw [nI_eq (by omega) (by omega)] at hc2
      rw [bz_t (soB_iff.mpr ⟨i, hi2, hc2⟩)]
      refine wp_iconst (v := 1) d_B_stepsOut_38 (by decide) ?_
      refine wp_zret d_B_stepsOut_39 rfl ?_ ?_
      · decide
      · exact ⟨rfl, rfl⟩
theorem v_B_sumUp {N L M : Nat} {sp : Nat → Nat → Nat} {b : Nat → Nat} {st : Nat → Bool} (hM : M ≤ 1500) (σ : Hp) (hI : KI σ N L) (h6 : σ.1 3 6 = nI M) (hN : ∀ e, e < M → σ.1 27 (1500 * 0 + e) = nI (b e) ∧ b e < 1500) (hE : ∀ e l, e < M → l < 2 * L → σ.1 17 (8 * e + l) = nI (sp e l) ∧ sp e l < M) (hst : ∀ e, e < M → (ahF (σ.1 4 e) (σ.1 4 e) N = σ.1 4 e ↔ st e = true)) : Ct m_B_sumUp [.ref 15] σ (fun r τ => r = none ∧ Fp [30, 31, 32] σ τ ∧ SU τ L sp b st M) := by
  show WP m_B_sumUp 0 [.ref 15, .null, .null] [] σ _
  refine wp_aload_n d_B_sumUp_0 rfl ?_
  refine wp_getA d_B_sumUp_1 fl_B_35 rfl rfl rfl ?_
  refine wp_iconst (v := 0) d_B_sumUp_4 (by decide) ?_
  refine wp_callS2v d_B_sumUp_5 cs_B_133 ⟨Nat.le_of_ble_eq_true rfl, Nat.le_of_ble_eq_true rfl⟩ (Nat.le_of_ble_eq_true rfl) (Nat.le_of_ble_eq_true rfl) (c_Ja_fill (a := 30) rfl (by decide) _ _) ?_
  refine wp_aload_n d_B_sumUp_8 rfl ?_
  refine wp_getA d_B_sumUp_9 fl_B_38 rfl rfl rfl ?_
  refine wp_iconst (v := 0) d_B_sumUp_12 (by decide) ?_
  refine wp_callS2v d_B_sumUp_13 cs_B_133 ⟨Nat.le_of_ble_eq_true rfl, Nat.le_of_ble_eq_true rfl⟩ (Nat.le_of_ble_eq_true rfl) (Nat.le_of_ble_eq_true rfl) (c_Ja_fill (a := 31) rfl (by decide) _ _) ?_
  refine wp_aload_n d_B_sumUp_16 rfl ?_
  refine wp_getA d_B_sumUp_17 fl_B_41 rfl rfl rfl ?_
  refine wp_iconst (v := 0) d_B_sumUp_20 (by decide) ?_
  refine wp_callS2v d_B_sumUp_21 cs_B_133 ⟨Nat.le_of_ble_eq_true rfl, Nat.le_of_ble_eq_true rfl⟩ (Nat.le_of_ble_eq_true rfl) (Nat.le_of_ble_eq_true rfl) (c_Ja_fill (a := 32) rfl (by decide) _ _) ?_
  refine wp_iconst (v := 0) d_B_sumUp_24 (by decide) ?_
  refine wp_istore1 d_B_sumUp_25 (by decide) rfl ?_
  suffices H : ∀ i, i ≤ M → ∀ (τ : Hp) (x2 : Value), Fp [30, 31, 32] σ τ → SU τ L sp b st i → WP m_B_sumUp 26 [.ref 15, .int (nI i), x2] [] τ (fun r τ => r = none ∧ Fp [30, 31, 32] σ τ ∧ SU τ L sp b st M) by
    refine H 0 (Nat.zero_le _) _ _ (((Fp.rf.flA (by decide)).flA (by decide)).flA (by decide)) (fun i hi => ⟨?_, ?_, flA_in hi⟩)
    · show (flA (flA (flA σ 30 0 1500) 31 0 1500) 32 0 1500).1 30 i = 0
      have e1 : ∀ (τ : Hp), (flA τ 32 0 1500).1 30 = τ.1 30 := fun τ => by simp [flA]
      have e2 : ∀ (τ : Hp), (flA τ 31 0 1500).1 30 = τ.1 30 := fun τ => by simp [flA]
      rw [e1, e2]
      exact flA_in hi
    · show (flA (flA (flA σ 30 0 1500) 31 0 1500) 32 0 1500).1 31 i = 0
      have e1 : ∀ (τ : Hp), (flA τ 32 0 1500).1 31 = τ.1 31 := fun τ => by simp [flA]
      rw [e1]
      exact flA_in hi
  refine lp_nat (fun i hi ih τ x2 hF hU => ?_)
  have e3 : τ.1 3 6 = nI M := by rw [(hF 3 (by decide)).1]; exact h6
  refine wp_iload_n d_B_sumUp_26 rfl ?_
  refine wp_aload_n d_B_sumUp_27 rfl ?_
  refine wp_getA d_B_sumUp_28 fl_B_58 rfl rfl rfl ?_
  refine wp_getI d_B_sumUp_31 fl_B_88 rfl rfl (by decide) ?_
  refine wp_icmp_ge (tgt := 113) d_B_sumUp_34 (by decide) (fun hc => ?_) (fun hc => ?_)
  · rw [e3] at hc
    obtain rfl := Nat.le_antisymm hi (nI_ge2 hc (by omega) (by omega))
    refine wp_vret d_B_sumUp_113 rfl ?_
    exact ⟨rfl, hF, hU⟩
  · rw [e3] at hc
    have hi2 := nI_nge hc (by omega) (by omega)
    obtain ⟨n1, n2⟩ := hN i hi2
    have rb : rdA τ 27 6000 (0 * 1500 + nI i) = nI (b i) := by rw [c0_nI, rdA_in (by omega) (by decide), (hF 27 (by decide)).1]; exact n1
    obtain ⟨u1, u2, u3⟩ := hU (b i) n2
    refine wp_aload_n d_B_sumUp_37 rfl ?_
    refine wp_iconst (v := 0) d_B_sumUp_38 (by decide) ?_
    refine wp_iload_n d_B_sumUp_39 rfl ?_
    refine wp_callV2e d_B_sumUp_40 cv_B_113 rfl rfl rfl ⟨Nat.le_of_ble_eq_true rfl, Nat.le_of_ble_eq_true rfl⟩ (Nat.le_of_ble_eq_true rfl) (Nat.le_of_ble_eq_true rfl) (c_B_numberOf _ _ _) ?_
    refine wp_istore2 d_B_sumUp_43 (by decide) rfl ?_
    refine wp_aload_n d_B_sumUp_44 rfl ?_
    refine wp_getA d_B_sumUp_45 fl_B_35 rfl rfl rfl ?_
    refine wp_iload_n d_B_sumUp_48 rfl ?_
    refine wp_aload_n d_B_sumUp_49 rfl ?_
    refine wp_getA d_B_sumUp_50 fl_B_35 rfl rfl rfl ?_
    refine wp_iload_n d_B_sumUp_53 rfl ?_
    rw [rb]
    refine wp_callSN2e d_B_sumUp_54 csn_B_139 ⟨Nat.le_of_ble_eq_true rfl, Nat.le_of_ble_eq_true rfl⟩ (Nat.le_of_ble_eq_true rfl) (Nat.le_of_ble_eq_true rfl) (c_P_at (a := 30) rfl (by decide) _ _) ?_
    rw [rdA_in n2 (by decide), u1]
    refine wp_iconst (v := 1) d_B_sumUp_57 (by decide) ?_
    refine wp_iadd d_B_sumUp_58 ?_
    rw [nI_1]
    refine wp_callSN3v d_B_sumUp_59 csn_B_119 ⟨Nat.le_of_ble_eq_true rfl, Nat.le_of_ble_eq_true rfl⟩ (Nat.le_of_ble_eq_true rfl) (Nat.le_of_ble_eq_true rfl) (c_P_put (a := 30) rfl (by decide) _ _ _) ?_
    rw [wrA_in n2 (by decide)]
    generalize hτ1 : wI τ 30 (b i) (nI (sm (fun x => if b x = b i then 1 else 0) i + 1)) = τ1
    have hF1 : Fp [30, 31, 32] σ τ1 := by rw [← hτ1]; exact hF.wI (by decide)
    have hI := hI.mv (hF1 1 (by decide)).1
    refine wp_aload_n d_B_sumUp_62 rfl ?_
    refine wp_getA d_B_sumUp_63 fl_B_38 rfl rfl rfl ?_
    refine wp_iload_n d_B_sumUp_66 rfl ?_
    refine wp_aload_n d_B_sumUp_67 rfl ?_
    refine wp_getA d_B_sumUp_68 fl_B_38 rfl rfl rfl ?_
    refine wp_iload_n d_B_sumUp_71 rfl ?_
    refine wp_callSN2e d_B_sumUp_72 csn_B_139 ⟨Nat.le_of_ble_eq_true rfl, Nat.le_of_ble_eq_true rfl⟩ (Nat.le_of_ble_eq_true rfl) (Nat.le_of_ble_eq_true rfl) (c_P_at (a := 31) rfl (by decide) _ _) ?_
    rw [rdA_in n2 (by decide), show τ1.1 31 = τ.1 31 by rw [← hτ1, wI_ne (by decide)], u2]
    refine wp_aload_n d_B_sumUp_75 rfl ?_
    refine wp_getA d_B_sumUp_76 fl_B_58 rfl rfl rfl ?_
    refine wp_iload_n d_B_sumUp_79 rfl ?_
    refine wp_callV1e d_B_sumUp_80 cv_B_143 rfl rfl rfl ⟨Nat.le_of_ble_eq_true rfl, Nat.le_of_ble_eq_true rfl⟩ (Nat.le_of_ble_eq_true rfl) (Nat.le_of_ble_eq_true rfl) (c_E_isStill _ _ hI) ?_
    rw [rdA_in (show i < 1500 by omega) (by decide), (hF1 4 (by decide)).1]
    refine wp_callSN1e d_B_sumUp_83 csn_B_147 ⟨Nat.le_of_ble_eq_true rfl, Nat.le_of_ble_eq_true rfl⟩ (Nat.le_of_ble_eq_true rfl) (Nat.le_of_ble_eq_true rfl) (c_P_oneIf _ _) ?_
    refine wp_iadd d_B_sumUp_86 ?_
    refine wp_callSN3v d_B_sumUp_87 csn_B_119 ⟨Nat.le_of_ble_eq_true rfl, Nat.le_of_ble_eq_true rfl⟩ (Nat.le_of_ble_eq_true rfl) (Nat.le_of_ble_eq_true rfl) (c_P_put (a := 31) rfl (by decide) _ _ _) ?_
    rw [wrA_in n2 (by decide)]
    have eb : nI (sm (fun x => if b x = b i ∧ st x = true then 1 else 0) i) + bz (ahF (σ.1 4 i) (σ.1 4 i) N = σ.1 4 i) = nI (sm (fun x => if b x = b i ∧ st x = true then 1 else 0) (i + 1)) := by
      show _ = nI (sm (fun x => if b x = b i ∧ st x = true then 1 else 0) i + (if b i = b i ∧ st i = true then 1 else 0))
      rw [← nI_add]
      congr 1
      have := hst i hi2
      by_cases q : st i = true
      · rw [bz_t (this.mpr q), if_pos ⟨rfl, q⟩]; rfl
      · rw [bz_f (fun z => q (this.mp z)), if_neg (fun z => q z.2)]; rfl
    rw [eb]
    generalize hτ2 : wI τ1 31 (b i) (nI (sm (fun x => if b x = b i ∧ st x = true then 1 else 0) (i + 1))) = τ2
    have hF2 : Fp [30, 31, 32] σ τ2 := by rw [← hτ2]; exact hF1.wI (by decide)
    have hI2 := hI.mv (τ := τ2) (by rw [← hτ2]; exact wI_ne (by decide))
    refine wp_aload_n d_B_sumUp_90 rfl ?_
    refine wp_iload_n d_B_sumUp_91 rfl ?_
    refine wp_callV1e d_B_sumUp_92 cv_B_151 rfl rfl rfl ⟨Nat.le_of_ble_eq_true rfl, Nat.le_of_ble_eq_true rfl⟩ (Nat.le_of_ble_eq_true rfl) (Nat.le_of_ble_eq_true rfl) (v_B_stepsOut hM hi2 _ hI2 (fun e he => by rw [(hF2 27 (by decide)).1]; exact hN e he) (fun e l he hl => by rw [(hF2 17 (by decide)).1]; exact hE e l he hl)) ?_
    have t30 : τ2.1 30 = upd (τ.1 30) (b i) (nI (sm (fun x => if b x = b i then 1 else 0) i + 1)) := by rw [← hτ2, wI_ne (by decide), ← hτ1, wI_eq]
    have t31 : τ2.1 31 = upd (τ.1 31) (b i) (nI (sm (fun x => if b x = b i ∧ st x = true then 1 else 0) (i + 1))) := by rw [← hτ2, wI_eq, ← hτ1, wI_ne (by decide)]
    have t32 : τ2.1 32 = τ.1 32 := by rw [← hτ2, wI_ne (by decide), ← hτ1, wI_ne (by decide)]
    have fin : ∀ ω : Hp, Fp [30, 31, 32] σ ω → ω.1 30 = τ2.1 30 → ω.1 31 = τ2.1 31 → (∀ j, j < 1500 → ω.1 32 j = bz ((List.range (i + 1)).any (fun x => decide (b x = j) && soB L sp b x) = true)) → WP m_B_sumUp 107 [.ref 15, .int (nI i), .int (nI (b i))] [] ω (fun r τ => r = none ∧ Fp [30, 31, 32] σ τ ∧ SU τ L sp b st M) := by
      intro ω hω o30 o31 o32
      refine wp_iinc1 d_B_sumUp_107 (hn_ii1 _) (by decide) rfl ?_
      refine wp_goto (tgt := 26) d_B_sumUp_110 (by decide) ?_
      rw [nI_1]
      refine ih hi2 ω _ hω (fun j hj => ⟨?_, ?_, o32 j hj⟩)
      · rw [o30, t30]
        show _ = nI (sm (fun x => if b x = j then 1 else 0) i + (if b i = j then 1 else 0))
        by_cases q : j = b i
        · rw [q, upd_eq, if_pos rfl]
        · rw [upd_ne q, if_neg (fun z => q z.symm), Nat.add_zero]
          exact (hU j hj).1
      · rw [o31, t31]
        by_cases q : j = b i
        · rw [q, upd_eq]
        · show _ = nI (sm (fun x => if b x = j ∧ st x = true then 1 else 0) i + (if b i = j ∧ st i = true then 1 else 0))
          rw [upd_ne q, if_neg (fun z => q z.1.symm), Nat.add_zero]
          exact (hU j hj).2.1
    refine wp_if_eq (tgt := 107) d_B_sumUp_95 (by decide) (fun hz => ?_) (fun hz => ?_)
    · have hz := bz_0.mp hz
      refine fin τ2 hF2 rfl rfl (fun j hj => ?_)
      rw [t32, (hU j hj).2.2]
      refine bz_cong ?_
      rw [any_s, Bool.or_eq_true, Bool.and_eq_true]
      exact ⟨Or.inl, fun z => z.elim id (fun z => absurd z.2 hz)⟩
    · have hz := bz_n0 hz
      refine wp_aload_n d_B_sumUp_98 rfl ?_
      refine wp_getA d_B_sumUp_99 fl_B_41 rfl rfl rfl ?_
      refine wp_iload_n d_B_sumUp_102 rfl ?_
      refine wp_iconst (v := 1) d_B_sumUp_103 (by decide) ?_
      refine wp_callSN3v d_B_sumUp_104 csn_B_119 ⟨Nat.le_of_ble_eq_true rfl, Nat.le_of_ble_eq_true rfl⟩ (Nat.le_of_ble_eq_true rfl) (Nat.le_of_ble_eq_true rfl) (c_P_put (a := 32) rfl (by decide) _ _ _) ?_
      rw [wrA_in n2 (by decide)]
      refine fin _ (hF2.wI (by decide)) (by rw [wI_ne (by decide)]) (by rw [wI_ne (by decide)]) (fun j hj => ?_)
      rw [wI_eq, t32]
      by_cases q : j = b i
      · rw [q, upd_eq]
        refine (bz_t ?_).symm
        rw [any_s, Bool.or_eq_true, Bool.and_eq_true, decide_eq_true_eq]
        exact Or.inr ⟨rfl, hz⟩
      · rw [upd_ne q, (hU j hj).2.2]
        refine bz_cong ?_
        rw [any_s, Bool.or_eq_true, Bool.and_eq_true, decide_eq_true_eq]
        exact ⟨Or.inl, fun z => z.elim id (fun z => absurd z.1.symm q)⟩
