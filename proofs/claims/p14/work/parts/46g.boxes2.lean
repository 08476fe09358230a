/-! contracts: boxes, and what the machine asks of the elements, to their ends -/
def rS : List Nat := eS ++ bS
theorem w_B_regular (σ : Hp) : Ct m_B_regular [.ref 15] σ (Ri σ) := by
  show WP m_B_regular 0 [.ref 15, .null, .null] [] σ _
  obtain ⟨B, hB, hb⟩ := bnd (rdA σ 29 4 0)
  refine wp_iconst (v := 0) d_B_regular_0 (by decide) ?_
  refine wp_istore1 d_B_regular_1 (by decide) rfl ?_
  refine wp_iconst (v := 0) d_B_regular_2 (by decide) ?_
  refine wp_istore2 d_B_regular_3 (by decide) rfl ?_
  suffices H : ∀ i, i ≤ B → ∀ z : Int32, WP m_B_regular 4 [.ref 15, .int z, .int (nI i)] [] σ (Ri σ) from H 0 (Nat.zero_le _) _
  refine lp_nat (fun i hi ih z => ?_)
  refine wp_iload_n d_B_regular_4 rfl ?_
  refine wp_aload_n d_B_regular_5 rfl ?_
  refine wp_iconst (v := 0) d_B_regular_6 (by decide) ?_
  refine wp_callV1e d_B_regular_7 cv_B_126 rfl rfl rfl ⟨Nat.le_of_ble_eq_true rfl, Nat.le_of_ble_eq_true rfl⟩ (Nat.le_of_ble_eq_true rfl) (Nat.le_of_ble_eq_true rfl) (c_B_howMany _ _) ?_
  refine wp_icmp_ge (tgt := 41) d_B_regular_10 (by decide) (fun hc => ?_) (fun hc => ?_)
  · refine wp_iload_n d_B_regular_41 rfl ?_
    refine wp_iret d_B_regular_42 rfl ?_
    exact ⟨⟨_, rfl⟩, rfl⟩
  · have hi2 := hb i hi hc
    refine wp_iload_n d_B_regular_13 rfl ?_
    refine wp_aload_n d_B_regular_14 rfl ?_
    refine wp_getA d_B_regular_15 fl_B_38 rfl rfl rfl ?_
    refine wp_iload_n d_B_regular_18 rfl ?_
    refine wp_callSN2e d_B_regular_19 csn_B_139 ⟨Nat.le_of_ble_eq_true rfl, Nat.le_of_ble_eq_true rfl⟩ (Nat.le_of_ble_eq_true rfl) (Nat.le_of_ble_eq_true rfl) (c_P_at (a := 31) rfl (by decide) _ _) ?_
    have fin : ∀ u : Int32, (u = 0 ∨ u = 1) → WP m_B_regular 30 [.ref 15, .int z, .int (nI i)] [.int u, .int z] σ (Ri σ) := by
      intro u hu
      have : u = bz (u = 1) := by rcases hu with rfl | rfl <;> decide
      rw [this]
      refine wp_callSN1e d_B_regular_30 csn_B_147 ⟨Nat.le_of_ble_eq_true rfl, Nat.le_of_ble_eq_true rfl⟩ (Nat.le_of_ble_eq_true rfl) (Nat.le_of_ble_eq_true rfl) (c_P_oneIf _ _) ?_
      refine wp_iadd d_B_regular_33 ?_
      refine wp_istore1 d_B_regular_34 (by decide) rfl ?_
      refine wp_iinc2 d_B_regular_35 (hn_ii1 _) (by decide) rfl ?_
      refine wp_goto (tgt := 4) d_B_regular_38 (by decide) ?_
      rw [nI_1]
      exact ih hi2 _
    refine wp_if_le (tgt := 29) d_B_regular_22 (by decide) (fun hc2 => ?_) (fun hc2 => ?_)
    · refine wp_iconst (v := 0) d_B_regular_29 (by decide) ?_
      exact fin 0 (Or.inl rfl)
    · refine wp_iconst (v := 1) d_B_regular_25 (by decide) ?_
      refine wp_goto (tgt := 30) d_B_regular_26 (by decide) ?_
      exact fin 1 (Or.inr rfl)
theorem w_B_leastBox (σ : Hp) : Ct m_B_leastBox [.ref 15] σ (Ri σ) := by
  show WP m_B_leastBox 0 [.ref 15, .null] [] σ _
  obtain ⟨B, hB, hb⟩ := bnd (rdA σ 29 4 0)
  refine wp_iconst (v := 0) d_B_leastBox_0 (by decide) ?_
  refine wp_istore1 d_B_leastBox_1 (by decide) rfl ?_
  suffices H : ∀ i, i ≤ B → WP m_B_leastBox 2 [.ref 15, .int (nI i)] [] σ (Ri σ) from H 0 (Nat.zero_le _)
  refine lp_nat (fun i hi ih => ?_)
  refine wp_iload_n d_B_leastBox_2 rfl ?_
  refine wp_aload_n d_B_leastBox_3 rfl ?_
  refine wp_iconst (v := 0) d_B_leastBox_4 (by decide) ?_
  refine wp_callV1e d_B_leastBox_5 cv_B_126 rfl rfl rfl ⟨Nat.le_of_ble_eq_true rfl, Nat.le_of_ble_eq_true rfl⟩ (Nat.le_of_ble_eq_true rfl) (Nat.le_of_ble_eq_true rfl) (c_B_howMany _ _) ?_
  refine wp_icmp_ge (tgt := 30) d_B_leastBox_8 (by decide) (fun hc => ?_) (fun hc => ?_)
  · refine wp_iconst (v := 0) d_B_leastBox_30 (by decide) ?_
    refine wp_iret d_B_leastBox_31 rfl ?_
    exact ⟨⟨_, rfl⟩, rfl⟩
  · have hi2 := hb i hi hc
    refine wp_aload_n d_B_leastBox_11 rfl ?_
    refine wp_getA d_B_leastBox_12 fl_B_41 rfl rfl rfl ?_
    refine wp_iload_n d_B_leastBox_15 rfl ?_
    refine wp_callSN2e d_B_leastBox_16 csn_B_139 ⟨Nat.le_of_ble_eq_true rfl, Nat.le_of_ble_eq_true rfl⟩ (Nat.le_of_ble_eq_true rfl) (Nat.le_of_ble_eq_true rfl) (c_P_at (a := 32) rfl (by decide) _ _) ?_
    refine wp_if_ne (tgt := 24) d_B_leastBox_19 (by decide) (fun hc2 => ?_) (fun hc2 => ?_)
    · refine wp_iinc1 d_B_leastBox_24 (hn_ii1 _) (by decide) rfl ?_
      refine wp_goto (tgt := 2) d_B_leastBox_27 (by decide) ?_
      rw [nI_1]
      exact ih hi2
    · refine wp_iload_n d_B_leastBox_22 rfl ?_
      refine wp_iret d_B_leastBox_23 rfl ?_
      exact ⟨⟨_, rfl⟩, rfl⟩
theorem w_B_howManyIn (k b : Int32) (σ : Hp) : Ct m_B_howManyIn [.ref 15, .int k, .int b] σ (Ri σ) := by
  show WP m_B_howManyIn 0 [.ref 15, .int k, .int b, .null, .null] [] σ _
  obtain ⟨B, hB, hb⟩ := bnd (rdA σ 29 4 k)
  refine wp_iconst (v := 0) d_B_howManyIn_0 (by decide) ?_
  refine wp_istore3 d_B_howManyIn_1 (by decide) rfl ?_
  refine wp_iconst (v := 0) d_B_howManyIn_2 (by decide) ?_
  refine wp_istore4 d_B_howManyIn_3 (by decide) rfl ?_
  suffices H : ∀ i, i ≤ B → ∀ z : Int32, WP m_B_howManyIn 5 [.ref 15, .int k, .int b, .int z, .int (nI i)] [] σ (Ri σ) from H 0 (Nat.zero_le _) _
  refine lp_nat (fun i hi ih z => ?_)
  refine wp_iload d_B_howManyIn_5 rfl ?_
  refine wp_aload_n d_B_howManyIn_7 rfl ?_
  refine wp_iload_n d_B_howManyIn_8 rfl ?_
  refine wp_callV1e d_B_howManyIn_9 cv_B_126 rfl rfl rfl ⟨Nat.le_of_ble_eq_true rfl, Nat.le_of_ble_eq_true rfl⟩ (Nat.le_of_ble_eq_true rfl) (Nat.le_of_ble_eq_true rfl) (c_B_howMany _ _) ?_
  refine wp_icmp_ge (tgt := 48) d_B_howManyIn_12 (by decide) (fun hc => ?_) (fun hc => ?_)
  · refine wp_iload_n d_B_howManyIn_48 rfl ?_
    refine wp_iret d_B_howManyIn_49 rfl ?_
    exact ⟨⟨_, rfl⟩, rfl⟩
  · have hi2 := hb i hi hc
    have fin : ∀ u : Int32, (u = 0 ∨ u = 1) → WP m_B_howManyIn 37 [.ref 15, .int k, .int b, .int z, .int (nI i)] [.int u, .int z] σ (Ri σ) := by
      intro u hu
      have : u = bz (u = 1) := by rcases hu with rfl | rfl <;> decide
      rw [this]
      refine wp_callSN1e d_B_howManyIn_37 csn_B_147 ⟨Nat.le_of_ble_eq_true rfl, Nat.le_of_ble_eq_true rfl⟩ (Nat.le_of_ble_eq_true rfl) (Nat.le_of_ble_eq_true rfl) (c_P_oneIf _ _) ?_
      refine wp_iadd d_B_howManyIn_40 ?_
      refine wp_istore3 d_B_howManyIn_41 (by decide) rfl ?_
      refine wp_iinc4 d_B_howManyIn_42 (hn_ii1 _) (by decide) rfl ?_
      refine wp_goto (tgt := 5) d_B_howManyIn_45 (by decide) ?_
      rw [nI_1]
      exact ih hi2 _
    refine wp_iload_n d_B_howManyIn_15 rfl ?_
    refine wp_aload_n d_B_howManyIn_16 rfl ?_
    refine wp_iconst (v := 0) d_B_howManyIn_17 (by decide) ?_
    refine wp_aload_n d_B_howManyIn_18 rfl ?_
    refine wp_iload_n d_B_howManyIn_19 rfl ?_
    refine wp_iload d_B_howManyIn_20 rfl ?_
    refine wp_callV2e d_B_howManyIn_22 cv_B_164 rfl rfl rfl ⟨Nat.le_of_ble_eq_true rfl, Nat.le_of_ble_eq_true rfl⟩ (Nat.le_of_ble_eq_true rfl) (Nat.le_of_ble_eq_true rfl) (c_B_leastOf _ _ _) ?_
    refine wp_callV2e d_B_howManyIn_25 cv_B_113 rfl rfl rfl ⟨Nat.le_of_ble_eq_true rfl, Nat.le_of_ble_eq_true rfl⟩ (Nat.le_of_ble_eq_true rfl) (Nat.le_of_ble_eq_true rfl) (c_B_numberOf _ _ _) ?_
    refine wp_iload_n d_B_howManyIn_28 rfl ?_
    refine wp_icmp_ne (tgt := 36) d_B_howManyIn_29 (by decide) (fun hc2 => ?_) (fun hc2 => ?_)
    · refine wp_iconst (v := 0) d_B_howManyIn_36 (by decide) ?_
      exact fin 0 (Or.inl rfl)
    · refine wp_iconst (v := 1) d_B_howManyIn_32 (by decide) ?_
      refine wp_goto (tgt := 37) d_B_howManyIn_33 (by decide) ?_
      exact fin 1 (Or.inr rfl)
theorem w_B_tell {N L w0 : Nat} (i : Int32) (hw : w0 < 8) (σ : Hp) (hI : KI σ N L) : Ct m_B_tell [.ref 15, .int i, .int (nI w0)] σ (Ri σ) := by
  show WP m_B_tell 0 [.ref 15, .int i, .int (nI w0)] [] σ _
  rcases (show w0 = 0 ∨ w0 = 1 ∨ w0 = 2 ∨ w0 = 3 ∨ w0 = 4 ∨ w0 = 5 ∨ w0 = 6 ∨ w0 = 7 by omega) with rfl | rfl | rfl | rfl | rfl | rfl | rfl | rfl
  · refine wp_iload_n d_B_tell_0 rfl ?_
    refine wp_tabIn (tgt := 48) (off := 47) d_B_tell_1 (by decide) (by decide) (by decide) (by decide) ?_
    refine wp_aload_n d_B_tell_48 rfl ?_
    refine wp_iload_n d_B_tell_49 rfl ?_
    refine wp_callV1e d_B_tell_50 cv_B_161 rfl rfl rfl ⟨Nat.le_of_ble_eq_true rfl, Nat.le_of_ble_eq_true rfl⟩ (Nat.le_of_ble_eq_true rfl) (Nat.le_of_ble_eq_true rfl) (c_B_size _ _) ?_
    refine wp_iret d_B_tell_53 rfl ?_
    exact ⟨⟨_, rfl⟩, rfl⟩
  · refine wp_iload_n d_B_tell_0 rfl ?_
    refine wp_tabIn (tgt := 104) (off := 103) d_B_tell_1 (by decide) (by decide) (by decide) (by decide) ?_
    refine wp_aload_n d_B_tell_104 rfl ?_
    refine wp_iload_n d_B_tell_105 rfl ?_
    refine wp_iload_n d_B_tell_106 rfl ?_
    refine wp_callV2 d_B_tell_107 cv_B_170 rfl rfl rfl ⟨Nat.le_of_ble_eq_true rfl, Nat.le_of_ble_eq_true rfl⟩ (Nat.le_of_ble_eq_true rfl) (Nat.le_of_ble_eq_true rfl) (w_B_howManyIn _ _ _) (fun v τ hv => ?_)
    obtain ⟨⟨z, rfl⟩, rfl⟩ := hv
    show WP m_B_tell 110 _ [.int z] _ _
    refine wp_iret d_B_tell_110 rfl ?_
    exact ⟨⟨_, rfl⟩, rfl⟩
  · refine wp_iload_n d_B_tell_0 rfl ?_
    refine wp_tabIn (tgt := 104) (off := 103) d_B_tell_1 (by decide) (by decide) (by decide) (by decide) ?_
    refine wp_aload_n d_B_tell_104 rfl ?_
    refine wp_iload_n d_B_tell_105 rfl ?_
    refine wp_iload_n d_B_tell_106 rfl ?_
    refine wp_callV2 d_B_tell_107 cv_B_170 rfl rfl rfl ⟨Nat.le_of_ble_eq_true rfl, Nat.le_of_ble_eq_true rfl⟩ (Nat.le_of_ble_eq_true rfl) (Nat.le_of_ble_eq_true rfl) (w_B_howManyIn _ _ _) (fun v τ hv => ?_)
    obtain ⟨⟨z, rfl⟩, rfl⟩ := hv
    show WP m_B_tell 110 _ [.int z] _ _
    refine wp_iret d_B_tell_110 rfl ?_
    exact ⟨⟨_, rfl⟩, rfl⟩
  · refine wp_iload_n d_B_tell_0 rfl ?_
    refine wp_tabIn (tgt := 104) (off := 103) d_B_tell_1 (by decide) (by decide) (by decide) (by decide) ?_
    refine wp_aload_n d_B_tell_104 rfl ?_
    refine wp_iload_n d_B_tell_105 rfl ?_
    refine wp_iload_n d_B_tell_106 rfl ?_
    refine wp_callV2 d_B_tell_107 cv_B_170 rfl rfl rfl ⟨Nat.le_of_ble_eq_true rfl, Nat.le_of_ble_eq_true rfl⟩ (Nat.le_of_ble_eq_true rfl) (Nat.le_of_ble_eq_true rfl) (w_B_howManyIn _ _ _) (fun v τ hv => ?_)
    obtain ⟨⟨z, rfl⟩, rfl⟩ := hv
    show WP m_B_tell 110 _ [.int z] _ _
    refine wp_iret d_B_tell_110 rfl ?_
    exact ⟨⟨_, rfl⟩, rfl⟩
  · refine wp_iload_n d_B_tell_0 rfl ?_
    refine wp_tabIn (tgt := 54) (off := 53) d_B_tell_1 (by decide) (by decide) (by decide) (by decide) ?_
    refine wp_aload_n d_B_tell_54 rfl ?_
    refine wp_getA d_B_tell_55 fl_B_38 rfl rfl rfl ?_
    refine wp_iload_n d_B_tell_58 rfl ?_
    refine wp_callSN2e d_B_tell_59 csn_B_139 ⟨Nat.le_of_ble_eq_true rfl, Nat.le_of_ble_eq_true rfl⟩ (Nat.le_of_ble_eq_true rfl) (Nat.le_of_ble_eq_true rfl) (c_P_at (a := 31) rfl (by decide) _ _) ?_
    have fin : ∀ u : Int32, (u = 0 ∨ u = 1) → WP m_B_tell 70 [.ref 15, .int i, .int (nI 4)] [.int u] σ (Ri σ) := by
      intro u hu
      have : u = bz (u = 1) := by rcases hu with rfl | rfl <;> decide
      rw [this]
      refine wp_callSN1e d_B_tell_70 csn_B_147 ⟨Nat.le_of_ble_eq_true rfl, Nat.le_of_ble_eq_true rfl⟩ (Nat.le_of_ble_eq_true rfl) (Nat.le_of_ble_eq_true rfl) (c_P_oneIf _ _) ?_
      refine wp_iret d_B_tell_73 rfl ?_
      exact ⟨⟨_, rfl⟩, rfl⟩
    refine wp_if_le (tgt := 69) d_B_tell_62 (by decide) (fun hc2 => ?_) (fun hc2 => ?_)
    · refine wp_iconst (v := 0) d_B_tell_69 (by decide) ?_
      exact fin 0 (Or.inl rfl)
    · refine wp_iconst (v := 1) d_B_tell_65 (by decide) ?_
      refine wp_goto (tgt := 70) d_B_tell_66 (by decide) ?_
      exact fin 1 (Or.inr rfl)
  · refine wp_iload_n d_B_tell_0 rfl ?_
    refine wp_tabIn (tgt := 74) (off := 73) d_B_tell_1 (by decide) (by decide) (by decide) (by decide) ?_
    refine wp_aload_n d_B_tell_74 rfl ?_
    refine wp_getA d_B_tell_75 fl_B_38 rfl rfl rfl ?_
    refine wp_iload_n d_B_tell_78 rfl ?_
    refine wp_callSN2e d_B_tell_79 csn_B_139 ⟨Nat.le_of_ble_eq_true rfl, Nat.le_of_ble_eq_true rfl⟩ (Nat.le_of_ble_eq_true rfl) (Nat.le_of_ble_eq_true rfl) (c_P_at (a := 31) rfl (by decide) _ _) ?_
    refine wp_iret d_B_tell_82 rfl ?_
    exact ⟨⟨_, rfl⟩, rfl⟩
  · refine wp_iload_n d_B_tell_0 rfl ?_
    refine wp_tabIn (tgt := 83) (off := 82) d_B_tell_1 (by decide) (by decide) (by decide) (by decide) ?_
    refine wp_aload_n d_B_tell_83 rfl ?_
    refine wp_getA d_B_tell_84 fl_B_58 rfl rfl rfl ?_
    refine wp_aload_n d_B_tell_87 rfl ?_
    refine wp_iconst (v := 0) d_B_tell_88 (by decide) ?_
    refine wp_iload_n d_B_tell_89 rfl ?_
    refine wp_callV2e d_B_tell_90 cv_B_164 rfl rfl rfl ⟨Nat.le_of_ble_eq_true rfl, Nat.le_of_ble_eq_true rfl⟩ (Nat.le_of_ble_eq_true rfl) (Nat.le_of_ble_eq_true rfl) (c_B_leastOf _ _ _) ?_
    refine wp_callV1e d_B_tell_93 cv_B_167 rfl rfl rfl ⟨Nat.le_of_ble_eq_true rfl, Nat.le_of_ble_eq_true rfl⟩ (Nat.le_of_ble_eq_true rfl) (Nat.le_of_ble_eq_true rfl) (c_E_rank _ _ hI) ?_
    refine wp_iret d_B_tell_96 rfl ?_
    exact ⟨⟨_, rfl⟩, rfl⟩
  · refine wp_iload_n d_B_tell_0 rfl ?_
    refine wp_tabIn (tgt := 97) (off := 96) d_B_tell_1 (by decide) (by decide) (by decide) (by decide) ?_
    refine wp_aload_n d_B_tell_97 rfl ?_
    refine wp_iconst (v := 0) d_B_tell_98 (by decide) ?_
    refine wp_iload_n d_B_tell_99 rfl ?_
    refine wp_callV2e d_B_tell_100 cv_B_164 rfl rfl rfl ⟨Nat.le_of_ble_eq_true rfl, Nat.le_of_ble_eq_true rfl⟩ (Nat.le_of_ble_eq_true rfl) (Nat.le_of_ble_eq_true rfl) (c_B_leastOf _ _ _) ?_
    refine wp_iret d_B_tell_103 rfl ?_
    exact ⟨⟨_, rfl⟩, rfl⟩
def qS : List Nat := [15, 33, 34]
def Fq (σ τ : Hp) : Prop := Fp qS σ τ ∧ τ.1 15 13 = σ.1 15 13
theorem Fq.tr {σ τ υ : Hp} (h : Fq σ τ) (h' : Fq τ υ) : Fq σ υ := ⟨h.1.tr h'.1, h'.2.trans h.2⟩
theorem Fq.EM {σ τ : Hp} {M : Nat} (h : Fq σ τ) (hM : EM σ M) : EM τ M := hM.cg (fun q hq => (h.1 q (by
  have : ∀ q, q ∈ eC → q ∉ qS := by decide
  exact this q hq)).1) (fun q hq => (h.1 q (by
  have : ∀ q, q ∈ eB → q ∉ qS := by decide
  exact this q hq)).1) h.2
theorem w_B_meet (e : Int32) (σ : Hp) : Ct m_B_meet [.ref 15, .int e] σ (fun w τ => w = none ∧ Fq σ τ) := by
  show WP m_B_meet 0 [.ref 15, .int e] [] σ _
  refine wp_aload_n d_B_meet_0 rfl ?_
  refine wp_getA d_B_meet_1 fl_B_44 rfl rfl rfl ?_
  refine wp_iload_n d_B_meet_4 rfl ?_
  refine wp_callSN2e d_B_meet_5 csn_B_139 ⟨Nat.le_of_ble_eq_true rfl, Nat.le_of_ble_eq_true rfl⟩ (Nat.le_of_ble_eq_true rfl) (Nat.le_of_ble_eq_true rfl) (c_P_at (a := 33) rfl (by decide) _ _) ?_
  refine wp_if_ne (tgt := 42) d_B_meet_8 (by decide) (fun hc => ?_) (fun hc => ?_)
  · refine wp_vret d_B_meet_42 rfl ?_
    exact ⟨rfl, Fp.rf, rfl⟩
  · refine wp_aload_n d_B_meet_11 rfl ?_
    refine wp_getA d_B_meet_12 fl_B_44 rfl rfl rfl ?_
    refine wp_iload_n d_B_meet_15 rfl ?_
    refine wp_iconst (v := 1) d_B_meet_16 (by decide) ?_
    refine wp_callSN3v d_B_meet_17 csn_B_119 ⟨Nat.le_of_ble_eq_true rfl, Nat.le_of_ble_eq_true rfl⟩ (Nat.le_of_ble_eq_true rfl) (Nat.le_of_ble_eq_true rfl) (c_P_put (a := 33) rfl (by decide) _ _ _) ?_
    refine wp_aload_n d_B_meet_20 rfl ?_
    refine wp_getA d_B_meet_21 fl_B_47 rfl rfl rfl ?_
    refine wp_aload_n d_B_meet_24 rfl ?_
    refine wp_getI d_B_meet_25 fl_B_176 rfl rfl (by decide) ?_
    refine wp_iload_n d_B_meet_28 rfl ?_
    refine wp_callSN3v d_B_meet_29 csn_B_119 ⟨Nat.le_of_ble_eq_true rfl, Nat.le_of_ble_eq_true rfl⟩ (Nat.le_of_ble_eq_true rfl) (Nat.le_of_ble_eq_true rfl) (c_P_put (a := 34) rfl (by decide) _ _ _) ?_
    refine wp_aload_n d_B_meet_32 rfl ?_
    refine wp_dup d_B_meet_33 rfl ?_
    refine wp_getI d_B_meet_34 fl_B_176 rfl rfl (by decide) ?_
    refine wp_iconst (v := 1) d_B_meet_37 (by decide) ?_
    refine wp_iadd d_B_meet_38 ?_
    refine wp_putI d_B_meet_39 fp_B_176 rfl rfl (by decide) rfl rfl ?_
    refine wp_vret d_B_meet_42 rfl ?_
    exact ⟨rfl, ((Fp.rf.wrA (by decide)).wrA (by decide)).wI (by decide), by rw [wI_eq, upd_ne (by decide), wrA_ne (by decide), wrA_ne (by decide)]⟩
theorem w_B_reach {N L : Nat} (e : Int32) (σ : Hp) (hI : KI σ N L) : Ct m_B_reach [.ref 15, .int e] σ (fun w τ => (∃ x : Int32, w = some (.int x)) ∧ Fq σ τ) := by
  show WP m_B_reach 0 [.ref 15, .int e, .null, .null] [] σ _
  obtain ⟨B, hB, hb⟩ := bnd (2 * σ.1 1 2)
  refine wp_aload_n d_B_reach_0 rfl ?_
  refine wp_getA d_B_reach_1 fl_B_44 rfl rfl rfl ?_
  refine wp_iconst (v := 0) d_B_reach_4 (by decide) ?_
  refine wp_callS2v d_B_reach_5 cs_B_133 ⟨Nat.le_of_ble_eq_true rfl, Nat.le_of_ble_eq_true rfl⟩ (Nat.le_of_ble_eq_true rfl) (Nat.le_of_ble_eq_true rfl) (c_Ja_fill (a := 33) rfl (by decide) _ _) ?_
  refine wp_aload_n d_B_reach_8 rfl ?_
  refine wp_iconst (v := 0) d_B_reach_9 (by decide) ?_
  refine wp_putI d_B_reach_10 fp_B_176 rfl rfl (by decide) rfl rfl ?_
  refine wp_aload_n d_B_reach_13 rfl ?_
  refine wp_iload_n d_B_reach_14 rfl ?_
  refine wp_callV1 d_B_reach_15 cv_B_179 rfl rfl rfl ⟨Nat.le_of_ble_eq_true rfl, Nat.le_of_ble_eq_true rfl⟩ (Nat.le_of_ble_eq_true rfl) (Nat.le_of_ble_eq_true rfl) (w_B_meet _ _) (fun v τ hv => ?_)
  obtain ⟨rfl, hF⟩ := hv
  show WP m_B_reach 18 _ [] τ _
  refine wp_iconst (v := 0) d_B_reach_18 (by decide) ?_
  refine wp_istore2 d_B_reach_19 (by decide) rfl ?_
  suffices H : ∀ i, i ≤ 1500 → ∀ (τ : Hp) (x3 : Value), Fq σ τ → WP m_B_reach 20 [.ref 15, .int e, .int (nI i), x3] [] τ (fun w τ => (∃ x : Int32, w = some (.int x)) ∧ Fq σ τ) from H 0 (Nat.zero_le _) τ _ (Fq.tr ⟨(Fp.rf.flA (by decide)).wI (by decide), by rw [wI_eq, upd_ne (by decide)]; simp [flA]⟩ hF)
  refine lp_nat (fun i hi ih τ x3 hF => ?_)
  have fin : WP m_B_reach 82 [.ref 15, .int e, .int (nI i), x3] [] τ (fun w τ => (∃ x : Int32, w = some (.int x)) ∧ Fq σ τ) := by
    refine wp_aload_n d_B_reach_82 rfl ?_
    refine wp_getI d_B_reach_83 fl_B_176 rfl rfl (by decide) ?_
    refine wp_iret d_B_reach_86 rfl ?_
    exact ⟨⟨_, rfl⟩, hF⟩
  refine wp_iload_n d_B_reach_20 rfl ?_
  refine wp_aload_n d_B_reach_21 rfl ?_
  refine wp_getI d_B_reach_22 fl_B_176 rfl rfl (by decide) ?_
  refine wp_icmp_ge (tgt := 82) d_B_reach_25 (by decide) (fun hc => ?_) (fun hc => ?_)
  · exact fin
  · refine wp_iload_n d_B_reach_28 rfl ?_
    refine wp_sipush (v := 1500) d_B_reach_29 (by decide) ?_
    refine wp_icmp_ge (tgt := 82) d_B_reach_32 (by decide) (fun hc2 => ?_) (fun hc2 => ?_)
    · exact fin
    · have hi2 := nI_nge (b := 1500) hc2 (by omega) (by omega)
      refine wp_iconst (v := 0) d_B_reach_35 (by decide) ?_
      refine wp_istore3 d_B_reach_36 (by decide) rfl ?_
      suffices H : ∀ k, k ≤ B → ∀ (τ : Hp), Fq σ τ → WP m_B_reach 37 [.ref 15, .int e, .int (nI i), .int (nI k)] [] τ (fun w τ => (∃ x : Int32, w = some (.int x)) ∧ Fq σ τ) from H 0 (Nat.zero_le _) _ hF
      clear fin hF hc τ
      refine lp_nat (fun k hk ih2 τ hF => ?_)
      have e1 : τ.1 1 = σ.1 1 := (hF.1 1 (by decide)).1
      refine wp_iload_n d_B_reach_37 rfl ?_
      refine wp_iconst (v := 2) d_B_reach_38 (by decide) ?_
      refine wp_aload_n d_B_reach_39 rfl ?_
      refine wp_getA d_B_reach_40 fl_B_54 rfl rfl rfl ?_
      refine wp_getI d_B_reach_43 fl_B_76 rfl rfl (by decide) ?_
      refine wp_imul d_B_reach_46 ?_
      refine wp_icmp_ge (tgt := 76) d_B_reach_47 (by decide) (fun hc3 => ?_) (fun hc3 => ?_)
      · refine wp_iinc2 d_B_reach_76 (hn_ii1 _) (by decide) rfl ?_
        refine wp_goto (tgt := 20) d_B_reach_79 (by decide) ?_
        rw [nI_1]
        exact ih hi2 _ _ hF
      · rw [e1] at hc3
        have hk2 := hb k hk hc3
        refine wp_aload_n d_B_reach_50 rfl ?_
        refine wp_aload_n d_B_reach_51 rfl ?_
        refine wp_getA d_B_reach_52 fl_B_12 rfl rfl rfl ?_
        refine wp_aload_n d_B_reach_55 rfl ?_
        refine wp_getA d_B_reach_56 fl_B_47 rfl rfl rfl ?_
        refine wp_iload_n d_B_reach_59 rfl ?_
        refine wp_callSN2e d_B_reach_60 csn_B_139 ⟨Nat.le_of_ble_eq_true rfl, Nat.le_of_ble_eq_true rfl⟩ (Nat.le_of_ble_eq_true rfl) (Nat.le_of_ble_eq_true rfl) (c_P_at (a := 34) rfl (by decide) _ _) ?_
        refine wp_iload_n d_B_reach_63 rfl ?_
        refine wp_callV2e d_B_reach_64 cv_B_154 rfl rfl rfl ⟨Nat.le_of_ble_eq_true rfl, Nat.le_of_ble_eq_true rfl⟩ (Nat.le_of_ble_eq_true rfl) (Nat.le_of_ble_eq_true rfl) (c_T_from _ _ _) ?_
        refine wp_callV1 d_B_reach_67 cv_B_179 rfl rfl rfl ⟨Nat.le_of_ble_eq_true rfl, Nat.le_of_ble_eq_true rfl⟩ (Nat.le_of_ble_eq_true rfl) (Nat.le_of_ble_eq_true rfl) (w_B_meet _ _) (fun v υ hv => ?_)
        obtain ⟨rfl, hF2⟩ := hv
        show WP m_B_reach 70 _ [] υ _
        refine wp_iinc3 d_B_reach_70 (hn_ii1 _) (by decide) rfl ?_
        refine wp_goto (tgt := 37) d_B_reach_73 (by decide) ?_
        rw [nI_1]
        exact ih2 hk2 _ (hF.tr hF2)
theorem w_B_isBelow {N L : Nat} (i j : Int32) (σ : Hp) (hI : KI σ N L) : Ct m_B_isBelow [.ref 15, .int i, .int j] σ (fun w τ => (w = some (.int 0) ∨ w = some (.int 1)) ∧ Fq σ τ) := by
  show WP m_B_isBelow 0 [.ref 15, .int i, .int j] [] σ _
  refine wp_aload_n d_B_isBelow_0 rfl ?_
  refine wp_aload_n d_B_isBelow_1 rfl ?_
  refine wp_iconst (v := 0) d_B_isBelow_2 (by decide) ?_
  refine wp_iload_n d_B_isBelow_3 rfl ?_
  refine wp_callV2e d_B_isBelow_4 cv_B_164 rfl rfl rfl ⟨Nat.le_of_ble_eq_true rfl, Nat.le_of_ble_eq_true rfl⟩ (Nat.le_of_ble_eq_true rfl) (Nat.le_of_ble_eq_true rfl) (c_B_leastOf _ _ _) ?_
  refine wp_callV1 d_B_isBelow_7 cv_B_173 rfl rfl rfl ⟨Nat.le_of_ble_eq_true rfl, Nat.le_of_ble_eq_true rfl⟩ (Nat.le_of_ble_eq_true rfl) (Nat.le_of_ble_eq_true rfl) (w_B_reach _ _ hI) (fun v τ hv => ?_)
  obtain ⟨⟨z, rfl⟩, hF⟩ := hv
  show WP m_B_isBelow 10 _ [.int z] τ _
  refine wp_pop d_B_isBelow_10 rfl ?_
  refine wp_aload_n d_B_isBelow_11 rfl ?_
  refine wp_getA d_B_isBelow_12 fl_B_44 rfl rfl rfl ?_
  refine wp_aload_n d_B_isBelow_15 rfl ?_
  refine wp_iconst (v := 0) d_B_isBelow_16 (by decide) ?_
  refine wp_iload_n d_B_isBelow_17 rfl ?_
  refine wp_callV2e d_B_isBelow_18 cv_B_164 rfl rfl rfl ⟨Nat.le_of_ble_eq_true rfl, Nat.le_of_ble_eq_true rfl⟩ (Nat.le_of_ble_eq_true rfl) (Nat.le_of_ble_eq_true rfl) (c_B_leastOf _ _ _) ?_
  refine wp_callSN2e d_B_isBelow_21 csn_B_139 ⟨Nat.le_of_ble_eq_true rfl, Nat.le_of_ble_eq_true rfl⟩ (Nat.le_of_ble_eq_true rfl) (Nat.le_of_ble_eq_true rfl) (c_P_at (a := 33) rfl (by decide) _ _) ?_
  refine wp_iconst (v := 1) d_B_isBelow_24 (by decide) ?_
  refine wp_icmp_ne (tgt := 32) d_B_isBelow_25 (by decide) (fun hc => ?_) (fun hc => ?_)
  · refine wp_iconst (v := 0) d_B_isBelow_32 (by decide) ?_
    refine wp_zret d_B_isBelow_33 rfl ?_ ?_
    · decide
    · exact ⟨Or.inl rfl, hF⟩
  · refine wp_iconst (v := 1) d_B_isBelow_28 (by decide) ?_
    refine wp_goto (tgt := 33) d_B_isBelow_29 (by decide) ?_
    refine wp_zret d_B_isBelow_33 rfl ?_ ?_
    · decide
    · exact ⟨Or.inr rfl, hF⟩
/-! the machine, of elements -/
def nS : List Nat := [52, 53]
theorem w_A_isNew (m : Int32) (σ : Hp) : Ct m_A_isNew [.ref 48, .int m] σ (fun w τ => (w = some (.int 0) ∨ w = some (.int 1)) ∧ Fp nS σ τ) := by
  show WP m_A_isNew 0 [.ref 48, .int m] [] σ _
  refine wp_aload_n d_A_isNew_0 rfl ?_
  refine wp_getA d_A_isNew_1 fl_A_21 rfl rfl rfl ?_
  refine wp_iload_n d_A_isNew_4 rfl ?_
  refine wp_callV1e d_A_isNew_5 cv_A_152 rfl rfl rfl ⟨Nat.le_of_ble_eq_true rfl, Nat.le_of_ble_eq_true rfl⟩ (Nat.le_of_ble_eq_true rfl) (Nat.le_of_ble_eq_true rfl) (c_F_look fiK_51 _ _) ?_
  refine wp_bipush (v := -9) d_A_isNew_8 (by decide) ?_
  refine wp_icmp_eq (tgt := 15) d_A_isNew_10 (by decide) (fun hc => ?_) (fun hc => ?_)
  · refine wp_aload_n d_A_isNew_15 rfl ?_
    refine wp_getA d_A_isNew_16 fl_A_21 rfl rfl rfl ?_
    refine wp_iload_n d_A_isNew_19 rfl ?_
    refine wp_iconst (v := 0) d_A_isNew_20 (by decide) ?_
    refine wp_callV2v d_A_isNew_21 cv_A_155 rfl rfl rfl ⟨Nat.le_of_ble_eq_true rfl, Nat.le_of_ble_eq_true rfl⟩ (Nat.le_of_ble_eq_true rfl) (Nat.le_of_ble_eq_true rfl) (c_F_keep fiK_51 _ _ _) ?_
    refine wp_iconst (v := 1) d_A_isNew_24 (by decide) ?_
    refine wp_zret d_A_isNew_25 rfl ?_ ?_
    · decide
    · exact ⟨Or.inr rfl, kpW_Fp Fp.rf (by decide) (by decide)⟩
  · refine wp_iconst (v := 0) d_A_isNew_13 (by decide) ?_
    refine wp_zret d_A_isNew_14 rfl ?_ ?_
    · decide
    · exact ⟨Or.inl rfl, Fp.rf⟩
theorem w_A_countMeanings {N L M : Nat} (σ : Hp) (hI : KI σ N L) (hM : EM σ M) : Ct m_A_countMeanings [.ref 48] σ (Rg nS σ) := by
  show WP m_A_countMeanings 0 [.ref 48, .null, .null, .null] [] σ _
  refine wp_aload_n d_A_countMeanings_0 rfl ?_
  refine wp_callV0e d_A_countMeanings_1 cv_A_103 rfl rfl rfl ⟨Nat.le_of_ble_eq_true rfl, Nat.le_of_ble_eq_true rfl⟩ (Nat.le_of_ble_eq_true rfl) (Nat.le_of_ble_eq_true rfl) (c_A_leastMachine _ hI) ?_
  refine wp_istore1 d_A_countMeanings_4 (by decide) rfl ?_
  refine wp_iconst (v := 0) d_A_countMeanings_5 (by decide) ?_
  refine wp_istore2 d_A_countMeanings_6 (by decide) rfl ?_
  refine wp_aload_n d_A_countMeanings_7 rfl ?_
  refine wp_getA d_A_countMeanings_8 fl_A_21 rfl rfl rfl ?_
  refine wp_callV0v d_A_countMeanings_11 cv_A_139 rfl rfl rfl ⟨Nat.le_of_ble_eq_true rfl, Nat.le_of_ble_eq_true rfl⟩ (Nat.le_of_ble_eq_true rfl) (Nat.le_of_ble_eq_true rfl) (c_F_clear fiK_51 _) ?_
  refine wp_iconst (v := 0) d_A_countMeanings_14 (by decide) ?_
  refine wp_istore3 d_A_countMeanings_15 (by decide) rfl ?_
  suffices H : ∀ i, i ≤ M → ∀ (τ : Hp) (z : Int32), Fp nS σ τ → WP m_A_countMeanings 16 [.ref 48, .int (lmF σ N L), .int z, .int (nI i)] [] τ (Rg nS σ) from H 0 (Nat.zero_le _) _ _ (Fp.rf.flA (by decide))
  refine lp_nat (fun i hi ih τ z hF => ?_)
  have hM2 := hF.EM (by decide) hM
  have hI := hF.KI (by decide) hI
  refine wp_iload_n d_A_countMeanings_16 rfl ?_
  refine wp_aload_n d_A_countMeanings_17 rfl ?_
  refine wp_getA d_A_countMeanings_18 fl_A_36 rfl rfl rfl ?_
  refine wp_getI d_A_countMeanings_21 fl_A_142 rfl rfl (by decide) ?_
  refine wp_icmp_ge (tgt := 56) d_A_countMeanings_24 (by decide) (fun hc => ?_) (fun hc => ?_)
  · refine wp_iload_n d_A_countMeanings_56 rfl ?_
    refine wp_iret d_A_countMeanings_57 rfl ?_
    exact ⟨⟨_, rfl⟩, hF⟩
  · rw [hM2.1] at hc
    have hi2 := nI_nge hc (by have := hM.le; omega) (by have := hM.le; omega)
    refine wp_iload_n d_A_countMeanings_27 rfl ?_
    refine wp_aload_n d_A_countMeanings_28 rfl ?_
    refine wp_aload_n d_A_countMeanings_29 rfl ?_
    refine wp_aload_n d_A_countMeanings_30 rfl ?_
    refine wp_getA d_A_countMeanings_31 fl_A_36 rfl rfl rfl ?_
    refine wp_iload_n d_A_countMeanings_34 rfl ?_
    refine wp_callV1e d_A_countMeanings_35 cv_A_145 rfl rfl rfl ⟨Nat.le_of_ble_eq_true rfl, Nat.le_of_ble_eq_true rfl⟩ (Nat.le_of_ble_eq_true rfl) (Nat.le_of_ble_eq_true rfl) (c_E_map _ _) ?_
    refine wp_iload_n d_A_countMeanings_38 rfl ?_
    refine wp_callV2e d_A_countMeanings_39 cv_A_146 rfl rfl rfl ⟨Nat.le_of_ble_eq_true rfl, Nat.le_of_ble_eq_true rfl⟩ (Nat.le_of_ble_eq_true rfl) (Nat.le_of_ble_eq_true rfl) (c_A_meaning _ _ _ hI) ?_
    refine wp_callV1 d_A_countMeanings_42 cv_A_149 rfl rfl rfl ⟨Nat.le_of_ble_eq_true rfl, Nat.le_of_ble_eq_true rfl⟩ (Nat.le_of_ble_eq_true rfl) (Nat.le_of_ble_eq_true rfl) (w_A_isNew _ _) (fun v υ hv => ?_)
    obtain ⟨hv, hF2⟩ := hv
    have fin : ∀ u : Int32, (u = 0 ∨ u = 1) → WP m_A_countMeanings 45 [.ref 48, .int (lmF σ N L), .int z, .int (nI i)] [.int u, .int z] υ (Rg nS σ) := by
      intro u hu
      have : u = bz (u = 1) := by rcases hu with rfl | rfl <;> decide
      rw [this]
      refine wp_callSN1e d_A_countMeanings_45 csn_A_107 ⟨Nat.le_of_ble_eq_true rfl, Nat.le_of_ble_eq_true rfl⟩ (Nat.le_of_ble_eq_true rfl) (Nat.le_of_ble_eq_true rfl) (c_P_oneIf _ _) ?_
      refine wp_iadd d_A_countMeanings_48 ?_
      refine wp_istore2 d_A_countMeanings_49 (by decide) rfl ?_
      refine wp_iinc3 d_A_countMeanings_50 (hn_ii1 _) (by decide) rfl ?_
      refine wp_goto (tgt := 16) d_A_countMeanings_53 (by decide) ?_
      rw [nI_1]
      exact ih hi2 _ _ (hF.tr hF2)
    rcases hv with rfl | rfl
    · exact fin 0 (Or.inl rfl)
    · exact fin 1 (Or.inr rfl)
theorem w_A_isStarless {N L M : Nat} (σ : Hp) (hI : KI σ N L) (hM : EM σ M) : Ct m_A_isStarless [.ref 48] σ (fun w τ => (w = some (.int 0) ∨ w = some (.int 1)) ∧ Fp [49, 50] σ τ) := by
  show WP m_A_isStarless 0 [.ref 48, .null, .null] [] σ _
  refine wp_aload_n d_A_isStarless_0 rfl ?_
  refine wp_callV0e d_A_isStarless_1 cv_A_103 rfl rfl rfl ⟨Nat.le_of_ble_eq_true rfl, Nat.le_of_ble_eq_true rfl⟩ (Nat.le_of_ble_eq_true rfl) (Nat.le_of_ble_eq_true rfl) (c_A_leastMachine _ hI) ?_
  refine wp_istore1 d_A_isStarless_4 (by decide) rfl ?_
  refine wp_iconst (v := 0) d_A_isStarless_5 (by decide) ?_
  refine wp_istore2 d_A_isStarless_6 (by decide) rfl ?_
  suffices H : ∀ i, i ≤ M → ∀ (τ : Hp), Fp [49, 50] σ τ → WP m_A_isStarless 7 [.ref 48, .int (lmF σ N L), .int (nI i)] [] τ (fun w τ => (w = some (.int 0) ∨ w = some (.int 1)) ∧ Fp [49, 50] σ τ) from H 0 (Nat.zero_le _) _ Fp.rf
  refine lp_nat (fun i hi ih τ hF => ?_)
  have hM2 := hF.EM (by decide) hM
  have hI := hF.KI (by decide) hI
  refine wp_iload_n d_A_isStarless_7 rfl ?_
  refine wp_aload_n d_A_isStarless_8 rfl ?_
  refine wp_getA d_A_isStarless_9 fl_A_36 rfl rfl rfl ?_
  refine wp_getI d_A_isStarless_12 fl_A_142 rfl rfl (by decide) ?_
  refine wp_icmp_ge (tgt := 64) d_A_isStarless_15 (by decide) (fun hc => ?_) (fun hc => ?_)
  · refine wp_iconst (v := 1) d_A_isStarless_64 (by decide) ?_
    refine wp_zret d_A_isStarless_65 rfl ?_ ?_
    · decide
    · exact ⟨Or.inr rfl, hF⟩
  · rw [hM2.1] at hc
    have hi2 := nI_nge hc (by have := hM.le; omega) (by have := hM.le; omega)
    refine wp_aload_n d_A_isStarless_18 rfl ?_
    refine wp_getA d_A_isStarless_19 fl_A_12 rfl rfl rfl ?_
    refine wp_aload_n d_A_isStarless_22 rfl ?_
    refine wp_aload_n d_A_isStarless_23 rfl ?_
    refine wp_getA d_A_isStarless_24 fl_A_36 rfl rfl rfl ?_
    refine wp_iload_n d_A_isStarless_27 rfl ?_
    refine wp_callV1e d_A_isStarless_28 cv_A_145 rfl rfl rfl ⟨Nat.le_of_ble_eq_true rfl, Nat.le_of_ble_eq_true rfl⟩ (Nat.le_of_ble_eq_true rfl) (Nat.le_of_ble_eq_true rfl) (c_E_map _ _) ?_
    refine wp_iload_n d_A_isStarless_31 rfl ?_
    refine wp_callV2e d_A_isStarless_32 cv_A_146 rfl rfl rfl ⟨Nat.le_of_ble_eq_true rfl, Nat.le_of_ble_eq_true rfl⟩ (Nat.le_of_ble_eq_true rfl) (Nat.le_of_ble_eq_true rfl) (c_A_meaning _ _ _ hI) ?_
    refine wp_aload_n d_A_isStarless_35 rfl ?_
    refine wp_getA d_A_isStarless_36 fl_A_32 rfl rfl rfl ?_
    refine wp_getI d_A_isStarless_39 fl_A_64 rfl rfl (by decide) ?_
    rw [hI.1]
    refine wp_callV2 d_A_isStarless_42 cv_A_159 rfl rfl rfl ⟨Nat.le_of_ble_eq_true rfl, Nat.le_of_ble_eq_true rfl⟩ (Nat.le_of_ble_eq_true rfl) (Nat.le_of_ble_eq_true rfl) (c_O_listOf poK_49 (by decide) _ (by have := hI.2.2.1; omega) _) (fun v υ hv => ?_)
    obtain ⟨rfl, k2, z2, -, -, -, -, -, -, -, -, hF2⟩ := hv
    show WP m_A_isStarless 45 _ [] υ _
    refine wp_aload_n d_A_isStarless_45 rfl ?_
    refine wp_getA d_A_isStarless_46 fl_A_12 rfl rfl rfl ?_
    refine wp_callV0e d_A_isStarless_49 cv_A_162 rfl rfl rfl ⟨Nat.le_of_ble_eq_true rfl, Nat.le_of_ble_eq_true rfl⟩ (Nat.le_of_ble_eq_true rfl) (Nat.le_of_ble_eq_true rfl) (c_O_ring poK_49 _) ?_
    refine wp_iconst (v := 1) d_A_isStarless_52 (by decide) ?_
    refine wp_icmp_le (tgt := 58) d_A_isStarless_53 (by decide) (fun hc2 => ?_) (fun hc2 => ?_)
    · refine wp_iinc2 d_A_isStarless_58 (hn_ii1 _) (by decide) rfl ?_
      refine wp_goto (tgt := 7) d_A_isStarless_61 (by decide) ?_
      rw [nI_1]
      exact ih hi2 _ (hF.tr hF2)
    · refine wp_iconst (v := 0) d_A_isStarless_56 (by decide) ?_
      refine wp_zret d_A_isStarless_57 rfl ?_ ?_
      · decide
      · exact ⟨Or.inl rfl, hF.tr hF2⟩
