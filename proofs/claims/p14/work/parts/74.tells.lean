/-! boxes, about, sort: what the class counts -/
def stI (b : Nat → Nat) (st : Nat → Bool) (M i : Nat) : Nat := sm (fun x => if b x = i ∧ st x = true then 1 else 0) M
theorem sm_le1 {p : Nat → Prop} [DecidablePred p] (M : Nat) : sm (fun x => if p x then 1 else 0) M ≤ M := sm_le M (fun e _ => by split <;> omega)
theorem v_B_regular {L M B : Nat} {sp : Nat → Nat → Nat} {b : Nat → Nat} {st : Nat → Bool} (hM : M ≤ 1500) (hB : B ≤ M) (σ : Hp) (h29 : rdA σ 29 4 0 = nI B) (hU : SU σ L sp b st M) : Ct m_B_regular [.ref 15] σ (Rt (.int (nI (sm (fun i => if 0 < stI b st M i then 1 else 0) B))) σ) := by
  show WP m_B_regular 0 [.ref 15, .null, .null] [] σ _
  refine wp_iconst (v := 0) d_B_regular_0 (by decide) ?_
  refine wp_istore1 d_B_regular_1 (by decide) rfl ?_
  refine wp_iconst (v := 0) d_B_regular_2 (by decide) ?_
  refine wp_istore2 d_B_regular_3 (by decide) rfl ?_
  suffices H : ∀ i, i ≤ B → WP m_B_regular 4 [.ref 15, .int (nI (sm (fun i => if 0 < stI b st M i then 1 else 0) i)), .int (nI i)] [] σ (Rt (.int (nI (sm (fun i => if 0 < stI b st M i then 1 else 0) B))) σ) from H 0 (Nat.zero_le _)
  refine lp_nat (fun i hi ih => ?_)
  refine wp_iload_n d_B_regular_4 rfl ?_
  refine wp_aload_n d_B_regular_5 rfl ?_
  refine wp_iconst (v := 0) d_B_regular_6 (by decide) ?_
  refine wp_callV1e d_B_regular_7 cv_B_126 rfl rfl rfl ⟨Nat.le_of_ble_eq_true rfl, Nat.le_of_ble_eq_true rfl⟩ (Nat.le_of_ble_eq_true rfl) (Nat.le_of_ble_eq_true rfl) (c_B_howMany _ _) ?_
  refine wp_icmp_ge (tgt := 41) d_B_regular_10 (by decide) (fun hc => ?_) (fun hc => ?_)
  · rw [h29] at hc
    obtain rfl := Nat.le_antisymm hi (nI_ge2 hc (by omega) (by omega))
    refine wp_iload_n d_B_regular_41 rfl ?_
    refine wp_iret d_B_regular_42 rfl ?_
    exact ⟨rfl, rfl⟩
  · rw [h29] at hc
    have hi2 := nI_nge hc (by omega) (by omega)
    have hs : stI b st M i ≤ M := sm_le1 M
    refine wp_iload_n d_B_regular_13 rfl ?_
    refine wp_aload_n d_B_regular_14 rfl ?_
    refine wp_getA d_B_regular_15 fl_B_38 rfl rfl rfl ?_
    refine wp_iload_n d_B_regular_18 rfl ?_
    refine wp_callSN2e d_B_regular_19 csn_B_139 ⟨Nat.le_of_ble_eq_true rfl, Nat.le_of_ble_eq_true rfl⟩ (Nat.le_of_ble_eq_true rfl) (Nat.le_of_ble_eq_true rfl) (c_P_at (a := 31) rfl (by decide) _ _) ?_
    rw [rdA_in (show i < 1500 by omega) (by decide), (hU i (by omega)).2.1]
    have fin : ∀ u : Int32, u = bz (0 < stI b st M i) → WP m_B_regular 30 [.ref 15, .int (nI (sm (fun i => if 0 < stI b st M i then 1 else 0) i)), .int (nI i)] [.int u, .int (nI (sm (fun i => if 0 < stI b st M i then 1 else 0) i))] σ (Rt (.int (nI (sm (fun i => if 0 < stI b st M i then 1 else 0) B))) σ) := by
      rintro u rfl
      refine wp_callSN1e d_B_regular_30 csn_B_147 ⟨Nat.le_of_ble_eq_true rfl, Nat.le_of_ble_eq_true rfl⟩ (Nat.le_of_ble_eq_true rfl) (Nat.le_of_ble_eq_true rfl) (c_P_oneIf _ _) ?_
      have e : nI (sm (fun i => if 0 < stI b st M i then 1 else 0) i) + bz (0 < stI b st M i) = nI (sm (fun i => if 0 < stI b st M i then 1 else 0) (i + 1)) := by
        show _ = nI (sm (fun i => if 0 < stI b st M i then 1 else 0) i + (if 0 < stI b st M i then 1 else 0))
        rw [← nI_add]
        congr 1
        unfold bz
        split <;> rfl
      refine wp_iadd d_B_regular_33 ?_
      refine wp_istore1 d_B_regular_34 (by decide) rfl ?_
      refine wp_iinc2 d_B_regular_35 (hn_ii1 _) (by decide) rfl ?_
      refine wp_goto (tgt := 4) d_B_regular_38 (by decide) ?_
      rw [e, nI_1]
      exact ih hi2
    refine wp_if_le (tgt := 29) d_B_regular_22 (by decide) (fun hc2 => ?_) (fun hc2 => ?_)
    · have : ¬ 0 < stI b st M i := fun z => by
        have h2 : nI (stI b st M i) ≤ nI 0 := hc2
        rw [nI_leN (by omega) (by omega)] at h2
        omega
      refine wp_iconst (v := 0) d_B_regular_29 (by decide) ?_
      exact fin 0 (bz_f this).symm
    · have : 0 < stI b st M i := by
        rcases Nat.eq_zero_or_pos (stI b st M i) with q | q
        · refine absurd ?_ hc2
          show nI (stI b st M i) ≤ nI 0
          rw [q]
          decide
        · exact q
      refine wp_iconst (v := 1) d_B_regular_25 (by decide) ?_
      refine wp_goto (tgt := 30) d_B_regular_26 (by decide) ?_
      exact fin 1 (bz_t this).symm
/-- the first box that nothing leads out of; 0, if there is none -/
theorem v_B_leastBox {L M B : Nat} {sp : Nat → Nat → Nat} {b : Nat → Nat} {st : Nat → Bool} (hM : M ≤ 1500) (hB : B ≤ M) (σ : Hp) (h29 : rdA σ 29 4 0 = nI B) (hU : SU σ L sp b st M) : Ct m_B_leastBox [.ref 15] σ (fun r τ => τ = σ ∧ ∃ z, r = some (.int (nI z)) ∧ ((z < B ∧ (∀ x, x < M → b x = z → soB L sp b x = false) ∧ ∀ j, j < z → ∃ x, x < M ∧ b x = j ∧ soB L sp b x = true) ∨ (z = 0 ∧ ∀ j, j < B → ∃ x, x < M ∧ b x = j ∧ soB L sp b x = true))) := by
  show WP m_B_leastBox 0 [.ref 15, .null] [] σ _
  have out : ∀ i, i < B → (σ.1 32 i = 0 → ∀ x, x < M → b x = i → soB L sp b x = false) ∧ (¬ σ.1 32 i = 0 → ∃ x, x < M ∧ b x = i ∧ soB L sp b x = true) := fun i hi => by
    rw [(hU i (by omega)).2.2]
    constructor
    · intro h x hx hb
      cases q : soB L sp b x with
      | false => rfl
      | true =>
        refine absurd ?_ (bz_0.mp h)
        rw [List.any_eq_true]
        exact ⟨x, List.mem_range.mpr hx, by rw [decide_eq_true hb, q]; rfl⟩
    · intro h
      have := bz_n0 h
      rw [List.any_eq_true] at this
      obtain ⟨x, hx, hb⟩ := this
      rw [Bool.and_eq_true, decide_eq_true_eq] at hb
      exact ⟨x, List.mem_range.mp hx, hb.1, hb.2⟩
  refine wp_iconst (v := 0) d_B_leastBox_0 (by decide) ?_
  refine wp_istore1 d_B_leastBox_1 (by decide) rfl ?_
  suffices H : ∀ i, i ≤ B → (∀ j, j < i → ∃ x, x < M ∧ b x = j ∧ soB L sp b x = true) → WP m_B_leastBox 2 [.ref 15, .int (nI i)] [] σ (fun r τ => τ = σ ∧ ∃ z, r = some (.int (nI z)) ∧ ((z < B ∧ (∀ x, x < M → b x = z → soB L sp b x = false) ∧ ∀ j, j < z → ∃ x, x < M ∧ b x = j ∧ soB L sp b x = true) ∨ (z = 0 ∧ ∀ j, j < B → ∃ x, x < M ∧ b x = j ∧ soB L sp b x = true))) from H 0 (Nat.zero_le _) (fun j hj => absurd hj (Nat.not_lt_zero j))
  refine lp_nat (fun i hi ih hp => ?_)
  refine wp_iload_n d_B_leastBox_2 rfl ?_
  refine wp_aload_n d_B_leastBox_3 rfl ?_
  refine wp_iconst (v := 0) d_B_leastBox_4 (by decide) ?_
  refine wp_callV1e d_B_leastBox_5 cv_B_126 rfl rfl rfl ⟨Nat.le_of_ble_eq_true rfl, Nat.le_of_ble_eq_true rfl⟩ (Nat.le_of_ble_eq_true rfl) (Nat.le_of_ble_eq_true rfl) (c_B_howMany _ _) ?_
  refine wp_icmp_ge (tgt := 30) d_B_leastBox_8 (by decide) (fun hc => ?_) (fun hc => ?_)
  · rw [h29] at hc
    obtain rfl := Nat.le_antisymm hi (nI_ge2 hc (by omega) (by omega))
    refine wp_iconst (v := 0) d_B_leastBox_30 (by decide) ?_
    refine wp_iret d_B_leastBox_31 rfl ?_
    exact ⟨rfl, 0, rfl, Or.inr ⟨rfl, hp⟩⟩
  · rw [h29] at hc
    have hi2 := nI_nge hc (by omega) (by omega)
    refine wp_aload_n d_B_leastBox_11 rfl ?_
    refine wp_getA d_B_leastBox_12 fl_B_41 rfl rfl rfl ?_
    refine wp_iload_n d_B_leastBox_15 rfl ?_
    refine wp_callSN2e d_B_leastBox_16 csn_B_139 ⟨Nat.le_of_ble_eq_true rfl, Nat.le_of_ble_eq_true rfl⟩ (Nat.le_of_ble_eq_true rfl) (Nat.le_of_ble_eq_true rfl) (c_P_at (a := 32) rfl (by decide) _ _) ?_
    rw [rdA_in (show i < 1500 by omega) (by decide)]
    refine wp_if_ne (tgt := 24) d_B_leastBox_19 (by decide) (fun hc2 => ?_) (fun hc2 => ?_)
    · refine wp_iinc1 d_B_leastBox_24 (hn_ii1 _) (by decide) rfl ?_
      refine wp_goto (tgt := 2) d_B_leastBox_27 (by decide) ?_
      rw [nI_1]
      exact ih hi2 (lt_s hp ((out i hi2).2 hc2))
    · refine wp_iload_n d_B_leastBox_22 rfl ?_
      refine wp_iret d_B_leastBox_23 rfl ?_
      exact ⟨rfl, i, rfl, Or.inl ⟨hi2, (out i hi2).1 hc2, hp⟩⟩
theorem v_B_howManyIn {M B K i : Nat} {b0 l : Nat → Nat} (hK : K < 4) (hM : M ≤ 1500) (hB : B ≤ M) (hi : i < 2 ^ 31) (σ : Hp) (h29 : σ.1 29 K = nI B) (h28 : ∀ j, j < B → σ.1 28 (1500 * K + j) = nI (l j) ∧ l j < M) (h27 : ∀ e, e < M → σ.1 27 (1500 * 0 + e) = nI (b0 e) ∧ b0 e < 1500) : Ct m_B_howManyIn [.ref 15, .int (nI K), .int (nI i)] σ (Rt (.int (nI (sm (fun j => if b0 (l j) = i then 1 else 0) B))) σ) := by
  show WP m_B_howManyIn 0 [.ref 15, .int (nI K), .int (nI i), .null, .null] [] σ _
  have r29 : rdA σ 29 4 (nI K) = nI B := by rw [rdA_in hK (by decide)]; exact h29
  refine wp_iconst (v := 0) d_B_howManyIn_0 (by decide) ?_
  refine wp_istore3 d_B_howManyIn_1 (by decide) rfl ?_
  refine wp_iconst (v := 0) d_B_howManyIn_2 (by decide) ?_
  refine wp_istore4 d_B_howManyIn_3 (by decide) rfl ?_
  suffices H : ∀ j, j ≤ B → WP m_B_howManyIn 5 [.ref 15, .int (nI K), .int (nI i), .int (nI (sm (fun j => if b0 (l j) = i then 1 else 0) j)), .int (nI j)] [] σ (Rt (.int (nI (sm (fun j => if b0 (l j) = i then 1 else 0) B))) σ) from H 0 (Nat.zero_le _)
  refine lp_nat (fun j hj ih => ?_)
  refine wp_iload d_B_howManyIn_5 rfl ?_
  refine wp_aload_n d_B_howManyIn_7 rfl ?_
  refine wp_iload_n d_B_howManyIn_8 rfl ?_
  refine wp_callV1e d_B_howManyIn_9 cv_B_126 rfl rfl rfl ⟨Nat.le_of_ble_eq_true rfl, Nat.le_of_ble_eq_true rfl⟩ (Nat.le_of_ble_eq_true rfl) (Nat.le_of_ble_eq_true rfl) (c_B_howMany _ _) ?_
  refine wp_icmp_ge (tgt := 48) d_B_howManyIn_12 (by decide) (fun hc => ?_) (fun hc => ?_)
  · rw [r29] at hc
    obtain rfl := Nat.le_antisymm hj (nI_ge2 hc (by omega) (by omega))
    refine wp_iload_n d_B_howManyIn_48 rfl ?_
    refine wp_iret d_B_howManyIn_49 rfl ?_
    exact ⟨rfl, rfl⟩
  · rw [r29] at hc
    have hj2 := nI_nge hc (by omega) (by omega)
    obtain ⟨l1, l2⟩ := h28 j hj2
    obtain ⟨n1, n2⟩ := h27 _ l2
    have r1 : rdA σ 28 6000 (nI K * 1500 + nI j) = nI (l j) := by rw [col_nI, rdA_in (by omega) (by decide)]; exact l1
    have r2 : rdA σ 27 6000 (0 * 1500 + nI (l j)) = nI (b0 (l j)) := by rw [c0_nI, rdA_in (by omega) (by decide)]; exact n1
    have fin : ∀ u : Int32, u = bz (b0 (l j) = i) → WP m_B_howManyIn 37 [.ref 15, .int (nI K), .int (nI i), .int (nI (sm (fun j => if b0 (l j) = i then 1 else 0) j)), .int (nI j)] [.int u, .int (nI (sm (fun j => if b0 (l j) = i then 1 else 0) j))] σ (Rt (.int (nI (sm (fun j => if b0 (l j) = i then 1 else 0) B))) σ) := by
      rintro u rfl
      refine wp_callSN1e d_B_howManyIn_37 csn_B_147 ⟨Nat.le_of_ble_eq_true rfl, Nat.le_of_ble_eq_true rfl⟩ (Nat.le_of_ble_eq_true rfl) (Nat.le_of_ble_eq_true rfl) (c_P_oneIf _ _) ?_
      have e : nI (sm (fun j => if b0 (l j) = i then 1 else 0) j) + bz (b0 (l j) = i) = nI (sm (fun j => if b0 (l j) = i then 1 else 0) (j + 1)) := by
        show _ = nI (sm (fun j => if b0 (l j) = i then 1 else 0) j + (if b0 (l j) = i then 1 else 0))
        rw [← nI_add]
        congr 1
        unfold bz
        split <;> rfl
      refine wp_iadd d_B_howManyIn_40 ?_
      refine wp_istore3 d_B_howManyIn_41 (by decide) rfl ?_
      refine wp_iinc4 d_B_howManyIn_42 (hn_ii1 _) (by decide) rfl ?_
      refine wp_goto (tgt := 5) d_B_howManyIn_45 (by decide) ?_
      rw [e, nI_1]
      exact ih hj2
    refine wp_iload_n d_B_howManyIn_15 rfl ?_
    refine wp_aload_n d_B_howManyIn_16 rfl ?_
    refine wp_iconst (v := 0) d_B_howManyIn_17 (by decide) ?_
    refine wp_aload_n d_B_howManyIn_18 rfl ?_
    refine wp_iload_n d_B_howManyIn_19 rfl ?_
    refine wp_iload d_B_howManyIn_20 rfl ?_
    refine wp_callV2e d_B_howManyIn_22 cv_B_164 rfl rfl rfl ⟨Nat.le_of_ble_eq_true rfl, Nat.le_of_ble_eq_true rfl⟩ (Nat.le_of_ble_eq_true rfl) (Nat.le_of_ble_eq_true rfl) (c_B_leastOf _ _ _) ?_
    refine wp_callV2e d_B_howManyIn_25 cv_B_113 rfl rfl rfl ⟨Nat.le_of_ble_eq_true rfl, Nat.le_of_ble_eq_true rfl⟩ (Nat.le_of_ble_eq_true rfl) (Nat.le_of_ble_eq_true rfl) (c_B_numberOf _ _ _) ?_
    refine wp_iload_n d_B_howManyIn_28 rfl ?_
    rw [r1, r2]
    refine wp_icmp_ne (tgt := 36) d_B_howManyIn_29 (by decide) (fun hc2 => ?_) (fun hc2 => ?_)
    · rw [nI_eq (by omega) hi] at hc2
      refine wp_iconst (v := 0) d_B_howManyIn_36 (by decide) ?_
      exact fin 0 (bz_f hc2).symm
    · rw [nI_eq (by omega) hi] at hc2
      refine wp_iconst (v := 1) d_B_howManyIn_32 (by decide) ?_
      refine wp_goto (tgt := 37) d_B_howManyIn_33 (by decide) ?_
      exact fin 1 (bz_t hc2).symm
