/-! contracts: the public methods (what they change; those of points, letters, set, count: what they answer) -/
def pS : List Nat := eS ++ bS ++ [9, 10, 37, 39, 40, 41, 43, 45, 46, 47, 49, 50, 52, 53, 54, 55]
/-- some int; letters, start and ends stay -/
def Rp (σ : Hp) : Option Value → Hp → Prop := fun w τ => (∃ z : Int32, w = some (.int z)) ∧ Fp pS σ τ ∧ ∃ M, EM τ M
theorem Rp.of {σ τ : Hp} {S : List Nat} {M : Nat} {z : Int32} (hF : Fp S σ τ) (hS : ∀ q, q ∈ S → q ∈ pS) (hM : EM τ M) : Rp σ (some (.int z)) τ := ⟨⟨z, rfl⟩, hF.up hS, M, hM⟩
theorem upS {S : List Nat} (h : (S.all fun q => decide (q ∈ pS)) = true) : ∀ q, q ∈ S → q ∈ pS := fun q hq => of_decide_eq_true (List.all_eq_true.mp h q hq)
def ptW (σ : Hp) (n : Int32) : Hp := wI (wI (wI (wI (wI σ 1 1 n) 1 2 0) 1 3 (σ.1 1 3 + 1)) 48 7 0) 48 8 0
theorem c_P_points_no (n : Int32) (σ : Hp) (h : ¬ (1 ≤ n ∧ n ≤ 6)) : Ct m_P_points [.ref 0, .int n] σ (Rt (.int (-1)) σ) := by
  show WP m_P_points 0 [.ref 0, .int n, .null] [] σ _
  refine wp_iload_n d_P_points_0 rfl ?_
  refine wp_iconst (v := 1) d_P_points_1 (by decide) ?_
  refine wp_bipush (v := 6) d_P_points_2 (by decide) ?_
  refine wp_callS3e d_P_points_4 cs_P_62 ⟨Nat.le_of_ble_eq_true rfl, Nat.le_of_ble_eq_true rfl⟩ (Nat.le_of_ble_eq_true rfl) (Nat.le_of_ble_eq_true rfl) (c_P_within _ _ _ _) ?_
  refine wp_if_ne (tgt := 12) d_P_points_7 (by decide) (fun hc => ?_) (fun hc => ?_)
  · exact absurd (bz_n0 hc) h
  · refine wp_iconst (v := -1) d_P_points_10 (by decide) ?_
    refine wp_iret d_P_points_11 rfl ?_
    exact ⟨rfl, rfl⟩
theorem c_P_points (n : Int32) (σ : Hp) (h : 1 ≤ n ∧ n ≤ 6) : Ct m_P_points [.ref 0, .int n] σ (Rt (.int (σ.1 1 1)) (ptW σ n)) := by
  show WP m_P_points 0 [.ref 0, .int n, .null] [] σ _
  refine wp_iload_n d_P_points_0 rfl ?_
  refine wp_iconst (v := 1) d_P_points_1 (by decide) ?_
  refine wp_bipush (v := 6) d_P_points_2 (by decide) ?_
  refine wp_callS3e d_P_points_4 cs_P_62 ⟨Nat.le_of_ble_eq_true rfl, Nat.le_of_ble_eq_true rfl⟩ (Nat.le_of_ble_eq_true rfl) (Nat.le_of_ble_eq_true rfl) (c_P_within _ _ _ _) ?_
  refine wp_if_ne (tgt := 12) d_P_points_7 (by decide) (fun hc => ?_) (fun hc => ?_)
  · refine wp_aload_n d_P_points_12 rfl ?_
    refine wp_getA d_P_points_13 fl_P_10 rfl rfl rfl ?_
    refine wp_getI d_P_points_16 fl_P_66 rfl rfl (by decide) ?_
    refine wp_istore2 d_P_points_19 (by decide) rfl ?_
    refine wp_aload_n d_P_points_20 rfl ?_
    refine wp_getA d_P_points_21 fl_P_10 rfl rfl rfl ?_
    refine wp_iload_n d_P_points_24 rfl ?_
    refine wp_callV1v d_P_points_25 cv_P_70 rfl rfl rfl ⟨Nat.le_of_ble_eq_true rfl, Nat.le_of_ble_eq_true rfl⟩ (Nat.le_of_ble_eq_true rfl) (Nat.le_of_ble_eq_true rfl) (c_L_beginWith _ _) ?_
    refine wp_aload_n d_P_points_28 rfl ?_
    refine wp_getA d_P_points_29 fl_P_58 rfl rfl rfl ?_
    refine wp_iconst (v := 0) d_P_points_32 (by decide) ?_
    refine wp_callV1e d_P_points_33 cv_P_74 rfl rfl rfl ⟨Nat.le_of_ble_eq_true rfl, Nat.le_of_ble_eq_true rfl⟩ (Nat.le_of_ble_eq_true rfl) (Nat.le_of_ble_eq_true rfl) (c_A_changeStart _ _) ?_
    refine wp_pop d_P_points_36 rfl ?_
    refine wp_aload_n d_P_points_37 rfl ?_
    refine wp_getA d_P_points_38 fl_P_58 rfl rfl rfl ?_
    refine wp_iconst (v := 0) d_P_points_41 (by decide) ?_
    refine wp_callV1e d_P_points_42 cv_P_78 rfl rfl rfl ⟨Nat.le_of_ble_eq_true rfl, Nat.le_of_ble_eq_true rfl⟩ (Nat.le_of_ble_eq_true rfl) (Nat.le_of_ble_eq_true rfl) (c_A_changeEnds _ _) ?_
    refine wp_pop d_P_points_45 rfl ?_
    refine wp_iload_n d_P_points_46 rfl ?_
    refine wp_iret d_P_points_47 rfl ?_
    exact ⟨rfl, rfl⟩
  · exact absurd h (bz_0.mp hc)
def leW (σ : Hp) (N L m : Nat) : Hp := wI (wI (wI σ 2 L (onF m N)) 1 3 (σ.1 1 3 + 1)) 1 2 (nI (L + 1))
theorem c_P_letter_no (m : Int32) {N L : Nat} (σ : Hp) (hI : KI σ N L) (h : ¬ (0 ≤ m ∧ m ≤ nI (N ^ N - 1))) : Ct m_P_letter [.ref 0, .int m] σ (Rt (.int (-1)) σ) := by
  have e9 : nI (N ^ N) - 1 = nI (N ^ N - 1) := by
    have := pow_pos' hI.2.1
    rw [show N ^ N = N ^ N - 1 + 1 by omega, nI_pred, show N ^ N - 1 + 1 - 1 = N ^ N - 1 by omega]
  show WP m_P_letter 0 [.ref 0, .int m] [] σ _
  refine wp_iload_n d_P_letter_0 rfl ?_
  refine wp_iconst (v := 0) d_P_letter_1 (by decide) ?_
  refine wp_aload_n d_P_letter_2 rfl ?_
  refine wp_getA d_P_letter_3 fl_P_10 rfl rfl rfl ?_
  refine wp_callV0e d_P_letter_6 cv_P_81 rfl rfl rfl ⟨Nat.le_of_ble_eq_true rfl, Nat.le_of_ble_eq_true rfl⟩ (Nat.le_of_ble_eq_true rfl) (Nat.le_of_ble_eq_true rfl) (c_L_mostMaps _ hI) ?_
  refine wp_iconst (v := 1) d_P_letter_9 (by decide) ?_
  refine wp_isub d_P_letter_10 ?_
  rw [e9]
  refine wp_callS3e d_P_letter_11 cs_P_62 ⟨Nat.le_of_ble_eq_true rfl, Nat.le_of_ble_eq_true rfl⟩ (Nat.le_of_ble_eq_true rfl) (Nat.le_of_ble_eq_true rfl) (c_P_within _ _ _ _) ?_
  refine wp_if_ne (tgt := 19) d_P_letter_14 (by decide) (fun hc => ?_) (fun hc => ?_)
  · exact absurd (bz_n0 hc) h
  · refine wp_iconst (v := -1) d_P_letter_17 (by decide) ?_
    refine wp_iret d_P_letter_18 rfl ?_
    exact ⟨rfl, rfl⟩
theorem c_P_letter_full (m : Int32) {N L : Nat} (σ : Hp) (hI : KI σ N L) (h : 0 ≤ m ∧ m ≤ nI (N ^ N - 1)) (h4 : L = 4) : Ct m_P_letter [.ref 0, .int m] σ (Rt (.int (-3)) σ) := by
  have e9 : nI (N ^ N) - 1 = nI (N ^ N - 1) := by
    have := pow_pos' hI.2.1
    rw [show N ^ N = N ^ N - 1 + 1 by omega, nI_pred, show N ^ N - 1 + 1 - 1 = N ^ N - 1 by omega]
  show WP m_P_letter 0 [.ref 0, .int m] [] σ _
  refine wp_iload_n d_P_letter_0 rfl ?_
  refine wp_iconst (v := 0) d_P_letter_1 (by decide) ?_
  refine wp_aload_n d_P_letter_2 rfl ?_
  refine wp_getA d_P_letter_3 fl_P_10 rfl rfl rfl ?_
  refine wp_callV0e d_P_letter_6 cv_P_81 rfl rfl rfl ⟨Nat.le_of_ble_eq_true rfl, Nat.le_of_ble_eq_true rfl⟩ (Nat.le_of_ble_eq_true rfl) (Nat.le_of_ble_eq_true rfl) (c_L_mostMaps _ hI) ?_
  refine wp_iconst (v := 1) d_P_letter_9 (by decide) ?_
  refine wp_isub d_P_letter_10 ?_
  rw [e9]
  refine wp_callS3e d_P_letter_11 cs_P_62 ⟨Nat.le_of_ble_eq_true rfl, Nat.le_of_ble_eq_true rfl⟩ (Nat.le_of_ble_eq_true rfl) (Nat.le_of_ble_eq_true rfl) (c_P_within _ _ _ _) ?_
  refine wp_if_ne (tgt := 19) d_P_letter_14 (by decide) (fun hc => ?_) (fun hc => ?_)
  · refine wp_aload_n d_P_letter_19 rfl ?_
    refine wp_getA d_P_letter_20 fl_P_10 rfl rfl rfl ?_
    refine wp_getI d_P_letter_23 fl_P_85 rfl rfl (by decide) ?_
    refine wp_iconst (v := 4) d_P_letter_26 (by decide) ?_
    refine wp_icmp_lt (tgt := 33) d_P_letter_27 (by decide) (fun hc2 => ?_) (fun hc2 => ?_)
    · rw [hI.2.2.2.1, h4] at hc2
      exact absurd hc2 (by decide)
    · refine wp_bipush (v := -3) d_P_letter_30 (by decide) ?_
      refine wp_iret d_P_letter_32 rfl ?_
      exact ⟨rfl, rfl⟩
  · exact absurd h (bz_0.mp hc)
theorem c_P_letter {m N L : Nat} (σ : Hp) (hI : KI σ N L) (h : m < N ^ N) (h4 : L < 4) : Ct m_P_letter [.ref 0, .int (nI m)] σ (Rt (.int (nI L)) (leW σ N L m)) := by
  have h31 := pow_lt hI.2.2.1
  have e9 : nI (N ^ N) - 1 = nI (N ^ N - 1) := by
    have := pow_pos' hI.2.1
    rw [show N ^ N = N ^ N - 1 + 1 by omega, nI_pred, show N ^ N - 1 + 1 - 1 = N ^ N - 1 by omega]
  show WP m_P_letter 0 [.ref 0, .int (nI m)] [] σ _
  refine wp_iload_n d_P_letter_0 rfl ?_
  refine wp_iconst (v := 0) d_P_letter_1 (by decide) ?_
  refine wp_aload_n d_P_letter_2 rfl ?_
  refine wp_getA d_P_letter_3 fl_P_10 rfl rfl rfl ?_
  refine wp_callV0e d_P_letter_6 cv_P_81 rfl rfl rfl ⟨Nat.le_of_ble_eq_true rfl, Nat.le_of_ble_eq_true rfl⟩ (Nat.le_of_ble_eq_true rfl) (Nat.le_of_ble_eq_true rfl) (c_L_mostMaps _ hI) ?_
  refine wp_iconst (v := 1) d_P_letter_9 (by decide) ?_
  refine wp_isub d_P_letter_10 ?_
  rw [e9]
  refine wp_callS3e d_P_letter_11 cs_P_62 ⟨Nat.le_of_ble_eq_true rfl, Nat.le_of_ble_eq_true rfl⟩ (Nat.le_of_ble_eq_true rfl) (Nat.le_of_ble_eq_true rfl) (c_P_within _ _ _ _) ?_
  refine wp_if_ne (tgt := 19) d_P_letter_14 (by decide) (fun hc => ?_) (fun hc => ?_)
  · refine wp_aload_n d_P_letter_19 rfl ?_
    refine wp_getA d_P_letter_20 fl_P_10 rfl rfl rfl ?_
    refine wp_getI d_P_letter_23 fl_P_85 rfl rfl (by decide) ?_
    refine wp_iconst (v := 4) d_P_letter_26 (by decide) ?_
    refine wp_icmp_lt (tgt := 33) d_P_letter_27 (by decide) (fun hc2 => ?_) (fun hc2 => ?_)
    · refine wp_aload_n d_P_letter_33 rfl ?_
      refine wp_getA d_P_letter_34 fl_P_10 rfl rfl rfl ?_
      refine wp_iload_n d_P_letter_37 rfl ?_
      refine wp_aload_n d_P_letter_38 rfl ?_
      refine wp_getA d_P_letter_39 fl_P_10 rfl rfl rfl ?_
      refine wp_getI d_P_letter_42 fl_P_66 rfl rfl (by decide) ?_
      rw [hI.1]
      refine wp_callS2e d_P_letter_45 cs_P_88 ⟨Nat.le_of_ble_eq_true rfl, Nat.le_of_ble_eq_true rfl⟩ (Nat.le_of_ble_eq_true rfl) (Nat.le_of_ble_eq_true rfl) (c_G_ofNumber (by omega) (by have := hI.2.1; omega) (by have := hI.2.2.1; omega) _) ?_
      refine wp_callV1e d_P_letter_48 cv_P_94 rfl rfl rfl ⟨Nat.le_of_ble_eq_true rfl, Nat.le_of_ble_eq_true rfl⟩ (Nat.le_of_ble_eq_true rfl) (Nat.le_of_ble_eq_true rfl) (c_L_add _ _ hI.2.2.2.1 h4) ?_
      refine wp_iret d_P_letter_51 rfl ?_
      exact ⟨rfl, rfl⟩
    · rw [hI.2.2.2.1] at hc2
      exact absurd (nI_lt (b := 4) h4 (by decide)) hc2
  · exact absurd ⟨nI_pos' (by omega), nI_le (by omega) (by omega)⟩ (bz_0.mp hc)
def drW (σ : Hp) (L : Nat) : Hp := wI (wI σ 1 3 (σ.1 1 3 + 1)) 1 2 (nI L)
theorem c_P_drop_no {N : Nat} (σ : Hp) (hI : KI σ N 0) : Ct m_P_drop [.ref 0] σ (Rt (.int (-1)) σ) := by
  show WP m_P_drop 0 [.ref 0] [] σ _
  refine wp_aload_n d_P_drop_0 rfl ?_
  refine wp_getA d_P_drop_1 fl_P_10 rfl rfl rfl ?_
  refine wp_getI d_P_drop_4 fl_P_85 rfl rfl (by decide) ?_
  refine wp_iconst (v := 1) d_P_drop_7 (by decide) ?_
  refine wp_icmp_ge (tgt := 13) d_P_drop_8 (by decide) (fun hc => ?_) (fun hc => ?_)
  · rw [hI.2.2.2.1] at hc
    exact absurd hc (by decide)
  · refine wp_iconst (v := -1) d_P_drop_11 (by decide) ?_
    refine wp_iret d_P_drop_12 rfl ?_
    exact ⟨rfl, rfl⟩
theorem c_P_drop {N L : Nat} (σ : Hp) (hI : KI σ N (L + 1)) : Ct m_P_drop [.ref 0] σ (Rt (.int (nI L)) (drW σ L)) := by
  show WP m_P_drop 0 [.ref 0] [] σ _
  refine wp_aload_n d_P_drop_0 rfl ?_
  refine wp_getA d_P_drop_1 fl_P_10 rfl rfl rfl ?_
  refine wp_getI d_P_drop_4 fl_P_85 rfl rfl (by decide) ?_
  refine wp_iconst (v := 1) d_P_drop_7 (by decide) ?_
  refine wp_icmp_ge (tgt := 13) d_P_drop_8 (by decide) (fun hc => ?_) (fun hc => ?_)
  · refine wp_aload_n d_P_drop_13 rfl ?_
    refine wp_getA d_P_drop_14 fl_P_10 rfl rfl rfl ?_
    refine wp_callV0e d_P_drop_17 cv_P_97 rfl rfl rfl ⟨Nat.le_of_ble_eq_true rfl, Nat.le_of_ble_eq_true rfl⟩ (Nat.le_of_ble_eq_true rfl) (Nat.le_of_ble_eq_true rfl) (c_L_removeLast _ hI.2.2.2.1) ?_
    refine wp_iret d_P_drop_20 rfl ?_
    exact ⟨rfl, rfl⟩
  · rw [hI.2.2.2.1] at hc
    exact absurd (nI_le (a := 1) (b := L + 1) (by omega) (by have := hI.2.2.2.2; omega)) hc
def cnF (σ : Hp) (w : Int32) : Int32 := if w = 0 then σ.1 1 1 else if w = 1 then σ.1 1 2 else if w = 2 then σ.1 48 7 else if w = 3 then σ.1 48 8 else -1
theorem c_P_count (w : Int32) (σ : Hp) : Ct m_P_count [.ref 0, .int w] σ (Rt (.int (cnF σ w)) σ) := by
  show WP m_P_count 0 [.ref 0, .int w] [] σ _
  by_cases h0 : 0 ≤ w ∧ w ≤ nI 3
  · obtain ⟨j, hj, rfl⟩ := wi_nI (by decide) h0
    rcases (show j = 0 ∨ j = 1 ∨ j = 2 ∨ j = 3 by omega) with rfl | rfl | rfl | rfl
    · refine wp_iload_n d_P_count_0 rfl ?_
      refine wp_tabIn (tgt := 32) (off := 31) d_P_count_1 (by decide) (by decide) (by decide) (by decide) ?_
      refine wp_aload_n d_P_count_32 rfl ?_
      refine wp_getA d_P_count_33 fl_P_10 rfl rfl rfl ?_
      refine wp_getI d_P_count_36 fl_P_66 rfl rfl (by decide) ?_
      refine wp_iret d_P_count_39 rfl ?_
      exact ⟨rfl, rfl⟩
    · refine wp_iload_n d_P_count_0 rfl ?_
      refine wp_tabIn (tgt := 40) (off := 39) d_P_count_1 (by decide) (by decide) (by decide) (by decide) ?_
      refine wp_aload_n d_P_count_40 rfl ?_
      refine wp_getA d_P_count_41 fl_P_10 rfl rfl rfl ?_
      refine wp_getI d_P_count_44 fl_P_85 rfl rfl (by decide) ?_
      refine wp_iret d_P_count_47 rfl ?_
      exact ⟨rfl, rfl⟩
    · refine wp_iload_n d_P_count_0 rfl ?_
      refine wp_tabIn (tgt := 48) (off := 47) d_P_count_1 (by decide) (by decide) (by decide) (by decide) ?_
      refine wp_aload_n d_P_count_48 rfl ?_
      refine wp_getA d_P_count_49 fl_P_58 rfl rfl rfl ?_
      refine wp_getI d_P_count_52 fl_P_227 rfl rfl (by decide) ?_
      refine wp_iret d_P_count_55 rfl ?_
      exact ⟨rfl, rfl⟩
    · refine wp_iload_n d_P_count_0 rfl ?_
      refine wp_tabIn (tgt := 56) (off := 55) d_P_count_1 (by decide) (by decide) (by decide) (by decide) ?_
      refine wp_aload_n d_P_count_56 rfl ?_
      refine wp_getA d_P_count_57 fl_P_58 rfl rfl rfl ?_
      refine wp_getI d_P_count_60 fl_P_230 rfl rfl (by decide) ?_
      refine wp_iret d_P_count_63 rfl ?_
      exact ⟨rfl, rfl⟩
  · have n0 : ¬ w = 0 := fun q => h0 (by rw [q]; decide)
    have n1 : ¬ w = 1 := fun q => h0 (by rw [q]; decide)
    have n2 : ¬ w = 2 := fun q => h0 (by rw [q]; decide)
    have n3 : ¬ w = 3 := fun q => h0 (by rw [q]; decide)
    refine wp_iload_n d_P_count_0 rfl ?_
    refine wp_tabOut (tgt := 64) d_P_count_1 ?_ (by decide) ?_
    · rcases Int.lt_or_le w.toInt 0 with q | q
      · exact Or.inl q
      · refine Or.inr ?_
        rcases Int.lt_or_le 3 w.toInt with q2 | q2
        · exact q2
        · exact absurd ⟨Int32.le_iff_toInt_le.mpr q, Int32.le_iff_toInt_le.mpr q2⟩ h0
    · refine wp_iconst (v := -1) d_P_count_64 (by decide) ?_
      refine wp_iret d_P_count_65 rfl ?_
      refine ⟨?_, rfl⟩
      rw [cnF, if_neg n0, if_neg n1, if_neg n2, if_neg n3]
theorem c_P_set_no (w v : Int32) {N L : Nat} (σ : Hp) (hI : KI σ N L) (h : ¬ ((w = 0 ∧ 0 ≤ v ∧ v ≤ nI (N - 1)) ∨ (w = 1 ∧ 0 ≤ v ∧ v ≤ nI (2 ^ N - 1)))) : Ct m_P_set [.ref 0, .int w, .int v] σ (Rt (.int (-1)) σ) := by
  have e9 : σ.1 1 1 - 1 = nI (N - 1) := by
    have := hI.2.1
    rw [hI.1, show N = N - 1 + 1 by omega, nI_pred, show N - 1 + 1 - 1 = N - 1 by omega]
  show WP m_P_set 0 [.ref 0, .int w, .int v] [] σ _
  have bad : WP m_P_set 40 [.ref 0, .int w, .int v] [] σ (Rt (.int (-1)) σ) := by
    refine wp_iconst (v := -1) d_P_set_40 (by decide) ?_
    refine wp_iret d_P_set_41 rfl ?_
    exact ⟨rfl, rfl⟩
  refine wp_iload_n d_P_set_0 rfl ?_
  refine wp_iconst (v := 0) d_P_set_1 (by decide) ?_
  refine wp_iconst (v := 1) d_P_set_2 (by decide) ?_
  refine wp_callS3e d_P_set_3 cs_P_62 ⟨Nat.le_of_ble_eq_true rfl, Nat.le_of_ble_eq_true rfl⟩ (Nat.le_of_ble_eq_true rfl) (Nat.le_of_ble_eq_true rfl) (c_P_within _ _ _ _) ?_
  refine wp_if_eq (tgt := 40) d_P_set_6 (by decide) (fun hc => ?_) (fun hc => ?_)
  · exact bad
  · obtain ⟨j, hj, rfl⟩ := wi_nI (m := 1) (by decide) (bz_n0 hc)
    refine wp_iload_n d_P_set_9 rfl ?_
    refine wp_iconst (v := 0) d_P_set_10 (by decide) ?_
    refine wp_iload_n d_P_set_11 rfl ?_
    refine wp_if_ne (tgt := 27) d_P_set_12 (by decide) (fun hc2 => ?_) (fun hc2 => ?_)
    · refine wp_aload_n d_P_set_27 rfl ?_
      refine wp_getA d_P_set_28 fl_P_10 rfl rfl rfl ?_
      refine wp_callV0e d_P_set_31 cv_P_174 rfl rfl rfl ⟨Nat.le_of_ble_eq_true rfl, Nat.le_of_ble_eq_true rfl⟩ (Nat.le_of_ble_eq_true rfl) (Nat.le_of_ble_eq_true rfl) (c_L_wholeSet _ hI) ?_
      refine wp_callS3e d_P_set_34 cs_P_62 ⟨Nat.le_of_ble_eq_true rfl, Nat.le_of_ble_eq_true rfl⟩ (Nat.le_of_ble_eq_true rfl) (Nat.le_of_ble_eq_true rfl) (c_P_within _ _ _ _) ?_
      refine wp_if_ne (tgt := 42) d_P_set_37 (by decide) (fun hc3 => ?_) (fun hc3 => ?_)
      · have hj1 : j = 1 := by
          rcases (show j = 0 ∨ j = 1 by omega) with q | q
          · rw [q] at hc2; exact absurd rfl hc2
          · exact q
        rw [hj1] at h
        exact absurd (Or.inr ⟨rfl, bz_n0 hc3⟩) h
      · exact bad
    · refine wp_aload_n d_P_set_15 rfl ?_
      refine wp_getA d_P_set_16 fl_P_10 rfl rfl rfl ?_
      refine wp_getI d_P_set_19 fl_P_66 rfl rfl (by decide) ?_
      refine wp_iconst (v := 1) d_P_set_22 (by decide) ?_
      refine wp_isub d_P_set_23 ?_
      refine wp_goto (tgt := 34) d_P_set_24 (by decide) ?_
      rw [e9]
      refine wp_callS3e d_P_set_34 cs_P_62 ⟨Nat.le_of_ble_eq_true rfl, Nat.le_of_ble_eq_true rfl⟩ (Nat.le_of_ble_eq_true rfl) (Nat.le_of_ble_eq_true rfl) (c_P_within _ _ _ _) ?_
      refine wp_if_ne (tgt := 42) d_P_set_37 (by decide) (fun hc3 => ?_) (fun hc3 => ?_)
      · exact absurd (Or.inl ⟨hc2, bz_n0 hc3⟩) h
      · exact bad
theorem c_P_set0 (v : Int32) {N L : Nat} (σ : Hp) (hI : KI σ N L) (h : 0 ≤ v ∧ v ≤ nI (N - 1)) : Ct m_P_set [.ref 0, .int 0, .int v] σ (Rt (.int (σ.1 48 7)) (wI σ 48 7 v)) := by
  have e9 : σ.1 1 1 - 1 = nI (N - 1) := by
    have := hI.2.1
    rw [hI.1, show N = N - 1 + 1 by omega, nI_pred, show N - 1 + 1 - 1 = N - 1 by omega]
  show WP m_P_set 0 [.ref 0, .int 0, .int v] [] σ _
  refine wp_iload_n d_P_set_0 rfl ?_
  refine wp_iconst (v := 0) d_P_set_1 (by decide) ?_
  refine wp_iconst (v := 1) d_P_set_2 (by decide) ?_
  refine wp_callS3e d_P_set_3 cs_P_62 ⟨Nat.le_of_ble_eq_true rfl, Nat.le_of_ble_eq_true rfl⟩ (Nat.le_of_ble_eq_true rfl) (Nat.le_of_ble_eq_true rfl) (c_P_within _ _ _ _) ?_
  refine wp_if_eq (tgt := 40) d_P_set_6 (by decide) (fun hc => ?_) (fun hc => ?_)
  · exact absurd hc (by rw [bz_0]; decide)
  · refine wp_iload_n d_P_set_9 rfl ?_
    refine wp_iconst (v := 0) d_P_set_10 (by decide) ?_
    refine wp_iload_n d_P_set_11 rfl ?_
    refine wp_if_ne (tgt := 27) d_P_set_12 (by decide) (fun hc2 => ?_) (fun hc2 => ?_)
    · exact absurd rfl hc2
    · refine wp_aload_n d_P_set_15 rfl ?_
      refine wp_getA d_P_set_16 fl_P_10 rfl rfl rfl ?_
      refine wp_getI d_P_set_19 fl_P_66 rfl rfl (by decide) ?_
      refine wp_iconst (v := 1) d_P_set_22 (by decide) ?_
      refine wp_isub d_P_set_23 ?_
      refine wp_goto (tgt := 34) d_P_set_24 (by decide) ?_
      rw [e9]
      refine wp_callS3e d_P_set_34 cs_P_62 ⟨Nat.le_of_ble_eq_true rfl, Nat.le_of_ble_eq_true rfl⟩ (Nat.le_of_ble_eq_true rfl) (Nat.le_of_ble_eq_true rfl) (c_P_within _ _ _ _) ?_
      refine wp_if_ne (tgt := 42) d_P_set_37 (by decide) (fun hc3 => ?_) (fun hc3 => ?_)
      · refine wp_iload_n d_P_set_42 rfl ?_
        refine wp_if_ne (tgt := 57) d_P_set_43 (by decide) (fun hc5 => ?_) (fun hc5 => ?_)
        · exact absurd rfl hc5
        · refine wp_aload_n d_P_set_46 rfl ?_
          refine wp_getA d_P_set_47 fl_P_58 rfl rfl rfl ?_
          refine wp_iload_n d_P_set_50 rfl ?_
          refine wp_callV1e d_P_set_51 cv_P_74 rfl rfl rfl ⟨Nat.le_of_ble_eq_true rfl, Nat.le_of_ble_eq_true rfl⟩ (Nat.le_of_ble_eq_true rfl) (Nat.le_of_ble_eq_true rfl) (c_A_changeStart _ _) ?_
          refine wp_goto (tgt := 65) d_P_set_54 (by decide) ?_
          refine wp_iret d_P_set_65 rfl ?_
          exact ⟨rfl, rfl⟩
      · exact absurd h (bz_0.mp hc3)
theorem c_P_set1 (v : Int32) {N L : Nat} (σ : Hp) (hI : KI σ N L) (h : 0 ≤ v ∧ v ≤ nI (2 ^ N - 1)) : Ct m_P_set [.ref 0, .int 1, .int v] σ (Rt (.int (σ.1 48 8)) (wI σ 48 8 v)) := by
  show WP m_P_set 0 [.ref 0, .int 1, .int v] [] σ _
  refine wp_iload_n d_P_set_0 rfl ?_
  refine wp_iconst (v := 0) d_P_set_1 (by decide) ?_
  refine wp_iconst (v := 1) d_P_set_2 (by decide) ?_
  refine wp_callS3e d_P_set_3 cs_P_62 ⟨Nat.le_of_ble_eq_true rfl, Nat.le_of_ble_eq_true rfl⟩ (Nat.le_of_ble_eq_true rfl) (Nat.le_of_ble_eq_true rfl) (c_P_within _ _ _ _) ?_
  refine wp_if_eq (tgt := 40) d_P_set_6 (by decide) (fun hc => ?_) (fun hc => ?_)
  · exact absurd hc (by rw [bz_0]; decide)
  · refine wp_iload_n d_P_set_9 rfl ?_
    refine wp_iconst (v := 0) d_P_set_10 (by decide) ?_
    refine wp_iload_n d_P_set_11 rfl ?_
    refine wp_if_ne (tgt := 27) d_P_set_12 (by decide) (fun hc2 => ?_) (fun hc2 => ?_)
    · refine wp_aload_n d_P_set_27 rfl ?_
      refine wp_getA d_P_set_28 fl_P_10 rfl rfl rfl ?_
      refine wp_callV0e d_P_set_31 cv_P_174 rfl rfl rfl ⟨Nat.le_of_ble_eq_true rfl, Nat.le_of_ble_eq_true rfl⟩ (Nat.le_of_ble_eq_true rfl) (Nat.le_of_ble_eq_true rfl) (c_L_wholeSet _ hI) ?_
      refine wp_callS3e d_P_set_34 cs_P_62 ⟨Nat.le_of_ble_eq_true rfl, Nat.le_of_ble_eq_true rfl⟩ (Nat.le_of_ble_eq_true rfl) (Nat.le_of_ble_eq_true rfl) (c_P_within _ _ _ _) ?_
      refine wp_if_ne (tgt := 42) d_P_set_37 (by decide) (fun hc3 => ?_) (fun hc3 => ?_)
      · refine wp_iload_n d_P_set_42 rfl ?_
        refine wp_if_ne (tgt := 57) d_P_set_43 (by decide) (fun hc5 => ?_) (fun hc5 => ?_)
        · refine wp_aload_n d_P_set_57 rfl ?_
          refine wp_getA d_P_set_58 fl_P_58 rfl rfl rfl ?_
          refine wp_iload_n d_P_set_61 rfl ?_
          refine wp_callV1e d_P_set_62 cv_P_78 rfl rfl rfl ⟨Nat.le_of_ble_eq_true rfl, Nat.le_of_ble_eq_true rfl⟩ (Nat.le_of_ble_eq_true rfl) (Nat.le_of_ble_eq_true rfl) (c_A_changeEnds _ _) ?_
          refine wp_iret d_P_set_65 rfl ?_
          exact ⟨rfl, rfl⟩
        · exact absurd hc5 (by decide)
      · exact absurd h (bz_0.mp hc3)
    · exact absurd hc2 (by decide)

theorem w_P_elements (w : Int32) {N L M : Nat} (σ : Hp) (hI : KI σ N L) (hM : EM σ M) : Ct m_P_elements [.ref 0, .int w] σ (Rp σ) := by
  show WP m_P_elements 0 [.ref 0, .int w] [] σ _
  refine wp_iload_n d_P_elements_0 rfl ?_
  refine wp_iconst (v := 0) d_P_elements_1 (by decide) ?_
  refine wp_iconst (v := 3) d_P_elements_2 (by decide) ?_
  refine wp_callS3e d_P_elements_3 cs_P_62 ⟨Nat.le_of_ble_eq_true rfl, Nat.le_of_ble_eq_true rfl⟩ (Nat.le_of_ble_eq_true rfl) (Nat.le_of_ble_eq_true rfl) (c_P_within _ _ _ _) ?_
  refine wp_if_ne (tgt := 11) d_P_elements_6 (by decide) (fun hc => ?_) (fun hc => ?_)
  · obtain ⟨j, hj, rfl⟩ := wi_nI (m := 3) (by decide) (bz_n0 hc)
    refine wp_aload_n d_P_elements_11 rfl ?_
    refine wp_getA d_P_elements_12 fl_P_21 rfl rfl rfl ?_
    refine wp_callV0 d_P_elements_15 cv_P_100 rfl rfl rfl ⟨Nat.le_of_ble_eq_true rfl, Nat.le_of_ble_eq_true rfl⟩ (Nat.le_of_ble_eq_true rfl) (Nat.le_of_ble_eq_true rfl) (w_E_ready _ hI hM) (fun v τ hv => ?_)
    obtain ⟨hv, hF, M', hM'⟩ := hv
    have hI' := hF.KI (by decide) hI
    have hFp : Fp pS σ τ := hF.up (upS (by decide))
    rcases hv with rfl | rfl
    · show WP m_P_elements 18 _ [.int 0] τ _
      refine wp_if_ne (tgt := 24) d_P_elements_18 (by decide) (fun hc2 => ?_) (fun hc2 => ?_)
      · exact absurd rfl hc2
      · refine wp_bipush (v := -5) d_P_elements_21 (by decide) ?_
        refine wp_iret d_P_elements_23 rfl ?_
        exact ⟨⟨_, rfl⟩, hFp, M', hM'⟩
    · show WP m_P_elements 18 _ [.int 1] τ _
      refine wp_if_ne (tgt := 24) d_P_elements_18 (by decide) (fun hc2 => ?_) (fun hc2 => ?_)
      · rcases (show j = 0 ∨ j = 1 ∨ j = 2 ∨ j = 3 by omega) with rfl | rfl | rfl | rfl
        · refine wp_iload_n d_P_elements_24 rfl ?_
          refine wp_tabIn (tgt := 52) (off := 27) d_P_elements_25 (by decide) (by decide) (by decide) (by decide) ?_
          refine wp_aload_n d_P_elements_52 rfl ?_
          refine wp_getA d_P_elements_53 fl_P_21 rfl rfl rfl ?_
          refine wp_getI d_P_elements_56 fl_P_104 rfl rfl (by decide) ?_
          refine wp_iret d_P_elements_59 rfl ?_
          exact ⟨⟨_, rfl⟩, hFp, M', hM'⟩
        · refine wp_iload_n d_P_elements_24 rfl ?_
          refine wp_tabIn (tgt := 60) (off := 35) d_P_elements_25 (by decide) (by decide) (by decide) (by decide) ?_
          refine wp_aload_n d_P_elements_60 rfl ?_
          refine wp_getA d_P_elements_61 fl_P_21 rfl rfl rfl ?_
          refine wp_callV0e d_P_elements_64 cv_P_105 rfl rfl rfl ⟨Nat.le_of_ble_eq_true rfl, Nat.le_of_ble_eq_true rfl⟩ (Nat.le_of_ble_eq_true rfl) (Nat.le_of_ble_eq_true rfl) (c_E_stillOnes _ hI' hM') ?_
          refine wp_iret d_P_elements_67 rfl ?_
          exact ⟨⟨_, rfl⟩, hFp, M', hM'⟩
        · refine wp_iload_n d_P_elements_24 rfl ?_
          refine wp_tabIn (tgt := 68) (off := 43) d_P_elements_25 (by decide) (by decide) (by decide) (by decide) ?_
          refine wp_aload_n d_P_elements_68 rfl ?_
          refine wp_getA d_P_elements_69 fl_P_21 rfl rfl rfl ?_
          refine wp_callV0e d_P_elements_72 cv_P_108 rfl rfl rfl ⟨Nat.le_of_ble_eq_true rfl, Nat.le_of_ble_eq_true rfl⟩ (Nat.le_of_ble_eq_true rfl) (Nat.le_of_ble_eq_true rfl) (c_E_central _ hI' hM') ?_
          refine wp_iret d_P_elements_75 rfl ?_
          exact ⟨⟨_, rfl⟩, hFp, M', hM'⟩
        · refine wp_iload_n d_P_elements_24 rfl ?_
          refine wp_tabOut (tgt := 76) d_P_elements_25 (by decide) (by decide) ?_
          refine wp_aload_n d_P_elements_76 rfl ?_
          refine wp_getA d_P_elements_77 fl_P_21 rfl rfl rfl ?_
          refine wp_callV0 d_P_elements_80 cv_P_111 rfl rfl rfl ⟨Nat.le_of_ble_eq_true rfl, Nat.le_of_ble_eq_true rfl⟩ (Nat.le_of_ble_eq_true rfl) (Nat.le_of_ble_eq_true rfl) (w_E_greatestRing _ hI' hM') (fun v υ hv => ?_)
          obtain ⟨⟨z, rfl⟩, hF2⟩ := hv
          show WP m_P_elements 83 _ [.int z] υ _
          refine wp_iret d_P_elements_83 rfl ?_
          exact ⟨⟨_, rfl⟩, hFp.tr (hF2.up (upS (by decide))), M', hF2.EM (by decide) hM'⟩
      · exact absurd hc2 (by decide)
  · refine wp_iconst (v := -1) d_P_elements_9 (by decide) ?_
    refine wp_iret d_P_elements_10 rfl ?_
    exact ⟨⟨_, rfl⟩, Fp.rf, M, hM⟩
theorem w_P_element (e w : Int32) {N L M : Nat} (σ : Hp) (hI : KI σ N L) (hM : EM σ M) : Ct m_P_element [.ref 0, .int e, .int w] σ (Rp σ) := by
  show WP m_P_element 0 [.ref 0, .int e, .int w] [] σ _
  refine wp_iload_n d_P_element_0 rfl ?_
  refine wp_iconst (v := 0) d_P_element_1 (by decide) ?_
  refine wp_bipush (v := 7) d_P_element_2 (by decide) ?_
  refine wp_callS3e d_P_element_4 cs_P_62 ⟨Nat.le_of_ble_eq_true rfl, Nat.le_of_ble_eq_true rfl⟩ (Nat.le_of_ble_eq_true rfl) (Nat.le_of_ble_eq_true rfl) (c_P_within _ _ _ _) ?_
  refine wp_if_ne (tgt := 12) d_P_element_7 (by decide) (fun hc => ?_) (fun hc => ?_)
  · obtain ⟨j, hj, rfl⟩ := wi_nI (m := 7) (by decide) (bz_n0 hc)
    refine wp_aload_n d_P_element_12 rfl ?_
    refine wp_getA d_P_element_13 fl_P_21 rfl rfl rfl ?_
    refine wp_callV0 d_P_element_16 cv_P_100 rfl rfl rfl ⟨Nat.le_of_ble_eq_true rfl, Nat.le_of_ble_eq_true rfl⟩ (Nat.le_of_ble_eq_true rfl) (Nat.le_of_ble_eq_true rfl) (w_E_ready _ hI hM) (fun v τ hv => ?_)
    obtain ⟨hv, hF, M', hM'⟩ := hv
    have hI' := hF.KI (by decide) hI
    have hFp : Fp pS σ τ := hF.up (upS (by decide))
    rcases hv with rfl | rfl
    · show WP m_P_element 19 _ [.int 0] τ _
      refine wp_if_ne (tgt := 25) d_P_element_19 (by decide) (fun hc2 => ?_) (fun hc2 => ?_)
      · exact absurd rfl hc2
      · refine wp_bipush (v := -5) d_P_element_22 (by decide) ?_
        refine wp_iret d_P_element_24 rfl ?_
        exact ⟨⟨_, rfl⟩, hFp, M', hM'⟩
    · show WP m_P_element 19 _ [.int 1] τ _
      refine wp_if_ne (tgt := 25) d_P_element_19 (by decide) (fun hc2 => ?_) (fun hc2 => ?_)
      · refine wp_aload_n d_P_element_25 rfl ?_
        refine wp_getA d_P_element_26 fl_P_21 rfl rfl rfl ?_
        refine wp_iload_n d_P_element_29 rfl ?_
        refine wp_callV1e d_P_element_30 cv_P_114 rfl rfl rfl ⟨Nat.le_of_ble_eq_true rfl, Nat.le_of_ble_eq_true rfl⟩ (Nat.le_of_ble_eq_true rfl) (Nat.le_of_ble_eq_true rfl) (c_E_has _ _) ?_
        refine wp_if_eq (tgt := 48) d_P_element_33 (by decide) (fun hc3 => ?_) (fun hc3 => ?_)
        · refine wp_iconst (v := -1) d_P_element_48 (by decide) ?_
          refine wp_iret d_P_element_49 rfl ?_
          exact ⟨⟨_, rfl⟩, hFp, M', hM'⟩
        · refine wp_aload_n d_P_element_36 rfl ?_
          refine wp_getA d_P_element_37 fl_P_21 rfl rfl rfl ?_
          refine wp_iload_n d_P_element_40 rfl ?_
          refine wp_iload_n d_P_element_41 rfl ?_
          refine wp_callV2 d_P_element_42 cv_P_118 rfl rfl rfl ⟨Nat.le_of_ble_eq_true rfl, Nat.le_of_ble_eq_true rfl⟩ (Nat.le_of_ble_eq_true rfl) (Nat.le_of_ble_eq_true rfl) (w_E_tell _ (by omega) _ hI') (fun v υ hv => ?_)
          obtain ⟨⟨z, rfl⟩, hF2⟩ := hv
          show WP m_P_element 45 _ [.int z] υ _
          refine wp_goto (tgt := 49) d_P_element_45 (by decide) ?_
          refine wp_iret d_P_element_49 rfl ?_
          exact ⟨⟨_, rfl⟩, hFp.tr (hF2.up (upS (by decide))), M', hF2.EM (by decide) hM'⟩
      · exact absurd hc2 (by decide)
  · refine wp_iconst (v := -1) d_P_element_10 (by decide) ?_
    refine wp_iret d_P_element_11 rfl ?_
    exact ⟨⟨_, rfl⟩, Fp.rf, M, hM⟩
theorem w_P_word (e i : Int32) {N L M : Nat} (σ : Hp) (hI : KI σ N L) (hM : EM σ M) : Ct m_P_word [.ref 0, .int e, .int i] σ (Rp σ) := by
  show WP m_P_word 0 [.ref 0, .int e, .int i] [] σ _
  refine wp_aload_n d_P_word_0 rfl ?_
  refine wp_getA d_P_word_1 fl_P_21 rfl rfl rfl ?_
  refine wp_callV0 d_P_word_4 cv_P_100 rfl rfl rfl ⟨Nat.le_of_ble_eq_true rfl, Nat.le_of_ble_eq_true rfl⟩ (Nat.le_of_ble_eq_true rfl) (Nat.le_of_ble_eq_true rfl) (w_E_ready _ hI hM) (fun v τ hv => ?_)
  obtain ⟨hv, hF, M', hM'⟩ := hv
  have hI' := hF.KI (by decide) hI
  have hFp : Fp pS σ τ := hF.up (upS (by decide))
  rcases hv with rfl | rfl
  · show WP m_P_word 7 _ [.int 0] τ _
    refine wp_if_ne (tgt := 13) d_P_word_7 (by decide) (fun hc2 => ?_) (fun hc2 => ?_)
    · exact absurd rfl hc2
    · refine wp_bipush (v := -5) d_P_word_10 (by decide) ?_
      refine wp_iret d_P_word_12 rfl ?_
      exact ⟨⟨_, rfl⟩, hFp, M', hM'⟩
  · show WP m_P_word 7 _ [.int 1] τ _
    refine wp_if_ne (tgt := 13) d_P_word_7 (by decide) (fun hc2 => ?_) (fun hc2 => ?_)
    · refine wp_aload_n d_P_word_13 rfl ?_
      refine wp_getA d_P_word_14 fl_P_21 rfl rfl rfl ?_
      refine wp_iload_n d_P_word_17 rfl ?_
      refine wp_callV1e d_P_word_18 cv_P_114 rfl rfl rfl ⟨Nat.le_of_ble_eq_true rfl, Nat.le_of_ble_eq_true rfl⟩ (Nat.le_of_ble_eq_true rfl) (Nat.le_of_ble_eq_true rfl) (c_E_has _ _) ?_
      refine wp_if_eq (tgt := 39) d_P_word_21 (by decide) (fun hc3 => ?_) (fun hc3 => ?_)
      · refine wp_iconst (v := -1) d_P_word_39 (by decide) ?_
        refine wp_iret d_P_word_40 rfl ?_
        exact ⟨⟨_, rfl⟩, hFp, M', hM'⟩
      · refine wp_aload_n d_P_word_24 rfl ?_
        refine wp_getA d_P_word_25 fl_P_21 rfl rfl rfl ?_
        refine wp_getA d_P_word_28 fl_P_121 rfl rfl rfl ?_
        refine wp_iload_n d_P_word_31 rfl ?_
        refine wp_iload_n d_P_word_32 rfl ?_
        refine wp_callV2e d_P_word_33 cv_P_125 rfl rfl rfl ⟨Nat.le_of_ble_eq_true rfl, Nat.le_of_ble_eq_true rfl⟩ (Nat.le_of_ble_eq_true rfl) (Nat.le_of_ble_eq_true rfl) (c_R_letterAt trK_11 _ _ _) ?_
        refine wp_goto (tgt := 40) d_P_word_36 (by decide) ?_
        refine wp_iret d_P_word_40 rfl ?_
        exact ⟨⟨_, rfl⟩, hFp, M', hM'⟩
    · exact absurd hc2 (by decide)
theorem w_P_find (m : Int32) {N L M : Nat} (σ : Hp) (hI : KI σ N L) (hM : EM σ M) : Ct m_P_find [.ref 0, .int m] σ (Rp σ) := by
  show WP m_P_find 0 [.ref 0, .int m] [] σ _
  have h31 := pow_lt hI.2.2.1
  have e9 : nI (N ^ N) - 1 = nI (N ^ N - 1) := by
    have := pow_pos' hI.2.1
    rw [show N ^ N = N ^ N - 1 + 1 by omega, nI_pred, show N ^ N - 1 + 1 - 1 = N ^ N - 1 by omega]
  refine wp_iload_n d_P_find_0 rfl ?_
  refine wp_iconst (v := 0) d_P_find_1 (by decide) ?_
  refine wp_aload_n d_P_find_2 rfl ?_
  refine wp_getA d_P_find_3 fl_P_10 rfl rfl rfl ?_
  refine wp_callV0e d_P_find_6 cv_P_81 rfl rfl rfl ⟨Nat.le_of_ble_eq_true rfl, Nat.le_of_ble_eq_true rfl⟩ (Nat.le_of_ble_eq_true rfl) (Nat.le_of_ble_eq_true rfl) (c_L_mostMaps _ hI) ?_
  refine wp_iconst (v := 1) d_P_find_9 (by decide) ?_
  refine wp_isub d_P_find_10 ?_
  rw [e9]
  refine wp_callS3e d_P_find_11 cs_P_62 ⟨Nat.le_of_ble_eq_true rfl, Nat.le_of_ble_eq_true rfl⟩ (Nat.le_of_ble_eq_true rfl) (Nat.le_of_ble_eq_true rfl) (c_P_within _ _ _ _) ?_
  refine wp_if_ne (tgt := 19) d_P_find_14 (by decide) (fun hc => ?_) (fun hc => ?_)
  · obtain ⟨j, hj, rfl⟩ := wi_nI (by omega) (bz_n0 hc)
    refine wp_aload_n d_P_find_19 rfl ?_
    refine wp_getA d_P_find_20 fl_P_21 rfl rfl rfl ?_
    refine wp_callV0 d_P_find_23 cv_P_100 rfl rfl rfl ⟨Nat.le_of_ble_eq_true rfl, Nat.le_of_ble_eq_true rfl⟩ (Nat.le_of_ble_eq_true rfl) (Nat.le_of_ble_eq_true rfl) (w_E_ready _ hI hM) (fun v τ hv => ?_)
    obtain ⟨hv, hF, M', hM'⟩ := hv
    have hI' := hF.KI (by decide) hI
    have hFp : Fp pS σ τ := hF.up (upS (by decide))
    rcases hv with rfl | rfl
    · show WP m_P_find 26 _ [.int 0] τ _
      refine wp_if_ne (tgt := 32) d_P_find_26 (by decide) (fun hc2 => ?_) (fun hc2 => ?_)
      · exact absurd rfl hc2
      · refine wp_bipush (v := -5) d_P_find_29 (by decide) ?_
        refine wp_iret d_P_find_31 rfl ?_
        exact ⟨⟨_, rfl⟩, hFp, M', hM'⟩
    · show WP m_P_find 26 _ [.int 1] τ _
      refine wp_if_ne (tgt := 32) d_P_find_26 (by decide) (fun hc2 => ?_) (fun hc2 => ?_)
      · refine wp_aload_n d_P_find_32 rfl ?_
        refine wp_getA d_P_find_33 fl_P_21 rfl rfl rfl ?_
        refine wp_iload_n d_P_find_36 rfl ?_
        refine wp_aload_n d_P_find_37 rfl ?_
        refine wp_getA d_P_find_38 fl_P_10 rfl rfl rfl ?_
        refine wp_getI d_P_find_41 fl_P_66 rfl rfl (by decide) ?_
        rw [hI'.1]
        refine wp_callS2e d_P_find_44 cs_P_88 ⟨Nat.le_of_ble_eq_true rfl, Nat.le_of_ble_eq_true rfl⟩ (Nat.le_of_ble_eq_true rfl) (Nat.le_of_ble_eq_true rfl) (c_G_ofNumber (by omega) (by have := hI.2.1; omega) (by have := hI.2.2.1; omega) _) ?_
        refine wp_callV1e d_P_find_47 cv_P_130 rfl rfl rfl ⟨Nat.le_of_ble_eq_true rfl, Nat.le_of_ble_eq_true rfl⟩ (Nat.le_of_ble_eq_true rfl) (Nat.le_of_ble_eq_true rfl) (c_E_numberOf _ _) ?_
        refine wp_iret d_P_find_50 rfl ?_
        exact ⟨⟨_, rfl⟩, hFp, M', hM'⟩
      · exact absurd hc2 (by decide)
  · refine wp_iconst (v := -1) d_P_find_17 (by decide) ?_
    refine wp_iret d_P_find_18 rfl ?_
    exact ⟨⟨_, rfl⟩, Fp.rf, M, hM⟩
theorem w_P_done (a b : Int32) {N L M : Nat} (σ : Hp) (hI : KI σ N L) (hM : EM σ M) : Ct m_P_done [.ref 0, .int a, .int b] σ (Rp σ) := by
  show WP m_P_done 0 [.ref 0, .int a, .int b] [] σ _
  refine wp_aload_n d_P_done_0 rfl ?_
  refine wp_getA d_P_done_1 fl_P_21 rfl rfl rfl ?_
  refine wp_callV0 d_P_done_4 cv_P_100 rfl rfl rfl ⟨Nat.le_of_ble_eq_true rfl, Nat.le_of_ble_eq_true rfl⟩ (Nat.le_of_ble_eq_true rfl) (Nat.le_of_ble_eq_true rfl) (w_E_ready _ hI hM) (fun v τ hv => ?_)
  obtain ⟨hv, hF, M', hM'⟩ := hv
  have hI' := hF.KI (by decide) hI
  have hFp : Fp pS σ τ := hF.up (upS (by decide))
  rcases hv with rfl | rfl
  · show WP m_P_done 7 _ [.int 0] τ _
    refine wp_if_ne (tgt := 13) d_P_done_7 (by decide) (fun hc2 => ?_) (fun hc2 => ?_)
    · exact absurd rfl hc2
    · refine wp_bipush (v := -5) d_P_done_10 (by decide) ?_
      refine wp_iret d_P_done_12 rfl ?_
      exact ⟨⟨_, rfl⟩, hFp, M', hM'⟩
  · show WP m_P_done 7 _ [.int 1] τ _
    refine wp_if_ne (tgt := 13) d_P_done_7 (by decide) (fun hc2 => ?_) (fun hc2 => ?_)
    · refine wp_aload_n d_P_done_13 rfl ?_
      refine wp_getA d_P_done_14 fl_P_21 rfl rfl rfl ?_
      refine wp_iload_n d_P_done_17 rfl ?_
      refine wp_callV1e d_P_done_18 cv_P_114 rfl rfl rfl ⟨Nat.le_of_ble_eq_true rfl, Nat.le_of_ble_eq_true rfl⟩ (Nat.le_of_ble_eq_true rfl) (Nat.le_of_ble_eq_true rfl) (c_E_has _ _) ?_
      refine wp_if_eq (tgt := 54) d_P_done_21 (by decide) (fun hc3 => ?_) (fun hc3 => ?_)
      · refine wp_iconst (v := -1) d_P_done_54 (by decide) ?_
        refine wp_iret d_P_done_55 rfl ?_
        exact ⟨⟨_, rfl⟩, hFp, M', hM'⟩
      · refine wp_aload_n d_P_done_24 rfl ?_
        refine wp_getA d_P_done_25 fl_P_21 rfl rfl rfl ?_
        refine wp_iload_n d_P_done_28 rfl ?_
        refine wp_callV1e d_P_done_29 cv_P_114 rfl rfl rfl ⟨Nat.le_of_ble_eq_true rfl, Nat.le_of_ble_eq_true rfl⟩ (Nat.le_of_ble_eq_true rfl) (Nat.le_of_ble_eq_true rfl) (c_E_has _ _) ?_
        refine wp_if_eq (tgt := 54) d_P_done_32 (by decide) (fun hc5 => ?_) (fun hc5 => ?_)
        · refine wp_iconst (v := -1) d_P_done_54 (by decide) ?_
          refine wp_iret d_P_done_55 rfl ?_
          exact ⟨⟨_, rfl⟩, hFp, M', hM'⟩
        · refine wp_aload_n d_P_done_35 rfl ?_
          refine wp_getA d_P_done_36 fl_P_21 rfl rfl rfl ?_
          refine wp_aload_n d_P_done_39 rfl ?_
          refine wp_getA d_P_done_40 fl_P_21 rfl rfl rfl ?_
          refine wp_iload_n d_P_done_43 rfl ?_
          refine wp_iload_n d_P_done_44 rfl ?_
          refine wp_callV2e d_P_done_45 cv_P_133 rfl rfl rfl ⟨Nat.le_of_ble_eq_true rfl, Nat.le_of_ble_eq_true rfl⟩ (Nat.le_of_ble_eq_true rfl) (Nat.le_of_ble_eq_true rfl) (c_E_product _ _ _ hI') ?_
          refine wp_callV1e d_P_done_48 cv_P_130 rfl rfl rfl ⟨Nat.le_of_ble_eq_true rfl, Nat.le_of_ble_eq_true rfl⟩ (Nat.le_of_ble_eq_true rfl) (Nat.le_of_ble_eq_true rfl) (c_E_numberOf _ _) ?_
          refine wp_goto (tgt := 55) d_P_done_51 (by decide) ?_
          refine wp_iret d_P_done_55 rfl ?_
          exact ⟨⟨_, rfl⟩, hFp, M', hM'⟩
    · exact absurd hc2 (by decide)
theorem w_P_boxes (w : Int32) {N L M : Nat} (σ : Hp) (hI : KI σ N L) (hM : EM σ M) : Ct m_P_boxes [.ref 0, .int w] σ (Rp σ) := by
  show WP m_P_boxes 0 [.ref 0, .int w] [] σ _
  refine wp_iload_n d_P_boxes_0 rfl ?_
  refine wp_iconst (v := 0) d_P_boxes_1 (by decide) ?_
  refine wp_bipush (v := 7) d_P_boxes_2 (by decide) ?_
  refine wp_callS3e d_P_boxes_4 cs_P_62 ⟨Nat.le_of_ble_eq_true rfl, Nat.le_of_ble_eq_true rfl⟩ (Nat.le_of_ble_eq_true rfl) (Nat.le_of_ble_eq_true rfl) (c_P_within _ _ _ _) ?_
  refine wp_if_ne (tgt := 12) d_P_boxes_7 (by decide) (fun hc => ?_) (fun hc => ?_)
  · obtain ⟨j, hj, rfl⟩ := wi_nI (m := 7) (by decide) (bz_n0 hc)
    refine wp_aload_n d_P_boxes_12 rfl ?_
    refine wp_getA d_P_boxes_13 fl_P_30 rfl rfl rfl ?_
    refine wp_callV0 d_P_boxes_16 cv_P_136 rfl rfl rfl ⟨Nat.le_of_ble_eq_true rfl, Nat.le_of_ble_eq_true rfl⟩ (Nat.le_of_ble_eq_true rfl) (Nat.le_of_ble_eq_true rfl) (w_B_ready _ hI hM) (fun v τ hv => ?_)
    obtain ⟨hv, hF, M', hM'⟩ := hv
    have hI' := hF.KI (by decide) hI
    have hFp : Fp pS σ τ := hF.up (upS (by decide))
    rcases hv with rfl | rfl
    · show WP m_P_boxes 19 _ [.int 0] τ _
      refine wp_if_ne (tgt := 25) d_P_boxes_19 (by decide) (fun hc2 => ?_) (fun hc2 => ?_)
      · exact absurd rfl hc2
      · refine wp_bipush (v := -5) d_P_boxes_22 (by decide) ?_
        refine wp_iret d_P_boxes_24 rfl ?_
        exact ⟨⟨_, rfl⟩, hFp, M', hM'⟩
    · show WP m_P_boxes 19 _ [.int 1] τ _
      refine wp_if_ne (tgt := 25) d_P_boxes_19 (by decide) (fun hc2 => ?_) (fun hc2 => ?_)
      · rcases (show j = 0 ∨ j = 1 ∨ j = 2 ∨ j = 3 ∨ j = 4 ∨ j = 5 ∨ j = 6 ∨ j = 7 by omega) with rfl | rfl | rfl | rfl | rfl | rfl | rfl | rfl
        · refine wp_iload_n d_P_boxes_25 rfl ?_
          refine wp_tabOut (tgt := 95) d_P_boxes_26 (by decide) (by decide) ?_
          refine wp_aload_n d_P_boxes_95 rfl ?_
          refine wp_getA d_P_boxes_96 fl_P_30 rfl rfl rfl ?_
          refine wp_iload_n d_P_boxes_99 rfl ?_
          refine wp_callV1e d_P_boxes_100 cv_P_146 rfl rfl rfl ⟨Nat.le_of_ble_eq_true rfl, Nat.le_of_ble_eq_true rfl⟩ (Nat.le_of_ble_eq_true rfl) (Nat.le_of_ble_eq_true rfl) (c_B_howMany _ _) ?_
          refine wp_iret d_P_boxes_103 rfl ?_
          exact ⟨⟨_, rfl⟩, hFp, M', hM'⟩
        · refine wp_iload_n d_P_boxes_25 rfl ?_
          refine wp_tabOut (tgt := 95) d_P_boxes_26 (by decide) (by decide) ?_
          refine wp_aload_n d_P_boxes_95 rfl ?_
          refine wp_getA d_P_boxes_96 fl_P_30 rfl rfl rfl ?_
          refine wp_iload_n d_P_boxes_99 rfl ?_
          refine wp_callV1e d_P_boxes_100 cv_P_146 rfl rfl rfl ⟨Nat.le_of_ble_eq_true rfl, Nat.le_of_ble_eq_true rfl⟩ (Nat.le_of_ble_eq_true rfl) (Nat.le_of_ble_eq_true rfl) (c_B_howMany _ _) ?_
          refine wp_iret d_P_boxes_103 rfl ?_
          exact ⟨⟨_, rfl⟩, hFp, M', hM'⟩
        · refine wp_iload_n d_P_boxes_25 rfl ?_
          refine wp_tabOut (tgt := 95) d_P_boxes_26 (by decide) (by decide) ?_
          refine wp_aload_n d_P_boxes_95 rfl ?_
          refine wp_getA d_P_boxes_96 fl_P_30 rfl rfl rfl ?_
          refine wp_iload_n d_P_boxes_99 rfl ?_
          refine wp_callV1e d_P_boxes_100 cv_P_146 rfl rfl rfl ⟨Nat.le_of_ble_eq_true rfl, Nat.le_of_ble_eq_true rfl⟩ (Nat.le_of_ble_eq_true rfl) (Nat.le_of_ble_eq_true rfl) (c_B_howMany _ _) ?_
          refine wp_iret d_P_boxes_103 rfl ?_
          exact ⟨⟨_, rfl⟩, hFp, M', hM'⟩
        · refine wp_iload_n d_P_boxes_25 rfl ?_
          refine wp_tabOut (tgt := 95) d_P_boxes_26 (by decide) (by decide) ?_
          refine wp_aload_n d_P_boxes_95 rfl ?_
          refine wp_getA d_P_boxes_96 fl_P_30 rfl rfl rfl ?_
          refine wp_iload_n d_P_boxes_99 rfl ?_
          refine wp_callV1e d_P_boxes_100 cv_P_146 rfl rfl rfl ⟨Nat.le_of_ble_eq_true rfl, Nat.le_of_ble_eq_true rfl⟩ (Nat.le_of_ble_eq_true rfl) (Nat.le_of_ble_eq_true rfl) (c_B_howMany _ _) ?_
          refine wp_iret d_P_boxes_103 rfl ?_
          exact ⟨⟨_, rfl⟩, hFp, M', hM'⟩
        · refine wp_iload_n d_P_boxes_25 rfl ?_
          refine wp_tabIn (tgt := 56) (off := 30) d_P_boxes_26 (by decide) (by decide) (by decide) (by decide) ?_
          refine wp_aload_n d_P_boxes_56 rfl ?_
          refine wp_getA d_P_boxes_57 fl_P_30 rfl rfl rfl ?_
          refine wp_callV0 d_P_boxes_60 cv_P_137 rfl rfl rfl ⟨Nat.le_of_ble_eq_true rfl, Nat.le_of_ble_eq_true rfl⟩ (Nat.le_of_ble_eq_true rfl) (Nat.le_of_ble_eq_true rfl) (w_B_regular _) (fun v υ hv => ?_)
          obtain ⟨⟨z, rfl⟩, rfl⟩ := hv
          show WP m_P_boxes 63 _ [.int z] _ _
          refine wp_iret d_P_boxes_63 rfl ?_
          exact ⟨⟨_, rfl⟩, hFp, M', hM'⟩
        · refine wp_iload_n d_P_boxes_25 rfl ?_
          refine wp_tabIn (tgt := 64) (off := 38) d_P_boxes_26 (by decide) (by decide) (by decide) (by decide) ?_
          refine wp_aload_n d_P_boxes_64 rfl ?_
          refine wp_getA d_P_boxes_65 fl_P_21 rfl rfl rfl ?_
          refine wp_callV0e d_P_boxes_68 cv_P_105 rfl rfl rfl ⟨Nat.le_of_ble_eq_true rfl, Nat.le_of_ble_eq_true rfl⟩ (Nat.le_of_ble_eq_true rfl) (Nat.le_of_ble_eq_true rfl) (c_E_stillOnes _ hI' hM') ?_
          refine wp_iret d_P_boxes_71 rfl ?_
          exact ⟨⟨_, rfl⟩, hFp, M', hM'⟩
        · refine wp_iload_n d_P_boxes_25 rfl ?_
          refine wp_tabIn (tgt := 72) (off := 46) d_P_boxes_26 (by decide) (by decide) (by decide) (by decide) ?_
          refine wp_aload_n d_P_boxes_72 rfl ?_
          refine wp_getA d_P_boxes_73 fl_P_30 rfl rfl rfl ?_
          refine wp_callV0 d_P_boxes_76 cv_P_140 rfl rfl rfl ⟨Nat.le_of_ble_eq_true rfl, Nat.le_of_ble_eq_true rfl⟩ (Nat.le_of_ble_eq_true rfl) (Nat.le_of_ble_eq_true rfl) (w_B_leastBox _) (fun v υ hv => ?_)
          obtain ⟨⟨z, rfl⟩, rfl⟩ := hv
          show WP m_P_boxes 79 _ [.int z] _ _
          refine wp_iret d_P_boxes_79 rfl ?_
          exact ⟨⟨_, rfl⟩, hFp, M', hM'⟩
        · refine wp_iload_n d_P_boxes_25 rfl ?_
          refine wp_tabIn (tgt := 80) (off := 54) d_P_boxes_26 (by decide) (by decide) (by decide) (by decide) ?_
          refine wp_aload_n d_P_boxes_80 rfl ?_
          refine wp_getA d_P_boxes_81 fl_P_30 rfl rfl rfl ?_
          refine wp_aload_n d_P_boxes_84 rfl ?_
          refine wp_getA d_P_boxes_85 fl_P_30 rfl rfl rfl ?_
          refine wp_callV0 d_P_boxes_88 cv_P_140 rfl rfl rfl ⟨Nat.le_of_ble_eq_true rfl, Nat.le_of_ble_eq_true rfl⟩ (Nat.le_of_ble_eq_true rfl) (Nat.le_of_ble_eq_true rfl) (w_B_leastBox _) (fun v υ hv => ?_)
          obtain ⟨⟨z, rfl⟩, rfl⟩ := hv
          show WP m_P_boxes 91 _ [.int z, .ref 15] _ _
          refine wp_callV1e d_P_boxes_91 cv_P_143 rfl rfl rfl ⟨Nat.le_of_ble_eq_true rfl, Nat.le_of_ble_eq_true rfl⟩ (Nat.le_of_ble_eq_true rfl) (Nat.le_of_ble_eq_true rfl) (c_B_size _ _) ?_
          refine wp_iret d_P_boxes_94 rfl ?_
          exact ⟨⟨_, rfl⟩, hFp, M', hM'⟩
      · exact absurd hc2 (by decide)
  · refine wp_iconst (v := -1) d_P_boxes_10 (by decide) ?_
    refine wp_iret d_P_boxes_11 rfl ?_
    exact ⟨⟨_, rfl⟩, Fp.rf, M, hM⟩
theorem w_P_box (e w : Int32) {N L M : Nat} (σ : Hp) (hI : KI σ N L) (hM : EM σ M) : Ct m_P_box [.ref 0, .int e, .int w] σ (Rp σ) := by
  show WP m_P_box 0 [.ref 0, .int e, .int w] [] σ _
  refine wp_iload_n d_P_box_0 rfl ?_
  refine wp_iconst (v := 0) d_P_box_1 (by decide) ?_
  refine wp_iconst (v := 3) d_P_box_2 (by decide) ?_
  refine wp_callS3e d_P_box_3 cs_P_62 ⟨Nat.le_of_ble_eq_true rfl, Nat.le_of_ble_eq_true rfl⟩ (Nat.le_of_ble_eq_true rfl) (Nat.le_of_ble_eq_true rfl) (c_P_within _ _ _ _) ?_
  refine wp_if_ne (tgt := 11) d_P_box_6 (by decide) (fun hc => ?_) (fun hc => ?_)
  · refine wp_aload_n d_P_box_11 rfl ?_
    refine wp_getA d_P_box_12 fl_P_30 rfl rfl rfl ?_
    refine wp_callV0 d_P_box_15 cv_P_136 rfl rfl rfl ⟨Nat.le_of_ble_eq_true rfl, Nat.le_of_ble_eq_true rfl⟩ (Nat.le_of_ble_eq_true rfl) (Nat.le_of_ble_eq_true rfl) (w_B_ready _ hI hM) (fun v τ hv => ?_)
    obtain ⟨hv, hF, M', hM'⟩ := hv
    have hI' := hF.KI (by decide) hI
    have hFp : Fp pS σ τ := hF.up (upS (by decide))
    rcases hv with rfl | rfl
    · show WP m_P_box 18 _ [.int 0] τ _
      refine wp_if_ne (tgt := 24) d_P_box_18 (by decide) (fun hc2 => ?_) (fun hc2 => ?_)
      · exact absurd rfl hc2
      · refine wp_bipush (v := -5) d_P_box_21 (by decide) ?_
        refine wp_iret d_P_box_23 rfl ?_
        exact ⟨⟨_, rfl⟩, hFp, M', hM'⟩
    · show WP m_P_box 18 _ [.int 1] τ _
      refine wp_if_ne (tgt := 24) d_P_box_18 (by decide) (fun hc2 => ?_) (fun hc2 => ?_)
      · refine wp_aload_n d_P_box_24 rfl ?_
        refine wp_getA d_P_box_25 fl_P_21 rfl rfl rfl ?_
        refine wp_iload_n d_P_box_28 rfl ?_
        refine wp_callV1e d_P_box_29 cv_P_114 rfl rfl rfl ⟨Nat.le_of_ble_eq_true rfl, Nat.le_of_ble_eq_true rfl⟩ (Nat.le_of_ble_eq_true rfl) (Nat.le_of_ble_eq_true rfl) (c_E_has _ _) ?_
        refine wp_if_eq (tgt := 47) d_P_box_32 (by decide) (fun hc3 => ?_) (fun hc3 => ?_)
        · refine wp_iconst (v := -1) d_P_box_47 (by decide) ?_
          refine wp_iret d_P_box_48 rfl ?_
          exact ⟨⟨_, rfl⟩, hFp, M', hM'⟩
        · refine wp_aload_n d_P_box_35 rfl ?_
          refine wp_getA d_P_box_36 fl_P_30 rfl rfl rfl ?_
          refine wp_iload_n d_P_box_39 rfl ?_
          refine wp_iload_n d_P_box_40 rfl ?_
          refine wp_callV2e d_P_box_41 cv_P_149 rfl rfl rfl ⟨Nat.le_of_ble_eq_true rfl, Nat.le_of_ble_eq_true rfl⟩ (Nat.le_of_ble_eq_true rfl) (Nat.le_of_ble_eq_true rfl) (c_B_numberOf _ _ _) ?_
          refine wp_goto (tgt := 48) d_P_box_44 (by decide) ?_
          refine wp_iret d_P_box_48 rfl ?_
          exact ⟨⟨_, rfl⟩, hFp, M', hM'⟩
      · exact absurd hc2 (by decide)
  · refine wp_iconst (v := -1) d_P_box_9 (by decide) ?_
    refine wp_iret d_P_box_10 rfl ?_
    exact ⟨⟨_, rfl⟩, Fp.rf, M, hM⟩
theorem w_P_about (i w : Int32) {N L M : Nat} (σ : Hp) (hI : KI σ N L) (hM : EM σ M) : Ct m_P_about [.ref 0, .int i, .int w] σ (Rp σ) := by
  show WP m_P_about 0 [.ref 0, .int i, .int w] [] σ _
  refine wp_iload_n d_P_about_0 rfl ?_
  refine wp_iconst (v := 0) d_P_about_1 (by decide) ?_
  refine wp_bipush (v := 7) d_P_about_2 (by decide) ?_
  refine wp_callS3e d_P_about_4 cs_P_62 ⟨Nat.le_of_ble_eq_true rfl, Nat.le_of_ble_eq_true rfl⟩ (Nat.le_of_ble_eq_true rfl) (Nat.le_of_ble_eq_true rfl) (c_P_within _ _ _ _) ?_
  refine wp_if_ne (tgt := 12) d_P_about_7 (by decide) (fun hc => ?_) (fun hc => ?_)
  · obtain ⟨j, hj, rfl⟩ := wi_nI (m := 7) (by decide) (bz_n0 hc)
    refine wp_aload_n d_P_about_12 rfl ?_
    refine wp_getA d_P_about_13 fl_P_30 rfl rfl rfl ?_
    refine wp_callV0 d_P_about_16 cv_P_136 rfl rfl rfl ⟨Nat.le_of_ble_eq_true rfl, Nat.le_of_ble_eq_true rfl⟩ (Nat.le_of_ble_eq_true rfl) (Nat.le_of_ble_eq_true rfl) (w_B_ready _ hI hM) (fun v τ hv => ?_)
    obtain ⟨hv, hF, M', hM'⟩ := hv
    have hI' := hF.KI (by decide) hI
    have hFp : Fp pS σ τ := hF.up (upS (by decide))
    rcases hv with rfl | rfl
    · show WP m_P_about 19 _ [.int 0] τ _
      refine wp_if_ne (tgt := 25) d_P_about_19 (by decide) (fun hc2 => ?_) (fun hc2 => ?_)
      · exact absurd rfl hc2
      · refine wp_bipush (v := -5) d_P_about_22 (by decide) ?_
        refine wp_iret d_P_about_24 rfl ?_
        exact ⟨⟨_, rfl⟩, hFp, M', hM'⟩
    · show WP m_P_about 19 _ [.int 1] τ _
      refine wp_if_ne (tgt := 25) d_P_about_19 (by decide) (fun hc2 => ?_) (fun hc2 => ?_)
      · refine wp_aload_n d_P_about_25 rfl ?_
        refine wp_getA d_P_about_26 fl_P_30 rfl rfl rfl ?_
        refine wp_iload_n d_P_about_29 rfl ?_
        refine wp_callV1e d_P_about_30 cv_P_151 rfl rfl rfl ⟨Nat.le_of_ble_eq_true rfl, Nat.le_of_ble_eq_true rfl⟩ (Nat.le_of_ble_eq_true rfl) (Nat.le_of_ble_eq_true rfl) (c_B_has _ _) ?_
        refine wp_if_eq (tgt := 48) d_P_about_33 (by decide) (fun hc3 => ?_) (fun hc3 => ?_)
        · refine wp_iconst (v := -1) d_P_about_48 (by decide) ?_
          refine wp_iret d_P_about_49 rfl ?_
          exact ⟨⟨_, rfl⟩, hFp, M', hM'⟩
        · refine wp_aload_n d_P_about_36 rfl ?_
          refine wp_getA d_P_about_37 fl_P_30 rfl rfl rfl ?_
          refine wp_iload_n d_P_about_40 rfl ?_
          refine wp_iload_n d_P_about_41 rfl ?_
          refine wp_callV2 d_P_about_42 cv_P_152 rfl rfl rfl ⟨Nat.le_of_ble_eq_true rfl, Nat.le_of_ble_eq_true rfl⟩ (Nat.le_of_ble_eq_true rfl) (Nat.le_of_ble_eq_true rfl) (w_B_tell _ (by omega) _ hI') (fun v υ hv => ?_)
          obtain ⟨⟨z, rfl⟩, rfl⟩ := hv
          show WP m_P_about 45 _ [.int z] _ _
          refine wp_goto (tgt := 49) d_P_about_45 (by decide) ?_
          refine wp_iret d_P_about_49 rfl ?_
          exact ⟨⟨_, rfl⟩, hFp, M', hM'⟩
      · exact absurd hc2 (by decide)
  · refine wp_iconst (v := -1) d_P_about_10 (by decide) ?_
    refine wp_iret d_P_about_11 rfl ?_
    exact ⟨⟨_, rfl⟩, Fp.rf, M, hM⟩
theorem w_P_below (i j : Int32) {N L M : Nat} (σ : Hp) (hI : KI σ N L) (hM : EM σ M) : Ct m_P_below [.ref 0, .int i, .int j] σ (Rp σ) := by
  show WP m_P_below 0 [.ref 0, .int i, .int j] [] σ _
  refine wp_aload_n d_P_below_0 rfl ?_
  refine wp_getA d_P_below_1 fl_P_30 rfl rfl rfl ?_
  refine wp_callV0 d_P_below_4 cv_P_136 rfl rfl rfl ⟨Nat.le_of_ble_eq_true rfl, Nat.le_of_ble_eq_true rfl⟩ (Nat.le_of_ble_eq_true rfl) (Nat.le_of_ble_eq_true rfl) (w_B_ready _ hI hM) (fun v τ hv => ?_)
  obtain ⟨hv, hF, M', hM'⟩ := hv
  have hI' := hF.KI (by decide) hI
  have hFp : Fp pS σ τ := hF.up (upS (by decide))
  rcases hv with rfl | rfl
  · show WP m_P_below 7 _ [.int 0] τ _
    refine wp_if_ne (tgt := 13) d_P_below_7 (by decide) (fun hc2 => ?_) (fun hc2 => ?_)
    · exact absurd rfl hc2
    · refine wp_bipush (v := -5) d_P_below_10 (by decide) ?_
      refine wp_iret d_P_below_12 rfl ?_
      exact ⟨⟨_, rfl⟩, hFp, M', hM'⟩
  · show WP m_P_below 7 _ [.int 1] τ _
    refine wp_if_ne (tgt := 13) d_P_below_7 (by decide) (fun hc2 => ?_) (fun hc2 => ?_)
    · refine wp_aload_n d_P_below_13 rfl ?_
      refine wp_getA d_P_below_14 fl_P_30 rfl rfl rfl ?_
      refine wp_iload_n d_P_below_17 rfl ?_
      refine wp_callV1e d_P_below_18 cv_P_151 rfl rfl rfl ⟨Nat.le_of_ble_eq_true rfl, Nat.le_of_ble_eq_true rfl⟩ (Nat.le_of_ble_eq_true rfl) (Nat.le_of_ble_eq_true rfl) (c_B_has _ _) ?_
      refine wp_if_eq (tgt := 35) d_P_below_21 (by decide) (fun hc3 => ?_) (fun hc3 => ?_)
      · refine wp_iconst (v := -1) d_P_below_35 (by decide) ?_
        refine wp_iret d_P_below_36 rfl ?_
        exact ⟨⟨_, rfl⟩, hFp, M', hM'⟩
      · refine wp_aload_n d_P_below_24 rfl ?_
        refine wp_getA d_P_below_25 fl_P_30 rfl rfl rfl ?_
        refine wp_iload_n d_P_below_28 rfl ?_
        refine wp_callV1e d_P_below_29 cv_P_151 rfl rfl rfl ⟨Nat.le_of_ble_eq_true rfl, Nat.le_of_ble_eq_true rfl⟩ (Nat.le_of_ble_eq_true rfl) (Nat.le_of_ble_eq_true rfl) (c_B_has _ _) ?_
        refine wp_if_ne (tgt := 37) d_P_below_32 (by decide) (fun hc5 => ?_) (fun hc5 => ?_)
        · refine wp_aload_n d_P_below_37 rfl ?_
          refine wp_getA d_P_below_38 fl_P_30 rfl rfl rfl ?_
          refine wp_iload_n d_P_below_41 rfl ?_
          refine wp_iload_n d_P_below_42 rfl ?_
          refine wp_callV2 d_P_below_43 cv_P_153 rfl rfl rfl ⟨Nat.le_of_ble_eq_true rfl, Nat.le_of_ble_eq_true rfl⟩ (Nat.le_of_ble_eq_true rfl) (Nat.le_of_ble_eq_true rfl) (w_B_isBelow _ _ _ hI') (fun v υ hv => ?_)
          obtain ⟨hv, hF2⟩ := hv
          rcases hv with rfl | rfl
          · show WP m_P_below 46 _ [.int (bz False)] υ _
            refine wp_callS1e d_P_below_46 cs_P_157 ⟨Nat.le_of_ble_eq_true rfl, Nat.le_of_ble_eq_true rfl⟩ (Nat.le_of_ble_eq_true rfl) (Nat.le_of_ble_eq_true rfl) (c_P_oneIf _ _) ?_
            refine wp_iret d_P_below_49 rfl ?_
            exact ⟨⟨_, rfl⟩, hFp.tr (hF2.1.up (upS (by decide))), M', hF2.EM hM'⟩
          · show WP m_P_below 46 _ [.int (bz True)] υ _
            refine wp_callS1e d_P_below_46 cs_P_157 ⟨Nat.le_of_ble_eq_true rfl, Nat.le_of_ble_eq_true rfl⟩ (Nat.le_of_ble_eq_true rfl) (Nat.le_of_ble_eq_true rfl) (c_P_oneIf _ _) ?_
            refine wp_iret d_P_below_49 rfl ?_
            exact ⟨⟨_, rfl⟩, hFp.tr (hF2.1.up (upS (by decide))), M', hF2.EM hM'⟩
        · refine wp_iconst (v := -1) d_P_below_35 (by decide) ?_
          refine wp_iret d_P_below_36 rfl ?_
          exact ⟨⟨_, rfl⟩, hFp, M', hM'⟩
    · exact absurd hc2 (by decide)
theorem w_P_ideal (e : Int32) {N L M : Nat} (σ : Hp) (hI : KI σ N L) (hM : EM σ M) : Ct m_P_ideal [.ref 0, .int e] σ (Rp σ) := by
  show WP m_P_ideal 0 [.ref 0, .int e] [] σ _
  refine wp_aload_n d_P_ideal_0 rfl ?_
  refine wp_getA d_P_ideal_1 fl_P_30 rfl rfl rfl ?_
  refine wp_callV0 d_P_ideal_4 cv_P_136 rfl rfl rfl ⟨Nat.le_of_ble_eq_true rfl, Nat.le_of_ble_eq_true rfl⟩ (Nat.le_of_ble_eq_true rfl) (Nat.le_of_ble_eq_true rfl) (w_B_ready _ hI hM) (fun v τ hv => ?_)
  obtain ⟨hv, hF, M', hM'⟩ := hv
  have hI' := hF.KI (by decide) hI
  have hFp : Fp pS σ τ := hF.up (upS (by decide))
  rcases hv with rfl | rfl
  · show WP m_P_ideal 7 _ [.int 0] τ _
    refine wp_if_ne (tgt := 13) d_P_ideal_7 (by decide) (fun hc2 => ?_) (fun hc2 => ?_)
    · exact absurd rfl hc2
    · refine wp_bipush (v := -5) d_P_ideal_10 (by decide) ?_
      refine wp_iret d_P_ideal_12 rfl ?_
      exact ⟨⟨_, rfl⟩, hFp, M', hM'⟩
  · show WP m_P_ideal 7 _ [.int 1] τ _
    refine wp_if_ne (tgt := 13) d_P_ideal_7 (by decide) (fun hc2 => ?_) (fun hc2 => ?_)
    · refine wp_aload_n d_P_ideal_13 rfl ?_
      refine wp_getA d_P_ideal_14 fl_P_21 rfl rfl rfl ?_
      refine wp_iload_n d_P_ideal_17 rfl ?_
      refine wp_callV1e d_P_ideal_18 cv_P_114 rfl rfl rfl ⟨Nat.le_of_ble_eq_true rfl, Nat.le_of_ble_eq_true rfl⟩ (Nat.le_of_ble_eq_true rfl) (Nat.le_of_ble_eq_true rfl) (c_E_has _ _) ?_
      refine wp_if_eq (tgt := 35) d_P_ideal_21 (by decide) (fun hc3 => ?_) (fun hc3 => ?_)
      · refine wp_iconst (v := -1) d_P_ideal_35 (by decide) ?_
        refine wp_iret d_P_ideal_36 rfl ?_
        exact ⟨⟨_, rfl⟩, hFp, M', hM'⟩
      · refine wp_aload_n d_P_ideal_24 rfl ?_
        refine wp_getA d_P_ideal_25 fl_P_30 rfl rfl rfl ?_
        refine wp_iload_n d_P_ideal_28 rfl ?_
        refine wp_callV1 d_P_ideal_29 cv_P_161 rfl rfl rfl ⟨Nat.le_of_ble_eq_true rfl, Nat.le_of_ble_eq_true rfl⟩ (Nat.le_of_ble_eq_true rfl) (Nat.le_of_ble_eq_true rfl) (w_B_reach _ _ hI') (fun v υ hv => ?_)
        obtain ⟨⟨z, rfl⟩, hF2⟩ := hv
        show WP m_P_ideal 32 _ [.int z] υ _
        refine wp_goto (tgt := 36) d_P_ideal_32 (by decide) ?_
        refine wp_iret d_P_ideal_36 rfl ?_
        exact ⟨⟨_, rfl⟩, hFp.tr (hF2.1.up (upS (by decide))), M', hF2.EM hM'⟩
    · exact absurd hc2 (by decide)
theorem w_P_sort (w : Int32) {N L M : Nat} (σ : Hp) (hI : KI σ N L) (hM : EM σ M) : Ct m_P_sort [.ref 0, .int w] σ (Rp σ) := by
  show WP m_P_sort 0 [.ref 0, .int w] [] σ _
  refine wp_iload_n d_P_sort_0 rfl ?_
  refine wp_iconst (v := 0) d_P_sort_1 (by decide) ?_
  refine wp_bipush (v := 6) d_P_sort_2 (by decide) ?_
  refine wp_callS3e d_P_sort_4 cs_P_62 ⟨Nat.le_of_ble_eq_true rfl, Nat.le_of_ble_eq_true rfl⟩ (Nat.le_of_ble_eq_true rfl) (Nat.le_of_ble_eq_true rfl) (c_P_within _ _ _ _) ?_
  refine wp_if_ne (tgt := 12) d_P_sort_7 (by decide) (fun hc => ?_) (fun hc => ?_)
  · obtain ⟨j, hj, rfl⟩ := wi_nI (m := 6) (by decide) (bz_n0 hc)
    refine wp_aload_n d_P_sort_12 rfl ?_
    refine wp_getA d_P_sort_13 fl_P_30 rfl rfl rfl ?_
    refine wp_callV0 d_P_sort_16 cv_P_136 rfl rfl rfl ⟨Nat.le_of_ble_eq_true rfl, Nat.le_of_ble_eq_true rfl⟩ (Nat.le_of_ble_eq_true rfl) (Nat.le_of_ble_eq_true rfl) (w_B_ready _ hI hM) (fun v τ hv => ?_)
    obtain ⟨hv, hF, M', hM'⟩ := hv
    have hI' := hF.KI (by decide) hI
    have hFp : Fp pS σ τ := hF.up (upS (by decide))
    rcases hv with rfl | rfl
    · show WP m_P_sort 19 _ [.int 0] τ _
      refine wp_if_ne (tgt := 25) d_P_sort_19 (by decide) (fun hc2 => ?_) (fun hc2 => ?_)
      · exact absurd rfl hc2
      · refine wp_bipush (v := -5) d_P_sort_22 (by decide) ?_
        refine wp_iret d_P_sort_24 rfl ?_
        exact ⟨⟨_, rfl⟩, hFp, M', hM'⟩
    · show WP m_P_sort 19 _ [.int 1] τ _
      refine wp_if_ne (tgt := 25) d_P_sort_19 (by decide) (fun hc2 => ?_) (fun hc2 => ?_)
      · rcases (show j = 0 ∨ j = 1 ∨ j = 2 ∨ j = 3 ∨ j = 4 ∨ j = 5 ∨ j = 6 by omega) with rfl | rfl | rfl | rfl | rfl | rfl | rfl
        · refine wp_iload_n d_P_sort_25 rfl ?_
          refine wp_tabIn (tgt := 68) (off := 42) d_P_sort_26 (by decide) (by decide) (by decide) (by decide) ?_
          refine wp_aload_n d_P_sort_68 rfl ?_
          refine wp_getA d_P_sort_69 fl_P_21 rfl rfl rfl ?_
          refine wp_callV0e d_P_sort_72 cv_P_108 rfl rfl rfl ⟨Nat.le_of_ble_eq_true rfl, Nat.le_of_ble_eq_true rfl⟩ (Nat.le_of_ble_eq_true rfl) (Nat.le_of_ble_eq_true rfl) (c_E_central _ hI' hM') ?_
          have fin : ∀ u : Int32, (u = 0 ∨ u = 1) → WP m_P_sort 90 [.ref 0, .int (nI 0)] [.int u] τ (Rp σ) := by
            intro u hu
            have e5 : u = bz (u = 1) := by rcases hu with rfl | rfl <;> decide
            rw [e5]
            refine wp_callS1e d_P_sort_90 cs_P_157 ⟨Nat.le_of_ble_eq_true rfl, Nat.le_of_ble_eq_true rfl⟩ (Nat.le_of_ble_eq_true rfl) (Nat.le_of_ble_eq_true rfl) (c_P_oneIf _ _) ?_
            refine wp_iret d_P_sort_93 rfl ?_
            exact ⟨⟨_, rfl⟩, hFp, M', hM'⟩
          refine wp_aload_n d_P_sort_75 rfl ?_
          refine wp_getA d_P_sort_76 fl_P_21 rfl rfl rfl ?_
          refine wp_getI d_P_sort_79 fl_P_104 rfl rfl (by decide) ?_
          refine wp_icmp_ne (tgt := 89) d_P_sort_82 (by decide) (fun hc3 => ?_) (fun hc3 => ?_)
          · refine wp_iconst (v := 0) d_P_sort_89 (by decide) ?_
            exact fin 0 (Or.inl rfl)
          · refine wp_iconst (v := 1) d_P_sort_85 (by decide) ?_
            refine wp_goto (tgt := 90) d_P_sort_86 (by decide) ?_
            exact fin 1 (Or.inr rfl)
        · refine wp_iload_n d_P_sort_25 rfl ?_
          refine wp_tabIn (tgt := 153) (off := 127) d_P_sort_26 (by decide) (by decide) (by decide) (by decide) ?_
          refine wp_aload_n d_P_sort_153 rfl ?_
          refine wp_getA d_P_sort_154 fl_P_30 rfl rfl rfl ?_
          refine wp_iload_n d_P_sort_157 rfl ?_
          refine wp_callV1e d_P_sort_158 cv_P_146 rfl rfl rfl ⟨Nat.le_of_ble_eq_true rfl, Nat.le_of_ble_eq_true rfl⟩ (Nat.le_of_ble_eq_true rfl) (Nat.le_of_ble_eq_true rfl) (c_B_howMany _ _) ?_
          have fin : ∀ u : Int32, (u = 0 ∨ u = 1) → WP m_P_sort 176 [.ref 0, .int (nI 1)] [.int u] τ (Rp σ) := by
            intro u hu
            have e5 : u = bz (u = 1) := by rcases hu with rfl | rfl <;> decide
            rw [e5]
            refine wp_callS1e d_P_sort_176 cs_P_157 ⟨Nat.le_of_ble_eq_true rfl, Nat.le_of_ble_eq_true rfl⟩ (Nat.le_of_ble_eq_true rfl) (Nat.le_of_ble_eq_true rfl) (c_P_oneIf _ _) ?_
            refine wp_iret d_P_sort_179 rfl ?_
            exact ⟨⟨_, rfl⟩, hFp, M', hM'⟩
          refine wp_aload_n d_P_sort_161 rfl ?_
          refine wp_getA d_P_sort_162 fl_P_21 rfl rfl rfl ?_
          refine wp_getI d_P_sort_165 fl_P_104 rfl rfl (by decide) ?_
          refine wp_icmp_ne (tgt := 175) d_P_sort_168 (by decide) (fun hc3 => ?_) (fun hc3 => ?_)
          · refine wp_iconst (v := 0) d_P_sort_175 (by decide) ?_
            exact fin 0 (Or.inl rfl)
          · refine wp_iconst (v := 1) d_P_sort_171 (by decide) ?_
            refine wp_goto (tgt := 176) d_P_sort_172 (by decide) ?_
            exact fin 1 (Or.inr rfl)
        · refine wp_iload_n d_P_sort_25 rfl ?_
          refine wp_tabIn (tgt := 153) (off := 127) d_P_sort_26 (by decide) (by decide) (by decide) (by decide) ?_
          refine wp_aload_n d_P_sort_153 rfl ?_
          refine wp_getA d_P_sort_154 fl_P_30 rfl rfl rfl ?_
          refine wp_iload_n d_P_sort_157 rfl ?_
          refine wp_callV1e d_P_sort_158 cv_P_146 rfl rfl rfl ⟨Nat.le_of_ble_eq_true rfl, Nat.le_of_ble_eq_true rfl⟩ (Nat.le_of_ble_eq_true rfl) (Nat.le_of_ble_eq_true rfl) (c_B_howMany _ _) ?_
          have fin : ∀ u : Int32, (u = 0 ∨ u = 1) → WP m_P_sort 176 [.ref 0, .int (nI 2)] [.int u] τ (Rp σ) := by
            intro u hu
            have e5 : u = bz (u = 1) := by rcases hu with rfl | rfl <;> decide
            rw [e5]
            refine wp_callS1e d_P_sort_176 cs_P_157 ⟨Nat.le_of_ble_eq_true rfl, Nat.le_of_ble_eq_true rfl⟩ (Nat.le_of_ble_eq_true rfl) (Nat.le_of_ble_eq_true rfl) (c_P_oneIf _ _) ?_
            refine wp_iret d_P_sort_179 rfl ?_
            exact ⟨⟨_, rfl⟩, hFp, M', hM'⟩
          refine wp_aload_n d_P_sort_161 rfl ?_
          refine wp_getA d_P_sort_162 fl_P_21 rfl rfl rfl ?_
          refine wp_getI d_P_sort_165 fl_P_104 rfl rfl (by decide) ?_
          refine wp_icmp_ne (tgt := 175) d_P_sort_168 (by decide) (fun hc3 => ?_) (fun hc3 => ?_)
          · refine wp_iconst (v := 0) d_P_sort_175 (by decide) ?_
            exact fin 0 (Or.inl rfl)
          · refine wp_iconst (v := 1) d_P_sort_171 (by decide) ?_
            refine wp_goto (tgt := 176) d_P_sort_172 (by decide) ?_
            exact fin 1 (Or.inr rfl)
        · refine wp_iload_n d_P_sort_25 rfl ?_
          refine wp_tabIn (tgt := 153) (off := 127) d_P_sort_26 (by decide) (by decide) (by decide) (by decide) ?_
          refine wp_aload_n d_P_sort_153 rfl ?_
          refine wp_getA d_P_sort_154 fl_P_30 rfl rfl rfl ?_
          refine wp_iload_n d_P_sort_157 rfl ?_
          refine wp_callV1e d_P_sort_158 cv_P_146 rfl rfl rfl ⟨Nat.le_of_ble_eq_true rfl, Nat.le_of_ble_eq_true rfl⟩ (Nat.le_of_ble_eq_true rfl) (Nat.le_of_ble_eq_true rfl) (c_B_howMany _ _) ?_
          have fin : ∀ u : Int32, (u = 0 ∨ u = 1) → WP m_P_sort 176 [.ref 0, .int (nI 3)] [.int u] τ (Rp σ) := by
            intro u hu
            have e5 : u = bz (u = 1) := by rcases hu with rfl | rfl <;> decide
            rw [e5]
            refine wp_callS1e d_P_sort_176 cs_P_157 ⟨Nat.le_of_ble_eq_true rfl, Nat.le_of_ble_eq_true rfl⟩ (Nat.le_of_ble_eq_true rfl) (Nat.le_of_ble_eq_true rfl) (c_P_oneIf _ _) ?_
            refine wp_iret d_P_sort_179 rfl ?_
            exact ⟨⟨_, rfl⟩, hFp, M', hM'⟩
          refine wp_aload_n d_P_sort_161 rfl ?_
          refine wp_getA d_P_sort_162 fl_P_21 rfl rfl rfl ?_
          refine wp_getI d_P_sort_165 fl_P_104 rfl rfl (by decide) ?_
          refine wp_icmp_ne (tgt := 175) d_P_sort_168 (by decide) (fun hc3 => ?_) (fun hc3 => ?_)
          · refine wp_iconst (v := 0) d_P_sort_175 (by decide) ?_
            exact fin 0 (Or.inl rfl)
          · refine wp_iconst (v := 1) d_P_sort_171 (by decide) ?_
            refine wp_goto (tgt := 176) d_P_sort_172 (by decide) ?_
            exact fin 1 (Or.inr rfl)
        · refine wp_iload_n d_P_sort_25 rfl ?_
          refine wp_tabIn (tgt := 94) (off := 68) d_P_sort_26 (by decide) (by decide) (by decide) (by decide) ?_
          refine wp_aload_n d_P_sort_94 rfl ?_
          refine wp_getA d_P_sort_95 fl_P_30 rfl rfl rfl ?_
          refine wp_callV0 d_P_sort_98 cv_P_137 rfl rfl rfl ⟨Nat.le_of_ble_eq_true rfl, Nat.le_of_ble_eq_true rfl⟩ (Nat.le_of_ble_eq_true rfl) (Nat.le_of_ble_eq_true rfl) (w_B_regular _) (fun v υ hv => ?_)
          obtain ⟨⟨z, rfl⟩, rfl⟩ := hv
          show WP m_P_sort 101 _ [.int z] _ _
          have fin : ∀ u : Int32, (u = 0 ∨ u = 1) → WP m_P_sort 117 [.ref 0, .int (nI 4)] [.int u] υ (Rp σ) := by
            intro u hu
            have e5 : u = bz (u = 1) := by rcases hu with rfl | rfl <;> decide
            rw [e5]
            refine wp_callS1e d_P_sort_117 cs_P_157 ⟨Nat.le_of_ble_eq_true rfl, Nat.le_of_ble_eq_true rfl⟩ (Nat.le_of_ble_eq_true rfl) (Nat.le_of_ble_eq_true rfl) (c_P_oneIf _ _) ?_
            refine wp_iret d_P_sort_120 rfl ?_
            exact ⟨⟨_, rfl⟩, hFp, M', hM'⟩
          refine wp_aload_n d_P_sort_101 rfl ?_
          refine wp_getA d_P_sort_102 fl_P_30 rfl rfl rfl ?_
          refine wp_iconst (v := 0) d_P_sort_105 (by decide) ?_
          refine wp_callV1e d_P_sort_106 cv_P_146 rfl rfl rfl ⟨Nat.le_of_ble_eq_true rfl, Nat.le_of_ble_eq_true rfl⟩ (Nat.le_of_ble_eq_true rfl) (Nat.le_of_ble_eq_true rfl) (c_B_howMany _ _) ?_
          refine wp_icmp_ne (tgt := 116) d_P_sort_109 (by decide) (fun hc3 => ?_) (fun hc3 => ?_)
          · refine wp_iconst (v := 0) d_P_sort_116 (by decide) ?_
            exact fin 0 (Or.inl rfl)
          · refine wp_iconst (v := 1) d_P_sort_112 (by decide) ?_
            refine wp_goto (tgt := 117) d_P_sort_113 (by decide) ?_
            exact fin 1 (Or.inr rfl)
        · refine wp_iload_n d_P_sort_25 rfl ?_
          refine wp_tabIn (tgt := 121) (off := 95) d_P_sort_26 (by decide) (by decide) (by decide) (by decide) ?_
          refine wp_aload_n d_P_sort_121 rfl ?_
          refine wp_getA d_P_sort_122 fl_P_21 rfl rfl rfl ?_
          refine wp_callV0e d_P_sort_125 cv_P_164 rfl rfl rfl ⟨Nat.le_of_ble_eq_true rfl, Nat.le_of_ble_eq_true rfl⟩ (Nat.le_of_ble_eq_true rfl) (Nat.le_of_ble_eq_true rfl) (c_E_stillOnesCommute _ hI' hM') ?_
          refine wp_callS1e d_P_sort_128 cs_P_157 ⟨Nat.le_of_ble_eq_true rfl, Nat.le_of_ble_eq_true rfl⟩ (Nat.le_of_ble_eq_true rfl) (Nat.le_of_ble_eq_true rfl) (c_P_oneIf _ _) ?_
          refine wp_iret d_P_sort_131 rfl ?_
          exact ⟨⟨_, rfl⟩, hFp, M', hM'⟩
        · refine wp_iload_n d_P_sort_25 rfl ?_
          refine wp_tabIn (tgt := 132) (off := 106) d_P_sort_26 (by decide) (by decide) (by decide) (by decide) ?_
          refine wp_aload_n d_P_sort_132 rfl ?_
          refine wp_getA d_P_sort_133 fl_P_30 rfl rfl rfl ?_
          refine wp_iconst (v := 3) d_P_sort_136 (by decide) ?_
          refine wp_callV1e d_P_sort_137 cv_P_146 rfl rfl rfl ⟨Nat.le_of_ble_eq_true rfl, Nat.le_of_ble_eq_true rfl⟩ (Nat.le_of_ble_eq_true rfl) (Nat.le_of_ble_eq_true rfl) (c_B_howMany _ _) ?_
          have fin : ∀ u : Int32, (u = 0 ∨ u = 1) → WP m_P_sort 149 [.ref 0, .int (nI 6)] [.int u] τ (Rp σ) := by
            intro u hu
            have e5 : u = bz (u = 1) := by rcases hu with rfl | rfl <;> decide
            rw [e5]
            refine wp_callS1e d_P_sort_149 cs_P_157 ⟨Nat.le_of_ble_eq_true rfl, Nat.le_of_ble_eq_true rfl⟩ (Nat.le_of_ble_eq_true rfl) (Nat.le_of_ble_eq_true rfl) (c_P_oneIf _ _) ?_
            refine wp_iret d_P_sort_152 rfl ?_
            exact ⟨⟨_, rfl⟩, hFp, M', hM'⟩
          refine wp_iconst (v := 1) d_P_sort_140 (by decide) ?_
          refine wp_icmp_ne (tgt := 148) d_P_sort_141 (by decide) (fun hc3 => ?_) (fun hc3 => ?_)
          · refine wp_iconst (v := 0) d_P_sort_148 (by decide) ?_
            exact fin 0 (Or.inl rfl)
          · refine wp_iconst (v := 1) d_P_sort_144 (by decide) ?_
            refine wp_goto (tgt := 149) d_P_sort_145 (by decide) ?_
            exact fin 1 (Or.inr rfl)
      · exact absurd hc2 (by decide)
  · refine wp_iconst (v := -1) d_P_sort_10 (by decide) ?_
    refine wp_iret d_P_sort_11 rfl ?_
    exact ⟨⟨_, rfl⟩, Fp.rf, M, hM⟩
theorem w_P_solve (a b c w : Int32) {N L M : Nat} (σ : Hp) (hI : KI σ N L) (hM : EM σ M) : Ct m_P_solve [.ref 0, .int a, .int b, .int c, .int w] σ (Rp σ) := by
  show WP m_P_solve 0 [.ref 0, .int a, .int b, .int c, .int w] [] σ _
  have bad : WP m_P_solve 19 [.ref 0, .int a, .int b, .int c, .int w] [] σ (Rp σ) := by
    refine wp_iconst (v := -1) d_P_solve_19 (by decide) ?_
    refine wp_iret d_P_solve_20 rfl ?_
    exact ⟨⟨_, rfl⟩, Fp.rf, M, hM⟩
  refine wp_iload_n d_P_solve_0 rfl ?_
  refine wp_iconst (v := 0) d_P_solve_1 (by decide) ?_
  refine wp_iconst (v := 1) d_P_solve_2 (by decide) ?_
  refine wp_callS3e d_P_solve_3 cs_P_62 ⟨Nat.le_of_ble_eq_true rfl, Nat.le_of_ble_eq_true rfl⟩ (Nat.le_of_ble_eq_true rfl) (Nat.le_of_ble_eq_true rfl) (c_P_within _ _ _ _) ?_
  refine wp_if_eq (tgt := 19) d_P_solve_6 (by decide) (fun hc => ?_) (fun hc => ?_)
  · exact bad
  · refine wp_iload d_P_solve_9 rfl ?_
    refine wp_iconst (v := 0) d_P_solve_11 (by decide) ?_
    refine wp_iconst (v := 1) d_P_solve_12 (by decide) ?_
    refine wp_callS3e d_P_solve_13 cs_P_62 ⟨Nat.le_of_ble_eq_true rfl, Nat.le_of_ble_eq_true rfl⟩ (Nat.le_of_ble_eq_true rfl) (Nat.le_of_ble_eq_true rfl) (c_P_within _ _ _ _) ?_
    refine wp_if_ne (tgt := 21) d_P_solve_16 (by decide) (fun hc1 => ?_) (fun hc1 => ?_)
    · refine wp_aload_n d_P_solve_21 rfl ?_
      refine wp_getA d_P_solve_22 fl_P_21 rfl rfl rfl ?_
      refine wp_callV0 d_P_solve_25 cv_P_100 rfl rfl rfl ⟨Nat.le_of_ble_eq_true rfl, Nat.le_of_ble_eq_true rfl⟩ (Nat.le_of_ble_eq_true rfl) (Nat.le_of_ble_eq_true rfl) (w_E_ready _ hI hM) (fun v τ hv => ?_)
      obtain ⟨hv, hF, M', hM'⟩ := hv
      have hI' := hF.KI (by decide) hI
      have hFp : Fp pS σ τ := hF.up (upS (by decide))
      rcases hv with rfl | rfl
      · show WP m_P_solve 28 _ [.int 0] τ _
        refine wp_if_ne (tgt := 34) d_P_solve_28 (by decide) (fun hc2 => ?_) (fun hc2 => ?_)
        · exact absurd rfl hc2
        · refine wp_bipush (v := -5) d_P_solve_31 (by decide) ?_
          refine wp_iret d_P_solve_33 rfl ?_
          exact ⟨⟨_, rfl⟩, hFp, M', hM'⟩
      · show WP m_P_solve 28 _ [.int 1] τ _
        refine wp_if_ne (tgt := 34) d_P_solve_28 (by decide) (fun hc2 => ?_) (fun hc2 => ?_)
        · have bad2 : WP m_P_solve 56 [.ref 0, .int a, .int b, .int c, .int w] [] τ (Rp σ) := by
            refine wp_iconst (v := -1) d_P_solve_56 (by decide) ?_
            refine wp_iret d_P_solve_57 rfl ?_
            exact ⟨⟨_, rfl⟩, hFp, M', hM'⟩
          refine wp_aload_n d_P_solve_34 rfl ?_
          refine wp_getA d_P_solve_35 fl_P_21 rfl rfl rfl ?_
          refine wp_iload_n d_P_solve_38 rfl ?_
          refine wp_callV1e d_P_solve_39 cv_P_114 rfl rfl rfl ⟨Nat.le_of_ble_eq_true rfl, Nat.le_of_ble_eq_true rfl⟩ (Nat.le_of_ble_eq_true rfl) (Nat.le_of_ble_eq_true rfl) (c_E_has _ _) ?_
          refine wp_if_eq (tgt := 56) d_P_solve_42 (by decide) (fun hc3 => ?_) (fun hc3 => ?_)
          · exact bad2
          · refine wp_aload_n d_P_solve_45 rfl ?_
            refine wp_getA d_P_solve_46 fl_P_21 rfl rfl rfl ?_
            refine wp_iload_n d_P_solve_49 rfl ?_
            refine wp_callV1e d_P_solve_50 cv_P_114 rfl rfl rfl ⟨Nat.le_of_ble_eq_true rfl, Nat.le_of_ble_eq_true rfl⟩ (Nat.le_of_ble_eq_true rfl) (Nat.le_of_ble_eq_true rfl) (c_E_has _ _) ?_
            refine wp_if_ne (tgt := 58) d_P_solve_53 (by decide) (fun hc5 => ?_) (fun hc5 => ?_)
            · refine wp_iload d_P_solve_58 rfl ?_
              refine wp_if_ne (tgt := 85) d_P_solve_60 (by decide) (fun hc6 => ?_) (fun hc6 => ?_)
              · have fin : ∀ u : Int32, WP m_P_solve 101 [.ref 0, .int a, .int b, .int c, .int w] [.int u, .int b, .int a, .ref 3] τ (Rp σ) := by
                  intro u
                  refine wp_callV3e d_P_solve_101 cv_P_171 rfl rfl rfl ⟨Nat.le_of_ble_eq_true rfl, Nat.le_of_ble_eq_true rfl⟩ (Nat.le_of_ble_eq_true rfl) (Nat.le_of_ble_eq_true rfl) (c_E_leastSolution _ _ _ _ hI' hM') ?_
                  refine wp_iret d_P_solve_104 rfl ?_
                  exact ⟨⟨_, rfl⟩, hFp, M', hM'⟩
                refine wp_aload_n d_P_solve_85 rfl ?_
                refine wp_getA d_P_solve_86 fl_P_21 rfl rfl rfl ?_
                refine wp_iload_n d_P_solve_89 rfl ?_
                refine wp_iload_n d_P_solve_90 rfl ?_
                refine wp_iload_n d_P_solve_91 rfl ?_
                refine wp_iconst (v := 1) d_P_solve_92 (by decide) ?_
                refine wp_icmp_ne (tgt := 100) d_P_solve_93 (by decide) (fun hc7 => ?_) (fun hc7 => ?_)
                · refine wp_iconst (v := 0) d_P_solve_100 (by decide) ?_
                  exact fin _
                · refine wp_iconst (v := 1) d_P_solve_96 (by decide) ?_
                  refine wp_goto (tgt := 101) d_P_solve_97 (by decide) ?_
                  exact fin _
              · have fin : ∀ u : Int32, WP m_P_solve 79 [.ref 0, .int a, .int b, .int c, .int w] [.int u, .int b, .int a, .ref 3] τ (Rp σ) := by
                  intro u
                  refine wp_callV3e d_P_solve_79 cv_P_167 rfl rfl rfl ⟨Nat.le_of_ble_eq_true rfl, Nat.le_of_ble_eq_true rfl⟩ (Nat.le_of_ble_eq_true rfl) (Nat.le_of_ble_eq_true rfl) (c_E_solutions _ _ _ _ hI' hM') ?_
                  refine wp_goto (tgt := 104) d_P_solve_82 (by decide) ?_
                  refine wp_iret d_P_solve_104 rfl ?_
                  exact ⟨⟨_, rfl⟩, hFp, M', hM'⟩
                refine wp_aload_n d_P_solve_63 rfl ?_
                refine wp_getA d_P_solve_64 fl_P_21 rfl rfl rfl ?_
                refine wp_iload_n d_P_solve_67 rfl ?_
                refine wp_iload_n d_P_solve_68 rfl ?_
                refine wp_iload_n d_P_solve_69 rfl ?_
                refine wp_iconst (v := 1) d_P_solve_70 (by decide) ?_
                refine wp_icmp_ne (tgt := 78) d_P_solve_71 (by decide) (fun hc7 => ?_) (fun hc7 => ?_)
                · refine wp_iconst (v := 0) d_P_solve_78 (by decide) ?_
                  exact fin _
                · refine wp_iconst (v := 1) d_P_solve_74 (by decide) ?_
                  refine wp_goto (tgt := 79) d_P_solve_75 (by decide) ?_
                  exact fin _
            · exact bad2
        · exact absurd hc2 (by decide)
    · exact bad
theorem w_P_apart {N L M : Nat} (σ : Hp) (hI : KI σ N L) (hM : EM σ M) : Ct m_P_apart [.ref 0] σ (Rp σ) := by
  show WP m_P_apart 0 [.ref 0] [] σ _
  refine wp_aload_n d_P_apart_0 rfl ?_
  refine wp_getA d_P_apart_1 fl_P_37 rfl rfl rfl ?_
  refine wp_callV0e d_P_apart_4 cv_P_191 rfl rfl rfl ⟨Nat.le_of_ble_eq_true rfl, Nat.le_of_ble_eq_true rfl⟩ (Nat.le_of_ble_eq_true rfl) (Nat.le_of_ble_eq_true rfl) (c_S_apartPairs _ hI) ?_
  refine wp_iret d_P_apart_7 rfl ?_
  exact ⟨⟨_, rfl⟩, Fp.rf, M, hM⟩
theorem w_P_cut (a b : Int32) {N L M : Nat} (σ : Hp) (hI : KI σ N L) (hM : EM σ M) : Ct m_P_cut [.ref 0, .int a, .int b] σ (Rp σ) := by
  show WP m_P_cut 0 [.ref 0, .int a, .int b] [] σ _
  have bad : WP m_P_cut 22 [.ref 0, .int a, .int b] [] σ (Rp σ) := by
    refine wp_iconst (v := -1) d_P_cut_22 (by decide) ?_
    refine wp_iret d_P_cut_23 rfl ?_
    exact ⟨⟨_, rfl⟩, Fp.rf, M, hM⟩
  refine wp_aload_n d_P_cut_0 rfl ?_
  refine wp_getA d_P_cut_1 fl_P_10 rfl rfl rfl ?_
  refine wp_iload_n d_P_cut_4 rfl ?_
  refine wp_callV1e d_P_cut_5 cv_P_194 rfl rfl rfl ⟨Nat.le_of_ble_eq_true rfl, Nat.le_of_ble_eq_true rfl⟩ (Nat.le_of_ble_eq_true rfl) (Nat.le_of_ble_eq_true rfl) (c_L_hasPoint _ _ hI) ?_
  refine wp_if_eq (tgt := 22) d_P_cut_8 (by decide) (fun hc => ?_) (fun hc => ?_)
  · exact bad
  · refine wp_aload_n d_P_cut_11 rfl ?_
    refine wp_getA d_P_cut_12 fl_P_10 rfl rfl rfl ?_
    refine wp_iload_n d_P_cut_15 rfl ?_
    refine wp_callV1e d_P_cut_16 cv_P_194 rfl rfl rfl ⟨Nat.le_of_ble_eq_true rfl, Nat.le_of_ble_eq_true rfl⟩ (Nat.le_of_ble_eq_true rfl) (Nat.le_of_ble_eq_true rfl) (c_L_hasPoint _ _ hI) ?_
    refine wp_if_ne (tgt := 24) d_P_cut_19 (by decide) (fun hc2 => ?_) (fun hc2 => ?_)
    · refine wp_aload_n d_P_cut_24 rfl ?_
      refine wp_getA d_P_cut_25 fl_P_37 rfl rfl rfl ?_
      refine wp_iload_n d_P_cut_28 rfl ?_
      refine wp_iload_n d_P_cut_29 rfl ?_
      refine wp_callV2e d_P_cut_30 cv_P_197 rfl rfl rfl ⟨Nat.le_of_ble_eq_true rfl, Nat.le_of_ble_eq_true rfl⟩ (Nat.le_of_ble_eq_true rfl) (Nat.le_of_ble_eq_true rfl) (c_S_leastCut _ _ _ hI) ?_
      refine wp_aload_n d_P_cut_33 rfl ?_
      refine wp_getA d_P_cut_34 fl_P_10 rfl rfl rfl ?_
      refine wp_getI d_P_cut_37 fl_P_66 rfl rfl (by decide) ?_
      rw [hI.1]
      refine wp_callS2e d_P_cut_40 cs_P_200 ⟨Nat.le_of_ble_eq_true rfl, Nat.le_of_ble_eq_true rfl⟩ (Nat.le_of_ble_eq_true rfl) (Nat.le_of_ble_eq_true rfl) (c_G_toNumber _ (by have := hI.2.2.1; omega) _) ?_
      refine wp_iret d_P_cut_43 rfl ?_
      exact ⟨⟨_, rfl⟩, Fp.rf, M, hM⟩
    · exact bad
theorem w_P_cuts {N L M : Nat} (σ : Hp) (hI : KI σ N L) (hM : EM σ M) : Ct m_P_cuts [.ref 0] σ (Rp σ) := by
  show WP m_P_cuts 0 [.ref 0] [] σ _
  refine wp_aload_n d_P_cuts_0 rfl ?_
  refine wp_getA d_P_cuts_1 fl_P_37 rfl rfl rfl ?_
  refine wp_callV0e d_P_cuts_4 cv_P_203 rfl rfl rfl ⟨Nat.le_of_ble_eq_true rfl, Nat.le_of_ble_eq_true rfl⟩ (Nat.le_of_ble_eq_true rfl) (Nat.le_of_ble_eq_true rfl) (c_S_allCuts _ hI) ?_
  refine wp_iret d_P_cuts_7 rfl ?_
  exact ⟨⟨_, rfl⟩, Fp.rf, M, hM⟩
theorem w_P_twists {N L M : Nat} (σ : Hp) (hI : KI σ N L) (hM : EM σ M) : Ct m_P_twists [.ref 0] σ (Rp σ) := by
  show WP m_P_twists 0 [.ref 0] [] σ _
  refine wp_aload_n d_P_twists_0 rfl ?_
  refine wp_getA d_P_twists_1 fl_P_37 rfl rfl rfl ?_
  refine wp_callV0e d_P_twists_4 cv_P_206 rfl rfl rfl ⟨Nat.le_of_ble_eq_true rfl, Nat.le_of_ble_eq_true rfl⟩ (Nat.le_of_ble_eq_true rfl) (Nat.le_of_ble_eq_true rfl) (c_S_allTwists _ hI) ?_
  refine wp_iret d_P_twists_7 rfl ?_
  exact ⟨⟨_, rfl⟩, Fp.rf, M, hM⟩
theorem w_P_taken (n : Int32) {N L M : Nat} (σ : Hp) (hI : KI σ N L) (hM : EM σ M) : Ct m_P_taken [.ref 0, .int n] σ (Rp σ) := by
  show WP m_P_taken 0 [.ref 0, .int n] [] σ _
  refine wp_iload_n d_P_taken_0 rfl ?_
  refine wp_iconst (v := 0) d_P_taken_1 (by decide) ?_
  refine wp_bipush (v := 40) d_P_taken_2 (by decide) ?_
  refine wp_callS3e d_P_taken_4 cs_P_62 ⟨Nat.le_of_ble_eq_true rfl, Nat.le_of_ble_eq_true rfl⟩ (Nat.le_of_ble_eq_true rfl) (Nat.le_of_ble_eq_true rfl) (c_P_within _ _ _ _) ?_
  refine wp_if_ne (tgt := 12) d_P_taken_7 (by decide) (fun hc => ?_) (fun hc => ?_)
  · obtain ⟨j, hj, rfl⟩ := wi_nI (m := 40) (by decide) (bz_n0 hc)
    refine wp_aload_n d_P_taken_12 rfl ?_
    refine wp_getA d_P_taken_13 fl_P_58 rfl rfl rfl ?_
    refine wp_iload_n d_P_taken_16 rfl ?_
    refine wp_callV1 d_P_taken_17 cv_P_209 rfl rfl rfl ⟨Nat.le_of_ble_eq_true rfl, Nat.le_of_ble_eq_true rfl⟩ (Nat.le_of_ble_eq_true rfl) (Nat.le_of_ble_eq_true rfl) (c_A_takenWords (by omega) _ hI) (fun v τ hv => ?_)
    obtain ⟨rfl, hF⟩ := hv
    show WP m_P_taken 20 _ [.int _] τ _
    refine wp_iret d_P_taken_20 rfl ?_
    exact ⟨⟨_, rfl⟩, hF.up (upS (by decide)), M, hF.EM (by decide) hM⟩
  · refine wp_iconst (v := -1) d_P_taken_10 (by decide) ?_
    refine wp_iret d_P_taken_11 rfl ?_
    exact ⟨⟨_, rfl⟩, Fp.rf, M, hM⟩
theorem w_P_least {N L M : Nat} (σ : Hp) (hI : KI σ N L) (hM : EM σ M) : Ct m_P_least [.ref 0] σ (Rp σ) := by
  show WP m_P_least 0 [.ref 0] [] σ _
  refine wp_aload_n d_P_least_0 rfl ?_
  refine wp_getA d_P_least_1 fl_P_58 rfl rfl rfl ?_
  refine wp_callV0e d_P_least_4 cv_P_212 rfl rfl rfl ⟨Nat.le_of_ble_eq_true rfl, Nat.le_of_ble_eq_true rfl⟩ (Nat.le_of_ble_eq_true rfl) (Nat.le_of_ble_eq_true rfl) (c_A_heaps _ hI) ?_
  refine wp_iret d_P_least_7 rfl ?_
  exact ⟨⟨_, rfl⟩, Fp.rf, M, hM⟩
theorem w_P_meanings (w : Int32) {N L M : Nat} (σ : Hp) (hI : KI σ N L) (hM : EM σ M) : Ct m_P_meanings [.ref 0, .int w] σ (Rp σ) := by
  show WP m_P_meanings 0 [.ref 0, .int w] [] σ _
  refine wp_iload_n d_P_meanings_0 rfl ?_
  refine wp_iconst (v := 0) d_P_meanings_1 (by decide) ?_
  refine wp_iconst (v := 1) d_P_meanings_2 (by decide) ?_
  refine wp_callS3e d_P_meanings_3 cs_P_62 ⟨Nat.le_of_ble_eq_true rfl, Nat.le_of_ble_eq_true rfl⟩ (Nat.le_of_ble_eq_true rfl) (Nat.le_of_ble_eq_true rfl) (c_P_within _ _ _ _) ?_
  refine wp_if_ne (tgt := 11) d_P_meanings_6 (by decide) (fun hc => ?_) (fun hc => ?_)
  · refine wp_aload_n d_P_meanings_11 rfl ?_
    refine wp_getA d_P_meanings_12 fl_P_21 rfl rfl rfl ?_
    refine wp_callV0 d_P_meanings_15 cv_P_100 rfl rfl rfl ⟨Nat.le_of_ble_eq_true rfl, Nat.le_of_ble_eq_true rfl⟩ (Nat.le_of_ble_eq_true rfl) (Nat.le_of_ble_eq_true rfl) (w_E_ready _ hI hM) (fun v τ hv => ?_)
    obtain ⟨hv, hF, M', hM'⟩ := hv
    have hI' := hF.KI (by decide) hI
    have hFp : Fp pS σ τ := hF.up (upS (by decide))
    rcases hv with rfl | rfl
    · show WP m_P_meanings 18 _ [.int 0] τ _
      refine wp_if_ne (tgt := 24) d_P_meanings_18 (by decide) (fun hc2 => ?_) (fun hc2 => ?_)
      · exact absurd rfl hc2
      · refine wp_bipush (v := -5) d_P_meanings_21 (by decide) ?_
        refine wp_iret d_P_meanings_23 rfl ?_
        exact ⟨⟨_, rfl⟩, hFp, M', hM'⟩
    · show WP m_P_meanings 18 _ [.int 1] τ _
      refine wp_if_ne (tgt := 24) d_P_meanings_18 (by decide) (fun hc2 => ?_) (fun hc2 => ?_)
      · refine wp_iload_n d_P_meanings_24 rfl ?_
        refine wp_if_ne (tgt := 38) d_P_meanings_25 (by decide) (fun hc3 => ?_) (fun hc3 => ?_)
        · refine wp_aload_n d_P_meanings_38 rfl ?_
          refine wp_getA d_P_meanings_39 fl_P_58 rfl rfl rfl ?_
          refine wp_callV0 d_P_meanings_42 cv_P_224 rfl rfl rfl ⟨Nat.le_of_ble_eq_true rfl, Nat.le_of_ble_eq_true rfl⟩ (Nat.le_of_ble_eq_true rfl) (Nat.le_of_ble_eq_true rfl) (w_A_isStarless _ hI' hM') (fun v υ hv => ?_)
          obtain ⟨hv, hF2⟩ := hv
          rcases hv with rfl | rfl
          · show WP m_P_meanings 45 _ [.int (bz False)] υ _
            refine wp_callS1e d_P_meanings_45 cs_P_157 ⟨Nat.le_of_ble_eq_true rfl, Nat.le_of_ble_eq_true rfl⟩ (Nat.le_of_ble_eq_true rfl) (Nat.le_of_ble_eq_true rfl) (c_P_oneIf _ _) ?_
            refine wp_iret d_P_meanings_48 rfl ?_
            exact ⟨⟨_, rfl⟩, hFp.tr (hF2.up (upS (by decide))), M', hF2.EM (by decide) hM'⟩
          · show WP m_P_meanings 45 _ [.int (bz True)] υ _
            refine wp_callS1e d_P_meanings_45 cs_P_157 ⟨Nat.le_of_ble_eq_true rfl, Nat.le_of_ble_eq_true rfl⟩ (Nat.le_of_ble_eq_true rfl) (Nat.le_of_ble_eq_true rfl) (c_P_oneIf _ _) ?_
            refine wp_iret d_P_meanings_48 rfl ?_
            exact ⟨⟨_, rfl⟩, hFp.tr (hF2.up (upS (by decide))), M', hF2.EM (by decide) hM'⟩
        · refine wp_aload_n d_P_meanings_28 rfl ?_
          refine wp_getA d_P_meanings_29 fl_P_58 rfl rfl rfl ?_
          refine wp_callV0 d_P_meanings_32 cv_P_221 rfl rfl rfl ⟨Nat.le_of_ble_eq_true rfl, Nat.le_of_ble_eq_true rfl⟩ (Nat.le_of_ble_eq_true rfl) (Nat.le_of_ble_eq_true rfl) (w_A_countMeanings _ hI' hM') (fun v υ hv => ?_)
          obtain ⟨⟨z, rfl⟩, hF2⟩ := hv
          show WP m_P_meanings 35 _ [.int z] υ _
          refine wp_goto (tgt := 48) d_P_meanings_35 (by decide) ?_
          refine wp_iret d_P_meanings_48 rfl ?_
          exact ⟨⟨_, rfl⟩, hFp.tr (hF2.up (upS (by decide))), M', hF2.EM (by decide) hM'⟩
      · exact absurd hc2 (by decide)
  · refine wp_iconst (v := -1) d_P_meanings_9 (by decide) ?_
    refine wp_iret d_P_meanings_10 rfl ?_
    exact ⟨⟨_, rfl⟩, Fp.rf, M, hM⟩
