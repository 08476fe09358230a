/-! contracts: the class's numbers of boxes -/
/-- such numbers are determined by what is alike -/
theorem RG.un {M B B' : Nat} {a a' b b' : Nat → Nat} (h : RG M a b B) (h' : RG M a' b' B') (e : ∀ i j, i < M → j < M → (a i = a j ↔ a' i = a' j)) : (∀ i, i < M → b i = b' i) ∧ B = B' := by
  have key : ∀ i, i < M → b i = b' i := by
    intro i
    induction i using Nat.strongRecOn with
    | _ i ih =>
      intro hi
      by_cases q : ∃ j, j < i ∧ a j = a i
      · obtain ⟨j, hj, ej⟩ := q
        have e1 := (h.2.2.2 j i (by omega) hi).mpr ej
        have e2 := (h'.2.2.2 j i (by omega) hi).mpr ((e j i (by omega) hi).mp ej)
        rw [← e1, ← e2]
        exact ih j hj (by omega)
      · rcases Nat.lt_trichotomy (b i) (b' i) with z | z | z
        · obtain ⟨j, hj, ej⟩ := h'.2.2.1 i (b i) hi z
          rw [← ih j hj (by omega)] at ej
          exact absurd ⟨j, hj, (h.2.2.2 j i (by omega) hi).mp ej⟩ q
        · exact z
        · obtain ⟨j, hj, ej⟩ := h.2.2.1 i (b' i) hi z
          rw [ih j hj (by omega)] at ej
          exact absurd ⟨j, hj, (e j i (by omega) hi).mpr ((h'.2.2.2 j i (by omega) hi).mp ej)⟩ q
  refine ⟨key, ?_⟩
  rcases Nat.lt_trichotomy B B' with z | z | z
  · obtain ⟨i, hi, ei⟩ := h'.2.1 B z
    have := h.1 i hi
    rw [key i hi, ei] at this
    omega
  · exact z
  · obtain ⟨i, hi, ei⟩ := h.2.1 B' z
    have := h'.1 i hi
    rw [← key i hi, ei] at this
    omega
/-- the first e are numbered, by their names a -/
def NS (σ : Hp) (K e : Nat) (a b : Nat → Nat) (B : Nat) (l : Nat → Nat) : Prop := RG e a b B ∧ FS (σ.1 25) (σ.1 26) (fun j => a (l j)) B ∧ (∀ e', e' < e → σ.1 27 (1500 * K + e') = nI (b e')) ∧ (∀ j, j < B → σ.1 28 (1500 * K + j) = nI (l j) ∧ l j < e ∧ b (l j) = j ∧ ∀ e', e' < l j → b e' ≠ j) ∧ σ.1 29 K = nI B
/-- the other kinds' columns stay -/
def OC (K : Nat) (σ τ : Hp) : Prop := (∀ i, (∀ x, x < 1500 → i ≠ 1500 * K + x) → τ.1 27 i = σ.1 27 i ∧ τ.1 28 i = σ.1 28 i) ∧ ∀ j, j ≠ K → τ.1 29 j = σ.1 29 j
theorem OC.rf {K : Nat} {σ : Hp} : OC K σ σ := ⟨fun _ _ => ⟨rfl, rfl⟩, fun _ _ => rfl⟩
theorem OC.tr {K : Nat} {σ τ υ : Hp} (h : OC K σ τ) (h' : OC K τ υ) : OC K σ υ := ⟨fun i hi => ⟨(h'.1 i hi).1.trans (h.1 i hi).1, (h'.1 i hi).2.trans (h.1 i hi).2⟩, fun j hj => (h'.2 j hj).trans (h.2 j hj)⟩
theorem col_nI {K e : Nat} : nI K * 1500 + nI e = nI (1500 * K + e) := by
  show nI K * nI 1500 + nI e = _
  rw [pk_mul, nI_add, Nat.mul_comm]
theorem v_B_giveNumber {K e : Nat} {a b l : Nat → Nat} {B : Nat} (hK : K < 4) (he : e < 1500) (ha : ∀ i, i ≤ e → a i + 1 < 2 ^ 31) (σ : Hp) (h : NS σ K e a b B l) : Ct m_B_giveNumber [.ref 15, .int (nI K), .int (nI e), .int (nI (a e))] σ (fun r τ => r = none ∧ Fp [25, 26, 27, 28, 29] σ τ ∧ OC K σ τ ∧ ∃ b' B' l', NS τ K (e + 1) a b' B' l') := by
  obtain ⟨hR, hS, h27, h28, h29⟩ := h
  have hB := hR.le
  have hκ : ∀ j, j < B → (fun j => a (l j)) j + 1 < 2 ^ 31 := fun j hj => ha _ (by have := (h28 j hj).2.1; omega)
  show WP m_B_giveNumber 0 [.ref 15, .int (nI K), .int (nI e), .int (nI (a e)), .null] [] σ _
  by_cases q : ∃ j, j < B ∧ a (l j) = a e
  · obtain ⟨j, hj, ej⟩ := q
    have hl := hS.look hj
    try dsimp only at hl
    rw [ej] at hl
    obtain ⟨l1, l2, l3, l4⟩ := h28 j hj
    have n9 : ¬ nI j = -9 := fun z => by
      have := nI_pos (show j < 2 ^ 31 by omega)
      rw [z] at this
      exact this (by decide)
    refine wp_aload_n d_B_giveNumber_0 rfl ?_
    refine wp_getA d_B_giveNumber_1 fl_B_21 rfl rfl rfl ?_
    refine wp_iload_n d_B_giveNumber_4 rfl ?_
    refine wp_callV1e d_B_giveNumber_5 cv_B_123 rfl rfl rfl ⟨Nat.le_of_ble_eq_true rfl, Nat.le_of_ble_eq_true rfl⟩ (Nat.le_of_ble_eq_true rfl) (Nat.le_of_ble_eq_true rfl) (c_F_look fiK_24 _ _) ?_
    rw [hl]
    refine wp_istore4 d_B_giveNumber_8 (by decide) rfl ?_
    refine wp_iload d_B_giveNumber_10 rfl ?_
    refine wp_bipush (v := -9) d_B_giveNumber_12 (by decide) ?_
    refine wp_icmp_ne (tgt := 62) d_B_giveNumber_14 (by decide) (fun hc => ?_) (fun hc => ?_)
    · refine wp_aload_n d_B_giveNumber_62 rfl ?_
      refine wp_getA d_B_giveNumber_63 fl_B_25 rfl rfl rfl ?_
      refine wp_iload_n d_B_giveNumber_66 rfl ?_
      refine wp_sipush (v := 1500) d_B_giveNumber_67 (by decide) ?_
      refine wp_imul d_B_giveNumber_70 ?_
      refine wp_iload_n d_B_giveNumber_71 rfl ?_
      refine wp_iadd d_B_giveNumber_72 ?_
      refine wp_iload d_B_giveNumber_73 rfl ?_
      rw [col_nI]
      refine wp_callSN3v d_B_giveNumber_75 csn_B_119 ⟨Nat.le_of_ble_eq_true rfl, Nat.le_of_ble_eq_true rfl⟩ (Nat.le_of_ble_eq_true rfl) (Nat.le_of_ble_eq_true rfl) (c_P_put (a := 27) rfl (by decide) _ _ _) ?_
      rw [wrA_in (by omega) (by decide)]
      refine wp_vret d_B_giveNumber_78 rfl ?_
      refine ⟨rfl, Fp.rf.wI (by decide), ⟨fun i hi => ⟨?_, ?_⟩, fun i hi => ?_⟩, _, B, l, hR.old l2 ej, ?_, fun e' he' => ?_, fun i hi => ?_, ?_⟩
      · rw [wI_eq, upd_ne (hi e he)]
      · rw [wI_ne (by decide)]
      · rw [wI_ne (by decide)]
      · rw [wI_ne (by decide), wI_ne (by decide)]; exact hS
      · rw [wI_eq]
        try dsimp only
        by_cases z : e' = e
        · rw [z, upd_eq, if_neg (Nat.lt_irrefl e), l3]
        · rw [upd_ne (by omega), if_pos (by omega)]
          exact h27 e' (by omega)
      · obtain ⟨i1, i2, i3, i4⟩ := h28 i hi
        rw [wI_ne (by decide)]
        refine ⟨i1, by omega, ?_, fun e' he' => ?_⟩
        · try dsimp only
          rw [if_pos i2]
          exact i3
        · try dsimp only
          rw [if_pos (by omega)]
          exact i4 e' he'
      · rw [wI_ne (by decide)]; exact h29
    · exact absurd hc n9
  · have hn : ∀ j, j < B → (fun j => a (l j)) j ≠ a e := fun j hj e1 => q ⟨j, hj, e1⟩
    have hn2 : ∀ i, i < e → a i ≠ a e := fun i hi e1 => by
      have hb := hR.1 i hi
      obtain ⟨j1, j2, j3, -⟩ := h28 (b i) hb
      exact q ⟨b i, hb, ((hR.2.2.2 _ _ j2 hi).mp j3).trans e1⟩
    have hl := hS.no (by omega) hκ (ha e (Nat.le_refl _)) hn
    have hk := hS.keep (by decide) (by omega) hκ (ha e (Nat.le_refl _)) hn
    refine wp_aload_n d_B_giveNumber_0 rfl ?_
    refine wp_getA d_B_giveNumber_1 fl_B_21 rfl rfl rfl ?_
    refine wp_iload_n d_B_giveNumber_4 rfl ?_
    refine wp_callV1e d_B_giveNumber_5 cv_B_123 rfl rfl rfl ⟨Nat.le_of_ble_eq_true rfl, Nat.le_of_ble_eq_true rfl⟩ (Nat.le_of_ble_eq_true rfl) (Nat.le_of_ble_eq_true rfl) (c_F_look fiK_24 _ _) ?_
    rw [hl]
    refine wp_istore4 d_B_giveNumber_8 (by decide) rfl ?_
    refine wp_iload d_B_giveNumber_10 rfl ?_
    refine wp_bipush (v := -9) d_B_giveNumber_12 (by decide) ?_
    refine wp_icmp_ne (tgt := 62) d_B_giveNumber_14 (by decide) (fun hc => ?_) (fun hc => ?_)
    · exact absurd rfl hc
    · refine wp_aload_n d_B_giveNumber_17 rfl ?_
      refine wp_iload_n d_B_giveNumber_18 rfl ?_
      refine wp_callV1e d_B_giveNumber_19 cv_B_126 rfl rfl rfl ⟨Nat.le_of_ble_eq_true rfl, Nat.le_of_ble_eq_true rfl⟩ (Nat.le_of_ble_eq_true rfl) (Nat.le_of_ble_eq_true rfl) (c_B_howMany _ _) ?_
      refine wp_istore4 d_B_giveNumber_22 (by decide) rfl ?_
      refine wp_aload_n d_B_giveNumber_24 rfl ?_
      refine wp_getA d_B_giveNumber_25 fl_B_21 rfl rfl rfl ?_
      refine wp_iload_n d_B_giveNumber_28 rfl ?_
      refine wp_iload d_B_giveNumber_29 rfl ?_
      rw [show rdA σ 29 4 (nI K) = nI B by rw [rdA_in hK (by decide), h29]]
      refine wp_callV2v d_B_giveNumber_31 cv_B_129 rfl rfl rfl ⟨Nat.le_of_ble_eq_true rfl, Nat.le_of_ble_eq_true rfl⟩ (Nat.le_of_ble_eq_true rfl) (Nat.le_of_ble_eq_true rfl) (c_F_keep fiK_24 _ _ _) ?_
      generalize hυ : kpW σ 25 26 (nI (a e)) (nI B) = υ at hk
      have u : ∀ q, q ≠ 25 → q ≠ 26 → υ.1 q = σ.1 q := fun q h1 h2 => by rw [← hυ]; exact kp_ne h1 h2
      have hFu : Fp [25, 26, 27, 28, 29] σ υ := by rw [← hυ]; exact kpW_Fp Fp.rf (by decide) (by decide)
      refine wp_aload_n d_B_giveNumber_34 rfl ?_
      refine wp_getA d_B_giveNumber_35 fl_B_29 rfl rfl rfl ?_
      refine wp_iload_n d_B_giveNumber_38 rfl ?_
      refine wp_sipush (v := 1500) d_B_giveNumber_39 (by decide) ?_
      refine wp_imul d_B_giveNumber_42 ?_
      refine wp_iload d_B_giveNumber_43 rfl ?_
      refine wp_iadd d_B_giveNumber_45 ?_
      refine wp_iload_n d_B_giveNumber_46 rfl ?_
      rw [col_nI]
      refine wp_callSN3v d_B_giveNumber_47 csn_B_119 ⟨Nat.le_of_ble_eq_true rfl, Nat.le_of_ble_eq_true rfl⟩ (Nat.le_of_ble_eq_true rfl) (Nat.le_of_ble_eq_true rfl) (c_P_put (a := 28) rfl (by decide) _ _ _) ?_
      rw [wrA_in (by omega) (by decide)]
      refine wp_aload_n d_B_giveNumber_50 rfl ?_
      refine wp_getA d_B_giveNumber_51 fl_B_32 rfl rfl rfl ?_
      refine wp_iload_n d_B_giveNumber_54 rfl ?_
      refine wp_iload d_B_giveNumber_55 rfl ?_
      refine wp_iconst (v := 1) d_B_giveNumber_57 (by decide) ?_
      refine wp_iadd d_B_giveNumber_58 ?_
      rw [nI_1]
      refine wp_callSN3v d_B_giveNumber_59 csn_B_119 ⟨Nat.le_of_ble_eq_true rfl, Nat.le_of_ble_eq_true rfl⟩ (Nat.le_of_ble_eq_true rfl) (Nat.le_of_ble_eq_true rfl) (c_P_put (a := 29) rfl (by decide) _ _ _) ?_
      rw [wrA_in hK (by decide)]
      refine wp_aload_n d_B_giveNumber_62 rfl ?_
      refine wp_getA d_B_giveNumber_63 fl_B_25 rfl rfl rfl ?_
      refine wp_iload_n d_B_giveNumber_66 rfl ?_
      refine wp_sipush (v := 1500) d_B_giveNumber_67 (by decide) ?_
      refine wp_imul d_B_giveNumber_70 ?_
      refine wp_iload_n d_B_giveNumber_71 rfl ?_
      refine wp_iadd d_B_giveNumber_72 ?_
      refine wp_iload d_B_giveNumber_73 rfl ?_
      rw [col_nI]
      refine wp_callSN3v d_B_giveNumber_75 csn_B_119 ⟨Nat.le_of_ble_eq_true rfl, Nat.le_of_ble_eq_true rfl⟩ (Nat.le_of_ble_eq_true rfl) (Nat.le_of_ble_eq_true rfl) (c_P_put (a := 27) rfl (by decide) _ _ _) ?_
      rw [wrA_in (by omega) (by decide)]
      refine wp_vret d_B_giveNumber_78 rfl ?_
      obtain ⟨l', hl'⟩ : ∃ l' : Nat → Nat, l' = fun j => if j = B then e else l j := ⟨_, rfl⟩
      have lB : l' B = e := by rw [hl']; exact if_pos rfl
      have lo : ∀ j, j ≠ B → l' j = l j := fun j hj => by rw [hl']; exact if_neg hj
      refine ⟨rfl, ((hFu.wI (by decide)).wI (by decide)).wI (by decide), ⟨fun i hi => ⟨?_, ?_⟩, fun i hi => ?_⟩, _, B + 1, l', hR.new hn2, ?_, fun e' he' => ?_, fun i hi => ?_, ?_⟩
      · rw [wI_eq, upd_ne (hi e he), wI_ne (by decide), wI_ne (by decide), u 27 (by decide) (by decide)]
      · rw [wI_ne (by decide), wI_ne (by decide), wI_eq, upd_ne (hi B (by omega)), u 28 (by decide) (by decide)]
      · rw [wI_ne (by decide), wI_eq, upd_ne hi, wI_ne (by decide), u 29 (by decide) (by decide)]
      · rw [wI_ne (by decide), wI_ne (by decide), wI_ne (by decide), wI_ne (by decide), wI_ne (by decide), wI_ne (by decide)]
        refine hk.cg (fun j hj => ?_)
        try dsimp only
        by_cases z : j = B
        · rw [if_pos z, z, lB]
        · rw [if_neg z, lo j z]
      · rw [wI_eq]
        try dsimp only
        by_cases z : e' = e
        · rw [z, upd_eq, if_neg (Nat.lt_irrefl e)]
        · rw [upd_ne (by omega), if_pos (by omega), wI_ne (by decide), wI_ne (by decide), u 27 (by decide) (by decide)]
          exact h27 e' (by omega)
      · rw [wI_ne (by decide), wI_ne (by decide), wI_eq, u 28 (by decide) (by decide)]
        try dsimp only
        by_cases z : i = B
        · rw [z, upd_eq, lB]
          refine ⟨rfl, by omega, if_neg (Nat.lt_irrefl e), fun e' he' => ?_⟩
          rw [if_pos he']
          have := hR.1 e' he'
          omega
        · rw [upd_ne (by omega), lo i z]
          obtain ⟨i1, i2, i3, i4⟩ := h28 i (by omega)
          rw [if_pos i2]
          refine ⟨i1, by omega, i3, fun e' he' => ?_⟩
          rw [if_pos (by omega)]
          exact i4 e' he'
      · rw [wI_ne (by decide), wI_eq, upd_eq]
/-- one kind is numbered by what comes of one another -/
theorem v_B_numberByRoots {M F T K : Nat} {sp : Nat → Nat → Nat} (hsp : ∀ e l, e < M → l < T → sp e l < M) (hM : M ≤ 1500) (hFT : F + T ≤ 8) (hK : K < 4) (σ : Hp) (h6 : σ.1 3 6 = nI M) (hE : ∀ e l, e < M → l < T → σ.1 17 (8 * e + (F + l)) = nI (sp e l)) : Ct m_B_numberByRoots [.ref 15, .int (nI K), .int (nI F), .int (nI (F + T))] σ (fun r τ => r = none ∧ Fp [16, 18, 19, 20, 21, 22, 23, 25, 26, 27, 28, 29] σ τ ∧ OC K σ τ ∧ ∃ a b B l, NS τ K M a b B l ∧ ∀ e e', e < M → e' < M → (a e = a e' ↔ RQ sp T e e' ∧ RQ sp T e' e)) := by
  show WP m_B_numberByRoots 0 [.ref 15, .int (nI K), .int (nI F), .int (nI (F + T)), .null] [] σ _
  refine wp_aload_n d_B_numberByRoots_0 rfl ?_
  refine wp_getA d_B_numberByRoots_1 fl_B_12 rfl rfl rfl ?_
  refine wp_aload_n d_B_numberByRoots_4 rfl ?_
  refine wp_getA d_B_numberByRoots_5 fl_B_58 rfl rfl rfl ?_
  refine wp_getI d_B_numberByRoots_8 fl_B_88 rfl rfl (by decide) ?_
  refine wp_iload_n d_B_numberByRoots_11 rfl ?_
  refine wp_iload_n d_B_numberByRoots_12 rfl ?_
  rw [h6]
  refine wp_callV3 d_B_numberByRoots_13 cv_B_99 rfl rfl rfl ⟨Nat.le_of_ble_eq_true rfl, Nat.le_of_ble_eq_true rfl⟩ (Nat.le_of_ble_eq_true rfl) (Nat.le_of_ble_eq_true rfl) (v_T_findRoots hsp hM hFT _ hE) (fun v τ hv => ?_)
  obtain ⟨rfl, hF, act, hact, hrel⟩ := hv
  show WP m_B_numberByRoots 16 _ [] τ _
  refine wp_aload_n d_B_numberByRoots_16 rfl ?_
  refine wp_iload_n d_B_numberByRoots_17 rfl ?_
  refine wp_callV1v d_B_numberByRoots_18 cv_B_102 rfl rfl rfl ⟨Nat.le_of_ble_eq_true rfl, Nat.le_of_ble_eq_true rfl⟩ (Nat.le_of_ble_eq_true rfl) (Nat.le_of_ble_eq_true rfl) (c_B_beginNumbers _ _) ?_
  refine wp_iconst (v := 0) d_B_numberByRoots_21 (by decide) ?_
  refine wp_istore4 d_B_numberByRoots_22 (by decide) rfl ?_
  rw [wrA_in hK (by decide)]
  have hF1 : Fp [16, 18, 19, 20, 21, 22, 23, 25, 26, 27, 28, 29] σ (wI (flA τ 25 0 4096) 29 K 0) := ((hF.up (by decide)).flA (by decide)).wI (by decide)
  have fl : ∀ q, q ≠ 25 → (flA τ 25 0 4096).1 q = τ.1 q := fun q hq => by simp [flA, hq]
  have tF : ∀ q, q ∉ tS → τ.1 q = σ.1 q := fun q hq => (hF q hq).1
  suffices H : ∀ i, i ≤ M → ∀ (υ : Hp) (b : Nat → Nat) (B : Nat) (l : Nat → Nat), Fp [25, 26, 27, 28, 29] τ υ → OC K σ υ → NS υ K i act b B l → WP m_B_numberByRoots 24 [.ref 15, .int (nI K), .int (nI F), .int (nI (F + T)), .int (nI i)] [] υ (fun r τ => r = none ∧ Fp [16, 18, 19, 20, 21, 22, 23, 25, 26, 27, 28, 29] σ τ ∧ OC K σ τ ∧ ∃ a b B l, NS τ K M a b B l ∧ ∀ e e', e < M → e' < M → (a e = a e' ↔ RQ sp T e e' ∧ RQ sp T e' e)) by
    refine H 0 (Nat.zero_le _) _ (fun _ => 0) 0 (fun _ => 0) ((Fp.rf.flA (by decide)).wI (by decide)) ⟨fun i _ => ⟨?_, ?_⟩, fun j hj => ?_⟩ ⟨RG.nil, FS.nil (fun s hs => ?_), fun e he => absurd he (Nat.not_lt_zero e), fun j hj => absurd hj (Nat.not_lt_zero j), ?_⟩
    · rw [wI_ne (by decide), fl 27 (by decide), tF 27 (by decide)]
    · rw [wI_ne (by decide), fl 28 (by decide), tF 28 (by decide)]
    · rw [wI_eq, upd_ne hj, fl 29 (by decide), tF 29 (by decide)]
    · rw [wI_ne (by decide)]; exact flA_in hs
    · rw [wI_eq, upd_eq]; rfl
  refine lp_nat (fun i hi ih υ b B l hF2 hO hN => ?_)
  have e3 : υ.1 3 6 = nI M := by rw [(hF2 3 (by decide)).1, tF 3 (by decide)]; exact h6
  refine wp_iload d_B_numberByRoots_24 rfl ?_
  refine wp_aload_n d_B_numberByRoots_26 rfl ?_
  refine wp_getA d_B_numberByRoots_27 fl_B_58 rfl rfl rfl ?_
  refine wp_getI d_B_numberByRoots_30 fl_B_88 rfl rfl (by decide) ?_
  refine wp_icmp_ge (tgt := 58) d_B_numberByRoots_33 (by decide) (fun hc => ?_) (fun hc => ?_)
  · rw [e3] at hc
    obtain rfl := Nat.le_antisymm hi (nI_ge2 hc (by omega) (by omega))
    refine wp_vret d_B_numberByRoots_58 rfl ?_
    exact ⟨rfl, (hF.up (by decide)).tr (hF2.up (by decide)), hO, act, b, B, l, hN, hrel⟩
  · rw [e3] at hc
    have hi2 := nI_nge hc (by omega) (by omega)
    have r21 : rdA υ 21 1500 (nI i) = nI (act i) := by rw [rdA_in (show i < 1500 by omega) (by decide), (hF2 21 (by decide)).1]; exact (hact i hi2).1
    refine wp_aload_n d_B_numberByRoots_36 rfl ?_
    refine wp_iload_n d_B_numberByRoots_37 rfl ?_
    refine wp_iload d_B_numberByRoots_38 rfl ?_
    refine wp_aload_n d_B_numberByRoots_40 rfl ?_
    refine wp_getA d_B_numberByRoots_41 fl_B_12 rfl rfl rfl ?_
    refine wp_iload d_B_numberByRoots_44 rfl ?_
    refine wp_callV1e d_B_numberByRoots_46 cv_B_106 rfl rfl rfl ⟨Nat.le_of_ble_eq_true rfl, Nat.le_of_ble_eq_true rfl⟩ (Nat.le_of_ble_eq_true rfl) (Nat.le_of_ble_eq_true rfl) (c_T_rootOf _ _) ?_
    rw [r21]
    refine wp_callV3 d_B_numberByRoots_49 cv_B_110 rfl rfl rfl ⟨Nat.le_of_ble_eq_true rfl, Nat.le_of_ble_eq_true rfl⟩ (Nat.le_of_ble_eq_true rfl) (Nat.le_of_ble_eq_true rfl) (v_B_giveNumber hK (by omega) (fun j hj => by have := (hact j (by omega)).2; omega) _ hN) (fun v ω hv => ?_)
    obtain ⟨rfl, hF3, hO3, b', B', l', hN'⟩ := hv
    show WP m_B_numberByRoots 52 _ [] ω _
    refine wp_iinc4 d_B_numberByRoots_52 (hn_ii1 _) (by decide) rfl ?_
    refine wp_goto (tgt := 24) d_B_numberByRoots_55 (by decide) ?_
    rw [nI_1]
    exact ih hi2 ω b' B' l' (hF2.tr hF3) (hO.tr hO3) hN'
/-- the cells are numbered: alike on both sides -/
theorem v_B_numberCells {M : Nat} {b1 b2 : Nat → Nat} (hM : M ≤ 1500) (σ : Hp) (h6 : σ.1 3 6 = nI M) (h1 : ∀ e, e < M → σ.1 27 (1500 * 1 + e) = nI (b1 e) ∧ b1 e < 1500) (h2 : ∀ e, e < M → σ.1 27 (1500 * 2 + e) = nI (b2 e) ∧ b2 e < 1500) : Ct m_B_numberCells [.ref 15] σ (fun r τ => r = none ∧ Fp [25, 26, 27, 28, 29] σ τ ∧ OC 3 σ τ ∧ ∃ b B l, NS τ 3 M (fun e => 1500 * b1 e + b2 e) b B l) := by
  show WP m_B_numberCells 0 [.ref 15, .null] [] σ _
  refine wp_aload_n d_B_numberCells_0 rfl ?_
  refine wp_iconst (v := 3) d_B_numberCells_1 (by decide) ?_
  refine wp_callV1v d_B_numberCells_2 cv_B_102 rfl rfl rfl ⟨Nat.le_of_ble_eq_true rfl, Nat.le_of_ble_eq_true rfl⟩ (Nat.le_of_ble_eq_true rfl) (Nat.le_of_ble_eq_true rfl) (c_B_beginNumbers _ _) ?_
  refine wp_iconst (v := 0) d_B_numberCells_5 (by decide) ?_
  refine wp_istore1 d_B_numberCells_6 (by decide) rfl ?_
  rw [show (3 : Int32) = nI 3 from rfl, wrA_in (show 3 < 4 by decide) (by decide)]
  have fl : ∀ q, q ≠ 25 → (flA σ 25 0 4096).1 q = σ.1 q := fun q hq => by simp [flA, hq]
  suffices H : ∀ i, i ≤ M → ∀ (υ : Hp) (b : Nat → Nat) (B : Nat) (l : Nat → Nat), Fp [25, 26, 27, 28, 29] σ υ → OC 3 σ υ → NS υ 3 i (fun e => 1500 * b1 e + b2 e) b B l → WP m_B_numberCells 7 [.ref 15, .int (nI i)] [] υ (fun r τ => r = none ∧ Fp [25, 26, 27, 28, 29] σ τ ∧ OC 3 σ τ ∧ ∃ b B l, NS τ 3 M (fun e => 1500 * b1 e + b2 e) b B l) by
    refine H 0 (Nat.zero_le _) _ (fun _ => 0) 0 (fun _ => 0) ((Fp.rf.flA (by decide)).wI (by decide)) ⟨fun i _ => ⟨?_, ?_⟩, fun j hj => ?_⟩ ⟨RG.nil, FS.nil (fun s hs => ?_), fun e he => absurd he (Nat.not_lt_zero e), fun j hj => absurd hj (Nat.not_lt_zero j), ?_⟩
    · rw [wI_ne (by decide), fl 27 (by decide)]
    · rw [wI_ne (by decide), fl 28 (by decide)]
    · rw [wI_eq, upd_ne hj, fl 29 (by decide)]
    · rw [wI_ne (by decide)]; exact flA_in hs
    · rw [wI_eq, upd_eq]; rfl
  refine lp_nat (fun i hi ih υ b B l hF2 hO hN => ?_)
  have e3 : υ.1 3 6 = nI M := by rw [(hF2 3 (by decide)).1]; exact h6
  refine wp_iload_n d_B_numberCells_7 rfl ?_
  refine wp_aload_n d_B_numberCells_8 rfl ?_
  refine wp_getA d_B_numberCells_9 fl_B_58 rfl rfl rfl ?_
  refine wp_getI d_B_numberCells_12 fl_B_88 rfl rfl (by decide) ?_
  refine wp_icmp_ge (tgt := 47) d_B_numberCells_15 (by decide) (fun hc => ?_) (fun hc => ?_)
  · rw [e3] at hc
    obtain rfl := Nat.le_antisymm hi (nI_ge2 hc (by omega) (by omega))
    refine wp_vret d_B_numberCells_47 rfl ?_
    exact ⟨rfl, hF2, hO, b, B, l, hN⟩
  · rw [e3] at hc
    have hi2 := nI_nge hc (by omega) (by omega)
    have r1 : rdA υ 27 6000 (nI 1 * 1500 + nI i) = nI (b1 i) := by rw [col_nI, rdA_in (by omega) (by decide), (hO.1 _ (fun x hx => by omega)).1]; exact (h1 i hi2).1
    have r2 : rdA υ 27 6000 (nI 2 * 1500 + nI i) = nI (b2 i) := by rw [col_nI, rdA_in (by omega) (by decide), (hO.1 _ (fun x hx => by omega)).1]; exact (h2 i hi2).1
    refine wp_aload_n d_B_numberCells_18 rfl ?_
    refine wp_iconst (v := 3) d_B_numberCells_19 (by decide) ?_
    refine wp_iload_n d_B_numberCells_20 rfl ?_
    refine wp_aload_n d_B_numberCells_21 rfl ?_
    refine wp_iconst (v := 1) d_B_numberCells_22 (by decide) ?_
    refine wp_iload_n d_B_numberCells_23 rfl ?_
    refine wp_callV2e d_B_numberCells_24 cv_B_113 rfl rfl rfl ⟨Nat.le_of_ble_eq_true rfl, Nat.le_of_ble_eq_true rfl⟩ (Nat.le_of_ble_eq_true rfl) (Nat.le_of_ble_eq_true rfl) (c_B_numberOf _ _ _) ?_
    refine wp_sipush (v := 1500) d_B_numberCells_27 (by decide) ?_
    refine wp_imul d_B_numberCells_30 ?_
    refine wp_aload_n d_B_numberCells_31 rfl ?_
    refine wp_iconst (v := 2) d_B_numberCells_32 (by decide) ?_
    refine wp_iload_n d_B_numberCells_33 rfl ?_
    refine wp_callV2e d_B_numberCells_34 cv_B_113 rfl rfl rfl ⟨Nat.le_of_ble_eq_true rfl, Nat.le_of_ble_eq_true rfl⟩ (Nat.le_of_ble_eq_true rfl) (Nat.le_of_ble_eq_true rfl) (c_B_numberOf _ _ _) ?_
    refine wp_iadd d_B_numberCells_37 ?_
    rw [show rdA υ 27 6000 (1 * 1500 + nI i) = nI (b1 i) from r1, show rdA υ 27 6000 (2 * 1500 + nI i) = nI (b2 i) from r2, col_nI]
    have hab : ∀ j, j ≤ i → (fun e => 1500 * b1 e + b2 e) j + 1 < 2 ^ 31 := fun j hj => by
      try dsimp only
      have := (h1 j (by omega)).2
      have := (h2 j (by omega)).2
      omega
    refine wp_callV3 d_B_numberCells_38 cv_B_110 rfl rfl rfl ⟨Nat.le_of_ble_eq_true rfl, Nat.le_of_ble_eq_true rfl⟩ (Nat.le_of_ble_eq_true rfl) (Nat.le_of_ble_eq_true rfl) (v_B_giveNumber (K := 3) (by decide) (by omega) hab _ hN) (fun v ω hv => ?_)
    obtain ⟨rfl, hF3, hO3, b', B', l', hN'⟩ := hv
    show WP m_B_numberCells 41 _ [] ω _
    refine wp_iinc1 d_B_numberCells_41 (hn_ii1 _) (by decide) rfl ?_
    refine wp_goto (tgt := 7) d_B_numberCells_44 (by decide) ?_
    rw [nI_1]
    exact ih hi2 ω b' B' l' (hF2.tr hF3) (hO.tr hO3) hN'
