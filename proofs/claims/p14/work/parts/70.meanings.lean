/-! meanings: the class's answer -/
theorem v_A_isNew {k M : Nat} {κ : Nat → Nat} (σ : Hp) (h : FSv (σ.1 52) (σ.1 53) κ (fun _ => 0) M) (hM : M < 4096) (hκ : ∀ j, j < M → κ j + 1 < 2 ^ 31) (hk : k + 1 < 2 ^ 31) : Ct m_A_isNew [.ref 48, .int (nI k)] σ (fun w τ => Fp nS σ τ ∧ ((w = some (.int 0) ∧ τ = σ ∧ ∃ j, j < M ∧ κ j = k) ∨ (w = some (.int 1) ∧ (∀ j, j < M → κ j ≠ k) ∧ FSv (τ.1 52) (τ.1 53) (fun j => if j = M then k else κ j) (fun _ => 0) (M + 1)))) := by
  show WP m_A_isNew 0 [.ref 48, .int (nI k)] [] σ _
  refine wp_aload_n d_A_isNew_0 rfl ?_
  refine wp_getA d_A_isNew_1 fl_A_21 rfl rfl rfl ?_
  refine wp_iload_n d_A_isNew_4 rfl ?_
  refine wp_callV1e d_A_isNew_5 cv_A_152 rfl rfl rfl ⟨Nat.le_of_ble_eq_true rfl, Nat.le_of_ble_eq_true rfl⟩ (Nat.le_of_ble_eq_true rfl) (Nat.le_of_ble_eq_true rfl) (c_F_look fiK_51 _ _) ?_
  by_cases q : ∃ j, j < M ∧ κ j = k
  · obtain ⟨j, hj, e⟩ := q
    have hl := h.look hj
    rw [e] at hl
    have hl : lkF σ 52 53 (nI k) = 0 := hl
    rw [hl]
    refine wp_bipush (v := -9) d_A_isNew_8 (by decide) ?_
    refine wp_icmp_eq (tgt := 15) d_A_isNew_10 (by decide) (fun hc => ?_) (fun hc => ?_)
    · exact absurd hc (by decide)
    · refine wp_iconst (v := 0) d_A_isNew_13 (by decide) ?_
      refine wp_zret d_A_isNew_14 rfl ?_ ?_
      · decide
      · exact ⟨Fp.rf, Or.inl ⟨rfl, rfl, j, hj, e⟩⟩
  · have hn : ∀ j, j < M → κ j ≠ k := fun j hj e => q ⟨j, hj, e⟩
    rw [h.no hM hκ hk hn]
    refine wp_bipush (v := -9) d_A_isNew_8 (by decide) ?_
    refine wp_icmp_eq (tgt := 15) d_A_isNew_10 (by decide) (fun hc => ?_) (fun hc => ?_)
    · refine wp_aload_n d_A_isNew_15 rfl ?_
      refine wp_getA d_A_isNew_16 fl_A_21 rfl rfl rfl ?_
      refine wp_iload_n d_A_isNew_19 rfl ?_
      refine wp_iconst (v := 0) d_A_isNew_20 (by decide) ?_
      refine wp_callV2v d_A_isNew_21 cv_A_155 rfl rfl rfl ⟨Nat.le_of_ble_eq_true rfl, Nat.le_of_ble_eq_true rfl⟩ (Nat.le_of_ble_eq_true rfl) (Nat.le_of_ble_eq_true rfl) (c_F_keep fiK_51 _ _ _) ?_
      refine wp_iconst (v := 1) d_A_isNew_24 (by decide) ?_
      refine wp_zret d_A_isNew_25 rfl ?_ ?_
      · decide
      · have hk2 := h.keep (v := 0) (by decide) hM hκ hk hn
        rw [show nI 0 = (0 : Int32) from rfl] at hk2
        refine ⟨kpW_Fp Fp.rf (by decide) (by decide), Or.inr ⟨rfl, hn, hk2.cg (fun _ _ => rfl) (fun j _ => ?_)⟩⟩
        try dsimp only
        split <;> rfl
    · exact absurd rfl hc
theorem v_A_countMeanings {N L s e : Nat} {lm : Nat → Nat} (σ : Hp) (hX : XS σ (N, L, lm, s, e)) (hE : EL σ N L lm) (hM : EM σ (EQ N L lm).length) : Ct m_A_countMeanings [.ref 48] σ (fun w τ => w = some (.int (meF N L lm (it (fun _ S => rcS N L lm S) N (2 ^ s)) e 0 (EQ N L lm).length)) ∧ Fp nS σ τ) := by
  have hI := hX.1
  have h0 : 0 < N := by have := hI.2.1; omega
  have h6 := hI.2.2.1
  have hs := hX.2.2.1.1
  obtain ⟨T, hTe⟩ : ∃ T, T = it (fun _ S => rcS N L lm S) N (2 ^ s) := ⟨_, rfl⟩
  have hT : T < 2 ^ N := by rw [hTe]; exact rcit_lt h0 (pow2_lt hs) N
  have hC : CTs N L lm T := by rw [hTe]; exact rc_CT h0 hs
  have hlm : lmF σ N L = Oc N (HX σ N L e T) := by
    rw [lmF, sf_nI hX, hX.2.2.2.1.2, ← hTe]
    exact lm_HF h6 hT N (Nat.le_refl _)
  have h8 : D8 N (HX σ N L e T) := HFn_8 h6
  have hW := EQ_Wd (L := L) (lm := lm) h0
  have h15 := hE.len
  rw [← hTe]
  obtain ⟨ky, hky⟩ : ∃ ky : Nat → Nat, ky = fun x => mpN N (Gn N (HX σ N L e T) (itm (EQ N L lm) x)) := ⟨_, rfl⟩
  have kyl : ∀ x, ky x + 1 < 2 ^ 31 := fun x => by
    have := mpN_lt (N := N) (x := Gn N (HX σ N L e T) (itm (EQ N L lm) x)) h0 h6
    rw [hky]
    try dsimp only
    omega
  have kye : ∀ x y, x < (EQ N L lm).length → y < (EQ N L lm).length → (ky x = ky y ↔ mgE N L lm T e x = mgE N L lm T e y) := fun x y hx hy => by
    rw [hky]
    unfold mgE
    rw [← Gn_mg hX hT hC (hW x hx) (hW y hy)]
    exact ⟨fun z => mpN_inj h0 h6 (Gn_lt (HX_go hX hT hC (hW x hx))) (Gn_lt (HX_go hX hT hC (hW y hy))) z, fun z => by
      try dsimp only
      rw [z]⟩
  show WP m_A_countMeanings 0 [.ref 48, .null, .null, .null] [] σ _
  refine wp_aload_n d_A_countMeanings_0 rfl ?_
  refine wp_callV0e d_A_countMeanings_1 cv_A_103 rfl rfl rfl ⟨Nat.le_of_ble_eq_true rfl, Nat.le_of_ble_eq_true rfl⟩ (Nat.le_of_ble_eq_true rfl) (Nat.le_of_ble_eq_true rfl) (c_A_leastMachine _ hI) ?_
  refine wp_istore1 d_A_countMeanings_4 (by decide) rfl ?_
  refine wp_iconst (v := 0) d_A_countMeanings_5 (by decide) ?_
  refine wp_istore2 d_A_countMeanings_6 (by decide) rfl ?_
  refine wp_aload_n d_A_countMeanings_7 rfl ?_
  refine wp_getA d_A_countMeanings_8 fl_A_21 rfl rfl rfl ?_
  refine wp_callV0v d_A_countMeanings_11 cv_A_139 rfl rfl rfl ⟨Nat.le_of_ble_eq_true rfl, Nat.le_of_ble_eq_true rfl⟩ (Nat.le_of_ble_eq_true rfl) (Nat.le_of_ble_eq_true rfl) (c_F_clear fiK_51 _) ?_
  refine wp_iconst (v := 0) d_A_countMeanings_14 (by decide) ?_
  refine wp_istore3 d_A_countMeanings_15 (by decide) rfl ?_
  suffices H : ∀ i, i ≤ (EQ N L lm).length → ∀ (τ : Hp) (κ : Nat → Nat) (M' : Nat), Fp nS σ τ → FSv (τ.1 52) (τ.1 53) κ (fun _ => 0) M' → M' ≤ i → (∀ j, j < M' → κ j + 1 < 2 ^ 31) → (∀ v, (∃ j, j < M' ∧ κ j = v) ↔ ∃ x, x < i ∧ ky x = v) → WP m_A_countMeanings 16 [.ref 48, .int (lmF σ N L), .int (nI (sm (fun x => if nwB N L lm T e 0 x = true then 1 else 0) i)), .int (nI i)] [] τ (fun w τ => w = some (.int (meF N L lm T e 0 (EQ N L lm).length)) ∧ Fp nS σ τ) from H 0 (Nat.zero_le _) _ (fun _ => 0) 0 (Fp.rf.flA (by decide)) (FSv.nil (fun s hs => flA_in hs)) (Nat.le_refl _) (fun j hj => absurd hj (Nat.not_lt_zero j)) (fun v => ⟨fun ⟨j, hj, _⟩ => absurd hj (Nat.not_lt_zero j), fun ⟨j, hj, _⟩ => absurd hj (Nat.not_lt_zero j)⟩)
  refine lp_nat (fun i hi ih τ κ M' hF hS hMi hκ hset => ?_)
  have hM2 := hF.EM (by decide) hM
  have hE2 := hE.mv hF (by decide)
  have hI := hF.KI (by decide) hI
  refine wp_iload_n d_A_countMeanings_16 rfl ?_
  refine wp_aload_n d_A_countMeanings_17 rfl ?_
  refine wp_getA d_A_countMeanings_18 fl_A_36 rfl rfl rfl ?_
  refine wp_getI d_A_countMeanings_21 fl_A_142 rfl rfl (by decide) ?_
  refine wp_icmp_ge (tgt := 56) d_A_countMeanings_24 (by decide) (fun hc => ?_) (fun hc => ?_)
  · rw [hM2.m] at hc
    obtain rfl := Nat.le_antisymm hi (nI_ge2 hc (by omega) (by omega))
    refine wp_iload_n d_A_countMeanings_56 rfl ?_
    refine wp_iret d_A_countMeanings_57 rfl ?_
    exact ⟨rfl, hF⟩
  · rw [hM2.m] at hc
    have hi2 := nI_nge hc (by omega) (by omega)
    refine wp_iload_n d_A_countMeanings_27 rfl ?_
    refine wp_aload_n d_A_countMeanings_28 rfl ?_
    refine wp_aload_n d_A_countMeanings_29 rfl ?_
    refine wp_aload_n d_A_countMeanings_30 rfl ?_
    refine wp_getA d_A_countMeanings_31 fl_A_36 rfl rfl rfl ?_
    refine wp_iload_n d_A_countMeanings_34 rfl ?_
    refine wp_callV1e d_A_countMeanings_35 cv_A_145 rfl rfl rfl ⟨Nat.le_of_ble_eq_true rfl, Nat.le_of_ble_eq_true rfl⟩ (Nat.le_of_ble_eq_true rfl) (Nat.le_of_ble_eq_true rfl) (c_E_map _ _) ?_
    refine wp_iload_n d_A_countMeanings_38 rfl ?_
    refine wp_callV2e d_A_countMeanings_39 cv_A_146 rfl rfl rfl ⟨Nat.le_of_ble_eq_true rfl, Nat.le_of_ble_eq_true rfl⟩ (Nat.le_of_ble_eq_true rfl) (Nat.le_of_ble_eq_true rfl) (c_A_meaning _ _ _ hI) ?_
    rw [hlm, rdA_in (show i < 1500 by omega) (by decide), hE2.at hi2, mg_mp h0 h6 h8 (HX_go hX hT hC (hW i hi2))]
    rw [show mpN N (Gn N (HX σ N L e T) (itm (EQ N L lm) i)) = ky i by rw [hky]]
    refine wp_callV1 d_A_countMeanings_42 cv_A_149 rfl rfl rfl ⟨Nat.le_of_ble_eq_true rfl, Nat.le_of_ble_eq_true rfl⟩ (Nat.le_of_ble_eq_true rfl) (Nat.le_of_ble_eq_true rfl) (v_A_isNew _ hS (by omega) hκ (kyl i)) (fun v υ hv => ?_)
    obtain ⟨hF2, hv⟩ := hv
    have hnw : nwB N L lm T e 0 i = true ↔ ∀ k, k < i → ky k ≠ ky i := by
      rw [nwB, if_pos rfl, List.all_eq_true]
      constructor
      · intro z k hk e1
        exact of_decide_eq_true (z k (List.mem_range.mpr hk)) ((kye k i (by omega) hi2).mp e1)
      · intro z k hk
        have hk := List.mem_range.mp hk
        exact decide_eq_true (fun e1 => z k hk ((kye k i (by omega) hi2).mpr e1))
    have smS : sm (fun x => if nwB N L lm T e 0 x = true then 1 else 0) (i + 1) = sm (fun x => if nwB N L lm T e 0 x = true then 1 else 0) i + (if nwB N L lm T e 0 i = true then 1 else 0) := rfl
    rcases hv with ⟨rfl, rfl, hv⟩ | ⟨rfl, hv, hS2⟩
    · obtain ⟨x, hx, ex⟩ := (hset (ky i)).mp hv
      have hno : ¬ nwB N L lm T e 0 i = true := fun z => hnw.mp z x hx ex
      rw [if_neg hno] at smS
      show WP m_A_countMeanings 45 _ [.int (bz False), _] _ _
      refine wp_callSN1e d_A_countMeanings_45 csn_A_107 ⟨Nat.le_of_ble_eq_true rfl, Nat.le_of_ble_eq_true rfl⟩ (Nat.le_of_ble_eq_true rfl) (Nat.le_of_ble_eq_true rfl) (c_P_oneIf _ _) ?_
      refine wp_iadd d_A_countMeanings_48 ?_
      refine wp_istore2 d_A_countMeanings_49 (by decide) rfl ?_
      refine wp_iinc3 d_A_countMeanings_50 (hn_ii1 _) (by decide) rfl ?_
      refine wp_goto (tgt := 16) d_A_countMeanings_53 (by decide) ?_
      rw [nI_1, show nI (sm (fun x => if nwB N L lm T e 0 x = true then 1 else 0) i) + bz False = nI (sm (fun x => if nwB N L lm T e 0 x = true then 1 else 0) (i + 1)) by rw [smS, Nat.add_zero]; exact Int32.add_zero _, ← hlm]
      refine ih hi2 _ κ M' hF hS (by omega) hκ (fun v => (hset v).trans ⟨fun ⟨x, a, b⟩ => ⟨x, by omega, b⟩, fun ⟨y, a, b⟩ => ?_⟩)
      rcases Nat.lt_or_ge y i with q | q
      · exact ⟨y, q, b⟩
      · rw [show y = i by omega] at b
        exact ⟨x, hx, ex.trans b⟩
    · have hyes : nwB N L lm T e 0 i = true := hnw.mpr (fun k hk e1 => by
        obtain ⟨j, hj, ej⟩ := (hset (ky i)).mpr ⟨k, hk, e1⟩
        exact hv j hj ej)
      rw [if_pos hyes] at smS
      show WP m_A_countMeanings 45 _ [.int (bz True), _] _ _
      refine wp_callSN1e d_A_countMeanings_45 csn_A_107 ⟨Nat.le_of_ble_eq_true rfl, Nat.le_of_ble_eq_true rfl⟩ (Nat.le_of_ble_eq_true rfl) (Nat.le_of_ble_eq_true rfl) (c_P_oneIf _ _) ?_
      refine wp_iadd d_A_countMeanings_48 ?_
      refine wp_istore2 d_A_countMeanings_49 (by decide) rfl ?_
      refine wp_iinc3 d_A_countMeanings_50 (hn_ii1 _) (by decide) rfl ?_
      refine wp_goto (tgt := 16) d_A_countMeanings_53 (by decide) ?_
      rw [nI_1, show nI (sm (fun x => if nwB N L lm T e 0 x = true then 1 else 0) i) + bz True = nI (sm (fun x => if nwB N L lm T e 0 x = true then 1 else 0) (i + 1)) by rw [smS, ← nI_add]; rfl, ← hlm]
      refine ih hi2 _ _ (M' + 1) (hF.tr hF2) hS2 (by omega) (fun j hj => ?_) (fun v => ⟨fun ⟨j, hj, ej⟩ => ?_, fun ⟨y, hy, ey⟩ => ?_⟩)
      · try dsimp only
        split
        · exact kyl i
        · exact hκ j (by omega)
      · try dsimp only at ej
        by_cases q : j = M'
        · rw [if_pos q] at ej
          exact ⟨i, by omega, ej⟩
        · rw [if_neg q] at ej
          obtain ⟨x, hx, ex⟩ := (hset v).mp ⟨j, by omega, ej⟩
          exact ⟨x, by omega, ex⟩
      · rcases Nat.lt_or_ge y i with q | q
        · obtain ⟨j, hj, ej⟩ := (hset v).mpr ⟨y, q, ey⟩
          exact ⟨j, by omega, by
            try dsimp only
            rw [if_neg (by omega)]
            exact ej⟩
        · rw [show y = i by omega] at ey
          exact ⟨M', by omega, by
            try dsimp only
            rw [if_pos rfl]
            exact ey⟩
theorem v_A_isStarless {N L s e : Nat} {lm : Nat → Nat} (σ : Hp) (hX : XS σ (N, L, lm, s, e)) (hE : EL σ N L lm) (hM : EM σ (EQ N L lm).length) : Ct m_A_isStarless [.ref 48] σ (fun w τ => w = some (.int (meF N L lm (it (fun _ S => rcS N L lm S) N (2 ^ s)) e 1 (EQ N L lm).length)) ∧ Fp [49, 50] σ τ) := by
  have hI := hX.1
  have h0 : 0 < N := by have := hI.2.1; omega
  have h6 := hI.2.2.1
  have hs := hX.2.2.1.1
  obtain ⟨T, hTe⟩ : ∃ T, T = it (fun _ S => rcS N L lm S) N (2 ^ s) := ⟨_, rfl⟩
  have hT : T < 2 ^ N := by rw [hTe]; exact rcit_lt h0 (pow2_lt hs) N
  have hC : CTs N L lm T := by rw [hTe]; exact rc_CT h0 hs
  have hlm : lmF σ N L = Oc N (HX σ N L e T) := by
    rw [lmF, sf_nI hX, hX.2.2.2.1.2, ← hTe]
    exact lm_HF h6 hT N (Nat.le_refl _)
  have h8 : D8 N (HX σ N L e T) := HFn_8 h6
  have hW := EQ_Wd (L := L) (lm := lm) h0
  have h15 := hE.len
  rw [← hTe]
  have hsr : ∀ x, x < (EQ N L lm).length → (srB N L lm T e 1 x = true ↔ rgN N (Gn N (HX σ N L e T) (itm (EQ N L lm) x)) ≤ 1) := fun x hx => by
    have hw := hW x hx
    rw [srB, if_pos rfl, decide_eq_true_eq, rg_1, Gn_pw hX hT hC hw, Gn_pw hX hT hC hw, Gn_mg hX hT hC (hw.pw h0 13) (hw.pw h0 12)]
    exact ⟨fun z => z.symm, fun z => z.symm⟩
  show WP m_A_isStarless 0 [.ref 48, .null, .null] [] σ _
  refine wp_aload_n d_A_isStarless_0 rfl ?_
  refine wp_callV0e d_A_isStarless_1 cv_A_103 rfl rfl rfl ⟨Nat.le_of_ble_eq_true rfl, Nat.le_of_ble_eq_true rfl⟩ (Nat.le_of_ble_eq_true rfl) (Nat.le_of_ble_eq_true rfl) (c_A_leastMachine _ hI) ?_
  refine wp_istore1 d_A_isStarless_4 (by decide) rfl ?_
  refine wp_iconst (v := 0) d_A_isStarless_5 (by decide) ?_
  refine wp_istore2 d_A_isStarless_6 (by decide) rfl ?_
  suffices H : ∀ i, i ≤ (EQ N L lm).length → ∀ (τ : Hp), Fp [49, 50] σ τ → (∀ x, x < i → srB N L lm T e 1 x = true) → WP m_A_isStarless 7 [.ref 48, .int (lmF σ N L), .int (nI i)] [] τ (fun w τ => w = some (.int (meF N L lm T e 1 (EQ N L lm).length)) ∧ Fp [49, 50] σ τ) from H 0 (Nat.zero_le _) _ Fp.rf (fun x hx => absurd hx (Nat.not_lt_zero x))
  refine lp_nat (fun i hi ih τ hF hall => ?_)
  have hM2 := hF.EM (by decide) hM
  have hE2 := hE.mv hF (by decide)
  have hI := hF.KI (by decide) hI
  have em : meF N L lm T e 1 (EQ N L lm).length = bz ((List.range (EQ N L lm).length).all (fun x => srB N L lm T e 1 x) = true) := rfl
  rw [em] at ih ⊢
  refine wp_iload_n d_A_isStarless_7 rfl ?_
  refine wp_aload_n d_A_isStarless_8 rfl ?_
  refine wp_getA d_A_isStarless_9 fl_A_36 rfl rfl rfl ?_
  refine wp_getI d_A_isStarless_12 fl_A_142 rfl rfl (by decide) ?_
  refine wp_icmp_ge (tgt := 64) d_A_isStarless_15 (by decide) (fun hc => ?_) (fun hc => ?_)
  · rw [hM2.m] at hc
    obtain rfl := Nat.le_antisymm hi (nI_ge2 hc (by omega) (by omega))
    refine wp_iconst (v := 1) d_A_isStarless_64 (by decide) ?_
    refine wp_zret d_A_isStarless_65 rfl ?_ ?_
    · decide
    · exact ⟨by rw [bz_t (List.all_eq_true.mpr (fun x hx => hall x (List.mem_range.mp hx)))], hF⟩
  · rw [hM2.m] at hc
    have hi2 := nI_nge hc (by omega) (by omega)
    have gl := Gn_lt (HX_go hX hT hC (hW i hi2))
    refine wp_aload_n d_A_isStarless_18 rfl ?_
    refine wp_getA d_A_isStarless_19 fl_A_12 rfl rfl rfl ?_
    refine wp_aload_n d_A_isStarless_22 rfl ?_
    refine wp_aload_n d_A_isStarless_23 rfl ?_
    refine wp_getA d_A_isStarless_24 fl_A_36 rfl rfl rfl ?_
    refine wp_iload_n d_A_isStarless_27 rfl ?_
    refine wp_callV1e d_A_isStarless_28 cv_A_145 rfl rfl rfl ⟨Nat.le_of_ble_eq_true rfl, Nat.le_of_ble_eq_true rfl⟩ (Nat.le_of_ble_eq_true rfl) (Nat.le_of_ble_eq_true rfl) (c_E_map _ _) ?_
    refine wp_iload_n d_A_isStarless_31 rfl ?_
    refine wp_callV2e d_A_isStarless_32 cv_A_146 rfl rfl rfl ⟨Nat.le_of_ble_eq_true rfl, Nat.le_of_ble_eq_true rfl⟩ (Nat.le_of_ble_eq_true rfl) (Nat.le_of_ble_eq_true rfl) (c_A_meaning _ _ _ hI) ?_
    refine wp_aload_n d_A_isStarless_35 rfl ?_
    refine wp_getA d_A_isStarless_36 fl_A_32 rfl rfl rfl ?_
    refine wp_getI d_A_isStarless_39 fl_A_64 rfl rfl (by decide) ?_
    rw [hI.1, hlm, rdA_in (show i < 1500 by omega) (by decide), hE2.at hi2, mg_mp h0 h6 h8 (HX_go hX hT hC (hW i hi2))]
    refine wp_callV2 d_A_isStarless_42 cv_A_159 rfl rfl rfl ⟨Nat.le_of_ble_eq_true rfl, Nat.le_of_ble_eq_true rfl⟩ (Nat.le_of_ble_eq_true rfl) (Nat.le_of_ble_eq_true rfl) (c_O_listOf poK_49 (by decide) _ (by omega) _) (fun v υ hv => ?_)
    obtain ⟨rfl, hv⟩ := hv
    obtain ⟨kk, q1, q2, q3, q4, -, -, -, hF2⟩ := ls_mp h0 h6 gl hv
    have er : υ.1 49 1 - υ.1 49 2 = nI (rgN N (Gn N (HX σ N L e T) (itm (EQ N L lm) i))) := by
      rw [q2, q3, pk_sub (by omega)]
      congr 1
      omega
    show WP m_A_isStarless 45 _ [] υ _
    refine wp_aload_n d_A_isStarless_45 rfl ?_
    refine wp_getA d_A_isStarless_46 fl_A_12 rfl rfl rfl ?_
    refine wp_callV0e d_A_isStarless_49 cv_A_162 rfl rfl rfl ⟨Nat.le_of_ble_eq_true rfl, Nat.le_of_ble_eq_true rfl⟩ (Nat.le_of_ble_eq_true rfl) (Nat.le_of_ble_eq_true rfl) (c_O_ring poK_49 _) ?_
    rw [er]
    refine wp_iconst (v := 1) d_A_isStarless_52 (by decide) ?_
    refine wp_icmp_le (tgt := 58) d_A_isStarless_53 (by decide) (fun hc2 => ?_) (fun hc2 => ?_)
    · have hle : rgN N (Gn N (HX σ N L e T) (itm (EQ N L lm) i)) ≤ 1 := nI_ge2 (a := 1) hc2 (by decide) (by omega)
      refine wp_iinc2 d_A_isStarless_58 (hn_ii1 _) (by decide) rfl ?_
      refine wp_goto (tgt := 7) d_A_isStarless_61 (by decide) ?_
      rw [nI_1, ← hlm]
      exact ih hi2 _ (hF.tr hF2) (lt_s hall ((hsr i hi2).mpr hle))
    · have hgt : 1 < rgN N (Gn N (HX σ N L e T) (itm (EQ N L lm) i)) := nI_nge (a := 1) hc2 (by decide) (by omega)
      refine wp_iconst (v := 0) d_A_isStarless_56 (by decide) ?_
      refine wp_zret d_A_isStarless_57 rfl ?_ ?_
      · decide
      · exact ⟨by rw [bz_f (fun z => by
          have := (hsr i hi2).mp (List.all_eq_true.mp z i (List.mem_range.mpr hi2))
          omega)], hF.tr hF2⟩
theorem xv_meanings (w : Int32) {σ : Hp} {a : Sx} (hX : XS σ a) : Ct m_P_meanings [.ref 0, .int w] σ (YX σ a (aeMe w a)) := by
  obtain ⟨N, L, lm, s, e⟩ := a
  obtain ⟨M, hM, hf1, hf2⟩ := hX.2.2.2.2
  have hI := hX.1
  have h0 : 0 < N := by have := hI.2.1; omega
  have hs := hX.2.2.1.1
  have hRc : RcOf N L lm s (it (fun _ S => rcS N L lm S) N (2 ^ s)) := ⟨rcit_lt h0 (pow2_lt hs) N, rc_fix h0 hs, N, rfl⟩
  suffices H : Ct m_P_meanings [.ref 0, .int w] σ (Rq σ (aeMe w (N, L, lm, s, e))) from H.im (fun w τ hr => hr.yx hX (fun z hz => hz))
  show WP m_P_meanings 0 [.ref 0, .int w] [] σ _
  refine wp_iload_n d_P_meanings_0 rfl ?_
  refine wp_iconst (v := 0) d_P_meanings_1 (by decide) ?_
  refine wp_iconst (v := 1) d_P_meanings_2 (by decide) ?_
  refine wp_callS3e d_P_meanings_3 cs_P_62 ⟨Nat.le_of_ble_eq_true rfl, Nat.le_of_ble_eq_true rfl⟩ (Nat.le_of_ble_eq_true rfl) (Nat.le_of_ble_eq_true rfl) (c_P_within _ _ _ _) ?_
  refine wp_if_ne (tgt := 11) d_P_meanings_6 (by decide) (fun hc => ?_) (fun hc => ?_)
  · obtain ⟨j, hj, rfl⟩ := wi_nI (m := 1) (by decide) (bz_n0 hc)
    refine wp_aload_n d_P_meanings_11 rfl ?_
    refine wp_getA d_P_meanings_12 fl_P_21 rfl rfl rfl ?_
    refine wp_callV0 d_P_meanings_15 cv_P_100 rfl rfl rfl ⟨Nat.le_of_ble_eq_true rfl, Nat.le_of_ble_eq_true rfl⟩ (Nat.le_of_ble_eq_true rfl) (Nat.le_of_ble_eq_true rfl) (c_E_ready _ hI hX.2.1 hM) (fun v τ hv => ?_)
    obtain ⟨hF, ⟨M', hM'⟩, hv⟩ := hv
    have hFp : Fp pS σ τ := hF.up (upS (by decide))
    rcases hv with ⟨rfl, hE⟩ | ⟨rfl, hE⟩
    · show WP m_P_meanings 18 _ [.int 0] τ _
      refine wp_if_ne (tgt := 24) d_P_meanings_18 (by decide) (fun hc2 => ?_) (fun hc2 => ?_)
      · exact absurd rfl hc2
      · refine wp_bipush (v := -5) d_P_meanings_21 (by decide) ?_
        refine wp_iret d_P_meanings_23 rfl ?_
        exact ⟨⟨_, rfl, Or.inl ⟨j, hj, rfl, Or.inl ⟨hE.2.1, rfl⟩⟩⟩, hFp, M', hM'⟩
    · have hMM := hE.M hM'
      subst hMM
      have hX' : XS τ (N, L, lm, s, e) := hX.fp hF hM' (by decide) (by decide) (by decide) (by rw [(hF 36 (by decide)).1]) (by rw [(hF 42 (by decide)).1])
      show WP m_P_meanings 18 _ [.int 1] τ _
      refine wp_if_ne (tgt := 24) d_P_meanings_18 (by decide) (fun hc2 => ?_) (fun hc2 => ?_)
      · refine wp_iload_n d_P_meanings_24 rfl ?_
        refine wp_if_ne (tgt := 38) d_P_meanings_25 (by decide) (fun hc3 => ?_) (fun hc3 => ?_)
        · have hj1 : j = 1 := by
            rcases (show j = 0 ∨ j = 1 by omega) with q | q
            · rw [q] at hc3; exact absurd rfl hc3
            · exact q
          subst hj1
          refine wp_aload_n d_P_meanings_38 rfl ?_
          refine wp_getA d_P_meanings_39 fl_P_58 rfl rfl rfl ?_
          refine wp_callV0 d_P_meanings_42 cv_P_224 rfl rfl rfl ⟨Nat.le_of_ble_eq_true rfl, Nat.le_of_ble_eq_true rfl⟩ (Nat.le_of_ble_eq_true rfl) (Nat.le_of_ble_eq_true rfl) (v_A_isStarless _ hX' hE hM') (fun v υ hv => ?_)
          obtain ⟨rfl, hF2⟩ := hv
          show WP m_P_meanings 45 _ [.int (bz ((List.range (EQ N L lm).length).all (fun x => srB N L lm (it (fun _ S => rcS N L lm S) N (2 ^ s)) e 1 x) = true))] υ _
          refine wp_callS1e d_P_meanings_45 cs_P_157 ⟨Nat.le_of_ble_eq_true rfl, Nat.le_of_ble_eq_true rfl⟩ (Nat.le_of_ble_eq_true rfl) (Nat.le_of_ble_eq_true rfl) (c_P_oneIf _ _) ?_
          refine wp_iret d_P_meanings_48 rfl ?_
          exact ⟨⟨_, rfl, Or.inl ⟨1, hj, rfl, Or.inr ⟨hE.len, _, hRc, rfl⟩⟩⟩, hFp.tr (hF2.up (upS (by decide))), _, hF2.EM (by decide) hM'⟩
        · have hj0 : j = 0 := (nI_eq (by omega) (by decide)).mp (show nI j = nI 0 from hc3)
          subst hj0
          refine wp_aload_n d_P_meanings_28 rfl ?_
          refine wp_getA d_P_meanings_29 fl_P_58 rfl rfl rfl ?_
          refine wp_callV0 d_P_meanings_32 cv_P_221 rfl rfl rfl ⟨Nat.le_of_ble_eq_true rfl, Nat.le_of_ble_eq_true rfl⟩ (Nat.le_of_ble_eq_true rfl) (Nat.le_of_ble_eq_true rfl) (v_A_countMeanings _ hX' hE hM') (fun v υ hv => ?_)
          obtain ⟨rfl, hF2⟩ := hv
          show WP m_P_meanings 35 _ [.int (meF N L lm (it (fun _ S => rcS N L lm S) N (2 ^ s)) e 0 (EQ N L lm).length)] υ _
          refine wp_goto (tgt := 48) d_P_meanings_35 (by decide) ?_
          refine wp_iret d_P_meanings_48 rfl ?_
          exact ⟨⟨_, rfl, Or.inl ⟨0, hj, rfl, Or.inr ⟨hE.len, _, hRc, rfl⟩⟩⟩, hFp.tr (hF2.up (upS (by decide))), _, hF2.EM (by decide) hM'⟩
      · exact absurd hc2 (by decide)
  · refine wp_iconst (v := -1) d_P_meanings_9 (by decide) ?_
    refine wp_iret d_P_meanings_10 rfl ?_
    exact ⟨⟨_, rfl, Or.inr ⟨bz_0.mp hc, rfl⟩⟩, Fp.rf, M, hM⟩
theorem un_meanings {w z z' : Int32} {σ : Hp} {a : Sx} (hX : XS σ a) (h : aeMe w a z) (h' : aeMe w a z') : z = z' := by
  obtain ⟨N, L, lm, s, e⟩ := a
  have h0 : 0 < N := by have := hX.1.2.1; omega
  have hs := hX.2.2.1.1
  have i1 : ∀ j, j ≤ 1 → 0 ≤ nI j ∧ nI j ≤ 1 := fun j hj => in_nI (m := 1) hj (by decide)
  rcases h with ⟨j, hj, rfl, h⟩ | ⟨h, rfl⟩ <;> rcases h' with ⟨j', hj', e', h'⟩ | ⟨h', rfl⟩
  · obtain rfl : j = j' := (nI_eq (by omega) (by omega)).mp e'
    refine h.un h' (fun _ ⟨S, a1, a2⟩ ⟨S', b1, b2⟩ => ?_)
    rw [a2, b2, rc_un h0 hs a1, rc_un h0 hs b1]
  · exact absurd (i1 j hj) h'
  · rw [e'] at h
    exact absurd (i1 j' hj') h
  · rfl
