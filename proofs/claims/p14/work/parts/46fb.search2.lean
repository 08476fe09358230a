/-! contracts: the class's search, to its end -/
section CR2
variable {M F T met held high k : Nat} {u : Nat → Bool} {f w g p o act : Nat → Nat} {sp : Nat → Nat → Nat}
theorem v_T_close {a : Nat} (hsp : ∀ e l, e < M → l < T → sp e l < M) (hM : M ≤ 1500) (σ : Hp) (h : CR M F σ u f w g p o met held (k + 1) act) (hP : TP M T u f w g p o met held (k + 1) (k + 1)) (hS : TS M T sp u f w g p o held (k + 1) (k + 1) act) (ha : a = p k) (hg : ¬ g a < T) : Ct m_T_close [.ref 16, .int (nI a)] σ (fun r τ => r = none ∧ Fp tS σ τ ∧ ∃ w' held' act', CR M F τ u f w' g p o met held' k act' ∧ TP M T u f w' g p o met held' k k ∧ TS M T sp u f w' g p o held' k k act') := by
  obtain ⟨⟨c7, c8, c9⟩, r19, r20, r18, r22, r23, r21, r21b⟩ := id h
  have hpM := hP.1 k (by omega)
  have hpu := hP.2.2.1 k (by omega)
  have hme := hP.metM
  have hhe := hP.heldM
  have hfm := (hP.2.2.2.2.2.2.1 _ hpM hpu).1
  have hw := hP.2.2.2.2.2.2.2.1 k (by omega)
  have hkM : k < M := by
    have := fb_holes M (k + 1) p hP.1 (fun i j hij hj e => by have := hP.inP (i := i) (j := j) (by omega) (by omega) e; omega)
    omega
  rw [← ha] at hpM hpu hfm hw
  obtain ⟨Z, hZ⟩ : ∃ Z : Option Value → Hp → Prop, Z = (fun r τ => r = none ∧ Fp tS σ τ ∧ ∃ w' held' act', CR M F τ u f w' g p o met held' k act' ∧ TP M T u f w' g p o met held' k k ∧ TS M T sp u f w' g p o held' k k act') := ⟨_, rfl⟩
  rw [← hZ]
  -- then the low of the one before is lowered, where there is one
  have last : ∀ (τ : Hp) (held' : Nat) (act' : Nat → Nat), Fp tS σ τ → CR M F τ u f w g p o met held' k act' → (k = 0 → TP M T u f w g p o met held' k k ∧ TS M T sp u f w g p o held' k k act') → (∀ i, k = i + 1 → TP M T u f (fu w (p i) (if w a < w (p i) then w a else w (p i))) g p o met held' k k ∧ TS M T sp u f (fu w (p i) (if w a < w (p i) then w a else w (p i))) g p o held' k k act') → WP m_T_close 34 [.ref 16, .int (nI a)] [] τ Z := by
    intro τ held' act' hF hC h0 h1
    have d7 : τ.1 16 7 = nI k := hC.1.1
    refine wp_aload_n d_T_close_34 rfl ?_
    refine wp_getI d_T_close_35 fl_T_55 rfl rfl (by decide) ?_
    refine wp_if_le (tgt := 66) d_T_close_38 (by decide) (fun hc => ?_) (fun hc => ?_)
    · have hk0 : k = 0 := by
        rcases Nat.eq_zero_or_pos k with q | q
        · exact q
        · rw [d7] at hc
          have : nI k ≤ nI 0 := hc
          rw [nI_leN (by omega) (by omega)] at this
          omega
      obtain ⟨b1, b2⟩ := h0 hk0
      refine wp_vret d_T_close_66 rfl ?_
      rw [hZ]
      exact ⟨rfl, hF, w, held', act', hC, b1, b2⟩
    · obtain ⟨i, hi⟩ : ∃ i, k = i + 1 := by
        rcases Nat.eq_zero_or_pos k with q | q
        · rw [d7, q] at hc
          exact absurd (by decide) hc
        · exact ⟨k - 1, by omega⟩
      obtain ⟨b1, b2⟩ := h1 i hi
      have ppM := hP.1 i (by omega)
      have ppu := hP.2.2.1 i (by omega)
      have hw2 := hP.2.2.2.2.2.2.2.1 i (by omega)
      have hf2 := (hP.2.2.2.2.2.2.1 _ ppM ppu).1
      refine wp_aload_n d_T_close_41 rfl ?_
      refine wp_aload_n d_T_close_42 rfl ?_
      refine wp_getA d_T_close_43 fl_T_27 rfl rfl rfl ?_
      refine wp_aload_n d_T_close_46 rfl ?_
      refine wp_getI d_T_close_47 fl_T_55 rfl rfl (by decide) ?_
      refine wp_iconst (v := 1) d_T_close_50 (by decide) ?_
      refine wp_isub d_T_close_51 ?_
      rw [d7, show nI k - 1 = nI i by rw [hi, nI_pred]]
      refine wp_callSN2e d_T_close_52 csn_T_37 ⟨Nat.le_of_ble_eq_true rfl, Nat.le_of_ble_eq_true rfl⟩ (Nat.le_of_ble_eq_true rfl) (Nat.le_of_ble_eq_true rfl) (c_P_at (a := 22) rfl (by decide) _ _) ?_
      rw [rdA_in (show i < 1500 by omega) (by decide), hC.2.2.2.2.1 i (by omega)]
      refine wp_aload_n d_T_close_55 rfl ?_
      refine wp_getA d_T_close_56 fl_T_21 rfl rfl rfl ?_
      refine wp_iload_n d_T_close_59 rfl ?_
      refine wp_callSN2e d_T_close_60 csn_T_37 ⟨Nat.le_of_ble_eq_true rfl, Nat.le_of_ble_eq_true rfl⟩ (Nat.le_of_ble_eq_true rfl) (Nat.le_of_ble_eq_true rfl) (c_P_at (a := 20) rfl (by decide) _ _) ?_
      rw [rdA_in (show a < 1500 by omega) (by decide), hC.2.2.1 a hpM hpu]
      refine wp_callV2v d_T_close_63 cv_T_76 rfl rfl rfl ⟨Nat.le_of_ble_eq_true rfl, Nat.le_of_ble_eq_true rfl⟩ (Nat.le_of_ble_eq_true rfl) (Nat.le_of_ble_eq_true rfl) (c_T_lower _ _ _) ?_
      refine wp_vret d_T_close_66 rfl ?_
      rw [hZ]
      exact ⟨rfl, lwW_Fp hF (by decide), _, held', act', hC.low ppM ppu hM (by omega) (by omega), b1, b2⟩
  show WP m_T_close 0 [.ref 16, .int (nI a)] [] σ _
  refine wp_aload_n d_T_close_0 rfl ?_
  refine wp_dup d_T_close_1 rfl ?_
  refine wp_getI d_T_close_2 fl_T_55 rfl rfl (by decide) ?_
  refine wp_iconst (v := 1) d_T_close_5 (by decide) ?_
  refine wp_isub d_T_close_6 ?_
  refine wp_putI d_T_close_7 fp_T_55 rfl rfl (by decide) rfl rfl ?_
  refine wp_aload_n d_T_close_10 rfl ?_
  refine wp_getA d_T_close_11 fl_T_21 rfl rfl rfl ?_
  refine wp_iload_n d_T_close_14 rfl ?_
  rw [c7, nI_pred]
  generalize hτ1 : wI σ 16 7 (nI k) = τ1
  have g1 : ∀ q, q ≠ 16 → τ1.1 q = σ.1 q := fun q hq => by rw [← hτ1, wI_ne hq]
  have hF1 : Fp tS σ τ1 := by rw [← hτ1]; exact Fp.rf.wI (by decide)
  have hC1 : CR M F τ1 u f w g p o met held k act := by
    refine ⟨⟨?_, ?_, ?_⟩, ?_, ?_, ?_, fun i hi => ?_, ?_, ?_, ?_⟩
    · rw [← hτ1, wI_eq, upd_eq]
    · rw [← hτ1, wI_eq, upd_ne (by decide)]; exact c8
    · rw [← hτ1, wI_eq, upd_ne (by decide)]; exact c9
    · rw [g1 19 (by decide)]; exact r19
    · rw [g1 20 (by decide)]; exact r20
    · rw [g1 18 (by decide)]; exact r18
    · rw [g1 22 (by decide)]; exact r22 i (by omega)
    · rw [g1 23 (by decide)]; exact r23
    · rw [g1 21 (by decide)]; exact r21
    · rw [g1 21 (by decide)]; exact r21b
  refine wp_callSN2e d_T_close_15 csn_T_37 ⟨Nat.le_of_ble_eq_true rfl, Nat.le_of_ble_eq_true rfl⟩ (Nat.le_of_ble_eq_true rfl) (Nat.le_of_ble_eq_true rfl) (c_P_at (a := 20) rfl (by decide) _ _) ?_
  rw [rdA_in (show a < 1500 by omega) (by decide), hC1.2.2.1 a hpM hpu]
  refine wp_aload_n d_T_close_18 rfl ?_
  refine wp_getA d_T_close_19 fl_T_18 rfl rfl rfl ?_
  refine wp_iload_n d_T_close_22 rfl ?_
  refine wp_callSN2e d_T_close_23 csn_T_37 ⟨Nat.le_of_ble_eq_true rfl, Nat.le_of_ble_eq_true rfl⟩ (Nat.le_of_ble_eq_true rfl) (Nat.le_of_ble_eq_true rfl) (c_P_at (a := 19) rfl (by decide) _ _) ?_
  rw [rdA_in (show a < 1500 by omega) (by decide), hC1.2.1 a hpM, if_pos hpu]
  refine wp_icmp_ne (tgt := 34) d_T_close_26 (by decide) (fun hc => ?_) (fun hc => ?_)
  · rw [nI_eq (by omega) (by omega)] at hc
    have hne : w (p k) ≠ f (p k) := by rw [← ha]; omega
    obtain ⟨hk0, hP2⟩ := hP.leave hne
    refine last τ1 held act hF1 hC1 (fun q => by omega) (fun i hi => ?_)
    subst hi
    have hwi := hP.2.2.2.2.2.2.2.1 i (by omega)
    have pne : p i ≠ p (i + 1) := fun z => by
      have := hP.inP (i := i) (j := i + 1) (by omega) (by omega) z
      omega
    by_cases q : w a < w (p i)
    · rw [if_pos q]
      have hP3 := hP.lower (a := p i) (x := w a) hw.1 (by omega)
      obtain ⟨-, hP4⟩ := hP3.leave (by rw [fu_ne (Ne.symm pne)]; exact hne)
      have hS3 := hS.lower (w' := fu w (p i) (w a)) (fun e he => fu_ne he) (by rw [fu_eq, ha]) (by rw [fu_eq]; omega)
      refine ⟨hP4, hS3.leave (by rw [← ha]; exact hg) ?_ ?_⟩
      · rw [fu_eq, fu_ne (Ne.symm pne), ← ha]
        exact Nat.le_refl _
      · rw [fu_ne (Ne.symm pne), ← ha]
        omega
    · rw [if_neg q]
      have ew : fu w (p i) (w (p i)) = w := funext (fun e => by
        by_cases z : e = p i
        · rw [z, fu_eq]
        · rw [fu_ne z])
      rw [ew]
      exact ⟨hP2, hS.leave (by rw [← ha]; exact hg) (by rw [← ha]; omega) (by rw [← ha]; omega)⟩
  · rw [nI_eq (by omega) (by omega)] at hc
    have hwf : w a = f a := by omega
    obtain ⟨j0, hj0, e0⟩ := hP.2.2.2.2.2.1 k (by omega)
    have hPc := hP.close hj0 e0
    have inj : ∀ j, j < held → o j = a → j = j0 := fun j hj e => hP.inO hj hj0 (by rw [e, e0, ha])
    refine wp_aload_n d_T_close_29 rfl ?_
    refine wp_iload_n d_T_close_30 rfl ?_
    refine wp_callV1 d_T_close_31 cv_T_79 rfl rfl rfl ⟨Nat.le_of_ble_eq_true rfl, Nat.le_of_ble_eq_true rfl⟩ (Nat.le_of_ble_eq_true rfl) (Nat.le_of_ble_eq_true rfl) (v_T_takeWaiting hM _ hC1.1.2.1 (fun j hj => ⟨hC1.2.2.2.2.2.1 j hj, (hP.2.1 j hj).1⟩) hhe hj0 (by rw [e0, ha]) (hC1.2.2.2.2.2.2.2 a hpM (Or.inr ⟨j0, hj0, by rw [e0, ha]⟩)) inj) (fun v τ hv => ?_)
    obtain ⟨rfl, t8, ⟨t7, t9⟩, ta, tb, hF2⟩ := hv
    have hx : ∀ e, ∃ x, ((∃ j, j0 ≤ j ∧ j < held ∧ o j = e) → x = p k) ∧ ((∀ j, j0 ≤ j → j < held → o j ≠ e) → x = act e) := fun e => by
      by_cases q : ∃ j, j0 ≤ j ∧ j < held ∧ o j = e
      · exact ⟨p k, fun _ => rfl, fun z => by
          obtain ⟨j, j1, j2, j3⟩ := q
          exact absurd j3 (z j j1 j2)⟩
      · exact ⟨act e, fun z => absurd z q, fun _ => rfl⟩
    obtain ⟨act', hact'⟩ : ∃ act' : Nat → Nat, act' = fun e => Classical.choose (hx e) := ⟨_, rfl⟩
    have ha1 : ∀ j, j0 ≤ j → j < held → act' (o j) = p k := fun j j1 j2 => by rw [hact']; exact (Classical.choose_spec (hx (o j))).1 ⟨j, j1, j2, rfl⟩
    have ha2 : ∀ e, (∀ j, j0 ≤ j → j < held → o j ≠ e) → act' e = act e := fun e z => by rw [hact']; exact (Classical.choose_spec (hx e)).2 z
    have hSc := hS.close hsp hP (by rw [← ha]; exact hg) (by rw [← ha]; exact hwf) hj0 e0 ha1 ha2
    have g2 : ∀ q, q ≠ 16 → q ≠ 21 → τ.1 q = τ1.1 q := fun q h1 h2 => (hF2 q (by simp; exact ⟨h1, h2⟩)).1
    have hC2 : CR M F τ u f w g p o met j0 k act' := by
      obtain ⟨⟨b7, b8, b9⟩, s19, s20, s18, s22, s23, s21, s21b⟩ := hC1
      refine ⟨⟨t7.trans b7, t8, t9.trans b9⟩, ?_, ?_, ?_, ?_, fun j hj => ?_, fun e he hu hno => ?_, fun e he hu => ?_⟩
      · rw [g2 19 (by decide) (by decide)]; exact s19
      · rw [g2 20 (by decide) (by decide)]; exact s20
      · rw [g2 18 (by decide) (by decide)]; exact s18
      · rw [g2 22 (by decide) (by decide)]; exact s22
      · rw [g2 23 (by decide) (by decide)]; exact s23 j (by omega)
      · by_cases q : ∃ j, j0 ≤ j ∧ j < held ∧ o j = e
        · obtain ⟨j, j1, j2, rfl⟩ := q
          rw [ta j j1 j2, ha1 j j1 j2, ha]
        · have q2 : ∀ j, j0 ≤ j → j < held → o j ≠ e := fun j j1 j2 j3 => q ⟨j, j1, j2, j3⟩
          rw [tb e q2, ha2 e q2]
          refine s21 e he hu ?_
          rintro ⟨j, j1, j2⟩
          rcases Nat.lt_or_ge j j0 with z | z
          · exact hno ⟨j, z, j2⟩
          · exact q ⟨j, z, j1, j2⟩
      · have q2 : ∀ j, j0 ≤ j → j < held → o j ≠ e := fun j j1 j2 j3 => by
          rcases hu with hu | ⟨j', z1, z2⟩
          · have := (hP.2.1 j j2).2
            rw [j3, hu] at this
            cases this
          · have := hP.inO (i := j) (j := j') j2 (by omega) (by rw [j3, z2])
            omega
        rw [tb e q2]
        refine s21b e he (hu.imp id (fun ⟨j', z1, z2⟩ => ⟨j', by omega, z2⟩))
    refine last τ j0 act' (hF1.tr (hF2.up (by decide))) hC2 (fun _ => ⟨hPc, hSc⟩) (fun i hi => ?_)
    subst hi
    have hwi := (hP.2.2.2.2.2.2.2.1 i (by omega)).2
    have hfi := hP.2.2.2.1 i (i + 1) (by omega) (by omega)
    rw [← ha] at hfi
    rw [if_neg (show ¬ w a < w (p i) by omega)]
    have ew : fu w (p i) (w (p i)) = w := funext (fun e => by
      by_cases z : e = p i
      · rw [z, fu_eq]
      · rw [fu_ne z])
    rw [ew]
    exact ⟨hPc, hSc⟩
/-- so much is left to be tried -/
def wtA (T : Nat) (u : Nat → Bool) (g : Nat → Nat) (e : Nat) : Nat := if u e = true then T - g e else T
theorem CR.step {σ : Hp} {a : Nat} (h : CR M F σ u f w g p o met held high act) : CR M F (wI σ 18 a (nI (F + (g a + 1)))) u f w (fu g a (g a + 1)) p o met held high act := by
  obtain ⟨c, r19, r20, r18, r22, r23, r21, r21b⟩ := h
  refine ⟨by rw [wI_ne (by decide)]; exact c, by rw [wI_ne (by decide)]; exact r19, by rw [wI_ne (by decide)]; exact r20, fun i hi hui => ?_, by rw [wI_ne (by decide)]; exact r22, by rw [wI_ne (by decide)]; exact r23, by rw [wI_ne (by decide)]; exact r21, by rw [wI_ne (by decide)]; exact r21b⟩
  rw [wI_eq]
  by_cases q : i = a
  · rw [q, upd_eq, fu_eq]
  · rw [upd_ne q, fu_ne q]; exact r18 i hi hui
theorem v_T_followFrom {e0 : Nat} (hsp : ∀ e l, e < M → l < T → sp e l < M) (hM : M ≤ 1500) (hFT : F + T ≤ 8) (he0 : e0 < M) (σ : Hp) (hE : ∀ e l, e < M → l < T → σ.1 17 (8 * e + (F + l)) = nI (sp e l)) (h : CR M F (wI (wI σ 16 7 0) 16 8 0) u f w g p o met 0 0 act) (hP : TP M T u f w g p o met 0 0 0) (hS : TS M T sp u f w g p o 0 0 0 act) (hu0 : u e0 = false) : Ct m_T_followFrom [.ref 16, .int (nI e0), .int (nI F), .int (nI (F + T))] σ (fun r τ => r = none ∧ Fp tS σ τ ∧ ∃ u' f' w' g' p' o' met' act', CR M F τ u' f' w' g' p' o' met' 0 0 act' ∧ TP M T u' f' w' g' p' o' met' 0 0 0 ∧ TS M T sp u' f' w' g' p' o' 0 0 0 act' ∧ (∀ e, u e = true → u' e = true) ∧ u' e0 = true) := by
  obtain ⟨Z, hZ⟩ : ∃ Z : Option Value → Hp → Prop, Z = (fun r τ => r = none ∧ Fp tS σ τ ∧ ∃ u' f' w' g' p' o' met' act', CR M F τ u' f' w' g' p' o' met' 0 0 act' ∧ TP M T u' f' w' g' p' o' met' 0 0 0 ∧ TS M T sp u' f' w' g' p' o' 0 0 0 act' ∧ (∀ e, u e = true → u' e = true) ∧ u' e0 = true) := ⟨_, rfl⟩
  rw [← hZ]
  have hmM : met < M := by
    have h1 := hP.2.2.2.2.2.2.2.2.2.2.1
    have h2 := sm_upd (F := un1 u) (G := un1 (fu u e0 true)) M he0 (fun e he hne => by unfold un1; rw [fu_ne hne])
    have e1 : un1 u e0 = 0 := by unfold un1; rw [hu0]; rfl
    have e2 : un1 (fu u e0 true) e0 = 1 := by unfold un1; rw [fu_eq]; rfl
    have h3 := sm_le (F := un1 (fu u e0 true)) M (fun e _ => by unfold un1; split <;> omega)
    omega
  have no0 : ∀ (o : Nat → Nat) e, ¬ onO o 0 e := fun o e ⟨j, hj, _⟩ => absurd hj (Nat.not_lt_zero j)
  show WP m_T_followFrom 0 [.ref 16, .int (nI e0), .int (nI F), .int (nI (F + T)), .null, .null, .null] [] σ _
  refine wp_aload_n d_T_followFrom_0 rfl ?_
  refine wp_iconst (v := 0) d_T_followFrom_1 (by decide) ?_
  refine wp_putI d_T_followFrom_2 fp_T_55 rfl rfl (by decide) rfl rfl ?_
  refine wp_aload_n d_T_followFrom_5 rfl ?_
  refine wp_iconst (v := 0) d_T_followFrom_6 (by decide) ?_
  refine wp_putI d_T_followFrom_7 fp_T_58 rfl rfl (by decide) rfl rfl ?_
  refine wp_aload_n d_T_followFrom_10 rfl ?_
  refine wp_iload_n d_T_followFrom_11 rfl ?_
  refine wp_iload_n d_T_followFrom_12 rfl ?_
  refine wp_callV2 d_T_followFrom_13 cv_T_61 rfl rfl rfl ⟨Nat.le_of_ble_eq_true rfl, Nat.le_of_ble_eq_true rfl⟩ (Nat.le_of_ble_eq_true rfl) (Nat.le_of_ble_eq_true rfl) (v_T_open he0 hM _ h hu0 hmM (by omega) (by omega) (no0 o e0)) (fun v τ hv => ?_)
  obtain ⟨rfl, hF, hC⟩ := hv
  show WP m_T_followFrom 16 _ [] τ _
  refine wp_iconst (v := 0) d_T_followFrom_16 (by decide) ?_
  refine wp_istore4 d_T_followFrom_17 (by decide) rfl ?_
  suffices H : ∀ k, k ≤ 15000 → ∀ (τ : Hp) (x5 x6 : Value) (u' : Nat → Bool) (f' w' g' p' o' act' : Nat → Nat) (met' held' high' : Nat), x5.category = 1 → Fp tS σ τ → CR M F τ u' f' w' g' p' o' met' held' high' act' → TP M T u' f' w' g' p' o' met' held' high' high' → TS M T sp u' f' w' g' p' o' held' high' high' act' → k + (sm (wtA T u' g') M + (M - met') + high') ≤ 15000 → (∀ e, u e = true → u' e = true) → u' e0 = true → WP m_T_followFrom 19 [.ref 16, .int (nI e0), .int (nI F), .int (nI (F + T)), .int (nI k), x5, x6] [] τ Z by
    refine H 0 (Nat.zero_le _) τ _ _ _ _ _ _ _ _ act _ _ _ rfl ((((Fp.rf.wI (by decide)).wI (by decide))).tr hF) hC (hP.opn1 he0 hu0) ((hS.start e0).opn1 hP he0 hu0) ?_ (fun e he => ?_) fu_eq
    · have h1 : ∀ K, sm (wtA T (fu u e0 true) (fu g e0 0)) K ≤ K * T := by
        intro K
        induction K with
        | zero => show 0 ≤ 0 * T; omega
        | succ K ih =>
          show sm (wtA T (fu u e0 true) (fu g e0 0)) K + wtA T (fu u e0 true) (fu g e0 0) K ≤ (K + 1) * T
          have : wtA T (fu u e0 true) (fu g e0 0) K ≤ T := by unfold wtA; split <;> omega
          rw [Nat.succ_mul]
          omega
      have h2 := h1 M
      have h3 : M * T ≤ 1500 * 8 := Nat.mul_le_mul hM (by omega)
      omega
    · by_cases q : e = e0
      · rw [q, fu_eq]
      · rw [fu_ne q]; exact he
  clear hC hF τ h hP hS hu0 hmM
  refine lp_nat (fun k hk ih τ x5 x6 u' f' w' g' p' o' act' met' held' high' hx5 hF hC hP hS hm hu he => ?_)
  have fin : high' = 0 → WP m_T_followFrom 109 [.ref 16, .int (nI e0), .int (nI F), .int (nI (F + T)), .int (nI k), x5, x6] [] τ Z := by
    intro q
    subst q
    have hh := hP.2.2.2.2.2.2.2.2.2.1 rfl
    subst hh
    refine wp_vret d_T_followFrom_109 rfl ?_
    rw [hZ]
    exact ⟨rfl, hF, u', f', w', g', p', o', met', act', hC, hP, hS, hu, he⟩
  refine wp_iload d_T_followFrom_19 rfl ?_
  refine wp_sipush (v := 15000) d_T_followFrom_21 (by decide) ?_
  refine wp_icmp_ge (tgt := 109) d_T_followFrom_24 (by decide) (fun hc => ?_) (fun hc => ?_)
  · have := nI_ge2 (b := 15000) hc (by omega) (by omega)
    exact fin (by omega)
  · have hk2 := nI_nge (b := 15000) hc (by omega) (by omega)
    refine wp_aload_n d_T_followFrom_27 rfl ?_
    refine wp_getI d_T_followFrom_28 fl_T_55 rfl rfl (by decide) ?_
    refine wp_if_le (tgt := 109) d_T_followFrom_31 (by decide) (fun hc2 => ?_) (fun hc2 => ?_)
    · refine fin ?_
      rw [hC.1.1] at hc2
      have : nI high' ≤ nI 0 := hc2
      rw [nI_leN (by omega) (by omega)] at this
      omega
    · obtain ⟨i, rfl⟩ : ∃ i, high' = i + 1 := by
        rcases Nat.eq_zero_or_pos high' with q | q
        · rw [hC.1.1, q] at hc2
          exact absurd (by decide) hc2
        · exact ⟨high' - 1, by omega⟩
      have hiM : i < M := by
        have := fb_holes M (i + 1) p' hP.1 (fun a b hab hb e => by have := hP.inP (i := a) (j := b) (by omega) (by omega) e; omega)
        omega
      obtain ⟨a, ha⟩ : ∃ a, a = p' i := ⟨_, rfl⟩
      have hpM := hP.1 i (by omega)
      have hpu := hP.2.2.1 i (by omega)
      have hme := hP.metM
      have hw := hP.2.2.2.2.2.2.2.1 i (by omega)
      rw [← ha] at hpM hpu hw
      obtain ⟨hfm, hgT⟩ := hP.2.2.2.2.2.2.1 a hpM hpu
      refine wp_aload_n d_T_followFrom_34 rfl ?_
      refine wp_getA d_T_followFrom_35 fl_T_27 rfl rfl rfl ?_
      refine wp_aload_n d_T_followFrom_38 rfl ?_
      refine wp_getI d_T_followFrom_39 fl_T_55 rfl rfl (by decide) ?_
      refine wp_iconst (v := 1) d_T_followFrom_42 (by decide) ?_
      refine wp_isub d_T_followFrom_43 ?_
      rw [hC.1.1, nI_pred]
      refine wp_callSN2e d_T_followFrom_44 csn_T_37 ⟨Nat.le_of_ble_eq_true rfl, Nat.le_of_ble_eq_true rfl⟩ (Nat.le_of_ble_eq_true rfl) (Nat.le_of_ble_eq_true rfl) (c_P_at (a := 22) rfl (by decide) _ _) ?_
      rw [rdA_in (show i < 1500 by omega) (by decide), hC.2.2.2.2.1 i (by omega), ← ha]
      refine wp_istore5 d_T_followFrom_47 (by decide) rfl ?_
      refine wp_aload_n d_T_followFrom_49 rfl ?_
      refine wp_getA d_T_followFrom_50 fl_T_15 rfl rfl rfl ?_
      refine wp_iload d_T_followFrom_53 rfl ?_
      refine wp_callSN2e d_T_followFrom_55 csn_T_37 ⟨Nat.le_of_ble_eq_true rfl, Nat.le_of_ble_eq_true rfl⟩ (Nat.le_of_ble_eq_true rfl) (Nat.le_of_ble_eq_true rfl) (c_P_at (a := 18) rfl (by decide) _ _) ?_
      rw [rdA_in (show a < 1500 by omega) (by decide), hC.2.2.2.1 a hpM hpu]
      refine wp_istore6 d_T_followFrom_58 (by decide) rfl ?_
      refine wp_iload d_T_followFrom_60 rfl ?_
      refine wp_iload_n d_T_followFrom_62 rfl ?_
      refine wp_icmp_ge (tgt := 97) d_T_followFrom_63 (by decide) (fun hc3 => ?_) (fun hc3 => ?_)
      · have hg : ¬ g' a < T := by
          have := nI_ge2 hc3 (by omega) (by omega)
          omega
        refine wp_aload_n d_T_followFrom_97 rfl ?_
        refine wp_iload d_T_followFrom_98 rfl ?_
        refine wp_callV1 d_T_followFrom_100 cv_T_72 rfl rfl rfl ⟨Nat.le_of_ble_eq_true rfl, Nat.le_of_ble_eq_true rfl⟩ (Nat.le_of_ble_eq_true rfl) (Nat.le_of_ble_eq_true rfl) (v_T_close hsp hM _ hC hP hS ha hg) (fun v υ hv => ?_)
        obtain ⟨rfl, hF2, w2, held2, act2, hC2, hP2, hS2⟩ := hv
        show WP m_T_followFrom 103 _ [] υ _
        refine wp_iinc4 d_T_followFrom_103 (hn_ii1 _) (by decide) rfl ?_
        refine wp_goto (tgt := 19) d_T_followFrom_106 (by decide) ?_
        rw [nI_1]
        exact ih hk2 υ _ _ u' f' w2 g' p' o' act2 met' held2 i rfl (hF.tr hF2) hC2 hP2 hS2 (by omega) hu he
      · have hg : g' a < T := by
          have := nI_nge hc3 (by omega) (by omega)
          omega
        have hxM := hsp a (g' a) hpM hg
        have hE1 := hE a (g' a) hpM hg
        obtain ⟨x, hx⟩ : ∃ x, x = sp a (g' a) := ⟨_, rfl⟩
        rw [← hx] at hxM hE1
        have hP1 := hP.step (a := a) hg
        have hmu : sm (wtA T u' (fu g' a (g' a + 1))) M + 1 = sm (wtA T u' g') M := by
          have := sm_upd (F := wtA T u' g') (G := wtA T u' (fu g' a (g' a + 1))) M hpM (fun e he hne => by unfold wtA; rw [fu_ne hne])
          have e1 : wtA T u' g' a = T - g' a := by unfold wtA; rw [if_pos hpu]
          have e2 : wtA T u' (fu g' a (g' a + 1)) a = T - (g' a + 1) := by unfold wtA; rw [if_pos hpu, fu_eq]
          omega
        refine wp_aload_n d_T_followFrom_66 rfl ?_
        refine wp_getA d_T_followFrom_67 fl_T_15 rfl rfl rfl ?_
        refine wp_iload d_T_followFrom_70 rfl ?_
        refine wp_iload d_T_followFrom_72 rfl ?_
        refine wp_iconst (v := 1) d_T_followFrom_74 (by decide) ?_
        refine wp_iadd d_T_followFrom_75 ?_
        rw [nI_1]
        refine wp_callSN3v d_T_followFrom_76 csn_T_33 ⟨Nat.le_of_ble_eq_true rfl, Nat.le_of_ble_eq_true rfl⟩ (Nat.le_of_ble_eq_true rfl) (Nat.le_of_ble_eq_true rfl) (c_P_put (a := 18) rfl (by decide) _ _ _) ?_
        rw [wrA_in (show a < 1500 by omega) (by decide), show F + g' a + 1 = F + (g' a + 1) by omega]
        have hC1 := hC.step (a := a)
        generalize hτ1 : wI τ 18 a (nI (F + (g' a + 1))) = τ1 at hC1
        have hF1 : Fp tS σ τ1 := by rw [← hτ1]; exact hF.wI (by decide)
        have e17 : τ1.1 17 = σ.1 17 := (hF1 17 (by decide)).1
        refine wp_aload_n d_T_followFrom_79 rfl ?_
        refine wp_iload d_T_followFrom_80 rfl ?_
        refine wp_aload_n d_T_followFrom_82 rfl ?_
        refine wp_iload d_T_followFrom_83 rfl ?_
        refine wp_iload d_T_followFrom_85 rfl ?_
        refine wp_callV2e d_T_followFrom_87 cv_T_65 rfl rfl rfl ⟨Nat.le_of_ble_eq_true rfl, Nat.le_of_ble_eq_true rfl⟩ (Nat.le_of_ble_eq_true rfl) (Nat.le_of_ble_eq_true rfl) (c_T_from _ _ _) ?_
        refine wp_iload_n d_T_followFrom_90 rfl ?_
        have er : rdA τ1 17 12000 (nI a * 8 + nI (F + g' a)) = nI x := by
          have e8 : nI a * 8 + nI (F + g' a) = nI (8 * a + (F + g' a)) := by
            show nI a * nI 8 + nI (F + g' a) = _
            rw [pk_mul, nI_add, Nat.mul_comm]
          rw [e8, rdA_in (by omega) (by decide), e17, hE1]
        rw [er]
        have hrm : u' x = false → met' < M ∧ held' < M ∧ i + 1 < M ∧ ¬ onO o' held' x := fun hux => by
          have b1 := hP.heldU hxM hux
          have b2 := hP.highU hxM hux
          have b3 : met' < M := by
            have h1 := hP.2.2.2.2.2.2.2.2.2.2.1
            have h2 := sm_upd (F := un1 u') (G := un1 (fu u' x true)) M hxM (fun e he hne => by unfold un1; rw [fu_ne hne])
            have e1 : un1 u' x = 0 := by unfold un1; rw [hux]; rfl
            have e2 : un1 (fu u' x true) x = 1 := by unfold un1; rw [fu_eq]; rfl
            have h3 := sm_le (F := un1 (fu u' x true)) M (fun e _ => by unfold un1; split <;> omega)
            omega
          refine ⟨b3, by omega, by omega, fun z => ?_⟩
          have := (onO_u hP z).2
          rw [hux] at this
          cases this
        refine wp_callV3 d_T_followFrom_91 cv_T_69 rfl rfl rfl ⟨Nat.le_of_ble_eq_true rfl, Nat.le_of_ble_eq_true rfl⟩ (Nat.le_of_ble_eq_true rfl) (Nat.le_of_ble_eq_true rfl) (v_T_tryWay hpM hxM hM _ hC1 hpu (by omega) (fun q => by have := (hP.2.2.2.2.2.2.1 x hxM q).1; omega) (fun q q2 => (hS.C x hxM q q2).2.1) hrm) (fun v υ hv => ?_)
        obtain ⟨rfl, hF2, hv⟩ := hv
        show WP m_T_followFrom 94 _ [] υ _
        refine wp_goto (tgt := 103) d_T_followFrom_94 (by decide) ?_
        refine wp_iinc4 d_T_followFrom_103 (hn_ii1 _) (by decide) rfl ?_
        refine wp_goto (tgt := 19) d_T_followFrom_106 (by decide) ?_
        rw [nI_1]
        rcases hv with ⟨hux, hC2⟩ | ⟨hux, w2, hC2, v1, v2, v3, v4⟩
        · have hS2 := hS.down (l := 0) hP (by rw [← ha]; exact hg) (by rw [← ha, ← hx]; exact hux)
          rw [← ha, ← hx] at hS2
          have hS3 := hS2.opn1 hP1 hxM hux
          have hmu2 : sm (wtA T (fu u' x true) (fu (fu g' a (g' a + 1)) x 0)) M = sm (wtA T u' (fu g' a (g' a + 1))) M := by
            have := sm_upd (F := wtA T u' (fu g' a (g' a + 1))) (G := wtA T (fu u' x true) (fu (fu g' a (g' a + 1)) x 0)) M hxM (fun e he hne => by unfold wtA; rw [fu_ne hne, fu_ne hne])
            have e1 : wtA T u' (fu g' a (g' a + 1)) x = T := by unfold wtA; rw [hux, if_neg (by decide)]
            have e2 : wtA T (fu u' x true) (fu (fu g' a (g' a + 1)) x 0) x = T := by unfold wtA; rw [fu_eq, fu_eq, if_pos rfl]; rfl
            omega
          have := (hrm hux).1
          refine ih hk2 υ _ _ _ _ _ _ _ _ act' (met' + 1) (held' + 1) (i + 1 + 1) rfl (hF1.tr hF2) hC2 (hP1.opn1 hxM hux) hS3 (by omega) (fun e he2 => ?_) ?_
          · by_cases q : e = x
            · rw [q, fu_eq]
            · rw [fu_ne q]; exact hu e he2
          · by_cases q : e0 = x
            · rw [q, fu_eq]
            · rw [fu_ne q]; exact he
        · have hS2 := hS.side (w' := w2) hP (by rw [← ha, ← hx]; exact hux) (by rw [← ha]; exact v1) (by rw [← ha]; exact v2) (by rw [← ha, ← hx]; exact v3) (by
            rw [← ha]
            rcases v4 with q | ⟨q1, q2⟩
            · rw [q]
              have := hS.W i (by omega)
              rwa [← ha] at this
            · exact ⟨x, q1, q2.symm, by rw [hx]; exact RQ.one hg⟩)
          rw [← ha] at hS2
          have ew : w2 = fu w' a (w2 a) := funext (fun e => by
            by_cases z : e = a
            · rw [z, fu_eq]
            · rw [fu_ne z]; exact v1 e z)
          have hP2 : TP M T u' f' w2 (fu g' a (g' a + 1)) p' o' met' held' (i + 1) (i + 1) := by
            rw [ew]
            refine hP1.lower ?_ v2
            rcases v4 with q | ⟨⟨j, j1, j2⟩, q2⟩
            · rw [q]; exact hw.1
            · rw [q2, ← j2]; exact hP.o_le j1
          exact ih hk2 υ _ _ u' f' w2 _ p' o' act' met' held' (i + 1) rfl (hF1.tr hF2) hC2 hP2 hS2 (by omega) hu he
theorem CR.z {τ : Hp} (h : CR M F τ u f w g p o met 0 0 act) : CR M F (wI (wI τ 16 7 0) 16 8 0) u f w g p o met 0 0 act := by
  obtain ⟨⟨c7, c8, c9⟩, r⟩ := h
  refine ⟨⟨?_, ?_, ?_⟩, ?_⟩
  · rw [wI_eq, upd_ne (by decide), wI_eq, upd_eq]; rfl
  · rw [wI_eq, upd_eq]; rfl
  · rw [wI_eq, upd_ne (by decide), wI_eq, upd_ne (by decide)]; exact c9
  · rw [wI_ne (by decide), wI_ne (by decide), wI_ne (by decide), wI_ne (by decide), wI_ne (by decide), wI_ne (by decide), wI_ne (by decide), wI_ne (by decide), wI_ne (by decide), wI_ne (by decide), wI_ne (by decide), wI_ne (by decide)]
    exact r
theorem v_T_findRoots (hsp : ∀ e l, e < M → l < T → sp e l < M) (hM : M ≤ 1500) (hFT : F + T ≤ 8) (σ : Hp) (hE : ∀ e l, e < M → l < T → σ.1 17 (8 * e + (F + l)) = nI (sp e l)) : Ct m_T_findRoots [.ref 16, .int (nI M), .int (nI F), .int (nI (F + T))] σ (fun r τ => r = none ∧ Fp tS σ τ ∧ ∃ act : Nat → Nat, (∀ e, e < M → τ.1 21 e = nI (act e) ∧ act e < M) ∧ ∀ e e', e < M → e' < M → (act e = act e' ↔ RQ sp T e e' ∧ RQ sp T e' e)) := by
  obtain ⟨Z, hZ⟩ : ∃ Z : Option Value → Hp → Prop, Z = (fun r τ => r = none ∧ Fp tS σ τ ∧ ∃ act : Nat → Nat, (∀ e, e < M → τ.1 21 e = nI (act e) ∧ act e < M) ∧ ∀ e e', e < M → e' < M → (act e = act e' ↔ RQ sp T e e' ∧ RQ sp T e' e)) := ⟨_, rfl⟩
  rw [← hZ]
  have no0 : ∀ (o : Nat → Nat) e, ¬ onO o 0 e := fun o e ⟨j, hj, _⟩ => absurd hj (Nat.not_lt_zero j)
  show WP m_T_findRoots 0 [.ref 16, .int (nI M), .int (nI F), .int (nI (F + T)), .null] [] σ _
  refine wp_aload_n d_T_findRoots_0 rfl ?_
  refine wp_iconst (v := 0) d_T_findRoots_1 (by decide) ?_
  refine wp_putI d_T_findRoots_2 fp_T_41 rfl rfl (by decide) rfl rfl ?_
  refine wp_aload_n d_T_findRoots_5 rfl ?_
  refine wp_getA d_T_findRoots_6 fl_T_18 rfl rfl rfl ?_
  refine wp_iconst (v := 0) d_T_findRoots_9 (by decide) ?_
  refine wp_callS2v d_T_findRoots_10 cs_T_45 ⟨Nat.le_of_ble_eq_true rfl, Nat.le_of_ble_eq_true rfl⟩ (Nat.le_of_ble_eq_true rfl) (Nat.le_of_ble_eq_true rfl) (c_Ja_fill (a := 19) rfl (by decide) _ _) ?_
  refine wp_aload_n d_T_findRoots_13 rfl ?_
  refine wp_getA d_T_findRoots_14 fl_T_24 rfl rfl rfl ?_
  refine wp_bipush (v := -9) d_T_findRoots_17 (by decide) ?_
  refine wp_callS2v d_T_findRoots_19 cs_T_45 ⟨Nat.le_of_ble_eq_true rfl, Nat.le_of_ble_eq_true rfl⟩ (Nat.le_of_ble_eq_true rfl) (Nat.le_of_ble_eq_true rfl) (c_Ja_fill (a := 21) rfl (by decide) _ _) ?_
  refine wp_iconst (v := 0) d_T_findRoots_22 (by decide) ?_
  refine wp_istore4 d_T_findRoots_23 (by decide) rfl ?_
  suffices H : ∀ k, k ≤ M → ∀ (τ : Hp) (u : Nat → Bool) (f w g p o act : Nat → Nat) (met : Nat), Fp tS σ τ → CR M F (wI (wI τ 16 7 0) 16 8 0) u f w g p o met 0 0 act → TP M T u f w g p o met 0 0 0 → TS M T sp u f w g p o 0 0 0 act → (∀ e, e < k → u e = true) → WP m_T_findRoots 25 [.ref 16, .int (nI M), .int (nI F), .int (nI (F + T)), .int (nI k)] [] τ Z by
    refine H 0 (Nat.zero_le _) _ (fun _ => false) (fun _ => 0) (fun _ => 0) (fun _ => 0) (fun _ => 0) (fun _ => 0) (fun _ => 0) 0 (((Fp.rf.wI (by decide)).flA (by decide)).flA (by decide)) ⟨⟨?_, ?_, ?_⟩, fun e he => ?_, fun e he q => (Bool.false_ne_true q).elim, fun e he q => (Bool.false_ne_true q).elim, fun i hi => absurd hi (Nat.not_lt_zero i), fun i hi => absurd hi (Nat.not_lt_zero i), fun e he q => (Bool.false_ne_true q).elim, fun e he _ => ?_⟩ ⟨fun i hi => absurd hi (Nat.not_lt_zero i), fun i hi => absurd hi (Nat.not_lt_zero i), fun i hi => absurd hi (Nat.not_lt_zero i), fun i j _ hj => absurd hj (Nat.not_lt_zero j), fun i j _ hj => absurd hj (Nat.not_lt_zero j), fun i hi => absurd hi (Nat.not_lt_zero i), fun e he q => (Bool.false_ne_true q).elim, fun i hi => absurd hi (Nat.not_lt_zero i), fun q => absurd q (Nat.lt_irrefl 0), fun _ => rfl, ?_, Nat.le_refl _⟩ (TS.none (fun _ _ => rfl)) (fun e he => absurd he (Nat.not_lt_zero e))
    · rw [wI_eq, upd_ne (by decide), wI_eq, upd_eq]; rfl
    · rw [wI_eq, upd_eq]; rfl
    · rw [wI_eq, upd_ne (by decide), wI_eq, upd_ne (by decide)]
      have e1 : ∀ (τ : Hp) (x : Int32), (flA τ 21 x 1500).1 16 = τ.1 16 := fun τ x => by simp [flA]
      have e2 : ∀ (τ : Hp) (x : Int32), (flA τ 19 x 1500).1 16 = τ.1 16 := fun τ x => by simp [flA]
      rw [e1, e2, wI_eq, upd_eq]; rfl
    · rw [wI_ne (by decide), wI_ne (by decide), if_neg Bool.false_ne_true]
      have e1 : ∀ (τ : Hp) (x : Int32), (flA τ 21 x 1500).1 19 = τ.1 19 := fun τ x => by simp [flA]
      rw [e1]
      exact flA_in (by omega)
    · rw [wI_ne (by decide), wI_ne (by decide)]
      exact flA_in (by omega)
    · have : ∀ m, sm (un1 fun _ => false) m = 0 := by
        intro m
        induction m with
        | zero => rfl
        | succ m ihm =>
          show sm (un1 fun _ => false) m + un1 (fun _ => false) m = 0
          rw [ihm]; rfl
      exact this M
  refine lp_nat (fun k hk ih τ u f w g p o act met hF hC hP hS hu => ?_)
  refine wp_iload d_T_findRoots_25 rfl ?_
  refine wp_iload_n d_T_findRoots_27 rfl ?_
  refine wp_icmp_ge (tgt := 57) d_T_findRoots_28 (by decide) (fun hc => ?_) (fun hc => ?_)
  · obtain rfl := Nat.le_antisymm hk (nI_ge2 hc (by omega) (by omega))
    refine wp_vret d_T_findRoots_57 rfl ?_
    rw [hZ]
    refine ⟨rfl, hF, act, fun e he => ⟨?_, (hS.C e he (hu e he) (no0 o e)).2.1⟩, fun e e' he he' => hS.K e e' he he' (hu e he) (hu e' he') (no0 o e) (no0 o e')⟩
    have := hC.2.2.2.2.2.2.1 e he (hu e he) (no0 o e)
    rwa [wI_ne (by decide), wI_ne (by decide)] at this
  · have hk2 := nI_nge hc (by omega) (by omega)
    have r19 := hC.2.1 k hk2
    rw [wI_ne (by decide), wI_ne (by decide)] at r19
    have hme := hP.metM
    refine wp_aload_n d_T_findRoots_31 rfl ?_
    refine wp_getA d_T_findRoots_32 fl_T_18 rfl rfl rfl ?_
    refine wp_iload d_T_findRoots_35 rfl ?_
    refine wp_callSN2e d_T_findRoots_37 csn_T_37 ⟨Nat.le_of_ble_eq_true rfl, Nat.le_of_ble_eq_true rfl⟩ (Nat.le_of_ble_eq_true rfl) (Nat.le_of_ble_eq_true rfl) (c_P_at (a := 19) rfl (by decide) _ _) ?_
    rw [rdA_in (show k < 1500 by omega) (by decide), r19]
    cases huk : u k with
    | true =>
      have hfm := (hP.2.2.2.2.2.2.1 k hk2 huk).1
      rw [if_pos rfl]
      refine wp_if_ne (tgt := 51) d_T_findRoots_40 (by decide) (fun hc2 => ?_) (fun hc2 => ?_)
      · refine wp_iinc4 d_T_findRoots_51 (hn_ii1 _) (by decide) rfl ?_
        refine wp_goto (tgt := 25) d_T_findRoots_54 (by decide) ?_
        rw [nI_1]
        exact ih hk2 τ u f w g p o act met hF hC hP hS (fun e he => by
          rcases Nat.lt_or_ge e k with q | q
          · exact hu e q
          · rw [show e = k by omega]; exact huk)
      · exact absurd hc2 (nI_p0 (by omega))
    | false =>
      rw [if_neg (by decide)]
      have e17 : τ.1 17 = σ.1 17 := (hF 17 (by decide)).1
      refine wp_if_ne (tgt := 51) d_T_findRoots_40 (by decide) (fun hc2 => ?_) (fun hc2 => ?_)
      · exact absurd rfl hc2
      · refine wp_aload_n d_T_findRoots_43 rfl ?_
        refine wp_iload d_T_findRoots_44 rfl ?_
        refine wp_iload_n d_T_findRoots_46 rfl ?_
        refine wp_iload_n d_T_findRoots_47 rfl ?_
        refine wp_callV3 d_T_findRoots_48 cv_T_51 rfl rfl rfl ⟨Nat.le_of_ble_eq_true rfl, Nat.le_of_ble_eq_true rfl⟩ (Nat.le_of_ble_eq_true rfl) (Nat.le_of_ble_eq_true rfl) (v_T_followFrom hsp hM hFT hk2 _ (fun e l he hl => by rw [e17]; exact hE e l he hl) hC hP hS huk) (fun v υ hv => ?_)
        obtain ⟨rfl, hF2, u', f', w', g', p', o', met', act', hC2, hP2, hS2, v1, v2⟩ := hv
        show WP m_T_findRoots 51 _ [] υ _
        refine wp_iinc4 d_T_findRoots_51 (hn_ii1 _) (by decide) rfl ?_
        refine wp_goto (tgt := 25) d_T_findRoots_54 (by decide) ?_
        rw [nI_1]
        exact ih hk2 υ u' f' w' g' p' o' act' met' (hF.tr hF2) hC2.z hP2 hS2 (fun e he => by
          rcases Nat.lt_or_ge e k with q | q
          · exact v1 e (hu e q)
          · rw [show e = k by omega]; exact v2)
end CR2
