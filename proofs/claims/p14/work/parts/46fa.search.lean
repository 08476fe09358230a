/-! contracts: the class's search (Steps): what comes of one another -/
/-- what the search's cells hold -/
def CR (M F : Nat) (τ : Hp) (u : Nat → Bool) (f w g p o : Nat → Nat) (met held high : Nat) (act : Nat → Nat) : Prop :=
  (τ.1 16 7 = nI high ∧ τ.1 16 8 = nI held ∧ τ.1 16 9 = nI met) ∧ (∀ e, e < M → τ.1 19 e = if u e = true then nI (f e + 1) else 0) ∧ (∀ e, e < M → u e = true → τ.1 20 e = nI (w e + 1)) ∧ (∀ e, e < M → u e = true → τ.1 18 e = nI (F + g e)) ∧ (∀ i, i < high → τ.1 22 i = nI (p i)) ∧ (∀ j, j < held → τ.1 23 j = nI (o j)) ∧ (∀ e, e < M → u e = true → ¬ onO o held e → τ.1 21 e = nI (act e)) ∧ ∀ e, e < M → (u e = false ∨ onO o held e) → τ.1 21 e = -9
section CR
variable {M F T met held high k : Nat} {u : Nat → Bool} {f w g p o act : Nat → Nat} {sp : Nat → Nat → Nat}
theorem TP.opn1 (h : TP M T u f w g p o met held k k) {v : Nat} (hv : v < M) (hu : u v = false) : TP M T (fu u v true) (fu f v met) (fu w v met) (fu g v 0) (fu p k v) (fu o held v) (met + 1) (held + 1) (k + 1) (k + 1) := by
  have := (h.push hv).opn (by rw [fu_eq]; exact hu)
  rwa [fu_eq] at this
theorem TS.opn1 {v : Nat} (h : TS M T sp u f w g (fu p k v) o held (k + 1) k act) (hP : TP M T u f w g p o met held k k) (hv : v < M) (hu : u v = false) : TS M T sp (fu u v true) (fu f v met) (fu w v met) (fu g v 0) (fu p k v) (fu o held v) (held + 1) (k + 1) (k + 1) act := by
  have := h.opn (hP.push hv) (by rw [fu_eq]; exact hu)
  rwa [fu_eq] at this
theorem v_T_open {v : Nat} (hv : v < M) (hM : M ≤ 1500) (σ : Hp) (h : CR M F σ u f w g p o met held high act) (hu : u v = false) (hm : met < M) (hh : held < M) (hi : high < M) (hno : ¬ onO o held v) : Ct m_T_open [.ref 16, .int (nI v), .int (nI F)] σ (fun r τ => r = none ∧ Fp tS σ τ ∧ CR M F τ (fu u v true) (fu f v met) (fu w v met) (fu g v 0) (fu p high v) (fu o held v) (met + 1) (held + 1) (high + 1) act) := by
  obtain ⟨⟨c7, c8, c9⟩, r19, r20, r18, r22, r23, r21, r21b⟩ := h
  have hv15 : v < 1500 := by omega
  show WP m_T_open 0 [.ref 16, .int (nI v), .int (nI F)] [] σ _
  refine wp_aload_n d_T_open_0 rfl ?_
  refine wp_dup d_T_open_1 rfl ?_
  refine wp_getI d_T_open_2 fl_T_41 rfl rfl (by decide) ?_
  refine wp_iconst (v := 1) d_T_open_5 (by decide) ?_
  refine wp_iadd d_T_open_6 ?_
  refine wp_putI d_T_open_7 fp_T_41 rfl rfl (by decide) rfl rfl ?_
  refine wp_aload_n d_T_open_10 rfl ?_
  refine wp_getA d_T_open_11 fl_T_18 rfl rfl rfl ?_
  refine wp_iload_n d_T_open_14 rfl ?_
  refine wp_aload_n d_T_open_15 rfl ?_
  refine wp_getI d_T_open_16 fl_T_41 rfl rfl (by decide) ?_
  generalize hσ1 : wI σ 16 9 (σ.1 16 9 + 1) = σ1
  have a9 : σ1.1 16 9 = nI (met + 1) := by rw [← hσ1, wI_eq, upd_eq, c9, nI_1]
  rw [a9]
  refine wp_callSN3v d_T_open_19 csn_T_33 ⟨Nat.le_of_ble_eq_true rfl, Nat.le_of_ble_eq_true rfl⟩ (Nat.le_of_ble_eq_true rfl) (Nat.le_of_ble_eq_true rfl) (c_P_put (a := 19) rfl (by decide) _ _ _) ?_
  rw [wrA_in hv15 (by decide)]
  generalize hσ2 : wI σ1 19 v (nI (met + 1)) = σ2
  have b9 : σ2.1 16 9 = nI (met + 1) := by rw [← hσ2, wI_ne (by decide)]; exact a9
  refine wp_aload_n d_T_open_22 rfl ?_
  refine wp_getA d_T_open_23 fl_T_21 rfl rfl rfl ?_
  refine wp_iload_n d_T_open_26 rfl ?_
  refine wp_aload_n d_T_open_27 rfl ?_
  refine wp_getI d_T_open_28 fl_T_41 rfl rfl (by decide) ?_
  rw [b9]
  refine wp_callSN3v d_T_open_31 csn_T_33 ⟨Nat.le_of_ble_eq_true rfl, Nat.le_of_ble_eq_true rfl⟩ (Nat.le_of_ble_eq_true rfl) (Nat.le_of_ble_eq_true rfl) (c_P_put (a := 20) rfl (by decide) _ _ _) ?_
  rw [wrA_in hv15 (by decide)]
  refine wp_aload_n d_T_open_34 rfl ?_
  refine wp_getA d_T_open_35 fl_T_15 rfl rfl rfl ?_
  refine wp_iload_n d_T_open_38 rfl ?_
  refine wp_iload_n d_T_open_39 rfl ?_
  refine wp_callSN3v d_T_open_40 csn_T_33 ⟨Nat.le_of_ble_eq_true rfl, Nat.le_of_ble_eq_true rfl⟩ (Nat.le_of_ble_eq_true rfl) (Nat.le_of_ble_eq_true rfl) (c_P_put (a := 18) rfl (by decide) _ _ _) ?_
  rw [wrA_in hv15 (by decide)]
  generalize hσ4 : wI (wI σ2 20 v (nI (met + 1))) 18 v (nI F) = σ4
  have d16 : σ4.1 16 = upd (σ.1 16) 9 (nI (met + 1)) := by rw [← hσ4, wI_ne (by decide), wI_ne (by decide), ← hσ2, wI_ne (by decide), ← hσ1, wI_eq, c9, nI_1]
  have d7 : σ4.1 16 7 = nI high := by rw [d16, upd_ne (by decide)]; exact c7
  have d8 : σ4.1 16 8 = nI held := by rw [d16, upd_ne (by decide)]; exact c8
  refine wp_aload_n d_T_open_43 rfl ?_
  refine wp_getA d_T_open_44 fl_T_27 rfl rfl rfl ?_
  refine wp_aload_n d_T_open_47 rfl ?_
  refine wp_getI d_T_open_48 fl_T_55 rfl rfl (by decide) ?_
  refine wp_iload_n d_T_open_51 rfl ?_
  rw [d7]
  refine wp_callSN3v d_T_open_52 csn_T_33 ⟨Nat.le_of_ble_eq_true rfl, Nat.le_of_ble_eq_true rfl⟩ (Nat.le_of_ble_eq_true rfl) (Nat.le_of_ble_eq_true rfl) (c_P_put (a := 22) rfl (by decide) _ _ _) ?_
  rw [wrA_in (show high < 1500 by omega) (by decide)]
  generalize hσ5 : wI σ4 22 high (nI v) = σ5
  have e7 : σ5.1 16 7 = nI high := by rw [← hσ5, wI_ne (by decide)]; exact d7
  have e8 : σ5.1 16 8 = nI held := by rw [← hσ5, wI_ne (by decide)]; exact d8
  refine wp_aload_n d_T_open_55 rfl ?_
  refine wp_getA d_T_open_56 fl_T_30 rfl rfl rfl ?_
  refine wp_aload_n d_T_open_59 rfl ?_
  refine wp_getI d_T_open_60 fl_T_58 rfl rfl (by decide) ?_
  refine wp_iload_n d_T_open_63 rfl ?_
  rw [e8]
  refine wp_callSN3v d_T_open_64 csn_T_33 ⟨Nat.le_of_ble_eq_true rfl, Nat.le_of_ble_eq_true rfl⟩ (Nat.le_of_ble_eq_true rfl) (Nat.le_of_ble_eq_true rfl) (c_P_put (a := 23) rfl (by decide) _ _ _) ?_
  rw [wrA_in (show held < 1500 by omega) (by decide)]
  generalize hσ6 : wI σ5 23 held (nI v) = σ6
  have f16 : σ6.1 16 = upd (σ.1 16) 9 (nI (met + 1)) := by rw [← hσ6, wI_ne (by decide), ← hσ5, wI_ne (by decide)]; exact d16
  refine wp_aload_n d_T_open_67 rfl ?_
  refine wp_dup d_T_open_68 rfl ?_
  refine wp_getI d_T_open_69 fl_T_55 rfl rfl (by decide) ?_
  refine wp_iconst (v := 1) d_T_open_72 (by decide) ?_
  refine wp_iadd d_T_open_73 ?_
  refine wp_putI d_T_open_74 fp_T_55 rfl rfl (by decide) rfl rfl ?_
  refine wp_aload_n d_T_open_77 rfl ?_
  refine wp_dup d_T_open_78 rfl ?_
  refine wp_getI d_T_open_79 fl_T_58 rfl rfl (by decide) ?_
  refine wp_iconst (v := 1) d_T_open_82 (by decide) ?_
  refine wp_iadd d_T_open_83 ?_
  refine wp_putI d_T_open_84 fp_T_58 rfl rfl (by decide) rfl rfl ?_
  refine wp_vret d_T_open_87 rfl ?_
  have hF6 : Fp tS σ σ6 := by
    rw [← hσ6, ← hσ5, ← hσ4, ← hσ2, ← hσ1]
    exact (((((Fp.rf.wI (by decide)).wI (by decide)).wI (by decide)).wI (by decide)).wI (by decide)).wI (by decide)
  refine ⟨rfl, (hF6.wI (by decide)).wI (by decide), ?_⟩
  have on' : ∀ y, onO (fu o held v) (held + 1) y ↔ onO o held y ∨ y = v := fun y => by
    constructor
    · rintro ⟨j, hj, e⟩
      by_cases q : j = held
      · rw [q, fu_eq] at e
        exact Or.inr e.symm
      · rw [fu_ne q] at e
        exact Or.inl ⟨j, by omega, e⟩
    · rintro (⟨j, hj, e⟩ | e)
      · exact ⟨j, by omega, by rw [fu_ne (by omega)]; exact e⟩
      · exact ⟨held, by omega, by rw [fu_eq, e]⟩
  generalize hσ8 : wI (wI σ6 16 7 (σ6.1 16 7 + 1)) 16 8 ((wI σ6 16 7 (σ6.1 16 7 + 1)).1 16 8 + 1) = τ
  have g : ∀ q, q ≠ 16 → τ.1 q = σ6.1 q := fun q hq => by rw [← hσ8, wI_ne hq, wI_ne hq]
  have t19 : τ.1 19 = upd (σ.1 19) v (nI (met + 1)) := by rw [g 19 (by decide), ← hσ6, wI_ne (by decide), ← hσ5, wI_ne (by decide), ← hσ4, wI_ne (by decide), wI_ne (by decide), ← hσ2, wI_eq, ← hσ1, wI_ne (by decide)]
  have t20 : τ.1 20 = upd (σ.1 20) v (nI (met + 1)) := by rw [g 20 (by decide), ← hσ6, wI_ne (by decide), ← hσ5, wI_ne (by decide), ← hσ4, wI_ne (by decide), wI_eq, ← hσ2, wI_ne (by decide), ← hσ1, wI_ne (by decide)]
  have t18 : τ.1 18 = upd (σ.1 18) v (nI F) := by rw [g 18 (by decide), ← hσ6, wI_ne (by decide), ← hσ5, wI_ne (by decide), ← hσ4, wI_eq, wI_ne (by decide), ← hσ2, wI_ne (by decide), ← hσ1, wI_ne (by decide)]
  have t22 : τ.1 22 = upd (σ.1 22) high (nI v) := by rw [g 22 (by decide), ← hσ6, wI_ne (by decide), ← hσ5, wI_eq, ← hσ4, wI_ne (by decide), wI_ne (by decide), ← hσ2, wI_ne (by decide), ← hσ1, wI_ne (by decide)]
  have t23 : τ.1 23 = upd (σ.1 23) held (nI v) := by rw [g 23 (by decide), ← hσ6, wI_eq, ← hσ5, wI_ne (by decide), ← hσ4, wI_ne (by decide), wI_ne (by decide), ← hσ2, wI_ne (by decide), ← hσ1, wI_ne (by decide)]
  have t21 : τ.1 21 = σ.1 21 := by rw [g 21 (by decide), ← hσ6, wI_ne (by decide), ← hσ5, wI_ne (by decide), ← hσ4, wI_ne (by decide), wI_ne (by decide), ← hσ2, wI_ne (by decide), ← hσ1, wI_ne (by decide)]
  have t7 : τ.1 16 7 = nI (high + 1) := by rw [← hσ8, wI_eq, upd_ne (by decide), wI_eq, upd_eq, f16, upd_ne (by decide), c7, nI_1]
  have t8 : τ.1 16 8 = nI (held + 1) := by rw [← hσ8, wI_eq, upd_eq, wI_eq, upd_ne (by decide), f16, upd_ne (by decide), c8, nI_1]
  have t9 : τ.1 16 9 = nI (met + 1) := by rw [← hσ8, wI_eq, upd_ne (by decide), wI_eq, upd_ne (by decide), f16, upd_eq]
  refine ⟨⟨t7, t8, t9⟩, fun e he => ?_, fun e he hue => ?_, fun e he hue => ?_, fun i hi2 => ?_, fun j hj => ?_, fun e he hue hon => ?_, fun e he hue => ?_⟩
  · rw [t19]
    by_cases q : e = v
    · rw [q, upd_eq, fu_eq, fu_eq, if_pos rfl]
    · rw [upd_ne q, fu_ne q, fu_ne q]; exact r19 e he
  · rw [t20]
    by_cases q : e = v
    · rw [q, upd_eq, fu_eq]
    · rw [fu_ne q] at hue
      rw [upd_ne q, fu_ne q]; exact r20 e he hue
  · rw [t18]
    by_cases q : e = v
    · rw [q, upd_eq, fu_eq]; rfl
    · rw [fu_ne q] at hue
      rw [upd_ne q, fu_ne q]; exact r18 e he hue
  · rw [t22]
    by_cases q : i = high
    · rw [q, upd_eq, fu_eq]
    · rw [upd_ne q, fu_ne q]; exact r22 i (by omega)
  · rw [t23]
    by_cases q : j = held
    · rw [q, upd_eq, fu_eq]
    · rw [upd_ne q, fu_ne q]; exact r23 j (by omega)
  · have q : e ≠ v := fun z => hon ((on' e).mpr (Or.inr z))
    rw [fu_ne q] at hue
    rw [t21]
    exact r21 e he hue (fun z => hon ((on' e).mpr (Or.inl z)))
  · rw [t21]
    by_cases q : e = v
    · rw [q]
      exact r21b v hv (Or.inl hu)
    · rw [fu_ne q] at hue
      exact r21b e he (hue.imp id (fun z => ((on' e).mp z).resolve_right q))
theorem mn_nI {a b : Nat} (ha : a + 1 < 2 ^ 31) (hb : b + 1 < 2 ^ 31) : mnI (nI (a + 1)) (nI (b + 1)) = nI ((if b < a then b else a) + 1) := by
  unfold mnI
  by_cases q : b < a
  · rw [if_pos q, if_pos (nI_lt (by omega) ha)]
  · rw [if_neg q, if_neg (fun z => q (by have := (nI_ltI hb ha).mp z; omega))]
/-- a low is lowered -/
theorem CR.low {σ : Hp} {a x : Nat} (h : CR M F σ u f w g p o met held high act) (ha : a < M) (hu : u a = true) (hM : M ≤ 1500) (hw : w a + 1 < 2 ^ 31) (hx : x + 1 < 2 ^ 31) : CR M F (lwW σ (nI a) (nI (x + 1))) u f (fu w a (if x < w a then x else w a)) g p o met held high act := by
  obtain ⟨c, r19, r20, r18, r22, r23, r21, r21b⟩ := h
  have e : lwW σ (nI a) (nI (x + 1)) = wI σ 20 a (nI ((if x < w a then x else w a) + 1)) := by
    rw [lwW, wrA_in (show a < 1500 by omega) (by decide), rdA_in (show a < 1500 by omega) (by decide), r20 a ha hu, mn_nI hw hx]
  rw [e]
  refine ⟨by rw [wI_ne (by decide)]; exact c, fun i hi => by rw [wI_ne (by decide)]; exact r19 i hi, fun i hi hui => ?_, fun i hi => by rw [wI_ne (by decide)]; exact r18 i hi, fun i hi => by rw [wI_ne (by decide)]; exact r22 i hi, fun i hi => by rw [wI_ne (by decide)]; exact r23 i hi, fun i hi => by rw [wI_ne (by decide)]; exact r21 i hi, fun i hi => by rw [wI_ne (by decide)]; exact r21b i hi⟩
  rw [wI_eq]
  by_cases q : i = a
  · rw [q, upd_eq, fu_eq]
  · rw [upd_ne q, fu_ne q]; exact r20 i hi hui
theorem nI_p0 {n : Nat} (h : n + 1 < 2 ^ 31) : ¬ nI (n + 1) = 0 := fun z => by
  have := (nI_eq (a := n + 1) (b := 0) h (by decide)).mp z
  omega
theorem v_T_tryWay {a x : Nat} (ha : a < M) (hx : x < M) (hM : M ≤ 1500) (σ : Hp) (h : CR M F σ u f w g p o met held high act) (hua : u a = true) (hwa : w a < M) (hfx : u x = true → f x < M) (hact : u x = true → ¬ onO o held x → act x < M) (hrm : u x = false → met < M ∧ held < M ∧ high < M ∧ ¬ onO o held x) : Ct m_T_tryWay [.ref 16, .int (nI a), .int (nI x), .int (nI F)] σ (fun r τ => r = none ∧ Fp tS σ τ ∧ ((u x = false ∧ CR M F τ (fu u x true) (fu f x met) (fu w x met) (fu g x 0) (fu p high x) (fu o held x) (met + 1) (held + 1) (high + 1) act) ∨ (u x = true ∧ ∃ w', CR M F τ u f w' g p o met held high act ∧ (∀ e, e ≠ a → w' e = w e) ∧ w' a ≤ w a ∧ (onO o held x → w' a ≤ f x) ∧ (w' a = w a ∨ (onO o held x ∧ w' a = f x))))) := by
  have h0 := h
  obtain ⟨c, r19, r20, r18, r22, r23, r21, r21b⟩ := h0
  show WP m_T_tryWay 0 [.ref 16, .int (nI a), .int (nI x), .int (nI F)] [] σ _
  refine wp_aload_n d_T_tryWay_0 rfl ?_
  refine wp_getA d_T_tryWay_1 fl_T_18 rfl rfl rfl ?_
  refine wp_iload_n d_T_tryWay_4 rfl ?_
  refine wp_callSN2e d_T_tryWay_5 csn_T_37 ⟨Nat.le_of_ble_eq_true rfl, Nat.le_of_ble_eq_true rfl⟩ (Nat.le_of_ble_eq_true rfl) (Nat.le_of_ble_eq_true rfl) (c_P_at (a := 19) rfl (by decide) _ _) ?_
  rw [rdA_in (show x < 1500 by omega) (by decide), r19 x hx]
  cases hux : u x with
  | false =>
    rw [if_neg (by decide)]
    obtain ⟨m1, m2, m3, m4⟩ := hrm hux
    refine wp_if_ne (tgt := 20) d_T_tryWay_8 (by decide) (fun hc => ?_) (fun hc => ?_)
    · exact absurd rfl hc
    · refine wp_aload_n d_T_tryWay_11 rfl ?_
      refine wp_iload_n d_T_tryWay_12 rfl ?_
      refine wp_iload_n d_T_tryWay_13 rfl ?_
      refine wp_callV2 d_T_tryWay_14 cv_T_61 rfl rfl rfl ⟨Nat.le_of_ble_eq_true rfl, Nat.le_of_ble_eq_true rfl⟩ (Nat.le_of_ble_eq_true rfl) (Nat.le_of_ble_eq_true rfl) (v_T_open hx hM _ h hux m1 m2 m3 m4) (fun v τ hv => ?_)
      obtain ⟨rfl, hF, hv⟩ := hv
      show WP m_T_tryWay 17 _ [] τ _
      refine wp_goto (tgt := 46) d_T_tryWay_17 (by decide) ?_
      refine wp_vret d_T_tryWay_46 rfl ?_
      exact ⟨rfl, hF, Or.inl ⟨rfl, hv⟩⟩
  | true =>
    have hfx := hfx hux
    have hact := hact hux
    rw [if_pos rfl]
    refine wp_if_ne (tgt := 20) d_T_tryWay_8 (by decide) (fun hc => ?_) (fun hc => ?_)
    · refine wp_aload_n d_T_tryWay_20 rfl ?_
      refine wp_getA d_T_tryWay_21 fl_T_24 rfl rfl rfl ?_
      refine wp_iload_n d_T_tryWay_24 rfl ?_
      refine wp_callSN2e d_T_tryWay_25 csn_T_37 ⟨Nat.le_of_ble_eq_true rfl, Nat.le_of_ble_eq_true rfl⟩ (Nat.le_of_ble_eq_true rfl) (Nat.le_of_ble_eq_true rfl) (c_P_at (a := 21) rfl (by decide) _ _) ?_
      rw [rdA_in (show x < 1500 by omega) (by decide)]
      by_cases q : onO o held x
      · rw [r21b x hx (Or.inr q)]
        refine wp_bipush (v := -9) d_T_tryWay_28 (by decide) ?_
        refine wp_icmp_ne (tgt := 46) d_T_tryWay_30 (by decide) (fun hc2 => ?_) (fun hc2 => ?_)
        · exact absurd rfl hc2
        · refine wp_aload_n d_T_tryWay_33 rfl ?_
          refine wp_iload_n d_T_tryWay_34 rfl ?_
          refine wp_aload_n d_T_tryWay_35 rfl ?_
          refine wp_getA d_T_tryWay_36 fl_T_18 rfl rfl rfl ?_
          refine wp_iload_n d_T_tryWay_39 rfl ?_
          refine wp_callSN2e d_T_tryWay_40 csn_T_37 ⟨Nat.le_of_ble_eq_true rfl, Nat.le_of_ble_eq_true rfl⟩ (Nat.le_of_ble_eq_true rfl) (Nat.le_of_ble_eq_true rfl) (c_P_at (a := 19) rfl (by decide) _ _) ?_
          rw [rdA_in (show x < 1500 by omega) (by decide), r19 x hx, hux, if_pos rfl]
          refine wp_callV2v d_T_tryWay_43 cv_T_76 rfl rfl rfl ⟨Nat.le_of_ble_eq_true rfl, Nat.le_of_ble_eq_true rfl⟩ (Nat.le_of_ble_eq_true rfl) (Nat.le_of_ble_eq_true rfl) (c_T_lower _ _ _) ?_
          refine wp_vret d_T_tryWay_46 rfl ?_
          refine ⟨rfl, lwW_Fp Fp.rf (by decide), Or.inr ⟨rfl, _, h.low ha hua hM (by omega) (by omega), fun e he => fu_ne he, ?_, fun _ => ?_, ?_⟩⟩
          · rw [fu_eq]; split <;> omega
          · rw [fu_eq]; split <;> omega
          · rw [fu_eq]
            by_cases q2 : f x < w a
            · rw [if_pos q2]; exact Or.inr ⟨q, rfl⟩
            · rw [if_neg q2]; exact Or.inl rfl
      · rw [r21 x hx hux q]
        have hax := hact q
        have n9 : ¬ nI (act x) = -9 := fun z => by
          have := nI_pos (show act x < 2 ^ 31 by omega)
          rw [z] at this
          exact this (by decide)
        refine wp_bipush (v := -9) d_T_tryWay_28 (by decide) ?_
        refine wp_icmp_ne (tgt := 46) d_T_tryWay_30 (by decide) (fun hc2 => ?_) (fun hc2 => ?_)
        · refine wp_vret d_T_tryWay_46 rfl ?_
          exact ⟨rfl, Fp.rf, Or.inr ⟨rfl, w, h, fun _ _ => rfl, Nat.le_refl _, fun z => absurd z q, Or.inl rfl⟩⟩
        · exact absurd hc2 n9
    · exact absurd hc (nI_p0 (by omega))
theorem v_T_takeWaiting {c j0 : Nat} (hM : M ≤ 1500) (σ : Hp) (h8 : σ.1 16 8 = nI held) (h23 : ∀ j, j < held → σ.1 23 j = nI (o j) ∧ o j < M) (hhM : held ≤ M) (hj : j0 < held) (ej : o j0 = c) (h21 : σ.1 21 c = -9) (inj : ∀ j, j < held → o j = c → j = j0) : Ct m_T_takeWaiting [.ref 16, .int (nI c)] σ (fun r τ => r = none ∧ τ.1 16 8 = nI j0 ∧ (τ.1 16 7 = σ.1 16 7 ∧ τ.1 16 9 = σ.1 16 9) ∧ (∀ j, j0 ≤ j → j < held → τ.1 21 (o j) = nI c) ∧ (∀ e, (∀ j, j0 ≤ j → j < held → o j ≠ e) → τ.1 21 e = σ.1 21 e) ∧ Fp [16, 21] σ τ) := by
  have hcM : c < M := by rw [← ej]; exact (h23 j0 hj).2
  obtain ⟨Z, hZ⟩ : ∃ Z : Option Value → Hp → Prop, Z = (fun r τ => r = none ∧ τ.1 16 8 = nI j0 ∧ (τ.1 16 7 = σ.1 16 7 ∧ τ.1 16 9 = σ.1 16 9) ∧ (∀ j, j0 ≤ j → j < held → τ.1 21 (o j) = nI c) ∧ (∀ e, (∀ j, j0 ≤ j → j < held → o j ≠ e) → τ.1 21 e = σ.1 21 e) ∧ Fp [16, 21] σ τ) := ⟨_, rfl⟩
  rw [← hZ]
  show WP m_T_takeWaiting 0 [.ref 16, .int (nI c)] [] σ _
  suffices H : ∀ t, t ≤ held - j0 → ∀ τ : Hp, τ.1 16 8 = nI (held - t) → (τ.1 16 7 = σ.1 16 7 ∧ τ.1 16 9 = σ.1 16 9) → (∀ j, held - t ≤ j → j < held → τ.1 21 (o j) = nI c) → (∀ e, (∀ j, held - t ≤ j → j < held → o j ≠ e) → τ.1 21 e = σ.1 21 e) → Fp [16, 21] σ τ → WP m_T_takeWaiting 0 [.ref 16, .int (nI c)] [] τ Z from H 0 (Nat.zero_le _) σ h8 ⟨rfl, rfl⟩ (fun j h1 h2 => absurd h1 (by omega)) (fun _ _ => rfl) Fp.rf
  refine lp_nat (fun t ht ih τ t8 t79 ta tb hF => ?_)
  by_cases q : held - t = j0
  · rw [q] at t8 ta tb
    have fin : Z none τ := by
      rw [hZ]
      exact ⟨rfl, t8, t79, ta, tb, hF⟩
    have r : τ.1 21 c = nI c := by rw [← ej, ta j0 (Nat.le_refl _) hj, ej]
    have n9 : ¬ nI c = -9 := fun z => by
      have := nI_pos (show c < 2 ^ 31 by omega)
      rw [z] at this
      exact this (by decide)
    refine wp_aload_n d_T_takeWaiting_0 rfl ?_
    refine wp_getI d_T_takeWaiting_1 fl_T_58 rfl rfl (by decide) ?_
    refine wp_if_le (tgt := 52) d_T_takeWaiting_4 (by decide) (fun hc => ?_) (fun hc => ?_)
    · refine wp_vret d_T_takeWaiting_52 rfl ?_
      exact fin
    · refine wp_aload_n d_T_takeWaiting_7 rfl ?_
      refine wp_getA d_T_takeWaiting_8 fl_T_24 rfl rfl rfl ?_
      refine wp_iload_n d_T_takeWaiting_11 rfl ?_
      refine wp_callSN2e d_T_takeWaiting_12 csn_T_37 ⟨Nat.le_of_ble_eq_true rfl, Nat.le_of_ble_eq_true rfl⟩ (Nat.le_of_ble_eq_true rfl) (Nat.le_of_ble_eq_true rfl) (c_P_at (a := 21) rfl (by decide) _ _) ?_
      rw [rdA_in (show c < 1500 by omega) (by decide), r]
      refine wp_bipush (v := -9) d_T_takeWaiting_15 (by decide) ?_
      refine wp_icmp_ne (tgt := 52) d_T_takeWaiting_17 (by decide) (fun hc2 => ?_) (fun hc2 => ?_)
      · refine wp_vret d_T_takeWaiting_52 rfl ?_
        exact fin
      · exact absurd hc2 n9
  · obtain ⟨m, hm⟩ : ∃ m, held - t = m + 1 := ⟨held - t - 1, by omega⟩
    have hmh : m < held := by omega
    rw [hm] at t8 ta tb
    have r : τ.1 21 c = -9 := by
      rw [tb c (fun j h1 h2 e => by
        have := inj j h2 e
        omega)]
      exact h21
    have t23 : τ.1 23 = σ.1 23 := (hF 23 (by decide)).1
    have om := h23 m hmh
    refine wp_aload_n d_T_takeWaiting_0 rfl ?_
    refine wp_getI d_T_takeWaiting_1 fl_T_58 rfl rfl (by decide) ?_
    refine wp_if_le (tgt := 52) d_T_takeWaiting_4 (by decide) (fun hc => ?_) (fun hc => ?_)
    · rw [t8] at hc
      have : nI (m + 1) ≤ nI 0 := hc
      rw [nI_leN (by omega) (by omega)] at this
      omega
    · refine wp_aload_n d_T_takeWaiting_7 rfl ?_
      refine wp_getA d_T_takeWaiting_8 fl_T_24 rfl rfl rfl ?_
      refine wp_iload_n d_T_takeWaiting_11 rfl ?_
      refine wp_callSN2e d_T_takeWaiting_12 csn_T_37 ⟨Nat.le_of_ble_eq_true rfl, Nat.le_of_ble_eq_true rfl⟩ (Nat.le_of_ble_eq_true rfl) (Nat.le_of_ble_eq_true rfl) (c_P_at (a := 21) rfl (by decide) _ _) ?_
      rw [rdA_in (show c < 1500 by omega) (by decide), r]
      refine wp_bipush (v := -9) d_T_takeWaiting_15 (by decide) ?_
      refine wp_icmp_ne (tgt := 52) d_T_takeWaiting_17 (by decide) (fun hc2 => ?_) (fun hc2 => ?_)
      · exact absurd rfl hc2
      · refine wp_aload_n d_T_takeWaiting_20 rfl ?_
        refine wp_dup d_T_takeWaiting_21 rfl ?_
        refine wp_getI d_T_takeWaiting_22 fl_T_58 rfl rfl (by decide) ?_
        refine wp_iconst (v := 1) d_T_takeWaiting_25 (by decide) ?_
        refine wp_isub d_T_takeWaiting_26 ?_
        refine wp_putI d_T_takeWaiting_27 fp_T_58 rfl rfl (by decide) rfl rfl ?_
        refine wp_aload_n d_T_takeWaiting_30 rfl ?_
        refine wp_getA d_T_takeWaiting_31 fl_T_24 rfl rfl rfl ?_
        refine wp_aload_n d_T_takeWaiting_34 rfl ?_
        refine wp_getA d_T_takeWaiting_35 fl_T_30 rfl rfl rfl ?_
        refine wp_aload_n d_T_takeWaiting_38 rfl ?_
        refine wp_getI d_T_takeWaiting_39 fl_T_58 rfl rfl (by decide) ?_
        rw [t8, nI_pred]
        generalize hυ : wI τ 16 8 (nI m) = υ
        have u8 : υ.1 16 8 = nI m := by rw [← hυ, wI_eq, upd_eq]
        have u23 : υ.1 23 = σ.1 23 := by rw [← hυ, wI_ne (by decide)]; exact t23
        have u21 : υ.1 21 = τ.1 21 := by rw [← hυ, wI_ne (by decide)]
        rw [u8]
        refine wp_callSN2e d_T_takeWaiting_42 csn_T_37 ⟨Nat.le_of_ble_eq_true rfl, Nat.le_of_ble_eq_true rfl⟩ (Nat.le_of_ble_eq_true rfl) (Nat.le_of_ble_eq_true rfl) (c_P_at (a := 23) rfl (by decide) _ _) ?_
        rw [rdA_in (show m < 1500 by omega) (by decide), u23, om.1]
        refine wp_iload_n d_T_takeWaiting_45 rfl ?_
        refine wp_callSN3v d_T_takeWaiting_46 csn_T_33 ⟨Nat.le_of_ble_eq_true rfl, Nat.le_of_ble_eq_true rfl⟩ (Nat.le_of_ble_eq_true rfl) (Nat.le_of_ble_eq_true rfl) (c_P_put (a := 21) rfl (by decide) _ _ _) ?_
        rw [wrA_in (show o m < 1500 by omega) (by decide)]
        refine wp_goto (tgt := 0) d_T_takeWaiting_49 (by decide) ?_
        refine ih (by omega) _ (by rw [wI_ne (by decide), u8]; congr 1; omega) ?_ (fun j h1 h2 => ?_) (fun e he => ?_) ?_
        · rw [wI_ne (by decide), ← hυ, wI_eq, upd_ne (by decide), upd_ne (by decide)]
          exact t79
        · rw [wI_eq, u21]
          by_cases z : o j = o m
          · rw [z, upd_eq]
          · rw [upd_ne z]
            refine ta j ?_ h2
            rcases Nat.lt_or_ge m j with y | y
            · omega
            · exact absurd (by rw [show j = m by omega]) z
        · rw [wI_eq, u21, upd_ne (fun z => he m (by omega) hmh z.symm)]
          exact tb e (fun j h1 h2 => he j (by omega) h2)
        · rw [← hυ]
          exact (hF.wI (by decide)).wI (by decide)
end CR
