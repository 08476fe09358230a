/-! elements, element, word, find, done, solve: the class's answers -/
theorem EL.M {τ : Hp} {N L M : Nat} {lm : Nat → Nat} (hE : EL τ N L lm) (hM : EM τ M) : M = (EQ N L lm).length :=
  (nI_eq (by have := hM.le; omega) (by have := hE.len; omega)).mp (hM.m.symm.trans hE.2.1.1)
/-- within the list or not -/
theorem has_bz {τ : Hp} {N L : Nat} {lm : Nat → Nat} (hE : EL τ N L lm) {e : Int32} : (0 ≤ e ∧ e ≤ τ.1 3 6 - 1) ↔ ∃ x, x < (EQ N L lm).length ∧ e = nI x := by
  rw [hE.2.1.1, m_e9 EL.pos]
  exact in_M EL.pos hE.len
theorem xv_elements (w : Int32) {σ : Hp} {a : Sx} (hX : XS σ a) : Ct m_P_elements [.ref 0, .int w] σ (YX σ a (aeEl w a)) := by
  obtain ⟨N, L, lm, s, e⟩ := a
  obtain ⟨M, hM, -⟩ := hX.2.2.2.2
  have hI := hX.1
  have h0 : 0 < N := by have := hI.2.1; omega
  have h6 := hI.2.2.1
  suffices H : Ct m_P_elements [.ref 0, .int w] σ (Rq σ (aeEl w (N, L, lm, s, e))) from H.im (fun w τ hr => hr.yx hX (fun z hz => hz))
  show WP m_P_elements 0 [.ref 0, .int w] [] σ _
  refine wp_iload_n d_P_elements_0 rfl ?_
  refine wp_iconst (v := 0) d_P_elements_1 (by decide) ?_
  refine wp_iconst (v := 3) d_P_elements_2 (by decide) ?_
  refine wp_callS3e d_P_elements_3 cs_P_62 ⟨Nat.le_of_ble_eq_true rfl, Nat.le_of_ble_eq_true rfl⟩ (Nat.le_of_ble_eq_true rfl) (Nat.le_of_ble_eq_true rfl) (c_P_within _ _ _ _) ?_
  refine wp_if_ne (tgt := 11) d_P_elements_6 (by decide) (fun hc => ?_) (fun hc => ?_)
  · obtain ⟨j, hj, rfl⟩ := wi_nI (m := 3) (by decide) (bz_n0 hc)
    refine wp_aload_n d_P_elements_11 rfl ?_
    refine wp_getA d_P_elements_12 fl_P_21 rfl rfl rfl ?_
    refine wp_callV0 d_P_elements_15 cv_P_100 rfl rfl rfl ⟨Nat.le_of_ble_eq_true rfl, Nat.le_of_ble_eq_true rfl⟩ (Nat.le_of_ble_eq_true rfl) (Nat.le_of_ble_eq_true rfl) (c_E_ready _ hI hX.2.1 hM) (fun v τ hv => ?_)
    obtain ⟨hF, ⟨M', hM'⟩, hv⟩ := hv
    have hI' := hF.KI (by decide) hI
    have hL' : LL τ N L lm := LL.cg hX.2.1 (hF 2 (by decide)).1
    have hFp : Fp pS σ τ := hF.up (upS (by decide))
    rcases hv with ⟨rfl, hE⟩ | ⟨rfl, hE⟩
    · show WP m_P_elements 18 _ [.int 0] τ _
      refine wp_if_ne (tgt := 24) d_P_elements_18 (by decide) (fun hc2 => ?_) (fun hc2 => ?_)
      · exact absurd rfl hc2
      · refine wp_bipush (v := -5) d_P_elements_21 (by decide) ?_
        refine wp_iret d_P_elements_23 rfl ?_
        exact ⟨⟨_, rfl, Or.inl ⟨j, hj, rfl, Or.inl ⟨hE.2.1, rfl⟩⟩⟩, hFp, M', hM'⟩
    · have hMM := hE.M hM'
      subst hMM
      have ans : ∀ z : Int32, z = nI (elN N L lm j (EQ N L lm).length) → aeEl (nI j) (N, L, lm, s, e) z := fun z hz => Or.inl ⟨j, hj, rfl, Or.inr ⟨hE.len, hz⟩⟩
      show WP m_P_elements 18 _ [.int 1] τ _
      refine wp_if_ne (tgt := 24) d_P_elements_18 (by decide) (fun hc2 => ?_) (fun hc2 => ?_)
      · rcases (show j = 0 ∨ j = 1 ∨ j = 2 ∨ j = 3 by omega) with rfl | rfl | rfl | rfl
        · refine wp_iload_n d_P_elements_24 rfl ?_
          refine wp_tabIn (tgt := 52) (off := 27) d_P_elements_25 (by decide) (by decide) (by decide) (by decide) ?_
          refine wp_aload_n d_P_elements_52 rfl ?_
          refine wp_getA d_P_elements_53 fl_P_21 rfl rfl rfl ?_
          refine wp_getI d_P_elements_56 fl_P_104 rfl rfl (by decide) ?_
          refine wp_iret d_P_elements_59 rfl ?_
          exact ⟨⟨_, rfl, ans _ (by rw [el_0]; exact hE.2.1.1)⟩, hFp, _, hM'⟩
        · refine wp_iload_n d_P_elements_24 rfl ?_
          refine wp_tabIn (tgt := 60) (off := 35) d_P_elements_25 (by decide) (by decide) (by decide) (by decide) ?_
          refine wp_aload_n d_P_elements_60 rfl ?_
          refine wp_getA d_P_elements_61 fl_P_21 rfl rfl rfl ?_
          refine wp_callV0e d_P_elements_64 cv_P_105 rfl rfl rfl ⟨Nat.le_of_ble_eq_true rfl, Nat.le_of_ble_eq_true rfl⟩ (Nat.le_of_ble_eq_true rfl) (Nat.le_of_ble_eq_true rfl) (c_E_stillOnes _ hI' hM') ?_
          refine wp_iret d_P_elements_67 rfl ?_
          exact ⟨⟨_, rfl, ans _ (el_1 h0 h6 hE)⟩, hFp, _, hM'⟩
        · refine wp_iload_n d_P_elements_24 rfl ?_
          refine wp_tabIn (tgt := 68) (off := 43) d_P_elements_25 (by decide) (by decide) (by decide) (by decide) ?_
          refine wp_aload_n d_P_elements_68 rfl ?_
          refine wp_getA d_P_elements_69 fl_P_21 rfl rfl rfl ?_
          refine wp_callV0e d_P_elements_72 cv_P_108 rfl rfl rfl ⟨Nat.le_of_ble_eq_true rfl, Nat.le_of_ble_eq_true rfl⟩ (Nat.le_of_ble_eq_true rfl) (Nat.le_of_ble_eq_true rfl) (c_E_central _ hI' hM') ?_
          refine wp_iret d_P_elements_75 rfl ?_
          exact ⟨⟨_, rfl, ans _ (el_2 h0 h6 hL' hE)⟩, hFp, _, hM'⟩
        · refine wp_iload_n d_P_elements_24 rfl ?_
          refine wp_tabOut (tgt := 76) d_P_elements_25 (by decide) (by decide) ?_
          refine wp_aload_n d_P_elements_76 rfl ?_
          refine wp_getA d_P_elements_77 fl_P_21 rfl rfl rfl ?_
          refine wp_callV0 d_P_elements_80 cv_P_111 rfl rfl rfl ⟨Nat.le_of_ble_eq_true rfl, Nat.le_of_ble_eq_true rfl⟩ (Nat.le_of_ble_eq_true rfl) (Nat.le_of_ble_eq_true rfl) (v_E_greatestRing _ hI' hE) (fun v υ hv => ?_)
          obtain ⟨rfl, hF2⟩ := hv
          show WP m_P_elements 83 _ [.int (nI (grN N L lm (EQ N L lm).length))] υ _
          refine wp_iret d_P_elements_83 rfl ?_
          refine ⟨⟨_, rfl, ans _ ?_⟩, hFp.tr (hF2.up (upS (by decide))), _, hF2.EM (by decide) hM'⟩
          have hp := EL.pos (N := N) (L := L) (lm := lm)
          have := gr_el (N := N) (L := L) (lm := lm) ((EQ N L lm).length - 1)
          rw [show (EQ N L lm).length - 1 + 1 = (EQ N L lm).length by omega] at this
          rw [this]
      · exact absurd hc2 (by decide)
  · refine wp_iconst (v := -1) d_P_elements_9 (by decide) ?_
    refine wp_iret d_P_elements_10 rfl ?_
    exact ⟨⟨_, rfl, Or.inr ⟨bz_0.mp hc, rfl⟩⟩, Fp.rf, M, hM⟩
theorem xv_element (x w : Int32) {σ : Hp} {a : Sx} (hX : XS σ a) : Ct m_P_element [.ref 0, .int x, .int w] σ (YX σ a (aeEm x w a)) := by
  obtain ⟨N, L, lm, s, e⟩ := a
  obtain ⟨M, hM, -⟩ := hX.2.2.2.2
  have hI := hX.1
  suffices H : Ct m_P_element [.ref 0, .int x, .int w] σ (Rq σ (aeEm x w (N, L, lm, s, e))) from H.im (fun w τ hr => hr.yx hX (fun z hz => hz))
  show WP m_P_element 0 [.ref 0, .int x, .int w] [] σ _
  refine wp_iload_n d_P_element_0 rfl ?_
  refine wp_iconst (v := 0) d_P_element_1 (by decide) ?_
  refine wp_bipush (v := 7) d_P_element_2 (by decide) ?_
  refine wp_callS3e d_P_element_4 cs_P_62 ⟨Nat.le_of_ble_eq_true rfl, Nat.le_of_ble_eq_true rfl⟩ (Nat.le_of_ble_eq_true rfl) (Nat.le_of_ble_eq_true rfl) (c_P_within _ _ _ _) ?_
  refine wp_if_ne (tgt := 12) d_P_element_7 (by decide) (fun hc => ?_) (fun hc => ?_)
  · obtain ⟨j, hj, rfl⟩ := wi_nI (m := 7) (by decide) (bz_n0 hc)
    refine wp_aload_n d_P_element_12 rfl ?_
    refine wp_getA d_P_element_13 fl_P_21 rfl rfl rfl ?_
    refine wp_callV0 d_P_element_16 cv_P_100 rfl rfl rfl ⟨Nat.le_of_ble_eq_true rfl, Nat.le_of_ble_eq_true rfl⟩ (Nat.le_of_ble_eq_true rfl) (Nat.le_of_ble_eq_true rfl) (c_E_ready _ hI hX.2.1 hM) (fun v τ hv => ?_)
    obtain ⟨hF, ⟨M', hM'⟩, hv⟩ := hv
    have hI' := hF.KI (by decide) hI
    have hFp : Fp pS σ τ := hF.up (upS (by decide))
    rcases hv with ⟨rfl, hE⟩ | ⟨rfl, hE⟩
    · show WP m_P_element 19 _ [.int 0] τ _
      refine wp_if_ne (tgt := 25) d_P_element_19 (by decide) (fun hc2 => ?_) (fun hc2 => ?_)
      · exact absurd rfl hc2
      · refine wp_bipush (v := -5) d_P_element_22 (by decide) ?_
        refine wp_iret d_P_element_24 rfl ?_
        exact ⟨⟨_, rfl, Or.inl ⟨j, hj, rfl, Or.inl ⟨hE.2.1, rfl⟩⟩⟩, hFp, M', hM'⟩
    · have ans : ∀ z : Int32, Ar (EQ N L lm).length x (fun x => nI (eoN N L lm j x)) z → aeEm x (nI j) (N, L, lm, s, e) z := fun z hz => Or.inl ⟨j, hj, rfl, Or.inr ⟨hE.len, hz⟩⟩
      show WP m_P_element 19 _ [.int 1] τ _
      refine wp_if_ne (tgt := 25) d_P_element_19 (by decide) (fun hc2 => ?_) (fun hc2 => ?_)
      · refine wp_aload_n d_P_element_25 rfl ?_
        refine wp_getA d_P_element_26 fl_P_21 rfl rfl rfl ?_
        refine wp_iload_n d_P_element_29 rfl ?_
        refine wp_callV1e d_P_element_30 cv_P_114 rfl rfl rfl ⟨Nat.le_of_ble_eq_true rfl, Nat.le_of_ble_eq_true rfl⟩ (Nat.le_of_ble_eq_true rfl) (Nat.le_of_ble_eq_true rfl) (c_E_has _ _) ?_
        refine wp_if_eq (tgt := 48) d_P_element_33 (by decide) (fun hc3 => ?_) (fun hc3 => ?_)
        · refine wp_iconst (v := -1) d_P_element_48 (by decide) ?_
          refine wp_iret d_P_element_49 rfl ?_
          exact ⟨⟨_, rfl, ans _ (Or.inr ⟨fun q => bz_0.mp hc3 ((has_bz hE).mpr q), rfl⟩)⟩, hFp, M', hM'⟩
        · obtain ⟨x, hx, rfl⟩ := (has_bz hE).mp (bz_n0 hc3)
          refine wp_aload_n d_P_element_36 rfl ?_
          refine wp_getA d_P_element_37 fl_P_21 rfl rfl rfl ?_
          refine wp_iload_n d_P_element_40 rfl ?_
          refine wp_iload_n d_P_element_41 rfl ?_
          refine wp_callV2 d_P_element_42 cv_P_118 rfl rfl rfl ⟨Nat.le_of_ble_eq_true rfl, Nat.le_of_ble_eq_true rfl⟩ (Nat.le_of_ble_eq_true rfl) (Nat.le_of_ble_eq_true rfl) (v_E_tell (by omega) _ hI' hE hx) (fun v υ hv => ?_)
          obtain ⟨rfl, hF2⟩ := hv
          show WP m_P_element 45 _ [.int (nI (eoN N L lm j x))] υ _
          refine wp_goto (tgt := 49) d_P_element_45 (by decide) ?_
          refine wp_iret d_P_element_49 rfl ?_
          exact ⟨⟨_, rfl, ans _ (Or.inl ⟨x, hx, rfl, rfl⟩)⟩, hFp.tr (hF2.up (upS (by decide))), M', hF2.EM (by decide) hM'⟩
      · exact absurd hc2 (by decide)
  · refine wp_iconst (v := -1) d_P_element_10 (by decide) ?_
    refine wp_iret d_P_element_11 rfl ?_
    exact ⟨⟨_, rfl, Or.inr ⟨bz_0.mp hc, rfl⟩⟩, Fp.rf, M, hM⟩
/-- the letter at a place of a word -/
theorem EL.la {τ : Hp} {N L : Nat} {lm : Nat → Nat} (hE : EL τ N L lm) {x : Nat} (hx : x < (EQ N L lm).length) (i : Int32) : Wr N L lm (EQ N L lm).length (nI x) i (laF τ 12 13 14 1500 (nI x) i) := by
  have hI := EQ_BI (N := N) (L := L) (lm := lm)
  have h15 := hE.len
  have hd := dep_le hI x hx
  have ed : rdA τ 14 1500 (nI x) = nI (dep (EQ N L lm) x) := by
    rw [rdA_in (by omega) (by decide)]
    exact (hE.2.1.2.2.1 x hx).2.1
  have back : ∀ t, t ≤ dep (EQ N L lm) x → it (fun _ p => rdA τ 12 1500 p) t (nI x) = nI (bkF (EQ N L lm) t x) := by
    intro t
    induction t with
    | zero => exact fun _ => rfl
    | succ t ih =>
      intro ht
      obtain ⟨b1, b2⟩ := bkF_dep hI hx t (by omega)
      have hp := dep_pos hI b1 (by omega)
      show rdA τ 12 1500 (it (fun _ p => rdA τ 12 1500 p) t (nI x)) = nI (par (EQ N L lm) (bkF (EQ N L lm) t x))
      rw [ih (by omega), rdA_in (by omega) (by decide)]
      exact ((hE.2.1.2.2.1 _ b1).2.2 hp).1
  unfold laF
  rw [ed]
  by_cases hi : i < 0
  · rw [if_pos (Or.inl hi)]
    refine Or.inr ⟨fun ⟨x', y, h1, h2, h3, h4⟩ => ?_, rfl⟩
    have hx' := dep_le hI x' h1
    rw [h3] at hi
    exact nI_pos (by omega) hi
  · obtain ⟨y, hy, rfl⟩ := nI_of hi
    rcases Nat.lt_or_ge y (dep (EQ N L lm) x) with z | z
    · obtain ⟨b1, b2⟩ := bkF_dep hI hx (dep (EQ N L lm) x - 1 - y) (by omega)
      have hp := dep_pos hI b1 (by omega)
      rw [dep_sub (by omega) z, if_neg (by rintro (h | h); exact hi h; exact nI_pos (by omega) h), nI_clamp (by omega), back _ (by omega), rdA_in (by omega) (by decide)]
      exact Or.inl ⟨x, y, hx, rfl, rfl, z, ((hE.2.1.2.2.1 _ b1).2.2 hp).2⟩
    · rw [if_pos (Or.inr (neg_dep (by omega) hy z))]
      refine Or.inr ⟨fun ⟨x', y', h1, h2, h3, h4⟩ => ?_, rfl⟩
      have hx' := dep_le hI x' h1
      have e1 := (nI_eq (by omega) (by omega)).mp h2
      have e2 := (nI_eq (by omega) (by omega)).mp h3
      rw [← e1] at h4
      omega
theorem xv_word (x i : Int32) {σ : Hp} {a : Sx} (hX : XS σ a) : Ct m_P_word [.ref 0, .int x, .int i] σ (YX σ a (aeWo x i a)) := by
  obtain ⟨N, L, lm, s, e⟩ := a
  obtain ⟨M, hM, -⟩ := hX.2.2.2.2
  have hI := hX.1
  suffices H : Ct m_P_word [.ref 0, .int x, .int i] σ (Rq σ (aeWo x i (N, L, lm, s, e))) from H.im (fun w τ hr => hr.yx hX (fun z hz => hz))
  show WP m_P_word 0 [.ref 0, .int x, .int i] [] σ _
  refine wp_aload_n d_P_word_0 rfl ?_
  refine wp_getA d_P_word_1 fl_P_21 rfl rfl rfl ?_
  refine wp_callV0 d_P_word_4 cv_P_100 rfl rfl rfl ⟨Nat.le_of_ble_eq_true rfl, Nat.le_of_ble_eq_true rfl⟩ (Nat.le_of_ble_eq_true rfl) (Nat.le_of_ble_eq_true rfl) (c_E_ready _ hI hX.2.1 hM) (fun v τ hv => ?_)
  obtain ⟨hF, ⟨M', hM'⟩, hv⟩ := hv
  have hFp : Fp pS σ τ := hF.up (upS (by decide))
  rcases hv with ⟨rfl, hE⟩ | ⟨rfl, hE⟩
  · show WP m_P_word 7 _ [.int 0] τ _
    refine wp_if_ne (tgt := 13) d_P_word_7 (by decide) (fun hc2 => ?_) (fun hc2 => ?_)
    · exact absurd rfl hc2
    · refine wp_bipush (v := -5) d_P_word_10 (by decide) ?_
      refine wp_iret d_P_word_12 rfl ?_
      exact ⟨⟨_, rfl, Or.inl ⟨hE.2.1, rfl⟩⟩, hFp, M', hM'⟩
  · have ans : ∀ z : Int32, Wr N L lm (EQ N L lm).length x i z → aeWo x i (N, L, lm, s, e) z := fun z hz => Or.inr ⟨hE.len, hz⟩
    show WP m_P_word 7 _ [.int 1] τ _
    refine wp_if_ne (tgt := 13) d_P_word_7 (by decide) (fun hc2 => ?_) (fun hc2 => ?_)
    · refine wp_aload_n d_P_word_13 rfl ?_
      refine wp_getA d_P_word_14 fl_P_21 rfl rfl rfl ?_
      refine wp_iload_n d_P_word_17 rfl ?_
      refine wp_callV1e d_P_word_18 cv_P_114 rfl rfl rfl ⟨Nat.le_of_ble_eq_true rfl, Nat.le_of_ble_eq_true rfl⟩ (Nat.le_of_ble_eq_true rfl) (Nat.le_of_ble_eq_true rfl) (c_E_has _ _) ?_
      refine wp_if_eq (tgt := 39) d_P_word_21 (by decide) (fun hc3 => ?_) (fun hc3 => ?_)
      · refine wp_iconst (v := -1) d_P_word_39 (by decide) ?_
        refine wp_iret d_P_word_40 rfl ?_
        exact ⟨⟨_, rfl, ans _ (Or.inr ⟨fun ⟨x', y, h1, h2, _⟩ => bz_0.mp hc3 ((has_bz hE).mpr ⟨x', h1, h2⟩), rfl⟩)⟩, hFp, M', hM'⟩
      · obtain ⟨x, hx, rfl⟩ := (has_bz hE).mp (bz_n0 hc3)
        refine wp_aload_n d_P_word_24 rfl ?_
        refine wp_getA d_P_word_25 fl_P_21 rfl rfl rfl ?_
        refine wp_getA d_P_word_28 fl_P_121 rfl rfl rfl ?_
        refine wp_iload_n d_P_word_31 rfl ?_
        refine wp_iload_n d_P_word_32 rfl ?_
        refine wp_callV2e d_P_word_33 cv_P_125 rfl rfl rfl ⟨Nat.le_of_ble_eq_true rfl, Nat.le_of_ble_eq_true rfl⟩ (Nat.le_of_ble_eq_true rfl) (Nat.le_of_ble_eq_true rfl) (c_R_letterAt trK_11 _ _ _) ?_
        refine wp_goto (tgt := 40) d_P_word_36 (by decide) ?_
        refine wp_iret d_P_word_40 rfl ?_
        exact ⟨⟨_, rfl, ans _ (hE.la hx i)⟩, hFp, M', hM'⟩
    · exact absurd hc2 (by decide)
theorem xv_find (m : Int32) {σ : Hp} {a : Sx} (hX : XS σ a) : Ct m_P_find [.ref 0, .int m] σ (YX σ a (aeFi m a)) := by
  obtain ⟨N, L, lm, s, e⟩ := a
  obtain ⟨M, hM, -⟩ := hX.2.2.2.2
  have hI := hX.1
  have h0 : 0 < N := by have := hI.2.1; omega
  have h6 := hI.2.2.1
  suffices H : Ct m_P_find [.ref 0, .int m] σ (Rq σ (aeFi m (N, L, lm, s, e))) from H.im (fun w τ hr => hr.yx hX (fun z hz => hz))
  show WP m_P_find 0 [.ref 0, .int m] [] σ _
  have h31 := pow_lt hI.2.2.1
  have hpp := pow_pos' hI.2.1
  have e9 : nI (N ^ N) - 1 = nI (N ^ N - 1) := by
    rw [show N ^ N = N ^ N - 1 + 1 by omega, nI_pred, show N ^ N - 1 + 1 - 1 = N ^ N - 1 by omega]
  refine wp_iload_n d_P_find_0 rfl ?_
  refine wp_iconst (v := 0) d_P_find_1 (by decide) ?_
  refine wp_aload_n d_P_find_2 rfl ?_
  refine wp_getA d_P_find_3 fl_P_10 rfl rfl rfl ?_
  refine wp_callV0e d_P_find_6 cv_P_81 rfl rfl rfl ⟨Nat.le_of_ble_eq_true rfl, Nat.le_of_ble_eq_true rfl⟩ (Nat.le_of_ble_eq_true rfl) (Nat.le_of_ble_eq_true rfl) (c_L_mostMaps _ hI) ?_
  refine wp_iconst (v := 1) d_P_find_9 (by decide) ?_
  refine wp_isub d_P_find_10 ?_
  rw [e9]
  refine wp_callS3e d_P_find_11 cs_P_62 ⟨Nat.le_of_ble_eq_true rfl, Nat.le_of_ble_eq_true rfl⟩ (Nat.le_of_ble_eq_true rfl) (Nat.le_of_ble_eq_true rfl) (c_P_within _ _ _ _) ?_
  refine wp_if_ne (tgt := 19) d_P_find_14 (by decide) (fun hc => ?_) (fun hc => ?_)
  · obtain ⟨j, hj, rfl⟩ := wi_nI (by omega) (bz_n0 hc)
    refine wp_aload_n d_P_find_19 rfl ?_
    refine wp_getA d_P_find_20 fl_P_21 rfl rfl rfl ?_
    refine wp_callV0 d_P_find_23 cv_P_100 rfl rfl rfl ⟨Nat.le_of_ble_eq_true rfl, Nat.le_of_ble_eq_true rfl⟩ (Nat.le_of_ble_eq_true rfl) (Nat.le_of_ble_eq_true rfl) (c_E_ready _ hI hX.2.1 hM) (fun v τ hv => ?_)
    obtain ⟨hF, ⟨M', hM'⟩, hv⟩ := hv
    have hI' := hF.KI (by decide) hI
    have hFp : Fp pS σ τ := hF.up (upS (by decide))
    rcases hv with ⟨rfl, hE⟩ | ⟨rfl, hE⟩
    · show WP m_P_find 26 _ [.int 0] τ _
      refine wp_if_ne (tgt := 32) d_P_find_26 (by decide) (fun hc2 => ?_) (fun hc2 => ?_)
      · exact absurd rfl hc2
      · refine wp_bipush (v := -5) d_P_find_29 (by decide) ?_
        refine wp_iret d_P_find_31 rfl ?_
        exact ⟨⟨_, rfl, Or.inl ⟨j, by omega, rfl, Or.inl ⟨hE.2.1, rfl⟩⟩⟩, hFp, M', hM'⟩
    · show WP m_P_find 26 _ [.int 1] τ _
      refine wp_if_ne (tgt := 32) d_P_find_26 (by decide) (fun hc2 => ?_) (fun hc2 => ?_)
      · refine wp_aload_n d_P_find_32 rfl ?_
        refine wp_getA d_P_find_33 fl_P_21 rfl rfl rfl ?_
        refine wp_iload_n d_P_find_36 rfl ?_
        refine wp_aload_n d_P_find_37 rfl ?_
        refine wp_getA d_P_find_38 fl_P_10 rfl rfl rfl ?_
        refine wp_getI d_P_find_41 fl_P_66 rfl rfl (by decide) ?_
        rw [hI'.1]
        refine wp_callS2e d_P_find_44 cs_P_88 ⟨Nat.le_of_ble_eq_true rfl, Nat.le_of_ble_eq_true rfl⟩ (Nat.le_of_ble_eq_true rfl) (Nat.le_of_ble_eq_true rfl) (c_G_ofNumber (by omega) (by have := hI.2.1; omega) (by have := hI.2.2.1; omega) _) ?_
        refine wp_callV1e d_P_find_47 cv_P_130 rfl rfl rfl ⟨Nat.le_of_ble_eq_true rfl, Nat.le_of_ble_eq_true rfl⟩ (Nat.le_of_ble_eq_true rfl) (Nat.le_of_ble_eq_true rfl) (c_E_numberOf _ _) ?_
        refine wp_iret d_P_find_50 rfl ?_
        refine ⟨⟨_, rfl, Or.inl ⟨j, by omega, rfl, Or.inr ⟨hE.len, ?_⟩⟩⟩, hFp, M', hM'⟩
        rw [on_mp h0 h6]
        rcases hE.2.1.look h0 h6 (EQ_lt h0) (show j < N ^ N by omega) with ⟨q1, q2, -⟩ | ⟨q1, q2⟩
        · exact Or.inl ⟨q1, q2⟩
        · exact Or.inr ⟨q1, q2⟩
      · exact absurd hc2 (by decide)
  · refine wp_iconst (v := -1) d_P_find_17 (by decide) ?_
    refine wp_iret d_P_find_18 rfl ?_
    exact ⟨⟨_, rfl, Or.inr ⟨bz_0.mp hc, rfl⟩⟩, Fp.rf, M, hM⟩
theorem xv_done (x y : Int32) {σ : Hp} {a : Sx} (hX : XS σ a) : Ct m_P_done [.ref 0, .int x, .int y] σ (YX σ a (aeDo x y a)) := by
  obtain ⟨N, L, lm, s, e⟩ := a
  obtain ⟨M, hM, -⟩ := hX.2.2.2.2
  have hI := hX.1
  have h0 : 0 < N := by have := hI.2.1; omega
  have h6 := hI.2.2.1
  suffices H : Ct m_P_done [.ref 0, .int x, .int y] σ (Rq σ (aeDo x y (N, L, lm, s, e))) from H.im (fun w τ hr => hr.yx hX (fun z hz => hz))
  show WP m_P_done 0 [.ref 0, .int x, .int y] [] σ _
  refine wp_aload_n d_P_done_0 rfl ?_
  refine wp_getA d_P_done_1 fl_P_21 rfl rfl rfl ?_
  refine wp_callV0 d_P_done_4 cv_P_100 rfl rfl rfl ⟨Nat.le_of_ble_eq_true rfl, Nat.le_of_ble_eq_true rfl⟩ (Nat.le_of_ble_eq_true rfl) (Nat.le_of_ble_eq_true rfl) (c_E_ready _ hI hX.2.1 hM) (fun v τ hv => ?_)
  obtain ⟨hF, ⟨M', hM'⟩, hv⟩ := hv
  have hI' := hF.KI (by decide) hI
  have hFp : Fp pS σ τ := hF.up (upS (by decide))
  rcases hv with ⟨rfl, hE⟩ | ⟨rfl, hE⟩
  · show WP m_P_done 7 _ [.int 0] τ _
    refine wp_if_ne (tgt := 13) d_P_done_7 (by decide) (fun hc2 => ?_) (fun hc2 => ?_)
    · exact absurd rfl hc2
    · refine wp_bipush (v := -5) d_P_done_10 (by decide) ?_
      refine wp_iret d_P_done_12 rfl ?_
      exact ⟨⟨_, rfl, Or.inl ⟨hE.2.1, rfl⟩⟩, hFp, M', hM'⟩
  · have no : (¬ ∃ x', x' < (EQ N L lm).length ∧ x = nI x') ∨ (¬ ∃ y', y' < (EQ N L lm).length ∧ y = nI y') → aeDo x y (N, L, lm, s, e) (-1) := fun q => Or.inr ⟨hE.len, Or.inr ⟨fun ⟨x', y', h1, h2, h3, h4⟩ => q.elim (fun q => q ⟨x', h1, h3⟩) (fun q => q ⟨y', h2, h4⟩), rfl⟩⟩
    show WP m_P_done 7 _ [.int 1] τ _
    refine wp_if_ne (tgt := 13) d_P_done_7 (by decide) (fun hc2 => ?_) (fun hc2 => ?_)
    · refine wp_aload_n d_P_done_13 rfl ?_
      refine wp_getA d_P_done_14 fl_P_21 rfl rfl rfl ?_
      refine wp_iload_n d_P_done_17 rfl ?_
      refine wp_callV1e d_P_done_18 cv_P_114 rfl rfl rfl ⟨Nat.le_of_ble_eq_true rfl, Nat.le_of_ble_eq_true rfl⟩ (Nat.le_of_ble_eq_true rfl) (Nat.le_of_ble_eq_true rfl) (c_E_has _ _) ?_
      refine wp_if_eq (tgt := 54) d_P_done_21 (by decide) (fun hc3 => ?_) (fun hc3 => ?_)
      · refine wp_iconst (v := -1) d_P_done_54 (by decide) ?_
        refine wp_iret d_P_done_55 rfl ?_
        exact ⟨⟨_, rfl, no (Or.inl (fun q => bz_0.mp hc3 ((has_bz hE).mpr q)))⟩, hFp, M', hM'⟩
      · obtain ⟨x, hx, rfl⟩ := (has_bz hE).mp (bz_n0 hc3)
        refine wp_aload_n d_P_done_24 rfl ?_
        refine wp_getA d_P_done_25 fl_P_21 rfl rfl rfl ?_
        refine wp_iload_n d_P_done_28 rfl ?_
        refine wp_callV1e d_P_done_29 cv_P_114 rfl rfl rfl ⟨Nat.le_of_ble_eq_true rfl, Nat.le_of_ble_eq_true rfl⟩ (Nat.le_of_ble_eq_true rfl) (Nat.le_of_ble_eq_true rfl) (c_E_has _ _) ?_
        refine wp_if_eq (tgt := 54) d_P_done_32 (by decide) (fun hc5 => ?_) (fun hc5 => ?_)
        · refine wp_iconst (v := -1) d_P_done_54 (by decide) ?_
          refine wp_iret d_P_done_55 rfl ?_
          exact ⟨⟨_, rfl, no (Or.inr (fun q => bz_0.mp hc5 ((has_bz hE).mpr q)))⟩, hFp, M', hM'⟩
        · obtain ⟨y, hy, rfl⟩ := (has_bz hE).mp (bz_n0 hc5)
          have h15 := hE.len
          refine wp_aload_n d_P_done_35 rfl ?_
          refine wp_getA d_P_done_36 fl_P_21 rfl rfl rfl ?_
          refine wp_aload_n d_P_done_39 rfl ?_
          refine wp_getA d_P_done_40 fl_P_21 rfl rfl rfl ?_
          refine wp_iload_n d_P_done_43 rfl ?_
          refine wp_iload_n d_P_done_44 rfl ?_
          refine wp_callV2e d_P_done_45 cv_P_133 rfl rfl rfl ⟨Nat.le_of_ble_eq_true rfl, Nat.le_of_ble_eq_true rfl⟩ (Nat.le_of_ble_eq_true rfl) (Nat.le_of_ble_eq_true rfl) (c_E_product _ _ _ hI') ?_
          refine wp_callV1e d_P_done_48 cv_P_130 rfl rfl rfl ⟨Nat.le_of_ble_eq_true rfl, Nat.le_of_ble_eq_true rfl⟩ (Nat.le_of_ble_eq_true rfl) (Nat.le_of_ble_eq_true rfl) (c_E_numberOf _ _) ?_
          refine wp_goto (tgt := 55) d_P_done_51 (by decide) ?_
          refine wp_iret d_P_done_55 rfl ?_
          refine ⟨⟨_, rfl, Or.inr ⟨h15, Or.inl ⟨x, y, hx, hy, rfl, rfl, ?_⟩⟩⟩, hFp, M', hM'⟩
          rw [rdA_in (show x < 1500 by omega) (by decide), rdA_in (show y < 1500 by omega) (by decide), hE.at hx, hE.at hy, ah_mp h0 h6]
          rcases hE.2.1.look h0 h6 (EQ_lt h0) (bN_lt h0 (a := itm (EQ N L lm) x) (b := itm (EQ N L lm) y)) with ⟨-, q2, -⟩ | ⟨q1, -⟩
          · exact q2
          · rw [EQ_mul h0 h15 hx y hy] at q1
            cases q1
    · exact absurd hc2 (by decide)
theorem sv_P {τ : Hp} {N L v x y k : Nat} {lm : Nat → Nat} (h0 : 0 < N) (h6 : N ≤ 6) (hE : EL τ N L lm) (hv : v ≤ 1) (hx : x < (EQ N L lm).length) (hy : y < (EQ N L lm).length) (hk : k < (EQ N L lm).length) : svB τ N (nI x) (nI y) (nI v) k = svP N L lm v x y k := by
  have h15 := hE.len
  unfold svB svP
  rw [rdA_in (show x < 1500 by omega) (by decide), rdA_in (show y < 1500 by omega) (by decide), hE.at hx, hE.at hy, hE.at hk, decide_eq_decide]
  rcases (show v = 0 ∨ v = 1 by omega) with rfl | rfl
  · rw [if_pos (show nI 0 = 0 from rfl), if_neg (by decide), ah_mp h0 h6, mp_eq h0 h6 (bN_lt h0) (EQ_lt h0 y hy)]
  · rw [if_neg (show ¬ nI 1 = 0 by decide), if_pos rfl, ah_mp h0 h6, mp_eq h0 h6 (bN_lt h0) (EQ_lt h0 y hy)]
theorem fs_sr {p q : Nat → Bool} {K : Nat} (h : ∀ k, k < K → p k = q k) : ∀ d k, k + d = K → fsF p d k = if sr (fun x => q x = true) d k < K then nI (sr (fun x => q x = true) d k) else -9
  | 0, k, hk => by
    show (-9 : Int32) = if k < K then _ else -9
    rw [if_neg (by omega)]
  | d + 1, k, hk => by
    show (if p k = true then nI k else fsF p d (k + 1)) = if (if q k = true then k else sr (fun x => q x = true) d (k + 1)) < K then nI (if q k = true then k else sr (fun x => q x = true) d (k + 1)) else -9
    rw [h k (by omega)]
    by_cases z : q k = true
    · rw [if_pos z, if_pos z, if_pos (by omega)]
    · rw [if_neg z, if_neg z]
      exact fs_sr h d (k + 1) (by omega)
theorem xv_solve (x y b w : Int32) {σ : Hp} {a : Sx} (hX : XS σ a) : Ct m_P_solve [.ref 0, .int x, .int y, .int b, .int w] σ (YX σ a (aeSo x y b w a)) := by
  obtain ⟨N, L, lm, s, e⟩ := a
  obtain ⟨M, hM, -⟩ := hX.2.2.2.2
  have hI := hX.1
  have h0 : 0 < N := by have := hI.2.1; omega
  have h6 := hI.2.2.1
  suffices H : Ct m_P_solve [.ref 0, .int x, .int y, .int b, .int w] σ (Rq σ (aeSo x y b w (N, L, lm, s, e))) from H.im (fun w τ hr => hr.yx hX (fun z hz => hz))
  show WP m_P_solve 0 [.ref 0, .int x, .int y, .int b, .int w] [] σ _
  have bad : ¬ ((0 ≤ b ∧ b ≤ 1) ∧ (0 ≤ w ∧ w ≤ 1)) → WP m_P_solve 19 [.ref 0, .int x, .int y, .int b, .int w] [] σ (Rq σ (aeSo x y b w (N, L, lm, s, e))) := by
    intro q
    refine wp_iconst (v := -1) d_P_solve_19 (by decide) ?_
    refine wp_iret d_P_solve_20 rfl ?_
    exact ⟨⟨_, rfl, Or.inr ⟨q, rfl⟩⟩, Fp.rf, M, hM⟩
  refine wp_iload_n d_P_solve_0 rfl ?_
  refine wp_iconst (v := 0) d_P_solve_1 (by decide) ?_
  refine wp_iconst (v := 1) d_P_solve_2 (by decide) ?_
  refine wp_callS3e d_P_solve_3 cs_P_62 ⟨Nat.le_of_ble_eq_true rfl, Nat.le_of_ble_eq_true rfl⟩ (Nat.le_of_ble_eq_true rfl) (Nat.le_of_ble_eq_true rfl) (c_P_within _ _ _ _) ?_
  refine wp_if_eq (tgt := 19) d_P_solve_6 (by decide) (fun hc => ?_) (fun hc => ?_)
  · exact bad (fun q => bz_0.mp hc q.1)
  · obtain ⟨v, hv, rfl⟩ := wi_nI (w := b) (m := 1) (by decide) (bz_n0 hc)
    refine wp_iload d_P_solve_9 rfl ?_
    refine wp_iconst (v := 0) d_P_solve_11 (by decide) ?_
    refine wp_iconst (v := 1) d_P_solve_12 (by decide) ?_
    refine wp_callS3e d_P_solve_13 cs_P_62 ⟨Nat.le_of_ble_eq_true rfl, Nat.le_of_ble_eq_true rfl⟩ (Nat.le_of_ble_eq_true rfl) (Nat.le_of_ble_eq_true rfl) (c_P_within _ _ _ _) ?_
    refine wp_if_ne (tgt := 21) d_P_solve_16 (by decide) (fun hc1 => ?_) (fun hc1 => ?_)
    · obtain ⟨k, hk, rfl⟩ := wi_nI (w := w) (m := 1) (by decide) (bz_n0 hc1)
      refine wp_aload_n d_P_solve_21 rfl ?_
      refine wp_getA d_P_solve_22 fl_P_21 rfl rfl rfl ?_
      refine wp_callV0 d_P_solve_25 cv_P_100 rfl rfl rfl ⟨Nat.le_of_ble_eq_true rfl, Nat.le_of_ble_eq_true rfl⟩ (Nat.le_of_ble_eq_true rfl) (Nat.le_of_ble_eq_true rfl) (c_E_ready _ hI hX.2.1 hM) (fun v' τ hr => ?_)
      obtain ⟨hF, ⟨M', hM'⟩, hr⟩ := hr
      have hI' := hF.KI (by decide) hI
      have hFp : Fp pS σ τ := hF.up (upS (by decide))
      rcases hr with ⟨rfl, hE⟩ | ⟨rfl, hE⟩
      · show WP m_P_solve 28 _ [.int 0] τ _
        refine wp_if_ne (tgt := 34) d_P_solve_28 (by decide) (fun hc2 => ?_) (fun hc2 => ?_)
        · exact absurd rfl hc2
        · refine wp_bipush (v := -5) d_P_solve_31 (by decide) ?_
          refine wp_iret d_P_solve_33 rfl ?_
          exact ⟨⟨_, rfl, Or.inl ⟨v, k, hv, hk, rfl, rfl, Or.inl ⟨hE.2.1, rfl⟩⟩⟩, hFp, M', hM'⟩
      · have h15 := hE.len
        have hMM := hE.M hM'
        subst hMM
        show WP m_P_solve 28 _ [.int 1] τ _
        refine wp_if_ne (tgt := 34) d_P_solve_28 (by decide) (fun hc2 => ?_) (fun hc2 => ?_)
        · have bad2 : (¬ ∃ x', x' < (EQ N L lm).length ∧ x = nI x') ∨ (¬ ∃ y', y' < (EQ N L lm).length ∧ y = nI y') → WP m_P_solve 56 [.ref 0, .int x, .int y, .int (nI v), .int (nI k)] [] τ (Rq σ (aeSo x y (nI v) (nI k) (N, L, lm, s, e))) := by
            intro q
            refine wp_iconst (v := -1) d_P_solve_56 (by decide) ?_
            refine wp_iret d_P_solve_57 rfl ?_
            exact ⟨⟨_, rfl, Or.inl ⟨v, k, hv, hk, rfl, rfl, Or.inr ⟨h15, Or.inr ⟨fun ⟨x', y', h1, h2, h3, h4⟩ => q.elim (fun q => q ⟨x', h1, h3⟩) (fun q => q ⟨y', h2, h4⟩), rfl⟩⟩⟩⟩, hFp, _, hM'⟩
          refine wp_aload_n d_P_solve_34 rfl ?_
          refine wp_getA d_P_solve_35 fl_P_21 rfl rfl rfl ?_
          refine wp_iload_n d_P_solve_38 rfl ?_
          refine wp_callV1e d_P_solve_39 cv_P_114 rfl rfl rfl ⟨Nat.le_of_ble_eq_true rfl, Nat.le_of_ble_eq_true rfl⟩ (Nat.le_of_ble_eq_true rfl) (Nat.le_of_ble_eq_true rfl) (c_E_has _ _) ?_
          refine wp_if_eq (tgt := 56) d_P_solve_42 (by decide) (fun hc3 => ?_) (fun hc3 => ?_)
          · exact bad2 (Or.inl (fun q => bz_0.mp hc3 ((has_bz hE).mpr q)))
          · refine wp_aload_n d_P_solve_45 rfl ?_
            refine wp_getA d_P_solve_46 fl_P_21 rfl rfl rfl ?_
            refine wp_iload_n d_P_solve_49 rfl ?_
            refine wp_callV1e d_P_solve_50 cv_P_114 rfl rfl rfl ⟨Nat.le_of_ble_eq_true rfl, Nat.le_of_ble_eq_true rfl⟩ (Nat.le_of_ble_eq_true rfl) (Nat.le_of_ble_eq_true rfl) (c_E_has _ _) ?_
            refine wp_if_ne (tgt := 58) d_P_solve_53 (by decide) (fun hc5 => ?_) (fun hc5 => ?_)
            · obtain ⟨x, hx, rfl⟩ := (has_bz hE).mp (bz_n0 hc3)
              obtain ⟨y, hy, rfl⟩ := (has_bz hE).mp (bz_n0 hc5)
              have hsv := fun j hj => sv_P h0 h6 hE hv hx hy (k := j) hj
              have v01 : ∀ {p q : Prop}, (nI v = 1 → p) → (¬ nI v = 1 → q) → (v = 1 → p) ∧ (v = 0 → q) := fun h1 h2 => ⟨fun z => h1 (by rw [z]; rfl), fun z => h2 (by rw [z]; decide)⟩
              refine wp_iload d_P_solve_58 rfl ?_
              refine wp_if_ne (tgt := 85) d_P_solve_60 (by decide) (fun hc6 => ?_) (fun hc6 => ?_)
              · have k1 : k = 1 := by
                  rcases (show k = 0 ∨ k = 1 by omega) with q | q
                  · rw [q] at hc6; exact absurd rfl hc6
                  · exact q
                have fin : ∀ u : Int32, u = nI v → WP m_P_solve 101 [.ref 0, .int (nI x), .int (nI y), .int (nI v), .int (nI k)] [.int u, .int (nI y), .int (nI x), .ref 3] τ (Rq σ (aeSo (nI x) (nI y) (nI v) (nI k) (N, L, lm, s, e))) := by
                  rintro u rfl
                  refine wp_callV3e d_P_solve_101 cv_P_171 rfl rfl rfl ⟨Nat.le_of_ble_eq_true rfl, Nat.le_of_ble_eq_true rfl⟩ (Nat.le_of_ble_eq_true rfl) (Nat.le_of_ble_eq_true rfl) (c_E_leastSolution _ _ _ _ hI' hM') ?_
                  refine wp_iret d_P_solve_104 rfl ?_
                  refine ⟨⟨_, rfl, Or.inl ⟨v, k, hv, hk, rfl, rfl, Or.inr ⟨h15, Or.inl ⟨x, y, hx, hy, rfl, rfl, ?_⟩⟩⟩⟩, hFp, _, hM'⟩
                  dsimp only
                  rw [if_neg (by omega), fs_sr hsv _ 0 (Nat.zero_add _)]
                  rfl
                refine wp_aload_n d_P_solve_85 rfl ?_
                refine wp_getA d_P_solve_86 fl_P_21 rfl rfl rfl ?_
                refine wp_iload_n d_P_solve_89 rfl ?_
                refine wp_iload_n d_P_solve_90 rfl ?_
                refine wp_iload_n d_P_solve_91 rfl ?_
                refine wp_iconst (v := 1) d_P_solve_92 (by decide) ?_
                refine wp_icmp_ne (tgt := 100) d_P_solve_93 (by decide) (fun hc7 => ?_) (fun hc7 => ?_)
                · refine wp_iconst (v := 0) d_P_solve_100 (by decide) ?_
                  exact fin _ (by
                    rcases (show v = 0 ∨ v = 1 by omega) with rfl | rfl
                    · rfl
                    · exact absurd rfl hc7)
                · refine wp_iconst (v := 1) d_P_solve_96 (by decide) ?_
                  refine wp_goto (tgt := 101) d_P_solve_97 (by decide) ?_
                  exact fin _ (by
                    rcases (show v = 0 ∨ v = 1 by omega) with rfl | rfl
                    · exact absurd hc7 (by decide)
                    · rfl)
              · have k0 : k = 0 := (nI_eq (by omega) (by decide)).mp (show nI k = nI 0 from hc6)
                have fin : ∀ u : Int32, u = nI v → WP m_P_solve 79 [.ref 0, .int (nI x), .int (nI y), .int (nI v), .int (nI k)] [.int u, .int (nI y), .int (nI x), .ref 3] τ (Rq σ (aeSo (nI x) (nI y) (nI v) (nI k) (N, L, lm, s, e))) := by
                  rintro u rfl
                  refine wp_callV3e d_P_solve_79 cv_P_167 rfl rfl rfl ⟨Nat.le_of_ble_eq_true rfl, Nat.le_of_ble_eq_true rfl⟩ (Nat.le_of_ble_eq_true rfl) (Nat.le_of_ble_eq_true rfl) (c_E_solutions _ _ _ _ hI' hM') ?_
                  refine wp_goto (tgt := 104) d_P_solve_82 (by decide) ?_
                  refine wp_iret d_P_solve_104 rfl ?_
                  refine ⟨⟨_, rfl, Or.inl ⟨v, k, hv, hk, rfl, rfl, Or.inr ⟨h15, Or.inl ⟨x, y, hx, hy, rfl, rfl, ?_⟩⟩⟩⟩, hFp, _, hM'⟩
                  dsimp only
                  rw [if_pos k0, cnt_nI]
                  congr 1
                  exact sm_cg (fun j hj => by rw [hsv j hj])
                refine wp_aload_n d_P_solve_63 rfl ?_
                refine wp_getA d_P_solve_64 fl_P_21 rfl rfl rfl ?_
                refine wp_iload_n d_P_solve_67 rfl ?_
                refine wp_iload_n d_P_solve_68 rfl ?_
                refine wp_iload_n d_P_solve_69 rfl ?_
                refine wp_iconst (v := 1) d_P_solve_70 (by decide) ?_
                refine wp_icmp_ne (tgt := 78) d_P_solve_71 (by decide) (fun hc7 => ?_) (fun hc7 => ?_)
                · refine wp_iconst (v := 0) d_P_solve_78 (by decide) ?_
                  exact fin _ (by
                    rcases (show v = 0 ∨ v = 1 by omega) with rfl | rfl
                    · rfl
                    · exact absurd rfl hc7)
                · refine wp_iconst (v := 1) d_P_solve_74 (by decide) ?_
                  refine wp_goto (tgt := 79) d_P_solve_75 (by decide) ?_
                  exact fin _ (by
                    rcases (show v = 0 ∨ v = 1 by omega) with rfl | rfl
                    · exact absurd hc7 (by decide)
                    · rfl)
            · exact bad2 (Or.inr (fun q => bz_0.mp hc5 ((has_bz hE).mpr q)))
        · exact absurd hc2 (by decide)
    · exact bad (fun q => bz_0.mp hc1 q.2)
