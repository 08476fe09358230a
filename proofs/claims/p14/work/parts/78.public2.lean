/-! boxes, about, sort: the class's answers -/
section PB
variable {τ : Hp} {N L : Nat} {lm : Nat → Nat} {b a l : Nat → Nat → Nat} {B : Nat → Nat}
theorem nb_29 (hB : ∀ k, k < 4 → NB τ k (EQ N L lm).length (a k) (b k) (B k) (l k)) {k : Nat} (hk : k < 4) : rdA τ 29 4 (nI k) = nI (B k) := by
  rw [rdA_in hk (by decide)]
  exact (hB k hk).2.2.2
theorem nb_290 (hB : ∀ k, k < 4 → NB τ k (EQ N L lm).length (a k) (b k) (B k) (l k)) : rdA τ 29 4 0 = nI (B 0) := by
  rw [show (0 : Int32) = nI 0 from rfl]
  exact nb_29 hB (by decide)
end PB
theorem xv_boxes (w : Int32) {σ : Hp} {a : Sx} (hX : XS σ a) : Ct m_P_boxes [.ref 0, .int w] σ (YX σ a (aeBo w a)) := by
  obtain ⟨N, L, lm, s, e⟩ := a
  obtain ⟨M, hM, -⟩ := hX.2.2.2.2
  have hI := hX.1
  have h0 : 0 < N := by have := hI.2.1; omega
  have h6 := hI.2.2.1
  have hlm : ∀ l, l < L → lm l < N ^ N := fun l hl => (hX.2.1 l hl).2
  suffices H : Ct m_P_boxes [.ref 0, .int w] σ (Rq σ (aeBo w (N, L, lm, s, e))) from H.im (fun w τ hr => hr.yx hX (fun z hz => hz))
  show WP m_P_boxes 0 [.ref 0, .int w] [] σ _
  refine wp_iload_n d_P_boxes_0 rfl ?_
  refine wp_iconst (v := 0) d_P_boxes_1 (by decide) ?_
  refine wp_bipush (v := 7) d_P_boxes_2 (by decide) ?_
  refine wp_callS3e d_P_boxes_4 cs_P_62 ⟨Nat.le_of_ble_eq_true rfl, Nat.le_of_ble_eq_true rfl⟩ (Nat.le_of_ble_eq_true rfl) (Nat.le_of_ble_eq_true rfl) (c_P_within _ _ _ _) ?_
  refine wp_if_ne (tgt := 12) d_P_boxes_7 (by decide) (fun hc => ?_) (fun hc => ?_)
  · obtain ⟨j, hj, rfl⟩ := wi_nI (m := 7) (by decide) (bz_n0 hc)
    refine wp_aload_n d_P_boxes_12 rfl ?_
    refine wp_getA d_P_boxes_13 fl_P_30 rfl rfl rfl ?_
    refine wp_callV0 d_P_boxes_16 cv_P_136 rfl rfl rfl ⟨Nat.le_of_ble_eq_true rfl, Nat.le_of_ble_eq_true rfl⟩ (Nat.le_of_ble_eq_true rfl) (Nat.le_of_ble_eq_true rfl) (v_B_ready _ hI hX.2.1 hM) (fun v τ hv => ?_)
    obtain ⟨hF, ⟨M', hM'⟩, hv⟩ := hv
    have hI' := hF.KI (by decide) hI
    have hFp : Fp pS σ τ := hF.up (upS (by decide))
    rcases hv with ⟨rfl, hE⟩ | ⟨rfl, lm', un, hE, hBV⟩
    · show WP m_P_boxes 19 _ [.int 0] τ _
      refine wp_if_ne (tgt := 25) d_P_boxes_19 (by decide) (fun hc2 => ?_) (fun hc2 => ?_)
      · exact absurd rfl hc2
      · refine wp_bipush (v := -5) d_P_boxes_22 (by decide) ?_
        refine wp_iret d_P_boxes_24 rfl ?_
        exact ⟨⟨_, rfl, Or.inl ⟨j, hj, rfl, Or.inl ⟨hE.2.1, rfl⟩⟩⟩, hFp, M', hM'⟩
    · have hE : EL τ N L lm := hE.un (fun k hk => (un k hk).symm)
      have h15 := hE.len
      have hst := sp0_in h0 hlm h15
      obtain ⟨b, B, l, a, hN, hB, hU⟩ := hBV.nm2 un
      obtain rfl : M' = (EQ N L lm).length := (nI_eq (by have := hM'.2.1; omega) (by omega)).mp (hM'.1.symm.trans hE.2.1.1)
      have ans : ∀ z : Int32, z = nI (boF N L lm j (EQ N L lm).length b B) → aeBo (nI j) (N, L, lm, s, e) z := fun z hz => Or.inl ⟨j, hj, rfl, Or.inr ⟨h15, b, B, hN, hz⟩⟩
      have low : ∀ k, k < 4 → boF N L lm k (EQ N L lm).length b B = B k := fun k hk => if_pos hk
      have r29 := fun {k : Nat} (hk : k < 4) => nb_29 hB hk
      show WP m_P_boxes 19 _ [.int 1] τ _
      refine wp_if_ne (tgt := 25) d_P_boxes_19 (by decide) (fun hc2 => ?_) (fun hc2 => ?_)
      · rcases (show j = 0 ∨ j = 1 ∨ j = 2 ∨ j = 3 ∨ j = 4 ∨ j = 5 ∨ j = 6 ∨ j = 7 by omega) with rfl | rfl | rfl | rfl | rfl | rfl | rfl | rfl
        · refine wp_iload_n d_P_boxes_25 rfl ?_
          refine wp_tabOut (tgt := 95) d_P_boxes_26 (by decide) (by decide) ?_
          refine wp_aload_n d_P_boxes_95 rfl ?_
          refine wp_getA d_P_boxes_96 fl_P_30 rfl rfl rfl ?_
          refine wp_iload_n d_P_boxes_99 rfl ?_
          refine wp_callV1e d_P_boxes_100 cv_P_146 rfl rfl rfl ⟨Nat.le_of_ble_eq_true rfl, Nat.le_of_ble_eq_true rfl⟩ (Nat.le_of_ble_eq_true rfl) (Nat.le_of_ble_eq_true rfl) (c_B_howMany _ _) ?_
          refine wp_iret d_P_boxes_103 rfl ?_
          exact ⟨⟨_, rfl, ans _ (by rw [low 0 (by decide)]; exact r29 (by decide))⟩, hFp, _, hM'⟩
        · refine wp_iload_n d_P_boxes_25 rfl ?_
          refine wp_tabOut (tgt := 95) d_P_boxes_26 (by decide) (by decide) ?_
          refine wp_aload_n d_P_boxes_95 rfl ?_
          refine wp_getA d_P_boxes_96 fl_P_30 rfl rfl rfl ?_
          refine wp_iload_n d_P_boxes_99 rfl ?_
          refine wp_callV1e d_P_boxes_100 cv_P_146 rfl rfl rfl ⟨Nat.le_of_ble_eq_true rfl, Nat.le_of_ble_eq_true rfl⟩ (Nat.le_of_ble_eq_true rfl) (Nat.le_of_ble_eq_true rfl) (c_B_howMany _ _) ?_
          refine wp_iret d_P_boxes_103 rfl ?_
          exact ⟨⟨_, rfl, ans _ (by rw [low 1 (by decide)]; exact r29 (by decide))⟩, hFp, _, hM'⟩
        · refine wp_iload_n d_P_boxes_25 rfl ?_
          refine wp_tabOut (tgt := 95) d_P_boxes_26 (by decide) (by decide) ?_
          refine wp_aload_n d_P_boxes_95 rfl ?_
          refine wp_getA d_P_boxes_96 fl_P_30 rfl rfl rfl ?_
          refine wp_iload_n d_P_boxes_99 rfl ?_
          refine wp_callV1e d_P_boxes_100 cv_P_146 rfl rfl rfl ⟨Nat.le_of_ble_eq_true rfl, Nat.le_of_ble_eq_true rfl⟩ (Nat.le_of_ble_eq_true rfl) (Nat.le_of_ble_eq_true rfl) (c_B_howMany _ _) ?_
          refine wp_iret d_P_boxes_103 rfl ?_
          exact ⟨⟨_, rfl, ans _ (by rw [low 2 (by decide)]; exact r29 (by decide))⟩, hFp, _, hM'⟩
        · refine wp_iload_n d_P_boxes_25 rfl ?_
          refine wp_tabOut (tgt := 95) d_P_boxes_26 (by decide) (by decide) ?_
          refine wp_aload_n d_P_boxes_95 rfl ?_
          refine wp_getA d_P_boxes_96 fl_P_30 rfl rfl rfl ?_
          refine wp_iload_n d_P_boxes_99 rfl ?_
          refine wp_callV1e d_P_boxes_100 cv_P_146 rfl rfl rfl ⟨Nat.le_of_ble_eq_true rfl, Nat.le_of_ble_eq_true rfl⟩ (Nat.le_of_ble_eq_true rfl) (Nat.le_of_ble_eq_true rfl) (c_B_howMany _ _) ?_
          refine wp_iret d_P_boxes_103 rfl ?_
          exact ⟨⟨_, rfl, ans _ (by rw [low 3 (by decide)]; exact r29 (by decide))⟩, hFp, _, hM'⟩
        · refine wp_iload_n d_P_boxes_25 rfl ?_
          refine wp_tabIn (tgt := 56) (off := 30) d_P_boxes_26 (by decide) (by decide) (by decide) (by decide) ?_
          refine wp_aload_n d_P_boxes_56 rfl ?_
          refine wp_getA d_P_boxes_57 fl_P_30 rfl rfl rfl ?_
          refine wp_callV0e d_P_boxes_60 cv_P_137 rfl rfl rfl ⟨Nat.le_of_ble_eq_true rfl, Nat.le_of_ble_eq_true rfl⟩ (Nat.le_of_ble_eq_true rfl) (Nat.le_of_ble_eq_true rfl) (v_B_regular h15 (nb_le hB (by decide)) _ (nb_290 hB) hU) ?_
          refine wp_iret d_P_boxes_63 rfl ?_
          refine ⟨⟨_, rfl, ans _ (congrArg nI ?_)⟩, hFp, _, hM'⟩
          exact (inF_reg (fun e he => (hB 0 (by decide)).1.1 e he)).symm
        · refine wp_iload_n d_P_boxes_25 rfl ?_
          refine wp_tabIn (tgt := 64) (off := 38) d_P_boxes_26 (by decide) (by decide) (by decide) (by decide) ?_
          refine wp_aload_n d_P_boxes_64 rfl ?_
          refine wp_getA d_P_boxes_65 fl_P_21 rfl rfl rfl ?_
          refine wp_callV0e d_P_boxes_68 cv_P_105 rfl rfl rfl ⟨Nat.le_of_ble_eq_true rfl, Nat.le_of_ble_eq_true rfl⟩ (Nat.le_of_ble_eq_true rfl) (Nat.le_of_ble_eq_true rfl) (c_E_stillOnes _ hI' hM') ?_
          refine wp_iret d_P_boxes_71 rfl ?_
          refine ⟨⟨_, rfl, ans _ ((el_1 h0 h6 hE).trans (congrArg nI ?_))⟩, hFp, _, hM'⟩
          exact (hN.all5 h0 hlm h15).symm
        · refine wp_iload_n d_P_boxes_25 rfl ?_
          refine wp_tabIn (tgt := 72) (off := 46) d_P_boxes_26 (by decide) (by decide) (by decide) (by decide) ?_
          refine wp_aload_n d_P_boxes_72 rfl ?_
          refine wp_getA d_P_boxes_73 fl_P_30 rfl rfl rfl ?_
          refine wp_callV0 d_P_boxes_76 cv_P_140 rfl rfl rfl ⟨Nat.le_of_ble_eq_true rfl, Nat.le_of_ble_eq_true rfl⟩ (Nat.le_of_ble_eq_true rfl) (Nat.le_of_ble_eq_true rfl) (v_B_leastBox h15 (nb_le hB (by decide)) _ (nb_290 hB) hU) (fun v υ hv => ?_)
          obtain ⟨rfl, z, rfl, hz⟩ := hv
          show WP m_P_boxes 79 _ [.int (nI z)] _ _
          refine wp_iret d_P_boxes_79 rfl ?_
          refine ⟨⟨_, rfl, ans _ (congrArg nI ?_)⟩, hFp, _, hM'⟩
          exact (hN.least h0 hlm h15 hst hz).1.symm
        · refine wp_iload_n d_P_boxes_25 rfl ?_
          refine wp_tabIn (tgt := 80) (off := 54) d_P_boxes_26 (by decide) (by decide) (by decide) (by decide) ?_
          refine wp_aload_n d_P_boxes_80 rfl ?_
          refine wp_getA d_P_boxes_81 fl_P_30 rfl rfl rfl ?_
          refine wp_aload_n d_P_boxes_84 rfl ?_
          refine wp_getA d_P_boxes_85 fl_P_30 rfl rfl rfl ?_
          refine wp_callV0 d_P_boxes_88 cv_P_140 rfl rfl rfl ⟨Nat.le_of_ble_eq_true rfl, Nat.le_of_ble_eq_true rfl⟩ (Nat.le_of_ble_eq_true rfl) (Nat.le_of_ble_eq_true rfl) (v_B_leastBox h15 (nb_le hB (by decide)) _ (nb_290 hB) hU) (fun v υ hv => ?_)
          obtain ⟨rfl, z, rfl, hz⟩ := hv
          show WP m_P_boxes 91 _ [.int (nI z), .ref 15] _ _
          refine wp_callV1e d_P_boxes_91 cv_P_143 rfl rfl rfl ⟨Nat.le_of_ble_eq_true rfl, Nat.le_of_ble_eq_true rfl⟩ (Nat.le_of_ble_eq_true rfl) (Nat.le_of_ble_eq_true rfl) (c_B_size _ _) ?_
          refine wp_iret d_P_boxes_94 rfl ?_
          obtain ⟨z1, z2⟩ := hN.least h0 hlm h15 hst hz
          have hBM := nb_le hB (k := 0) (by decide)
          refine ⟨⟨_, rfl, ans _ ?_⟩, hFp, _, hM'⟩
          have e7 : boF N L lm 7 (EQ N L lm).length b B = szF (b 0) (EQ N L lm).length z := by
            rw [← z1]
            rfl
          rw [e7, rdA_in (show z < 1500 by omega) (by decide), (hU z (by omega)).1]
          rfl
      · exact absurd hc2 (by decide)
  · refine wp_iconst (v := -1) d_P_boxes_10 (by decide) ?_
    refine wp_iret d_P_boxes_11 rfl ?_
    exact ⟨⟨_, rfl, Or.inr ⟨bz_0.mp hc, rfl⟩⟩, Fp.rf, M, hM⟩
theorem xv_about (i w : Int32) {σ : Hp} {a : Sx} (hX : XS σ a) : Ct m_P_about [.ref 0, .int i, .int w] σ (YX σ a (aeAb i w a)) := by
  obtain ⟨N, L, lm, s, e⟩ := a
  obtain ⟨M, hM, -⟩ := hX.2.2.2.2
  have hI := hX.1
  have h0 : 0 < N := by have := hI.2.1; omega
  have hlm : ∀ l, l < L → lm l < N ^ N := fun l hl => (hX.2.1 l hl).2
  suffices H : Ct m_P_about [.ref 0, .int i, .int w] σ (Rq σ (aeAb i w (N, L, lm, s, e))) from H.im (fun w τ hr => hr.yx hX (fun z hz => hz))
  show WP m_P_about 0 [.ref 0, .int i, .int w] [] σ _
  refine wp_iload_n d_P_about_0 rfl ?_
  refine wp_iconst (v := 0) d_P_about_1 (by decide) ?_
  refine wp_bipush (v := 7) d_P_about_2 (by decide) ?_
  refine wp_callS3e d_P_about_4 cs_P_62 ⟨Nat.le_of_ble_eq_true rfl, Nat.le_of_ble_eq_true rfl⟩ (Nat.le_of_ble_eq_true rfl) (Nat.le_of_ble_eq_true rfl) (c_P_within _ _ _ _) ?_
  refine wp_if_ne (tgt := 12) d_P_about_7 (by decide) (fun hc => ?_) (fun hc => ?_)
  · obtain ⟨j, hj, rfl⟩ := wi_nI (m := 7) (by decide) (bz_n0 hc)
    refine wp_aload_n d_P_about_12 rfl ?_
    refine wp_getA d_P_about_13 fl_P_30 rfl rfl rfl ?_
    refine wp_callV0 d_P_about_16 cv_P_136 rfl rfl rfl ⟨Nat.le_of_ble_eq_true rfl, Nat.le_of_ble_eq_true rfl⟩ (Nat.le_of_ble_eq_true rfl) (Nat.le_of_ble_eq_true rfl) (v_B_ready _ hI hX.2.1 hM) (fun v τ hv => ?_)
    obtain ⟨hF, ⟨M', hM'⟩, hv⟩ := hv
    have hI' := hF.KI (by decide) hI
    have hFp : Fp pS σ τ := hF.up (upS (by decide))
    rcases hv with ⟨rfl, hE⟩ | ⟨rfl, lm', un, hE, hBV⟩
    · show WP m_P_about 19 _ [.int 0] τ _
      refine wp_if_ne (tgt := 25) d_P_about_19 (by decide) (fun hc2 => ?_) (fun hc2 => ?_)
      · exact absurd rfl hc2
      · refine wp_bipush (v := -5) d_P_about_22 (by decide) ?_
        refine wp_iret d_P_about_24 rfl ?_
        exact ⟨⟨_, rfl, Or.inl ⟨j, hj, rfl, Or.inl ⟨hE.2.1, rfl⟩⟩⟩, hFp, M', hM'⟩
    · have hE : EL τ N L lm := hE.un (fun k hk => (un k hk).symm)
      have h15 := hE.len
      obtain ⟨b, B, l, a, hN, hB, hU⟩ := hBV.nm2 un
      have hbz := fun {i : Int32} => hasB_bz (i := i) h15 EL.pos (hB 0 (by decide))
      have ans : ∀ z : Int32, Ar (B 0) i (fun x => nI (abF N L lm j (EQ N L lm).length b x)) z → aeAb i (nI j) (N, L, lm, s, e) z := fun z hz => Or.inl ⟨j, hj, rfl, Or.inr ⟨h15, b, B, hN, hz⟩⟩
      show WP m_P_about 19 _ [.int 1] τ _
      refine wp_if_ne (tgt := 25) d_P_about_19 (by decide) (fun hc2 => ?_) (fun hc2 => ?_)
      · refine wp_aload_n d_P_about_25 rfl ?_
        refine wp_getA d_P_about_26 fl_P_30 rfl rfl rfl ?_
        refine wp_iload_n d_P_about_29 rfl ?_
        refine wp_callV1e d_P_about_30 cv_P_151 rfl rfl rfl ⟨Nat.le_of_ble_eq_true rfl, Nat.le_of_ble_eq_true rfl⟩ (Nat.le_of_ble_eq_true rfl) (Nat.le_of_ble_eq_true rfl) (c_B_has _ _) ?_
        refine wp_if_eq (tgt := 48) d_P_about_33 (by decide) (fun hc3 => ?_) (fun hc3 => ?_)
        · refine wp_iconst (v := -1) d_P_about_48 (by decide) ?_
          refine wp_iret d_P_about_49 rfl ?_
          exact ⟨⟨_, rfl, ans _ (Or.inr ⟨fun q => bz_0.mp hc3 (hbz.mpr q), rfl⟩)⟩, hFp, M', hM'⟩
        · obtain ⟨x, hx, rfl⟩ := hbz.mp (bz_n0 hc3)
          refine wp_aload_n d_P_about_36 rfl ?_
          refine wp_getA d_P_about_37 fl_P_30 rfl rfl rfl ?_
          refine wp_iload_n d_P_about_40 rfl ?_
          refine wp_iload_n d_P_about_41 rfl ?_
          refine wp_callV2e d_P_about_42 cv_P_152 rfl rfl rfl ⟨Nat.le_of_ble_eq_true rfl, Nat.le_of_ble_eq_true rfl⟩ (Nat.le_of_ble_eq_true rfl) (Nat.le_of_ble_eq_true rfl) (v_B_tell (by omega) hI' hlm hE hN hB hU hx) ?_
          refine wp_goto (tgt := 49) d_P_about_45 (by decide) ?_
          refine wp_iret d_P_about_49 rfl ?_
          exact ⟨⟨_, rfl, ans _ (Or.inl ⟨x, hx, rfl, rfl⟩)⟩, hFp, M', hM'⟩
      · exact absurd hc2 (by decide)
  · refine wp_iconst (v := -1) d_P_about_10 (by decide) ?_
    refine wp_iret d_P_about_11 rfl ?_
    exact ⟨⟨_, rfl, Or.inr ⟨bz_0.mp hc, rfl⟩⟩, Fp.rf, M, hM⟩
theorem xv_sort (w : Int32) {σ : Hp} {a : Sx} (hX : XS σ a) : Ct m_P_sort [.ref 0, .int w] σ (YX σ a (aeSt w a)) := by
  obtain ⟨N, L, lm, s, e⟩ := a
  obtain ⟨M, hM, -⟩ := hX.2.2.2.2
  have hI := hX.1
  have h0 : 0 < N := by have := hI.2.1; omega
  have h6 := hI.2.2.1
  have hlm : ∀ l, l < L → lm l < N ^ N := fun l hl => (hX.2.1 l hl).2
  suffices H : Ct m_P_sort [.ref 0, .int w] σ (Rq σ (aeSt w (N, L, lm, s, e))) from H.im (fun w τ hr => hr.yx hX (fun z hz => hz))
  show WP m_P_sort 0 [.ref 0, .int w] [] σ _
  refine wp_iload_n d_P_sort_0 rfl ?_
  refine wp_iconst (v := 0) d_P_sort_1 (by decide) ?_
  refine wp_bipush (v := 6) d_P_sort_2 (by decide) ?_
  refine wp_callS3e d_P_sort_4 cs_P_62 ⟨Nat.le_of_ble_eq_true rfl, Nat.le_of_ble_eq_true rfl⟩ (Nat.le_of_ble_eq_true rfl) (Nat.le_of_ble_eq_true rfl) (c_P_within _ _ _ _) ?_
  refine wp_if_ne (tgt := 12) d_P_sort_7 (by decide) (fun hc => ?_) (fun hc => ?_)
  · obtain ⟨j, hj, rfl⟩ := wi_nI (m := 6) (by decide) (bz_n0 hc)
    refine wp_aload_n d_P_sort_12 rfl ?_
    refine wp_getA d_P_sort_13 fl_P_30 rfl rfl rfl ?_
    refine wp_callV0 d_P_sort_16 cv_P_136 rfl rfl rfl ⟨Nat.le_of_ble_eq_true rfl, Nat.le_of_ble_eq_true rfl⟩ (Nat.le_of_ble_eq_true rfl) (Nat.le_of_ble_eq_true rfl) (v_B_ready _ hI hX.2.1 hM) (fun v τ hv => ?_)
    obtain ⟨hF, ⟨M', hM'⟩, hv⟩ := hv
    have hI' := hF.KI (by decide) hI
    have hL : LL σ N L lm := hX.2.1
    have hL' : LL τ N L lm := hL.cg (hF 2 (by decide)).1
    have hFp : Fp pS σ τ := hF.up (upS (by decide))
    rcases hv with ⟨rfl, hE⟩ | ⟨rfl, lm', un, hE, hBV⟩
    · show WP m_P_sort 19 _ [.int 0] τ _
      refine wp_if_ne (tgt := 25) d_P_sort_19 (by decide) (fun hc2 => ?_) (fun hc2 => ?_)
      · exact absurd rfl hc2
      · refine wp_bipush (v := -5) d_P_sort_22 (by decide) ?_
        refine wp_iret d_P_sort_24 rfl ?_
        exact ⟨⟨_, rfl, Or.inl ⟨j, hj, rfl, Or.inl ⟨hE.2.1, rfl⟩⟩⟩, hFp, M', hM'⟩
    · have hE : EL τ N L lm := hE.un (fun k hk => (un k hk).symm)
      have h15 := hE.len
      obtain ⟨b, B, l, a, hN, hB, hU⟩ := hBV.nm2 un
      have e36 : τ.1 3 6 = nI (EQ N L lm).length := hE.2.1.1
      obtain rfl : M' = (EQ N L lm).length := (nI_eq (by have := hM'.2.1; omega) (by omega)).mp (hM'.1.symm.trans e36)
      have ans : ∀ z : Int32, z = bz (soF N L lm j (EQ N L lm).length b B = true) → aeSt (nI j) (N, L, lm, s, e) z := fun z hz => Or.inl ⟨j, hj, rfl, Or.inr ⟨h15, b, B, hN, hz⟩⟩
      have r29 := fun {k : Nat} (hk : k < 4) => nb_29 hB hk
      have le := fun {k : Nat} (hk : k < 4) => nb_le hB hk
      show WP m_P_sort 19 _ [.int 1] τ _
      refine wp_if_ne (tgt := 25) d_P_sort_19 (by decide) (fun hc2 => ?_) (fun hc2 => ?_)
      · rcases (show j = 0 ∨ j = 4 ∨ j = 5 ∨ j = 6 ∨ 1 ≤ j ∧ j ≤ 3 by omega) with rfl | rfl | rfl | rfl | ⟨j1, j3⟩
        · refine wp_iload_n d_P_sort_25 rfl ?_
          refine wp_tabIn (tgt := 68) (off := 42) d_P_sort_26 (by decide) (by decide) (by decide) (by decide) ?_
          refine wp_aload_n d_P_sort_68 rfl ?_
          refine wp_getA d_P_sort_69 fl_P_21 rfl rfl rfl ?_
          refine wp_callV0e d_P_sort_72 cv_P_108 rfl rfl rfl ⟨Nat.le_of_ble_eq_true rfl, Nat.le_of_ble_eq_true rfl⟩ (Nat.le_of_ble_eq_true rfl) (Nat.le_of_ble_eq_true rfl) (c_E_central _ hI' hM') ?_
          rw [el_2 h0 h6 hL' hE]
          have hk : elN N L lm 2 (EQ N L lm).length ≤ (EQ N L lm).length := by
            rw [elN_sm (by decide)]
            exact sm_le1 _
          have fin : ∀ u : Int32, u = bz (elN N L lm 2 (EQ N L lm).length = (EQ N L lm).length) → WP m_P_sort 90 [.ref 0, .int (nI 0)] [.int u] τ (Rq σ (aeSt (nI 0) (N, L, lm, s, e))) := by
            rintro u rfl
            refine wp_callS1e d_P_sort_90 cs_P_157 ⟨Nat.le_of_ble_eq_true rfl, Nat.le_of_ble_eq_true rfl⟩ (Nat.le_of_ble_eq_true rfl) (Nat.le_of_ble_eq_true rfl) (c_P_oneIf _ _) ?_
            refine wp_iret d_P_sort_93 rfl ?_
            exact ⟨⟨_, rfl, ans _ (bz_cong (all_ce h0 hlm h15))⟩, hFp, _, hM'⟩
          refine wp_aload_n d_P_sort_75 rfl ?_
          refine wp_getA d_P_sort_76 fl_P_21 rfl rfl rfl ?_
          refine wp_getI d_P_sort_79 fl_P_104 rfl rfl (by decide) ?_
          refine wp_icmp_ne (tgt := 89) d_P_sort_82 (by decide) (fun hc3 => ?_) (fun hc3 => ?_)
          · rw [e36, nI_eq (by omega) (by omega)] at hc3
            refine wp_iconst (v := 0) d_P_sort_89 (by decide) ?_
            exact fin 0 (bz_f hc3).symm
          · rw [e36, nI_eq (by omega) (by omega)] at hc3
            refine wp_iconst (v := 1) d_P_sort_85 (by decide) ?_
            refine wp_goto (tgt := 90) d_P_sort_86 (by decide) ?_
            exact fin 1 (bz_t hc3).symm
        · refine wp_iload_n d_P_sort_25 rfl ?_
          refine wp_tabIn (tgt := 94) (off := 68) d_P_sort_26 (by decide) (by decide) (by decide) (by decide) ?_
          refine wp_aload_n d_P_sort_94 rfl ?_
          refine wp_getA d_P_sort_95 fl_P_30 rfl rfl rfl ?_
          refine wp_callV0e d_P_sort_98 cv_P_137 rfl rfl rfl ⟨Nat.le_of_ble_eq_true rfl, Nat.le_of_ble_eq_true rfl⟩ (Nat.le_of_ble_eq_true rfl) (Nat.le_of_ble_eq_true rfl) (v_B_regular h15 (le (by decide)) _ (nb_290 hB) hU) ?_
          have hk : sm (fun i => if 0 < stI (b 0) (fun e => stN N (itm (EQ N L lm) e)) (EQ N L lm).length i then 1 else 0) (B 0) ≤ B 0 := sm_le1 _
          have h3 := le (k := 0) (by decide)
          have fin : ∀ u : Int32, u = bz (sm (fun i => if 0 < stI (b 0) (fun e => stN N (itm (EQ N L lm) e)) (EQ N L lm).length i then 1 else 0) (B 0) = B 0) → WP m_P_sort 117 [.ref 0, .int (nI 4)] [.int u] τ (Rq σ (aeSt (nI 4) (N, L, lm, s, e))) := by
            rintro u rfl
            refine wp_callS1e d_P_sort_117 cs_P_157 ⟨Nat.le_of_ble_eq_true rfl, Nat.le_of_ble_eq_true rfl⟩ (Nat.le_of_ble_eq_true rfl) (Nat.le_of_ble_eq_true rfl) (c_P_oneIf _ _) ?_
            refine wp_iret d_P_sort_120 rfl ?_
            refine ⟨⟨_, rfl, ans _ (bz_cong ?_)⟩, hFp, _, hM'⟩
            have e4 : soF N L lm 4 (EQ N L lm).length b B = decide ((inF N (EQ N L lm) (b 0) (b 0) none true (EQ N L lm).length).2 = B 0) := rfl
            rw [e4, decide_eq_true_eq, inF_reg (fun e he => (hB 0 (by decide)).1.1 e he)]
          refine wp_aload_n d_P_sort_101 rfl ?_
          refine wp_getA d_P_sort_102 fl_P_30 rfl rfl rfl ?_
          refine wp_iconst (v := 0) d_P_sort_105 (by decide) ?_
          refine wp_callV1e d_P_sort_106 cv_P_146 rfl rfl rfl ⟨Nat.le_of_ble_eq_true rfl, Nat.le_of_ble_eq_true rfl⟩ (Nat.le_of_ble_eq_true rfl) (Nat.le_of_ble_eq_true rfl) (c_B_howMany _ _) ?_
          refine wp_icmp_ne (tgt := 116) d_P_sort_109 (by decide) (fun hc3 => ?_) (fun hc3 => ?_)
          · rw [nb_290 hB, nI_eq (by omega) (by omega)] at hc3
            refine wp_iconst (v := 0) d_P_sort_116 (by decide) ?_
            exact fin 0 (bz_f hc3).symm
          · rw [nb_290 hB, nI_eq (by omega) (by omega)] at hc3
            refine wp_iconst (v := 1) d_P_sort_112 (by decide) ?_
            refine wp_goto (tgt := 117) d_P_sort_113 (by decide) ?_
            exact fin 1 (bz_t hc3).symm
        · refine wp_iload_n d_P_sort_25 rfl ?_
          refine wp_tabIn (tgt := 121) (off := 95) d_P_sort_26 (by decide) (by decide) (by decide) (by decide) ?_
          refine wp_aload_n d_P_sort_121 rfl ?_
          refine wp_getA d_P_sort_122 fl_P_21 rfl rfl rfl ?_
          refine wp_callV0e d_P_sort_125 cv_P_164 rfl rfl rfl ⟨Nat.le_of_ble_eq_true rfl, Nat.le_of_ble_eq_true rfl⟩ (Nat.le_of_ble_eq_true rfl) (Nat.le_of_ble_eq_true rfl) (c_E_stillOnesCommute _ hI' hM') ?_
          refine wp_callS1e d_P_sort_128 cs_P_157 ⟨Nat.le_of_ble_eq_true rfl, Nat.le_of_ble_eq_true rfl⟩ (Nat.le_of_ble_eq_true rfl) (Nat.le_of_ble_eq_true rfl) (c_P_oneIf _ _) ?_
          refine wp_iret d_P_sort_131 rfl ?_
          refine ⟨⟨_, rfl, ans _ ?_⟩, hFp, _, hM'⟩
          rw [hE.sc h0 h6]
          rfl
        · refine wp_iload_n d_P_sort_25 rfl ?_
          refine wp_tabIn (tgt := 132) (off := 106) d_P_sort_26 (by decide) (by decide) (by decide) (by decide) ?_
          refine wp_aload_n d_P_sort_132 rfl ?_
          refine wp_getA d_P_sort_133 fl_P_30 rfl rfl rfl ?_
          refine wp_iconst (v := 3) d_P_sort_136 (by decide) ?_
          refine wp_callV1e d_P_sort_137 cv_P_146 rfl rfl rfl ⟨Nat.le_of_ble_eq_true rfl, Nat.le_of_ble_eq_true rfl⟩ (Nat.le_of_ble_eq_true rfl) (Nat.le_of_ble_eq_true rfl) (c_B_howMany _ _) ?_
          have h3 := le (k := 3) (by decide)
          have r3 : rdA τ 29 4 3 = nI (B 3) := r29 (k := 3) (by decide)
          have fin : ∀ u : Int32, u = bz (B 3 = 1) → WP m_P_sort 149 [.ref 0, .int (nI 6)] [.int u] τ (Rq σ (aeSt (nI 6) (N, L, lm, s, e))) := by
            rintro u rfl
            refine wp_callS1e d_P_sort_149 cs_P_157 ⟨Nat.le_of_ble_eq_true rfl, Nat.le_of_ble_eq_true rfl⟩ (Nat.le_of_ble_eq_true rfl) (Nat.le_of_ble_eq_true rfl) (c_P_oneIf _ _) ?_
            refine wp_iret d_P_sort_152 rfl ?_
            refine ⟨⟨_, rfl, ans _ (bz_cong ?_)⟩, hFp, _, hM'⟩
            have e6 : soF N L lm 6 (EQ N L lm).length b B = decide (B 3 = 1) := rfl
            rw [e6, decide_eq_true_eq]
          refine wp_iconst (v := 1) d_P_sort_140 (by decide) ?_
          refine wp_icmp_ne (tgt := 148) d_P_sort_141 (by decide) (fun hc3 => ?_) (fun hc3 => ?_)
          · have hc3 : ¬ rdA τ 29 4 3 = nI 1 := hc3
            rw [r3, nI_eq (by omega) (by omega)] at hc3
            refine wp_iconst (v := 0) d_P_sort_148 (by decide) ?_
            exact fin 0 (bz_f hc3).symm
          · have hc3 : rdA τ 29 4 3 = nI 1 := hc3
            rw [r3, nI_eq (by omega) (by omega)] at hc3
            refine wp_iconst (v := 1) d_P_sort_144 (by decide) ?_
            refine wp_goto (tgt := 149) d_P_sort_145 (by decide) ?_
            exact fin 1 (bz_t hc3).symm
        · have h3 := le (k := j) (by omega)
          have fin : ∀ u : Int32, u = bz (B j = (EQ N L lm).length) → WP m_P_sort 176 [.ref 0, .int (nI j)] [.int u] τ (Rq σ (aeSt (nI j) (N, L, lm, s, e))) := by
            rintro u rfl
            refine wp_callS1e d_P_sort_176 cs_P_157 ⟨Nat.le_of_ble_eq_true rfl, Nat.le_of_ble_eq_true rfl⟩ (Nat.le_of_ble_eq_true rfl) (Nat.le_of_ble_eq_true rfl) (c_P_oneIf _ _) ?_
            refine wp_iret d_P_sort_179 rfl ?_
            refine ⟨⟨_, rfl, ans _ (bz_cong ?_)⟩, hFp, _, hM'⟩
            have e6 : soF N L lm j (EQ N L lm).length b B = decide (B j = (EQ N L lm).length) := by
              unfold soF
              rw [if_neg (show ¬ j = 0 by omega), if_pos (show j < 4 by omega)]
            rw [e6, decide_eq_true_eq]
          have main : WP m_P_sort 153 [.ref 0, .int (nI j)] [] τ (Rq σ (aeSt (nI j) (N, L, lm, s, e))) := by
            refine wp_aload_n d_P_sort_153 rfl ?_
            refine wp_getA d_P_sort_154 fl_P_30 rfl rfl rfl ?_
            refine wp_iload_n d_P_sort_157 rfl ?_
            refine wp_callV1e d_P_sort_158 cv_P_146 rfl rfl rfl ⟨Nat.le_of_ble_eq_true rfl, Nat.le_of_ble_eq_true rfl⟩ (Nat.le_of_ble_eq_true rfl) (Nat.le_of_ble_eq_true rfl) (c_B_howMany _ _) ?_
            refine wp_aload_n d_P_sort_161 rfl ?_
            refine wp_getA d_P_sort_162 fl_P_21 rfl rfl rfl ?_
            refine wp_getI d_P_sort_165 fl_P_104 rfl rfl (by decide) ?_
            refine wp_icmp_ne (tgt := 175) d_P_sort_168 (by decide) (fun hc3 => ?_) (fun hc3 => ?_)
            · rw [r29 (show j < 4 by omega), e36, nI_eq (by omega) (by omega)] at hc3
              refine wp_iconst (v := 0) d_P_sort_175 (by decide) ?_
              exact fin 0 (bz_f hc3).symm
            · rw [r29 (show j < 4 by omega), e36, nI_eq (by omega) (by omega)] at hc3
              refine wp_iconst (v := 1) d_P_sort_171 (by decide) ?_
              refine wp_goto (tgt := 176) d_P_sort_172 (by decide) ?_
              exact fin 1 (bz_t hc3).symm
          rcases (show j = 1 ∨ j = 2 ∨ j = 3 by omega) with rfl | rfl | rfl
          · refine wp_iload_n d_P_sort_25 rfl ?_
            refine wp_tabIn (tgt := 153) (off := 127) d_P_sort_26 (by decide) (by decide) (by decide) (by decide) ?_
            exact main
          · refine wp_iload_n d_P_sort_25 rfl ?_
            refine wp_tabIn (tgt := 153) (off := 127) d_P_sort_26 (by decide) (by decide) (by decide) (by decide) ?_
            exact main
          · refine wp_iload_n d_P_sort_25 rfl ?_
            refine wp_tabIn (tgt := 153) (off := 127) d_P_sort_26 (by decide) (by decide) (by decide) (by decide) ?_
            exact main
      · exact absurd hc2 (by decide)
  · refine wp_iconst (v := -1) d_P_sort_10 (by decide) ?_
    refine wp_iret d_P_sort_11 rfl ?_
    exact ⟨⟨_, rfl, Or.inr ⟨bz_0.mp hc, rfl⟩⟩, Fp.rf, M, hM⟩
