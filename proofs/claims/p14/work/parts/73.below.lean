/-! below: the class's answer -/
/-- a box's least element -/
theorem NB.lo {σ : Hp} {K M B : Nat} {a b l : Nat → Nat} (h : NB σ K M a b B l) {j : Nat} (hj : j < B) : loF b M j = l j := by
  obtain ⟨-, i2, i3, i4⟩ := h.2.2.1 j hj
  exact sr_first (fun e he => i4 e he) i3 i2
/-- a box's number or not -/
theorem hasB_bz {τ : Hp} {M B : Nat} {a b l : Nat → Nat} (hM : M ≤ 1500) (h0 : 0 < M) (h : NB τ 0 M a b B l) {i : Int32} : (0 ≤ i ∧ i ≤ rdA τ 29 4 0 - 1) ↔ ∃ x, x < B ∧ i = nI x := by
  have hB0 : 0 < B := by have := h.1.1 0 h0; omega
  have hBM := h.1.le
  have r : rdA τ 29 4 0 = nI B := by
    have := h.2.2.2
    rw [show (0 : Int32) = nI 0 from rfl, rdA_in (show 0 < 4 by decide) (by decide)]
    exact this
  rw [r, m_e9 hB0]
  exact in_M hB0 (by omega)
theorem v_B_isBelow {N L x y B : Nat} {lm : Nat → Nat} {a b l : Nat → Nat} (σ : Hp) (hI : KI σ N L) (h15 : (EQ N L lm).length ≤ 1500) (hst : ∀ k x, k < 2 * L → x < (EQ N L lm).length → spS N L lm k x < (EQ N L lm).length) (hD : ∀ x k, x < (EQ N L lm).length → k < 2 * L → σ.1 17 (8 * x + k) = nI (spS N L lm k x)) (hB : NB σ 0 (EQ N L lm).length a b B l) (hx : x < B) (hy : y < B) : Ct m_B_isBelow [.ref 15, .int (nI x), .int (nI y)] σ (fun r τ => r = some (.int (bz (hasB (CQ N L lm (l y)) (l x) = true))) ∧ Fq σ τ) := by
  have hBM := hB.1.le
  obtain ⟨x1, x2, -, -⟩ := hB.2.2.1 x hx
  obtain ⟨y1, y2, -, -⟩ := hB.2.2.1 y hy
  have r28 : ∀ (τ : Hp) z, z < B → τ.1 28 = σ.1 28 → rdA τ 28 6000 (0 * 1500 + nI z) = nI (l z) := fun τ z hz e => by
    rw [c0_nI, rdA_in (by omega) (by decide), e]
    exact (hB.2.2.1 z hz).1
  show WP m_B_isBelow 0 [.ref 15, .int (nI x), .int (nI y)] [] σ _
  refine wp_aload_n d_B_isBelow_0 rfl ?_
  refine wp_aload_n d_B_isBelow_1 rfl ?_
  refine wp_iconst (v := 0) d_B_isBelow_2 (by decide) ?_
  refine wp_iload_n d_B_isBelow_3 rfl ?_
  refine wp_callV2e d_B_isBelow_4 cv_B_164 rfl rfl rfl ⟨Nat.le_of_ble_eq_true rfl, Nat.le_of_ble_eq_true rfl⟩ (Nat.le_of_ble_eq_true rfl) (Nat.le_of_ble_eq_true rfl) (c_B_leastOf _ _ _) ?_
  rw [r28 σ y hy rfl]
  refine wp_callV1 d_B_isBelow_7 cv_B_173 rfl rfl rfl ⟨Nat.le_of_ble_eq_true rfl, Nat.le_of_ble_eq_true rfl⟩ (Nat.le_of_ble_eq_true rfl) (Nat.le_of_ble_eq_true rfl) (v_B_reach _ hI h15 hst hD y2) (fun v τ hv => ?_)
  obtain ⟨rfl, hF, hQ⟩ := hv
  show WP m_B_isBelow 10 _ [.int (nI (CQ N L lm (l y)).length)] τ _
  refine wp_pop d_B_isBelow_10 rfl ?_
  refine wp_aload_n d_B_isBelow_11 rfl ?_
  refine wp_getA d_B_isBelow_12 fl_B_44 rfl rfl rfl ?_
  refine wp_aload_n d_B_isBelow_15 rfl ?_
  refine wp_iconst (v := 0) d_B_isBelow_16 (by decide) ?_
  refine wp_iload_n d_B_isBelow_17 rfl ?_
  refine wp_callV2e d_B_isBelow_18 cv_B_164 rfl rfl rfl ⟨Nat.le_of_ble_eq_true rfl, Nat.le_of_ble_eq_true rfl⟩ (Nat.le_of_ble_eq_true rfl) (Nat.le_of_ble_eq_true rfl) (c_B_leastOf _ _ _) ?_
  rw [r28 τ x hx (hF.1 28 (by decide)).1]
  refine wp_callSN2e d_B_isBelow_21 csn_B_139 ⟨Nat.le_of_ble_eq_true rfl, Nat.le_of_ble_eq_true rfl⟩ (Nat.le_of_ble_eq_true rfl) (Nat.le_of_ble_eq_true rfl) (c_P_at (a := 33) rfl (by decide) _ _) ?_
  rw [rdA_in (show l x < 1500 by omega) (by decide), hQ.2.2 _ (by omega)]
  cases q : hasB (CQ N L lm (l y)) (l x) with
  | true =>
    rw [if_pos rfl, bz_t rfl]
    refine wp_iconst (v := 1) d_B_isBelow_24 (by decide) ?_
    refine wp_icmp_ne (tgt := 32) d_B_isBelow_25 (by decide) (fun hc => ?_) (fun hc => ?_)
    · exact absurd rfl hc
    · refine wp_iconst (v := 1) d_B_isBelow_28 (by decide) ?_
      refine wp_goto (tgt := 33) d_B_isBelow_29 (by decide) ?_
      refine wp_zret d_B_isBelow_33 rfl ?_ ?_
      · decide
      · exact ⟨rfl, hF⟩
  | false =>
    rw [if_neg (by decide), bz_f (by decide)]
    refine wp_iconst (v := 1) d_B_isBelow_24 (by decide) ?_
    refine wp_icmp_ne (tgt := 32) d_B_isBelow_25 (by decide) (fun hc => ?_) (fun hc => ?_)
    · refine wp_iconst (v := 0) d_B_isBelow_32 (by decide) ?_
      refine wp_zret d_B_isBelow_33 rfl ?_ ?_
      · decide
      · exact ⟨rfl, hF⟩
    · exact absurd hc (by decide)
def aeBe (i j : Int32) : Sx → Int32 → Prop := fun (N, L, lm, _, _) z => LBx N L lm (fun b B z => Ar2 (B 0) i j (fun x y => bz (hasB (CQ N L lm (loF (b 0) (EQ N L lm).length y)) (loF (b 0) (EQ N L lm).length x) = true)) z) z
theorem mb_below (i j : Int32) {σ : Hp} {a : Sx} (h : MS σ a) : Ct m_M_below [.ref 56, .int i, .int j] σ (YM σ a (aeBe i j a)) := by
  obtain ⟨N, L, lm, s, e⟩ := a
  exact (c_M_below i j σ h.1 h.2.1 h.2.2.2.2).im (fun w τ hr => (hr.yb h).im (fun z hz => hz))
theorem xv_below (i j : Int32) {σ : Hp} {a : Sx} (hX : XS σ a) : Ct m_P_below [.ref 0, .int i, .int j] σ (YX σ a (aeBe i j a)) := by
  obtain ⟨N, L, lm, s, e⟩ := a
  obtain ⟨M, hM, -⟩ := hX.2.2.2.2
  have hI := hX.1
  have h0 : 0 < N := by have := hI.2.1; omega
  have hlm : ∀ l, l < L → lm l < N ^ N := fun l hl => (hX.2.1 l hl).2
  suffices H : Ct m_P_below [.ref 0, .int i, .int j] σ (Rq σ (aeBe i j (N, L, lm, s, e))) from H.im (fun w τ hr => hr.yx hX (fun z hz => hz))
  show WP m_P_below 0 [.ref 0, .int i, .int j] [] σ _
  refine wp_aload_n d_P_below_0 rfl ?_
  refine wp_getA d_P_below_1 fl_P_30 rfl rfl rfl ?_
  refine wp_callV0 d_P_below_4 cv_P_136 rfl rfl rfl ⟨Nat.le_of_ble_eq_true rfl, Nat.le_of_ble_eq_true rfl⟩ (Nat.le_of_ble_eq_true rfl) (Nat.le_of_ble_eq_true rfl) (v_B_ready _ hI hX.2.1 hM) (fun v τ hv => ?_)
  obtain ⟨hF, ⟨M', hM'⟩, hv⟩ := hv
  have hI' := hF.KI (by decide) hI
  have hFp : Fp pS σ τ := hF.up (upS (by decide))
  rcases hv with ⟨rfl, hE⟩ | ⟨rfl, lm', un, hE, hBV⟩
  · show WP m_P_below 7 _ [.int 0] τ _
    refine wp_if_ne (tgt := 13) d_P_below_7 (by decide) (fun hc2 => ?_) (fun hc2 => ?_)
    · exact absurd rfl hc2
    · refine wp_bipush (v := -5) d_P_below_10 (by decide) ?_
      refine wp_iret d_P_below_12 rfl ?_
      exact ⟨⟨_, rfl, Or.inl ⟨hE.2.1, rfl⟩⟩, hFp, M', hM'⟩
  · have hE : EL τ N L lm := hE.un (fun k hk => (un k hk).symm)
    obtain ⟨b, B, l, a, hN, hB⟩ := hBV.nm un
    have h15 := hE.len
    have hB0 := hB 0 (by decide)
    have hbz := fun {i : Int32} => hasB_bz (i := i) h15 EL.pos hB0
    have ans : ∀ z : Int32, Ar2 (B 0) i j (fun x y => bz (hasB (CQ N L lm (loF (b 0) (EQ N L lm).length y)) (loF (b 0) (EQ N L lm).length x) = true)) z → aeBe i j (N, L, lm, s, e) z := fun z hz => Or.inr ⟨h15, b, B, hN, hz⟩
    have no : (¬ ∃ x, x < B 0 ∧ i = nI x) ∨ (¬ ∃ y, y < B 0 ∧ j = nI y) → WP m_P_below 35 [.ref 0, .int i, .int j] [] τ (Rq σ (aeBe i j (N, L, lm, s, e))) := by
      intro q
      refine wp_iconst (v := -1) d_P_below_35 (by decide) ?_
      refine wp_iret d_P_below_36 rfl ?_
      exact ⟨⟨_, rfl, ans _ (Or.inr ⟨fun ⟨x, y, h1, h2, h3, h4⟩ => q.elim (fun q => q ⟨x, h1, h3⟩) (fun q => q ⟨y, h2, h4⟩), rfl⟩)⟩, hFp, M', hM'⟩
    show WP m_P_below 7 _ [.int 1] τ _
    refine wp_if_ne (tgt := 13) d_P_below_7 (by decide) (fun hc2 => ?_) (fun hc2 => ?_)
    · refine wp_aload_n d_P_below_13 rfl ?_
      refine wp_getA d_P_below_14 fl_P_30 rfl rfl rfl ?_
      refine wp_iload_n d_P_below_17 rfl ?_
      refine wp_callV1e d_P_below_18 cv_P_151 rfl rfl rfl ⟨Nat.le_of_ble_eq_true rfl, Nat.le_of_ble_eq_true rfl⟩ (Nat.le_of_ble_eq_true rfl) (Nat.le_of_ble_eq_true rfl) (c_B_has _ _) ?_
      refine wp_if_eq (tgt := 35) d_P_below_21 (by decide) (fun hc3 => ?_) (fun hc3 => ?_)
      · exact no (Or.inl (fun q => bz_0.mp hc3 (hbz.mpr q)))
      · refine wp_aload_n d_P_below_24 rfl ?_
        refine wp_getA d_P_below_25 fl_P_30 rfl rfl rfl ?_
        refine wp_iload_n d_P_below_28 rfl ?_
        refine wp_callV1e d_P_below_29 cv_P_151 rfl rfl rfl ⟨Nat.le_of_ble_eq_true rfl, Nat.le_of_ble_eq_true rfl⟩ (Nat.le_of_ble_eq_true rfl) (Nat.le_of_ble_eq_true rfl) (c_B_has _ _) ?_
        refine wp_if_ne (tgt := 37) d_P_below_32 (by decide) (fun hc5 => ?_) (fun hc5 => ?_)
        · obtain ⟨x, hx, rfl⟩ := hbz.mp (bz_n0 hc3)
          obtain ⟨y, hy, rfl⟩ := hbz.mp (bz_n0 hc5)
          refine wp_aload_n d_P_below_37 rfl ?_
          refine wp_getA d_P_below_38 fl_P_30 rfl rfl rfl ?_
          refine wp_iload_n d_P_below_41 rfl ?_
          refine wp_iload_n d_P_below_42 rfl ?_
          refine wp_callV2 d_P_below_43 cv_P_153 rfl rfl rfl ⟨Nat.le_of_ble_eq_true rfl, Nat.le_of_ble_eq_true rfl⟩ (Nat.le_of_ble_eq_true rfl) (Nat.le_of_ble_eq_true rfl) (v_B_isBelow _ hI' h15 (sp0_in h0 hlm h15) (hBV.sp0 un) hB0 hx hy) (fun v υ hv => ?_)
          obtain ⟨rfl, hF2⟩ := hv
          show WP m_P_below 46 _ [.int (bz (hasB (CQ N L lm (l 0 y)) (l 0 x) = true))] υ _
          refine wp_callS1e d_P_below_46 cs_P_157 ⟨Nat.le_of_ble_eq_true rfl, Nat.le_of_ble_eq_true rfl⟩ (Nat.le_of_ble_eq_true rfl) (Nat.le_of_ble_eq_true rfl) (c_P_oneIf _ _) ?_
          refine wp_iret d_P_below_49 rfl ?_
          refine ⟨⟨_, rfl, ans _ (Or.inl ⟨x, y, hx, hy, rfl, rfl, ?_⟩)⟩, hFp.tr (hF2.1.up (upS (by decide))), M', hF2.EM hM'⟩
          try dsimp only
          rw [hB0.lo hx, hB0.lo hy]
        · exact no (Or.inr (fun q => bz_0.mp hc5 (hbz.mpr q)))
    · exact absurd hc2 (by decide)
theorem un_below {i j z z' : Int32} {a : Sx} (h : aeBe i j a z) (h' : aeBe i j a z') : z = z' := by
  obtain ⟨N, L, lm, s, e⟩ := a
  rcases h with ⟨h, rfl⟩ | ⟨h, b, B, hN, hA⟩ <;> rcases h' with ⟨h', rfl⟩ | ⟨h', b', B', hN', hA'⟩
  · rfl
  · omega
  · omega
  · obtain ⟨hu, hBB⟩ := hN.un hN' 0 (by decide)
    have hBM := (hN.1.choose_spec 0 (by decide)).le
    have lo : ∀ x, loF (b 0) (EQ N L lm).length x = loF (b' 0) (EQ N L lm).length x := fun x => by
      unfold loF
      have key : ∀ f k, k + f ≤ (EQ N L lm).length → sr (fun e => b 0 e = x) f k = sr (fun e => b' 0 e = x) f k := by
        intro f
        induction f with
        | zero => exact fun _ _ => rfl
        | succ f ih =>
          intro k hk
          show (if b 0 k = x then k else sr _ f (k + 1)) = (if b' 0 k = x then k else sr _ f (k + 1))
          rw [hu k (by omega), ih (k + 1) (by omega)]
      exact key _ 0 (by omega)
    have hA2 : Ar2 (B 0) i j (fun x y => bz (hasB (CQ N L lm (loF (b 0) (EQ N L lm).length y)) (loF (b 0) (EQ N L lm).length x) = true)) z' := by
      rw [hBB]
      rcases hA' with ⟨x, y, hx, hy, e1, e2, rfl⟩ | hA'
      · exact Or.inl ⟨x, y, hx, hy, e1, e2, by
          try dsimp only
          rw [lo x, lo y]⟩
      · exact Or.inr hA'
    exact hA.un (by omega) hA2
