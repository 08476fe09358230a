/-! ideal: the class's answer -/
/-- what has been met, in order -/
def QM (τ : Hp) (Q : BQ) : Prop := τ.1 15 12 = nI Q.length ∧ (∀ j, j < Q.length → τ.1 34 j = nI (itm Q j)) ∧ ∀ x, x < 1500 → τ.1 33 x = if hasB Q x = true then 1 else 0
theorem v_B_meet {x i k : Nat} {Q : BQ} (hx : x < 1500) (σ : Hp) (h : QM σ Q) (hl : hasB Q x = false → Q.length < 1500) : Ct m_B_meet [.ref 15, .int (nI x)] σ (fun r τ => r = none ∧ Fq σ τ ∧ QM τ (if hasB Q x = true then Q else Q ++ [(x, i, k)])) := by
  obtain ⟨h1, h2, h3⟩ := id h
  show WP m_B_meet 0 [.ref 15, .int (nI x)] [] σ _
  refine wp_aload_n d_B_meet_0 rfl ?_
  refine wp_getA d_B_meet_1 fl_B_44 rfl rfl rfl ?_
  refine wp_iload_n d_B_meet_4 rfl ?_
  refine wp_callSN2e d_B_meet_5 csn_B_139 ⟨Nat.le_of_ble_eq_true rfl, Nat.le_of_ble_eq_true rfl⟩ (Nat.le_of_ble_eq_true rfl) (Nat.le_of_ble_eq_true rfl) (c_P_at (a := 33) rfl (by decide) _ _) ?_
  rw [rdA_in hx (by decide), h3 x hx]
  cases q : hasB Q x with
  | true =>
    rw [if_pos rfl, if_pos rfl]
    refine wp_if_ne (tgt := 42) d_B_meet_8 (by decide) (fun hc => ?_) (fun hc => ?_)
    · refine wp_vret d_B_meet_42 rfl ?_
      exact ⟨rfl, ⟨Fp.rf, rfl⟩, h⟩
    · exact absurd hc (by decide)
  | false =>
    have hl := hl q
    rw [if_neg (by decide), if_neg (by decide)]
    refine wp_if_ne (tgt := 42) d_B_meet_8 (by decide) (fun hc => ?_) (fun hc => ?_)
    · exact absurd rfl hc
    · refine wp_aload_n d_B_meet_11 rfl ?_
      refine wp_getA d_B_meet_12 fl_B_44 rfl rfl rfl ?_
      refine wp_iload_n d_B_meet_15 rfl ?_
      refine wp_iconst (v := 1) d_B_meet_16 (by decide) ?_
      refine wp_callSN3v d_B_meet_17 csn_B_119 ⟨Nat.le_of_ble_eq_true rfl, Nat.le_of_ble_eq_true rfl⟩ (Nat.le_of_ble_eq_true rfl) (Nat.le_of_ble_eq_true rfl) (c_P_put (a := 33) rfl (by decide) _ _ _) ?_
      rw [wrA_in hx (by decide)]
      generalize hτ1 : wI σ 33 x 1 = τ1
      have e15 : τ1.1 15 = σ.1 15 := by rw [← hτ1, wI_ne (by decide)]
      refine wp_aload_n d_B_meet_20 rfl ?_
      refine wp_getA d_B_meet_21 fl_B_47 rfl rfl rfl ?_
      refine wp_aload_n d_B_meet_24 rfl ?_
      refine wp_getI d_B_meet_25 fl_B_176 rfl rfl (by decide) ?_
      refine wp_iload_n d_B_meet_28 rfl ?_
      rw [show τ1.1 15 12 = nI Q.length by rw [e15]; exact h1]
      refine wp_callSN3v d_B_meet_29 csn_B_119 ⟨Nat.le_of_ble_eq_true rfl, Nat.le_of_ble_eq_true rfl⟩ (Nat.le_of_ble_eq_true rfl) (Nat.le_of_ble_eq_true rfl) (c_P_put (a := 34) rfl (by decide) _ _ _) ?_
      rw [wrA_in hl (by decide)]
      refine wp_aload_n d_B_meet_32 rfl ?_
      refine wp_dup d_B_meet_33 rfl ?_
      refine wp_getI d_B_meet_34 fl_B_176 rfl rfl (by decide) ?_
      refine wp_iconst (v := 1) d_B_meet_37 (by decide) ?_
      refine wp_iadd d_B_meet_38 ?_
      refine wp_putI d_B_meet_39 fp_B_176 rfl rfl (by decide) rfl rfl ?_
      refine wp_vret d_B_meet_42 rfl ?_
      refine ⟨rfl, ⟨?_, ?_⟩, ?_, fun j hj => ?_, fun y hy => ?_⟩
      · rw [← hτ1]
        exact ((Fp.rf.wI (by decide)).wI (by decide)).wI (by decide)
      · rw [wI_eq, upd_ne (by decide), wI_ne (by decide), e15]
      · rw [wI_eq, upd_eq, wI_ne (by decide), e15, h1, nI_1]
        simp
      · rw [wI_ne (by decide), wI_eq, show τ1.1 34 = σ.1 34 by rw [← hτ1, wI_ne (by decide)]]
        simp only [List.length_append, List.length_cons, List.length_nil] at hj
        by_cases z : j = Q.length
        · rw [z, upd_eq, itm_app]
        · rw [upd_ne z, itm_old (by omega)]
          exact h2 j (by omega)
      · rw [wI_ne (by decide), wI_ne (by decide), ← hτ1, wI_eq, hasB_app]
        by_cases z : y = x
        · rw [z, upd_eq, q]
          simp
        · rw [upd_ne z, h3 y hy]
          have : ((x, i, k).1 == y) = false := by simp; exact fun w => z w.symm
          rw [this, Bool.or_false]
theorem v_B_reach {N L e : Nat} {lm : Nat → Nat} (σ : Hp) (hI : KI σ N L) (h15 : (EQ N L lm).length ≤ 1500) (hst : ∀ k x, k < 2 * L → x < (EQ N L lm).length → spS N L lm k x < (EQ N L lm).length) (hD : ∀ x k, x < (EQ N L lm).length → k < 2 * L → σ.1 17 (8 * x + k) = nI (spS N L lm k x)) (he : e < (EQ N L lm).length) : Ct m_B_reach [.ref 15, .int (nI e)] σ (fun r τ => r = some (.int (nI (CQ N L lm e).length)) ∧ Fq σ τ ∧ QM τ (CQ N L lm e)) := by
  obtain ⟨hn, g1, g6, hl, g4⟩ := hI
  have bd : ∀ Q, BI (spS N L lm) (2 * L) e Q → (∀ j, j < Q.length → itm Q j < (EQ N L lm).length) ∧ Q.length ≤ (EQ N L lm).length := fun Q hQ => ⟨hQ.bd he hst, hQ.len (hQ.bd he hst)⟩
  have room : ∀ (Q : BQ) x, BI (spS N L lm) (2 * L) e Q → x < (EQ N L lm).length → hasB Q x = false → Q.length < 1500 := fun Q x hQ hx hn => by
    have := fb_holes (EQ N L lm).length (Q.length + 1) (fun j => if j < Q.length then itm Q j else x) (fun j hj => by
      try dsimp only
      split
      · rename_i q; exact (bd Q hQ).1 j q
      · exact hx) (fun i j hij hj ee => by
      try dsimp only at ee
      rw [if_pos (show i < Q.length by omega)] at ee
      by_cases q : j < Q.length
      · rw [if_pos q] at ee
        have := hQ.2.2.1 i j (by omega) q ee
        omega
      · rw [if_neg q] at ee
        rw [hasB_iff.mpr ⟨i, by omega, ee⟩] at hn
        cases hn)
    omega
  show WP m_B_reach 0 [.ref 15, .int (nI e), .null, .null] [] σ _
  refine wp_aload_n d_B_reach_0 rfl ?_
  refine wp_getA d_B_reach_1 fl_B_44 rfl rfl rfl ?_
  refine wp_iconst (v := 0) d_B_reach_4 (by decide) ?_
  refine wp_callS2v d_B_reach_5 cs_B_133 ⟨Nat.le_of_ble_eq_true rfl, Nat.le_of_ble_eq_true rfl⟩ (Nat.le_of_ble_eq_true rfl) (Nat.le_of_ble_eq_true rfl) (c_Ja_fill (a := 33) rfl (by decide) _ _) ?_
  refine wp_aload_n d_B_reach_8 rfl ?_
  refine wp_iconst (v := 0) d_B_reach_9 (by decide) ?_
  refine wp_putI d_B_reach_10 fp_B_176 rfl rfl (by decide) rfl rfl ?_
  refine wp_aload_n d_B_reach_13 rfl ?_
  refine wp_iload_n d_B_reach_14 rfl ?_
  have hq0 : QM (wI (flA σ 33 0 1500) 15 12 0) [] := by
    refine ⟨by rw [wI_eq, upd_eq]; rfl, fun j hj => absurd hj (Nat.not_lt_zero j), fun x hx => ?_⟩
    rw [wI_ne (by decide)]
    exact flA_in hx
  have hf0 : Fq σ (wI (flA σ 33 0 1500) 15 12 0) := ⟨(Fp.rf.flA (by decide)).wI (by decide), by rw [wI_eq, upd_ne (by decide)]; simp [flA]⟩
  refine wp_callV1 d_B_reach_15 cv_B_179 rfl rfl rfl ⟨Nat.le_of_ble_eq_true rfl, Nat.le_of_ble_eq_true rfl⟩ (Nat.le_of_ble_eq_true rfl) (Nat.le_of_ble_eq_true rfl) (v_B_meet (i := 0) (k := 0) (show e < 1500 by omega) _ hq0 (fun _ => by decide)) (fun v τ hv => ?_)
  obtain ⟨rfl, hF, hQ⟩ := hv
  have hQ : QM τ [(e, 0, 0)] := hQ
  show WP m_B_reach 18 _ [] τ _
  refine wp_iconst (v := 0) d_B_reach_18 (by decide) ?_
  refine wp_istore2 d_B_reach_19 (by decide) rfl ?_
  suffices H : ∀ i, i ≤ 1500 → ∀ (τ : Hp) (x3 : Value), Fq σ τ → QM τ (bfQ (spS N L lm) (2 * L) e i) → WP m_B_reach 20 [.ref 15, .int (nI e), .int (nI i), x3] [] τ (fun r τ => r = some (.int (nI (CQ N L lm e).length)) ∧ Fq σ τ ∧ QM τ (CQ N L lm e)) from H 0 (Nat.zero_le _) τ _ (hf0.tr hF) hQ
  refine lp_nat (fun i hi ih τ x3 hF hQ => ?_)
  have hBI := BI.Q (st := spS N L lm) (L := 2 * L) (s := e) i
  have hb := bd _ hBI
  have fin : (bfQ (spS N L lm) (2 * L) e i).length ≤ i → WP m_B_reach 82 [.ref 15, .int (nI e), .int (nI i), x3] [] τ (fun r τ => r = some (.int (nI (CQ N L lm e).length)) ∧ Fq σ τ ∧ QM τ (CQ N L lm e)) := fun hle => by
    have := bfQ_stop hle (1500 - i)
    rw [show i + (1500 - i) = 1500 by omega] at this
    have eC : CQ N L lm e = bfQ (spS N L lm) (2 * L) e i := by
      unfold CQ
      rw [n15_eq]
      exact this
    rw [eC]
    refine wp_aload_n d_B_reach_82 rfl ?_
    refine wp_getI d_B_reach_83 fl_B_176 rfl rfl (by decide) ?_
    refine wp_iret d_B_reach_86 rfl ?_
    exact ⟨by rw [hQ.1], hF, hQ⟩
  refine wp_iload_n d_B_reach_20 rfl ?_
  refine wp_aload_n d_B_reach_21 rfl ?_
  refine wp_getI d_B_reach_22 fl_B_176 rfl rfl (by decide) ?_
  refine wp_icmp_ge (tgt := 82) d_B_reach_25 (by decide) (fun hc => ?_) (fun hc => ?_)
  · rw [hQ.1] at hc
    exact fin (nI_ge2 hc (by omega) (by omega))
  · rw [hQ.1] at hc
    have hi3 := nI_nge hc (by omega) (by omega)
    refine wp_iload_n d_B_reach_28 rfl ?_
    refine wp_sipush (v := 1500) d_B_reach_29 (by decide) ?_
    refine wp_icmp_ge (tgt := 82) d_B_reach_32 (by decide) (fun hc2 => ?_) (fun hc2 => ?_)
    · have := nI_ge2 (b := 1500) hc2 (by omega) (by omega)
      exact fin (by omega)
    · have hi2 := nI_nge (b := 1500) hc2 (by omega) (by omega)
      refine wp_iconst (v := 0) d_B_reach_35 (by decide) ?_
      refine wp_istore3 d_B_reach_36 (by decide) rfl ?_
      suffices H : ∀ k, k ≤ 2 * L → ∀ (τ : Hp), Fq σ τ → QM τ (it (fun k Q => bfA (spS N L lm) i k Q) k (bfQ (spS N L lm) (2 * L) e i)) → WP m_B_reach 37 [.ref 15, .int (nI e), .int (nI i), .int (nI k)] [] τ (fun r τ => r = some (.int (nI (CQ N L lm e).length)) ∧ Fq σ τ ∧ QM τ (CQ N L lm e)) from H 0 (Nat.zero_le _) _ hF hQ
      clear fin hF hQ hc τ
      refine lp_nat (fun k hk ih2 τ hF hQ => ?_)
      have e1 : τ.1 1 = σ.1 1 := (hF.1 1 (by decide)).1
      have L2 : (2 : Int32) * τ.1 1 2 = nI (2 * L) := by
        rw [e1, hl, show (2 : Int32) = nI 2 from rfl, pk_mul]
      refine wp_iload_n d_B_reach_37 rfl ?_
      refine wp_iconst (v := 2) d_B_reach_38 (by decide) ?_
      refine wp_aload_n d_B_reach_39 rfl ?_
      refine wp_getA d_B_reach_40 fl_B_54 rfl rfl rfl ?_
      refine wp_getI d_B_reach_43 fl_B_76 rfl rfl (by decide) ?_
      refine wp_imul d_B_reach_46 ?_
      refine wp_icmp_ge (tgt := 76) d_B_reach_47 (by decide) (fun hc3 => ?_) (fun hc3 => ?_)
      · rw [L2] at hc3
        obtain rfl := Nat.le_antisymm hk (nI_ge2 hc3 (by omega) (by omega))
        refine wp_iinc2 d_B_reach_76 (hn_ii1 _) (by decide) rfl ?_
        refine wp_goto (tgt := 20) d_B_reach_79 (by decide) ?_
        rw [nI_1]
        exact ih hi2 _ _ hF (by rw [bfQ_s hi3]; exact hQ)
      · rw [L2] at hc3
        have hk2 := nI_nge hc3 (by omega) (by omega)
        have hBk := hBI.K hi3 k hk
        have hpre := bfK_pre (st := spS N L lm) (i := i) (Q := bfQ (spS N L lm) (2 * L) e i) k
        have hbA : it (fun k Q => bfA (spS N L lm) i k Q) (k + 1) (bfQ (spS N L lm) (2 * L) e i) = bfA (spS N L lm) i k (it (fun k Q => bfA (spS N L lm) i k Q) k (bfQ (spS N L lm) (2 * L) e i)) := rfl
        have hik : i < (it (fun k Q => bfA (spS N L lm) i k Q) k (bfQ (spS N L lm) (2 * L) e i)).length := Nat.lt_of_lt_of_le hi3 hpre.1
        rw [hbA] at ih2
        generalize it (fun k Q => bfA (spS N L lm) i k Q) k (bfQ (spS N L lm) (2 * L) e i) = Q at *
        have hx := (bd Q hBk).1 i hik
        have hz := hst k (itm Q i) hk2 hx
        refine wp_aload_n d_B_reach_50 rfl ?_
        refine wp_aload_n d_B_reach_51 rfl ?_
        refine wp_getA d_B_reach_52 fl_B_12 rfl rfl rfl ?_
        refine wp_aload_n d_B_reach_55 rfl ?_
        refine wp_getA d_B_reach_56 fl_B_47 rfl rfl rfl ?_
        refine wp_iload_n d_B_reach_59 rfl ?_
        refine wp_callSN2e d_B_reach_60 csn_B_139 ⟨Nat.le_of_ble_eq_true rfl, Nat.le_of_ble_eq_true rfl⟩ (Nat.le_of_ble_eq_true rfl) (Nat.le_of_ble_eq_true rfl) (c_P_at (a := 34) rfl (by decide) _ _) ?_
        rw [rdA_in hi2 (by decide), hQ.2.1 i hik]
        refine wp_iload_n d_B_reach_63 rfl ?_
        refine wp_callV2e d_B_reach_64 cv_B_154 rfl rfl rfl ⟨Nat.le_of_ble_eq_true rfl, Nat.le_of_ble_eq_true rfl⟩ (Nat.le_of_ble_eq_true rfl) (Nat.le_of_ble_eq_true rfl) (c_T_from _ _ _) ?_
        have r17 : rdA τ 17 12000 (nI (itm Q i) * 8 + nI k) = nI (spS N L lm k (itm Q i)) := by
          have e8 : nI (itm Q i) * 8 + nI k = nI (8 * itm Q i + k) := by
            show nI (itm Q i) * nI 8 + nI k = _
            rw [pk_mul, nI_add, Nat.mul_comm]
          rw [e8, rdA_in (by omega) (by decide), (hF.1 17 (by decide)).1]
          exact hD _ k hx hk2
        rw [r17]
        refine wp_callV1 d_B_reach_67 cv_B_179 rfl rfl rfl ⟨Nat.le_of_ble_eq_true rfl, Nat.le_of_ble_eq_true rfl⟩ (Nat.le_of_ble_eq_true rfl) (Nat.le_of_ble_eq_true rfl) (v_B_meet (i := i) (k := k) (show spS N L lm k (itm Q i) < 1500 by omega) _ hQ (room Q _ hBk hz)) (fun v υ hv => ?_)
        obtain ⟨rfl, hF2, hQ2⟩ := hv
        show WP m_B_reach 70 _ [] υ _
        refine wp_iinc3 d_B_reach_70 (hn_ii1 _) (by decide) rfl ?_
        refine wp_goto (tgt := 37) d_B_reach_73 (by decide) ?_
        rw [nI_1]
        exact ih2 hk2 _ (hF.tr hF2) hQ2
/-- the steps, as drawn by whatever letters are the same -/
theorem BV.sp0 {τ : Hp} {N L : Nat} {lm lm' : Nat → Nat} (e : ∀ k, k < L → lm k = lm' k) (h : BV τ N L lm') : ∀ x k, x < (EQ N L lm).length → k < 2 * L → τ.1 17 (8 * x + k) = nI (spS N L lm k x) := fun x k hx hk => by
  have e' : ∀ k, k < L → lm' k = lm k := fun k hk => (e k hk).symm
  have h1 := h.1.sp.1
  rw [EQ_cg e'] at h1
  have := h1 x k hx hk
  rw [Nat.zero_add] at this
  rw [this]
  unfold spS
  rw [spP_cg (kind := 0) (by decide) e' (show k < spN L 0 from hk)]
theorem sp0_in {N L : Nat} {lm : Nat → Nat} (h0 : 0 < N) (hlm : ∀ l, l < L → lm l < N ^ N) (h15 : (EQ N L lm).length ≤ 1500) : ∀ k x, k < 2 * L → x < (EQ N L lm).length → spS N L lm k x < (EQ N L lm).length := fun k x hk hx => sp_in (kind := 0) h0 hlm h15 (by decide) hx (show k < spN L 0 from hk)
def aeId (x : Int32) : Sx → Int32 → Prop := fun (N, L, lm, _, _) z => LR N L lm (fun M z => Ar M x (fun x => nI (CQ N L lm x).length) z) z
theorem mb_ideal (x : Int32) {σ : Hp} {a : Sx} (h : MS σ a) : Ct m_M_ideal [.ref 56, .int x] σ (YM σ a (aeId x a)) := by
  obtain ⟨N, L, lm, s, e⟩ := a
  exact (c_M_ideal x σ h.1 h.2.1 h.2.2.2.2).im (fun w τ hr => (hr.yb h).im (fun z hz => hz.imp id (fun ⟨h1, _, _, _, h2⟩ => ⟨h1, h2⟩)))
theorem xv_ideal (x : Int32) {σ : Hp} {a : Sx} (hX : XS σ a) : Ct m_P_ideal [.ref 0, .int x] σ (YX σ a (aeId x a)) := by
  obtain ⟨N, L, lm, s, e⟩ := a
  obtain ⟨M, hM, -⟩ := hX.2.2.2.2
  have hI := hX.1
  have h0 : 0 < N := by have := hI.2.1; omega
  have hlm : ∀ l, l < L → lm l < N ^ N := fun l hl => (hX.2.1 l hl).2
  suffices H : Ct m_P_ideal [.ref 0, .int x] σ (Rq σ (aeId x (N, L, lm, s, e))) from H.im (fun w τ hr => hr.yx hX (fun z hz => hz))
  show WP m_P_ideal 0 [.ref 0, .int x] [] σ _
  refine wp_aload_n d_P_ideal_0 rfl ?_
  refine wp_getA d_P_ideal_1 fl_P_30 rfl rfl rfl ?_
  refine wp_callV0 d_P_ideal_4 cv_P_136 rfl rfl rfl ⟨Nat.le_of_ble_eq_true rfl, Nat.le_of_ble_eq_true rfl⟩ (Nat.le_of_ble_eq_true rfl) (Nat.le_of_ble_eq_true rfl) (v_B_ready _ hI hX.2.1 hM) (fun v τ hv => ?_)
  obtain ⟨hF, ⟨M', hM'⟩, hv⟩ := hv
  have hI' := hF.KI (by decide) hI
  have hFp : Fp pS σ τ := hF.up (upS (by decide))
  rcases hv with ⟨rfl, hE⟩ | ⟨rfl, lm', un, hE, hBV⟩
  · show WP m_P_ideal 7 _ [.int 0] τ _
    refine wp_if_ne (tgt := 13) d_P_ideal_7 (by decide) (fun hc2 => ?_) (fun hc2 => ?_)
    · exact absurd rfl hc2
    · refine wp_bipush (v := -5) d_P_ideal_10 (by decide) ?_
      refine wp_iret d_P_ideal_12 rfl ?_
      exact ⟨⟨_, rfl, Or.inl ⟨hE.2.1, rfl⟩⟩, hFp, M', hM'⟩
  · have hE : EL τ N L lm := hE.un (fun k hk => (un k hk).symm)
    have ans : ∀ z : Int32, Ar (EQ N L lm).length x (fun x => nI (CQ N L lm x).length) z → aeId x (N, L, lm, s, e) z := fun z hz => Or.inr ⟨hE.len, hz⟩
    show WP m_P_ideal 7 _ [.int 1] τ _
    refine wp_if_ne (tgt := 13) d_P_ideal_7 (by decide) (fun hc2 => ?_) (fun hc2 => ?_)
    · refine wp_aload_n d_P_ideal_13 rfl ?_
      refine wp_getA d_P_ideal_14 fl_P_21 rfl rfl rfl ?_
      refine wp_iload_n d_P_ideal_17 rfl ?_
      refine wp_callV1e d_P_ideal_18 cv_P_114 rfl rfl rfl ⟨Nat.le_of_ble_eq_true rfl, Nat.le_of_ble_eq_true rfl⟩ (Nat.le_of_ble_eq_true rfl) (Nat.le_of_ble_eq_true rfl) (c_E_has _ _) ?_
      refine wp_if_eq (tgt := 35) d_P_ideal_21 (by decide) (fun hc3 => ?_) (fun hc3 => ?_)
      · refine wp_iconst (v := -1) d_P_ideal_35 (by decide) ?_
        refine wp_iret d_P_ideal_36 rfl ?_
        exact ⟨⟨_, rfl, ans _ (Or.inr ⟨fun q => bz_0.mp hc3 ((has_bz hE).mpr q), rfl⟩)⟩, hFp, M', hM'⟩
      · obtain ⟨x, hx, rfl⟩ := (has_bz hE).mp (bz_n0 hc3)
        refine wp_aload_n d_P_ideal_24 rfl ?_
        refine wp_getA d_P_ideal_25 fl_P_30 rfl rfl rfl ?_
        refine wp_iload_n d_P_ideal_28 rfl ?_
        refine wp_callV1 d_P_ideal_29 cv_P_161 rfl rfl rfl ⟨Nat.le_of_ble_eq_true rfl, Nat.le_of_ble_eq_true rfl⟩ (Nat.le_of_ble_eq_true rfl) (Nat.le_of_ble_eq_true rfl) (v_B_reach _ hI' hE.len (sp0_in h0 hlm hE.len) (hBV.sp0 un) hx) (fun v υ hv => ?_)
        obtain ⟨rfl, hF2, -⟩ := hv
        show WP m_P_ideal 32 _ [.int (nI (CQ N L lm x).length)] υ _
        refine wp_goto (tgt := 36) d_P_ideal_32 (by decide) ?_
        refine wp_iret d_P_ideal_36 rfl ?_
        exact ⟨⟨_, rfl, ans _ (Or.inl ⟨x, hx, rfl, rfl⟩)⟩, hFp.tr (hF2.1.up (upS (by decide))), M', hF2.EM hM'⟩
    · exact absurd hc2 (by decide)
theorem un_ideal {x z z' : Int32} {a : Sx} (h : aeId x a z) (h' : aeId x a z') : z = z' := by
  obtain ⟨N, L, lm, s, e⟩ := a
  have h : LR N L lm (fun M z => Ar M x (fun x => nI (CQ N L lm x).length) z) z := h
  exact LR.un h h' (fun h15 a b => a.un h15 b)
