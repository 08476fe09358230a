/-! contracts: the class draws its steps -/
theorem v_B_drawSteps {N L : Nat} {lm : Nat → Nat} (σ : Hp) (hI : KI σ N L) (hL : LL σ N L lm) (hE : EL σ N L lm) : Ct m_B_drawSteps [.ref 15] σ (fun r τ => r = none ∧ Fp [17] σ τ ∧ ∀ e l, e < (EQ N L lm).length → l < L → τ.1 17 (8 * e + l) = nI (toP N lm (EQ N L lm) e l) ∧ τ.1 17 (8 * e + (L + l)) = nI (ahP N lm (EQ N L lm) e l)) := by
  have h0 : 0 < N := by have := hI.2.1; omega
  have h6 := hI.2.2.1
  have hI0 := hI
  obtain ⟨hn, -, -, hl, h4⟩ := hI0
  have h15 : (EQ N L lm).length ≤ 1500 := hE.2.1.2.1
  obtain ⟨M, hMe⟩ : ∃ M, M = (EQ N L lm).length := ⟨_, rfl⟩
  rw [← hMe] at h15 ⊢
  have h36 : σ.1 3 6 = nI M := by rw [hMe]; exact hE.2.1.1
  show WP m_B_drawSteps 0 [.ref 15, .null, .null] [] σ _
  refine wp_iconst (v := 0) d_B_drawSteps_0 (by decide) ?_
  refine wp_istore1 d_B_drawSteps_1 (by decide) rfl ?_
  suffices H : ∀ i, i ≤ M → ∀ (τ : Hp) (x2 : Value), Fp [17] σ τ → (∀ e l, e < i → l < L → τ.1 17 (8 * e + l) = nI (toP N lm (EQ N L lm) e l) ∧ τ.1 17 (8 * e + (L + l)) = nI (ahP N lm (EQ N L lm) e l)) → WP m_B_drawSteps 2 [.ref 15, .int (nI i), x2] [] τ (fun r τ => r = none ∧ Fp [17] σ τ ∧ ∀ e l, e < M → l < L → τ.1 17 (8 * e + l) = nI (toP N lm (EQ N L lm) e l) ∧ τ.1 17 (8 * e + (L + l)) = nI (ahP N lm (EQ N L lm) e l)) from H 0 (Nat.zero_le _) _ _ Fp.rf (fun e l he => absurd he (Nat.not_lt_zero e))
  refine lp_nat (fun i hi ih τ x2 hF hT => ?_)
  have e3 : τ.1 3 6 = nI M := by rw [(hF 3 (by decide)).1]; exact h36
  refine wp_iload_n d_B_drawSteps_2 rfl ?_
  refine wp_aload_n d_B_drawSteps_3 rfl ?_
  refine wp_getA d_B_drawSteps_4 fl_B_58 rfl rfl rfl ?_
  refine wp_getI d_B_drawSteps_7 fl_B_88 rfl rfl (by decide) ?_
  refine wp_icmp_ge (tgt := 82) d_B_drawSteps_10 (by decide) (fun hc => ?_) (fun hc => ?_)
  · rw [e3] at hc
    obtain rfl := Nat.le_antisymm hi (nI_ge2 hc (by omega) (by omega))
    refine wp_vret d_B_drawSteps_82 rfl ?_
    exact ⟨rfl, hF, hT⟩
  · rw [e3] at hc
    have hi2 := nI_nge hc (by omega) (by omega)
    refine wp_iconst (v := 0) d_B_drawSteps_13 (by decide) ?_
    refine wp_istore2 d_B_drawSteps_14 (by decide) rfl ?_
    suffices H : ∀ k, k ≤ L → ∀ (τ : Hp), Fp [17] σ τ → (∀ e l, (e < i ∨ (e = i ∧ l < k)) → l < L → τ.1 17 (8 * e + l) = nI (toP N lm (EQ N L lm) e l) ∧ τ.1 17 (8 * e + (L + l)) = nI (ahP N lm (EQ N L lm) e l)) → WP m_B_drawSteps 15 [.ref 15, .int (nI i), .int (nI k)] [] τ (fun r τ => r = none ∧ Fp [17] σ τ ∧ ∀ e l, e < M → l < L → τ.1 17 (8 * e + l) = nI (toP N lm (EQ N L lm) e l) ∧ τ.1 17 (8 * e + (L + l)) = nI (ahP N lm (EQ N L lm) e l)) from H 0 (Nat.zero_le _) _ hF (fun e l q hl2 => hT e l (by omega) hl2)
    clear hF e3 hT hc τ
    refine lp_nat (fun k hk ih2 τ hF hT => ?_)
    have hIt := hI.mv (hF 1 (by decide)).1
    refine wp_iload_n d_B_drawSteps_15 rfl ?_
    refine wp_aload_n d_B_drawSteps_16 rfl ?_
    refine wp_getA d_B_drawSteps_17 fl_B_54 rfl rfl rfl ?_
    refine wp_getI d_B_drawSteps_20 fl_B_76 rfl rfl (by decide) ?_
    refine wp_icmp_ge (tgt := 76) d_B_drawSteps_23 (by decide) (fun hc2 => ?_) (fun hc2 => ?_)
    · rw [hIt.2.2.2.1] at hc2
      obtain rfl := Nat.le_antisymm hk (nI_ge2 hc2 (by omega) (by omega))
      refine wp_iinc1 d_B_drawSteps_76 (hn_ii1 _) (by decide) rfl ?_
      refine wp_goto (tgt := 2) d_B_drawSteps_79 (by decide) ?_
      rw [nI_1]
      exact ih hi2 _ _ hF (fun e l he hl2 => hT e l (by omega) hl2)
    · rw [hIt.2.2.2.1] at hc2
      have hk2 := nI_nge hc2 (by omega) (by omega)
      have hiQ : i < (EQ N L lm).length := by omega
      obtain ⟨b1, b2⟩ := hE.2.2 i k (Or.inl hiQ) hk2 hiQ
      have r5 : rdA τ 5 6000 (nI i * 4 + nI k) = nI (toP N lm (EQ N L lm) i k) := by
        have e4 : nI i * 4 + nI k = nI (4 * i + k) := by
          show nI i * nI 4 + nI k = _
          rw [pk_mul, nI_add, Nat.mul_comm]
        rw [e4, rdA_in (by omega) (by decide), (hF 5 (by decide)).1]
        exact b1
      have i8 : ∀ j, nI i * 8 + nI j = nI (8 * i + j) := fun j => by
        show nI i * nI 8 + nI j = _
        rw [pk_mul, nI_add, Nat.mul_comm]
      refine wp_aload_n d_B_drawSteps_26 rfl ?_
      refine wp_getA d_B_drawSteps_27 fl_B_12 rfl rfl rfl ?_
      refine wp_iload_n d_B_drawSteps_30 rfl ?_
      refine wp_iload_n d_B_drawSteps_31 rfl ?_
      refine wp_aload_n d_B_drawSteps_32 rfl ?_
      refine wp_getA d_B_drawSteps_33 fl_B_58 rfl rfl rfl ?_
      refine wp_iload_n d_B_drawSteps_36 rfl ?_
      refine wp_iload_n d_B_drawSteps_37 rfl ?_
      refine wp_callV2e d_B_drawSteps_38 cv_B_89 rfl rfl rfl ⟨Nat.le_of_ble_eq_true rfl, Nat.le_of_ble_eq_true rfl⟩ (Nat.le_of_ble_eq_true rfl) (Nat.le_of_ble_eq_true rfl) (c_E_withLetterBehind _ _ _) ?_
      refine wp_callV3v d_B_drawSteps_41 cv_B_93 rfl rfl rfl ⟨Nat.le_of_ble_eq_true rfl, Nat.le_of_ble_eq_true rfl⟩ (Nat.le_of_ble_eq_true rfl) (Nat.le_of_ble_eq_true rfl) (c_T_lead _ _ _ _) ?_
      rw [r5, i8, wrA_in (show 8 * i + k < 12000 by omega) (by decide)]
      generalize hυ : wI τ 17 (8 * i + k) (nI (toP N lm (EQ N L lm) i k)) = υ
      have hFυ : Fp [17] σ υ := by rw [← hυ]; exact hF.wI (by decide)
      have hI := hI.mv (hFυ 1 (by decide)).1
      have ra : lkF υ 7 8 (ahF (rdA υ 2 4 (nI k)) (rdA υ 4 1500 (nI i)) N) = nI (ahP N lm (EQ N L lm) i k) := by
        have el : EL υ N L lm := hE.cg (fun q hq _ _ => (hFυ q (by
          have : ∀ q, q ∈ eC → q ∉ [17] := by decide
          exact this q hq)).1)
        have hlk : υ.1 2 k = nI (mpN N (lm k)) := by
          rw [(hFυ 2 (by decide)).1]
          exact (hL k hk2).1.trans (on_mp h0 h6)
        rw [rdA_in (show k < 4 by omega) (by decide), rdA_in (show i < 1500 by omega) (by decide), hlk, (el.2.1.2.2.1 i hiQ).1, ah_mp h0 h6]
        have hh := EQ_ah h0 (fun l hl => (hL l hl).2) (by omega) hk2 i hiQ
        rcases el.2.1.look h0 h6 (EQ_lt h0) (bN_lt h0 (a := lm k) (b := itm (EQ N L lm) i)) with ⟨-, q, -⟩ | ⟨q, -⟩
        · exact q
        · rw [hh] at q
          cases q
      refine wp_aload_n d_B_drawSteps_44 rfl ?_
      refine wp_getA d_B_drawSteps_45 fl_B_12 rfl rfl rfl ?_
      refine wp_iload_n d_B_drawSteps_48 rfl ?_
      refine wp_aload_n d_B_drawSteps_49 rfl ?_
      refine wp_getA d_B_drawSteps_50 fl_B_54 rfl rfl rfl ?_
      refine wp_getI d_B_drawSteps_53 fl_B_76 rfl rfl (by decide) ?_
      refine wp_iload_n d_B_drawSteps_56 rfl ?_
      refine wp_iadd d_B_drawSteps_57 ?_
      refine wp_aload_n d_B_drawSteps_58 rfl ?_
      refine wp_getA d_B_drawSteps_59 fl_B_58 rfl rfl rfl ?_
      refine wp_iload_n d_B_drawSteps_62 rfl ?_
      refine wp_iload_n d_B_drawSteps_63 rfl ?_
      refine wp_callV2e d_B_drawSteps_64 cv_B_96 rfl rfl rfl ⟨Nat.le_of_ble_eq_true rfl, Nat.le_of_ble_eq_true rfl⟩ (Nat.le_of_ble_eq_true rfl) (Nat.le_of_ble_eq_true rfl) (c_E_withLetterAhead _ _ _ hI) ?_
      refine wp_callV3v d_B_drawSteps_67 cv_B_93 rfl rfl rfl ⟨Nat.le_of_ble_eq_true rfl, Nat.le_of_ble_eq_true rfl⟩ (Nat.le_of_ble_eq_true rfl) (Nat.le_of_ble_eq_true rfl) (c_T_lead _ _ _ _) ?_
      refine wp_iinc2 d_B_drawSteps_70 (hn_ii1 _) (by decide) rfl ?_
      refine wp_goto (tgt := 15) d_B_drawSteps_73 (by decide) ?_
      rw [ra, hI.2.2.2.1, nI_add, i8, wrA_in (show 8 * i + (L + k) < 12000 by omega) (by decide), nI_1]
      refine ih2 hk2 _ (hFυ.wI (by decide)) (fun e l q hl2 => ?_)
      rw [wI_eq, ← hυ, wI_eq]
      by_cases z : e = i ∧ l = k
      · obtain ⟨rfl, rfl⟩ := z
        rw [upd_ne (by omega), upd_eq, upd_eq]
        exact ⟨rfl, rfl⟩
      · have := hT e l (by omega) hl2
        rw [upd_ne (by omega), upd_ne (by omega), upd_ne (by omega), upd_ne (by omega)]
        exact this
/-- the first of a kind's ways -/
def spF (L kind : Nat) : Nat := if kind = 2 then L else 0
/-- what the steps' cells hold of one kind -/
theorem sp_drawn {τ : Hp} {N L kind : Nat} {lm : Nat → Nat} (hk : kind ≤ 2) (h : ∀ e l, e < (EQ N L lm).length → l < L → τ.1 17 (8 * e + l) = nI (toP N lm (EQ N L lm) e l) ∧ τ.1 17 (8 * e + (L + l)) = nI (ahP N lm (EQ N L lm) e l)) : ∀ e l, e < (EQ N L lm).length → l < spN L kind → τ.1 17 (8 * e + (spF L kind + l)) = nI (spP N L lm (EQ N L lm) kind e l) := by
  intro e l he hl
  unfold spN at hl
  unfold spF spP
  rcases (show kind = 0 ∨ kind = 1 ∨ kind = 2 by omega) with rfl | rfl | rfl
  · rw [if_pos rfl] at hl
    rw [if_neg (by decide)]
    rcases Nat.lt_or_ge l L with q | q
    · rw [if_pos (Or.inr ⟨rfl, q⟩), Nat.zero_add]
      exact (h e l he q).1
    · rw [if_neg (by omega), if_neg (by decide)]
      have := (h e (l - L) he (by omega)).2
      rwa [show L + (l - L) = 0 + l by omega] at this
  · rw [if_neg (by decide)] at hl
    rw [if_neg (by decide), if_pos (Or.inl rfl), Nat.zero_add]
    exact (h e l he hl).1
  · rw [if_neg (by decide)] at hl
    rw [if_pos rfl, if_neg (by omega), if_pos rfl]
    exact (h e l he hl).2
