/-! contracts: the class's boxes, made anew -/
theorem NS.nb {σ : Hp} {K M B : Nat} {a b l : Nat → Nat} (h : NS σ K M a b B l) : NB σ K M a b B l := ⟨h.1, h.2.2.1, h.2.2.2.1, h.2.2.2.2⟩
theorem NB.oc {σ τ : Hp} {K K' M B : Nat} {a b l : Nat → Nat} (hM : M ≤ 1500) (hK : K ≠ K') (h : NB σ K M a b B l) (hO : OC K' σ τ) : NB τ K M a b B l := by
  obtain ⟨h1, h2, h3, h4⟩ := h
  have hB := h1.le
  refine ⟨h1, fun e he => ?_, fun j hj => ?_, by rw [hO.2 K hK]; exact h4⟩
  · rw [(hO.1 _ (fun x hx => by omega)).1]; exact h2 e he
  · rw [(hO.1 _ (fun x hx => by omega)).2]; exact h3 j hj
theorem DR.sp {τ : Hp} {N L : Nat} {lm : Nat → Nat} (h : DR τ N L lm) : (∀ e l, e < (EQ N L lm).length → l < 2 * L → τ.1 17 (8 * e + (0 + l)) = nI (spP N L lm (EQ N L lm) 0 e l)) ∧ (∀ e l, e < (EQ N L lm).length → l < L → τ.1 17 (8 * e + (0 + l)) = nI (spP N L lm (EQ N L lm) 1 e l)) ∧ ∀ e l, e < (EQ N L lm).length → l < L → τ.1 17 (8 * e + (L + l)) = nI (spP N L lm (EQ N L lm) 2 e l) :=
  ⟨fun e l he hl => sp_drawn (kind := 0) (by decide) h e l he hl, fun e l he hl => sp_drawn (kind := 1) (by decide) h e l he hl, fun e l he hl => sp_drawn (kind := 2) (by decide) h e l he hl⟩
/-- the steps stay within the list -/
theorem sp_in {N L : Nat} {lm : Nat → Nat} (h0 : 0 < N) (hlm : ∀ l, l < L → lm l < N ^ N) (h15 : (EQ N L lm).length ≤ 1500) {kind e l : Nat} (hk : kind ≤ 2) (he : e < (EQ N L lm).length) (hl : l < spN L kind) : spP N L lm (EQ N L lm) kind e l < (EQ N L lm).length := by
  have hc := EQ_cl h15
  have ht : ∀ l, l < L → toP N lm (EQ N L lm) e l < (EQ N L lm).length := fun l hl => (psN_has (hc e l he hl)).1
  have ha : ∀ l, l < L → ahP N lm (EQ N L lm) e l < (EQ N L lm).length := fun l hl => (psN_has (EQ_ah h0 hlm h15 hl e he)).1
  unfold spN at hl
  unfold spP
  rcases (show kind = 0 ∨ kind = 1 ∨ kind = 2 by omega) with rfl | rfl | rfl
  · rw [if_pos rfl] at hl
    rcases Nat.lt_or_ge l L with q | q
    · rw [if_pos (Or.inr ⟨rfl, q⟩)]
      exact ht l q
    · rw [if_neg (by omega), if_neg (by decide)]
      exact ha (l - L) (by omega)
  · rw [if_neg (by decide)] at hl
    rw [if_pos (Or.inl rfl)]
    exact ht l hl
  · rw [if_neg (by decide)] at hl
    rw [if_neg (by omega), if_pos rfl]
    exact ha l hl
theorem EL.mv' {σ τ : Hp} {N L : Nat} {lm : Nat → Nat} (h : EL σ N L lm) (hF : Fp bS σ τ) : EL τ N L lm := h.cg (fun q hq _ _ => (hF q (by
  have : ∀ q, q ∈ eC → q ∉ bS := by decide
  exact this q hq)).1)
theorem v_B_make {N L : Nat} {lm : Nat → Nat} {Z : Option Value → Hp → Prop} (τ : Hp) (hI : KI τ N L) (hL : LL τ N L lm) (hE : EL τ N L lm) (K : ∀ υ, Fp bS τ υ → υ.1 15 13 = τ.1 1 3 → BV υ N L lm → WP m_B_ready 98 [.ref 15] [] υ Z) : WP m_B_ready 26 [.ref 15] [] τ Z := by
  have h0 : 0 < N := by have := hI.2.1; omega
  have h6 := hI.2.2.1
  have hL4 := hI.2.2.2.2
  have h15 : (EQ N L lm).length ≤ 1500 := hE.2.1.2.1
  have hlm : ∀ l, l < L → lm l < N ^ N := fun l hl => (hL l hl).2
  have si := fun {kind e l : Nat} (hk : kind ≤ 2) (he : e < (EQ N L lm).length) (hl : l < spN L kind) => sp_in h0 hlm h15 hk he hl
  refine wp_aload_n d_B_ready_26 rfl ?_
  refine wp_aload_n d_B_ready_27 rfl ?_
  refine wp_getA d_B_ready_28 fl_B_54 rfl rfl rfl ?_
  refine wp_getI d_B_ready_31 fl_B_68 rfl rfl (by decide) ?_
  refine wp_putI d_B_ready_34 fp_B_50 rfl rfl (by decide) rfl rfl ?_
  refine wp_aload_n d_B_ready_37 rfl ?_
  generalize hτ0 : wI τ 15 13 (τ.1 1 3) = τ0
  have f0 : Fp bS τ τ0 := by rw [← hτ0]; exact Fp.rf.wI (by decide)
  have g0 : ∀ q, q ≠ 15 → τ0.1 q = τ.1 q := fun q hq => by rw [← hτ0, wI_ne hq]
  have s0 : τ0.1 15 13 = τ.1 1 3 := by rw [← hτ0, wI_eq, upd_eq]
  have eC15 : ∀ q, q ∈ eC → q ≠ 15 := by decide
  refine wp_callV0 d_B_ready_38 cv_B_73 rfl rfl rfl ⟨Nat.le_of_ble_eq_true rfl, Nat.le_of_ble_eq_true rfl⟩ (Nat.le_of_ble_eq_true rfl) (Nat.le_of_ble_eq_true rfl) (v_B_drawSteps _ (hI.mv (g0 1 (by decide))) (hL.cg (g0 2 (by decide))) (hE.cg (fun q hq _ _ => g0 q (eC15 q hq)))) (fun v τ1 hv1 => ?_)
  obtain ⟨rfl, f1, hD⟩ := hv1
  have a1 : Fp bS τ τ1 := f0.tr (f1.up (by decide))
  have hD : DR τ1 N L lm := hD
  show WP m_B_ready 41 _ [] τ1 _
  have two : ∀ υ : Hp, Fp bS τ υ → (2 : Int32) * υ.1 1 2 = nI (0 + 2 * L) := fun υ hυ => by
    rw [(hυ 1 (by decide)).1, hI.2.2.2.1, show (2 : Int32) = nI 2 from rfl, pk_mul, Nat.zero_add]
  have three : ∀ υ : Hp, Fp bS τ υ → υ.1 3 6 = nI (EQ N L lm).length := fun υ hυ => by
    rw [(hυ 3 (by decide)).1]; exact hE.2.1.1
  refine wp_aload_n d_B_ready_41 rfl ?_
  refine wp_iconst (v := 0) d_B_ready_42 (by decide) ?_
  refine wp_iconst (v := 0) d_B_ready_43 (by decide) ?_
  refine wp_iconst (v := 2) d_B_ready_44 (by decide) ?_
  refine wp_aload_n d_B_ready_45 rfl ?_
  refine wp_getA d_B_ready_46 fl_B_54 rfl rfl rfl ?_
  refine wp_getI d_B_ready_49 fl_B_76 rfl rfl (by decide) ?_
  refine wp_imul d_B_ready_52 ?_
  rw [two τ1 a1]
  refine wp_callV3 d_B_ready_53 cv_B_78 rfl rfl rfl ⟨Nat.le_of_ble_eq_true rfl, Nat.le_of_ble_eq_true rfl⟩ (Nat.le_of_ble_eq_true rfl) (Nat.le_of_ble_eq_true rfl) (v_B_numberByRoots (K := 0) (F := 0) (T := 2 * L) (fun e l he hl => si (kind := 0) (by decide) he hl) h15 (by omega) (by decide) _ (three τ1 a1) hD.sp.1) (fun v τ2 hv2 => ?_)
  obtain ⟨rfl, f2, o2, b0a, b0, B0, l0, n0, r0⟩ := hv2
  have a2 : Fp bS τ τ2 := a1.tr (f2.up (by decide))
  have hD2 : DR τ2 N L lm := fun e l he hl => by rw [(f2 17 (by decide)).1]; exact hD e l he hl
  show WP m_B_ready 56 _ [] τ2 _
  refine wp_aload_n d_B_ready_56 rfl ?_
  refine wp_iconst (v := 1) d_B_ready_57 (by decide) ?_
  refine wp_iconst (v := 0) d_B_ready_58 (by decide) ?_
  refine wp_aload_n d_B_ready_59 rfl ?_
  refine wp_getA d_B_ready_60 fl_B_54 rfl rfl rfl ?_
  refine wp_getI d_B_ready_63 fl_B_76 rfl rfl (by decide) ?_
  rw [show τ2.1 1 2 = nI (0 + L) by rw [(a2 1 (by decide)).1, hI.2.2.2.1, Nat.zero_add]]
  refine wp_callV3 d_B_ready_66 cv_B_78 rfl rfl rfl ⟨Nat.le_of_ble_eq_true rfl, Nat.le_of_ble_eq_true rfl⟩ (Nat.le_of_ble_eq_true rfl) (Nat.le_of_ble_eq_true rfl) (v_B_numberByRoots (K := 1) (F := 0) (T := L) (fun e l he hl => si (kind := 1) (by decide) he hl) h15 (by omega) (by decide) _ (three τ2 a2) hD2.sp.2.1) (fun v τ3 hv3 => ?_)
  obtain ⟨rfl, f3, o3, b1a, b1, B1, l1, n1, r1⟩ := hv3
  have a3 : Fp bS τ τ3 := a2.tr (f3.up (by decide))
  have hD3 : DR τ3 N L lm := fun e l he hl => by rw [(f3 17 (by decide)).1]; exact hD2 e l he hl
  show WP m_B_ready 69 _ [] τ3 _
  refine wp_aload_n d_B_ready_69 rfl ?_
  refine wp_iconst (v := 2) d_B_ready_70 (by decide) ?_
  refine wp_aload_n d_B_ready_71 rfl ?_
  refine wp_getA d_B_ready_72 fl_B_54 rfl rfl rfl ?_
  refine wp_getI d_B_ready_75 fl_B_76 rfl rfl (by decide) ?_
  refine wp_iconst (v := 2) d_B_ready_78 (by decide) ?_
  refine wp_aload_n d_B_ready_79 rfl ?_
  refine wp_getA d_B_ready_80 fl_B_54 rfl rfl rfl ?_
  refine wp_getI d_B_ready_83 fl_B_76 rfl rfl (by decide) ?_
  refine wp_imul d_B_ready_86 ?_
  rw [two τ3 a3, show nI (0 + 2 * L) = nI (L + L) by congr 1; omega, show τ3.1 1 2 = nI L by rw [(a3 1 (by decide)).1, hI.2.2.2.1]]
  refine wp_callV3 d_B_ready_87 cv_B_78 rfl rfl rfl ⟨Nat.le_of_ble_eq_true rfl, Nat.le_of_ble_eq_true rfl⟩ (Nat.le_of_ble_eq_true rfl) (Nat.le_of_ble_eq_true rfl) (v_B_numberByRoots (K := 2) (F := L) (T := L) (fun e l he hl => si (kind := 2) (by decide) he hl) h15 (by omega) (by decide) _ (three τ3 a3) hD3.sp.2.2) (fun v τ4 hv4 => ?_)
  obtain ⟨rfl, f4, o4, b2a, b2, B2, l2, n2, r2⟩ := hv4
  have a4 : Fp bS τ τ4 := a3.tr (f4.up (by decide))
  have hD4 : DR τ4 N L lm := fun e l he hl => by rw [(f4 17 (by decide)).1]; exact hD3 e l he hl
  show WP m_B_ready 90 _ [] τ4 _
  have m0 := ((n0.nb.oc h15 (by decide) o3).oc h15 (by decide) o4)
  have m1 := (n1.nb.oc h15 (by decide) o4)
  have m2 := n2.nb
  have lt : ∀ {K' : Nat} {a b l : Nat → Nat} {B : Nat}, NB τ4 K' (EQ N L lm).length a b B l → ∀ e, e < (EQ N L lm).length → b e < 1500 := fun h e he => by
    have := h.1.1 e he
    have := h.1.le
    omega
  refine wp_aload_n d_B_ready_90 rfl ?_
  refine wp_callV0 d_B_ready_91 cv_B_82 rfl rfl rfl ⟨Nat.le_of_ble_eq_true rfl, Nat.le_of_ble_eq_true rfl⟩ (Nat.le_of_ble_eq_true rfl) (Nat.le_of_ble_eq_true rfl) (v_B_numberCells h15 _ (three τ4 a4) (fun e he => ⟨m1.2.1 e he, lt m1 e he⟩) (fun e he => ⟨m2.2.1 e he, lt m2 e he⟩)) (fun v τ5 hv5 => ?_)
  obtain ⟨rfl, f5, o5, b3, B3, l3, n3⟩ := hv5
  have a5 : Fp bS τ τ5 := a4.tr (f5.up (by decide))
  have hD5 : DR τ5 N L lm := fun e l he hl => by rw [(f5 17 (by decide)).1]; exact hD4 e l he hl
  show WP m_B_ready 94 _ [] τ5 _
  have q0 := m0.oc h15 (by decide) o5
  have q1 := m1.oc h15 (by decide) o5
  have q2 := m2.oc h15 (by decide) o5
  have q3 := n3.nb
  refine wp_aload_n d_B_ready_94 rfl ?_
  refine wp_callV0 d_B_ready_95 cv_B_85 rfl rfl rfl ⟨Nat.le_of_ble_eq_true rfl, Nat.le_of_ble_eq_true rfl⟩ (Nat.le_of_ble_eq_true rfl) (Nat.le_of_ble_eq_true rfl) (v_B_sumUp (L := L) (N := N) (b := b0) (st := fun e => stN N (itm (EQ N L lm) e)) (sp := spP N L lm (EQ N L lm) 0) h15 _ (hI.mv (a5 1 (by decide)).1) (three τ5 a5) (fun e he => ⟨q0.2.1 e he, lt m0 e he⟩) (fun e l he hl => ⟨by have := hD5.sp.1 e l he hl; rwa [Nat.zero_add] at this, si (kind := 0) (by decide) he hl⟩) (fun e he => by rw [(a5 4 (by decide)).1, (hE.2.1.2.2.1 e he).1, ah_mp h0 h6, mp_eq h0 h6 (bN_lt h0) (EQ_lt h0 e he), stN, decide_eq_true_iff])) (fun v τ6 hv6 => ?_)
  obtain ⟨rfl, f6, hU⟩ := hv6
  have a6 : Fp bS τ τ6 := a5.tr (f6.up (by decide))
  have c6 : ∀ q, q ≠ 30 → q ≠ 31 → q ≠ 32 → τ6.1 q = τ5.1 q := fun q h1 h2 h3 => (f6 q (by simp; exact ⟨h1, h2, h3⟩)).1
  have e27 := c6 27 (by decide) (by decide) (by decide)
  have e28 := c6 28 (by decide) (by decide) (by decide)
  have e29 := c6 29 (by decide) (by decide) (by decide)
  have s6 : τ6.1 15 13 = τ.1 1 3 := by
    rw [c6 15 (by decide) (by decide) (by decide), (f5 15 (by decide)).1, (f4 15 (by decide)).1, (f3 15 (by decide)).1, (f2 15 (by decide)).1, (f1 15 (by decide)).1]
    exact s0
  refine K τ6 a6 s6 ⟨fun e l he hl => by rw [c6 17 (by decide) (by decide) (by decide)]; exact hD5 e l he hl, fun k => if k = 0 then b0a else if k = 1 then b1a else if k = 2 then b2a else (fun e => 1500 * b1 e + b2 e), fun k => if k = 0 then b0 else if k = 1 then b1 else if k = 2 then b2 else b3, fun k => if k = 0 then B0 else if k = 1 then B1 else if k = 2 then B2 else B3, fun k => if k = 0 then l0 else if k = 1 then l1 else if k = 2 then l2 else l3, fun k hk => ?_, fun k hk e e' he he' => ?_, fun e e' he he' => ?_, hU⟩
  · rcases (show k = 0 ∨ k = 1 ∨ k = 2 ∨ k = 3 by omega) with rfl | rfl | rfl | rfl
    · exact q0.mv e27 e28 e29
    · exact q1.mv e27 e28 e29
    · exact q2.mv e27 e28 e29
    · exact q3.mv e27 e28 e29
  · rcases (show k = 0 ∨ k = 1 ∨ k = 2 by omega) with rfl | rfl | rfl
    · exact (n0.1.2.2.2 e e' he he').trans (r0 e e' he he')
    · exact (n1.1.2.2.2 e e' he he').trans (r1 e e' he he')
    · exact (n2.1.2.2.2 e e' he he').trans (r2 e e' he he')
  · refine (n3.1.2.2.2 e e' he he').trans ?_
    have t1 := lt m2 e he
    have t2 := lt m2 e' he'
    show 1500 * b1 e + b2 e = 1500 * b1 e' + b2 e' ↔ b1 e = b1 e' ∧ b2 e = b2 e'
    omega
/-- ready: too many, or elements and boxes stand -/
theorem v_B_ready {N L M : Nat} {lm : Nat → Nat} (σ : Hp) (hI : KI σ N L) (hL : LL σ N L lm) (hM : EM σ M) : Ct m_B_ready [.ref 15] σ (fun w τ => Fp rS σ τ ∧ (∃ M', EM τ M') ∧ ((w = some (.int 0) ∧ ES τ N L lm) ∨ (w = some (.int 1) ∧ ∃ lm', (∀ k, k < L → lm k = lm' k) ∧ EL τ N L lm' ∧ BV τ N L lm'))) := by
  show WP m_B_ready 0 [.ref 15] [] σ _
  refine wp_aload_n d_B_ready_0 rfl ?_
  refine wp_getA d_B_ready_1 fl_B_58 rfl rfl rfl ?_
  refine wp_callV0 d_B_ready_4 cv_B_62 rfl rfl rfl ⟨Nat.le_of_ble_eq_true rfl, Nat.le_of_ble_eq_true rfl⟩ (Nat.le_of_ble_eq_true rfl) (Nat.le_of_ble_eq_true rfl) (c_E_ready0 _ hI hL hM) (fun v τ hv => ?_)
  obtain ⟨⟨hF, ⟨M', hM'⟩, hv⟩, h38⟩ := hv
  have hI' := hF.KI (by decide) hI
  have hL' : LL τ N L lm := hL.cg (hF 2 (by decide)).1
  have hFr : Fp rS σ τ := hF.up (by decide)
  rcases hv with ⟨rfl, hE⟩ | ⟨rfl, hE⟩
  · show WP m_B_ready 7 _ [.int 0] τ _
    refine wp_if_ne (tgt := 12) d_B_ready_7 (by decide) (fun hc => absurd rfl hc) (fun hc => ?_)
    refine wp_iconst (v := 0) d_B_ready_10 (by decide) ?_
    refine wp_zret d_B_ready_11 rfl ?_ ?_
    · decide
    · exact ⟨hFr, ⟨M', hM'⟩, Or.inl ⟨rfl, hE⟩⟩
  · show WP m_B_ready 7 _ [.int 1] τ _
    refine wp_if_ne (tgt := 12) d_B_ready_7 (by decide) (fun hc => ?_) (fun hc => absurd hc (by decide))
    obtain ⟨N', L', lm', c, k1, k2, k3, k4, k5⟩ := hM'.ca
    obtain ⟨rfl, rfl⟩ := hI'.un k1
    have h0 : 0 < N := by have := hI.2.1; omega
    have un := hL'.un h0 hI.2.2.1 k2
    have un' := k2.un h0 hI.2.2.1 hL'
    have nold : ∀ x : Int32, Old c x → x ≠ nI c := fun x hx e => by
      rcases hx with q | ⟨d, hd, q⟩
      · rw [q] at e
        have := nI_pos (show c < 2 ^ 31 by omega)
        rw [← e] at this
        exact this (by decide)
      · rw [q] at e
        have := (nI_eq (by omega) (by omega)).mp e
        omega
    refine wp_aload_n d_B_ready_12 rfl ?_
    refine wp_getI d_B_ready_13 fl_B_50 rfl rfl (by decide) ?_
    refine wp_aload_n d_B_ready_16 rfl ?_
    refine wp_getA d_B_ready_17 fl_B_54 rfl rfl rfl ?_
    refine wp_getI d_B_ready_20 fl_B_68 rfl rfl (by decide) ?_
    refine wp_icmp_eq (tgt := 98) d_B_ready_23 (by decide) (fun hc2 => ?_) (fun hc2 => ?_)
    · have e13 : τ.1 15 13 = nI c := hc2.trans k4
      have hb : EL τ N L lm' ∧ BV τ N L lm' := by
        rcases k5 with ⟨-, q⟩ | ⟨-, ⟨-, q⟩ | ⟨q1, q | ⟨-, q⟩⟩⟩
        · exact absurd e13 (nold _ q)
        · exact absurd e13 (nold _ q)
        · exact absurd e13 (nold _ q)
        · exact ⟨q1, q⟩
      refine wp_iconst (v := 1) d_B_ready_98 (by decide) ?_
      refine wp_zret d_B_ready_99 rfl ?_ ?_
      · decide
      · exact ⟨hFr, ⟨M', hM'⟩, Or.inr ⟨rfl, lm', un, hb⟩⟩
    · refine v_B_make τ hI' hL' hE (fun υ hFυ h13 hBV => ?_)
      have hEυ : EL υ N L lm := hE.mv' hFυ
      have hEM : EM υ (EQ N L lm).length := by
        have e1 : υ.1 1 = τ.1 1 := (hFυ 1 (by decide)).1
        have e3 : υ.1 3 = τ.1 3 := (hFυ 3 (by decide)).1
        have e8 : τ.1 3 8 = nI c := h38.trans k4
        exact ⟨hEυ.2.1.1, hEυ.2.1.2.1, N, L, lm, c, hI'.mv e1, hL'.cg (hFυ 2 (by decide)).1, k3, by rw [e1]; exact k4, Or.inr ⟨by rw [e3]; exact e8, Or.inr ⟨hEυ, Or.inr ⟨h13.trans k4, hBV⟩⟩⟩⟩
      refine wp_iconst (v := 1) d_B_ready_98 (by decide) ?_
      refine wp_zret d_B_ready_99 rfl ?_ ?_
      · decide
      · exact ⟨hFr.tr (hFυ.up (by decide)), ⟨_, hEM⟩, Or.inr ⟨rfl, lm, fun _ _ => rfl, hEυ, hBV⟩⟩
theorem w_B_ready {N L M : Nat} (σ : Hp) (hI : KI σ N L) (hM : EM σ M) : Ct m_B_ready [.ref 15] σ (fun w τ => (w = some (.int 0) ∨ w = some (.int 1)) ∧ Fp rS σ τ ∧ ∃ M', EM τ M') := by
  obtain ⟨N', L', lm, c, g1, g2, -⟩ := hM.ca
  obtain ⟨rfl, rfl⟩ := hI.un g1
  exact (v_B_ready σ hI g2 hM).mono (fun w τ ⟨a, b, d⟩ => ⟨d.imp (fun z => z.1) (fun z => z.1), a, b⟩)
