/-! together, lowest, parting: the class's answers -/
/-- the answer is so, and letters, start, ends, kinds of walks stay -/
def Rw (σ : Hp) (F : Int32 → Prop) : Option Value → Hp → Prop := fun w τ => (∃ z : Int32, w = some (.int z) ∧ F z) ∧ Fp (36 :: 42 :: pS) σ τ ∧ (τ.1 36 1 = σ.1 36 1 ∧ τ.1 42 1 = σ.1 42 1) ∧ ∃ M, EM τ M
theorem Rw.yx {σ : Hp} {a : Sx} {F G : Int32 → Prop} {w : Option Value} {τ : Hp} (h : XS σ a) (hr : Rw σ F w τ) (k : ∀ z, F z → G z) : YX σ a G w τ := by
  obtain ⟨⟨z, hz, hf⟩, hF, hfl, M, hM⟩ := hr
  exact ⟨⟨z, hz, k z hf⟩, h.fp hF hM (by decide) (by decide) (by decide) hfl.1 hfl.2, XF.of hF (by decide)⟩
theorem upW {S : List Nat} (h : (S.all fun q => decide (q ∈ 36 :: 42 :: pS)) = true) : ∀ q, q ∈ S → q ∈ 36 :: 42 :: pS := fun q hq => of_decide_eq_true (List.all_eq_true.mp h q hq)
theorem cdS {N : Nat} (h6 : N ≤ 6) : CdH (2 ^ N) (fun x => x) := ⟨pow2_le6 h6, fun x hx => Nat.lt_of_lt_of_le hx (pow2_le6 h6), fun x y _ _ e => e⟩
/-- pairs: 6 a + b is told as 8 a + b -/
def cdP (x : Nat) : Nat := 8 * (x / 6) + x % 6
theorem cdPH : CdH 36 cdP := ⟨by decide, fun x hx => by unfold cdP; omega, fun x y hx hy e => by unfold cdP at e; omega⟩
theorem stS_ok {σ : Hp} {N L : Nat} {lm : Nat → Nat} {s e : Nat} (h : XS σ (N, L, lm, s, e)) : ∀ k x, k < L → x < 2 ^ N → stS N lm k x < 2 ^ N ∧ (if σ.1 36 1 = 0 then osF (σ.1 2 k) (nI x) else opF (σ.1 2 k) (nI x)) = nI (stS N lm k x) := fun k x hk hx => by
  have h0 : 0 < N := by have := h.1.2.1; omega
  obtain ⟨M, -, f1, -⟩ := h.2.2.2.2
  refine ⟨stS_lt h0 k x, ?_⟩
  rw [if_pos f1, h.lt hk]
  exact osF_Oc h0 h.1.2.2.1 hx
theorem opF_any {N a b : Nat} {f : Nat → Nat} (h6 : N ≤ 6) (hf : D8 N f) (ha : a ≤ 7) (hb : b ≤ 7) : opF (Oc N f) (nI (8 * a + b)) = nI (8 * (if a < N then f a else 0) + (if b < N then f b else 0)) := by
  have e1 : nI (8 * a + b) >>> ((3 : Int32) &&& 31) = nI a := by
    rw [pk_shrN (by omega) _ 3 (by decide)]
    congr 1
    omega
  have e2 : nI (8 * a + b) &&& 7 = nI b := by
    rw [pk_andN (by omega) 3 (by decide)]
    congr 1
    omega
  rw [opF, e1, e2, gF_Oc h6 hf (by omega), gF_Oc h6 hf (by omega), pr_nI]
theorem gN_out {N m p : Nat} (hm : m < N ^ N) (hp : N ≤ p) (h0 : 0 < N) : gN N m p = 0 := by
  rw [gN, Nat.div_eq_of_lt (Nat.lt_of_lt_of_le hm (Nat.pow_le_pow_right h0 hp)), Nat.zero_mod]
theorem stP_ok {σ : Hp} {N L : Nat} {lm : Nat → Nat} {s e : Nat} (h : XS σ (N, L, lm, s, e)) : ∀ k x, k < L → x < 36 → stP N lm k x < 36 ∧ (if σ.1 42 1 = 0 then osF (σ.1 2 k) (nI (cdP x)) else opF (σ.1 2 k) (nI (cdP x))) = nI (cdP (stP N lm k x)) := fun k x hk hx => by
  have h0 : 0 < N := by have := h.1.2.1; omega
  have h6 := h.1.2.2.1
  obtain ⟨M, -, -, f2⟩ := h.2.2.2.2
  have g1 := gN_lt (N := N) (m := lm k) (i := x / 6) h0
  have g2 := gN_lt (N := N) (m := lm k) (i := x % 6) h0
  have e1 : stP N lm k x / 6 = gN N (lm k) (x / 6) := by unfold stP; omega
  have e2 : stP N lm k x % 6 = gN N (lm k) (x % 6) := by unfold stP; omega
  have z : ∀ p, (if p < N then gN N (lm k) p else 0) = gN N (lm k) p := fun p => by
    by_cases q : p < N
    · rw [if_pos q]
    · rw [if_neg q, gN_out (h.2.1 k hk).2 (by omega) h0]
  refine ⟨stP_lt h0 h6 k x, ?_⟩
  rw [if_neg (by rw [f2]; decide), h.lt hk, cdP, opF_any h6 (gN8 h0 h6) (by omega) (by omega), z, z, cdP, e1, e2]
theorem sg_bl {N : Nat} (h6 : N ≤ 6) {x : Nat} (hx : x < 64) : ∀ K, K ≤ N → (bl (it (fun k m => stL m (1 <<< (nI k &&& 31))) K 0) x = true ↔ ∃ k, k < K ∧ x = 2 ^ k)
  | 0, _ => ⟨(fun z => by
      have z : bl 0 x = true := z
      rw [bl_0] at z
      cases z), fun ⟨a, ha, _⟩ => absurd ha (Nat.not_lt_zero a)⟩
  | K + 1, hK => by
    have ih := sg_bl h6 hx K (by omega)
    have hk : 2 ^ K ≤ 32 := Nat.pow_le_pow_right (n := 2) (by decide) (show K ≤ 5 by omega)
    show bl (stL (it (fun k m => stL m (1 <<< (nI k &&& 31))) K 0) (1 <<< (nI K &&& 31))) x = true ↔ _
    rw [sh_nI (by omega), bl_stL (by omega) hx, Bool.or_eq_true, decide_eq_true_eq, ih]
    constructor
    · rintro (⟨a, ha, z⟩ | z)
      · exact ⟨a, by omega, z⟩
      · exact ⟨K, by omega, z.symm⟩
    · rintro ⟨a, ha, z⟩
      rcases Nat.lt_or_ge a K with q | q
      · exact Or.inl ⟨a, q, z⟩
      · exact Or.inr (by rw [z, show a = K by omega])
theorem sg_pc {N x : Nat} (h6 : N ≤ 6) (hx : x < 2 ^ N) : bl (sgF N) x = true ↔ pcN x = 1 := by
  have h26 := pow2_le6 h6
  have key : ∀ N, N < 7 → ∀ x, x < 2 ^ N → ((∃ k, k < N ∧ x = 2 ^ k) ↔ pcN x = 1) := by decide +kernel
  exact (sg_bl h6 (by omega) N (Nat.le_refl _)).trans (key N (by omega) x hx)
theorem xv_together (t i : Int32) {σ : Hp} {a : Sx} (h : XS σ a) : Ct m_P_together [.ref 0, .int t, .int i] σ (YX σ a (aeTo t i a)) := by
  obtain ⟨N, L, lm, s, e⟩ := a
  obtain ⟨M, hM, hf1, hf2⟩ := h.2.2.2.2
  have hI := h.1
  have h0 : 0 < N := by have := h.1.2.1; omega
  have h6 := h.1.2.2.1
  have h26 := pow2_le6 h6
  refine Ct.im (Q := Rw σ (aeTo t i (N, L, lm, s, e))) ?_ (fun w τ hr => hr.yx h (fun z hz => hz))
  show WP m_P_together 0 [.ref 0, .int t, .int i] [] σ _
  have bad : (¬ (1 ≤ t ∧ t ≤ nI (2 ^ N - 1)) ∨ ¬ -1 ≤ i) → WP m_P_together 20 [.ref 0, .int t, .int i] [] σ (Rw σ (aeTo t i (N, L, lm, s, e))) := by
    intro hb
    refine wp_iconst (v := -1) d_P_together_20 (by decide) ?_
    refine wp_iret d_P_together_21 rfl ?_
    exact ⟨⟨_, rfl, Or.inr ⟨hb, rfl⟩⟩, Fp.rf, ⟨rfl, rfl⟩, M, hM⟩
  refine wp_iload_n d_P_together_0 rfl ?_
  refine wp_iconst (v := 1) d_P_together_1 (by decide) ?_
  refine wp_aload_n d_P_together_2 rfl ?_
  refine wp_getA d_P_together_3 fl_P_10 rfl rfl rfl ?_
  refine wp_callV0e d_P_together_6 cv_P_174 rfl rfl rfl ⟨Nat.le_of_ble_eq_true rfl, Nat.le_of_ble_eq_true rfl⟩ (Nat.le_of_ble_eq_true rfl) (Nat.le_of_ble_eq_true rfl) (c_L_wholeSet _ hI) ?_
  refine wp_callS3e d_P_together_9 cs_P_62 ⟨Nat.le_of_ble_eq_true rfl, Nat.le_of_ble_eq_true rfl⟩ (Nat.le_of_ble_eq_true rfl) (Nat.le_of_ble_eq_true rfl) (c_P_within _ _ _ _) ?_
  refine wp_if_eq (tgt := 20) d_P_together_12 (by decide) (fun hc => ?_) (fun hc => ?_)
  · exact bad (Or.inl (bz_0.mp hc))
  · obtain ⟨S, hS0, hS, rfl⟩ := set_nI h6 (bz_n0 hc)
    refine wp_iload_n d_P_together_15 rfl ?_
    refine wp_iconst (v := -1) d_P_together_16 (by decide) ?_
    refine wp_icmp_ge (tgt := 22) d_P_together_17 (by decide) (fun hc2 => ?_) (fun hc2 => ?_)
    · refine wp_aload_n d_P_together_22 rfl ?_
      refine wp_getA d_P_together_23 fl_P_46 rfl rfl rfl ?_
      refine wp_iload_n d_P_together_26 rfl ?_
      refine wp_callV1 d_P_together_27 cv_P_177 rfl rfl rfl ⟨Nat.le_of_ble_eq_true rfl, Nat.le_of_ble_eq_true rfl⟩ (Nat.le_of_ble_eq_true rfl) (Nat.le_of_ble_eq_true rfl) (c_K_walkFrom (cd := fun x => x) (st := stS N lm) (B := 2 ^ N) (s := S) kwK_36 (by decide) (cdS h6) hS _ hI (stS_ok h)) (fun v τ hv => ?_)
      obtain ⟨rfl, hF, hfl, hK⟩ := hv
      have eQ : bfQ (stS N lm) L S 64 = QS N L lm S := by rw [QS, nx64_eq]
      rw [eQ] at hK
      have hB := QS_BI (N := N) (L := L) (lm := lm) (S := S)
      have hlt := QS_lt (L := L) (lm := lm) h0 hS
      have hlen := QS_len (L := L) (lm := lm) h0 h6 hS
      show WP m_P_together 30 _ [] τ _
      refine wp_aload_n d_P_together_30 rfl ?_
      refine wp_getA d_P_together_31 fl_P_46 rfl rfl rfl ?_
      refine wp_aload_n d_P_together_34 rfl ?_
      refine wp_getA d_P_together_35 fl_P_37 rfl rfl rfl ?_
      refine wp_callV0e d_P_together_38 cv_P_180 rfl rfl rfl ⟨Nat.le_of_ble_eq_true rfl, Nat.le_of_ble_eq_true rfl⟩ (Nat.le_of_ble_eq_true rfl) (Nat.le_of_ble_eq_true rfl) (c_S_singles _ (hF.KI (by decide) hI)) ?_
      refine wp_iload_n d_P_together_41 rfl ?_
      refine wp_callV2e d_P_together_42 cv_P_184 rfl rfl rfl ⟨Nat.le_of_ble_eq_true rfl, Nat.le_of_ble_eq_true rfl⟩ (Nat.le_of_ble_eq_true rfl) (Nat.le_of_ble_eq_true rfl) (c_K_wordTo kwK_36 _ _ _ hK.1 (by omega)) ?_
      refine wp_iret d_P_together_45 rfl ?_
      refine ⟨⟨_, rfl, Or.inl ⟨S, hS0, hS, rfl, hc2, ?_⟩⟩, hF.up (upW (by decide)), ⟨hfl, by rw [(hF 42 (by decide)).1]⟩, M, hF.EM (by decide) hM⟩
      exact wt_fw hlen (fun j hj => by have := hlt j hj; omega) hB hK (fun j hj => by
        have hx := hlt j hj
        rw [bL_bl (by omega)]
        exact sg_pc h6 hx) hc2
    · exact bad (Or.inr hc2)
theorem un_together {t i z z' : Int32} {σ : Hp} {a : Sx} (hX : XS σ a) (h : aeTo t i a z) (h' : aeTo t i a z') : z = z' := by
  obtain ⟨N, L, lm, s, e⟩ := a
  have h6 := hX.1.2.2.1
  have h26 := pow2_le6 h6
  have ok : ∀ S, 0 < S → S < 2 ^ N → 1 ≤ nI S ∧ nI S ≤ nI (2 ^ N - 1) := fun S h0 hS => ⟨nI_le (a := 1) (b := S) (by omega) (by omega), nI_le (by omega) (by omega)⟩
  rcases h with ⟨S, h0, hS, rfl, hi, rfl⟩ | ⟨h, rfl⟩ <;> rcases h' with ⟨S', h0', hS', e', hi', rfl⟩ | ⟨h', rfl⟩
  · rw [nI_eq (by omega) (by omega)] at e'
    rw [e']
  · exact absurd h' (fun q => q.elim (fun q => q (ok S h0 hS)) (fun q => q hi))
  · rw [e'] at h
    exact absurd h (fun q => q.elim (fun q => q (ok S' h0' hS')) (fun q => q hi'))
  · rfl
theorem xv_lowest (t : Int32) {σ : Hp} {a : Sx} (h : XS σ a) : Ct m_P_lowest [.ref 0, .int t] σ (YX σ a (fun _ => True)) := by
  obtain ⟨N, L, lm, s, e⟩ := a
  obtain ⟨M, hM, hf1, hf2⟩ := h.2.2.2.2
  have hI := h.1
  have h0 : 0 < N := by have := h.1.2.1; omega
  have h6 := h.1.2.2.1
  have h26 := pow2_le6 h6
  refine Ct.im (Q := Rw σ (fun _ => True)) ?_ (fun w τ hr => hr.yx h (fun z hz => hz))
  show WP m_P_lowest 0 [.ref 0, .int t] [] σ _
  refine wp_iload_n d_P_lowest_0 rfl ?_
  refine wp_iconst (v := 0) d_P_lowest_1 (by decide) ?_
  refine wp_aload_n d_P_lowest_2 rfl ?_
  refine wp_getA d_P_lowest_3 fl_P_10 rfl rfl rfl ?_
  refine wp_callV0e d_P_lowest_6 cv_P_174 rfl rfl rfl ⟨Nat.le_of_ble_eq_true rfl, Nat.le_of_ble_eq_true rfl⟩ (Nat.le_of_ble_eq_true rfl) (Nat.le_of_ble_eq_true rfl) (c_L_wholeSet _ hI) ?_
  refine wp_callS3e d_P_lowest_9 cs_P_62 ⟨Nat.le_of_ble_eq_true rfl, Nat.le_of_ble_eq_true rfl⟩ (Nat.le_of_ble_eq_true rfl) (Nat.le_of_ble_eq_true rfl) (c_P_within _ _ _ _) ?_
  refine wp_if_ne (tgt := 17) d_P_lowest_12 (by decide) (fun hc => ?_) (fun hc => ?_)
  · obtain ⟨S, hS, rfl⟩ := wi_nI (w := t) (m := 2 ^ N - 1) (by omega) (bz_n0 hc)
    have hS : S < 2 ^ N := by have := Nat.pow_pos (n := N) (show 0 < 2 by decide); omega
    refine wp_aload_n d_P_lowest_17 rfl ?_
    refine wp_getA d_P_lowest_18 fl_P_46 rfl rfl rfl ?_
    refine wp_iload_n d_P_lowest_21 rfl ?_
    refine wp_callV1 d_P_lowest_22 cv_P_177 rfl rfl rfl ⟨Nat.le_of_ble_eq_true rfl, Nat.le_of_ble_eq_true rfl⟩ (Nat.le_of_ble_eq_true rfl) (Nat.le_of_ble_eq_true rfl) (c_K_walkFrom (cd := fun x => x) (st := stS N lm) (B := 2 ^ N) (s := S) kwK_36 (by decide) (cdS h6) hS _ hI (stS_ok h)) (fun v τ hv => ?_)
    obtain ⟨rfl, hF, hfl, hK⟩ := hv
    have eQ : bfQ (stS N lm) L S 64 = QS N L lm S := by rw [QS, nx64_eq]
    rw [eQ] at hK
    have hlen := QS_len (L := L) (lm := lm) h0 h6 hS
    show WP m_P_lowest 25 _ [] τ _
    refine wp_aload_n d_P_lowest_25 rfl ?_
    refine wp_getA d_P_lowest_26 fl_P_46 rfl rfl rfl ?_
    refine wp_callV0e d_P_lowest_29 cv_P_188 rfl rfl rfl ⟨Nat.le_of_ble_eq_true rfl, Nat.le_of_ble_eq_true rfl⟩ (Nat.le_of_ble_eq_true rfl) (Nat.le_of_ble_eq_true rfl) (c_K_fewestBits kwK_36 _ hK.1 (by omega)) ?_
    refine wp_iret d_P_lowest_32 rfl ?_
    exact ⟨⟨_, rfl, trivial⟩, hF.up (upW (by decide)), ⟨hfl, by rw [(hF 42 (by decide)).1]⟩, M, hF.EM (by decide) hM⟩
  · refine wp_iconst (v := -1) d_P_lowest_15 (by decide) ?_
    refine wp_iret d_P_lowest_16 rfl ?_
    exact ⟨⟨_, rfl, trivial⟩, Fp.rf, ⟨rfl, rfl⟩, M, hM⟩
theorem QP_in {N L p q : Nat} {lm : Nat → Nat} (h0 : 0 < N) (h6 : N ≤ 6) (hp : p < N) (hq : q < N) : ∀ j, j < (QP N L lm (6 * p + q)).length → itm (QP N L lm (6 * p + q)) j / 6 < N ∧ itm (QP N L lm (6 * p + q)) j % 6 < N := fun j hj => by
  have hB : BI (stP N lm) L (6 * p + q) (QP N L lm (6 * p + q)) := BI.Q _
  rcases Nat.eq_zero_or_pos j with rfl | z
  · rw [hB.2.1.1]
    omega
  · rw [(hB.2.2.2 j z hj).2.2]
    have g1 := gN_lt (N := N) (m := lm (ltr (QP N L lm (6 * p + q)) j)) (i := itm (QP N L lm (6 * p + q)) (par (QP N L lm (6 * p + q)) j) / 6) h0
    have g2 := gN_lt (N := N) (m := lm (ltr (QP N L lm (6 * p + q)) j)) (i := itm (QP N L lm (6 * p + q)) (par (QP N L lm (6 * p + q)) j) % 6) h0
    unfold stP
    omega
theorem ue_pt {e N x : Nat} (h6 : N ≤ 6) (he : e < 2 ^ N) (h1 : x / 6 < N) (h2 : x % 6 < N) : bl (ueF (nI e) N) (cdP x) = true ↔ ptB e x = true := by
  unfold cdP ptB
  rw [ue_bl h6 he (by omega), Bool.not_eq_true', decide_eq_false_iff_not]
  constructor
  · rintro ⟨a, b, ha, hb, e1, z⟩
    obtain rfl : x / 6 = a := by omega
    obtain rfl : x % 6 = b := by omega
    exact z
  · exact fun z => ⟨_, _, h1, h2, rfl, z⟩
theorem xv_parting (x y i : Int32) {σ : Hp} {a : Sx} (h : XS σ a) : Ct m_P_parting [.ref 0, .int x, .int y, .int i] σ (YX σ a (aePa x y i a)) := by
  obtain ⟨N, L, lm, s, e⟩ := a
  obtain ⟨M, hM, hf1, hf2⟩ := h.2.2.2.2
  have hI := h.1
  have h0 : 0 < N := by have := h.1.2.1; omega
  have h6 := h.1.2.2.1
  refine Ct.im (Q := Rw σ (aePa x y i (N, L, lm, s, e))) ?_ (fun w τ hr => hr.yx h (fun z hz => hz))
  show WP m_P_parting 0 [.ref 0, .int x, .int y, .int i] [] σ _
  have bad : (¬ (0 ≤ x ∧ x ≤ nI (N - 1)) ∨ ¬ (0 ≤ y ∧ y ≤ nI (N - 1)) ∨ ¬ -1 ≤ i) → WP m_P_parting 27 [.ref 0, .int x, .int y, .int i] [] σ (Rw σ (aePa x y i (N, L, lm, s, e))) := by
    intro hb
    refine wp_iconst (v := -1) d_P_parting_27 (by decide) ?_
    refine wp_iret d_P_parting_28 rfl ?_
    exact ⟨⟨_, rfl, Or.inr ⟨hb, rfl⟩⟩, Fp.rf, ⟨rfl, rfl⟩, M, hM⟩
  refine wp_aload_n d_P_parting_0 rfl ?_
  refine wp_getA d_P_parting_1 fl_P_10 rfl rfl rfl ?_
  refine wp_iload_n d_P_parting_4 rfl ?_
  refine wp_callV1e d_P_parting_5 cv_P_194 rfl rfl rfl ⟨Nat.le_of_ble_eq_true rfl, Nat.le_of_ble_eq_true rfl⟩ (Nat.le_of_ble_eq_true rfl) (Nat.le_of_ble_eq_true rfl) (c_L_hasPoint _ _ hI) ?_
  refine wp_if_eq (tgt := 27) d_P_parting_8 (by decide) (fun hc => ?_) (fun hc => ?_)
  · exact bad (Or.inl (bz_0.mp hc))
  · refine wp_aload_n d_P_parting_11 rfl ?_
    refine wp_getA d_P_parting_12 fl_P_10 rfl rfl rfl ?_
    refine wp_iload_n d_P_parting_15 rfl ?_
    refine wp_callV1e d_P_parting_16 cv_P_194 rfl rfl rfl ⟨Nat.le_of_ble_eq_true rfl, Nat.le_of_ble_eq_true rfl⟩ (Nat.le_of_ble_eq_true rfl) (Nat.le_of_ble_eq_true rfl) (c_L_hasPoint _ _ hI) ?_
    refine wp_if_eq (tgt := 27) d_P_parting_19 (by decide) (fun hc2 => ?_) (fun hc2 => ?_)
    · exact bad (Or.inr (Or.inl (bz_0.mp hc2)))
    · obtain ⟨p, hp, rfl⟩ := pt_nI h.1.2.1 h6 (bz_n0 hc)
      obtain ⟨q, hq, rfl⟩ := pt_nI h.1.2.1 h6 (bz_n0 hc2)
      refine wp_iload_n d_P_parting_22 rfl ?_
      refine wp_iconst (v := -1) d_P_parting_23 (by decide) ?_
      refine wp_icmp_ge (tgt := 29) d_P_parting_24 (by decide) (fun hc3 => ?_) (fun hc3 => ?_)
      · refine wp_aload_n d_P_parting_29 rfl ?_
        refine wp_getA d_P_parting_30 fl_P_50 rfl rfl rfl ?_
        refine wp_iload_n d_P_parting_33 rfl ?_
        refine wp_iload_n d_P_parting_34 rfl ?_
        refine wp_callS2e d_P_parting_35 cs_P_215 ⟨Nat.le_of_ble_eq_true rfl, Nat.le_of_ble_eq_true rfl⟩ (Nat.le_of_ble_eq_true rfl) (Nat.le_of_ble_eq_true rfl) (c_G_pair _ _ _) ?_
        rw [show prF (nI p) (nI q) = nI (cdP (6 * p + q)) by rw [pr_nI, cdP]; congr 1; omega]
        refine wp_callV1 d_P_parting_38 cv_P_177 rfl rfl rfl ⟨Nat.le_of_ble_eq_true rfl, Nat.le_of_ble_eq_true rfl⟩ (Nat.le_of_ble_eq_true rfl) (Nat.le_of_ble_eq_true rfl) (c_K_walkFrom (cd := cdP) (st := stP N lm) (B := 36) (s := 6 * p + q) kwK_42 (by decide) cdPH (by omega) _ hI (stP_ok h)) (fun v τ hv => ?_)
        obtain ⟨rfl, hF, hfl, hK⟩ := hv
        have eQ : bfQ (stP N lm) L (6 * p + q) 64 = QP N L lm (6 * p + q) := by rw [QP, nx64_eq]
        rw [eQ] at hK
        have hB : BI (stP N lm) L (6 * p + q) (QP N L lm (6 * p + q)) := BI.Q _
        have hlt : ∀ j, j < (QP N L lm (6 * p + q)).length → itm (QP N L lm (6 * p + q)) j < 36 := hB.bd (by omega) (fun k x _ _ => stP_lt h0 h6 k x)
        have hlen := hB.len hlt
        have hin := QP_in (L := L) (lm := lm) h0 h6 hp hq
        show WP m_P_parting 41 _ [] τ _
        have hI' := hF.KI (by decide) hI
        refine wp_aload_n d_P_parting_41 rfl ?_
        refine wp_getA d_P_parting_42 fl_P_50 rfl rfl rfl ?_
        refine wp_aload_n d_P_parting_45 rfl ?_
        refine wp_getA d_P_parting_46 fl_P_58 rfl rfl rfl ?_
        refine wp_callV0e d_P_parting_49 cv_P_218 rfl rfl rfl ⟨Nat.le_of_ble_eq_true rfl, Nat.le_of_ble_eq_true rfl⟩ (Nat.le_of_ble_eq_true rfl) (Nat.le_of_ble_eq_true rfl) (c_A_unlikeEnds _ hI') ?_
        refine wp_iload_n d_P_parting_52 rfl ?_
        refine wp_callV2e d_P_parting_53 cv_P_184 rfl rfl rfl ⟨Nat.le_of_ble_eq_true rfl, Nat.le_of_ble_eq_true rfl⟩ (Nat.le_of_ble_eq_true rfl) (Nat.le_of_ble_eq_true rfl) (c_K_wordTo kwK_42 _ _ _ hK.1 (by omega)) ?_
        refine wp_iret d_P_parting_56 rfl ?_
        refine ⟨⟨_, rfl, Or.inl ⟨p, q, hp, hq, rfl, rfl, hc3, ?_⟩⟩, hF.up (upW (by decide)), ⟨by rw [(hF 36 (by decide)).1], hfl⟩, M, hF.EM (by decide) hM⟩
        rw [(hF 48 (by decide)).1, h.2.2.2.1.2]
        exact wt_fw (by omega) (fun j hj => cdPH.2.1 _ (hlt j hj)) hB hK (fun j hj => by
          rw [bL_bl (cdPH.2.1 _ (hlt j hj))]
          exact ue_pt h6 h.2.2.2.1.1 (hin j hj).1 (hin j hj).2) hc3
      · exact bad (Or.inr (Or.inr hc3))
theorem un_parting {x y i z z' : Int32} {σ : Hp} {a : Sx} (hX : XS σ a) (h : aePa x y i a z) (h' : aePa x y i a z') : z = z' := by
  obtain ⟨N, L, lm, s, e⟩ := a
  have h6 := hX.1.2.2.1
  have h0 := hX.1.2.1
  have ok : ∀ p, p < N → 0 ≤ nI p ∧ nI p ≤ nI (N - 1) := fun p hp => ⟨nI_pos' (by omega), nI_le (by omega) (by omega)⟩
  rcases h with ⟨p, q, hp, hq, rfl, rfl, hi, rfl⟩ | ⟨h, rfl⟩ <;> rcases h' with ⟨p', q', hp', hq', e1, e2, hi', rfl⟩ | ⟨h', rfl⟩
  · rw [nI_eq (by omega) (by omega)] at e1 e2
    rw [e1, e2]
  · exact absurd h' (fun z => z.elim (fun z => z (ok p hp)) (fun z => z.elim (fun z => z (ok q hq)) (fun z => z hi)))
  · rw [e1, e2] at h
    exact absurd h (fun z => z.elim (fun z => z (ok p' hp')) (fun z => z.elim (fun z => z (ok q' hq')) (fun z => z hi')))
  · rfl
