/-! contracts: loads (the reference) -/
/-- the boxes of the first K kinds -/
def BK (τ : Hp) (M K : Nat) (a b : Nat → Nat → Nat) (B : Nat → Nat) : Prop := ∀ k, k < K → RG M (a k) (b k) (B k) ∧ (∀ e, e < M → τ.1 65 (4 * e + k) = nI (b k e)) ∧ τ.1 66 k = nI (B k)
/-- of the first K kinds: in one box are those that come of one another -/
def SB (N L : Nat) (lm : Nat → Nat) (M K : Nat) (b : Nat → Nat → Nat) : Prop := ∀ k, k < K → ∀ e e', e < M → e' < M → (b k e = b k e' ↔ RQ (spP N L lm (EQ N L lm) k) (spN L k) e e' ∧ RQ (spP N L lm (EQ N L lm) k) (spN L k) e' e)
def Tb (τ : Hp) (N L : Nat) (lm : Nat → Nat) (M : Nat) : Prop := LQ τ N L lm M ∧ TA τ N L lm (EQ N L lm) ∧ ∃ a b B, BK τ M 4 a b B ∧ (∀ e e', e < M → e' < M → (b 3 e = b 3 e' ↔ b 1 e = b 1 e' ∧ b 2 e = b 2 e')) ∧ SB N L lm M 3 b
def LD (τ : Hp) (N L : Nat) (lm : Nat → Nat) : Prop := τ.1 56 6 = 0 ∨ LDf τ N L lm ∨ ∃ M, Tb τ N L lm M
theorem LQ.mv {σ τ : Hp} {N L M : Nat} {lm : Nat → Nat} (h : LQ σ N L lm M) (e6 : τ.1 56 6 = σ.1 56 6) (e7 : τ.1 56 7 = σ.1 56 7) (e1 : τ.1 58 = σ.1 58) (e2 : τ.1 59 = σ.1 59) (e3 : τ.1 62 = σ.1 62) (e4 : τ.1 63 = σ.1 63) (e5 : τ.1 64 = σ.1 64) : LQ τ N L lm M :=
  ⟨by rw [e6]; exact h.1, by rw [e7]; exact h.2.1, h.2.2.1, h.2.2.2.1, h.2.2.2.2.mv e1 e2 e3 e4 e5⟩
theorem LQ.pos {σ : Hp} {N L M : Nat} {lm : Nat → Nat} (h : LQ σ N L lm M) : 0 < M := by
  have := EQ_BI (N := N) (L := L) (lm := lm)
  rw [← h.2.2.1]
  exact this.1
theorem c_M_loads_rest {N L M : Nat} {lm : Nat → Nat} {Z : Option Value → Hp → Prop} (σ : Hp) (hB : MB σ N) (hL : LT σ N L lm) (h : LQ σ N L lm M) (hO : TO σ N L lm (EQ N L lm) M 0)
    (K : ∀ τ, FM σ τ → Tb τ N L lm M → Z (some (.int 1)) τ) (x1 x2 x3 : Value) : WP m_M_loads 249 [.ref 56, x1, x2, x3] [] σ Z := by
  have hN6 := hB.2.2
  have hp6 := pow6 hN6
  have h4 := hL.2.1
  have hM15 := h.2.2.2.1
  have hlen := h.2.2.1
  have hI := EQ_BI (N := N) (L := L) (lm := lm)
  have hlt := EQ_lt (L := L) (lm := lm) hB.2.1
  have hah := fun {l} (hl : l < L) => EQ_ah hB.2.1 (fun l hl => (hL.2.2 l hl).2) (by omega) hl
  have hto : ∀ e l, e < M → l < L → σ.1 60 (4 * e + l) = nI (toP N lm (EQ N L lm) e l) ∧ toP N lm (EQ N L lm) e l < (EQ N L lm).length := by
    intro e l he hl
    obtain ⟨j, j1, j2, j3⟩ := hO e l hl (Or.inl he)
    have : toP N lm (EQ N L lm) e l = j := hI.ps j1 j2
    rw [this]
    exact ⟨j3, j1⟩
  have last : ∀ (τ : Hp) (x1 x2 x3 : Value), FM σ τ → LQ τ N L lm M → TA τ N L lm (EQ N L lm) → WP m_M_loads 312 [.ref 56, x1, x2, x3] [] τ Z := by
    clear h
    intro τ x1 x2 x3 hF h hT
    refine wp_iconst (v := 0) d_M_loads_312 (by decide) ?_
    refine wp_istore1 d_M_loads_313 (by decide) rfl ?_
    suffices H : ∀ k, k ≤ 3 → ∀ (τ : Hp) (a b : Nat → Nat → Nat) (B : Nat → Nat), FM σ τ → LQ τ N L lm M → TA τ N L lm (EQ N L lm) → BK τ M k a b B → SB N L lm M k b → WP m_M_loads 314 [.ref 56, .int (nI k), x2, x3] [] τ Z from H 0 (Nat.zero_le _) τ (fun _ _ => 0) (fun _ _ => 0) (fun _ => 0) hF h hT (fun k hk => absurd hk (Nat.not_lt_zero k)) (fun k hk => absurd hk (Nat.not_lt_zero k))
    clear hT h hF τ
    refine lp_nat (fun k hk ih τ a b B hF h hT hK hSB => ?_)
    have hL1 := hF.LT hL
    refine wp_iload_n d_M_loads_314 rfl ?_
    refine wp_iconst (v := 3) d_M_loads_315 (by decide) ?_
    refine wp_icmp_ge (tgt := 330) d_M_loads_316 (by decide) (fun hc => ?_) (fun hc => ?_)
    · obtain rfl := Nat.le_antisymm hk (nI_ge2 (b := 3) hc (by omega) (by omega))
      have r1 := hK 1 (by decide)
      have r2 := hK 2 (by decide)
      have l1 := r1.1.le
      have l2 := r2.1.le
      have s1 : ∀ e, e < M → τ.1 65 (4 * e + 1) = nI (b 1 e) ∧ b 1 e ≤ 1500 := fun e he => ⟨r1.2.1 e he, by have := r1.1.1 e he; omega⟩
      have s2 : ∀ e, e < M → τ.1 65 (4 * e + 2) = nI (b 2 e) ∧ b 2 e ≤ 1500 := fun e he => ⟨r2.2.1 e he, by have := r2.1.1 e he; omega⟩
      refine wp_aload_n d_M_loads_330 rfl ?_
      refine wp_callV0 d_M_loads_331 cv_M_131 rfl rfl rfl ⟨Nat.le_of_ble_eq_true rfl, Nat.le_of_ble_eq_true rfl⟩ (Nat.le_of_ble_eq_true rfl) (Nat.le_of_ble_eq_true rfl) (c_M_cells _ hM15 h.2.1 s1 s2) (fun v υ hv => ?_)
      obtain ⟨rfl, hF2, b3, B3, hR, q1, q2, q3, q5⟩ := hv
      show WP m_M_loads 334 _ [] υ _
      have f := fun q (hq : q ∉ ceS) => (hF2 q hq).1
      refine wp_iconst (v := 1) d_M_loads_334 (by decide) ?_
      refine wp_zret d_M_loads_335 rfl ?_ ?_
      · decide
      refine K υ (hF.tr (FM.of hF2 (by decide) (by decide))) ⟨h.mv (by rw [f 56 (by decide)]) (by rw [f 56 (by decide)]) (f 58 (by decide)) (f 59 (by decide)) (f 62 (by decide)) (f 63 (by decide)) (f 64 (by decide)), fun e l he hl => by rw [f 60 (by decide), f 61 (by decide)]; exact hT e l he hl, fu a 3 (twN (b 1) (b 2)), fu b 3 b3, fu B 3 B3, fun k hk => ?_, fun e e' he he' => ?_, fun k hk e e' he he' => ?_⟩
      · by_cases q : k = 3
        · rw [q, fu_eq, fu_eq, fu_eq]
          exact ⟨hR, q1, q2⟩
        · rw [fu_ne q, fu_ne q, fu_ne q]
          obtain ⟨t1, t2, t3⟩ := hK k (by omega)
          exact ⟨t1, fun e he => by rw [q3 _ (by omega)]; exact t2 e he, by rw [q5 _ q]; exact t3⟩
      · rw [fu_eq, fu_ne (show (1 : Nat) ≠ 3 by decide), fu_ne (show (2 : Nat) ≠ 3 by decide), hR.2.2.2 e e' he he']
        exact twN_iff (s2 e he).2 (s2 e' he').2
      · rw [fu_ne (show k ≠ 3 by omega)]
        exact hSB k hk e e' he he'
    · have hk2 := nI_nge (b := 3) hc (by omega) (by omega)
      refine wp_aload_n d_M_loads_319 rfl ?_
      refine wp_iload_n d_M_loads_320 rfl ?_
      refine wp_callV1 d_M_loads_321 cv_M_127 rfl rfl rfl ⟨Nat.le_of_ble_eq_true rfl, Nat.le_of_ble_eq_true rfl⟩ (Nat.le_of_ble_eq_true rfl) (Nat.le_of_ble_eq_true rfl) (c_M_heaps _ hL1.1 h4 hT hlen hM15 h.2.1 (by omega)) (fun v υ hv => ?_)
      obtain ⟨rfl, hF2, a3, hK3, b3, B3, hR, q1, q2, q3, q5⟩ := hv
      show WP m_M_loads 324 _ [] υ _
      have f := fun q (hq : q ∉ hpS) => (hF2 q hq).1
      refine wp_iinc1 d_M_loads_324 (hn_ii1 _) (by decide) rfl ?_
      refine wp_goto (tgt := 314) d_M_loads_327 (by decide) ?_
      rw [nI_1]
      refine ih hk2 υ (fu a k a3) (fu b k b3) (fu B k B3) (hF.tr (FM.of hF2 (by decide) (by decide))) (h.mv (by rw [f 56 (by decide)]) (by rw [f 56 (by decide)]) (f 58 (by decide)) (f 59 (by decide)) (f 62 (by decide)) (f 63 (by decide)) (f 64 (by decide))) (fun e l he hl => by rw [f 60 (by decide), f 61 (by decide)]; exact hT e l he hl) (fun k' hk' => ?_) (fun k' hk' e e' he he' => ?_)
      rotate_left
      · by_cases q : k' = k
        · rw [q, fu_eq, hR.2.2.2 e e' he he']
          exact hK3 e e' he he'
        · rw [fu_ne q]
          exact hSB k' (by omega) e e' he he'
      by_cases q : k' = k
      · rw [q, fu_eq, fu_eq, fu_eq]
        exact ⟨hR, q1, q2⟩
      · rw [fu_ne q, fu_ne q, fu_ne q]
        obtain ⟨t1, t2, t3⟩ := hK k' (by omega)
        exact ⟨t1, fun e he => by rw [q3 _ (by omega)]; exact t2 e he, by rw [q5 _ q]; exact t3⟩
  refine wp_iconst (v := 0) d_M_loads_249 (by decide) ?_
  refine wp_istore1 d_M_loads_250 (by decide) rfl ?_
  suffices H : ∀ e, e ≤ M → ∀ (τ : Hp) (x2 : Value), FM σ τ → LQ τ N L lm M → τ.1 60 = σ.1 60 → (∀ e' l, e' < e → l < L → τ.1 61 (4 * e' + l) = nI (ahP N lm (EQ N L lm) e' l)) → WP m_M_loads 251 [.ref 56, .int (nI e), x2, x3] [] τ Z from H 0 (Nat.zero_le _) σ _ FM.rf h rfl (fun e' l q => absurd q (Nat.not_lt_zero e'))
  clear h
  refine lp_nat (fun e he ih τ x2 hF h e60 h61 => ?_)
  refine wp_iload_n d_M_loads_251 rfl ?_
  refine wp_aload_n d_M_loads_252 rfl ?_
  refine wp_getI d_M_loads_253 fl_M_117 rfl rfl (by decide) ?_
  refine wp_icmp_ge (tgt := 312) d_M_loads_256 (by decide) (fun hc => ?_) (fun hc => ?_)
  · rw [h.2.1] at hc
    obtain rfl := Nat.le_antisymm he (nI_ge2 hc (by omega) (by omega))
    refine last τ _ _ _ hF h (fun e' l he' hl => ?_)
    have he2 : e' < e := by omega
    obtain ⟨t1, t2⟩ := hto e' l he2 hl
    have t3 : ahP N lm (EQ N L lm) e' l < (EQ N L lm).length := (psN_has (hah hl e' (by omega))).1
    exact ⟨⟨by rw [e60]; exact t1, t2⟩, h61 e' l he2 hl, t3⟩
  · rw [h.2.1] at hc
    have he2 := nI_nge hc (by omega) (by omega)
    refine wp_iconst (v := 0) d_M_loads_259 (by decide) ?_
    refine wp_istore2 d_M_loads_260 (by decide) rfl ?_
    suffices H : ∀ l, l ≤ L → ∀ (τ : Hp), FM σ τ → LQ τ N L lm M → τ.1 60 = σ.1 60 → (∀ e' l', (e' < e ∨ (e' = e ∧ l' < l)) → l' < L → τ.1 61 (4 * e' + l') = nI (ahP N lm (EQ N L lm) e' l')) → WP m_M_loads 261 [.ref 56, .int (nI e), .int (nI l), x3] [] τ Z from H 0 (Nat.zero_le _) τ hF h e60 (fun e' l' q hl => h61 e' l' (by omega) hl)
    clear h61 e60 h hF τ
    refine lp_nat (fun l hl ihl τ hF h e60 h61 => ?_)
    have hB1 := hF.MB hB
    have hL1 := hF.LT hL
    refine wp_iload_n d_M_loads_261 rfl ?_
    refine wp_aload_n d_M_loads_262 rfl ?_
    refine wp_getI d_M_loads_263 fl_M_104 rfl rfl (by decide) ?_
    refine wp_icmp_ge (tgt := 306) d_M_loads_266 (by decide) (fun hc2 => ?_) (fun hc2 => ?_)
    · rw [hL1.1] at hc2
      obtain rfl := Nat.le_antisymm hl (nI_ge2 hc2 (by omega) (by omega))
      refine wp_iinc1 d_M_loads_306 (hn_ii1 _) (by decide) rfl ?_
      refine wp_goto (tgt := 251) d_M_loads_309 (by decide) ?_
      rw [nI_1]
      exact ih he2 τ _ hF h e60 (fun e' l' q hl' => h61 e' l' (by omega) hl')
    · rw [hL1.1] at hc2
      have hl2 := nI_nge hc2 (by omega) (by omega)
      obtain ⟨l1, l2⟩ := hL1.2.2 l hl2
      have hi := hlt e (by omega)
      have hh := hah hl2 e (by omega)
      have hw := bN_lt (N := N) (a := lm l) (b := itm (EQ N L lm) e) hB.2.1
      obtain ⟨j, j1, j2, j3⟩ := h.2.2.2.2.at hh
      have hj : ahP N lm (EQ N L lm) e l = j := hI.ps j1 j2
      refine wp_aload_n d_M_loads_269 rfl ?_
      refine wp_getA d_M_loads_270 fl_M_27 rfl rfl rfl ?_
      refine wp_iconst (v := 4) d_M_loads_273 (by decide) ?_
      refine wp_iload_n d_M_loads_274 rfl ?_
      refine wp_imul d_M_loads_275 ?_
      refine wp_iload_n d_M_loads_276 rfl ?_
      refine wp_iadd d_M_loads_277 ?_
      rw [four_nI]
      refine wp_aload_n d_M_loads_278 rfl ?_
      refine wp_getA d_M_loads_279 fl_M_21 rfl rfl rfl ?_
      refine wp_aload_n d_M_loads_282 rfl ?_
      refine wp_aload_n d_M_loads_283 rfl ?_
      refine wp_getA d_M_loads_284 fl_M_13 rfl rfl rfl ?_
      refine wp_iload_n d_M_loads_287 rfl ?_
      refine wp_iald d_M_loads_288 rfl ?_ ?_
      · exact vp_in_nI (n := l) (by omega) (by decide)
      rw [nI_clamp (show l < 2 ^ 31 by omega), l1]
      refine wp_aload_n d_M_loads_289 rfl ?_
      refine wp_getA d_M_loads_290 fl_M_17 rfl rfl rfl ?_
      refine wp_iload_n d_M_loads_293 rfl ?_
      refine wp_iald d_M_loads_294 rfl ?_ ?_
      · exact vp_in_nI (n := e) (by omega) (by decide)
      rw [nI_clamp (show e < 2 ^ 31 by omega), (h.2.2.2.2.1 e (by omega)).1]
      refine wp_callV2e d_M_loads_295 cv_M_124 rfl rfl rfl ⟨Nat.le_of_ble_eq_true rfl, Nat.le_of_ble_eq_true rfl⟩ (Nat.le_of_ble_eq_true rfl) (Nat.le_of_ble_eq_true rfl) (c_M_both (by omega) (by omega) _ hB1) ?_
      refine wp_iald d_M_loads_298 rfl ?_ ?_
      · exact vp_in_nI (n := bN N (lm l) (itm (EQ N L lm) e)) (by omega) (by decide)
      rw [nI_clamp (show bN N (lm l) (itm (EQ N L lm) e) < 2 ^ 31 by omega), j3]
      refine wp_iast d_M_loads_299 rfl ?_ ?_
      · exact vp_in_nI (n := 4 * e + l) (by omega) (by decide)
      rw [nI_clamp (show 4 * e + l < 2 ^ 31 by omega)]
      refine wp_iinc2 d_M_loads_300 (hn_ii1 _) (by decide) rfl ?_
      refine wp_goto (tgt := 261) d_M_loads_303 (by decide) ?_
      rw [nI_1]
      refine ihl hl2 _ (hF.wI (by decide) (by decide)) (h.mv (by rw [wI_ne (by decide)]) (by rw [wI_ne (by decide)]) (wI_ne (by decide)) (wI_ne (by decide)) (wI_ne (by decide)) (wI_ne (by decide)) (wI_ne (by decide))) (by rw [wI_ne (by decide)]; exact e60) (fun e' l' q hl' => ?_)
      rw [wI_eq]
      by_cases q2 : e' = e ∧ l' = l
      · obtain ⟨rfl, rfl⟩ := q2
        rw [upd_eq, hj]
      · rw [upd_ne (by omega)]
        exact h61 e' l' (by omega) hl'
/-- the list is there, or there are too many -/
theorem c_M_loads {N L : Nat} {lm : Nat → Nat} (σ : Hp) (hB : MB σ N) (hL : LT σ N L lm) (hD : LD σ N L lm) : Ct m_M_loads [.ref 56] σ (fun w τ => FM σ τ ∧ ((w = some (.int 0) ∧ LDf τ N L lm) ∨ (w = some (.int 1) ∧ ∃ M, Tb τ N L lm M))) := by
  rcases hD with h6 | h | ⟨M, h⟩
  · refine c_M_loads_list σ hB hL h6 (fun τ hF h => ⟨hF, Or.inl ⟨rfl, h⟩⟩) (fun τ M x1 x2 x3 hF h hO => ?_)
    exact c_M_loads_rest τ (hF.MB hB) (hF.LT hL) h hO (fun υ hF2 h2 => ⟨hF.tr hF2, Or.inr ⟨rfl, M, h2⟩⟩) x1 x2 x3
  · show WP m_M_loads 0 [.ref 56, .null, .null, .null] [] σ _
    refine wp_aload_n d_M_loads_0 rfl ?_
    refine wp_getI d_M_loads_1 fl_M_113 rfl rfl (by decide) ?_
    refine wp_if_eq (tgt := 23) d_M_loads_4 (by decide) (fun hc => ?_) (fun hc => ?_)
    · rw [h.1] at hc
      exact absurd hc (by decide)
    · refine wp_aload_n d_M_loads_7 rfl ?_
      refine wp_getI d_M_loads_8 fl_M_117 rfl rfl (by decide) ?_
      refine wp_sipush (v := 1500) d_M_loads_11 (by decide) ?_
      refine wp_icmp_gt (tgt := 21) d_M_loads_14 (by decide) (fun hc2 => ?_) (fun hc2 => ?_)
      · refine wp_iconst (v := 0) d_M_loads_21 (by decide) ?_
        refine wp_zret d_M_loads_22 rfl ?_ ?_
        · decide
        exact ⟨FM.rf, Or.inl ⟨rfl, h⟩⟩
      · rw [h.2.1] at hc2
        exact absurd (by decide) hc2
  · show WP m_M_loads 0 [.ref 56, .null, .null, .null] [] σ _
    refine wp_aload_n d_M_loads_0 rfl ?_
    refine wp_getI d_M_loads_1 fl_M_113 rfl rfl (by decide) ?_
    refine wp_if_eq (tgt := 23) d_M_loads_4 (by decide) (fun hc => ?_) (fun hc => ?_)
    · rw [h.1.1] at hc
      exact absurd hc (by decide)
    · refine wp_aload_n d_M_loads_7 rfl ?_
      refine wp_getI d_M_loads_8 fl_M_117 rfl rfl (by decide) ?_
      refine wp_sipush (v := 1500) d_M_loads_11 (by decide) ?_
      refine wp_icmp_gt (tgt := 21) d_M_loads_14 (by decide) (fun hc2 => ?_) (fun hc2 => ?_)
      · rw [h.1.2.1] at hc2
        have h15 := h.1.2.2.2.1
        have : nI 1500 < nI M := hc2
        rw [nI_ltN (by omega) (by omega)] at this
        omega
      · refine wp_iconst (v := 1) d_M_loads_17 (by decide) ?_
        refine wp_goto (tgt := 22) d_M_loads_18 (by decide) ?_
        refine wp_zret d_M_loads_22 rfl ?_ ?_
        · decide
        exact ⟨FM.rf, Or.inr ⟨rfl, M, h⟩⟩
