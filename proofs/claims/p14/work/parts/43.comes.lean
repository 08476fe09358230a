/-! contracts: what comes of an element; of boxes (the reference) -/
def spS (N L : Nat) (lm : Nat → Nat) (k x : Nat) : Nat := spP N L lm (EQ N L lm) 0 x k
def CQ (N L : Nat) (lm : Nat → Nat) (e : Nat) : BQ := bfQ (spS N L lm) (2 * L) e (n15 N)
def CK (τ : Hp) (M : Nat) (Q : BQ) : Prop := (∀ j, j < Q.length → τ.1 73 j = nI (itm Q j)) ∧ ∀ x, x < M → τ.1 72 x = if hasB Q x = true then 1 else 0
theorem hasB_app {Q : BQ} {e : Nat × Nat × Nat} {x : Nat} : hasB (Q ++ [e]) x = (hasB Q x || e.1 == x) := by
  unfold hasB
  rw [List.any_append]
  simp
def cmS : List Nat := [72, 73]
theorem CQ_st {τ : Hp} {N L M : Nat} {lm : Nat → Nat} (hT : TA τ N L lm (EQ N L lm)) (hM : (EQ N L lm).length = M) : ∀ k x, k < 2 * L → x < M → spS N L lm k x < M := fun k x hk hx => by
  have := spP_lt (kind := 0) (e := x) (k := k) hT (by omega) (by omega) (by rw [spN, if_pos rfl]; exact hk)
  unfold spS
  omega
theorem c_M_comes {N L M e : Nat} {lm : Nat → Nat} (he : e < M) (σ : Hp) (hL : LT σ N L lm) (hq : LQ σ N L lm M) (hT : TA σ N L lm (EQ N L lm)) : Ct m_M_comes [.ref 56, .int (nI e)] σ (fun w τ => w = some (.int (nI (CQ N L lm e).length)) ∧ Fp cmS σ τ ∧ CK τ M (CQ N L lm e)) := by
  have h15 := hq.2.2.2.1
  have hlen := hq.2.2.1
  have h4 := hL.2.1
  have hst := CQ_st hT hlen
  have bd : ∀ Q, BI (spS N L lm) (2 * L) e Q → (∀ j, j < Q.length → itm Q j < M) ∧ Q.length ≤ M := by
    intro Q hQ
    have hb := hQ.bd he hst
    exact ⟨hb, hQ.len hb⟩
  have st7 : ∀ τ, Fp cmS σ τ → τ.1 56 7 = nI M ∧ LT τ N L lm ∧ TA τ N L lm (EQ N L lm) := fun τ hF => ⟨by rw [(hF 56 (by decide)).1]; exact hq.2.1, hF.LT (by decide) (by decide) hL, fun x l hx hl => by rw [(hF 60 (by decide)).1, (hF 61 (by decide)).1]; exact hT x l hx hl⟩
  show WP m_M_comes 0 [.ref 56, .int (nI e), .null, .null, .null, .null] [] σ _
  refine wp_iconst (v := 0) d_M_comes_0 (by decide) ?_
  refine wp_istore2 d_M_comes_1 (by decide) rfl ?_
  have fill : ∀ k, k ≤ M → ∀ (τ : Hp), Fp cmS σ τ → (∀ x, x < k → τ.1 72 x = 0) → WP m_M_comes 2 [.ref 56, .int (nI e), .int (nI k), .null, .null, .null] [] τ (fun w τ => w = some (.int (nI (CQ N L lm e).length)) ∧ Fp cmS σ τ ∧ CK τ M (CQ N L lm e)) := by
    refine lp_nat (fun k hk ih τ hF h0 => ?_)
    obtain ⟨f7, -, -⟩ := st7 τ hF
    refine wp_iload_n d_M_comes_2 rfl ?_
    refine wp_aload_n d_M_comes_3 rfl ?_
    refine wp_getI d_M_comes_4 fl_M_117 rfl rfl (by decide) ?_
    refine wp_icmp_ge (tgt := 23) d_M_comes_7 (by decide) (fun hc => ?_) (fun hc => ?_)
    · rw [f7] at hc
      obtain rfl := Nat.le_antisymm hk (nI_ge2 hc (by omega) (by omega))
      refine wp_aload_n d_M_comes_23 rfl ?_
      refine wp_getA d_M_comes_24 fl_M_60 rfl rfl rfl ?_
      refine wp_iload_n d_M_comes_27 rfl ?_
      refine wp_iconst (v := 1) d_M_comes_28 (by decide) ?_
      refine wp_bast d_M_comes_29 rfl ?_ ?_ ?_
      · exact vp_in_nI (n := e) (by omega) (by decide)
      · decide
      rw [nI_clamp (show e < 2 ^ 31 by omega)]
      refine wp_aload_n d_M_comes_30 rfl ?_
      refine wp_getA d_M_comes_31 fl_M_64 rfl rfl rfl ?_
      refine wp_iconst (v := 0) d_M_comes_34 (by decide) ?_
      refine wp_iload_n d_M_comes_35 rfl ?_
      refine wp_iast d_M_comes_36 rfl ?_ ?_
      · exact vp_in_nI (n := 0) (by decide) (by decide)
      rw [show (0 : Int32).toNatClampNeg = 0 by decide]
      refine wp_iconst (v := 1) d_M_comes_37 (by decide) ?_
      refine wp_istore2 d_M_comes_38 (by decide) rfl ?_
      refine wp_iconst (v := 0) d_M_comes_39 (by decide) ?_
      refine wp_istore3 d_M_comes_40 (by decide) rfl ?_
      suffices H : ∀ d i, 1500 - i = d → ∀ (τ : Hp) (x4 x5 : Value), x4.category = 1 → i ≤ (bfQ (spS N L lm) (2 * L) e i).length → Fp cmS σ τ → CK τ k (bfQ (spS N L lm) (2 * L) e i) → WP m_M_comes 41 [.ref 56, .int (nI e), .int (nI (bfQ (spS N L lm) (2 * L) e i).length), .int (nI i), x4, x5] [] τ (fun w τ => w = some (.int (nI (CQ N L lm e).length)) ∧ Fp cmS σ τ ∧ CK τ k (CQ N L lm e)) by
        refine H 1500 0 rfl _ _ _ rfl (Nat.zero_le _) ((hF.wI (by decide)).wI (by decide)) ⟨fun j hj => ?_, fun x hx => ?_⟩
        · obtain rfl : j = 0 := by
            have : (bfQ (spS N L lm) (2 * L) e 0).length = 1 := rfl
            omega
          rw [wI_eq, upd_eq]; rfl
        · rw [wI_ne (by decide), wI_eq]
          by_cases q : x = e
          · have h8 : hasB (bfQ (spS N L lm) (2 * L) e 0) e = true := hasB_iff.mpr ⟨0, Nat.zero_lt_one, rfl⟩
            rw [q, upd_eq, if_pos h8]
          · rw [upd_ne q, h0 x hx, if_neg]
            intro q2
            obtain ⟨j, hj, e2⟩ := hasB_iff.mp q2
            have h1 : (bfQ (spS N L lm) (2 * L) e 0).length = 1 := rfl
            obtain rfl : j = 0 := by omega
            exact q (e2.symm.trans rfl)
      clear h0 hF ih f7 τ
      intro d
      induction d with
      | zero =>
        intro i hd τ x4 x5 hx4 hil hF hW
        have hQ := BI.Q (st := spS N L lm) (L := 2 * L) (s := e) i
        have hlM := (bd _ hQ).2
        refine wp_iload_n d_M_comes_41 rfl ?_
        refine wp_iload_n d_M_comes_42 rfl ?_
        refine wp_icmp_ge (tgt := 116) d_M_comes_43 (by decide) (fun hc2 => ?_) (fun hc2 => ?_)
        · refine wp_iload_n d_M_comes_116 rfl ?_
          refine wp_iret d_M_comes_117 rfl ?_
          have e1 : CQ N L lm e = bfQ (spS N L lm) (2 * L) e i := by rw [CQ, n15_eq, show 1500 = i by omega]
          rw [e1]
          exact ⟨rfl, hF, hW⟩
        · have := nI_nge hc2 (by omega) (by omega)
          omega
      | succ d ihd =>
        intro i hd τ x4 x5 hx4 hil hF hW
        have hQ := BI.Q (st := spS N L lm) (L := 2 * L) (s := e) i
        have hlM := (bd _ hQ).2
        refine wp_iload_n d_M_comes_41 rfl ?_
        refine wp_iload_n d_M_comes_42 rfl ?_
        refine wp_icmp_ge (tgt := 116) d_M_comes_43 (by decide) (fun hc2 => ?_) (fun hc2 => ?_)
        · have hle := nI_ge2 hc2 (by omega) (by omega)
          refine wp_iload_n d_M_comes_116 rfl ?_
          refine wp_iret d_M_comes_117 rfl ?_
          have e1 : CQ N L lm e = bfQ (spS N L lm) (2 * L) e i := by
            have := bfQ_stop hle (1500 - i)
            rw [show i + (1500 - i) = 1500 by omega] at this
            rw [CQ, n15_eq]
            exact this
          rw [e1]
          exact ⟨rfl, hF, hW⟩
        · have hlt := nI_nge hc2 (by omega) (by omega)
          refine wp_iconst (v := 0) d_M_comes_46 (by decide) ?_
          refine wp_istore4 d_M_comes_47 (by decide) rfl ?_
          suffices H : ∀ l, l ≤ 2 * L → ∀ (τ : Hp) (x5 : Value), Fp cmS σ τ → CK τ k (it (fun k Q => bfA (spS N L lm) i k Q) l (bfQ (spS N L lm) (2 * L) e i)) → WP m_M_comes 49 [.ref 56, .int (nI e), .int (nI (it (fun k Q => bfA (spS N L lm) i k Q) l (bfQ (spS N L lm) (2 * L) e i)).length), .int (nI i), .int (nI l), x5] [] τ (fun w τ => w = some (.int (nI (CQ N L lm e).length)) ∧ Fp cmS σ τ ∧ CK τ k (CQ N L lm e)) from H 0 (Nat.zero_le _) τ _ hF hW
          clear hF hW τ
          refine lp_nat (fun l hl ih2 τ x5 hF hW => ?_)
          obtain ⟨f7, hL2, hT2⟩ := st7 τ hF
          have hQk := hQ.K hlt l hl
          obtain ⟨Qk, hQe⟩ : ∃ Qk, Qk = it (fun k Q => bfA (spS N L lm) i k Q) l (bfQ (spS N L lm) (2 * L) e i) := ⟨_, rfl⟩
          have hpre : Pre (bfQ (spS N L lm) (2 * L) e i) Qk := by rw [hQe]; exact bfK_pre l
          rw [← hQe] at hW hQk ⊢
          have hik : i < Qk.length := Nat.lt_of_lt_of_le hlt hpre.1
          obtain ⟨hb, hlk⟩ := bd _ hQk
          refine wp_iload d_M_comes_49 rfl ?_
          refine wp_iconst (v := 2) d_M_comes_51 (by decide) ?_
          refine wp_aload_n d_M_comes_52 rfl ?_
          refine wp_getI d_M_comes_53 fl_M_104 rfl rfl (by decide) ?_
          refine wp_imul d_M_comes_56 ?_
          rw [hL2.1, show (2 : Int32) = nI 2 from rfl, pk_mul]
          refine wp_icmp_ge (tgt := 110) d_M_comes_57 (by decide) (fun hc3 => ?_) (fun hc3 => ?_)
          · have hkL : l = 2 * L := Nat.le_antisymm hl (nI_ge2 hc3 (by omega) (by omega))
            refine wp_iinc3 d_M_comes_110 (hn_ii1 _) (by decide) rfl ?_
            refine wp_goto (tgt := 41) d_M_comes_113 (by decide) ?_
            rw [nI_1]
            have e1 : bfQ (spS N L lm) (2 * L) e (i + 1) = Qk := by rw [bfQ_s hlt, hQe, hkL]; rfl
            have := ihd (i + 1) (by omega) τ (.int (nI l)) x5 rfl (by rw [e1]; omega) hF (by rw [e1]; exact hW)
            rw [e1] at this
            exact this
          · have hl2 := nI_nge hc3 (by omega) (by omega)
            have hbi := hb i hik
            refine wp_aload_n d_M_comes_60 rfl ?_
            refine wp_iconst (v := 0) d_M_comes_61 (by decide) ?_
            refine wp_aload_n d_M_comes_62 rfl ?_
            refine wp_getA d_M_comes_63 fl_M_64 rfl rfl rfl ?_
            refine wp_iload_n d_M_comes_66 rfl ?_
            refine wp_iald d_M_comes_67 rfl ?_ ?_
            · exact vp_in_nI (n := i) (by omega) (by decide)
            rw [nI_clamp (show i < 2 ^ 31 by omega), hW.1 i hik]
            refine wp_iload d_M_comes_68 rfl ?_
            rw [show (0 : Int32) = nI 0 from rfl]
            refine wp_callV3e d_M_comes_70 cv_M_134 rfl rfl rfl ⟨Nat.le_of_ble_eq_true rfl, Nat.le_of_ble_eq_true rfl⟩ (Nat.le_of_ble_eq_true rfl) (Nat.le_of_ble_eq_true rfl) (c_M_step _ hL2.1 h4 hT2 (by omega) (by omega) (by omega) (by rw [spN, if_pos rfl]; exact hl2)) ?_
            obtain ⟨w, hw⟩ : ∃ w, w = spS N L lm l (itm Qk i) := ⟨_, rfl⟩
            have hwlt : w < k := by rw [hw]; exact hst _ _ hl2 hbi
            rw [show spP N L lm (EQ N L lm) 0 (itm Qk i) l = w from hw.symm]
            have eA : it (fun k Q => bfA (spS N L lm) i k Q) (l + 1) (bfQ (spS N L lm) (2 * L) e i) = bfA (spS N L lm) i l Qk := by rw [bfK_s, ← hQe]
            refine wp_istore5 d_M_comes_73 (by decide) rfl ?_
            refine wp_aload_n d_M_comes_75 rfl ?_
            refine wp_getA d_M_comes_76 fl_M_60 rfl rfl rfl ?_
            refine wp_iload d_M_comes_79 rfl ?_
            refine wp_bald d_M_comes_81 rfl ?_ ?_
            · exact vp_in_nI (n := w) (by omega) (by decide)
            rw [nI_clamp (show w < 2 ^ 31 by omega), hW.2 w hwlt]
            cases q : hasB Qk w with
            | true =>
              rw [if_pos rfl]
              have eA2 : bfA (spS N L lm) i l Qk = Qk := by rw [bfA, ← hw, if_pos q]
              refine wp_if_ne (tgt := 104) d_M_comes_82 (by decide) (fun hc5 => ?_) (fun hc5 => ?_)
              · refine wp_iinc4 d_M_comes_104 (hn_ii1 _) (by decide) rfl ?_
                refine wp_goto (tgt := 49) d_M_comes_107 (by decide) ?_
                rw [nI_1]
                have := ih2 hl2 τ (.int (nI w)) hF (by rw [eA, eA2]; exact hW)
                rw [eA, eA2] at this
                exact this
              · exact absurd hc5 (by decide)
            | false =>
              rw [if_neg (by decide)]
              have eA2 : bfA (spS N L lm) i l Qk = Qk ++ [(w, i, l)] := by rw [bfA, ← hw, if_neg (by rw [q]; decide)]
              have hlen2 : Qk.length + 1 ≤ k := by
                have := (bd _ (hQk.add hik hl2 (by rw [← hw]; exact q))).2
                simp at this
                omega
              refine wp_if_ne (tgt := 104) d_M_comes_82 (by decide) (fun hc5 => ?_) (fun hc5 => ?_)
              · exact absurd rfl hc5
              · refine wp_aload_n d_M_comes_85 rfl ?_
                refine wp_getA d_M_comes_86 fl_M_60 rfl rfl rfl ?_
                refine wp_iload d_M_comes_89 rfl ?_
                refine wp_iconst (v := 1) d_M_comes_91 (by decide) ?_
                refine wp_bast d_M_comes_92 rfl ?_ ?_ ?_
                · exact vp_in_nI (n := w) (by omega) (by decide)
                · decide
                rw [nI_clamp (show w < 2 ^ 31 by omega)]
                refine wp_aload_n d_M_comes_93 rfl ?_
                refine wp_getA d_M_comes_94 fl_M_64 rfl rfl rfl ?_
                refine wp_iload_n d_M_comes_97 rfl ?_
                refine wp_iload d_M_comes_98 rfl ?_
                refine wp_iast d_M_comes_100 rfl ?_ ?_
                · exact vp_in_nI (n := Qk.length) (by omega) (by decide)
                rw [nI_clamp (show Qk.length < 2 ^ 31 by omega)]
                refine wp_iinc2 d_M_comes_101 (hn_ii1 _) (by decide) rfl ?_
                refine wp_iinc4 d_M_comes_104 (hn_ii1 _) (by decide) rfl ?_
                refine wp_goto (tgt := 49) d_M_comes_107 (by decide) ?_
                rw [nI_1, nI_1]
                have := ih2 hl2 _ (.int (nI w)) ((hF.wI (k := 72) (j := w) (x := 1) (by decide)).wI (k := 73) (j := Qk.length) (x := nI w) (by decide)) (by
                  rw [eA, eA2]
                  refine ⟨fun j hj => ?_, fun x hx => ?_⟩
                  · simp only [List.length_append, List.length_cons, List.length_nil] at hj
                    rw [wI_eq, wI_ne (by decide)]
                    by_cases q2 : j = Qk.length
                    · rw [q2, upd_eq, itm_app]
                    · rw [upd_ne q2, itm_old (by omega)]; exact hW.1 j (by omega)
                  · rw [wI_ne (by decide), wI_eq, hasB_app]
                    by_cases q2 : x = w
                    · rw [q2, upd_eq]; simp
                    · have : (w == x) = false := by simp; exact fun r => q2 r.symm
                      rw [upd_ne q2, hW.2 x hx]
                      simp [this])
                rw [eA, eA2] at this
                simpa using this
    · rw [f7] at hc
      have hk2 := nI_nge hc (by omega) (by omega)
      refine wp_aload_n d_M_comes_10 rfl ?_
      refine wp_getA d_M_comes_11 fl_M_60 rfl rfl rfl ?_
      refine wp_iload_n d_M_comes_14 rfl ?_
      refine wp_iconst (v := 0) d_M_comes_15 (by decide) ?_
      refine wp_bast d_M_comes_16 rfl ?_ ?_ ?_
      · exact vp_in_nI (n := k) (by omega) (by decide)
      · decide
      rw [nI_clamp (show k < 2 ^ 31 by omega)]
      refine wp_iinc2 d_M_comes_17 (hn_ii1 _) (by decide) rfl ?_
      refine wp_goto (tgt := 2) d_M_comes_20 (by decide) ?_
      rw [nI_1]
      refine ih hk2 _ (hF.wI (by decide)) (fun x hx => ?_)
      rw [wI_eq]
      by_cases q : x = k
      · rw [q, upd_eq]
      · rw [upd_ne q]; exact h0 x (by omega)
  exact fill 0 (Nat.zero_le _) σ Fp.rf (fun x hx => absurd hx (Nat.not_lt_zero x))
theorem four0_nI (e : Nat) : (4 : Int32) * nI e = nI (4 * e) := by
  rw [show (4 : Int32) = nI 4 from rfl, pk_mul]
/-- the least of a box -/
def loF (b : Nat → Nat) (M i : Nat) : Nat := sr (fun e => b e = i) M 0
theorem c_M_leastOf {M B i : Nat} {a b : Nat → Nat} (σ : Hp) (hM : M ≤ 1500) (hR : RG M a b B) (h65 : ∀ e, e < M → σ.1 65 (4 * e) = nI (b e)) (hi : i < B) : Ct m_M_leastOf [.ref 56, .int (nI i)] σ (Rt (.int (nI (loF b M i))) σ) := by
  have hBM := hR.le
  obtain ⟨e0, he0, hb0⟩ := hR.2.1 i hi
  have hlt : loF b M i < 0 + M := sr_ex _ _ ⟨e0, Nat.zero_le _, by omega, hb0⟩
  have hat := sr_at (p := fun e => b e = i) _ _ hlt
  rw [Nat.zero_add] at hlt
  show WP m_M_leastOf 0 [.ref 56, .int (nI i), .null] [] σ _
  refine wp_iconst (v := 0) d_M_leastOf_0 (by decide) ?_
  refine wp_istore2 d_M_leastOf_1 (by decide) rfl ?_
  suffices H : ∀ k, k ≤ loF b M i → sr (fun e => b e = i) (M - k) k = loF b M i → WP m_M_leastOf 2 [.ref 56, .int (nI i), .int (nI k)] [] σ (Rt (.int (nI (loF b M i))) σ) from H 0 (Nat.zero_le _) rfl
  refine lp_nat (fun k hk ih hs => ?_)
  have hbk := hR.1 k (by omega)
  obtain ⟨d, hd⟩ : ∃ d, M - k = d + 1 := ⟨M - k - 1, by omega⟩
  rw [hd, sr] at hs
  refine wp_aload_n d_M_leastOf_2 rfl ?_
  refine wp_getA d_M_leastOf_3 fl_M_39 rfl rfl rfl ?_
  refine wp_iconst (v := 4) d_M_leastOf_6 (by decide) ?_
  refine wp_iload_n d_M_leastOf_7 rfl ?_
  refine wp_imul d_M_leastOf_8 ?_
  rw [four0_nI]
  refine wp_iald d_M_leastOf_9 rfl ?_ ?_
  · exact vp_in_nI (n := 4 * k) (by omega) (by decide)
  rw [nI_clamp (show 4 * k < 2 ^ 31 by omega), h65 k (by omega)]
  refine wp_iload_n d_M_leastOf_10 rfl ?_
  refine wp_icmp_eq (tgt := 20) d_M_leastOf_11 (by decide) (fun hc => ?_) (fun hc => ?_)
  · rw [nI_eq (by omega) (by omega)] at hc
    rw [if_pos hc] at hs
    refine wp_iload_n d_M_leastOf_20 rfl ?_
    refine wp_iret d_M_leastOf_21 rfl ?_
    rw [hs]
    exact ⟨rfl, rfl⟩
  · rw [nI_eq (by omega) (by omega)] at hc
    rw [if_neg hc] at hs
    have hk2 : k < loF b M i := by
      have : k ≠ loF b M i := fun q => hc (by rw [q]; exact hat)
      omega
    refine wp_iinc2 d_M_leastOf_14 (hn_ii1 _) (by decide) rfl ?_
    refine wp_goto (tgt := 2) d_M_leastOf_17 (by decide) ?_
    rw [nI_1]
    exact ih hk2 (by rw [show M - (k + 1) = d by omega]; exact hs)
def szF (b : Nat → Nat) (M : Nat) (i : Nat) : Nat := sm (fun e => if b e = i then 1 else 0) M
theorem c_M_sizeOf {M i : Nat} {b : Nat → Nat} (σ : Hp) (hM : M ≤ 1500) (h7 : σ.1 56 7 = nI M) (hb : ∀ e, e < M → b e < 2 ^ 31) (h65 : ∀ e, e < M → σ.1 65 (4 * e) = nI (b e)) (hi : i < 2 ^ 31) : Ct m_M_sizeOf [.ref 56, .int (nI i)] σ (Rt (.int (nI (szF b M i))) σ) := by
  show WP m_M_sizeOf 0 [.ref 56, .int (nI i), .null, .null] [] σ _
  refine wp_iconst (v := 0) d_M_sizeOf_0 (by decide) ?_
  refine wp_istore2 d_M_sizeOf_1 (by decide) rfl ?_
  refine wp_iconst (v := 0) d_M_sizeOf_2 (by decide) ?_
  refine wp_istore3 d_M_sizeOf_3 (by decide) rfl ?_
  suffices H : ∀ e, e ≤ M → WP m_M_sizeOf 4 [.ref 56, .int (nI i), .int (nI (szF b e i)), .int (nI e)] [] σ (Rt (.int (nI (szF b M i))) σ) from H 0 (Nat.zero_le _)
  refine lp_nat (fun e he ih => ?_)
  refine wp_iload_n d_M_sizeOf_4 rfl ?_
  refine wp_aload_n d_M_sizeOf_5 rfl ?_
  refine wp_getI d_M_sizeOf_6 fl_M_117 rfl rfl (by decide) ?_
  refine wp_icmp_ge (tgt := 38) d_M_sizeOf_9 (by decide) (fun hc => ?_) (fun hc => ?_)
  · rw [h7] at hc
    obtain rfl := Nat.le_antisymm he (nI_ge2 hc (by omega) (by omega))
    refine wp_iload_n d_M_sizeOf_38 rfl ?_
    refine wp_iret d_M_sizeOf_39 rfl ?_
    exact ⟨rfl, rfl⟩
  · rw [h7] at hc
    have he2 := nI_nge hc (by omega) (by omega)
    have es : szF b (e + 1) i = szF b e i + (if b e = i then 1 else 0) := rfl
    have hb2 := hb e he2
    refine wp_iload_n d_M_sizeOf_12 rfl ?_
    refine wp_aload_n d_M_sizeOf_13 rfl ?_
    refine wp_getA d_M_sizeOf_14 fl_M_39 rfl rfl rfl ?_
    refine wp_iconst (v := 4) d_M_sizeOf_17 (by decide) ?_
    refine wp_iload_n d_M_sizeOf_18 rfl ?_
    refine wp_imul d_M_sizeOf_19 ?_
    rw [four0_nI]
    refine wp_iald d_M_sizeOf_20 rfl ?_ ?_
    · exact vp_in_nI (n := 4 * e) (by omega) (by decide)
    rw [nI_clamp (show 4 * e < 2 ^ 31 by omega), h65 e he2]
    have ih := ih he2
    refine wp_iload_n d_M_sizeOf_21 rfl ?_
    refine wp_icmp_ne (tgt := 29) d_M_sizeOf_22 (by decide) (fun hc2 => ?_) (fun hc2 => ?_)
    · rw [nI_eq (by omega) (by omega)] at hc2
      rw [es, if_neg hc2] at ih
      refine wp_iconst (v := 0) d_M_sizeOf_29 (by decide) ?_
      rw [show (0 : Int32) = nI 0 from rfl]
      refine wp_iadd d_M_sizeOf_30 ?_
      refine wp_istore2 d_M_sizeOf_31 (by decide) rfl ?_
      refine wp_iinc3 d_M_sizeOf_32 (hn_ii1 _) (by decide) rfl ?_
      refine wp_goto (tgt := 4) d_M_sizeOf_35 (by decide) ?_
      rw [nI_1, nI_add]
      exact ih
    · rw [nI_eq (by omega) (by omega)] at hc2
      rw [es, if_pos hc2] at ih
      refine wp_iconst (v := 1) d_M_sizeOf_25 (by decide) ?_
      refine wp_goto (tgt := 30) d_M_sizeOf_26 (by decide) ?_
      refine wp_iadd d_M_sizeOf_30 ?_
      refine wp_istore2 d_M_sizeOf_31 (by decide) rfl ?_
      refine wp_iinc3 d_M_sizeOf_32 (hn_ii1 _) (by decide) rfl ?_
      refine wp_goto (tgt := 4) d_M_sizeOf_35 (by decide) ?_
      rw [nI_1, nI_1]
      exact ih
/-- how many names of one column there are among those of a box (of all, if there is none named), the still ones only or all -/
def inS (N : Nat) (Q : BQ) (b bk : Nat → Nat) (i : Option Nat) (s : Bool) (e : Nat) (q : (Nat → Bool) × Nat) : (Nat → Bool) × Nat :=
  if ((i = none ∨ i = some (b e)) ∧ (s = true → stN N (itm Q e) = true)) ∧ q.1 (bk e) = false then (fu q.1 (bk e) true, q.2 + 1) else q
def inF (N : Nat) (Q : BQ) (b bk : Nat → Nat) (i : Option Nat) (s : Bool) (K : Nat) : (Nat → Bool) × Nat := it (inS N Q b bk i s) K (fun _ => false, 0)
def opI (i : Option Nat) : Int32 := match i with | none => -1 | some x => nI x
theorem c_M_inside {N L M k : Nat} {lm : Nat → Nat} {b bk : Nat → Nat} (i : Option Nat) (hi : ∀ x, i = some x → x < 2 ^ 31) (s : Bool) (σ : Hp) (hB : MB σ N) (hq : LQ σ N L lm M) (hk : k ≤ 3) (hb : ∀ e, e < M → b e < M ∧ bk e < M) (h65 : ∀ e, e < M → σ.1 65 (4 * e) = nI (b e)) (h65k : ∀ e, e < M → σ.1 65 (4 * e + k) = nI (bk e)) : Ct m_M_inside [.ref 56, .int (opI i), .int (nI k), .int (bz (s = true))] σ (fun w τ => w = some (.int (nI (inF N (EQ N L lm) b bk i s M).2)) ∧ Fp cmS σ τ) := by
  have h15 := hq.2.2.2.1
  have hlen := hq.2.2.1
  show WP m_M_inside 0 [.ref 56, .int (opI i), .int (nI k), .int (bz (s = true)), .null, .null, .null] [] σ _
  refine wp_iconst (v := 0) d_M_inside_0 (by decide) ?_
  refine wp_istore4 d_M_inside_1 (by decide) rfl ?_
  suffices H : ∀ e, e ≤ M → ∀ τ, Fp cmS σ τ → (∀ x, x < e → τ.1 72 x = 0) → WP m_M_inside 3 [.ref 56, .int (opI i), .int (nI k), .int (bz (s = true)), .int (nI e), .null, .null] [] τ (fun w τ => w = some (.int (nI (inF N (EQ N L lm) b bk i s M).2)) ∧ Fp cmS σ τ) from H 0 (Nat.zero_le _) σ Fp.rf (fun x hx => absurd hx (Nat.not_lt_zero x))
  refine lp_nat (fun e he ih τ hF h0 => ?_)
  have f7 : τ.1 56 7 = nI M := by rw [(hF 56 (by decide)).1]; exact hq.2.1
  refine wp_iload d_M_inside_3 rfl ?_
  refine wp_aload_n d_M_inside_5 rfl ?_
  refine wp_getI d_M_inside_6 fl_M_117 rfl rfl (by decide) ?_
  refine wp_icmp_ge (tgt := 26) d_M_inside_9 (by decide) (fun hc => ?_) (fun hc => ?_)
  · rw [f7] at hc
    obtain rfl := Nat.le_antisymm he (nI_ge2 hc (by omega) (by omega))
    refine wp_iconst (v := 0) d_M_inside_26 (by decide) ?_
    refine wp_istore4 d_M_inside_27 (by decide) rfl ?_
    refine wp_iconst (v := 0) d_M_inside_29 (by decide) ?_
    refine wp_istore5 d_M_inside_30 (by decide) rfl ?_
    suffices H : ∀ x, x ≤ e → ∀ (τ : Hp) (x6 : Value), Fp cmS σ τ → (∀ y, y < e → τ.1 72 y = bz ((inF N (EQ N L lm) b bk i s x).1 y = true)) → WP m_M_inside 32 [.ref 56, .int (opI i), .int (nI k), .int (bz (s = true)), .int (nI (inF N (EQ N L lm) b bk i s x).2), .int (nI x), x6] [] τ (fun w τ => w = some (.int (nI (inF N (EQ N L lm) b bk i s e).2)) ∧ Fp cmS σ τ) from H 0 (Nat.zero_le _) τ _ hF (fun y hy => by rw [h0 y hy]; rfl)
    clear h0 f7 hF ih τ
    refine lp_nat (fun x hx ih τ x6 hF hv => ?_)
    have f7 : τ.1 56 7 = nI e := by rw [(hF 56 (by decide)).1]; exact hq.2.1
    have f65 : τ.1 65 = σ.1 65 := (hF 65 (by decide)).1
    have hB1 := hF.MB (by decide) hB
    have hq1 : LQ τ N L lm e := hq.mv (by rw [(hF 56 (by decide)).1]) (by rw [(hF 56 (by decide)).1]) (hF 58 (by decide)).1 (hF 59 (by decide)).1 (hF 62 (by decide)).1 (hF 63 (by decide)).1 (hF 64 (by decide)).1
    refine wp_iload d_M_inside_32 rfl ?_
    refine wp_aload_n d_M_inside_34 rfl ?_
    refine wp_getI d_M_inside_35 fl_M_117 rfl rfl (by decide) ?_
    refine wp_icmp_ge (tgt := 111) d_M_inside_38 (by decide) (fun hc2 => ?_) (fun hc2 => ?_)
    · rw [f7] at hc2
      obtain rfl := Nat.le_antisymm hx (nI_ge2 hc2 (by omega) (by omega))
      refine wp_iload d_M_inside_111 rfl ?_
      refine wp_iret d_M_inside_113 rfl ?_
      exact ⟨rfl, hF⟩
    · rw [f7] at hc2
      have hx2 := nI_nge hc2 (by omega) (by omega)
      obtain ⟨b1, b2⟩ := hb x hx2
      obtain ⟨q, hqq⟩ : ∃ q, q = inF N (EQ N L lm) b bk i s x := ⟨_, rfl⟩
      have es : inF N (EQ N L lm) b bk i s (x + 1) = inS N (EQ N L lm) b bk i s x q := by rw [hqq]; rfl
      have ih := ih hx2
      rw [es] at ih
      rw [← hqq] at hv ⊢
      have skip : ¬ (((i = none ∨ i = some (b x)) ∧ (s = true → stN N (itm (EQ N L lm) x) = true)) ∧ q.1 (bk x) = false) → WP m_M_inside 105 [.ref 56, .int (opI i), .int (nI k), .int (bz (s = true)), .int (nI q.2), .int (nI x), .int (nI (bk x))] [] τ (fun w τ => w = some (.int (nI (inF N (EQ N L lm) b bk i s e).2)) ∧ Fp cmS σ τ) := by
        intro hn
        have e2 : inS N (EQ N L lm) b bk i s x q = q := if_neg hn
        rw [e2] at ih
        refine wp_iinc5 d_M_inside_105 (hn_ii1 _) (by decide) rfl ?_
        refine wp_goto (tgt := 32) d_M_inside_108 (by decide) ?_
        rw [nI_1]
        exact ih τ _ hF hv
      have fin : ((i = none ∨ i = some (b x)) ∧ (s = true → stN N (itm (EQ N L lm) x) = true)) → WP m_M_inside 84 [.ref 56, .int (opI i), .int (nI k), .int (bz (s = true)), .int (nI q.2), .int (nI x), .int (nI (bk x))] [] τ (fun w τ => w = some (.int (nI (inF N (EQ N L lm) b bk i s e).2)) ∧ Fp cmS σ τ) := by
        intro hy
        refine wp_aload_n d_M_inside_84 rfl ?_
        refine wp_getA d_M_inside_85 fl_M_60 rfl rfl rfl ?_
        refine wp_iload d_M_inside_88 rfl ?_
        refine wp_bald d_M_inside_90 rfl ?_ ?_
        · exact vp_in_nI (n := bk x) (by omega) (by decide)
        rw [nI_clamp (show bk x < 2 ^ 31 by omega), hv _ b2]
        refine wp_if_ne (tgt := 105) d_M_inside_91 (by decide) (fun hc3 => ?_) (fun hc3 => ?_)
        · have hc3 := bz_n0 hc3
          exact skip (fun r => by rw [hc3] at r; cases r.2)
        · have hc3 := bz_0.mp hc3
          have hf : q.1 (bk x) = false := by
            cases r : q.1 (bk x) with
            | false => rfl
            | true => exact absurd r hc3
          have e2 : inS N (EQ N L lm) b bk i s x q = (fu q.1 (bk x) true, q.2 + 1) := if_pos ⟨hy, hf⟩
          rw [e2] at ih
          refine wp_aload_n d_M_inside_94 rfl ?_
          refine wp_getA d_M_inside_95 fl_M_60 rfl rfl rfl ?_
          refine wp_iload d_M_inside_98 rfl ?_
          refine wp_iconst (v := 1) d_M_inside_100 (by decide) ?_
          refine wp_bast d_M_inside_101 rfl ?_ ?_ ?_
          · exact vp_in_nI (n := bk x) (by omega) (by decide)
          · decide
          rw [nI_clamp (show bk x < 2 ^ 31 by omega)]
          refine wp_iinc4 d_M_inside_102 (hn_ii1 _) (by decide) rfl ?_
          refine wp_iinc5 d_M_inside_105 (hn_ii1 _) (by decide) rfl ?_
          refine wp_goto (tgt := 32) d_M_inside_108 (by decide) ?_
          rw [nI_1, nI_1]
          refine ih _ _ (hF.wI (by decide)) (fun y hy => ?_)
          rw [wI_eq]
          by_cases r : y = bk x
          · rw [r, upd_eq]; show 1 = bz (fu q.1 (bk x) true (bk x) = true); rw [fu_eq]; rfl
          · rw [upd_ne r]; show _ = bz (fu q.1 (bk x) true y = true); rw [fu_ne r]; exact hv y hy
      have still : (i = none ∨ i = some (b x)) → WP m_M_inside 71 [.ref 56, .int (opI i), .int (nI k), .int (bz (s = true)), .int (nI q.2), .int (nI x), .int (nI (bk x))] [] τ (fun w τ => w = some (.int (nI (inF N (EQ N L lm) b bk i s e).2)) ∧ Fp cmS σ τ) := by
        intro hy
        refine wp_iload_n d_M_inside_71 rfl ?_
        refine wp_if_eq (tgt := 84) d_M_inside_72 (by decide) (fun hc3 => ?_) (fun hc3 => ?_)
        · have hc3 := bz_0.mp hc3
          exact fin ⟨hy, fun r => absurd r hc3⟩
        · have hc3 := bz_n0 hc3
          refine wp_aload_n d_M_inside_75 rfl ?_
          refine wp_iload d_M_inside_76 rfl ?_
          refine wp_callV1e d_M_inside_78 cv_M_148 rfl rfl rfl ⟨Nat.le_of_ble_eq_true rfl, Nat.le_of_ble_eq_true rfl⟩ (Nat.le_of_ble_eq_true rfl) (Nat.le_of_ble_eq_true rfl) (c_M_isStill _ hB1 hq1 hx2) ?_
          refine wp_if_eq (tgt := 105) d_M_inside_81 (by decide) (fun hc5 => ?_) (fun hc5 => ?_)
          · rw [bz_0] at hc5
            exact skip (fun r => hc5 (r.1.2 hc3))
          · have hc5 := bz_n0 hc5
            exact fin ⟨hy, fun _ => hc5⟩
      refine wp_aload_n d_M_inside_41 rfl ?_
      refine wp_getA d_M_inside_42 fl_M_39 rfl rfl rfl ?_
      refine wp_iconst (v := 4) d_M_inside_45 (by decide) ?_
      refine wp_iload d_M_inside_46 rfl ?_
      refine wp_imul d_M_inside_48 ?_
      refine wp_iload_n d_M_inside_49 rfl ?_
      refine wp_iadd d_M_inside_50 ?_
      rw [four_nI]
      refine wp_iald d_M_inside_51 rfl ?_ ?_
      · exact vp_in_nI (n := 4 * x + k) (by omega) (by decide)
      rw [nI_clamp (show 4 * x + k < 2 ^ 31 by omega), f65, h65k x hx2]
      refine wp_istore6 d_M_inside_52 (by decide) rfl ?_
      refine wp_iload_n d_M_inside_54 rfl ?_
      refine wp_if_lt (tgt := 71) d_M_inside_55 (by decide) (fun hc3 => ?_) (fun hc3 => ?_)
      · have hi0 : i = none := by
          cases i with
          | none => rfl
          | some y => exact absurd hc3 (nI_pos (hi y rfl))
        exact still (Or.inl hi0)
      · obtain ⟨y, rfl⟩ : ∃ y, i = some y := by
          cases i with
          | none => exact absurd (show opI none < 0 by decide) hc3
          | some y => exact ⟨y, rfl⟩
        have hy := hi y rfl
        refine wp_aload_n d_M_inside_58 rfl ?_
        refine wp_getA d_M_inside_59 fl_M_39 rfl rfl rfl ?_
        refine wp_iconst (v := 4) d_M_inside_62 (by decide) ?_
        refine wp_iload d_M_inside_63 rfl ?_
        refine wp_imul d_M_inside_65 ?_
        rw [four0_nI]
        refine wp_iald d_M_inside_66 rfl ?_ ?_
        · exact vp_in_nI (n := 4 * x) (by omega) (by decide)
        rw [nI_clamp (show 4 * x < 2 ^ 31 by omega), f65, h65 x hx2, show opI (some y) = nI y from rfl]
        refine wp_iload_n d_M_inside_67 rfl ?_
        refine wp_icmp_ne (tgt := 105) d_M_inside_68 (by decide) (fun hc5 => ?_) (fun hc5 => ?_)
        · rw [nI_eq (by omega) hy] at hc5
          exact skip (fun r => r.1.1.elim (fun r => by cases r) (fun r => hc5 (Option.some.inj r).symm))
        · rw [nI_eq (by omega) hy] at hc5
          exact still (Or.inr (by rw [hc5]))
  · rw [f7] at hc
    have he2 := nI_nge hc (by omega) (by omega)
    refine wp_aload_n d_M_inside_12 rfl ?_
    refine wp_getA d_M_inside_13 fl_M_60 rfl rfl rfl ?_
    refine wp_iload d_M_inside_16 rfl ?_
    refine wp_iconst (v := 0) d_M_inside_18 (by decide) ?_
    refine wp_bast d_M_inside_19 rfl ?_ ?_ ?_
    · exact vp_in_nI (n := e) (by omega) (by decide)
    · decide
    rw [nI_clamp (show e < 2 ^ 31 by omega)]
    refine wp_iinc4 d_M_inside_20 (hn_ii1 _) (by decide) rfl ?_
    refine wp_goto (tgt := 3) d_M_inside_23 (by decide) ?_
    rw [nI_1]
    refine ih he2 _ (hF.wI (by decide)) (fun x hx => ?_)
    rw [wI_eq]
    by_cases q : x = e
    · rw [q, upd_eq]
    · rw [upd_ne q]; exact h0 x (by omega)
/-- some still one is in the box -/
def rgF (N : Nat) (Q : BQ) (b : Nat → Nat) (i M : Nat) : Bool := (List.range M).any (fun e => decide (b e = i) && stN N (itm Q e))
theorem any_s {p : Nat → Bool} {j : Nat} : (List.range (j + 1)).any p = ((List.range j).any p || p j) := by
  rw [List.range_succ, List.any_append]
  simp
theorem bz_or1 (b : Bool) : bz (b = true) ||| 1 = 1 := by cases b <;> decide
theorem bz_or0 (b : Bool) : bz (b = true) ||| 0 = bz (b = true) := by cases b <;> decide
theorem c_M_isRegular {N L M i : Nat} {lm : Nat → Nat} {b : Nat → Nat} (hi : i < 2 ^ 31) (σ : Hp) (hB : MB σ N) (hq : LQ σ N L lm M) (hb : ∀ e, e < M → b e < M) (h65 : ∀ e, e < M → σ.1 65 (4 * e) = nI (b e)) : Ct m_M_isRegular [.ref 56, .int (nI i)] σ (Rt (.int (bz (rgF N (EQ N L lm) b i M = true))) σ) := by
  have h15 := hq.2.2.2.1
  have hlen := hq.2.2.1
  show WP m_M_isRegular 0 [.ref 56, .int (nI i), .null, .null] [] σ _
  refine wp_iconst (v := 0) d_M_isRegular_0 (by decide) ?_
  refine wp_istore2 d_M_isRegular_1 (by decide) rfl ?_
  refine wp_iconst (v := 0) d_M_isRegular_2 (by decide) ?_
  refine wp_istore3 d_M_isRegular_3 (by decide) rfl ?_
  suffices H : ∀ e, e ≤ M → WP m_M_isRegular 4 [.ref 56, .int (nI i), .int (bz (rgF N (EQ N L lm) b i e = true)), .int (nI e)] [] σ (Rt (.int (bz (rgF N (EQ N L lm) b i M = true))) σ) from H 0 (Nat.zero_le _)
  refine lp_nat (fun e he ih => ?_)
  refine wp_iload_n d_M_isRegular_4 rfl ?_
  refine wp_aload_n d_M_isRegular_5 rfl ?_
  refine wp_getI d_M_isRegular_6 fl_M_117 rfl rfl (by decide) ?_
  refine wp_icmp_ge (tgt := 46) d_M_isRegular_9 (by decide) (fun hc => ?_) (fun hc => ?_)
  · rw [hq.2.1] at hc
    obtain rfl := Nat.le_antisymm he (nI_ge2 hc (by omega) (by omega))
    refine wp_iload_n d_M_isRegular_46 rfl ?_
    refine wp_zret d_M_isRegular_47 rfl ?_ ?_
    · exact bz_nar
    · exact ⟨rfl, rfl⟩
  · rw [hq.2.1] at hc
    have he2 := nI_nge hc (by omega) (by omega)
    have hb2 := hb e he2
    have es : rgF N (EQ N L lm) b i (e + 1) = (rgF N (EQ N L lm) b i e || (decide (b e = i) && stN N (itm (EQ N L lm) e))) := any_s
    have ih := ih he2
    have no : (decide (b e = i) && stN N (itm (EQ N L lm) e)) = false → WP m_M_isRegular 37 [.ref 56, .int (nI i), .int (bz (rgF N (EQ N L lm) b i e = true)), .int (nI e)] [.int (bz (rgF N (EQ N L lm) b i e = true))] σ (Rt (.int (bz (rgF N (EQ N L lm) b i M = true))) σ) := by
      intro r
      rw [es, r, Bool.or_false] at ih
      refine wp_iconst (v := 0) d_M_isRegular_37 (by decide) ?_
      refine wp_ior d_M_isRegular_38 ?_
      rw [bz_or0]
      refine wp_istore2 d_M_isRegular_39 (by decide) rfl ?_
      refine wp_iinc3 d_M_isRegular_40 (hn_ii1 _) (by decide) rfl ?_
      refine wp_goto (tgt := 4) d_M_isRegular_43 (by decide) ?_
      rw [nI_1]
      exact ih
    refine wp_iload_n d_M_isRegular_12 rfl ?_
    refine wp_aload_n d_M_isRegular_13 rfl ?_
    refine wp_getA d_M_isRegular_14 fl_M_39 rfl rfl rfl ?_
    refine wp_iconst (v := 4) d_M_isRegular_17 (by decide) ?_
    refine wp_iload_n d_M_isRegular_18 rfl ?_
    refine wp_imul d_M_isRegular_19 ?_
    rw [four0_nI]
    refine wp_iald d_M_isRegular_20 rfl ?_ ?_
    · exact vp_in_nI (n := 4 * e) (by omega) (by decide)
    rw [nI_clamp (show 4 * e < 2 ^ 31 by omega), h65 e he2]
    refine wp_iload_n d_M_isRegular_21 rfl ?_
    refine wp_icmp_ne (tgt := 37) d_M_isRegular_22 (by decide) (fun hc2 => ?_) (fun hc2 => ?_)
    · rw [nI_eq (by omega) (by omega)] at hc2
      exact no (by rw [decide_eq_false hc2, Bool.false_and])
    · rw [nI_eq (by omega) (by omega)] at hc2
      refine wp_aload_n d_M_isRegular_25 rfl ?_
      refine wp_iload_n d_M_isRegular_26 rfl ?_
      refine wp_callV1e d_M_isRegular_27 cv_M_148 rfl rfl rfl ⟨Nat.le_of_ble_eq_true rfl, Nat.le_of_ble_eq_true rfl⟩ (Nat.le_of_ble_eq_true rfl) (Nat.le_of_ble_eq_true rfl) (c_M_isStill _ hB hq he2) ?_
      refine wp_if_eq (tgt := 37) d_M_isRegular_30 (by decide) (fun hc3 => ?_) (fun hc3 => ?_)
      · rw [bz_0] at hc3
        refine no ?_
        rw [decide_eq_true hc2, Bool.true_and]
        cases r : stN N (itm (EQ N L lm) e) with
        | false => rfl
        | true => exact absurd r hc3
      · have hc3 := bz_n0 hc3
        rw [es, decide_eq_true hc2, hc3, Bool.true_and, Bool.or_true, bz_t rfl] at ih
        refine wp_iconst (v := 1) d_M_isRegular_33 (by decide) ?_
        refine wp_goto (tgt := 38) d_M_isRegular_34 (by decide) ?_
        refine wp_ior d_M_isRegular_38 ?_
        rw [bz_or1]
        refine wp_istore2 d_M_isRegular_39 (by decide) rfl ?_
        refine wp_iinc3 d_M_isRegular_40 (hn_ii1 _) (by decide) rfl ?_
        refine wp_goto (tgt := 4) d_M_isRegular_43 (by decide) ?_
        rw [nI_1]
        exact ih
/-- the box of which the least comes: the least element of each box is asked, after the first element -/
def lbF (N L : Nat) (lm : Nat → Nat) (b : Nat → Nat) (M K : Nat) : Nat × Nat := it (fun i q => if (CQ N L lm (loF b M i)).length < q.2 then (loF b M i, (CQ N L lm (loF b M i)).length) else q) K (0, (CQ N L lm 0).length)
theorem c_M_leastBox {N L M B : Nat} {lm : Nat → Nat} {a b : Nat → Nat} (σ : Hp) (hL : LT σ N L lm) (hq : LQ σ N L lm M) (hT : TA σ N L lm (EQ N L lm)) (hR : RG M a b B) (h65 : ∀ e, e < M → σ.1 65 (4 * e) = nI (b e)) (h66 : σ.1 66 0 = nI B) : Ct m_M_leastBox [.ref 56] σ (fun w τ => w = some (.int (nI (b (lbF N L lm b M B).1))) ∧ Fp cmS σ τ) := by
  have h15 := hq.2.2.2.1
  have hlen := hq.2.2.1
  have h0M := hq.pos
  have hBM := hR.le
  have hst := CQ_st hT hlen
  have lenM : ∀ e, e < M → (CQ N L lm e).length ≤ M := fun e he => by
    have hQ := BI.Q (st := spS N L lm) (L := 2 * L) (s := e) (n15 N)
    exact hQ.len (hQ.bd he hst)
  have loM : ∀ i, i < B → loF b M i < M := fun i hi => by
    obtain ⟨e0, he0, hb0⟩ := hR.2.1 i hi
    have hlt : loF b M i < 0 + M := sr_ex _ _ ⟨e0, Nat.zero_le _, by omega, hb0⟩
    omega
  have lbM : ∀ K, K ≤ B → (lbF N L lm b M K).1 < M ∧ (lbF N L lm b M K).2 ≤ M := by
    intro K
    induction K with
    | zero => intro _; exact ⟨h0M, lenM 0 h0M⟩
    | succ K ih =>
      intro hK
      obtain ⟨i1, i2⟩ := ih (by omega)
      have l1 := loM K (by omega)
      have l2 := lenM _ l1
      show (if (CQ N L lm (loF b M K)).length < (lbF N L lm b M K).2 then (loF b M K, (CQ N L lm (loF b M K)).length) else lbF N L lm b M K).1 < M ∧ (if (CQ N L lm (loF b M K)).length < (lbF N L lm b M K).2 then (loF b M K, (CQ N L lm (loF b M K)).length) else lbF N L lm b M K).2 ≤ M
      split
      · exact ⟨l1, l2⟩
      · exact ⟨i1, i2⟩
  show WP m_M_leastBox 0 [.ref 56, .null, .null, .null, .null, .null] [] σ _
  refine wp_iconst (v := 0) d_M_leastBox_0 (by decide) ?_
  refine wp_istore1 d_M_leastBox_1 (by decide) rfl ?_
  refine wp_aload_n d_M_leastBox_2 rfl ?_
  refine wp_iconst (v := 0) d_M_leastBox_3 (by decide) ?_
  rw [show (0 : Int32) = nI 0 from rfl]
  refine wp_callV1 d_M_leastBox_4 cv_M_167 rfl rfl rfl ⟨Nat.le_of_ble_eq_true rfl, Nat.le_of_ble_eq_true rfl⟩ (Nat.le_of_ble_eq_true rfl) (Nat.le_of_ble_eq_true rfl) (c_M_comes h0M _ hL hq hT) (fun v τ hv => ?_)
  obtain ⟨rfl, hF, -⟩ := hv
  show WP m_M_leastBox 7 _ [.int _] τ _
  refine wp_istore2 d_M_leastBox_7 (by decide) rfl ?_
  refine wp_iconst (v := 0) d_M_leastBox_8 (by decide) ?_
  refine wp_istore3 d_M_leastBox_9 (by decide) rfl ?_
  suffices H : ∀ i, i ≤ B → ∀ (τ : Hp) (x4 x5 : Value), x4.category = 1 → Fp cmS σ τ → WP m_M_leastBox 10 [.ref 56, .int (nI (lbF N L lm b M i).1), .int (nI (lbF N L lm b M i).2), .int (nI i), x4, x5] [] τ (fun w τ => w = some (.int (nI (b (lbF N L lm b M B).1))) ∧ Fp cmS σ τ) from H 0 (Nat.zero_le _) τ _ _ rfl hF
  clear hF τ
  refine lp_nat (fun i hi ih τ x4 x5 hx4 hF => ?_)
  have f65 : τ.1 65 = σ.1 65 := (hF 65 (by decide)).1
  have f66 : τ.1 66 = σ.1 66 := (hF 66 (by decide)).1
  have hL1 := hF.LT (by decide) (by decide) hL
  have hq1 : LQ τ N L lm M := hq.mv (by rw [(hF 56 (by decide)).1]) (by rw [(hF 56 (by decide)).1]) (hF 58 (by decide)).1 (hF 59 (by decide)).1 (hF 62 (by decide)).1 (hF 63 (by decide)).1 (hF 64 (by decide)).1
  have hT1 : TA τ N L lm (EQ N L lm) := fun x l hx hl => by rw [(hF 60 (by decide)).1, (hF 61 (by decide)).1]; exact hT x l hx hl
  obtain ⟨m1, m2⟩ := lbM i hi
  refine wp_iload_n d_M_leastBox_10 rfl ?_
  refine wp_aload_n d_M_leastBox_11 rfl ?_
  refine wp_getA d_M_leastBox_12 fl_M_42 rfl rfl rfl ?_
  refine wp_iconst (v := 0) d_M_leastBox_15 (by decide) ?_
  refine wp_iald d_M_leastBox_16 rfl ?_ ?_
  · exact vp_in_nI (n := 0) (by decide) (by decide)
  rw [show (0 : Int32).toNatClampNeg = 0 by decide, f66, h66]
  refine wp_icmp_ge (tgt := 53) d_M_leastBox_17 (by decide) (fun hc => ?_) (fun hc => ?_)
  · obtain rfl := Nat.le_antisymm hi (nI_ge2 hc (by omega) (by omega))
    refine wp_aload_n d_M_leastBox_53 rfl ?_
    refine wp_getA d_M_leastBox_54 fl_M_39 rfl rfl rfl ?_
    refine wp_iconst (v := 4) d_M_leastBox_57 (by decide) ?_
    refine wp_iload_n d_M_leastBox_58 rfl ?_
    refine wp_imul d_M_leastBox_59 ?_
    rw [four0_nI]
    refine wp_iald d_M_leastBox_60 rfl ?_ ?_
    · exact vp_in_nI (n := 4 * (lbF N L lm b M i).1) (by omega) (by decide)
    rw [nI_clamp (show 4 * (lbF N L lm b M i).1 < 2 ^ 31 by omega), f65, h65 _ m1]
    refine wp_iret d_M_leastBox_61 rfl ?_
    exact ⟨rfl, hF⟩
  · have hi2 := nI_nge hc (by omega) (by omega)
    have l1 := loM i hi2
    have l2 := lenM _ l1
    have es : lbF N L lm b M (i + 1) = (if (CQ N L lm (loF b M i)).length < (lbF N L lm b M i).2 then (loF b M i, (CQ N L lm (loF b M i)).length) else lbF N L lm b M i) := rfl
    have ih := ih hi2
    refine wp_aload_n d_M_leastBox_20 rfl ?_
    refine wp_iload_n d_M_leastBox_21 rfl ?_
    refine wp_callV1e d_M_leastBox_22 cv_M_170 rfl rfl rfl ⟨Nat.le_of_ble_eq_true rfl, Nat.le_of_ble_eq_true rfl⟩ (Nat.le_of_ble_eq_true rfl) (Nat.le_of_ble_eq_true rfl) (c_M_leastOf _ h15 hR (fun e he => by rw [f65]; exact h65 e he) hi2) ?_
    refine wp_istore4 d_M_leastBox_25 (by decide) rfl ?_
    refine wp_aload_n d_M_leastBox_27 rfl ?_
    refine wp_iload d_M_leastBox_28 rfl ?_
    refine wp_callV1 d_M_leastBox_30 cv_M_167 rfl rfl rfl ⟨Nat.le_of_ble_eq_true rfl, Nat.le_of_ble_eq_true rfl⟩ (Nat.le_of_ble_eq_true rfl) (Nat.le_of_ble_eq_true rfl) (c_M_comes l1 _ hL1 hq1 hT1) (fun v υ hv => ?_)
    obtain ⟨rfl, hF2, -⟩ := hv
    show WP m_M_leastBox 33 _ [.int _] υ _
    refine wp_istore5 d_M_leastBox_33 (by decide) rfl ?_
    refine wp_iload d_M_leastBox_35 rfl ?_
    refine wp_iload_n d_M_leastBox_37 rfl ?_
    refine wp_icmp_ge (tgt := 47) d_M_leastBox_38 (by decide) (fun hc2 => ?_) (fun hc2 => ?_)
    · rw [nI_leN (by omega) (by omega)] at hc2
      rw [es, if_neg (by omega)] at ih
      refine wp_iinc3 d_M_leastBox_47 (hn_ii1 _) (by decide) rfl ?_
      refine wp_goto (tgt := 10) d_M_leastBox_50 (by decide) ?_
      rw [nI_1]
      exact ih υ _ _ rfl (hF.tr hF2)
    · rw [nI_leN (by omega) (by omega)] at hc2
      rw [es, if_pos (by omega)] at ih
      refine wp_iload d_M_leastBox_41 rfl ?_
      refine wp_istore2 d_M_leastBox_43 (by decide) rfl ?_
      refine wp_iload d_M_leastBox_44 rfl ?_
      refine wp_istore1 d_M_leastBox_46 (by decide) rfl ?_
      refine wp_iinc3 d_M_leastBox_47 (hn_ii1 _) (by decide) rfl ?_
      refine wp_goto (tgt := 10) d_M_leastBox_50 (by decide) ?_
      rw [nI_1]
      exact ih υ _ _ rfl (hF.tr hF2)
