/-! walks of the class: all that comes, in order, with the words to it -/
/-- the list, each thing under its number cd -/
def KW (cd : Nat → Nat) (τ : Hp) (r q a b c : Nat) (Q : BQ) : Prop := τ.1 r 4 = nI Q.length ∧ (∀ j, j < Q.length → τ.1 q j = nI (cd (itm Q j)) ∧ τ.1 c (cd (itm Q j)) = nI (dep Q j) ∧ (0 < j → τ.1 a (cd (itm Q j)) = nI (cd (itm Q (par Q j))) ∧ τ.1 b (cd (itm Q j)) = nI (ltr Q j))) ∧ ∀ x, x < 64 → (bl (τ.2 r 5) x = true ↔ ∃ j, j < Q.length ∧ cd (itm Q j) = x)
def CdH (B : Nat) (cd : Nat → Nat) : Prop := B ≤ 64 ∧ (∀ x, x < B → cd x < 64) ∧ ∀ x y, x < B → y < B → cd x = cd y → x = y
theorem kw_cells {r q t a b c : Nat} (h : KwK r q t a b c) (hd : a ≠ b ∧ a ≠ c ∧ b ≠ c) {τ : Hp} {cx k z len dI : Nat} (hcx : cx < 64) (hz : z < 64) (hlen : len < 64) (h4 : τ.1 r 4 = nI len) (hdep : τ.1 c cx = nI dI) :
    (mtW (grW τ a b c 64 (nI cx) (nI k) (nI z)) r q (nI z)).1 r 4 = nI (len + 1) ∧ (mtW (grW τ a b c 64 (nI cx) (nI k) (nI z)) r q (nI z)).1 r 1 = τ.1 r 1 ∧ (mtW (grW τ a b c 64 (nI cx) (nI k) (nI z)) r q (nI z)).1 q = upd (τ.1 q) len (nI z) ∧ (mtW (grW τ a b c 64 (nI cx) (nI k) (nI z)) r q (nI z)).1 a = upd (τ.1 a) z (nI cx) ∧ (mtW (grW τ a b c 64 (nI cx) (nI k) (nI z)) r q (nI z)).1 b = upd (τ.1 b) z (nI k) ∧ (mtW (grW τ a b c 64 (nI cx) (nI k) (nI z)) r q (nI z)).1 c = upd (τ.1 c) z (nI (dI + 1)) ∧ (mtW (grW τ a b c 64 (nI cx) (nI k) (nI z)) r q (nI z)).2 r 5 = stL (τ.2 r 5) (nI z) := by
  obtain ⟨-, -, -, -, -, n1, n2, n3, n4, n5, n6, n7⟩ := h
  obtain ⟨d1, d2, d3⟩ := hd
  have eg : grW τ a b c 64 (nI cx) (nI k) (nI z) = wI (wI (wI τ a z (nI cx)) b z (nI k)) c z (nI (dI + 1)) := by
    have e1 : rdA (wI (wI τ a z (nI cx)) b z (nI k)) c 64 (nI cx) = nI dI := by
      rw [rdA_in hcx (by decide), wI_ne (Ne.symm d3), wI_ne (Ne.symm d2)]
      exact hdep
    unfold grW
    rw [wrA_in hz (by decide), wrA_in hz (by decide), wrA_in hz (by decide), e1, nI_1]
  rw [eg]
  have e4 : (wI (wI (wI τ a z (nI cx)) b z (nI k)) c z (nI (dI + 1))).1 r = τ.1 r := by rw [wI_ne (Ne.symm n4), wI_ne (Ne.symm n3), wI_ne (Ne.symm n2)]
  have em : mtW (wI (wI (wI τ a z (nI cx)) b z (nI k)) c z (nI (dI + 1))) r q (nI z) = wI (wI (wL (wI (wI (wI τ a z (nI cx)) b z (nI k)) c z (nI (dI + 1))) r 5 (stL (τ.2 r 5) (nI z))) q len (nI z)) r 4 (nI (len + 1)) := by
    unfold mtW
    rw [e4, h4, wrA_in hlen (by decide), nI_1]
    rfl
  rw [em]
  refine ⟨?_, ?_, ?_, ?_, ?_, ?_, ?_⟩
  · rw [wI_eq, upd_eq]
  · rw [wI_eq, upd_ne (by decide), wI_ne (Ne.symm n1)]
    show (wI (wI (wI τ a z (nI cx)) b z (nI k)) c z (nI (dI + 1))).1 r 1 = _
    rw [e4]
  · rw [wI_ne n1, wI_eq]
    show upd ((wI (wI (wI τ a z (nI cx)) b z (nI k)) c z (nI (dI + 1))).1 q) len (nI z) = _
    rw [wI_ne n7, wI_ne n6, wI_ne n5]
  · rw [wI_ne n2, wI_ne (Ne.symm n5)]
    show (wI (wI (wI τ a z (nI cx)) b z (nI k)) c z (nI (dI + 1))).1 a = _
    rw [wI_ne d2, wI_ne d1, wI_eq]
  · rw [wI_ne n3, wI_ne (Ne.symm n6)]
    show (wI (wI (wI τ a z (nI cx)) b z (nI k)) c z (nI (dI + 1))).1 b = _
    rw [wI_ne d3, wI_eq, wI_ne (Ne.symm d1)]
  · rw [wI_ne n4, wI_ne (Ne.symm n7)]
    show (wI (wI (wI τ a z (nI cx)) b z (nI k)) c z (nI (dI + 1))).1 c = _
    rw [wI_eq, wI_ne (Ne.symm d3), wI_ne (Ne.symm d2)]
  · show (wL (wI (wI (wI τ a z (nI cx)) b z (nI k)) c z (nI (dI + 1))) r 5 (stL (τ.2 r 5) (nI z))).2 r 5 = _
    rw [wL_eq]
    exact if_pos rfl
theorem KW.add {r q t a b c : Nat} (h : KwK r q t a b c) (hd : a ≠ b ∧ a ≠ c ∧ b ≠ c) {st : Nat → Nat → Nat} {L s i k B : Nat} {cd : Nat → Nat} {Q : BQ} {τ : Hp} (hcd : CdH B cd) (hI : BI st L s Q) (hQ : ∀ j, j < Q.length → itm Q j < B) (hw : st k (itm Q i) < B) (hi : i < Q.length) (hk : k < L) (hn : hasB Q (st k (itm Q i)) = false) (hK : KW cd τ r q a b c Q) :
    KW cd (mtW (grW τ a b c 64 (nI (cd (itm Q i))) (nI k) (nI (cd (st k (itm Q i))))) r q (nI (cd (st k (itm Q i))))) r q a b c (Q ++ [(st k (itm Q i), i, k)]) ∧ (mtW (grW τ a b c 64 (nI (cd (itm Q i))) (nI k) (nI (cd (st k (itm Q i))))) r q (nI (cd (st k (itm Q i))))).1 r 1 = τ.1 r 1 := by
  obtain ⟨c1, c2, c3⟩ := hcd
  obtain ⟨k1, k2, k3⟩ := hK
  have hI2 := hI.add hi hk hn
  obtain ⟨d1, d2⟩ := dep_app hI hi hk hn
  have hQ2 : ∀ j, j < (Q ++ [(st k (itm Q i), i, k)]).length → itm (Q ++ [(st k (itm Q i), i, k)]) j < B := fun j hj => by
    simp only [List.length_append, List.length_cons, List.length_nil] at hj
    rcases Nat.lt_or_ge j Q.length with q2 | q2
    · rw [itm_old q2]
      exact hQ j q2
    · obtain rfl : j = Q.length := by omega
      rw [itm_app]
      exact hw
  have hlen := hI2.len hQ2
  simp only [List.length_append, List.length_cons, List.length_nil] at hlen
  have hcx := c2 _ (hQ i hi)
  have hcz := c2 _ hw
  obtain ⟨e1, e2, e3, e4, e5, e6, e7⟩ := kw_cells h hd (k := k) hcx hcz (show Q.length < 64 by omega) k1 (k2 i hi).2.1
  generalize hτ' : mtW (grW τ a b c 64 (nI (cd (itm Q i))) (nI k) (nI (cd (st k (itm Q i))))) r q (nI (cd (st k (itm Q i)))) = τ' at e1 e2 e3 e4 e5 e6 e7 ⊢
  obtain ⟨w, hwe⟩ : ∃ w, w = st k (itm Q i) := ⟨_, rfl⟩
  rw [← hwe] at hw hn d1 d2 hcz e3 e4 e5 e6 e7 ⊢
  have nn : ∀ j, j < Q.length → cd (itm Q j) ≠ cd w := fun j hj e => by
    rw [hasB_iff.mpr ⟨j, hj, c3 _ _ (hQ j hj) hw e⟩] at hn
    cases hn
  refine ⟨⟨by rw [e1]; simp, fun j hj => ?_, fun x hx => ?_⟩, e2⟩
  · simp only [List.length_append, List.length_cons, List.length_nil] at hj
    rw [e3, e4, e5, e6]
    rcases Nat.lt_or_ge j Q.length with q2 | q2
    · have hp : 0 < j → par Q j < Q.length := fun h0 => Nat.lt_trans (hI.2.2.2 j h0 q2).1 q2
      rw [itm_old q2, par_old q2, ltr_old q2, upd_ne (by omega), upd_ne (nn j q2), upd_ne (nn j q2), upd_ne (nn j q2), d2 j q2]
      refine ⟨(k2 j q2).1, (k2 j q2).2.1, fun h0 => ?_⟩
      rw [itm_old (hp h0)]
      exact (k2 j q2).2.2 h0
    · obtain rfl : j = Q.length := by omega
      rw [itm_app, par_app, ltr_app, upd_eq, upd_eq, upd_eq, upd_eq, d1, itm_old hi]
      exact ⟨rfl, rfl, fun _ => ⟨rfl, rfl⟩⟩
  · rw [e7, bl_stL hcz hx, Bool.or_eq_true, decide_eq_true_eq, k3 x hx]
    constructor
    · rintro (⟨j, hj, e⟩ | e)
      · exact ⟨j, by simp; omega, by rw [itm_old hj]; exact e⟩
      · exact ⟨Q.length, by simp, by rw [itm_app]; exact e⟩
    · rintro ⟨j, hj, e⟩
      simp only [List.length_append, List.length_cons, List.length_nil] at hj
      rcases Nat.lt_or_ge j Q.length with q2 | q2
      · rw [itm_old q2] at e
        exact Or.inl ⟨j, q2, e⟩
      · obtain rfl : j = Q.length := by omega
        rw [itm_app] at e
        exact Or.inr e
theorem c_K_walkFrom {r q t a b c N L B s : Nat} {st : Nat → Nat → Nat} {cd : Nat → Nat} (h : KwK r q t a b c) (hdis : a ≠ b ∧ a ≠ c ∧ b ≠ c) (hcd : CdH B cd) (hs : s < B) (σ : Hp) (hI : KI σ N L) (hst : ∀ k x, k < L → x < B → st k x < B ∧ (if σ.1 r 1 = 0 then osF (σ.1 2 k) (nI (cd x)) else opF (σ.1 2 k) (nI (cd x))) = nI (cd (st k x))) :
    Ct m_K_walkFrom [.ref r, .int (nI (cd s))] σ (fun w τ => w = none ∧ Fp [r, q, a, b, c] σ τ ∧ τ.1 r 1 = σ.1 r 1 ∧ KW cd τ r q a b c (bfQ st L s 64)) := by
  have h0 := h
  obtain ⟨hr, hq, ht, h1, h2, h3, h5, h6, h7, h8, h9, h10⟩ := h
  obtain ⟨hn, g1, g6, hl, g4⟩ := hI
  have hcs := hcd.2.1 s hs
  have hitm : ∀ n, ∀ j, j < (bfQ st L s n).length → itm (bfQ st L s n) j < B := fun n => (BI.Q n).bd hs (fun k x hk hx => (hst k x hk hx).1)
  show WP m_K_walkFrom 0 [.ref r, .int (nI (cd s)), .null, .null] [] σ _
  refine wp_aload_n d_K_walkFrom_0 rfl ?_
  refine wp_iconst (v := 0) d_K_walkFrom_1 (by decide) ?_
  refine wp_putI d_K_walkFrom_2 fp_K_32 hr rfl (by decide) rfl rfl ?_
  refine wp_aload_n d_K_walkFrom_5 rfl ?_
  refine wp_lconst (v := 0) d_K_walkFrom_6 (by decide) ?_
  refine wp_putL d_K_walkFrom_7 fp_K_36 hr rfl ?_
  refine wp_aload_n d_K_walkFrom_10 rfl ?_
  refine wp_getA d_K_walkFrom_11 fl_K_20 hr rfl rfl ?_
  refine wp_iload_n d_K_walkFrom_14 rfl ?_
  refine wp_callV1v d_K_walkFrom_15 cv_K_40 ht.1 rfl rfl ⟨Nat.le_of_ble_eq_true rfl, Nat.le_of_ble_eq_true rfl⟩ (Nat.le_of_ble_eq_true rfl) (Nat.le_of_ble_eq_true rfl) (c_R_begin ht _ _) ?_
  refine wp_aload_n d_K_walkFrom_18 rfl ?_
  refine wp_iload_n d_K_walkFrom_19 rfl ?_
  refine wp_callV1v d_K_walkFrom_20 cv_K_43 hr rfl rfl ⟨Nat.le_of_ble_eq_true rfl, Nat.le_of_ble_eq_true rfl⟩ (Nat.le_of_ble_eq_true rfl) (Nat.le_of_ble_eq_true rfl) (c_K_meet h0 _ _) ?_
  refine wp_iconst (v := 0) d_K_walkFrom_23 (by decide) ?_
  refine wp_istore2 d_K_walkFrom_24 (by decide) rfl ?_
  suffices H : ∀ i, i ≤ 64 → ∀ (τ : Hp) (x3 : Value), KW cd τ r q a b c (bfQ st L s i) → τ.1 r 1 = σ.1 r 1 → Fp [r, q, a, b, c] σ τ → WP m_K_walkFrom 25 [.ref r, .int (nI (cd s)), .int (nI i), x3] [] τ (fun w τ => w = none ∧ Fp [r, q, a, b, c] σ τ ∧ τ.1 r 1 = σ.1 r 1 ∧ KW cd τ r q a b c (bfQ st L s 64)) by
    have hF0 : Fp [r, q, a, b, c] σ (wrA (wL (wI σ r 4 0) r 5 0) c 64 (nI (cd s)) 0) := ((Fp.rf.wI (by simp)).wL (by simp)).wrA (by simp)
    refine H 0 (Nat.zero_le _) _ _ ?_ ?_ (hF0.tr mtW_Fp)
    · have e0 : wrA (wL (wI σ r 4 0) r 5 0) c 64 (nI (cd s)) 0 = wI (wL (wI σ r 4 0) r 5 0) c (cd s) 0 := wrA_in hcs (by decide)
      have em : mtW (wrA (wL (wI σ r 4 0) r 5 0) c 64 (nI (cd s)) 0) r q (nI (cd s)) = wI (wI (wL (wI (wL (wI σ r 4 0) r 5 0) c (cd s) 0) r 5 (stL 0 (nI (cd s)))) q 0 (nI (cd s))) r 4 (nI 1) := by
        rw [e0]
        unfold mtW
        have a1 : (wI (wL (wI σ r 4 0) r 5 0) c (cd s) 0).1 r 4 = nI 0 := by
          rw [wI_ne (Ne.symm h7)]
          show (wI σ r 4 0).1 r 4 = nI 0
          rw [wI_eq, upd_eq]
          rfl
        have a2 : (wI (wL (wI σ r 4 0) r 5 0) c (cd s) 0).2 r 5 = 0 := by
          show (wL (wI σ r 4 0) r 5 0).2 r 5 = 0
          rw [wL_eq]
          exact if_pos rfl
        rw [a1, a2, wrA_in (by decide) (by decide), nI_1]
      rw [em]
      refine ⟨by rw [wI_eq, upd_eq]; rfl, fun j hj => ?_, fun x hx => ?_⟩
      · have hj0 : j = 0 := by
          have : j < 1 := hj
          omega
        subst hj0
        refine ⟨?_, ?_, fun z => absurd z (Nat.lt_irrefl 0)⟩
        · rw [wI_ne h3, wI_eq, upd_eq]
          rfl
        · rw [wI_ne h7, wI_ne (Ne.symm h10)]
          show (wI (wL (wI σ r 4 0) r 5 0) c (cd s) 0).1 c (cd s) = nI 0
          rw [wI_eq, upd_eq]
          rfl
      · show bl ((wL (wI (wL (wI σ r 4 0) r 5 0) c (cd s) 0) r 5 (stL 0 (nI (cd s)))).2 r 5) x = true ↔ _
        rw [wL_eq, show vp_updL ((wI (wL (wI σ r 4 0) r 5 0) c (cd s) 0).2 r) 5 (stL 0 (nI (cd s))) 5 = stL 0 (nI (cd s)) from if_pos rfl, bl_stL hcs hx, bl_0, Bool.false_or, decide_eq_true_eq]
        exact ⟨fun z => ⟨0, Nat.zero_lt_one, z⟩, fun ⟨j, hj, z⟩ => by
          have hj0 : j = 0 := by
            have : j < 1 := hj
            omega
          subst hj0
          exact z⟩
    · have e0 : wrA (wL (wI σ r 4 0) r 5 0) c 64 (nI (cd s)) 0 = wI (wL (wI σ r 4 0) r 5 0) c (cd s) 0 := wrA_in hcs (by decide)
      rw [e0]
      unfold mtW
      rw [wI_eq, upd_ne (by decide), wrA_ne (Ne.symm h3)]
      show (wI (wL (wI σ r 4 0) r 5 0) c (cd s) 0).1 r 1 = σ.1 r 1
      rw [wI_ne (Ne.symm h7)]
      show (wI σ r 4 0).1 r 1 = σ.1 r 1
      rw [wI_eq, upd_ne (by decide)]
  refine lp_nat (fun i hi ih τ x3 hKW hfl hF => ?_)
  have e1 : τ.1 1 = σ.1 1 := (hF 1 h1).1
  have hlen : (bfQ st L s i).length ≤ B := (BI.Q i).len (hitm i)
  have hB := hcd.1
  have stop : (bfQ st L s i).length ≤ i → bfQ st L s 64 = bfQ st L s i := fun z => by
    have := bfQ_stop z (64 - i)
    rwa [show i + (64 - i) = 64 by omega] at this
  refine wp_iload_n d_K_walkFrom_25 rfl ?_
  refine wp_aload_n d_K_walkFrom_26 rfl ?_
  refine wp_getI d_K_walkFrom_27 fl_K_32 hr rfl (by decide) ?_
  refine wp_icmp_ge (tgt := 77) d_K_walkFrom_30 (by decide) (fun hc => ?_) (fun hc => ?_)
  · rw [hKW.1] at hc
    have hle := nI_ge2 hc (by omega) (by omega)
    refine wp_vret d_K_walkFrom_77 rfl ?_
    exact ⟨rfl, hF, hfl, by rw [stop hle]; exact hKW⟩
  · rw [hKW.1] at hc
    have hi3 := nI_nge hc (by omega) (by omega)
    refine wp_iload_n d_K_walkFrom_33 rfl ?_
    refine wp_bipush (v := 64) d_K_walkFrom_34 (by decide) ?_
    refine wp_icmp_ge (tgt := 77) d_K_walkFrom_36 (by decide) (fun hc2 => ?_) (fun hc2 => ?_)
    · have hi4 := nI_ge2 (b := 64) hc2 (by omega) (by omega)
      refine wp_vret d_K_walkFrom_77 rfl ?_
      exact ⟨rfl, hF, hfl, by rw [show (64 : Nat) = i by omega]; exact hKW⟩
    · have hi2 := nI_nge (b := 64) hc2 (by omega) (by omega)
      refine wp_iconst (v := 0) d_K_walkFrom_39 (by decide) ?_
      refine wp_istore3 d_K_walkFrom_40 (by decide) rfl ?_
      suffices H : ∀ k, k ≤ L → ∀ (τ : Hp), KW cd τ r q a b c (it (fun k Q => bfA st i k Q) k (bfQ st L s i)) → τ.1 r 1 = σ.1 r 1 → Fp [r, q, a, b, c] σ τ → WP m_K_walkFrom 41 [.ref r, .int (nI (cd s)), .int (nI i), .int (nI k)] [] τ (fun w τ => w = none ∧ Fp [r, q, a, b, c] σ τ ∧ τ.1 r 1 = σ.1 r 1 ∧ KW cd τ r q a b c (bfQ st L s 64)) from H 0 (Nat.zero_le _) τ hKW hfl hF
      clear hKW hfl hF e1 hc τ
      refine lp_nat (fun k hk ih2 τ hKW hfl hF => ?_)
      have e1 : τ.1 1 = σ.1 1 := (hF 1 h1).1
      refine wp_iload_n d_K_walkFrom_41 rfl ?_
      refine wp_aload_n d_K_walkFrom_42 rfl ?_
      refine wp_getA d_K_walkFrom_43 fl_K_24 hr rfl rfl ?_
      refine wp_getI d_K_walkFrom_46 fl_K_46 rfl rfl (by decide) ?_
      refine wp_icmp_ge (tgt := 71) d_K_walkFrom_49 (by decide) (fun hc3 => ?_) (fun hc3 => ?_)
      · rw [e1, hl] at hc3
        obtain rfl := Nat.le_antisymm hk (nI_ge2 hc3 (by omega) (by omega))
        refine wp_iinc2 d_K_walkFrom_71 (hn_ii1 _) (by decide) rfl ?_
        refine wp_goto (tgt := 25) d_K_walkFrom_74 (by decide) ?_
        rw [nI_1]
        refine ih hi2 τ _ ?_ hfl hF
        rw [bfQ_s hi3]
        exact hKW
      · rw [e1, hl] at hc3
        have hk2 := nI_nge hc3 (by omega) (by omega)
        have hBI := (BI.Q (st := st) (L := L) (s := s) i).K hi3 k hk
        have hpre := bfK_pre (st := st) (i := i) (Q := bfQ st L s i) k
        have hQk := hBI.bd hs (fun k x hk hx => (hst k x hk hx).1)
        have hik : i < (it (fun k Q => bfA st i k Q) k (bfQ st L s i)).length := Nat.lt_of_lt_of_le hi3 hpre.1
        have hbA : it (fun k Q => bfA st i k Q) (k + 1) (bfQ st L s i) = bfA st i k (it (fun k Q => bfA st i k Q) k (bfQ st L s i)) := rfl
        rw [hbA] at ih2
        generalize it (fun k Q => bfA st i k Q) k (bfQ st L s i) = Q at *
        have hst2 := hst k (itm Q i) hk2 (hQk i hik)
        refine wp_aload_n d_K_walkFrom_52 rfl ?_
        refine wp_aload_n d_K_walkFrom_53 rfl ?_
        refine wp_getA d_K_walkFrom_54 fl_K_11 hr rfl rfl ?_
        refine wp_iload_n d_K_walkFrom_57 rfl ?_
        refine wp_callSN2e d_K_walkFrom_58 csn_K_49 ⟨Nat.le_of_ble_eq_true rfl, Nat.le_of_ble_eq_true rfl⟩ (Nat.le_of_ble_eq_true rfl) (Nat.le_of_ble_eq_true rfl) (c_P_at hq (by decide) _ _) ?_
        rw [rdA_in hi2 (by decide), (hKW.2.1 i hik).1]
        refine wp_iload_n d_K_walkFrom_61 rfl ?_
        refine wp_callV2 d_K_walkFrom_62 cv_K_53 hr rfl rfl ⟨Nat.le_of_ble_eq_true rfl, Nat.le_of_ble_eq_true rfl⟩ (Nat.le_of_ble_eq_true rfl) (Nat.le_of_ble_eq_true rfl) (c_K_step h0 _ k (by omega) _) (fun v υ hv => ?_)
        obtain ⟨rfl, z, hz, hυ⟩ := hv
        rw [hfl, (hF 2 h2).1, hst2.2] at hz
        subst hz
        obtain ⟨hF2, -⟩ := K_step_Fp h0 hυ
        show WP m_K_walkFrom 65 _ [] υ _
        refine wp_iinc3 d_K_walkFrom_65 (hn_ii1 _) (by decide) rfl ?_
        refine wp_goto (tgt := 41) d_K_walkFrom_68 (by decide) ?_
        rw [nI_1]
        have hcz := hcd.2.1 _ hst2.1
        have hbit := hKW.2.2 _ hcz
        rw [bZ_bl hcz] at hυ
        by_cases hh : hasB Q (st k (itm Q i)) = true
        · obtain ⟨j, hj, e⟩ := hasB_iff.mp hh
          have : bl (τ.2 r 5) (cd (st k (itm Q i))) = true := hbit.mpr ⟨j, hj, by rw [e]⟩
          rw [this, if_neg (by decide)] at hυ
          subst hυ
          refine ih2 hk2 υ ?_ hfl hF
          rw [bfA, if_pos hh]
          exact hKW
        · have hf : hasB Q (st k (itm Q i)) = false := by
            cases z : hasB Q (st k (itm Q i)) with
            | false => rfl
            | true => exact absurd z hh
          have : bl (τ.2 r 5) (cd (st k (itm Q i))) = false := by
            cases z : bl (τ.2 r 5) (cd (st k (itm Q i))) with
            | false => rfl
            | true =>
              obtain ⟨j, hj, e⟩ := hbit.mp z
              exact absurd (hasB_iff.mpr ⟨j, hj, hcd.2.2 _ _ (hQk j hj) hst2.1 e⟩) hh
          rw [this, if_pos (by decide)] at hυ
          obtain ⟨n1, n2⟩ := KW.add h0 hdis hcd hBI hQk hst2.1 hik hk2 hf hKW
          rw [← hυ] at n1 n2
          refine ih2 hk2 υ ?_ (n2.trans hfl) (hF.tr hF2)
          rw [bfA, if_neg hh]
          exact n1
/-! the word to the first one met -/
theorem fm_sr {cd : Nat → Nat} {τ : Hp} {r q a b c : Nat} {Q : BQ} {g : Int64} {p : Nat → Prop} [DecidablePred p] (hl : Q.length ≤ 64) (hK : KW cd τ r q a b c Q) (hp : ∀ j, j < Q.length → (btL g (nI (cd (itm Q j))) = true ↔ p (itm Q j))) : ∀ d k, k + d = Q.length → fmF (fun j => rdA τ q 64 (nI j)) g d k = if sr (fun k => p (itm Q k)) d k < Q.length then nI (cd (itm Q (sr (fun k => p (itm Q k)) d k))) else -9
  | 0, k, hk => by
    show (-9 : Int32) = if k < Q.length then _ else -9
    rw [if_neg (by omega)]
  | d + 1, k, hk => by
    have e := (hK.2.1 k (by omega)).1
    have hb := hp k (by omega)
    show (if btL g (rdA τ q 64 (nI k)) = true then rdA τ q 64 (nI k) else fmF (fun j => rdA τ q 64 (nI j)) g d (k + 1)) = if (if p (itm Q k) then k else sr (fun k => p (itm Q k)) d (k + 1)) < Q.length then nI (cd (itm Q (if p (itm Q k) then k else sr (fun k => p (itm Q k)) d (k + 1)))) else -9
    rw [rdA_in (by omega) (by decide), e]
    by_cases z : p (itm Q k)
    · rw [if_pos (hb.mpr z), if_pos z, if_pos (by omega)]
    · rw [if_neg (fun y => z (hb.mp y)), if_neg z]
      exact fm_sr hl hK hp d (k + 1) (by omega)
theorem neg_dep {d y : Nat} (hd : d ≤ 1500) (hy : y < 2 ^ 31) (h : d ≤ y) : nI d - 1 - nI y < 0 := by
  rw [Int32.lt_iff_toInt_lt, Int32.toInt_sub, nI_toInt hy]
  have e : (nI d - 1).toInt = (d : Int) - 1 := by
    rcases Nat.eq_zero_or_pos d with rfl | q
    · decide
    · rw [show nI d - 1 = nI (d - 1) by rw [show d = d - 1 + 1 by omega, nI_pred, show d - 1 + 1 - 1 = d - 1 by omega], nI_toInt (by omega)]
      omega
  rw [e, Int.bmod_eq_of_le (by omega) (by omega)]
  show (d : Int) - 1 - y < 0
  omega
theorem dep_sub {d y : Nat} (hd : d ≤ 1500) (h : y < d) : nI d - 1 - nI y = nI (d - 1 - y) := by
  rw [show nI d - 1 = nI (d - 1) by rw [show d = d - 1 + 1 by omega, nI_pred, show d - 1 + 1 - 1 = d - 1 by omega], pk_sub (by omega)]
theorem bk_it {cd : Nat → Nat} {τ : Hp} {r q a b c L s j : Nat} {st : Nat → Nat → Nat} {Q : BQ} (hl : Q.length ≤ 64) (hc : ∀ j, j < Q.length → cd (itm Q j) < 64) (hI : BI st L s Q) (hK : KW cd τ r q a b c Q) (hj : j < Q.length) : ∀ t, t ≤ dep Q j → it (fun _ p => rdA τ a 64 p) t (nI (cd (itm Q j))) = nI (cd (itm Q (bkF Q t j)))
  | 0, _ => rfl
  | t + 1, ht => by
    obtain ⟨b1, b2⟩ := bkF_dep hI hj t (by omega)
    have h0 := dep_pos hI b1 (by omega)
    show rdA τ a 64 (it (fun _ p => rdA τ a 64 p) t (nI (cd (itm Q j)))) = nI (cd (itm Q (par Q (bkF Q t j))))
    rw [bk_it hl hc hI hK hj t (by omega), rdA_in (hc _ b1) (by decide)]
    exact ((hK.2.1 _ b1).2.2 h0).1
theorem la_wa {cd : Nat → Nat} {τ : Hp} {r q a b c L s j : Nat} {st : Nat → Nat → Nat} {Q : BQ} (hl : Q.length ≤ 64) (hc : ∀ j, j < Q.length → cd (itm Q j) < 64) (hI : BI st L s Q) (hK : KW cd τ r q a b c Q) (hj : j < Q.length) {i : Int32} (hi : ¬ i < 0) : laF τ a b c 64 (nI (cd (itm Q j))) i = waF Q j i := by
  have hd := dep_le hI j hj
  obtain ⟨y, hy, rfl⟩ := nI_of hi
  have ed : rdA τ c 64 (nI (cd (itm Q j))) = nI (dep Q j) := by
    rw [rdA_in (hc j hj) (by decide)]
    exact (hK.2.1 j hj).2.1
  unfold laF waF
  rw [ed, if_neg hi]
  rcases Nat.lt_or_ge y (dep Q j) with z | z
  · obtain ⟨b1, b2⟩ := bkF_dep hI hj (dep Q j - 1 - y) (by omega)
    have h0 := dep_pos hI b1 (by omega)
    rw [dep_sub (by omega) z, if_neg (by rintro (h | h); exact hi h; exact nI_pos (by omega) h), if_pos (nI_lt z (by omega)), nI_clamp (by omega), nI_clamp hy, bk_it hl hc hI hK hj _ (by omega), rdA_in (hc _ b1) (by decide)]
    exact ((hK.2.1 _ b1).2.2 h0).2
  · rw [if_pos (Or.inr (neg_dep (by omega) hy z)), if_neg (nI_nlt z hy)]
theorem wt_fw {cd : Nat → Nat} {τ : Hp} {r q a b c L s : Nat} {st : Nat → Nat → Nat} {Q : BQ} {g : Int64} {p : Nat → Prop} [DecidablePred p] (hl : Q.length ≤ 64) (hc : ∀ j, j < Q.length → cd (itm Q j) < 64) (hI : BI st L s Q) (hK : KW cd τ r q a b c Q) (hp : ∀ j, j < Q.length → (btL g (nI (cd (itm Q j))) = true ↔ p (itm Q j))) {i : Int32} (hi : -1 ≤ i) : wtF τ q a b c Q.length g i = fwF Q p i := by
  have hf := fm_sr hl hK hp Q.length 0 (Nat.zero_add _)
  have n9 : ∀ n : Nat, n < 64 → ¬ nI n = -9 := by decide
  have hneg : i < 0 → i = -1 := fun h => by
    apply Int32.le_antisymm
    · have h2 : (-1 : Int32).toInt = -1 := by decide
      have h3 : (0 : Int32).toInt = 0 := by decide
      rw [Int32.lt_iff_toInt_lt, h3] at h
      rw [Int32.le_iff_toInt_le, h2]
      omega
    · exact hi
  unfold wtF fwF
  rw [hf]
  by_cases z : sr (fun k => p (itm Q k)) Q.length 0 < Q.length
  · rw [if_pos z, if_pos z, if_neg (n9 _ (hc _ z)), if_neg (n9 _ (hc _ z))]
    by_cases h1 : i = -1
    · rw [if_pos h1, rdA_in (hc _ z) (by decide), (hK.2.1 _ z).2.1, waF, if_pos (by rw [h1]; decide)]
    · rw [if_neg h1]
      exact la_wa hl hc hI hK z (fun h => h1 (hneg h))
  · rw [if_neg z, if_neg z, if_pos rfl, if_pos rfl]
    by_cases h1 : i = -1
    · rw [if_pos h1, if_pos (by rw [h1]; decide)]
    · rw [if_neg h1, if_neg (fun h => h1 (hneg h))]
