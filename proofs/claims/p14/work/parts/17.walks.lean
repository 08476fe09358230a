/-! contracts: walks (what they change; what they read) -/
def KwK (r q t a b c : Nat) : Prop := kdl[r]? = some (13, 0, [(2, 1), (3, 0), (2, q), (2, t), (0, 0), (1, 0)]) ∧ kdl[q]? = some (0, 64, []) ∧ TrK t a b c 64 ∧ 1 ∉ [r, q, a, b, c] ∧ 2 ∉ [r, q, a, b, c] ∧ q ≠ r ∧ a ≠ r ∧ b ≠ r ∧ c ≠ r ∧ q ≠ a ∧ q ≠ b ∧ q ≠ c
theorem kwK_36 : KwK 36 37 38 39 40 41 := ⟨rfl, rfl, trK_38, by decide, by decide, by decide, by decide, by decide, by decide, by decide, by decide, by decide⟩
theorem kwK_42 : KwK 42 43 44 45 46 47 := ⟨rfl, rfl, trK_44, by decide, by decide, by decide, by decide, by decide, by decide, by decide, by decide, by decide⟩
theorem KI.mv {σ τ : Hp} {N L : Nat} (h : KI σ N L) (e : τ.1 1 = σ.1 1) : KI τ N L := by rw [KI, e]; exact h
def mtW (σ : Hp) (r q : Nat) (x : Int32) : Hp := wI (wrA (wL σ r 5 (stL (σ.2 r 5) x)) q 64 (σ.1 r 4) x) r 4 (σ.1 r 4 + 1)
theorem c_K_meet {r q t a b c : Nat} (h : KwK r q t a b c) (x : Int32) (σ : Hp) : Ct m_K_meet [.ref r, .int x] σ (Rv (mtW σ r q x)) := by
  obtain ⟨hr, hq, ht, h1, h2, h3, -⟩ := h
  show WP m_K_meet 0 [.ref r, .int x] [] σ _
  refine wp_aload_n d_K_meet_0 rfl ?_
  refine wp_dup d_K_meet_1 rfl ?_
  refine wp_getL d_K_meet_2 fl_K_36 hr rfl rfl ?_
  refine wp_lconst (v := 1) d_K_meet_5 (by decide) ?_
  refine wp_iload_n d_K_meet_6 rfl ?_
  refine wp_lshl d_K_meet_7 ?_
  refine wp_lor d_K_meet_8 ?_
  refine wp_putL d_K_meet_9 fp_K_36 hr rfl ?_
  refine wp_aload_n d_K_meet_12 rfl ?_
  refine wp_getA d_K_meet_13 fl_K_11 hr rfl rfl ?_
  refine wp_aload_n d_K_meet_16 rfl ?_
  refine wp_getI d_K_meet_17 fl_K_32 hr rfl (by decide) ?_
  refine wp_iload_n d_K_meet_20 rfl ?_
  refine wp_callSN3v d_K_meet_21 csn_K_74 ⟨Nat.le_of_ble_eq_true rfl, Nat.le_of_ble_eq_true rfl⟩ (Nat.le_of_ble_eq_true rfl) (Nat.le_of_ble_eq_true rfl) (c_P_put hq (by decide) _ _ _) ?_
  refine wp_aload_n d_K_meet_24 rfl ?_
  refine wp_dup d_K_meet_25 rfl ?_
  refine wp_getI d_K_meet_26 fl_K_32 hr rfl (by decide) ?_
  refine wp_iconst (v := 1) d_K_meet_29 (by decide) ?_
  refine wp_iadd d_K_meet_30 ?_
  refine wp_putI d_K_meet_31 fp_K_32 hr rfl (by decide) rfl rfl ?_
  refine wp_vret d_K_meet_34 rfl ?_
  refine ⟨rfl, ?_⟩
  rw [wrA_ne (Ne.symm h3)]
  rfl
theorem mtW_Fp {r q a b c : Nat} {x : Int32} {σ : Hp} : Fp [r, q, a, b, c] σ (mtW σ r q x) := ((Fp.rf.wL (by simp)).wrA (by simp)).wI (by simp)
theorem mtW_4 {r q : Nat} {x : Int32} {σ : Hp} : (mtW σ r q x).1 r 4 = σ.1 r 4 + 1 := by
  rw [mtW, wI_eq]; rfl
theorem grW_Fp {S : List Nat} {σ : Hp} {a b c n : Nat} {x k z : Int32} (h1 : a ∈ S) (h2 : b ∈ S) (h3 : c ∈ S) : Fp S σ (grW σ a b c n x k z) := ((Fp.rf.wrA h1).wrA h2).wrA h3
theorem grW_ne {σ : Hp} {a b c n q : Nat} {x k z : Int32} (h1 : q ≠ a) (h2 : q ≠ b) (h3 : q ≠ c) : (grW σ a b c n x k z).1 q = σ.1 q := by
  rw [grW, wrA_ne h3, wrA_ne h2, wrA_ne h1]
theorem c_K_step {r q t a b c : Nat} (h : KwK r q t a b c) (x : Int32) (k : Nat) (hk : k < 4) (σ : Hp) : Ct m_K_step [.ref r, .int x, .int (nI k)] σ (fun w τ => w = none ∧ ∃ z, z = (if σ.1 r 1 = 0 then osF (σ.1 2 k) x else opF (σ.1 2 k) x) ∧ τ = if btZ (σ.2 r 5) z = true then mtW (grW σ a b c 64 x (nI k) z) r q z else σ) := by
  have h0 := h
  obtain ⟨hr, hq, ht, h1, h2, h3, h5, h6, h7, h8, h9, h10⟩ := h
  show WP m_K_step 0 [.ref r, .int x, .int (nI k), .null, .null] [] σ _
  refine wp_aload_n d_K_step_0 rfl ?_
  refine wp_getA d_K_step_1 fl_K_24 hr rfl rfl ?_
  refine wp_iload_n d_K_step_4 rfl ?_
  refine wp_callV1e d_K_step_5 cv_K_57 rfl rfl rfl ⟨Nat.le_of_ble_eq_true rfl, Nat.le_of_ble_eq_true rfl⟩ (Nat.le_of_ble_eq_true rfl) (Nat.le_of_ble_eq_true rfl) (c_L_map _ _) ?_
  rw [rdA_in (by omega) (by decide)]
  have fin : ∀ z : Int32, z = (if σ.1 r 1 = 0 then osF (σ.1 2 k) x else opF (σ.1 2 k) x) → WP m_K_step 29 [.ref r, .int x, .int (nI k), .int (σ.1 2 k), .null] [.int z] σ (fun w τ => w = none ∧ ∃ z, z = (if σ.1 r 1 = 0 then osF (σ.1 2 k) x else opF (σ.1 2 k) x) ∧ τ = if btZ (σ.2 r 5) z = true then mtW (grW σ a b c 64 x (nI k) z) r q z else σ) := by
    intro z hz
    refine wp_istore4 d_K_step_29 (by decide) rfl ?_
    refine wp_aload_n d_K_step_31 rfl ?_
    refine wp_getL d_K_step_32 fl_K_36 hr rfl rfl ?_
    refine wp_iload d_K_step_35 rfl ?_
    refine wp_lushr d_K_step_37 ?_
    refine wp_lconst (v := 1) d_K_step_38 (by decide) ?_
    refine wp_land d_K_step_39 ?_
    refine wp_lconst (v := 0) d_K_step_40 (by decide) ?_
    refine wp_lcmp d_K_step_41 ?_
    refine wp_if_ne (tgt := 62) d_K_step_42 (by decide) (fun hc => ?_) (fun hc => ?_)
    · refine wp_vret d_K_step_62 rfl ?_
      refine ⟨rfl, z, hz, ?_⟩
      rw [if_neg (fun q => ?_)]
      have := btZ_f hc
      rw [this] at q
      exact absurd q (by decide)
    · refine wp_aload_n d_K_step_45 rfl ?_
      refine wp_getA d_K_step_46 fl_K_20 hr rfl rfl ?_
      refine wp_iload_n d_K_step_49 rfl ?_
      refine wp_iload_n d_K_step_50 rfl ?_
      refine wp_iload d_K_step_51 rfl ?_
      refine wp_callV3v d_K_step_53 cv_K_70 ht.1 rfl rfl ⟨Nat.le_of_ble_eq_true rfl, Nat.le_of_ble_eq_true rfl⟩ (Nat.le_of_ble_eq_true rfl) (Nat.le_of_ble_eq_true rfl) (c_R_grow ht _ _ _ _) ?_
      refine wp_aload_n d_K_step_56 rfl ?_
      refine wp_iload d_K_step_57 rfl ?_
      refine wp_callV1v d_K_step_59 cv_K_43 hr rfl rfl ⟨Nat.le_of_ble_eq_true rfl, Nat.le_of_ble_eq_true rfl⟩ (Nat.le_of_ble_eq_true rfl) (Nat.le_of_ble_eq_true rfl) (c_K_meet h0 _ _) ?_
      refine wp_vret d_K_step_62 rfl ?_
      refine ⟨rfl, z, hz, ?_⟩
      rw [if_pos (btZ_t hc)]
  refine wp_istore3 d_K_step_8 (by decide) rfl ?_
  refine wp_aload_n d_K_step_9 rfl ?_
  refine wp_getI d_K_step_10 fl_K_28 hr rfl (by decide) ?_
  refine wp_if_eq (tgt := 24) d_K_step_13 (by decide) (fun hc => ?_) (fun hc => ?_)
  · refine wp_iload_n d_K_step_24 rfl ?_
    refine wp_iload_n d_K_step_25 rfl ?_
    refine wp_callS2e d_K_step_26 cs_K_67 ⟨Nat.le_of_ble_eq_true rfl, Nat.le_of_ble_eq_true rfl⟩ (Nat.le_of_ble_eq_true rfl) (Nat.le_of_ble_eq_true rfl) (c_G_ofSet _ _ _) ?_
    exact fin _ (by rw [if_pos hc])
  · refine wp_iload_n d_K_step_16 rfl ?_
    refine wp_iload_n d_K_step_17 rfl ?_
    refine wp_callS2e d_K_step_18 cs_K_61 ⟨Nat.le_of_ble_eq_true rfl, Nat.le_of_ble_eq_true rfl⟩ (Nat.le_of_ble_eq_true rfl) (Nat.le_of_ble_eq_true rfl) (c_G_ofPair _ _ _) ?_
    refine wp_goto (tgt := 29) d_K_step_21 (by decide) ?_
    exact fin _ (by rw [if_neg hc])
theorem K_step_Fp {r q t a b c : Nat} (h : KwK r q t a b c) {x : Int32} {k : Nat} {σ τ : Hp} {z : Int32} (hτ : τ = if btZ (σ.2 r 5) z = true then mtW (grW σ a b c 64 x (nI k) z) r q z else σ) : Fp [r, q, a, b, c] σ τ ∧ (τ.1 r 4 = σ.1 r 4 ∨ τ.1 r 4 = σ.1 r 4 + 1) := by
  obtain ⟨hr, hq, ht, h1, h2, h3, h5, h6, h7, h8, h9, h10⟩ := h
  split at hτ
  · subst hτ
    refine ⟨(grW_Fp (by simp) (by simp) (by simp)).tr mtW_Fp, Or.inr ?_⟩
    rw [mtW_4, grW_ne (Ne.symm h5) (Ne.symm h6) (Ne.symm h7)]
  · subst hτ
    exact ⟨Fp.rf, Or.inl rfl⟩
theorem w_K_walkFrom {r q t a b c N L : Nat} (h : KwK r q t a b c) (x : Int32) (σ : Hp) (hI : KI σ N L) : Ct m_K_walkFrom [.ref r, .int x] σ (fun w τ => w = none ∧ Fp [r, q, a, b, c] σ τ ∧ ∃ M, M ≤ 257 ∧ τ.1 r 4 = nI M) := by
  have h0 := h
  obtain ⟨hr, hq, ht, h1, h2, h3, h5, h6, h7, h8, h9, h10⟩ := h
  obtain ⟨hn, g1, g6, hl, g4⟩ := hI
  show WP m_K_walkFrom 0 [.ref r, .int x, .null, .null] [] σ _
  refine wp_aload_n d_K_walkFrom_0 rfl ?_
  refine wp_iconst (v := 0) d_K_walkFrom_1 (by decide) ?_
  refine wp_putI d_K_walkFrom_2 fp_K_32 hr rfl (by decide) rfl rfl ?_
  refine wp_aload_n d_K_walkFrom_5 rfl ?_
  refine wp_lconst (v := 0) d_K_walkFrom_6 (by decide) ?_
  refine wp_putL d_K_walkFrom_7 fp_K_36 hr rfl ?_
  refine wp_aload_n d_K_walkFrom_10 rfl ?_
  refine wp_getA d_K_walkFrom_11 fl_K_20 hr rfl rfl ?_
  refine wp_iload_n d_K_walkFrom_14 rfl ?_
  refine wp_callV1v d_K_walkFrom_15 cv_K_40 ht.1 rfl rfl ⟨Nat.le_of_ble_eq_true rfl, Nat.le_of_ble_eq_true rfl⟩ (Nat.le_of_ble_eq_true rfl) (Nat.le_of_ble_eq_true rfl) (c_R_begin ht _ _) ?_
  refine wp_aload_n d_K_walkFrom_18 rfl ?_
  refine wp_iload_n d_K_walkFrom_19 rfl ?_
  refine wp_callV1v d_K_walkFrom_20 cv_K_43 hr rfl rfl ⟨Nat.le_of_ble_eq_true rfl, Nat.le_of_ble_eq_true rfl⟩ (Nat.le_of_ble_eq_true rfl) (Nat.le_of_ble_eq_true rfl) (c_K_meet h0 _ _) ?_
  refine wp_iconst (v := 0) d_K_walkFrom_23 (by decide) ?_
  refine wp_istore2 d_K_walkFrom_24 (by decide) rfl ?_
  suffices H : ∀ i, i ≤ 64 → ∀ (τ : Hp) (M : Nat) (x3 : Value), M ≤ 1 + 4 * i → τ.1 r 4 = nI M → Fp [r, q, a, b, c] σ τ → WP m_K_walkFrom 25 [.ref r, .int x, .int (nI i), x3] [] τ (fun w τ => w = none ∧ Fp [r, q, a, b, c] σ τ ∧ ∃ M, M ≤ 257 ∧ τ.1 r 4 = nI M) by
    refine H 0 (Nat.zero_le _) _ 1 _ (by omega) ?_ ?_
    · rw [mtW_4, wrA_ne (Ne.symm h7)]
      show (wI σ r 4 0).1 r 4 + 1 = nI 1
      rw [wI_eq]
      rfl
    · exact (((Fp.rf.wI (by simp)).wL (by simp)).wrA (by simp)).tr mtW_Fp
  refine lp_nat (fun i hi ih τ M x3 hM hm hF => ?_)
  have e1 : τ.1 1 = σ.1 1 := (hF 1 h1).1
  refine wp_iload_n d_K_walkFrom_25 rfl ?_
  refine wp_aload_n d_K_walkFrom_26 rfl ?_
  refine wp_getI d_K_walkFrom_27 fl_K_32 hr rfl (by decide) ?_
  refine wp_icmp_ge (tgt := 77) d_K_walkFrom_30 (by decide) (fun hc => ?_) (fun hc => ?_)
  · refine wp_vret d_K_walkFrom_77 rfl ?_
    exact ⟨rfl, hF, M, by omega, hm⟩
  · refine wp_iload_n d_K_walkFrom_33 rfl ?_
    refine wp_bipush (v := 64) d_K_walkFrom_34 (by decide) ?_
    refine wp_icmp_ge (tgt := 77) d_K_walkFrom_36 (by decide) (fun hc2 => ?_) (fun hc2 => ?_)
    · refine wp_vret d_K_walkFrom_77 rfl ?_
      exact ⟨rfl, hF, M, by omega, hm⟩
    · have hi2 := nI_nge (b := 64) hc2 (by omega) (by omega)
      refine wp_iconst (v := 0) d_K_walkFrom_39 (by decide) ?_
      refine wp_istore3 d_K_walkFrom_40 (by decide) rfl ?_
      suffices H : ∀ k, k ≤ L → ∀ (τ : Hp) (M : Nat), M ≤ 1 + 4 * i + k → τ.1 r 4 = nI M → Fp [r, q, a, b, c] σ τ → WP m_K_walkFrom 41 [.ref r, .int x, .int (nI i), .int (nI k)] [] τ (fun w τ => w = none ∧ Fp [r, q, a, b, c] σ τ ∧ ∃ M, M ≤ 257 ∧ τ.1 r 4 = nI M) from H 0 (Nat.zero_le _) τ M (by omega) hm hF
      clear hM hm hF e1 hc τ M
      refine lp_nat (fun k hk ih2 τ M hM hm hF => ?_)
      have e1 : τ.1 1 = σ.1 1 := (hF 1 h1).1
      refine wp_iload_n d_K_walkFrom_41 rfl ?_
      refine wp_aload_n d_K_walkFrom_42 rfl ?_
      refine wp_getA d_K_walkFrom_43 fl_K_24 hr rfl rfl ?_
      refine wp_getI d_K_walkFrom_46 fl_K_46 rfl rfl (by decide) ?_
      refine wp_icmp_ge (tgt := 71) d_K_walkFrom_49 (by decide) (fun hc3 => ?_) (fun hc3 => ?_)
      · rw [e1, hl] at hc3
        obtain rfl := Nat.le_antisymm hk (nI_ge2 hc3 (by omega) (by omega))
        refine wp_iinc2 d_K_walkFrom_71 (hn_ii1 _) (by decide) rfl ?_
        refine wp_goto (tgt := 25) d_K_walkFrom_74 (by decide) ?_
        rw [nI_1]
        exact ih hi2 τ M _ (by omega) hm hF
      · rw [e1, hl] at hc3
        have hk2 := nI_nge hc3 (by omega) (by omega)
        refine wp_aload_n d_K_walkFrom_52 rfl ?_
        refine wp_aload_n d_K_walkFrom_53 rfl ?_
        refine wp_getA d_K_walkFrom_54 fl_K_11 hr rfl rfl ?_
        refine wp_iload_n d_K_walkFrom_57 rfl ?_
        refine wp_callSN2e d_K_walkFrom_58 csn_K_49 ⟨Nat.le_of_ble_eq_true rfl, Nat.le_of_ble_eq_true rfl⟩ (Nat.le_of_ble_eq_true rfl) (Nat.le_of_ble_eq_true rfl) (c_P_at hq (by decide) _ _) ?_
        refine wp_iload_n d_K_walkFrom_61 rfl ?_
        refine wp_callV2 d_K_walkFrom_62 cv_K_53 hr rfl rfl ⟨Nat.le_of_ble_eq_true rfl, Nat.le_of_ble_eq_true rfl⟩ (Nat.le_of_ble_eq_true rfl) (Nat.le_of_ble_eq_true rfl) (c_K_step h0 _ k (by omega) _) (fun v υ hv => ?_)
        obtain ⟨rfl, z, -, hυ⟩ := hv
        obtain ⟨hF2, hm2⟩ := K_step_Fp h0 hυ
        show WP m_K_walkFrom 65 _ [] υ _
        refine wp_iinc3 d_K_walkFrom_65 (hn_ii1 _) (by decide) rfl ?_
        refine wp_goto (tgt := 41) d_K_walkFrom_68 (by decide) ?_
        rw [nI_1]
        rcases hm2 with hm2 | hm2
        · exact ih2 hk2 υ M (by omega) (by rw [hm2, hm]) (hF.tr hF2)
        · exact ih2 hk2 υ (M + 1) (by omega) (by rw [hm2, hm, nI_1]) (hF.tr hF2)
def fmF (f : Nat → Int32) (g : Int64) : Nat → Nat → Int32
  | 0, _ => -9
  | d + 1, k => if btL g (f k) = true then f k else fmF f g d (k + 1)
theorem c_K_firstMetOf {r q t a b c M : Nat} (h : KwK r q t a b c) (g : Int64) (σ : Hp) (hM : σ.1 r 4 = nI M) (hM2 : M < 2 ^ 31) : Ct m_K_firstMetOf [.ref r, .long g] σ (Rt (.int (fmF (fun j => rdA σ q 64 (nI j)) g M 0)) σ) := by
  obtain ⟨hr, hq, ht, h1, h2, h3, -⟩ := h
  show WP m_K_firstMetOf 0 [.ref r, .long g, .null, .null] [] σ _
  refine wp_iconst (v := 0) d_K_firstMetOf_0 (by decide) ?_
  refine wp_istore3 d_K_firstMetOf_1 (by decide) rfl ?_
  suffices H : ∀ k, k ≤ M → fmF (fun j => rdA σ q 64 (nI j)) g (M - k) k = fmF (fun j => rdA σ q 64 (nI j)) g M 0 → WP m_K_firstMetOf 2 [.ref r, .long g, .null, .int (nI k)] [] σ (Rt (.int (fmF (fun j => rdA σ q 64 (nI j)) g M 0)) σ) from H 0 (Nat.zero_le _) rfl
  refine lp_nat (fun k hk ih hs => ?_)
  refine wp_iload_n d_K_firstMetOf_2 rfl ?_
  refine wp_aload_n d_K_firstMetOf_3 rfl ?_
  refine wp_getI d_K_firstMetOf_4 fl_K_32 hr rfl (by decide) ?_
  refine wp_icmp_ge (tgt := 42) d_K_firstMetOf_7 (by decide) (fun hc => ?_) (fun hc => ?_)
  · rw [hM] at hc
    obtain rfl := Nat.le_antisymm hk (nI_ge2 hc (by omega) (by omega))
    rw [Nat.sub_self, fmF] at hs
    refine wp_bipush (v := -9) d_K_firstMetOf_42 (by decide) ?_
    refine wp_iret d_K_firstMetOf_44 rfl ?_
    exact ⟨by rw [← hs], rfl⟩
  · rw [hM] at hc
    have hk2 := nI_nge hc (by omega) (by omega)
    obtain ⟨d, hd⟩ : ∃ d, M - k = d + 1 := ⟨M - k - 1, by omega⟩
    rw [hd, fmF] at hs
    refine wp_lload_n d_K_firstMetOf_10 rfl ?_
    refine wp_aload_n d_K_firstMetOf_11 rfl ?_
    refine wp_getA d_K_firstMetOf_12 fl_K_11 hr rfl rfl ?_
    refine wp_iload_n d_K_firstMetOf_15 rfl ?_
    refine wp_callSN2e d_K_firstMetOf_16 csn_K_49 ⟨Nat.le_of_ble_eq_true rfl, Nat.le_of_ble_eq_true rfl⟩ (Nat.le_of_ble_eq_true rfl) (Nat.le_of_ble_eq_true rfl) (c_P_at hq (by decide) _ _) ?_
    refine wp_lushr d_K_firstMetOf_19 ?_
    refine wp_lconst (v := 1) d_K_firstMetOf_20 (by decide) ?_
    refine wp_land d_K_firstMetOf_21 ?_
    refine wp_lconst (v := 1) d_K_firstMetOf_22 (by decide) ?_
    refine wp_lcmp d_K_firstMetOf_23 ?_
    refine wp_if_ne (tgt := 36) d_K_firstMetOf_24 (by decide) (fun h2 => ?_) (fun h2 => ?_)
    · rw [if_neg (by rw [btL_f h2]; decide)] at hs
      refine wp_iinc3 d_K_firstMetOf_36 (hn_ii1 _) (by decide) rfl ?_
      refine wp_goto (tgt := 2) d_K_firstMetOf_39 (by decide) ?_
      rw [nI_1]
      exact ih hk2 (by rw [show M - (k + 1) = d by omega]; exact hs)
    · rw [if_pos (btL_t h2)] at hs
      refine wp_aload_n d_K_firstMetOf_27 rfl ?_
      refine wp_getA d_K_firstMetOf_28 fl_K_11 hr rfl rfl ?_
      refine wp_iload_n d_K_firstMetOf_31 rfl ?_
      refine wp_callSN2e d_K_firstMetOf_32 csn_K_49 ⟨Nat.le_of_ble_eq_true rfl, Nat.le_of_ble_eq_true rfl⟩ (Nat.le_of_ble_eq_true rfl) (Nat.le_of_ble_eq_true rfl) (c_P_at hq (by decide) _ _) ?_
      refine wp_iret d_K_firstMetOf_35 rfl ?_
      exact ⟨by rw [← hs], rfl⟩
def wtF (σ : Hp) (q a b c M : Nat) (g : Int64) (i : Int32) : Int32 := if i = -1 then (if fmF (fun j => rdA σ q 64 (nI j)) g M 0 = -9 then -9 else rdA σ c 64 (fmF (fun j => rdA σ q 64 (nI j)) g M 0)) else (if fmF (fun j => rdA σ q 64 (nI j)) g M 0 = -9 then -1 else laF σ a b c 64 (fmF (fun j => rdA σ q 64 (nI j)) g M 0) i)
theorem c_K_wordTo {r q t a b c M : Nat} (h : KwK r q t a b c) (g : Int64) (i : Int32) (σ : Hp) (hM : σ.1 r 4 = nI M) (hM2 : M < 2 ^ 31) : Ct m_K_wordTo [.ref r, .long g, .int i] σ (Rt (.int (wtF σ q a b c M g i)) σ) := by
  have h0 := h
  obtain ⟨hr, hq, ht, h1, h2, h3, -⟩ := h
  show WP m_K_wordTo 0 [.ref r, .long g, .null, .int i, .null] [] σ _
  refine wp_aload_n d_K_wordTo_0 rfl ?_
  refine wp_lload_n d_K_wordTo_1 rfl ?_
  refine wp_callV1e d_K_wordTo_2 cv_K_78 hr rfl rfl ⟨Nat.le_of_ble_eq_true rfl, Nat.le_of_ble_eq_true rfl⟩ (Nat.le_of_ble_eq_true rfl) (Nat.le_of_ble_eq_true rfl) (c_K_firstMetOf h0 _ _ hM hM2) ?_
  refine wp_istore4 d_K_wordTo_5 (by decide) rfl ?_
  refine wp_iload_n d_K_wordTo_7 rfl ?_
  refine wp_iconst (v := -1) d_K_wordTo_8 (by decide) ?_
  refine wp_icmp_ne (tgt := 34) d_K_wordTo_9 (by decide) (fun hc => ?_) (fun hc => ?_)
  · rw [wtF, if_neg hc]
    refine wp_iload d_K_wordTo_34 rfl ?_
    refine wp_bipush (v := -9) d_K_wordTo_36 (by decide) ?_
    refine wp_icmp_ne (tgt := 45) d_K_wordTo_38 (by decide) (fun h5 => ?_) (fun h5 => ?_)
    · rw [if_neg h5]
      refine wp_aload_n d_K_wordTo_45 rfl ?_
      refine wp_getA d_K_wordTo_46 fl_K_20 hr rfl rfl ?_
      refine wp_iload d_K_wordTo_49 rfl ?_
      refine wp_iload_n d_K_wordTo_51 rfl ?_
      refine wp_callV2e d_K_wordTo_52 cv_K_85 ht.1 rfl rfl ⟨Nat.le_of_ble_eq_true rfl, Nat.le_of_ble_eq_true rfl⟩ (Nat.le_of_ble_eq_true rfl) (Nat.le_of_ble_eq_true rfl) (c_R_letterAt ht _ _ _) ?_
      refine wp_iret d_K_wordTo_55 rfl ?_
      exact ⟨rfl, rfl⟩
    · rw [if_pos h5]
      refine wp_iconst (v := -1) d_K_wordTo_41 (by decide) ?_
      refine wp_goto (tgt := 55) d_K_wordTo_42 (by decide) ?_
      refine wp_iret d_K_wordTo_55 rfl ?_
      exact ⟨rfl, rfl⟩
  · rw [wtF, if_pos hc]
    refine wp_iload d_K_wordTo_12 rfl ?_
    refine wp_bipush (v := -9) d_K_wordTo_14 (by decide) ?_
    refine wp_icmp_ne (tgt := 24) d_K_wordTo_16 (by decide) (fun h5 => ?_) (fun h5 => ?_)
    · rw [if_neg h5]
      refine wp_aload_n d_K_wordTo_24 rfl ?_
      refine wp_getA d_K_wordTo_25 fl_K_20 hr rfl rfl ?_
      refine wp_iload d_K_wordTo_28 rfl ?_
      refine wp_callV1e d_K_wordTo_30 cv_K_82 ht.1 rfl rfl ⟨Nat.le_of_ble_eq_true rfl, Nat.le_of_ble_eq_true rfl⟩ (Nat.le_of_ble_eq_true rfl) (Nat.le_of_ble_eq_true rfl) (c_R_lengthOf ht _ _) ?_
      refine wp_iret d_K_wordTo_33 rfl ?_
      exact ⟨rfl, rfl⟩
    · rw [if_pos h5]
      refine wp_bipush (v := -9) d_K_wordTo_19 (by decide) ?_
      refine wp_goto (tgt := 33) d_K_wordTo_21 (by decide) ?_
      refine wp_iret d_K_wordTo_33 rfl ?_
      exact ⟨rfl, rfl⟩
def fbF (σ : Hp) (q M : Nat) : Int32 := it (fun j r => mnI r (bcI (rdA σ q 64 (nI j)))) M 6
theorem c_K_fewestBits {r q t a b c M : Nat} (h : KwK r q t a b c) (σ : Hp) (hM : σ.1 r 4 = nI M) (hM2 : M < 2 ^ 31) : Ct m_K_fewestBits [.ref r] σ (Rt (.int (fbF σ q M)) σ) := by
  obtain ⟨hr, hq, ht, h1, h2, h3, -⟩ := h
  show WP m_K_fewestBits 0 [.ref r, .null, .null] [] σ _
  refine wp_bipush (v := 6) d_K_fewestBits_0 (by decide) ?_
  refine wp_istore1 d_K_fewestBits_2 (by decide) rfl ?_
  refine wp_iconst (v := 0) d_K_fewestBits_3 (by decide) ?_
  refine wp_istore2 d_K_fewestBits_4 (by decide) rfl ?_
  suffices H : ∀ k, k ≤ M → WP m_K_fewestBits 5 [.ref r, .int (it (fun j r => mnI r (bcI (rdA σ q 64 (nI j)))) k 6), .int (nI k)] [] σ (Rt (.int (fbF σ q M)) σ) from H 0 (Nat.zero_le _)
  refine lp_nat (fun k hk ih => ?_)
  refine wp_iload_n d_K_fewestBits_5 rfl ?_
  refine wp_aload_n d_K_fewestBits_6 rfl ?_
  refine wp_getI d_K_fewestBits_7 fl_K_32 hr rfl (by decide) ?_
  refine wp_icmp_ge (tgt := 35) d_K_fewestBits_10 (by decide) (fun hc => ?_) (fun hc => ?_)
  · rw [hM] at hc
    obtain rfl := Nat.le_antisymm hk (nI_ge2 hc (by omega) (by omega))
    refine wp_iload_n d_K_fewestBits_35 rfl ?_
    refine wp_iret d_K_fewestBits_36 rfl ?_
    exact ⟨rfl, rfl⟩
  · rw [hM] at hc
    have hk2 := nI_nge hc (by omega) (by omega)
    refine wp_iload_n d_K_fewestBits_13 rfl ?_
    refine wp_aload_n d_K_fewestBits_14 rfl ?_
    refine wp_getA d_K_fewestBits_15 fl_K_11 hr rfl rfl ?_
    refine wp_iload_n d_K_fewestBits_18 rfl ?_
    refine wp_callSN2e d_K_fewestBits_19 csn_K_49 ⟨Nat.le_of_ble_eq_true rfl, Nat.le_of_ble_eq_true rfl⟩ (Nat.le_of_ble_eq_true rfl) (Nat.le_of_ble_eq_true rfl) (c_P_at hq (by decide) _ _) ?_
    refine wp_callS1e d_K_fewestBits_22 cs_K_88 ⟨Nat.le_of_ble_eq_true rfl, Nat.le_of_ble_eq_true rfl⟩ (Nat.le_of_ble_eq_true rfl) (Nat.le_of_ble_eq_true rfl) (c_Ji_bitCount _ _) ?_
    refine wp_callS2e d_K_fewestBits_25 cs_K_93 ⟨Nat.le_of_ble_eq_true rfl, Nat.le_of_ble_eq_true rfl⟩ (Nat.le_of_ble_eq_true rfl) (Nat.le_of_ble_eq_true rfl) (c_Jm_min _ _ _) ?_
    refine wp_istore1 d_K_fewestBits_28 (by decide) rfl ?_
    refine wp_iinc2 d_K_fewestBits_29 (hn_ii1 _) (by decide) rfl ?_
    refine wp_goto (tgt := 5) d_K_fewestBits_32 (by decide) ?_
    rw [nI_1]
    exact ih hk2
