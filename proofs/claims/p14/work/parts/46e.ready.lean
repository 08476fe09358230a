/-! the list of elements is made: what it is then -/
theorem Fp.EM {S : List Nat} {σ τ : Hp} {M : Nat} (h : Fp S σ τ) (hs : ∀ q, q ∈ 15 :: (eC ++ eB) → q ∉ S) (hM : EM σ M) : EM τ M := hM.cg (fun q hq => (h q (hs q (List.mem_cons_of_mem _ (List.mem_append.mpr (Or.inl hq))))).1) (fun q hq => (h q (hs q (List.mem_cons_of_mem _ (List.mem_append.mpr (Or.inr hq))))).1) (by rw [(h 15 (hs 15 List.mem_cons_self)).1])
theorem EK.look {σ : Hp} {N x : Nat} {Q : BQ} (h0 : 0 < N) (h6 : N ≤ 6) (h : EK σ N Q) (hb : ∀ j, j < Q.length → itm Q j < N ^ N) (hx : x < N ^ N) : (hasB Q x = true ∧ lkF σ 7 8 (nI (mpN N x)) = nI (psN Q x) ∧ psN Q x < Q.length) ∨ (hasB Q x = false ∧ lkF σ 7 8 (nI (mpN N x)) = -9) := by
  obtain ⟨h1, h2, h3, h4⟩ := h
  cases q : hasB Q x with
  | true =>
    obtain ⟨a1, a2⟩ := psN_has q
    have := h4.look a1
    try dsimp only at this
    rw [a2] at this
    exact Or.inl ⟨rfl, this, a1⟩
  | false =>
    refine Or.inr ⟨rfl, h4.no (by omega) (fun j hj => ?_) (by have := mpN_lt (N := N) (x := x) h0 h6; omega) (fun j hj e => ?_)⟩
    · try dsimp only
      have := mpN_lt (N := N) (x := itm Q j) h0 h6
      omega
    · have := mpN_inj h0 h6 (hb j hj) hx e
      rw [hasB_iff.mpr ⟨j, hj, this⟩] at q
      cases q
/-- one more is listed -/
theorem EK.add {σ : Hp} {N L i k : Nat} {lm : Nat → Nat} {s : Nat} {Q : BQ} (h0 : 0 < N) (h6 : N ≤ 6) (h : EK σ N Q) (hI : BI (stE N lm) L s Q) (hb : ∀ j, j < Q.length → itm Q j < N ^ N) (hi : i < Q.length) (hk : k < L) (hn : hasB Q (stE N lm k (itm Q i)) = false) (hlt : Q.length < 1500) :
    EK (emW (grW σ 12 13 14 1500 (nI i) (nI k) (nI Q.length)) (nI (mpN N (stE N lm k (itm Q i))))) N (Q ++ [(stE N lm k (itm Q i), i, k)]) := by
  obtain ⟨h1, h2, h3, h4⟩ := h
  obtain ⟨z, hz⟩ : ∃ z, z = stE N lm k (itm Q i) := ⟨_, rfl⟩
  have hzl : z < N ^ N := by rw [hz]; exact stE_lt h0 k _
  obtain ⟨d1, d2⟩ := dep_app hI hi hk hn
  rw [← hz] at hn d1 d2 ⊢
  have hI2 : BI (stE N lm) L s (Q ++ [(z, i, k)]) := by rw [hz] at hn ⊢; exact hI.add hi hk hn
  have egr : grW σ 12 13 14 1500 (nI i) (nI k) (nI Q.length) = wI (wI (wI σ 12 Q.length (nI i)) 13 Q.length (nI k)) 14 Q.length (nI (dep Q i + 1)) := by
    have e1 : rdA (wI (wI σ 12 Q.length (nI i)) 13 Q.length (nI k)) 14 1500 (nI i) = nI (dep Q i) := by
      rw [rdA_in (by omega) (by decide), wI_ne (by decide), wI_ne (by decide)]
      exact (h3 i hi).2.1
    unfold grW
    rw [wrA_in hlt (by decide), wrA_in hlt (by decide), wrA_in hlt (by decide), e1, nI_1]
  rw [egr]
  obtain ⟨υ, hυ⟩ : ∃ υ, υ = wI (wI (wI σ 12 Q.length (nI i)) 13 Q.length (nI k)) 14 Q.length (nI (dep Q i + 1)) := ⟨_, rfl⟩
  have u3 : υ.1 3 = σ.1 3 := by rw [hυ, wI_ne (by decide), wI_ne (by decide), wI_ne (by decide)]
  have u4 : υ.1 4 = σ.1 4 := by rw [hυ, wI_ne (by decide), wI_ne (by decide), wI_ne (by decide)]
  have u7 : υ.1 7 = σ.1 7 := by rw [hυ, wI_ne (by decide), wI_ne (by decide), wI_ne (by decide)]
  have u8 : υ.1 8 = σ.1 8 := by rw [hυ, wI_ne (by decide), wI_ne (by decide), wI_ne (by decide)]
  have u12 : υ.1 12 = upd (σ.1 12) Q.length (nI i) := by rw [hυ, wI_ne (by decide), wI_ne (by decide), wI_eq]
  have u13 : υ.1 13 = upd (σ.1 13) Q.length (nI k) := by rw [hυ, wI_ne (by decide), wI_eq, wI_ne (by decide)]
  have u14 : υ.1 14 = upd (σ.1 14) Q.length (nI (dep Q i + 1)) := by rw [hυ, wI_eq, wI_ne (by decide), wI_ne (by decide)]
  rw [← hυ]
  have em : emW υ (nI (mpN N z)) = wI (kpW (wI υ 4 Q.length (nI (mpN N z))) 7 8 (nI (mpN N z)) (nI Q.length)) 3 6 (nI (Q.length + 1)) := by
    unfold emW
    rw [u3, h1, wrA_in hlt (by decide), nI_1]
  rw [em]
  have k3 : ∀ q, q ≠ 3 → (wI (kpW (wI υ 4 Q.length (nI (mpN N z))) 7 8 (nI (mpN N z)) (nI Q.length)) 3 6 (nI (Q.length + 1))).1 q = (kpW (wI υ 4 Q.length (nI (mpN N z))) 7 8 (nI (mpN N z)) (nI Q.length)).1 q := fun q hq => wI_ne hq
  have hf : FS ((wI υ 4 Q.length (nI (mpN N z))).1 7) ((wI υ 4 Q.length (nI (mpN N z))).1 8) (fun j => mpN N (itm Q j)) Q.length := by
    rw [wI_ne (by decide), wI_ne (by decide), u7, u8]
    exact h4
  have hf2 := hf.keep (σ := wI υ 4 Q.length (nI (mpN N z))) (a := 7) (b := 8) (k := mpN N z) (by decide) (by omega) (fun j hj => by
    try dsimp only
    have := mpN_lt (N := N) (x := itm Q j) h0 h6
    omega) (by have := mpN_lt (N := N) (x := z) h0 h6; omega) (fun j hj e => by
    have := mpN_inj h0 h6 (hb j hj) hzl e
    rw [hasB_iff.mpr ⟨j, hj, this⟩] at hn
    cases hn)
  refine ⟨by rw [wI_eq, upd_eq]; simp, by simp; omega, fun j hj => ?_, ?_⟩
  · rw [k3 4 (by decide), k3 12 (by decide), k3 13 (by decide), k3 14 (by decide), kp_ne (by decide) (by decide), kp_ne (by decide) (by decide), kp_ne (by decide) (by decide), kp_ne (by decide) (by decide), wI_eq, wI_ne (by decide), wI_ne (by decide), wI_ne (by decide), u4, u12, u13, u14]
    simp only [List.length_append, List.length_cons, List.length_nil] at hj
    rcases Nat.lt_or_ge j Q.length with q2 | q2
    · rw [itm_old q2, par_old q2, ltr_old q2, upd_ne (by omega), upd_ne (by omega), upd_ne (by omega), upd_ne (by omega), d2 j q2]
      exact h3 j q2
    · obtain rfl : j = Q.length := by omega
      rw [itm_app, par_app, ltr_app, upd_eq, upd_eq, upd_eq, upd_eq, d1]
      exact ⟨rfl, rfl, fun _ => ⟨rfl, rfl⟩⟩
  · rw [k3 7 (by decide), k3 8 (by decide), show (Q ++ [(z, i, k)]).length = Q.length + 1 by simp]
    refine hf2.cg (fun j hj => ?_)
    try dsimp only
    by_cases q : j = Q.length
    · rw [if_pos q, q, itm_app]
    · rw [if_neg q, itm_old (by omega)]
theorem c_E_step {i k N L s : Nat} {lm : Nat → Nat} {Q : BQ} (σ : Hp) (hI : KI σ N L) (hL : LL σ N L lm) (hi : i < Q.length) (hk : k < L) (h : EK σ N Q) (hB : BI (stE N lm) L s Q) (hb : ∀ j, j < Q.length → itm Q j < N ^ N) : Ct m_E_step [.ref 3, .int (nI i), .int (nI k)] σ (fun w τ => w = none ∧ Fp eS σ τ ∧ τ.1 3 8 = σ.1 3 8 ∧ ((Q.length = 1500 ∧ hasB Q (stE N lm k (itm Q i)) = false ∧ τ.1 3 7 = 1 ∧ τ.1 3 6 = nI 1500) ∨ (EK τ N (bfA (stE N lm) i k Q) ∧ τ.1 3 7 = σ.1 3 7 ∧ τ.1 5 = upd (σ.1 5) (4 * i + k) (nI (psN (bfA (stE N lm) i k Q) (stE N lm k (itm Q i))))))) := by
  have h0 : 0 < N := by have := hI.2.1; omega
  have h6 := hI.2.2.1
  have hI0 := hI
  obtain ⟨hn, -, -, hl, h4⟩ := hI
  obtain ⟨hm, h15, hQ, hF⟩ := id h
  have hx := (hQ i hi).1
  have hlk : σ.1 2 k = nI (mpN N (lm k)) := (hL k hk).1.trans (on_mp h0 h6)
  show WP m_E_step 0 [.ref 3, .int (nI i), .int (nI k), .null, .null] [] σ _
  refine wp_aload_n d_E_step_0 rfl ?_
  refine wp_iload_n d_E_step_1 rfl ?_
  refine wp_callV1e d_E_step_2 cv_E_84 rfl rfl rfl ⟨Nat.le_of_ble_eq_true rfl, Nat.le_of_ble_eq_true rfl⟩ (Nat.le_of_ble_eq_true rfl) (Nat.le_of_ble_eq_true rfl) (c_E_map _ _) ?_
  refine wp_aload_n d_E_step_5 rfl ?_
  refine wp_getA d_E_step_6 fl_E_45 rfl rfl rfl ?_
  refine wp_iload_n d_E_step_9 rfl ?_
  refine wp_callV1e d_E_step_10 cv_E_87 rfl rfl rfl ⟨Nat.le_of_ble_eq_true rfl, Nat.le_of_ble_eq_true rfl⟩ (Nat.le_of_ble_eq_true rfl) (Nat.le_of_ble_eq_true rfl) (c_L_map _ _) ?_
  refine wp_aload_n d_E_step_13 rfl ?_
  refine wp_getA d_E_step_14 fl_E_45 rfl rfl rfl ?_
  refine wp_getI d_E_step_17 fl_E_67 rfl rfl (by decide) ?_
  rw [hn]
  refine wp_callS3e d_E_step_20 cs_E_88 ⟨Nat.le_of_ble_eq_true rfl, Nat.le_of_ble_eq_true rfl⟩ (Nat.le_of_ble_eq_true rfl) (Nat.le_of_ble_eq_true rfl) (c_G_ahead _ _ (by omega) _) ?_
  refine wp_istore3 d_E_step_23 (by decide) rfl ?_
  refine wp_aload_n d_E_step_24 rfl ?_
  refine wp_getA d_E_step_25 fl_E_21 rfl rfl rfl ?_
  refine wp_iload_n d_E_step_28 rfl ?_
  refine wp_callV1e d_E_step_29 cv_E_92 rfl rfl rfl ⟨Nat.le_of_ble_eq_true rfl, Nat.le_of_ble_eq_true rfl⟩ (Nat.le_of_ble_eq_true rfl) (Nat.le_of_ble_eq_true rfl) (c_F_look fiK_6 _ _) ?_
  rw [rdA_in (show i < 1500 by omega) (by decide), rdA_in (show k < 4 by omega) (by decide), hx, hlk, ah_mp h0 h6]
  obtain ⟨z, hz⟩ : ∃ z, z = stE N lm k (itm Q i) := ⟨_, rfl⟩
  have hzl : z < N ^ N := by rw [hz]; exact stE_lt h0 k _
  rw [show bN N (itm Q i) (lm k) = z from hz.symm, ← hz]
  have hlk := h.look h0 h6 hb hzl
  have last : ∀ (τ : Hp) (j : Nat), Fp eS σ τ → τ.1 3 8 = σ.1 3 8 → EK τ N (bfA (stE N lm) i k Q) → τ.1 3 7 = σ.1 3 7 → τ.1 5 = σ.1 5 → psN (bfA (stE N lm) i k Q) z = j → WP m_E_step 86 [.ref 3, .int (nI i), .int (nI k), .int (nI (mpN N z)), .int (nI j)] [] τ (fun w τ => w = none ∧ Fp eS σ τ ∧ τ.1 3 8 = σ.1 3 8 ∧ ((Q.length = 1500 ∧ hasB Q z = false ∧ τ.1 3 7 = 1 ∧ τ.1 3 6 = nI 1500) ∨ (EK τ N (bfA (stE N lm) i k Q) ∧ τ.1 3 7 = σ.1 3 7 ∧ τ.1 5 = upd (σ.1 5) (4 * i + k) (nI (psN (bfA (stE N lm) i k Q) z))))) := by
    intro τ j hFp h8 hK h7 h5 hj
    refine wp_aload_n d_E_step_86 rfl ?_
    refine wp_getA d_E_step_87 fl_E_15 rfl rfl rfl ?_
    refine wp_iload_n d_E_step_90 rfl ?_
    refine wp_iconst (v := 4) d_E_step_91 (by decide) ?_
    refine wp_imul d_E_step_92 ?_
    refine wp_iload_n d_E_step_93 rfl ?_
    refine wp_iadd d_E_step_94 ?_
    refine wp_iload d_E_step_95 rfl ?_
    refine wp_callSN3v d_E_step_97 csn_E_99 ⟨Nat.le_of_ble_eq_true rfl, Nat.le_of_ble_eq_true rfl⟩ (Nat.le_of_ble_eq_true rfl) (Nat.le_of_ble_eq_true rfl) (c_P_put (a := 5) rfl (by decide) _ _ _) ?_
    refine wp_vret d_E_step_100 rfl ?_
    have e4 : nI i * 4 + nI k = nI (4 * i + k) := by
      show nI i * nI 4 + nI k = _
      rw [pk_mul, nI_add, Nat.mul_comm]
    rw [e4, wrA_in (by omega) (by decide)]
    refine ⟨rfl, hFp.wI (by decide), ?_, Or.inr ⟨?_, ?_, ?_⟩⟩
    · rw [wI_ne (by decide)]; exact h8
    · obtain ⟨k1, k2, k3, k4⟩ := hK
      refine ⟨?_, k2, fun x hx => ?_, ?_⟩
      · rw [wI_ne (by decide)]; exact k1
      · rw [wI_ne (by decide), wI_ne (by decide), wI_ne (by decide), wI_ne (by decide)]; exact k3 x hx
      · rw [wI_ne (by decide), wI_ne (by decide)]; exact k4
    · rw [wI_ne (by decide)]; exact h7
    · rw [wI_eq, h5, hj]
  rcases hlk with ⟨b1, b2, b3⟩ | ⟨b1, b2⟩
  · have eA : bfA (stE N lm) i k Q = Q := by rw [bfA, ← hz, if_pos b1]
    have ne9 : ¬ nI (psN Q z) = -9 := by
      have : ∀ n : Nat, n < 1500 → ¬ nI n = -9 := fun n hn e => by
        have := nI_pos (show n < 2 ^ 31 by omega)
        rw [e] at this
        exact this (by decide)
      exact this _ (by omega)
    rw [b2]
    refine wp_istore4 d_E_step_32 (by decide) rfl ?_
    refine wp_iload d_E_step_34 rfl ?_
    refine wp_bipush (v := -9) d_E_step_36 (by decide) ?_
    refine wp_icmp_ne (tgt := 57) d_E_step_38 (by decide) (fun hc => ?_) (fun hc => ?_)
    · refine wp_iload d_E_step_57 rfl ?_
      refine wp_bipush (v := -9) d_E_step_59 (by decide) ?_
      refine wp_icmp_ne (tgt := 86) d_E_step_61 (by decide) (fun hc3 => ?_) (fun hc3 => ?_)
      · exact last σ (psN Q z) Fp.rf rfl (by rw [eA]; exact h) rfl rfl (by rw [eA])
      · exact absurd hc3 ne9
    · exact absurd hc ne9
  · have eA : bfA (stE N lm) i k Q = Q ++ [(z, i, k)] := by rw [bfA, ← hz, if_neg (by rw [b1]; decide)]
    have hn2 : hasB Q (stE N lm k (itm Q i)) = false := by rw [← hz]; exact b1
    rw [b2]
    refine wp_istore4 d_E_step_32 (by decide) rfl ?_
    refine wp_iload d_E_step_34 rfl ?_
    refine wp_bipush (v := -9) d_E_step_36 (by decide) ?_
    refine wp_icmp_ne (tgt := 57) d_E_step_38 (by decide) (fun hc => ?_) (fun hc => ?_)
    · exact absurd rfl hc
    · refine wp_aload_n d_E_step_41 rfl ?_
      refine wp_getI d_E_step_42 fl_E_61 rfl rfl (by decide) ?_
      refine wp_sipush (v := 1500) d_E_step_45 (by decide) ?_
      refine wp_icmp_lt (tgt := 57) d_E_step_48 (by decide) (fun hc2 => ?_) (fun hc2 => ?_)
      · rw [hm] at hc2
        have hlt : Q.length < 1500 := (nI_ltI (b := 1500) (by omega) (by omega)).mp hc2
        refine wp_iload d_E_step_57 rfl ?_
        refine wp_bipush (v := -9) d_E_step_59 (by decide) ?_
        refine wp_icmp_ne (tgt := 86) d_E_step_61 (by decide) (fun hc3 => ?_) (fun hc3 => ?_)
        · exact absurd rfl hc3
        · refine wp_aload_n d_E_step_64 rfl ?_
          refine wp_getI d_E_step_65 fl_E_61 rfl rfl (by decide) ?_
          refine wp_istore4 d_E_step_68 (by decide) rfl ?_
          refine wp_aload_n d_E_step_70 rfl ?_
          refine wp_getA d_E_step_71 fl_E_37 rfl rfl rfl ?_
          refine wp_iload_n d_E_step_74 rfl ?_
          refine wp_iload_n d_E_step_75 rfl ?_
          refine wp_iload d_E_step_76 rfl ?_
          rw [hm]
          refine wp_callV3v d_E_step_78 cv_E_95 rfl rfl rfl ⟨Nat.le_of_ble_eq_true rfl, Nat.le_of_ble_eq_true rfl⟩ (Nat.le_of_ble_eq_true rfl) (Nat.le_of_ble_eq_true rfl) (c_R_grow trK_11 _ _ _ _) ?_
          refine wp_aload_n d_E_step_81 rfl ?_
          refine wp_iload_n d_E_step_82 rfl ?_
          refine wp_callV1v d_E_step_83 cv_E_76 rfl rfl rfl ⟨Nat.le_of_ble_eq_true rfl, Nat.le_of_ble_eq_true rfl⟩ (Nat.le_of_ble_eq_true rfl) (Nat.le_of_ble_eq_true rfl) (c_E_meet _ _) ?_
          have hadd := h.add h0 h6 hB hb hi hk hn2 hlt
          rw [← hz] at hadd
          have hBI2 := hB.add hi hk hn2
          rw [← hz] at hBI2
          refine last _ _ ((grW_Fp (a := 12) (b := 13) (c := 14) (by decide) (by decide) (by decide)).tr emW_Fp) ?_ (by rw [eA]; exact hadd) ?_ ?_ ?_
          · rw [emW, wI_eq, upd_ne (by decide), kp_ne (by decide) (by decide), wrA_ne (by decide), grW_ne (by decide) (by decide) (by decide)]
          · rw [emW_7, grW_ne (by decide) (by decide) (by decide)]
          · rw [emW, wI_ne (by decide), kp_ne (by decide) (by decide), wrA_ne (by decide), grW_ne (by decide) (by decide) (by decide)]
          · rw [eA]
            exact hBI2.ps (by simp) (by rw [itm_app])
      · rw [hm] at hc2
        have hge : Q.length = 1500 := by
          rcases Nat.lt_or_ge Q.length 1500 with q | q
          · exact absurd ((nI_ltI (b := 1500) (by omega) (by omega)).mpr q) hc2
          · omega
        refine wp_aload_n d_E_step_51 rfl ?_
        refine wp_iconst (v := 1) d_E_step_52 (by decide) ?_
        refine wp_putI d_E_step_53 fp_E_54 rfl rfl (by decide) (by decide) (by decide) ?_
        refine wp_vret d_E_step_56 rfl ?_
        refine ⟨rfl, Fp.rf.wI (by decide), ?_, Or.inl ⟨hge, b1, ?_, ?_⟩⟩
        · rw [wI_eq]; rfl
        · rw [wI_eq]; rfl
        · rw [wI_eq, upd_ne (by decide), hm, hge]
theorem bfK_pre2 {st : Nat → Nat → Nat} {i : Nat} {Q : BQ} (k : Nat) : ∀ d, Pre (it (fun k Q => bfA st i k Q) k Q) (it (fun k Q => bfA st i k Q) (k + d) Q)
  | 0 => Pre.rf
  | d + 1 => (bfK_pre2 k d).tr bfA_pre
/-- the element just met stands at its place, those before stay at theirs -/
theorem BH.next {σ τ : Hp} {N L i k s : Nat} {lm : Nat → Nat} {Q : BQ} (h4 : L ≤ 4) (hk : k < L) (hi : i < Q.length) (h : BH σ N L lm Q i k) (hB : BI (stE N lm) L s Q) (hc : ∀ e l, (e < i ∨ (e = i ∧ l < k)) → l < L → e < Q.length → hasB Q (bN N (itm Q e) (lm l)) = true) (h5 : τ.1 5 = upd (σ.1 5) (4 * i + k) (nI (psN (bfA (stE N lm) i k Q) (stE N lm k (itm Q i))))) : BH τ N L lm (bfA (stE N lm) i k Q) i (k + 1) := by
  have hB2 := hB.A (st := stE N lm) hi hk
  have hp : Pre Q (bfA (stE N lm) i k Q) := bfA_pre
  intro e l hel hl he
  rw [h5]
  by_cases q : e = i ∧ l = k
  · obtain ⟨rfl, rfl⟩ := q
    have e1 : toP N lm (bfA (stE N lm) e l Q) e l = psN (bfA (stE N lm) e l Q) (stE N lm l (itm Q e)) := by
      unfold toP
      rw [hp.itm hi]
      rfl
    rw [upd_eq, e1]
    exact ⟨rfl, (psN_has (bfA_has hi)).1⟩
  · have hel2 : e < i ∨ (e = i ∧ l < k) := by omega
    have he2 : e < Q.length := by omega
    obtain ⟨a1, a2⟩ := h e l hel2 hl he2
    have e1 := toP_pre hB hB2 hp he2 a2 (hc e l hel2 hl he2)
    rw [upd_ne (by omega), e1]
    exact ⟨a1, Nat.lt_of_lt_of_le a2 hp.1⟩
theorem c_E_ready0 {N L M : Nat} {lm : Nat → Nat} (σ : Hp) (hI : KI σ N L) (hL : LL σ N L lm) (hM : EM σ M) : Ct m_E_ready [.ref 3] σ (fun w τ => (Fp eS σ τ ∧ (∃ M', EM τ M') ∧ ((w = some (.int 0) ∧ ES τ N L lm) ∨ (w = some (.int 1) ∧ EL τ N L lm))) ∧ τ.1 3 8 = τ.1 1 3) := by
  obtain ⟨N', L', lm', c, g1, g2, g3, g4, g5⟩ := hM.ca
  obtain ⟨rfl, rfl⟩ := hI.un g1
  clear g1
  have h0 : 0 < N := by have := hI.2.1; omega
  have h6 := hI.2.2.1
  have hI0 := hI
  obtain ⟨hn, -, -, hl, h4⟩ := hI0
  have un := g2.un h0 h6 hL
  obtain ⟨Z, hZ⟩ : ∃ Z : Option Value → Hp → Prop, Z = (fun w τ => (Fp eS σ τ ∧ (∃ M', EM τ M') ∧ ((w = some (.int 0) ∧ ES τ N L lm) ∨ (w = some (.int 1) ∧ EL τ N L lm))) ∧ τ.1 3 8 = τ.1 1 3) := ⟨_, rfl⟩
  rw [← hZ]
  have fin0 : ∀ (τ : Hp) (x1 x2 : Value), Fp eS σ τ → Old c (σ.1 15 13) → τ.1 3 8 = nI c → ES τ N L lm → WP m_E_ready 139 [.ref 3, x1, x2] [] τ Z := by
    intro τ x1 x2 hF hold h8 hS
    have e1 : τ.1 1 = σ.1 1 := (hF 1 (by decide)).1
    have e2 : τ.1 2 = σ.1 2 := (hF 2 (by decide)).1
    have hEM : EM τ 1500 := ⟨hS.2.2, Nat.le_refl _, N, L, lm, c, hI.mv e1, hL.cg e2, g3, by rw [e1]; exact g4, Or.inr ⟨h8, Or.inl ⟨hS, by rw [(hF 15 (by decide)).1]; exact hold⟩⟩⟩
    refine wp_aload_n d_E_ready_139 rfl ?_
    refine wp_getI d_E_ready_140 fl_E_54 rfl rfl (by decide) ?_
    refine wp_if_ne (tgt := 150) d_E_ready_143 (by decide) (fun hq => ?_) (fun hq => ?_)
    · refine wp_iconst (v := 0) d_E_ready_150 (by decide) ?_
      refine wp_zret d_E_ready_151 rfl ?_ ?_
      · decide
      · rw [hZ]
        exact ⟨⟨hF, ⟨_, hEM⟩, Or.inl ⟨rfl, hS⟩⟩, h8.trans (by rw [e1]; exact g4.symm)⟩
    · rw [hS.1] at hq
      exact absurd hq (by decide)
  have fin1 : ∀ (τ : Hp) (x1 x2 : Value), Fp eS σ τ → Old c (σ.1 15 13) → τ.1 3 8 = nI c → EL τ N L lm → WP m_E_ready 139 [.ref 3, x1, x2] [] τ Z := by
    intro τ x1 x2 hF hold h8 hS
    have e1 : τ.1 1 = σ.1 1 := (hF 1 (by decide)).1
    have e2 : τ.1 2 = σ.1 2 := (hF 2 (by decide)).1
    have hEM : EM τ (EQ N L lm).length := ⟨hS.2.1.1, hS.2.1.2.1, N, L, lm, c, hI.mv e1, hL.cg e2, g3, by rw [e1]; exact g4, Or.inr ⟨h8, Or.inr ⟨hS, Or.inl (by rw [(hF 15 (by decide)).1]; exact hold)⟩⟩⟩
    refine wp_aload_n d_E_ready_139 rfl ?_
    refine wp_getI d_E_ready_140 fl_E_54 rfl rfl (by decide) ?_
    refine wp_if_ne (tgt := 150) d_E_ready_143 (by decide) (fun hq => ?_) (fun hq => ?_)
    · rw [hS.1] at hq
      exact absurd rfl hq
    · refine wp_iconst (v := 1) d_E_ready_146 (by decide) ?_
      refine wp_goto (tgt := 151) d_E_ready_147 (by decide) ?_
      refine wp_zret d_E_ready_151 rfl ?_ ?_
      · decide
      · rw [hZ]
        exact ⟨⟨hF, ⟨_, hEM⟩, Or.inr ⟨rfl, hS⟩⟩, h8.trans (by rw [e1]; exact g4.symm)⟩
  have sp79 : ∀ (τ : Hp) (i : Int32) (x2 : Value), Fp eS σ τ → Old c (σ.1 15 13) → τ.1 3 8 = nI c → ES τ N L lm → WP m_E_ready 79 [.ref 3, .int i, x2] [] τ Z := by
    intro τ i x2 hF hold h8 hS
    refine wp_iload_n d_E_ready_79 rfl ?_
    refine wp_aload_n d_E_ready_80 rfl ?_
    refine wp_getI d_E_ready_81 fl_E_61 rfl rfl (by decide) ?_
    refine wp_icmp_ge (tgt := 139) d_E_ready_84 (by decide) (fun hc2 => ?_) (fun hc2 => ?_)
    · exact fin0 τ _ _ hF hold h8 hS
    · refine wp_iload_n d_E_ready_87 rfl ?_
      refine wp_sipush (v := 1500) d_E_ready_88 (by decide) ?_
      refine wp_icmp_ge (tgt := 139) d_E_ready_91 (by decide) (fun hc3 => ?_) (fun hc3 => ?_)
      · exact fin0 τ _ _ hF hold h8 hS
      · refine wp_aload_n d_E_ready_94 rfl ?_
        refine wp_getI d_E_ready_95 fl_E_54 rfl rfl (by decide) ?_
        refine wp_if_ne (tgt := 139) d_E_ready_98 (by decide) (fun hc4 => ?_) (fun hc4 => ?_)
        · exact fin0 τ _ _ hF hold h8 hS
        · rw [hS.1] at hc4
          exact absurd hc4 (by decide)
  have sp103 : ∀ (τ : Hp) (i k : Int32), Fp eS σ τ → Old c (σ.1 15 13) → τ.1 3 8 = nI c → ES τ N L lm → WP m_E_ready 103 [.ref 3, .int i, .int k] [] τ Z := by
    intro τ i k hF hold h8 hS
    have nxt : WP m_E_ready 133 [.ref 3, .int i, .int k] [] τ Z := by
      refine wp_iinc1 d_E_ready_133 (hn_ii1 _) (by decide) rfl ?_
      refine wp_goto (tgt := 79) d_E_ready_136 (by decide) ?_
      exact sp79 τ _ _ hF hold h8 hS
    refine wp_iload_n d_E_ready_103 rfl ?_
    refine wp_aload_n d_E_ready_104 rfl ?_
    refine wp_getA d_E_ready_105 fl_E_45 rfl rfl rfl ?_
    refine wp_getI d_E_ready_108 fl_E_79 rfl rfl (by decide) ?_
    refine wp_icmp_ge (tgt := 133) d_E_ready_111 (by decide) (fun hc5 => ?_) (fun hc5 => ?_)
    · exact nxt
    · refine wp_aload_n d_E_ready_114 rfl ?_
      refine wp_getI d_E_ready_115 fl_E_54 rfl rfl (by decide) ?_
      refine wp_if_ne (tgt := 133) d_E_ready_118 (by decide) (fun hc6 => ?_) (fun hc6 => ?_)
      · exact nxt
      · rw [hS.1] at hc6
        exact absurd hc6 (by decide)
  show WP m_E_ready 0 [.ref 3, .null, .null] [] σ _
  refine wp_aload_n d_E_ready_0 rfl ?_
  refine wp_getI d_E_ready_1 fl_E_41 rfl rfl (by decide) ?_
  refine wp_aload_n d_E_ready_4 rfl ?_
  refine wp_getA d_E_ready_5 fl_E_45 rfl rfl rfl ?_
  refine wp_getI d_E_ready_8 fl_E_49 rfl rfl (by decide) ?_
  refine wp_icmp_ne (tgt := 27) d_E_ready_11 (by decide) (fun hc => ?_) (fun hc => ?_)
  · have hold : Old c (σ.1 15 13) := by
      rcases g5 with g5 | ⟨g5, -⟩
      · exact g5.2
      · exact absurd (g5.trans g4.symm) hc
    refine wp_aload_n d_E_ready_27 rfl ?_
    refine wp_aload_n d_E_ready_28 rfl ?_
    refine wp_getA d_E_ready_29 fl_E_45 rfl rfl rfl ?_
    refine wp_getI d_E_ready_32 fl_E_49 rfl rfl (by decide) ?_
    refine wp_putI d_E_ready_35 fp_E_41 rfl rfl (by decide) rfl rfl ?_
    refine wp_aload_n d_E_ready_38 rfl ?_
    refine wp_getA d_E_ready_39 fl_E_21 rfl rfl rfl ?_
    refine wp_callV0v d_E_ready_42 cv_E_58 rfl rfl rfl ⟨Nat.le_of_ble_eq_true rfl, Nat.le_of_ble_eq_true rfl⟩ (Nat.le_of_ble_eq_true rfl) (Nat.le_of_ble_eq_true rfl) (c_F_clear fiK_6 _) ?_
    refine wp_aload_n d_E_ready_45 rfl ?_
    refine wp_iconst (v := 0) d_E_ready_46 (by decide) ?_
    refine wp_putI d_E_ready_47 fp_E_61 rfl rfl (by decide) rfl rfl ?_
    refine wp_aload_n d_E_ready_50 rfl ?_
    refine wp_iconst (v := 0) d_E_ready_51 (by decide) ?_
    refine wp_putI d_E_ready_52 fp_E_54 rfl rfl (by decide) (by decide) (by decide) ?_
    refine wp_aload_n d_E_ready_55 rfl ?_
    refine wp_getA d_E_ready_56 fl_E_37 rfl rfl rfl ?_
    refine wp_iconst (v := 0) d_E_ready_59 (by decide) ?_
    refine wp_callV1v d_E_ready_60 cv_E_64 rfl rfl rfl ⟨Nat.le_of_ble_eq_true rfl, Nat.le_of_ble_eq_true rfl⟩ (Nat.le_of_ble_eq_true rfl) (Nat.le_of_ble_eq_true rfl) (c_R_begin trK_11 _ _) ?_
    refine wp_aload_n d_E_ready_63 rfl ?_
    refine wp_aload_n d_E_ready_64 rfl ?_
    refine wp_getA d_E_ready_65 fl_E_45 rfl rfl rfl ?_
    refine wp_getI d_E_ready_68 fl_E_67 rfl rfl (by decide) ?_
    have en : (wrA (wI (wI (flA (wI σ 3 8 (σ.1 1 3)) 7 0 4096) 3 6 0) 3 7 0) 14 1500 0 0).1 1 1 = nI N := by
      rw [wrA_ne (by decide)]; exact hn
    rw [en]
    refine wp_callS1e d_E_ready_71 cs_E_70 ⟨Nat.le_of_ble_eq_true rfl, Nat.le_of_ble_eq_true rfl⟩ (Nat.le_of_ble_eq_true rfl) (Nat.le_of_ble_eq_true rfl) (c_G_nothing (by omega) _) ?_
    refine wp_callV1v d_E_ready_74 cv_E_76 rfl rfl rfl ⟨Nat.le_of_ble_eq_true rfl, Nat.le_of_ble_eq_true rfl⟩ (Nat.le_of_ble_eq_true rfl) (Nat.le_of_ble_eq_true rfl) (c_E_meet _ _) ?_
    refine wp_iconst (v := 0) d_E_ready_77 (by decide) ?_
    refine wp_istore1 d_E_ready_78 (by decide) rfl ?_
    rw [no_mp h6]
    suffices H : ∀ i, i ≤ 1500 → ∀ (τ : Hp) (x2 : Value), Fp eS σ τ → τ.1 3 8 = nI c → τ.1 3 7 = 0 → EK τ N (bfQ (stE N lm) L (idN N) i) → BH τ N L lm (bfQ (stE N lm) L (idN N) i) i 0 → WP m_E_ready 79 [.ref 3, .int (nI i), x2] [] τ Z by
      obtain ⟨υ, hυ⟩ : ∃ υ, υ = wrA (wI (wI (flA (wI σ 3 8 (σ.1 1 3)) 7 0 4096) 3 6 0) 3 7 0) 14 1500 0 0 := ⟨_, rfl⟩
      have hFυ : Fp eS σ υ := by
        rw [hυ]
        exact ((((Fp.rf.wI (by decide)).flA (by decide)).wI (by decide)).wI (by decide)).wrA (by decide)
      have ew : υ = wI (wI (wI (flA (wI σ 3 8 (σ.1 1 3)) 7 0 4096) 3 6 0) 3 7 0) 14 0 0 := hυ.trans (wrA_in (by decide) (by decide))
      have u6 : υ.1 3 6 = nI 0 := by rw [ew, wI_ne (by decide), wI_eq, upd_ne (by decide), wI_eq, upd_eq]; rfl
      have u7 : υ.1 3 7 = 0 := by rw [ew, wI_ne (by decide), wI_eq, upd_eq]
      have u8 : υ.1 3 8 = nI c := by
        rw [ew, wI_ne (by decide), wI_eq, upd_ne (by decide), wI_eq, upd_ne (by decide)]
        show (wI σ 3 8 (σ.1 1 3)).1 3 8 = _
        rw [wI_eq, upd_eq, g4]
      have u14 : υ.1 14 0 = 0 := by rw [ew, wI_eq, upd_eq]
      have uz : ∀ s, s < 4096 → υ.1 7 s = 0 := fun s hs => by
        rw [ew, wI_ne (by decide), wI_ne (by decide), wI_ne (by decide)]
        exact flA_in hs
      rw [← hυ]
      have em : emW υ (nI (mpN N (idN N))) = wI (kpW (wI υ 4 0 (nI (mpN N (idN N)))) 7 8 (nI (mpN N (idN N))) (nI 0)) 3 6 (nI 1) := by
        unfold emW
        rw [u6, wrA_in (by decide) (by decide), nI_1]
      have hf : FS ((wI υ 4 0 (nI (mpN N (idN N)))).1 7) ((wI υ 4 0 (nI (mpN N (idN N)))).1 8) (fun _ => 0) 0 := FS.nil (fun s hs => by rw [wI_ne (by decide)]; exact uz s hs)
      have hf2 := hf.keep (σ := wI υ 4 0 (nI (mpN N (idN N)))) (a := 7) (b := 8) (k := mpN N (idN N)) (by decide) (by decide) (fun j hj => absurd hj (Nat.not_lt_zero j)) (by have := mpN_lt (N := N) (x := idN N) h0 h6; omega) (fun j hj => absurd hj (Nat.not_lt_zero j))
      refine H 0 (Nat.zero_le _) _ _ (hFυ.tr emW_Fp) ?_ ?_ ?_ (fun e l hel => absurd hel (by omega))
      · rw [em, wI_eq, upd_ne (by decide), kp_ne (by decide) (by decide), wI_ne (by decide)]; exact u8
      · rw [em, wI_eq, upd_ne (by decide), kp_ne (by decide) (by decide), wI_ne (by decide)]; exact u7
      · rw [em]
        refine ⟨by rw [wI_eq, upd_eq]; rfl, by show 1 ≤ 1500; decide, fun j hj => ?_, ?_⟩
        · have hj0 : j = 0 := by
            have : j < 1 := hj
            omega
          subst hj0
          refine ⟨?_, ?_, fun z => absurd z (Nat.lt_irrefl 0)⟩
          · rw [wI_ne (by decide), kp_ne (by decide) (by decide), wI_eq, upd_eq]; rfl
          · rw [wI_ne (by decide), kp_ne (by decide) (by decide), wI_ne (by decide), u14]; rfl
        · rw [wI_ne (by decide), wI_ne (by decide)]
          refine hf2.cg (fun j hj => ?_)
          have hj0 : j = 0 := by omega
          subst hj0
          rfl
    refine lp_nat (fun i hi ih τ x2 hF h8 h7 hK hH => ?_)
    have e1 : τ.1 1 = σ.1 1 := (hF 1 (by decide)).1
    obtain ⟨k1, k2, k3, k4⟩ := id hK
    have done : (bfQ (stE N lm) L (idN N) i).length ≤ i → WP m_E_ready 139 [.ref 3, .int (nI i), x2] [] τ Z := fun hle => by
      have hE := EQ_at (L := L) (lm := lm) hi hle
      refine fin1 τ _ _ hF hold h8 ⟨h7, by rw [hE]; exact hK, fun e l hel hl he => ?_⟩
      rw [hE] at he ⊢
      exact hH e l (Or.inl (by omega)) hl he
    refine wp_iload_n d_E_ready_79 rfl ?_
    refine wp_aload_n d_E_ready_80 rfl ?_
    refine wp_getI d_E_ready_81 fl_E_61 rfl rfl (by decide) ?_
    refine wp_icmp_ge (tgt := 139) d_E_ready_84 (by decide) (fun hc2 => ?_) (fun hc2 => ?_)
    · rw [k1] at hc2
      exact done (nI_ge2 hc2 (by omega) (by omega))
    · rw [k1] at hc2
      have hi3 := nI_nge hc2 (by omega) (by omega)
      refine wp_iload_n d_E_ready_87 rfl ?_
      refine wp_sipush (v := 1500) d_E_ready_88 (by decide) ?_
      refine wp_icmp_ge (tgt := 139) d_E_ready_91 (by decide) (fun hc3 => ?_) (fun hc3 => ?_)
      · have := nI_ge2 (b := 1500) hc3 (by omega) (by omega)
        exact done (by omega)
      · have hi2 := nI_nge (b := 1500) hc3 (by omega) (by omega)
        refine wp_aload_n d_E_ready_94 rfl ?_
        refine wp_getI d_E_ready_95 fl_E_54 rfl rfl (by decide) ?_
        refine wp_if_ne (tgt := 139) d_E_ready_98 (by decide) (fun hc4 => ?_) (fun hc4 => ?_)
        · exact absurd h7 hc4
        · refine wp_iconst (v := 0) d_E_ready_101 (by decide) ?_
          refine wp_istore2 d_E_ready_102 (by decide) rfl ?_
          suffices H : ∀ k, k ≤ L → ∀ (τ : Hp), Fp eS σ τ → τ.1 3 8 = nI c → τ.1 3 7 = 0 → EK τ N (it (fun k Q => bfA (stE N lm) i k Q) k (bfQ (stE N lm) L (idN N) i)) → BH τ N L lm (it (fun k Q => bfA (stE N lm) i k Q) k (bfQ (stE N lm) L (idN N) i)) i k → WP m_E_ready 103 [.ref 3, .int (nI i), .int (nI k)] [] τ Z from H 0 (Nat.zero_le _) τ hF h8 h7 hK hH
          clear done e1 hF h8 h7 hK hH k1 k2 k3 k4 hc2 hc4 τ
          refine lp_nat (fun k hk ih2 τ hF h8 h7 hK hH => ?_)
          have e1 : τ.1 1 = σ.1 1 := (hF 1 (by decide)).1
          have e2 : τ.1 2 = σ.1 2 := (hF 2 (by decide)).1
          have hBI := (BI.Q (st := stE N lm) (L := L) (s := idN N) i).K hi3 k hk
          have hpre := bfK_pre (st := stE N lm) (i := i) (Q := bfQ (stE N lm) L (idN N) i) k
          have hib : i < (it (fun k Q => bfA (stE N lm) i k Q) k (bfQ (stE N lm) L (idN N) i)).length := Nat.lt_of_lt_of_le hi3 hpre.1
          have hbd := hBI.bd idN_lt (fun k x _ _ => stE_lt h0 k x)
          refine wp_iload_n d_E_ready_103 rfl ?_
          refine wp_aload_n d_E_ready_104 rfl ?_
          refine wp_getA d_E_ready_105 fl_E_45 rfl rfl rfl ?_
          refine wp_getI d_E_ready_108 fl_E_79 rfl rfl (by decide) ?_
          refine wp_icmp_ge (tgt := 133) d_E_ready_111 (by decide) (fun hc5 => ?_) (fun hc5 => ?_)
          · rw [e1, hl] at hc5
            obtain rfl := Nat.le_antisymm hk (nI_ge2 hc5 (by omega) (by omega))
            refine wp_iinc1 d_E_ready_133 (hn_ii1 _) (by decide) rfl ?_
            refine wp_goto (tgt := 79) d_E_ready_136 (by decide) ?_
            rw [nI_1]
            refine ih hi2 τ _ hF h8 h7 (by rw [bfQ_s hi3]; exact hK) ?_
            rw [bfQ_s hi3]
            exact fun e l hel hl2 he => hH e l (by omega) hl2 he
          · rw [e1, hl] at hc5
            have hk2 := nI_nge hc5 (by omega) (by omega)
            refine wp_aload_n d_E_ready_114 rfl ?_
            refine wp_getI d_E_ready_115 fl_E_54 rfl rfl (by decide) ?_
            refine wp_if_ne (tgt := 133) d_E_ready_118 (by decide) (fun hc6 => ?_) (fun hc6 => ?_)
            · exact absurd h7 hc6
            · refine wp_aload_n d_E_ready_121 rfl ?_
              refine wp_iload_n d_E_ready_122 rfl ?_
              refine wp_iload_n d_E_ready_123 rfl ?_
              refine wp_callV2 d_E_ready_124 cv_E_80 rfl rfl rfl ⟨Nat.le_of_ble_eq_true rfl, Nat.le_of_ble_eq_true rfl⟩ (Nat.le_of_ble_eq_true rfl) (Nat.le_of_ble_eq_true rfl) (c_E_step _ (hI.mv e1) (hL.cg e2) hib hk2 hK hBI hbd) (fun v υ hv => ?_)
              obtain ⟨rfl, hF2, h82, hv⟩ := hv
              show WP m_E_ready 127 _ [] υ _
              refine wp_iinc2 d_E_ready_127 (hn_ii1 _) (by decide) rfl ?_
              refine wp_goto (tgt := 103) d_E_ready_130 (by decide) ?_
              rw [nI_1]
              rcases hv with ⟨v1, v2, v3, v4⟩ | ⟨v1, v2, v3⟩
              · refine sp103 υ _ _ (hF.tr hF2) hold (h82.trans h8) ⟨v3, ?_, v4⟩
                have p1 : Pre (it (fun k Q => bfA (stE N lm) i k Q) (k + 1) (bfQ (stE N lm) L (idN N) i)) (bfQ (stE N lm) L (idN N) (i + 1)) := by
                  rw [bfQ_s hi3]
                  have := bfK_pre2 (st := stE N lm) (i := i) (Q := bfQ (stE N lm) L (idN N) i) (k + 1) (L - (k + 1))
                  rwa [show k + 1 + (L - (k + 1)) = L by omega] at this
                have p2 := (p1.tr (EQ_pre (L := L) (lm := lm) (show i + 1 ≤ 1500 by omega))).1
                have p3 : (it (fun k Q => bfA (stE N lm) i k Q) (k + 1) (bfQ (stE N lm) L (idN N) i)).length = (it (fun k Q => bfA (stE N lm) i k Q) k (bfQ (stE N lm) L (idN N) i)).length + 1 := by
                  show (bfA (stE N lm) i k (it (fun k Q => bfA (stE N lm) i k Q) k (bfQ (stE N lm) L (idN N) i))).length = _
                  rw [bfA, if_neg (by rw [v2]; decide)]
                  simp
                omega
              · refine ih2 hk2 υ (hF.tr hF2) (h82.trans h8) (v2.trans h7) v1 ?_
                refine BH.next h4 hk2 hib hH hBI (fun e l hel hl2 he => ?_) v3
                rcases hel with q | ⟨rfl, q⟩
                · have hbc := bfQ_BC (st := stE N lm) (L := L) (s := idN N) i (by omega)
                  have e3 := hpre.itm (show e < (bfQ (stE N lm) L (idN N) i).length by omega)
                  rw [e3]
                  exact hpre.has (hbc e l q hl2)
                · have e3 := hpre.itm hi3
                  rw [e3]
                  exact bfK_has hi3 k l q
  · have hv : σ.1 3 8 = nI c ∧ (ES σ N L lm' ∨ EL σ N L lm') := by
      rcases g5 with ⟨g5 | ⟨d, hd, g5⟩, -⟩ | ⟨g5, g6⟩
      · rw [g5, g4] at hc
        exact absurd hc (fun z => by
          have := nI_pos (show c < 2 ^ 31 by omega)
          rw [← z] at this
          exact this (by decide))
      · rw [g5, g4] at hc
        have := (nI_eq (by omega) (by omega)).mp hc
        omega
      · exact ⟨g5, g6.imp (fun z => z.1) (fun z => z.1)⟩
    obtain ⟨g6, g7⟩ := hv
    refine wp_aload_n d_E_ready_14 rfl ?_
    refine wp_getI d_E_ready_15 fl_E_54 rfl rfl (by decide) ?_
    refine wp_if_ne (tgt := 25) d_E_ready_18 (by decide) (fun hq => ?_) (fun hq => ?_)
    · rcases g7 with g7 | g7
      · refine wp_iconst (v := 0) d_E_ready_25 (by decide) ?_
        refine wp_zret d_E_ready_26 rfl ?_ ?_
        · decide
        · rw [hZ]
          exact ⟨⟨Fp.rf, ⟨M, hM⟩, Or.inl ⟨rfl, g7.un un⟩⟩, hc⟩
      · exact absurd g7.1 hq
    · rcases g7 with g7 | g7
      · rw [g7.1] at hq
        exact absurd hq (by decide)
      · refine wp_iconst (v := 1) d_E_ready_21 (by decide) ?_
        refine wp_goto (tgt := 26) d_E_ready_22 (by decide) ?_
        refine wp_zret d_E_ready_26 rfl ?_ ?_
        · decide
        · rw [hZ]
          exact ⟨⟨Fp.rf, ⟨M, hM⟩, Or.inr ⟨rfl, g7.un un⟩⟩, hc⟩
theorem c_E_ready {N L M : Nat} {lm : Nat → Nat} (σ : Hp) (hI : KI σ N L) (hL : LL σ N L lm) (hM : EM σ M) : Ct m_E_ready [.ref 3] σ (fun w τ => Fp eS σ τ ∧ (∃ M', EM τ M') ∧ ((w = some (.int 0) ∧ ES τ N L lm) ∨ (w = some (.int 1) ∧ EL τ N L lm))) := (c_E_ready0 σ hI hL hM).mono (fun _ _ h => h.1)
/-- ready: 0 or 1; the elements alone are changed -/
theorem w_E_ready {N L M : Nat} (σ : Hp) (hI : KI σ N L) (hM : EM σ M) : Ct m_E_ready [.ref 3] σ (fun w τ => (w = some (.int 0) ∨ w = some (.int 1)) ∧ Fp eS σ τ ∧ ∃ M', EM τ M') := by
  obtain ⟨N', L', lm, c, g1, g2, -⟩ := hM.ca
  obtain ⟨rfl, rfl⟩ := hI.un g1
  exact (c_E_ready σ hI g2 hM).mono (fun w τ ⟨a, b, d⟩ => ⟨d.imp (fun z => z.1) (fun z => z.1), a, b⟩)
