/-! taken: the class's answer -/
theorem v_P_taken (n : Int32) {N L M : Nat} (σ : Hp) (hI : KI σ N L) (hM : EM σ M) : Ct m_P_taken [.ref 0, .int n] σ (Rq σ (fun z => (∃ j, j ≤ 40 ∧ n = nI j ∧ z = it (tkS (σ.1 48 8) (wyF σ N L j)) N 0) ∨ (¬ (0 ≤ n ∧ n ≤ 40) ∧ z = -1))) := by
  show WP m_P_taken 0 [.ref 0, .int n] [] σ _
  refine wp_iload_n d_P_taken_0 rfl ?_
  refine wp_iconst (v := 0) d_P_taken_1 (by decide) ?_
  refine wp_bipush (v := 40) d_P_taken_2 (by decide) ?_
  refine wp_callS3e d_P_taken_4 cs_P_62 ⟨Nat.le_of_ble_eq_true rfl, Nat.le_of_ble_eq_true rfl⟩ (Nat.le_of_ble_eq_true rfl) (Nat.le_of_ble_eq_true rfl) (c_P_within _ _ _ _) ?_
  refine wp_if_ne (tgt := 12) d_P_taken_7 (by decide) (fun hc => ?_) (fun hc => ?_)
  · obtain ⟨j, hj, rfl⟩ := wi_nI (m := 40) (by decide) (bz_n0 hc)
    refine wp_aload_n d_P_taken_12 rfl ?_
    refine wp_getA d_P_taken_13 fl_P_58 rfl rfl rfl ?_
    refine wp_iload_n d_P_taken_16 rfl ?_
    refine wp_callV1 d_P_taken_17 cv_P_209 rfl rfl rfl ⟨Nat.le_of_ble_eq_true rfl, Nat.le_of_ble_eq_true rfl⟩ (Nat.le_of_ble_eq_true rfl) (Nat.le_of_ble_eq_true rfl) (c_A_takenWords (by omega) _ hI) (fun v τ hv => ?_)
    obtain ⟨rfl, hF⟩ := hv
    show WP m_P_taken 20 _ [.int _] τ _
    refine wp_iret d_P_taken_20 rfl ?_
    exact ⟨⟨_, rfl, Or.inl ⟨j, hj, rfl, rfl⟩⟩, hF.up (upS (by decide)), M, hF.EM (by decide) hM⟩
  · have hc' : ¬ (0 ≤ n ∧ n ≤ 40) := bz_0.mp hc
    refine wp_iconst (v := -1) d_P_taken_10 (by decide) ?_
    refine wp_iret d_P_taken_11 rfl ?_
    exact ⟨⟨_, rfl, Or.inr ⟨hc', rfl⟩⟩, Fp.rf, M, hM⟩
theorem wrF_nI {g : Nat → Int32} {x : Int32} {d : Nat} (hd : d < 6) : wrF g 6 (nI d) x = upd g d x := by
  rw [wrF, if_pos ⟨nI_pos' (by omega), nI_lt hd (by decide)⟩, nI_clamp (by omega)]
theorem rdF_nI {g : Nat → Int32} {d : Nat} (hd : d < 6) : rdF g 6 (nI d) = g d := by
  rw [rdF, if_pos ⟨nI_pos' (by omega), nI_lt hd (by decide)⟩, nI_clamp (by omega)]
theorem rmP_nI {a N : Nat} (h : a < 2 ^ 31) : rmP (nI a) = nI (a % bigM N) := by
  rw [bigM_eq]
  exact pk_rem h (by decide) (by decide)
theorem gb_key {N L s : Nat} {lm W : Nat → Nat} {lt w : Nat → Int32} (h0 : 0 < N) (h6 : N ≤ 6) (hl : ∀ k, k < L → lt k = Oc N (gN N (lm k))) (hs : s < N) (hw : w s = nI (W s)) (hW : W s < bigM N) {G : Nat → Int32} {R : Nat → Nat} (hG : ∀ d, d < 6 → G d = nI (R d % bigM N)) : ∀ K, K ≤ L → ∀ d, d < 6 → it (gbS lt w s) K G d = nI (it (wgS N lm W s) K R d % bigM N)
  | 0, _, d, hd => hG d hd
  | K + 1, hK, d, hd => by
    have ih := gb_key h0 h6 hl hs hw hW hG K (by omega)
    have hM := bigM_eq N
    have hd0 := gN_lt (N := N) (m := lm K) (i := s) h0
    show gbS lt w s K (it (gbS lt w s) K G) d = nI (wgS N lm W s K (it (wgS N lm W s) K R) d % bigM N)
    generalize it (gbS lt w s) K G = G2 at ih ⊢
    generalize it (wgS N lm W s) K R = R2 at ih ⊢
    have h1 := Nat.mod_lt (R2 (gN N (lm K) s)) (show 0 < bigM N by omega)
    rw [gbS, hl K (by omega), gF_at h6 (gN8 h0 h6) hs, wrF_nI (by omega), rdF_nI (by omega), ih _ (by omega), hw, nI_add, rmP_nI (N := N) (by omega), Nat.mod_add_mod]
    unfold wgS upd
    by_cases q : d = gN N (lm K) s
    · rw [if_pos q, if_pos q, q]
    · rw [if_neg q, if_neg q]
      exact ih d hd
theorem gb_all {N L : Nat} {lm W : Nat → Nat} {lt w : Nat → Int32} (h0 : 0 < N) (h6 : N ≤ 6) (hl : ∀ k, k < L → lt k = Oc N (gN N (lm k))) (hw : ∀ s, s < 6 → w s = nI (W s)) (hW : ∀ s, W s < bigM N) : ∀ K, K ≤ N → ∀ d, d < 6 → it (fun s g => it (gbS lt w s) L g) K (fun _ => 0) d = nI (it (fun i g => it (wgS N lm W i) L g) K (fun _ => 0) d % bigM N)
  | 0, _, d, _ => by show (0 : Int32) = nI (0 % bigM N); rw [Nat.zero_mod]; rfl
  | K + 1, hK, d, hd => gb_key h0 h6 hl (by omega) (hw K (by omega)) (hW K) (gb_all h0 h6 hl hw hW K (by omega)) L (Nat.le_refl _) d hd
theorem wayN_lM {N L s : Nat} {lm : Nat → Nat} : ∀ t i, wayN N L lm s t i < bigM N
  | 0, i => by
    have := bigM_eq N
    show (if i = s then 1 else 0) < bigM N
    split <;> omega
  | t + 1, i => Nat.mod_lt _ (by have := bigM_eq N; omega)
theorem wy_way {σ : Hp} {N L : Nat} {lm : Nat → Nat} {s e : Nat} (h : XS σ (N, L, lm, s, e)) : ∀ t d, d < 6 → wyF σ N L t d = nI (wayN N L lm s t d)
  | 0, d, hd => by
    have hs := h.2.2.1.1
    have h6 := h.1.2.2.1
    show wrF (fun _ => 0) 6 (σ.1 48 7) 1 d = nI (if d = s then 1 else 0)
    rw [h.2.2.1.2, wrF_nI (by omega), upd]
    split <;> rfl
  | t + 1, d, hd => gb_all (by have := h.1.2.1; omega) h.1.2.2.1 (fun k hk => h.lt hk) (fun s hs => wy_way h t s hs) (fun s => wayN_lM t s) N (Nat.le_refl _) d hd
theorem tk_all {N e : Nat} {W : Nat → Nat} {w : Nat → Int32} (h6 : N ≤ 6) (he : e < 2 ^ N) (hw : ∀ s, s < 6 → w s = nI (W s)) (hW : ∀ s, W s < bigM N) : ∀ K, K ≤ N → it (tkS (nI e) w) K 0 = nI (tkN e W K % bigM N)
  | 0, _ => by show (0 : Int32) = nI (0 % bigM N); rw [Nat.zero_mod]; rfl
  | K + 1, hK => by
    have ih := tk_all h6 he hw hW K (by omega)
    have hM := bigM_eq N
    have h26 := pow2_le6 h6
    have hb := bt_nI (S := e) (i := K) (by omega) (by omega)
    have hm := Nat.mod_lt (e / 2 ^ K) (show 0 < 2 by decide)
    have h1 := Nat.mod_lt (tkN e W K) (show 0 < bigM N by omega)
    have h2 := hW K
    show (if iB (nI e) (nI K) = true then rmP (it (tkS (nI e) w) K 0 + w K) else it (tkS (nI e) w) K 0) = nI ((tkN e W K + (if e / 2 ^ K % 2 = 1 then W K else 0)) % bigM N)
    by_cases q : e / 2 ^ K % 2 = 1
    · have hB : iB (nI e) (nI K) = true := decide_eq_true (by rw [hb, q]; rfl)
      rw [if_pos hB, if_pos q, ih, hw K (by omega), nI_add, rmP_nI (N := N) (by omega), Nat.mod_add_mod]
    · have hB : ¬ iB (nI e) (nI K) = true := fun h => q ((nI_eq (by omega) (by decide)).mp (show nI (e / 2 ^ K % 2) = nI 1 by rw [← hb]; exact of_decide_eq_true h))
      rw [if_neg hB, if_neg q, ih, Nat.add_zero]
theorem xv_taken (n : Int32) {σ : Hp} {a : Sx} (h : XS σ a) : Ct m_P_taken [.ref 0, .int n] σ (YX σ a (aeTk n a)) := by
  obtain ⟨N, L, lm, s, e⟩ := a
  obtain ⟨M, hM, -⟩ := h.2.2.2.2
  refine (v_P_taken n σ h.1 hM).im (fun w τ hr => hr.yx h (fun z hz => ?_))
  rcases hz with ⟨j, hj, rfl, rfl⟩ | hz
  · refine Or.inl ⟨j, hj, rfl, ?_⟩
    rw [h.2.2.2.1.2, tk_all h.1.2.2.1 h.2.2.2.1.1 (fun d hd => wy_way h j d hd) (fun d => wayN_lM j d) N (Nat.le_refl _), bigM_eq]
  · exact Or.inr hz
theorem un_taken {n z z' : Int32} {a : Sx} (h : aeTk n a z) (h' : aeTk n a z') : z = z' := by
  obtain ⟨N, L, lm, s, e⟩ := a
  rcases h with ⟨k, hk, rfl, rfl⟩ | ⟨h, rfl⟩ <;> rcases h' with ⟨k', hk', e', rfl⟩ | ⟨h', rfl⟩
  · rw [(nI_eq (by omega) (by omega)).mp e']
  · exact absurd ⟨nI_pos' (by omega), nI_le (b := 40) hk (by omega)⟩ h'
  · exact absurd ⟨by rw [e']; exact nI_pos' (by omega), by rw [e']; exact nI_le (b := 40) hk' (by omega)⟩ h
  · rfl
