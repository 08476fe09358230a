/-! what the listed elements tell: the class's answers of one element and of all -/
section EL
variable {σ : Hp} {N L : Nat} {lm : Nat → Nat}
theorem EL.at (hE : EL σ N L lm) {e : Nat} (he : e < (EQ N L lm).length) : σ.1 4 e = nI (mpN N (itm (EQ N L lm) e)) := (hE.2.1.2.2.1 e he).1
theorem EL.len (hE : EL σ N L lm) : (EQ N L lm).length ≤ 1500 := hE.2.1.2.1
theorem EL.pos : 0 < (EQ N L lm).length := EQ_BI.1
theorem EL.st (h0 : 0 < N) (h6 : N ≤ 6) (hE : EL σ N L lm) {e : Nat} (he : e < (EQ N L lm).length) : stB σ N e = true ↔ stN N (itm (EQ N L lm) e) = true := by
  rw [stB_iff, hE.at he, ah_mp h0 h6, mp_eq h0 h6 (bN_lt h0) (EQ_lt h0 e he), stN, decide_eq_true_iff]
theorem psN_eq {Q : BQ} {a b : Nat} (ha : hasB Q a = true) (hb : hasB Q b = true) : psN Q a = psN Q b ↔ a = b :=
  ⟨fun h => (psN_has ha).2.symm.trans ((congrArg (itm Q) h).trans (psN_has hb).2), fun h => by rw [h]⟩
theorem EL.ce (h0 : 0 < N) (h6 : N ≤ 6) (hL : LL σ N L lm) (hE : EL σ N L lm) {e : Nat} (he : e < (EQ N L lm).length) : ceB σ N L e = true ↔ ceN N L lm (EQ N L lm) e = true := by
  have hc := EQ_cl hE.len
  rw [ceB_iff, ceN, List.all_eq_true]
  have key : ∀ k, k < L → (ahF (σ.1 4 e) (σ.1 2 k) N = ahF (σ.1 2 k) (σ.1 4 e) N ↔ toP N lm (EQ N L lm) e k = ahP N lm (EQ N L lm) e k) := fun k hk => by
    have hk2 : σ.1 2 k = nI (mpN N (lm k)) := (hL k hk).1.trans (on_mp h0 h6)
    rw [hE.at he, hk2, ah_mp h0 h6, ah_mp h0 h6, mp_eq h0 h6 (bN_lt h0) (bN_lt h0)]
    exact (psN_eq (hc e k he hk) (EQ_ah h0 (fun l hl => (hL l hl).2) hE.len hk e he)).symm
  constructor
  · exact fun h k hk => decide_eq_true ((key k (List.mem_range.mp hk)).mp (h k (List.mem_range.mp hk)))
  · exact fun h k hk => (key k hk).mpr (of_decide_eq_true (h k (List.mem_range.mpr hk)))
theorem elN_sm {j : Nat} (hj : ¬ j = 3) : ∀ K, elN N L lm j K = sm (fun e => if j = 0 ∨ (j = 1 ∧ stN N (itm (EQ N L lm) e) = true) ∨ (j = 2 ∧ ceN N L lm (EQ N L lm) e = true) then 1 else 0) K
  | 0 => rfl
  | K + 1 => by
    show elS N L lm j K (elN N L lm j K) = sm _ K + _
    rw [elS, if_neg hj, elN_sm hj K]
theorem el_0 (K : Nat) : elN N L lm 0 K = K := by
  rw [elN_sm (by decide), sm_cg (G := fun _ => 1) (fun k _ => if_pos (Or.inl rfl)), sm_1]
theorem el_1 (h0 : 0 < N) (h6 : N ≤ 6) (hE : EL σ N L lm) : it (fun e r => r + bz (stB σ N e = true)) (EQ N L lm).length 0 = nI (elN N L lm 1 (EQ N L lm).length) := by
  rw [cnt_nI, elN_sm (by decide)]
  congr 1
  refine sm_cg (fun k hk => ?_)
  have := hE.st h0 h6 hk
  by_cases q : stB σ N k = true
  · rw [if_pos q, if_pos (Or.inr (Or.inl ⟨rfl, this.mp q⟩))]
  · rw [if_neg q, if_neg (fun z => by
      rcases z with z | z | z
      · exact absurd z (by decide)
      · exact q (this.mpr z.2)
      · exact absurd z.1 (by decide))]
theorem el_2 (h0 : 0 < N) (h6 : N ≤ 6) (hL : LL σ N L lm) (hE : EL σ N L lm) : it (fun e r => r + bz (ceB σ N L e = true)) (EQ N L lm).length 0 = nI (elN N L lm 2 (EQ N L lm).length) := by
  rw [cnt_nI, elN_sm (by decide)]
  congr 1
  refine sm_cg (fun k hk => ?_)
  have := hE.ce h0 h6 hL hk
  by_cases q : ceB σ N L k = true
  · rw [if_pos q, if_pos (Or.inr (Or.inr ⟨rfl, this.mp q⟩))]
  · rw [if_neg q, if_neg (fun z => by
      rcases z with z | z | z
      · exact absurd z (by decide)
      · exact absurd z.1 (by decide)
      · exact q (this.mpr z.2))]
theorem rg_pos (m : Nat) : 1 ≤ rgN N m := Nat.succ_le_succ (Nat.zero_le _)
/-- the greatest ring, from 1 on -/
def grN (N L : Nat) (lm : Nat → Nat) (K : Nat) : Nat := it (fun e v => if v < rgN N (itm (EQ N L lm) e) then rgN N (itm (EQ N L lm) e) else v) K 1
theorem gr_el : ∀ K, grN N L lm (K + 1) = elN N L lm 3 (K + 1)
  | 0 => by
    have := rg_pos (N := N) (itm (EQ N L lm) 0)
    show (if 1 < rgN N (itm (EQ N L lm) 0) then rgN N (itm (EQ N L lm) 0) else 1) = elS N L lm 3 0 0
    rw [elS, if_pos rfl, if_pos (show 0 < rgN N (itm (EQ N L lm) 0) by omega)]
    split <;> omega
  | K + 1 => by
    show (if grN N L lm (K + 1) < _ then _ else grN N L lm (K + 1)) = elS N L lm 3 (K + 1) (elN N L lm 3 (K + 1))
    rw [elS, if_pos rfl, gr_el K]
theorem gr_le (K : Nat) : grN N L lm K ≤ 61 := by
  induction K with
  | zero => show 1 ≤ 61; decide
  | succ K ih =>
    show (if grN N L lm K < _ then _ else grN N L lm K) ≤ 61
    have := rgN_le N (itm (EQ N L lm) K)
    split <;> omega
end EL
theorem EL.mv {σ τ : Hp} {N L : Nat} {lm : Nat → Nat} {S : List Nat} (h : EL σ N L lm) (hF : Fp S σ τ) (hs : ∀ q, q ∈ eC → q ∉ S) : EL τ N L lm := h.cg (fun q hq _ _ => (hF q (hs q hq)).1)
/-- the row of powers of a listed map -/
theorem ls_mp {N m r a : Nat} {σ τ : Hp} (h0 : 0 < N) (h6 : N ≤ 6) (hm : m < N ^ N) (h : LsOf (nI (mpN N m)) N r a σ τ) : ∃ k, k ≤ 11 ∧ τ.1 r 1 = nI k ∧ τ.1 r 2 = nI (tlN N m) ∧ k = tlN N m + rgN N m ∧ tlN N m ≤ slN N m ∧ slN N m < k ∧ (∀ j, j < k → τ.1 a j = nI (mpN N (pwN N m j))) ∧ Fp [r, a] σ τ := by
  obtain ⟨k, z, h1, h16, hd, hp, hz, t1, t2, t3, hF⟩ := h
  have plt := fun j => pwN_lt h0 hm j
  obtain ⟨i, i1, i2, rfl, i4, i5, i6, i7⟩ := pw_row h0 h6 hm h16 (fun t ht i hi e => hd t ht i hi (by rw [pwF_mp h0 h6, pwF_mp h0 h6, e])) (by
    have := hp.cong (g := fun j => nI (mpN N (pwN N m j))) (fun j _ => pwF_mp h0 h6 j)
    rwa [pwF_mp h0 h6] at this) hz
  refine ⟨k, i2, t1, ?_, by omega, by omega, i7, fun j hj => (t3 j hj).trans (pwF_mp h0 h6 j), hF⟩
  rw [t2, ← i4]
  unfold mxI
  split
  · rfl
  · rename_i q
    have := (nI_leI (a := i) (b := 0) (by omega) (by omega)).mp (k2_le q)
    rw [show i = 0 by omega]; rfl
theorem mx_nI {a b : Nat} (ha : a < 2 ^ 31) (hb : b < 2 ^ 31) : mxI (nI a) (nI b) = nI (if a < b then b else a) := by
  unfold mxI
  by_cases q : a < b
  · rw [if_pos q, if_pos (nI_lt q hb)]
  · rw [if_neg q, if_neg (fun z => q ((nI_ltI ha hb).mp z))]
theorem v_E_greatestRing {N L : Nat} {lm : Nat → Nat} (σ : Hp) (hI : KI σ N L) (hE : EL σ N L lm) : Ct m_E_greatestRing [.ref 3] σ (fun w τ => w = some (.int (nI (grN N L lm (EQ N L lm).length))) ∧ Fp [9, 10] σ τ) := by
  have h0' : 0 < N := by have := hI.2.1; omega
  obtain ⟨hn, h1, h6, hl, h4⟩ := hI
  have h15 := hE.len
  show WP m_E_greatestRing 0 [.ref 3, .null, .null] [] σ _
  refine wp_iconst (v := 1) d_E_greatestRing_0 (by decide) ?_
  refine wp_istore1 d_E_greatestRing_1 (by decide) rfl ?_
  refine wp_iconst (v := 0) d_E_greatestRing_2 (by decide) ?_
  refine wp_istore2 d_E_greatestRing_3 (by decide) rfl ?_
  suffices H : ∀ k, k ≤ (EQ N L lm).length → ∀ (τ : Hp), Fp [9, 10] σ τ → WP m_E_greatestRing 4 [.ref 3, .int (nI (grN N L lm k)), .int (nI k)] [] τ (fun w τ => w = some (.int (nI (grN N L lm (EQ N L lm).length))) ∧ Fp [9, 10] σ τ) from H 0 (Nat.zero_le _) _ Fp.rf
  refine lp_nat (fun k hk ih τ hF => ?_)
  have e1 : τ.1 1 = σ.1 1 := (hF 1 (by decide)).1
  have e3 : τ.1 3 = σ.1 3 := (hF 3 (by decide)).1
  have hE2 := hE.mv hF (by decide)
  refine wp_iload_n d_E_greatestRing_4 rfl ?_
  refine wp_aload_n d_E_greatestRing_5 rfl ?_
  refine wp_getI d_E_greatestRing_6 fl_E_61 rfl rfl (by decide) ?_
  refine wp_icmp_ge (tgt := 49) d_E_greatestRing_9 (by decide) (fun hc => ?_) (fun hc => ?_)
  · rw [e3, hE.2.1.1] at hc
    obtain rfl := Nat.le_antisymm hk (nI_ge2 hc (by omega) (by omega))
    refine wp_iload_n d_E_greatestRing_49 rfl ?_
    refine wp_iret d_E_greatestRing_50 rfl ?_
    exact ⟨rfl, hF⟩
  · rw [e3, hE.2.1.1] at hc
    have hk2 := nI_nge hc (by omega) (by omega)
    refine wp_aload_n d_E_greatestRing_12 rfl ?_
    refine wp_getA d_E_greatestRing_13 fl_E_28 rfl rfl rfl ?_
    refine wp_aload_n d_E_greatestRing_16 rfl ?_
    refine wp_iload_n d_E_greatestRing_17 rfl ?_
    refine wp_callV1e d_E_greatestRing_18 cv_E_84 rfl rfl rfl ⟨Nat.le_of_ble_eq_true rfl, Nat.le_of_ble_eq_true rfl⟩ (Nat.le_of_ble_eq_true rfl) (Nat.le_of_ble_eq_true rfl) (c_E_map _ _) ?_
    refine wp_aload_n d_E_greatestRing_21 rfl ?_
    refine wp_getA d_E_greatestRing_22 fl_E_45 rfl rfl rfl ?_
    refine wp_getI d_E_greatestRing_25 fl_E_67 rfl rfl (by decide) ?_
    rw [e1, hn, rdA_in (show k < 1500 by omega) (by decide), hE2.at hk2]
    refine wp_callV2 d_E_greatestRing_28 cv_E_118 rfl rfl rfl ⟨Nat.le_of_ble_eq_true rfl, Nat.le_of_ble_eq_true rfl⟩ (Nat.le_of_ble_eq_true rfl) (Nat.le_of_ble_eq_true rfl) (c_O_listOf poK_9 (by decide) _ (by omega) _) (fun v υ hv => ?_)
    obtain ⟨rfl, hv⟩ := hv
    obtain ⟨kk, q1, q2, q3, q4, -, -, -, hF2⟩ := ls_mp h0' h6 (EQ_lt h0' k hk2) hv
    show WP m_E_greatestRing 31 _ [] υ _
    refine wp_iload_n d_E_greatestRing_31 rfl ?_
    refine wp_aload_n d_E_greatestRing_32 rfl ?_
    refine wp_getA d_E_greatestRing_33 fl_E_28 rfl rfl rfl ?_
    refine wp_callV0e d_E_greatestRing_36 cv_E_145 rfl rfl rfl ⟨Nat.le_of_ble_eq_true rfl, Nat.le_of_ble_eq_true rfl⟩ (Nat.le_of_ble_eq_true rfl) (Nat.le_of_ble_eq_true rfl) (c_O_ring poK_9 _) ?_
    have er : υ.1 9 1 - υ.1 9 2 = nI (rgN N (itm (EQ N L lm) k)) := by
      rw [q2, q3, pk_sub (by omega)]
      congr 1
      omega
    have g1 := gr_le (N := N) (L := L) (lm := lm) k
    have g2 := rgN_le N (itm (EQ N L lm) k)
    rw [er]
    refine wp_callS2e d_E_greatestRing_39 cs_E_159 ⟨Nat.le_of_ble_eq_true rfl, Nat.le_of_ble_eq_true rfl⟩ (Nat.le_of_ble_eq_true rfl) (Nat.le_of_ble_eq_true rfl) (c_Jm_max _ _ _) ?_
    refine wp_istore1 d_E_greatestRing_42 (by decide) rfl ?_
    refine wp_iinc2 d_E_greatestRing_43 (hn_ii1 _) (by decide) rfl ?_
    refine wp_goto (tgt := 4) d_E_greatestRing_46 (by decide) ?_
    rw [nI_1, mx_nI (by omega) (by omega)]
    exact ih hk2 _ (hF.tr hF2)
theorem mp_num {N x : Nat} (h0 : 0 < N) (h6 : N ≤ 6) (hx : x < N ^ N) : tnF (nI (mpN N x)) N = nI x := by
  show tnF (Oc N (gN N x)) N = _
  rw [tnF_Oc h6 (gN8 h0 h6)]
  congr 1
  exact gN_ext h0 (hzN_lt (fun i _ => gN_lt h0)) hx (fun i hi => hzN_dig (fun i _ => gN_lt h0) hi)
theorem mp_ker {N x : Nat} (h0 : 0 < N) (h6 : N ≤ 6) : tnF (knF (nI (mpN N x)) N) N = nI (knN N x) := by
  show tnF (knF (Oc N (gN N x)) N) N = _
  rw [knF_Oc h6 (gN8 h0 h6), tnF_Oc h6 (fun i hi => by have := sr_le (fun l => gN N x l = gN N x i) i 0; omega)]
  rfl
theorem mp_rank {N x : Nat} (h0 : 0 < N) (h6 : N ≤ 6) : bcI (osF (nI (mpN N x)) (nI (2 ^ N - 1))) = nI (pcN (rsN N x)) := by
  have h2p : 0 < 2 ^ N := Nat.pow_pos (by decide)
  have h26 := pow2_le6 h6
  have hl := imN_lt (N := N) (m := x) (S := 2 ^ N - 1) h0
  show bcI (osF (Oc N (gN N x)) (nI (2 ^ N - 1))) = _
  rw [osF_Oc h0 h6 (by omega), bcI_nI (by omega)]
  congr 2
  have key : ∀ K, K ≤ N → it (fun i v => v ||| (if (2 ^ N - 1) / 2 ^ i % 2 = 1 then 2 ^ gN N x i else 0)) K 0 = it (fun i s => s ||| 2 ^ gN N x i) K 0 := by
    intro K
    induction K with
    | zero => exact fun _ => rfl
    | succ K ih =>
      intro hK
      have hb : (2 ^ N - 1) / 2 ^ K % 2 = 1 := by
        have : ∀ N, N ≤ 6 → ∀ K, K < N → (2 ^ N - 1) / 2 ^ K % 2 = 1 := by decide +kernel
        exact this N h6 K (by omega)
      show it (fun i v => v ||| (if (2 ^ N - 1) / 2 ^ i % 2 = 1 then 2 ^ gN N x i else 0)) K 0 ||| (if (2 ^ N - 1) / 2 ^ K % 2 = 1 then 2 ^ gN N x K else 0) = it (fun i s => s ||| 2 ^ gN N x i) K 0 ||| 2 ^ gN N x K
      rw [ih (by omega), if_pos hb]
  exact key N (Nat.le_refl _)
theorem v_E_tell {x j N L : Nat} {lm : Nat → Nat} (hj : j < 8) (σ : Hp) (hI : KI σ N L) (hE : EL σ N L lm) (hx : x < (EQ N L lm).length) : Ct m_E_tell [.ref 3, .int (nI x), .int (nI j)] σ (fun w τ => w = some (.int (nI (eoN N L lm j x))) ∧ Fp [9, 10] σ τ) := by
  have h0' : 0 < N := by have := hI.2.1; omega
  have hI0 := hI
  obtain ⟨hn, h1, h6, hl, h4⟩ := hI0
  have h15 := hE.len
  have hx15 : x < 1500 := by omega
  have hm := EQ_lt (L := L) (lm := lm) h0' x hx
  obtain ⟨m, hme⟩ : ∃ m, m = itm (EQ N L lm) x := ⟨_, rfl⟩
  have h4x := hE.at hx
  have hst := hE.st h0' h6 hx
  show WP m_E_tell 0 [.ref 3, .int (nI x), .int (nI j)] [] σ _
  refine wp_aload_n d_E_tell_0 rfl ?_
  refine wp_getA d_E_tell_1 fl_E_28 rfl rfl rfl ?_
  refine wp_aload_n d_E_tell_4 rfl ?_
  refine wp_iload_n d_E_tell_5 rfl ?_
  refine wp_callV1e d_E_tell_6 cv_E_84 rfl rfl rfl ⟨Nat.le_of_ble_eq_true rfl, Nat.le_of_ble_eq_true rfl⟩ (Nat.le_of_ble_eq_true rfl) (Nat.le_of_ble_eq_true rfl) (c_E_map _ _) ?_
  refine wp_aload_n d_E_tell_9 rfl ?_
  refine wp_getA d_E_tell_10 fl_E_45 rfl rfl rfl ?_
  refine wp_getI d_E_tell_13 fl_E_67 rfl rfl (by decide) ?_
  rw [hn, rdA_in hx15 (by decide), h4x]
  refine wp_callV2 d_E_tell_16 cv_E_118 rfl rfl rfl ⟨Nat.le_of_ble_eq_true rfl, Nat.le_of_ble_eq_true rfl⟩ (Nat.le_of_ble_eq_true rfl) (Nat.le_of_ble_eq_true rfl) (c_O_listOf poK_9 (by decide) _ (by omega) _) (fun v τ hv => ?_)
  obtain ⟨rfl, hv⟩ := hv
  obtain ⟨k, k1, k2, k3, k4, k5, k6, k7, hF⟩ := ls_mp h0' h6 hm hv
  show WP m_E_tell 19 _ [] τ _
  have e1 : τ.1 1 = σ.1 1 := (hF 1 (by decide)).1
  have e4 : τ.1 4 = σ.1 4 := (hF 4 (by decide)).1
  have hI2 := hI.mv e1
  have hn2 : τ.1 1 1 = nI N := hI2.1
  have hE2 := hE.mv hF (by decide)
  have h4t : rdA τ 4 1500 (nI x) = nI (mpN N (itm (EQ N L lm) x)) := by rw [rdA_in hx15 (by decide), e4, h4x]
  rcases (show j = 0 ∨ j = 1 ∨ j = 2 ∨ j = 3 ∨ j = 4 ∨ j = 5 ∨ j = 6 ∨ j = 7 by omega) with rfl | rfl | rfl | rfl | rfl | rfl | rfl | rfl
  · refine wp_iload_n d_E_tell_19 rfl ?_
    refine wp_tabIn (tgt := 64) (off := 44) d_E_tell_20 (by decide) (by decide) (by decide) (by decide) ?_
    refine wp_aload_n d_E_tell_64 rfl ?_
    refine wp_iload_n d_E_tell_65 rfl ?_
    refine wp_callV1e d_E_tell_66 cv_E_84 rfl rfl rfl ⟨Nat.le_of_ble_eq_true rfl, Nat.le_of_ble_eq_true rfl⟩ (Nat.le_of_ble_eq_true rfl) (Nat.le_of_ble_eq_true rfl) (c_E_map _ _) ?_
    refine wp_aload_n d_E_tell_69 rfl ?_
    refine wp_getA d_E_tell_70 fl_E_45 rfl rfl rfl ?_
    refine wp_getI d_E_tell_73 fl_E_67 rfl rfl (by decide) ?_
    rw [hn2, h4t]
    refine wp_callS2e d_E_tell_76 cs_E_121 ⟨Nat.le_of_ble_eq_true rfl, Nat.le_of_ble_eq_true rfl⟩ (Nat.le_of_ble_eq_true rfl) (Nat.le_of_ble_eq_true rfl) (c_G_toNumber _ (by omega) _) ?_
    refine wp_iret d_E_tell_79 rfl ?_
    exact ⟨by rw [mp_num h0' h6 hm]; rfl, hF⟩
  · refine wp_iload_n d_E_tell_19 rfl ?_
    refine wp_tabIn (tgt := 80) (off := 60) d_E_tell_20 (by decide) (by decide) (by decide) (by decide) ?_
    refine wp_aload_n d_E_tell_80 rfl ?_
    refine wp_iload_n d_E_tell_81 rfl ?_
    refine wp_callV1e d_E_tell_82 cv_E_125 rfl rfl rfl ⟨Nat.le_of_ble_eq_true rfl, Nat.le_of_ble_eq_true rfl⟩ (Nat.le_of_ble_eq_true rfl) (Nat.le_of_ble_eq_true rfl) (c_E_rank _ _ hI2) ?_
    refine wp_iret d_E_tell_85 rfl ?_
    exact ⟨by rw [h4t, mp_rank h0' h6]; rfl, hF⟩
  · refine wp_iload_n d_E_tell_19 rfl ?_
    refine wp_tabIn (tgt := 86) (off := 66) d_E_tell_20 (by decide) (by decide) (by decide) (by decide) ?_
    refine wp_aload_n d_E_tell_86 rfl ?_
    refine wp_iload_n d_E_tell_87 rfl ?_
    refine wp_callV1e d_E_tell_88 cv_E_84 rfl rfl rfl ⟨Nat.le_of_ble_eq_true rfl, Nat.le_of_ble_eq_true rfl⟩ (Nat.le_of_ble_eq_true rfl) (Nat.le_of_ble_eq_true rfl) (c_E_map _ _) ?_
    refine wp_aload_n d_E_tell_91 rfl ?_
    refine wp_getA d_E_tell_92 fl_E_45 rfl rfl rfl ?_
    refine wp_getI d_E_tell_95 fl_E_67 rfl rfl (by decide) ?_
    rw [hn2, h4t]
    refine wp_callS2e d_E_tell_98 cs_E_128 ⟨Nat.le_of_ble_eq_true rfl, Nat.le_of_ble_eq_true rfl⟩ (Nat.le_of_ble_eq_true rfl) (Nat.le_of_ble_eq_true rfl) (c_G_kernel _ (by omega) _) ?_
    refine wp_aload_n d_E_tell_101 rfl ?_
    refine wp_getA d_E_tell_102 fl_E_45 rfl rfl rfl ?_
    refine wp_getI d_E_tell_105 fl_E_67 rfl rfl (by decide) ?_
    rw [hn2]
    refine wp_callS2e d_E_tell_108 cs_E_121 ⟨Nat.le_of_ble_eq_true rfl, Nat.le_of_ble_eq_true rfl⟩ (Nat.le_of_ble_eq_true rfl) (Nat.le_of_ble_eq_true rfl) (c_G_toNumber _ (by omega) _) ?_
    refine wp_iret d_E_tell_111 rfl ?_
    exact ⟨by rw [mp_ker h0' h6]; rfl, hF⟩
  · refine wp_iload_n d_E_tell_19 rfl ?_
    refine wp_tabIn (tgt := 112) (off := 92) d_E_tell_20 (by decide) (by decide) (by decide) (by decide) ?_
    refine wp_aload_n d_E_tell_112 rfl ?_
    refine wp_getA d_E_tell_113 fl_E_37 rfl rfl rfl ?_
    refine wp_iload_n d_E_tell_116 rfl ?_
    refine wp_callV1e d_E_tell_117 cv_E_131 rfl rfl rfl ⟨Nat.le_of_ble_eq_true rfl, Nat.le_of_ble_eq_true rfl⟩ (Nat.le_of_ble_eq_true rfl) (Nat.le_of_ble_eq_true rfl) (c_R_lengthOf trK_11 _ _) ?_
    refine wp_iret d_E_tell_120 rfl ?_
    exact ⟨by rw [rdA_in hx15 (by decide), (hE2.2.1.2.2.1 x hx).2.1]; rfl, hF⟩
  · refine wp_iload_n d_E_tell_19 rfl ?_
    refine wp_tabIn (tgt := 121) (off := 101) d_E_tell_20 (by decide) (by decide) (by decide) (by decide) ?_
    refine wp_aload_n d_E_tell_121 rfl ?_
    refine wp_iload_n d_E_tell_122 rfl ?_
    refine wp_callV1e d_E_tell_123 cv_E_134 rfl rfl rfl ⟨Nat.le_of_ble_eq_true rfl, Nat.le_of_ble_eq_true rfl⟩ (Nat.le_of_ble_eq_true rfl) (Nat.le_of_ble_eq_true rfl) (c_E_isStill _ _ hI2) ?_
    refine wp_callSN1e d_E_tell_126 csn_E_137 ⟨Nat.le_of_ble_eq_true rfl, Nat.le_of_ble_eq_true rfl⟩ (Nat.le_of_ble_eq_true rfl) (Nat.le_of_ble_eq_true rfl) (c_P_oneIf _ _) ?_
    refine wp_iret d_E_tell_129 rfl ?_
    refine ⟨?_, hF⟩
    have e5 : eoN N L lm 4 x = if stN N (itm (EQ N L lm) x) = true then 1 else 0 := rfl
    rw [e5, h4t, ah_mp h0' h6]
    have hq := mp_eq h0' h6 (bN_lt h0' (a := itm (EQ N L lm) x) (b := itm (EQ N L lm) x)) hm
    by_cases q : stN N (itm (EQ N L lm) x) = true
    · rw [if_pos q, bz_t (hq.mpr (of_decide_eq_true q))]
      rfl
    · rw [if_neg q, bz_f (fun z => q (decide_eq_true (hq.mp z)))]
      rfl
  · refine wp_iload_n d_E_tell_19 rfl ?_
    refine wp_tabIn (tgt := 130) (off := 110) d_E_tell_20 (by decide) (by decide) (by decide) (by decide) ?_
    refine wp_aload_n d_E_tell_130 rfl ?_
    refine wp_getA d_E_tell_131 fl_E_28 rfl rfl rfl ?_
    refine wp_callV0e d_E_tell_134 cv_E_141 rfl rfl rfl ⟨Nat.le_of_ble_eq_true rfl, Nat.le_of_ble_eq_true rfl⟩ (Nat.le_of_ble_eq_true rfl) (Nat.le_of_ble_eq_true rfl) (c_O_tail poK_9 _) ?_
    refine wp_iret d_E_tell_137 rfl ?_
    exact ⟨by rw [k3]; rfl, hF⟩
  · refine wp_iload_n d_E_tell_19 rfl ?_
    refine wp_tabIn (tgt := 138) (off := 118) d_E_tell_20 (by decide) (by decide) (by decide) (by decide) ?_
    refine wp_aload_n d_E_tell_138 rfl ?_
    refine wp_getA d_E_tell_139 fl_E_28 rfl rfl rfl ?_
    refine wp_callV0e d_E_tell_142 cv_E_145 rfl rfl rfl ⟨Nat.le_of_ble_eq_true rfl, Nat.le_of_ble_eq_true rfl⟩ (Nat.le_of_ble_eq_true rfl) (Nat.le_of_ble_eq_true rfl) (c_O_ring poK_9 _) ?_
    refine wp_iret d_E_tell_145 rfl ?_
    refine ⟨?_, hF⟩
    have e5 : eoN N L lm 6 x = rgN N (itm (EQ N L lm) x) := rfl
    rw [e5, k2, k3, pk_sub (by omega), show k - tlN N (itm (EQ N L lm) x) = rgN N (itm (EQ N L lm) x) by omega]
  · refine wp_iload_n d_E_tell_19 rfl ?_
    refine wp_tabOut (tgt := 146) d_E_tell_20 (by decide) (by decide) ?_
    refine wp_aload_n d_E_tell_146 rfl ?_
    refine wp_aload_n d_E_tell_147 rfl ?_
    refine wp_getA d_E_tell_148 fl_E_28 rfl rfl rfl ?_
    refine wp_aload_n d_E_tell_151 rfl ?_
    refine wp_getA d_E_tell_152 fl_E_45 rfl rfl rfl ?_
    refine wp_getI d_E_tell_155 fl_E_67 rfl rfl (by decide) ?_
    rw [hn2]
    refine wp_callV1 d_E_tell_158 cv_E_148 rfl rfl rfl ⟨Nat.le_of_ble_eq_true rfl, Nat.le_of_ble_eq_true rfl⟩ (Nat.le_of_ble_eq_true rfl) (Nat.le_of_ble_eq_true rfl) (c_O_stillOne poK_9 (by omega) _ k2 (by omega) k3 (by omega)) (fun v2 υ hv2 => ?_)
    obtain ⟨z2, rfl, rfl, hz2⟩ := hv2
    show WP m_E_tell 161 _ [.int z2, .ref 3] _ _
    refine wp_callV1e d_E_tell_161 cv_E_151 rfl rfl rfl ⟨Nat.le_of_ble_eq_true rfl, Nat.le_of_ble_eq_true rfl⟩ (Nat.le_of_ble_eq_true rfl) (Nat.le_of_ble_eq_true rfl) (c_E_numberOf _ _) ?_
    refine wp_iret d_E_tell_164 rfl ?_
    have plt := fun i => pwN_lt h0' hm i
    have still : ∀ i, i < k → (ahF (υ.1 10 i) (υ.1 10 i) N = υ.1 10 i ↔ bN N (pwN N (itm (EQ N L lm) x) i) (pwN N (itm (EQ N L lm) x) i) = pwN N (itm (EQ N L lm) x) i) := fun i hi => by
      rw [k7 i hi, ah_mp h0' h6, mp_eq h0' h6 (bN_lt h0') (plt i)]
    have s2 := (slN_spec h0' h6 hm).2
    have first : ∀ i, i < slN N (itm (EQ N L lm) x) → ¬ bN N (pwN N (itm (EQ N L lm) x) i) (pwN N (itm (EQ N L lm) x) i) = pwN N (itm (EQ N L lm) x) i := fun i hi e => by
      obtain ⟨c, c1, c2⟩ := pk_least (fun k => bN N (pwN N (itm (EQ N L lm) x) k) (pwN N (itm (EQ N L lm) x) k) = pwN N (itm (EQ N L lm) x) k) ⟨i, e⟩
      have hcb : c ≤ i := by
        rcases Nat.lt_or_ge i c with y | y
        · exact absurd e (c2 i y)
        · exact y
      have : slN N (itm (EQ N L lm) x) = c := sr_first (fun j hj => c2 j hj) c1 (by rw [n60_eq]; omega)
      omega
    have ez : z2 = nI (mpN N (pwN N (itm (EQ N L lm) x) (slN N (itm (EQ N L lm) x)))) := by
      rcases hz2 with ⟨i, i1, i2, rfl, i4, i5⟩ | ⟨-, i5⟩
      · have i4 := (still i i2).mp i4
        have : i = slN N (itm (EQ N L lm) x) := by
          rcases Nat.lt_trichotomy i (slN N (itm (EQ N L lm) x)) with y | y | y
          · exact absurd i4 (first i y)
          · exact y
          · exact absurd ((still _ k6).mpr s2) (i5 _ k5 y)
        rw [k7 i i2, this]
      · exact absurd ((still _ k6).mpr s2) (i5 _ k5 k6)
    refine ⟨?_, hF⟩
    have hpw := EQ_pw h0' h15 hx (slN N (itm (EQ N L lm) x))
    have e5 : eoN N L lm 7 x = psN (EQ N L lm) (pwN N (itm (EQ N L lm) x) (slN N (itm (EQ N L lm) x))) := rfl
    rw [e5, ez]
    rcases hE2.2.1.look h0' h6 (EQ_lt h0') (plt (slN N (itm (EQ N L lm) x))) with ⟨-, q, -⟩ | ⟨q, -⟩
    · rw [q]
    · rw [hpw] at q
      cases q
