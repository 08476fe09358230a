/-! contracts: the machine, but what asks for the elements -/
def iE (e s : Int32) : Prop := (e >>> (s &&& 31)) &&& 1 = 1
theorem iE_dec (e s : Int32) : iE e s ∨ ¬ iE e s := Classical.em _
def iB (e s : Int32) : Bool := decide ((e >>> (s &&& 31)) &&& 1 = 1)
theorem c_A_changeStart (v : Int32) (σ : Hp) : Ct m_A_changeStart [.ref 48, .int v] σ (Rt (.int (σ.1 48 7)) (wI σ 48 7 v)) := by
  show WP m_A_changeStart 0 [.ref 48, .int v, .null] [] σ _
  refine wp_aload_n d_A_changeStart_0 rfl ?_
  refine wp_getI d_A_changeStart_1 fl_A_44 rfl rfl (by decide) ?_
  refine wp_istore2 d_A_changeStart_4 (by decide) rfl ?_
  refine wp_aload_n d_A_changeStart_5 rfl ?_
  refine wp_iload_n d_A_changeStart_6 rfl ?_
  refine wp_putI d_A_changeStart_7 fp_A_44 rfl rfl (by decide) rfl rfl ?_
  refine wp_iload_n d_A_changeStart_10 rfl ?_
  refine wp_iret d_A_changeStart_11 rfl ?_
  exact ⟨rfl, rfl⟩
theorem c_A_changeEnds (v : Int32) (σ : Hp) : Ct m_A_changeEnds [.ref 48, .int v] σ (Rt (.int (σ.1 48 8)) (wI σ 48 8 v)) := by
  show WP m_A_changeEnds 0 [.ref 48, .int v, .null] [] σ _
  refine wp_aload_n d_A_changeEnds_0 rfl ?_
  refine wp_getI d_A_changeEnds_1 fl_A_48 rfl rfl (by decide) ?_
  refine wp_istore2 d_A_changeEnds_4 (by decide) rfl ?_
  refine wp_aload_n d_A_changeEnds_5 rfl ?_
  refine wp_iload_n d_A_changeEnds_6 rfl ?_
  refine wp_putI d_A_changeEnds_7 fp_A_48 rfl rfl (by decide) rfl rfl ?_
  refine wp_iload_n d_A_changeEnds_10 rfl ?_
  refine wp_iret d_A_changeEnds_11 rfl ?_
  exact ⟨rfl, rfl⟩
theorem c_A_isEnd (s : Int32) (σ : Hp) : Ct m_A_isEnd [.ref 48, .int s] σ (Rt (.int (bz (iB (σ.1 48 8) s = true))) σ) := by
  show WP m_A_isEnd 0 [.ref 48, .int s] [] σ _
  refine wp_aload_n d_A_isEnd_0 rfl ?_
  refine wp_getI d_A_isEnd_1 fl_A_48 rfl rfl (by decide) ?_
  refine wp_iload_n d_A_isEnd_4 rfl ?_
  refine wp_ishr d_A_isEnd_5 ?_
  refine wp_iconst (v := 1) d_A_isEnd_6 (by decide) ?_
  refine wp_iand d_A_isEnd_7 ?_
  refine wp_iconst (v := 1) d_A_isEnd_8 (by decide) ?_
  refine wp_icmp_ne (tgt := 16) d_A_isEnd_9 (by decide) (fun h1 => ?_) (fun h1 => ?_)
  · rw [iB, decide_eq_false h1, bz_f (by decide)]
    refine wp_iconst (v := 0) d_A_isEnd_16 (by decide) ?_
    refine wp_zret d_A_isEnd_17 rfl ?_ ?_
    · decide
    · exact ⟨rfl, rfl⟩
  · rw [iB, decide_eq_true h1, bz_t rfl]
    refine wp_iconst (v := 1) d_A_isEnd_12 (by decide) ?_
    refine wp_goto (tgt := 17) d_A_isEnd_13 (by decide) ?_
    refine wp_zret d_A_isEnd_17 rfl ?_ ?_
    · decide
    · exact ⟨rfl, rfl⟩
def ueS (e : Int32) (a b : Nat) (m : Int64) : Int64 := if iB e (nI a) = iB e (nI b) then m else stL m (prF (nI a) (nI b))
def ueF (e : Int32) (N : Nat) : Int64 := it (fun a m => it (ueS e a) N m) N 0
theorem bz_inj {a b : Bool} : bz (a = true) = bz (b = true) ↔ a = b := by
  cases a <;> cases b <;> decide
theorem c_A_unlikeEnds {N L : Nat} (σ : Hp) (hI : KI σ N L) : Ct m_A_unlikeEnds [.ref 48] σ (Rt (.long (ueF (σ.1 48 8) N)) σ) := by
  have h0 := hI
  obtain ⟨hn, h1, h6, hl, h4⟩ := h0
  show WP m_A_unlikeEnds 0 [.ref 48, .null, .null, .null, .null] [] σ _
  refine wp_lconst (v := 0) d_A_unlikeEnds_0 (by decide) ?_
  refine wp_lstore1 d_A_unlikeEnds_1 (by decide) rfl ?_
  refine wp_iconst (v := 0) d_A_unlikeEnds_2 (by decide) ?_
  refine wp_istore3 d_A_unlikeEnds_3 (by decide) rfl ?_
  suffices H : ∀ k, k ≤ N → ∀ x4 : Value, WP m_A_unlikeEnds 4 [.ref 48, .long (it (fun a m => it (ueS (σ.1 48 8) a) N m) k 0), .null, .int (nI k), x4] [] σ (Rt (.long (ueF (σ.1 48 8) N)) σ) from H 0 (Nat.zero_le _) _
  refine lp_nat (fun k hk ih x4 => ?_)
  refine wp_iload_n d_A_unlikeEnds_4 rfl ?_
  refine wp_aload_n d_A_unlikeEnds_5 rfl ?_
  refine wp_getA d_A_unlikeEnds_6 fl_A_32 rfl rfl rfl ?_
  refine wp_getI d_A_unlikeEnds_9 fl_A_64 rfl rfl (by decide) ?_
  refine wp_icmp_ge (tgt := 67) d_A_unlikeEnds_12 (by decide) (fun hc => ?_) (fun hc => ?_)
  · rw [hn] at hc
    obtain rfl := Nat.le_antisymm hk (nI_ge2 hc (by omega) (by omega))
    refine wp_lload_n d_A_unlikeEnds_67 rfl ?_
    refine wp_lret d_A_unlikeEnds_68 rfl ?_
    exact ⟨rfl, rfl⟩
  · rw [hn] at hc
    have hk2 := nI_nge hc (by omega) (by omega)
    refine wp_iconst (v := 0) d_A_unlikeEnds_15 (by decide) ?_
    refine wp_istore4 d_A_unlikeEnds_16 (by decide) rfl ?_
    obtain ⟨r, hr⟩ : ∃ r, r = it (fun a m => it (ueS (σ.1 48 8) a) N m) k 0 := ⟨_, rfl⟩
    rw [← hr]
    suffices H : ∀ j, j ≤ N → WP m_A_unlikeEnds 18 [.ref 48, .long (it (ueS (σ.1 48 8) k) j r), .null, .int (nI k), .int (nI j)] [] σ (Rt (.long (ueF (σ.1 48 8) N)) σ) from H 0 (Nat.zero_le _)
    refine lp_nat (fun j hj ih2 => ?_)
    refine wp_iload d_A_unlikeEnds_18 rfl ?_
    refine wp_aload_n d_A_unlikeEnds_20 rfl ?_
    refine wp_getA d_A_unlikeEnds_21 fl_A_32 rfl rfl rfl ?_
    refine wp_getI d_A_unlikeEnds_24 fl_A_64 rfl rfl (by decide) ?_
    refine wp_icmp_ge (tgt := 61) d_A_unlikeEnds_27 (by decide) (fun hc2 => ?_) (fun hc2 => ?_)
    · rw [hn] at hc2
      obtain rfl := Nat.le_antisymm hj (nI_ge2 hc2 (by omega) (by omega))
      refine wp_iinc3 d_A_unlikeEnds_61 (hn_ii1 _) (by decide) rfl ?_
      refine wp_goto (tgt := 4) d_A_unlikeEnds_64 (by decide) ?_
      rw [nI_1, hr]
      exact ih hk2 _
    · rw [hn] at hc2
      have hj2 := nI_nge hc2 (by omega) (by omega)
      refine wp_aload_n d_A_unlikeEnds_30 rfl ?_
      refine wp_iload_n d_A_unlikeEnds_31 rfl ?_
      refine wp_callV1e d_A_unlikeEnds_32 cv_A_69 rfl rfl rfl ⟨Nat.le_of_ble_eq_true rfl, Nat.le_of_ble_eq_true rfl⟩ (Nat.le_of_ble_eq_true rfl) (Nat.le_of_ble_eq_true rfl) (c_A_isEnd _ _) ?_
      refine wp_aload_n d_A_unlikeEnds_35 rfl ?_
      refine wp_iload d_A_unlikeEnds_36 rfl ?_
      refine wp_callV1e d_A_unlikeEnds_38 cv_A_69 rfl rfl rfl ⟨Nat.le_of_ble_eq_true rfl, Nat.le_of_ble_eq_true rfl⟩ (Nat.le_of_ble_eq_true rfl) (Nat.le_of_ble_eq_true rfl) (c_A_isEnd _ _) ?_
      refine wp_icmp_eq (tgt := 55) d_A_unlikeEnds_41 (by decide) (fun h2 => ?_) (fun h2 => ?_)
      · rw [bz_inj] at h2
        have ee : it (ueS (σ.1 48 8) k) j r = it (ueS (σ.1 48 8) k) (j + 1) r := by
          show _ = ueS (σ.1 48 8) k j _
          rw [ueS, if_pos h2]
        refine wp_iinc4 d_A_unlikeEnds_55 (hn_ii1 _) (by decide) rfl ?_
        refine wp_goto (tgt := 18) d_A_unlikeEnds_58 (by decide) ?_
        rw [nI_1, ee]
        exact ih2 hj2
      · rw [bz_inj] at h2
        have ee : stL (it (ueS (σ.1 48 8) k) j r) (prF (nI k) (nI j)) = it (ueS (σ.1 48 8) k) (j + 1) r := by
          show _ = ueS (σ.1 48 8) k j _
          rw [ueS, if_neg h2]
        refine wp_lload_n d_A_unlikeEnds_44 rfl ?_
        refine wp_lconst (v := 1) d_A_unlikeEnds_45 (by decide) ?_
        refine wp_iload_n d_A_unlikeEnds_46 rfl ?_
        refine wp_iload d_A_unlikeEnds_47 rfl ?_
        refine wp_callS2e d_A_unlikeEnds_49 cs_A_97 ⟨Nat.le_of_ble_eq_true rfl, Nat.le_of_ble_eq_true rfl⟩ (Nat.le_of_ble_eq_true rfl) (Nat.le_of_ble_eq_true rfl) (c_G_pair _ _ _) ?_
        refine wp_lshl d_A_unlikeEnds_52 ?_
        refine wp_lor d_A_unlikeEnds_53 ?_
        refine wp_lstore1 d_A_unlikeEnds_54 (by decide) rfl ?_
        rw [← stL, ee]
        refine wp_iinc4 d_A_unlikeEnds_55 (hn_ii1 _) (by decide) rfl ?_
        refine wp_goto (tgt := 18) d_A_unlikeEnds_58 (by decide) ?_
        rw [nI_1]
        exact ih2 hj2
def sfF (σ : Hp) (N L : Nat) : Int32 := it (fun _ r => it (fun k r => r ||| osF (σ.1 2 k) r) L r) N (1 <<< (σ.1 48 7 &&& 31))
theorem c_A_statesFromStart {N L : Nat} (σ : Hp) (hI : KI σ N L) : Ct m_A_statesFromStart [.ref 48] σ (Rt (.int (sfF σ N L)) σ) := by
  have h0 := hI
  obtain ⟨hn, h1, h6, hl, h4⟩ := h0
  show WP m_A_statesFromStart 0 [.ref 48, .null, .null, .null] [] σ _
  refine wp_iconst (v := 1) d_A_statesFromStart_0 (by decide) ?_
  refine wp_aload_n d_A_statesFromStart_1 rfl ?_
  refine wp_getI d_A_statesFromStart_2 fl_A_44 rfl rfl (by decide) ?_
  refine wp_ishl d_A_statesFromStart_5 ?_
  refine wp_istore1 d_A_statesFromStart_6 (by decide) rfl ?_
  refine wp_iconst (v := 0) d_A_statesFromStart_7 (by decide) ?_
  refine wp_istore2 d_A_statesFromStart_8 (by decide) rfl ?_
  suffices H : ∀ k, k ≤ N → ∀ x3 : Value, WP m_A_statesFromStart 9 [.ref 48, .int (it (fun _ r => it (fun k r => r ||| osF (σ.1 2 k) r) L r) k (1 <<< (σ.1 48 7 &&& 31))), .int (nI k), x3] [] σ (Rt (.int (sfF σ N L)) σ) from H 0 (Nat.zero_le _) _
  refine lp_nat (fun k hk ih x3 => ?_)
  refine wp_iload_n d_A_statesFromStart_9 rfl ?_
  refine wp_aload_n d_A_statesFromStart_10 rfl ?_
  refine wp_getA d_A_statesFromStart_11 fl_A_32 rfl rfl rfl ?_
  refine wp_getI d_A_statesFromStart_14 fl_A_64 rfl rfl (by decide) ?_
  refine wp_icmp_ge (tgt := 60) d_A_statesFromStart_17 (by decide) (fun hc => ?_) (fun hc => ?_)
  · rw [hn] at hc
    obtain rfl := Nat.le_antisymm hk (nI_ge2 hc (by omega) (by omega))
    refine wp_iload_n d_A_statesFromStart_60 rfl ?_
    refine wp_iret d_A_statesFromStart_61 rfl ?_
    exact ⟨rfl, rfl⟩
  · rw [hn] at hc
    have hk2 := nI_nge hc (by omega) (by omega)
    refine wp_iconst (v := 0) d_A_statesFromStart_20 (by decide) ?_
    refine wp_istore3 d_A_statesFromStart_21 (by decide) rfl ?_
    obtain ⟨r, hr⟩ : ∃ r, r = it (fun _ r => it (fun k r => r ||| osF (σ.1 2 k) r) L r) k (1 <<< (σ.1 48 7 &&& 31)) := ⟨_, rfl⟩
    rw [← hr]
    suffices H : ∀ j, j ≤ L → WP m_A_statesFromStart 22 [.ref 48, .int (it (fun k r => r ||| osF (σ.1 2 k) r) j r), .int (nI k), .int (nI j)] [] σ (Rt (.int (sfF σ N L)) σ) from H 0 (Nat.zero_le _)
    refine lp_nat (fun j hj ih2 => ?_)
    refine wp_iload_n d_A_statesFromStart_22 rfl ?_
    refine wp_aload_n d_A_statesFromStart_23 rfl ?_
    refine wp_getA d_A_statesFromStart_24 fl_A_32 rfl rfl rfl ?_
    refine wp_getI d_A_statesFromStart_27 fl_A_78 rfl rfl (by decide) ?_
    refine wp_icmp_ge (tgt := 54) d_A_statesFromStart_30 (by decide) (fun hc2 => ?_) (fun hc2 => ?_)
    · rw [hl] at hc2
      obtain rfl := Nat.le_antisymm hj (nI_ge2 hc2 (by omega) (by omega))
      refine wp_iinc2 d_A_statesFromStart_54 (hn_ii1 _) (by decide) rfl ?_
      refine wp_goto (tgt := 9) d_A_statesFromStart_57 (by decide) ?_
      rw [nI_1, hr]
      exact ih hk2 _
    · rw [hl] at hc2
      have hj2 := nI_nge hc2 (by omega) (by omega)
      refine wp_iload_n d_A_statesFromStart_33 rfl ?_
      refine wp_aload_n d_A_statesFromStart_34 rfl ?_
      refine wp_getA d_A_statesFromStart_35 fl_A_32 rfl rfl rfl ?_
      refine wp_iload_n d_A_statesFromStart_38 rfl ?_
      refine wp_callV1e d_A_statesFromStart_39 cv_A_81 rfl rfl rfl ⟨Nat.le_of_ble_eq_true rfl, Nat.le_of_ble_eq_true rfl⟩ (Nat.le_of_ble_eq_true rfl) (Nat.le_of_ble_eq_true rfl) (c_L_map _ _) ?_
      rw [rdA_in (by omega) (by decide)]
      refine wp_iload_n d_A_statesFromStart_42 rfl ?_
      refine wp_callS2e d_A_statesFromStart_43 cs_A_100 ⟨Nat.le_of_ble_eq_true rfl, Nat.le_of_ble_eq_true rfl⟩ (Nat.le_of_ble_eq_true rfl) (Nat.le_of_ble_eq_true rfl) (c_G_ofSet _ _ _) ?_
      refine wp_ior d_A_statesFromStart_46 ?_
      refine wp_istore1 d_A_statesFromStart_47 (by decide) rfl ?_
      refine wp_iinc3 d_A_statesFromStart_48 (hn_ii1 _) (by decide) rfl ?_
      refine wp_goto (tgt := 22) d_A_statesFromStart_51 (by decide) ?_
      rw [nI_1]
      exact ih2 hj2
def btZ (x : Int64) (p : Int32) : Bool := decide (lg_cmp (usL x p &&& 1) 0 = 0)
theorem btZ_t {x : Int64} {p : Int32} (h : lg_cmp (usL x p &&& 1) 0 = 0) : btZ x p = true := decide_eq_true h
theorem btZ_f {x : Int64} {p : Int32} (h : ¬ lg_cmp (usL x p &&& 1) 0 = 0) : btZ x p = false := decide_eq_false h
def alB (o s t : Int32) (m : Int64) : Bool := iB t o && btZ m (prF o s)
theorem c_A_isAlike (o s t : Int32) (m : Int64) (σ : Hp) : Ct m_A_isAlike [.ref 48, .int o, .int s, .int t, .long m] σ (Rt (.int (bz (alB o s t m = true))) σ) := by
  show WP m_A_isAlike 0 [.ref 48, .int o, .int s, .int t, .long m, .null] [] σ _
  refine wp_iload_n d_A_isAlike_0 rfl ?_
  refine wp_iload_n d_A_isAlike_1 rfl ?_
  refine wp_ishr d_A_isAlike_2 ?_
  refine wp_iconst (v := 1) d_A_isAlike_3 (by decide) ?_
  refine wp_iand d_A_isAlike_4 ?_
  refine wp_iconst (v := 1) d_A_isAlike_5 (by decide) ?_
  refine wp_icmp_ne (tgt := 28) d_A_isAlike_6 (by decide) (fun h1 => ?_) (fun h1 => ?_)
  · rw [alB, iB, decide_eq_false h1, Bool.false_and, bz_f (by decide)]
    refine wp_iconst (v := 0) d_A_isAlike_28 (by decide) ?_
    refine wp_zret d_A_isAlike_29 rfl ?_ ?_
    · decide
    · exact ⟨rfl, rfl⟩
  · rw [alB, iB, decide_eq_true h1, Bool.true_and]
    refine wp_lload d_A_isAlike_9 rfl ?_
    refine wp_iload_n d_A_isAlike_11 rfl ?_
    refine wp_iload_n d_A_isAlike_12 rfl ?_
    refine wp_callS2e d_A_isAlike_13 cs_A_97 ⟨Nat.le_of_ble_eq_true rfl, Nat.le_of_ble_eq_true rfl⟩ (Nat.le_of_ble_eq_true rfl) (Nat.le_of_ble_eq_true rfl) (c_G_pair _ _ _) ?_
    refine wp_lushr d_A_isAlike_16 ?_
    refine wp_lconst (v := 1) d_A_isAlike_17 (by decide) ?_
    refine wp_land d_A_isAlike_18 ?_
    refine wp_lconst (v := 0) d_A_isAlike_19 (by decide) ?_
    refine wp_lcmp d_A_isAlike_20 ?_
    refine wp_if_ne (tgt := 28) d_A_isAlike_21 (by decide) (fun h2 => ?_) (fun h2 => ?_)
    · rw [btZ_f h2, bz_f (by decide)]
      refine wp_iconst (v := 0) d_A_isAlike_28 (by decide) ?_
      refine wp_zret d_A_isAlike_29 rfl ?_ ?_
      · decide
      · exact ⟨rfl, rfl⟩
    · rw [btZ_t h2, bz_t rfl]
      refine wp_iconst (v := 1) d_A_isAlike_24 (by decide) ?_
      refine wp_goto (tgt := 29) d_A_isAlike_25 (by decide) ?_
      refine wp_zret d_A_isAlike_29 rfl ?_ ?_
      · decide
      · exact ⟨rfl, rfl⟩
def hoF (s : Nat) (t : Int32) (m : Int64) : Int32 := if (t >>> (nI s &&& 31)) &&& 1 = 0 then 7 else nI (sr (fun l => alB (nI l) (nI s) t m = true) s 0)
theorem c_A_heapOf {s : Nat} (hs : s < 2 ^ 31) (t : Int32) (m : Int64) (σ : Hp) : Ct m_A_heapOf [.ref 48, .int (nI s), .int t, .long m] σ (Rt (.int (hoF s t m)) σ) := by
  show WP m_A_heapOf 0 [.ref 48, .int (nI s), .int t, .long m, .null, .null] [] σ _
  refine wp_iload_n d_A_heapOf_0 rfl ?_
  refine wp_iload_n d_A_heapOf_1 rfl ?_
  refine wp_ishr d_A_heapOf_2 ?_
  refine wp_iconst (v := 1) d_A_heapOf_3 (by decide) ?_
  refine wp_iand d_A_heapOf_4 ?_
  refine wp_if_ne (tgt := 11) d_A_heapOf_5 (by decide) (fun h1 => ?_) (fun h1 => ?_)
  · rw [hoF, if_neg h1]
    refine wp_iconst (v := 0) d_A_heapOf_11 (by decide) ?_
    refine wp_istore5 d_A_heapOf_12 (by decide) rfl ?_
    suffices H : ∀ j, j ≤ s → sr (fun l => alB (nI l) (nI s) t m = true) (s - j) j = sr (fun l => alB (nI l) (nI s) t m = true) s 0 → WP m_A_heapOf 14 [.ref 48, .int (nI s), .int t, .long m, .null, .int (nI j)] [] σ (Rt (.int (nI (sr (fun l => alB (nI l) (nI s) t m = true) s 0))) σ) from H 0 (Nat.zero_le _) rfl
    refine lp_nat (fun j hj ih2 hs2 => ?_)
    refine wp_iload d_A_heapOf_14 rfl ?_
    refine wp_iload_n d_A_heapOf_16 rfl ?_
    refine wp_icmp_ge (tgt := 38) d_A_heapOf_17 (by decide) (fun h2 => ?_) (fun h2 => ?_)
    · obtain rfl := Nat.le_antisymm hj (nI_ge2 h2 (by omega) (by omega))
      rw [Nat.sub_self, sr] at hs2
      refine wp_iload d_A_heapOf_38 rfl ?_
      refine wp_iret d_A_heapOf_40 rfl ?_
      exact ⟨by rw [← hs2], rfl⟩
    · have hj2 := nI_nge h2 (by omega) (by omega)
      obtain ⟨d, hd⟩ : ∃ d, s - j = d + 1 := ⟨s - j - 1, by omega⟩
      rw [hd, sr] at hs2
      refine wp_aload_n d_A_heapOf_20 rfl ?_
      refine wp_iload d_A_heapOf_21 rfl ?_
      refine wp_iload_n d_A_heapOf_23 rfl ?_
      refine wp_iload_n d_A_heapOf_24 rfl ?_
      refine wp_lload_n d_A_heapOf_25 rfl ?_
      refine wp_callV4e d_A_heapOf_26 cv_A_132 rfl rfl rfl ⟨Nat.le_of_ble_eq_true rfl, Nat.le_of_ble_eq_true rfl⟩ (Nat.le_of_ble_eq_true rfl) (Nat.le_of_ble_eq_true rfl) (c_A_isAlike _ _ _ _ _) ?_
      refine wp_if_ne (tgt := 38) d_A_heapOf_29 (by decide) (fun h3 => ?_) (fun h3 => ?_)
      · have h5 := Decidable.of_not_not (fun q => h3 (bz_0.mpr q))
        rw [if_pos h5] at hs2
        refine wp_iload d_A_heapOf_38 rfl ?_
        refine wp_iret d_A_heapOf_40 rfl ?_
        exact ⟨by rw [← hs2], rfl⟩
      · rw [bz_0] at h3
        rw [if_neg h3] at hs2
        refine wp_iinc5 d_A_heapOf_32 (hn_ii1 _) (by decide) rfl ?_
        refine wp_goto (tgt := 14) d_A_heapOf_35 (by decide) ?_
        rw [nI_1]
        exact ih2 hj2 (by rw [show s - (j + 1) = d by omega]; exact hs2)
  · rw [hoF, if_pos h1]
    refine wp_bipush (v := 7) d_A_heapOf_8 (by decide) ?_
    refine wp_iret d_A_heapOf_10 rfl ?_
    exact ⟨rfl, rfl⟩
def lmS (t : Int32) (m : Int64) (s : Nat) (h : Int32) : Int32 := uF h (nI s) (hoF s t m)
def lmF (σ : Hp) (N L : Nat) : Int32 := it (lmS (sfF σ N L) (ldF σ N L (ueF (σ.1 48 8) N))) N 0
theorem c_A_leastMachine {N L : Nat} (σ : Hp) (hI : KI σ N L) : Ct m_A_leastMachine [.ref 48] σ (Rt (.int (lmF σ N L)) σ) := by
  have h0 := hI
  obtain ⟨hn, h1, h6, hl, h4⟩ := h0
  show WP m_A_leastMachine 0 [.ref 48, .null, .null, .null, .null, .null] [] σ _
  refine wp_aload_n d_A_leastMachine_0 rfl ?_
  refine wp_callV0e d_A_leastMachine_1 cv_A_111 rfl rfl rfl ⟨Nat.le_of_ble_eq_true rfl, Nat.le_of_ble_eq_true rfl⟩ (Nat.le_of_ble_eq_true rfl) (Nat.le_of_ble_eq_true rfl) (c_A_statesFromStart _ hI) ?_
  refine wp_istore1 d_A_leastMachine_4 (by decide) rfl ?_
  refine wp_aload_n d_A_leastMachine_5 rfl ?_
  refine wp_getA d_A_leastMachine_6 fl_A_40 rfl rfl rfl ?_
  refine wp_aload_n d_A_leastMachine_9 rfl ?_
  refine wp_callV0e d_A_leastMachine_10 cv_A_114 rfl rfl rfl ⟨Nat.le_of_ble_eq_true rfl, Nat.le_of_ble_eq_true rfl⟩ (Nat.le_of_ble_eq_true rfl) (Nat.le_of_ble_eq_true rfl) (c_A_unlikeEnds _ hI) ?_
  refine wp_callV1e d_A_leastMachine_13 cv_A_118 rfl rfl rfl ⟨Nat.le_of_ble_eq_true rfl, Nat.le_of_ble_eq_true rfl⟩ (Nat.le_of_ble_eq_true rfl) (Nat.le_of_ble_eq_true rfl) (c_S_leadingTo _ _ hI) ?_
  refine wp_lstore2 d_A_leastMachine_16 (by decide) rfl ?_
  refine wp_iconst (v := 0) d_A_leastMachine_17 (by decide) ?_
  refine wp_istore4 d_A_leastMachine_18 (by decide) rfl ?_
  refine wp_iconst (v := 0) d_A_leastMachine_20 (by decide) ?_
  refine wp_istore5 d_A_leastMachine_21 (by decide) rfl ?_
  suffices H : ∀ k, k ≤ N → WP m_A_leastMachine 23 [.ref 48, .int (sfF σ N L), .long (ldF σ N L (ueF (σ.1 48 8) N)), .null, .int (it (lmS (sfF σ N L) (ldF σ N L (ueF (σ.1 48 8) N))) k 0), .int (nI k)] [] σ (Rt (.int (lmF σ N L)) σ) from H 0 (Nat.zero_le _)
  refine lp_nat (fun k hk ih => ?_)
  refine wp_iload d_A_leastMachine_23 rfl ?_
  refine wp_aload_n d_A_leastMachine_25 rfl ?_
  refine wp_getA d_A_leastMachine_26 fl_A_32 rfl rfl rfl ?_
  refine wp_getI d_A_leastMachine_29 fl_A_64 rfl rfl (by decide) ?_
  refine wp_icmp_ge (tgt := 58) d_A_leastMachine_32 (by decide) (fun hc => ?_) (fun hc => ?_)
  · rw [hn] at hc
    obtain rfl := Nat.le_antisymm hk (nI_ge2 hc (by omega) (by omega))
    refine wp_iload d_A_leastMachine_58 rfl ?_
    refine wp_iret d_A_leastMachine_60 rfl ?_
    exact ⟨rfl, rfl⟩
  · rw [hn] at hc
    have hk2 := nI_nge hc (by omega) (by omega)
    refine wp_iload d_A_leastMachine_35 rfl ?_
    refine wp_iload d_A_leastMachine_37 rfl ?_
    refine wp_aload_n d_A_leastMachine_39 rfl ?_
    refine wp_iload d_A_leastMachine_40 rfl ?_
    refine wp_iload_n d_A_leastMachine_42 rfl ?_
    refine wp_lload_n d_A_leastMachine_43 rfl ?_
    refine wp_callV3e d_A_leastMachine_44 cv_A_124 rfl rfl rfl ⟨Nat.le_of_ble_eq_true rfl, Nat.le_of_ble_eq_true rfl⟩ (Nat.le_of_ble_eq_true rfl) (Nat.le_of_ble_eq_true rfl) (c_A_heapOf (by omega) _ _ _) ?_
    refine wp_callS3e d_A_leastMachine_47 cs_A_128 ⟨Nat.le_of_ble_eq_true rfl, Nat.le_of_ble_eq_true rfl⟩ (Nat.le_of_ble_eq_true rfl) (Nat.le_of_ble_eq_true rfl) (c_G_with _ _ _ _) ?_
    refine wp_istore4 d_A_leastMachine_50 (by decide) rfl ?_
    refine wp_iinc5 d_A_leastMachine_52 (hn_ii1 _) (by decide) rfl ?_
    refine wp_goto (tgt := 23) d_A_leastMachine_55 (by decide) ?_
    rw [nI_1]
    exact ih hk2
def hpC (h : Int32) (s : Nat) (r : Int32) : Int32 := r + bz (gF h (nI s) = nI s)
theorem c_A_heaps {N L : Nat} (σ : Hp) (hI : KI σ N L) : Ct m_A_heaps [.ref 48] σ (Rt (.int (it (hpC (lmF σ N L)) N 0)) σ) := by
  have h0 := hI
  obtain ⟨hn, h1, h6, hl, h4⟩ := h0
  show WP m_A_heaps 0 [.ref 48, .null, .null, .null] [] σ _
  refine wp_aload_n d_A_heaps_0 rfl ?_
  refine wp_callV0e d_A_heaps_1 cv_A_103 rfl rfl rfl ⟨Nat.le_of_ble_eq_true rfl, Nat.le_of_ble_eq_true rfl⟩ (Nat.le_of_ble_eq_true rfl) (Nat.le_of_ble_eq_true rfl) (c_A_leastMachine _ hI) ?_
  refine wp_istore1 d_A_heaps_4 (by decide) rfl ?_
  refine wp_iconst (v := 0) d_A_heaps_5 (by decide) ?_
  refine wp_istore2 d_A_heaps_6 (by decide) rfl ?_
  refine wp_iconst (v := 0) d_A_heaps_7 (by decide) ?_
  refine wp_istore3 d_A_heaps_8 (by decide) rfl ?_
  suffices H : ∀ k, k ≤ N → WP m_A_heaps 9 [.ref 48, .int (lmF σ N L), .int (it (hpC (lmF σ N L)) k 0), .int (nI k)] [] σ (Rt (.int (it (hpC (lmF σ N L)) N 0)) σ) from H 0 (Nat.zero_le _)
  refine lp_nat (fun k hk ih => ?_)
  refine wp_iload_n d_A_heaps_9 rfl ?_
  refine wp_aload_n d_A_heaps_10 rfl ?_
  refine wp_getA d_A_heaps_11 fl_A_32 rfl rfl rfl ?_
  refine wp_getI d_A_heaps_14 fl_A_64 rfl rfl (by decide) ?_
  refine wp_icmp_ge (tgt := 46) d_A_heaps_17 (by decide) (fun hc => ?_) (fun hc => ?_)
  · rw [hn] at hc
    obtain rfl := Nat.le_antisymm hk (nI_ge2 hc (by omega) (by omega))
    refine wp_iload_n d_A_heaps_46 rfl ?_
    refine wp_iret d_A_heaps_47 rfl ?_
    exact ⟨rfl, rfl⟩
  · rw [hn] at hc
    have hk2 := nI_nge hc (by omega) (by omega)
    have fin : ∀ z : Int32, z = bz (gF (lmF σ N L) (nI k) = nI k) → WP m_A_heaps 35 [.ref 48, .int (lmF σ N L), .int (it (hpC (lmF σ N L)) k 0), .int (nI k)] [.int z, .int (it (hpC (lmF σ N L)) k 0)] σ (Rt (.int (it (hpC (lmF σ N L)) N 0)) σ) := by
      intro z hz
      subst hz
      refine wp_callSN1e d_A_heaps_35 csn_A_107 ⟨Nat.le_of_ble_eq_true rfl, Nat.le_of_ble_eq_true rfl⟩ (Nat.le_of_ble_eq_true rfl) (Nat.le_of_ble_eq_true rfl) (c_P_oneIf _ _) ?_
      refine wp_iadd d_A_heaps_38 ?_
      refine wp_istore2 d_A_heaps_39 (by decide) rfl ?_
      refine wp_iinc3 d_A_heaps_40 (hn_ii1 _) (by decide) rfl ?_
      refine wp_goto (tgt := 9) d_A_heaps_43 (by decide) ?_
      rw [nI_1]
      exact ih hk2
    refine wp_iload_n d_A_heaps_20 rfl ?_
    refine wp_iload_n d_A_heaps_21 rfl ?_
    refine wp_iload_n d_A_heaps_22 rfl ?_
    refine wp_callS2e d_A_heaps_23 cs_A_85 ⟨Nat.le_of_ble_eq_true rfl, Nat.le_of_ble_eq_true rfl⟩ (Nat.le_of_ble_eq_true rfl) (Nat.le_of_ble_eq_true rfl) (c_G_goesTo _ _ _) ?_
    refine wp_iload_n d_A_heaps_26 rfl ?_
    refine wp_icmp_ne (tgt := 34) d_A_heaps_27 (by decide) (fun h2 => ?_) (fun h2 => ?_)
    · refine wp_iconst (v := 0) d_A_heaps_34 (by decide) ?_
      exact fin 0 (bz_f h2).symm
    · refine wp_iconst (v := 1) d_A_heaps_30 (by decide) ?_
      refine wp_goto (tgt := 35) d_A_heaps_31 (by decide) ?_
      exact fin 1 (bz_t h2).symm
def mgS (m h : Int32) (s : Nat) (r : Int32) : Int32 := if gF h (nI s) = nI s then uF r (nI s) (gF h (gF m (nI s))) else r
def mgF (m h : Int32) (N : Nat) : Int32 := it (mgS m h) N (noF N)
theorem c_A_meaning (m h : Int32) {N L : Nat} (σ : Hp) (hI : KI σ N L) : Ct m_A_meaning [.ref 48, .int m, .int h] σ (Rt (.int (mgF m h N)) σ) := by
  obtain ⟨hn, h1, h6, hl, h4⟩ := hI
  show WP m_A_meaning 0 [.ref 48, .int m, .int h, .null, .null] [] σ _
  refine wp_aload_n d_A_meaning_0 rfl ?_
  refine wp_getA d_A_meaning_1 fl_A_32 rfl rfl rfl ?_
  refine wp_getI d_A_meaning_4 fl_A_64 rfl rfl (by decide) ?_
  rw [hn]
  refine wp_callS1e d_A_meaning_7 cs_A_136 ⟨Nat.le_of_ble_eq_true rfl, Nat.le_of_ble_eq_true rfl⟩ (Nat.le_of_ble_eq_true rfl) (Nat.le_of_ble_eq_true rfl) (c_G_nothing (by omega) _) ?_
  refine wp_istore3 d_A_meaning_10 (by decide) rfl ?_
  refine wp_iconst (v := 0) d_A_meaning_11 (by decide) ?_
  refine wp_istore4 d_A_meaning_12 (by decide) rfl ?_
  suffices H : ∀ k, k ≤ N → WP m_A_meaning 14 [.ref 48, .int m, .int h, .int (it (mgS m h) k (noF N)), .int (nI k)] [] σ (Rt (.int (mgF m h N)) σ) from H 0 (Nat.zero_le _)
  refine lp_nat (fun k hk ih => ?_)
  refine wp_iload d_A_meaning_14 rfl ?_
  refine wp_aload_n d_A_meaning_16 rfl ?_
  refine wp_getA d_A_meaning_17 fl_A_32 rfl rfl rfl ?_
  refine wp_getI d_A_meaning_20 fl_A_64 rfl rfl (by decide) ?_
  refine wp_icmp_ge (tgt := 60) d_A_meaning_23 (by decide) (fun hc => ?_) (fun hc => ?_)
  · rw [hn] at hc
    obtain rfl := Nat.le_antisymm hk (nI_ge2 hc (by omega) (by omega))
    refine wp_iload_n d_A_meaning_60 rfl ?_
    refine wp_iret d_A_meaning_61 rfl ?_
    exact ⟨rfl, rfl⟩
  · rw [hn] at hc
    have hk2 := nI_nge hc (by omega) (by omega)
    refine wp_iload_n d_A_meaning_26 rfl ?_
    refine wp_iload d_A_meaning_27 rfl ?_
    refine wp_callS2e d_A_meaning_29 cs_A_85 ⟨Nat.le_of_ble_eq_true rfl, Nat.le_of_ble_eq_true rfl⟩ (Nat.le_of_ble_eq_true rfl) (Nat.le_of_ble_eq_true rfl) (c_G_goesTo _ _ _) ?_
    refine wp_iload d_A_meaning_32 rfl ?_
    refine wp_icmp_ne (tgt := 54) d_A_meaning_34 (by decide) (fun h2 => ?_) (fun h2 => ?_)
    · have ee : it (mgS m h) k (noF N) = it (mgS m h) (k + 1) (noF N) := by
        show _ = mgS m h k _
        rw [mgS, if_neg h2]
      refine wp_iinc4 d_A_meaning_54 (hn_ii1 _) (by decide) rfl ?_
      refine wp_goto (tgt := 14) d_A_meaning_57 (by decide) ?_
      rw [nI_1, ee]
      exact ih hk2
    · have ee : uF (it (mgS m h) k (noF N)) (nI k) (gF h (gF m (nI k))) = it (mgS m h) (k + 1) (noF N) := by
        show _ = mgS m h k _
        rw [mgS, if_pos h2]
      refine wp_iload_n d_A_meaning_37 rfl ?_
      refine wp_iload d_A_meaning_38 rfl ?_
      refine wp_iload_n d_A_meaning_40 rfl ?_
      refine wp_iload_n d_A_meaning_41 rfl ?_
      refine wp_iload d_A_meaning_42 rfl ?_
      refine wp_callS2e d_A_meaning_44 cs_A_85 ⟨Nat.le_of_ble_eq_true rfl, Nat.le_of_ble_eq_true rfl⟩ (Nat.le_of_ble_eq_true rfl) (Nat.le_of_ble_eq_true rfl) (c_G_goesTo _ _ _) ?_
      refine wp_callS2e d_A_meaning_47 cs_A_85 ⟨Nat.le_of_ble_eq_true rfl, Nat.le_of_ble_eq_true rfl⟩ (Nat.le_of_ble_eq_true rfl) (Nat.le_of_ble_eq_true rfl) (c_G_goesTo _ _ _) ?_
      refine wp_callS3e d_A_meaning_50 cs_A_128 ⟨Nat.le_of_ble_eq_true rfl, Nat.le_of_ble_eq_true rfl⟩ (Nat.le_of_ble_eq_true rfl) (Nat.le_of_ble_eq_true rfl) (c_G_with _ _ _ _) ?_
      refine wp_istore3 d_A_meaning_53 (by decide) rfl ?_
      refine wp_iinc4 d_A_meaning_54 (hn_ii1 _) (by decide) rfl ?_
      refine wp_goto (tgt := 14) d_A_meaning_57 (by decide) ?_
      rw [nI_1, ee]
      exact ih hk2
/-! ways -/
theorem flA_in {σ : Hp} {a n j : Nat} {x : Int32} (h : j < n) : (flA σ a x n).1 a j = x := by simp [flA, h]
def rdF (f : Nat → Int32) (n : Nat) (i : Int32) : Int32 := if 0 ≤ i ∧ i < Int32.ofNat n then f i.toNatClampNeg else 0
def wrF (f : Nat → Int32) (n : Nat) (i x : Int32) : Nat → Int32 := if 0 ≤ i ∧ i < Int32.ofNat n then upd f i.toNatClampNeg x else f
theorem wrA_eq {σ : Hp} {a n : Nat} {i x : Int32} : (wrA σ a n i x).1 a = wrF (σ.1 a) n i x := by
  unfold wrA wrF
  split
  · exact wI_eq
  · rfl
theorem wrA_ne {σ : Hp} {a n q : Nat} {i x : Int32} (h : q ≠ a) : (wrA σ a n i x).1 q = σ.1 q := by
  unfold wrA
  split
  · exact wI_ne h
  · rfl
theorem clamp_lt {n : Nat} {i : Int32} (h : 0 ≤ i ∧ i < Int32.ofNat n) (hn : n < 2 ^ 31) : i.toNatClampNeg < n := by
  obtain ⟨j, hj, rfl⟩ := nI_of (k2_nlt h.1)
  rw [nI_clamp hj]
  exact (nI_ltI hj hn).mp h.2
theorem rdF_cong {f g : Nat → Int32} {n : Nat} (hn : n < 2 ^ 31) (h : ∀ j, j < n → f j = g j) (i : Int32) : rdF f n i = rdF g n i := by
  unfold rdF
  split
  · rename_i q; exact h _ (clamp_lt q hn)
  · rfl
theorem wrF_cong {f g : Nat → Int32} {n : Nat} (h : ∀ j, j < n → f j = g j) (i x : Int32) : ∀ j, j < n → wrF f n i x j = wrF g n i x j := by
  intro j hj
  unfold wrF
  split
  · unfold upd
    split
    · rfl
    · exact h j hj
  · exact h j hj
def rmP (x : Int32) : Int32 := x - x / 1000000007 * 1000000007
def gbS (lt : Nat → Int32) (w : Nat → Int32) (s k : Nat) (g : Nat → Int32) : Nat → Int32 := wrF g 6 (gF (lt k) (nI s)) (rmP (rdF g 6 (gF (lt k) (nI s)) + w s))
def gbF (lt : Nat → Int32) (N L : Nat) (w : Nat → Int32) : Nat → Int32 := it (fun s g => it (gbS lt w s) L g) N (fun _ => 0)
theorem gbF_cong {lt : Nat → Int32} {N L : Nat} {w v : Nat → Int32} (h6 : N ≤ 6) (h : ∀ j, j < 6 → w j = v j) : gbF lt N L w = gbF lt N L v := by
  have key : ∀ k, k ≤ N → it (fun s g => it (gbS lt w s) L g) k (fun _ => 0) = it (fun s g => it (gbS lt v s) L g) k (fun _ => (0 : Int32)) := by
    intro k
    induction k with
    | zero => intro _; simp only [it]
    | succ k ih =>
      intro hk
      show it (gbS lt w k) L (it (fun s g => it (gbS lt w s) L g) k (fun _ => 0)) = it (gbS lt v k) L (it (fun s g => it (gbS lt v s) L g) k (fun _ => 0))
      rw [ih (by omega)]
      have : gbS lt w k = gbS lt v k := by
        funext j g
        unfold gbS
        rw [h k (by omega)]
      rw [this]
  exact key N (Nat.le_refl _)
theorem kc_copy : Cond.methodLink "PointMaps$Machine" 91 arraycopyName ∈ lw_big ∧ Cond.native arraycopyName ∈ lw_big ∧ Cond.static arraycopyName ∈ lw_big ∧ Cond.initialized "java/lang/System" ∈ lw_big := by
  refine ⟨tb_4 229 rfl rfl, tb_4 231 rfl rfl, tb_4 230 rfl rfl, tb_1 18 rfl rfl⟩
theorem c_A_goByOneLetter {N L : Nat} (σ : Hp) (hI : KI σ N L) : Ct m_A_goByOneLetter [.ref 48] σ (fun w τ => w = none ∧ Fp [54, 55] σ τ ∧ ∀ j, j < 6 → τ.1 54 j = gbF (σ.1 2) N L (σ.1 54) j) := by
  obtain ⟨hn, h1, h6, hl, h4⟩ := hI
  show WP m_A_goByOneLetter 0 [.ref 48, .null, .null, .null] [] σ _
  refine wp_aload_n d_A_goByOneLetter_0 rfl ?_
  refine wp_getA d_A_goByOneLetter_1 fl_A_29 rfl rfl rfl ?_
  refine wp_iconst (v := 0) d_A_goByOneLetter_4 (by decide) ?_
  refine wp_callS2v d_A_goByOneLetter_5 cs_A_51 ⟨Nat.le_of_ble_eq_true rfl, Nat.le_of_ble_eq_true rfl⟩ (Nat.le_of_ble_eq_true rfl) (Nat.le_of_ble_eq_true rfl) (c_Ja_fill (a := 55) rfl (by decide) _ _) ?_
  refine wp_iconst (v := 0) d_A_goByOneLetter_8 (by decide) ?_
  refine wp_istore1 d_A_goByOneLetter_9 (by decide) rfl ?_
  suffices H : ∀ k, k ≤ N → ∀ (τ : Hp) (x2 x3 : Value), x2.category = 1 → Fp [55] σ τ → (∀ j, j < 6 → τ.1 55 j = it (fun s g => it (gbS (σ.1 2) (σ.1 54) s) L g) k (fun _ => 0) j) → WP m_A_goByOneLetter 10 [.ref 48, .int (nI k), x2, x3] [] τ (fun w τ => w = none ∧ Fp [54, 55] σ τ ∧ ∀ j, j < 6 → τ.1 54 j = gbF (σ.1 2) N L (σ.1 54) j) by
    refine H 0 (Nat.zero_le _) _ _ _ rfl (Fp.rf.flA (by simp)) (fun j hj => ?_)
    exact flA_in hj
  refine lp_nat (fun k hk ih τ x2 x3 hx2 hF hg => ?_)
  have e1 : τ.1 1 = σ.1 1 := (hF 1 (by decide)).1
  have e2 : τ.1 2 = σ.1 2 := (hF 2 (by decide)).1
  have e54 : τ.1 54 = σ.1 54 := (hF 54 (by decide)).1
  refine wp_iload_n d_A_goByOneLetter_10 rfl ?_
  refine wp_aload_n d_A_goByOneLetter_11 rfl ?_
  refine wp_getA d_A_goByOneLetter_12 fl_A_32 rfl rfl rfl ?_
  refine wp_getI d_A_goByOneLetter_15 fl_A_64 rfl rfl (by decide) ?_
  refine wp_icmp_ge (tgt := 87) d_A_goByOneLetter_18 (by decide) (fun hc => ?_) (fun hc => ?_)
  · rw [e1, hn] at hc
    obtain rfl := Nat.le_antisymm hk (nI_ge2 hc (by omega) (by omega))
    refine wp_aload_n d_A_goByOneLetter_87 rfl ?_
    refine wp_getA d_A_goByOneLetter_88 fl_A_29 rfl rfl rfl ?_
    refine wp_iconst (v := 0) d_A_goByOneLetter_91 (by decide) ?_
    refine wp_aload_n d_A_goByOneLetter_92 rfl ?_
    refine wp_getA d_A_goByOneLetter_93 fl_A_25 rfl rfl rfl ?_
    refine wp_iconst (v := 0) d_A_goByOneLetter_96 (by decide) ?_
    refine wp_bipush (v := 6) d_A_goByOneLetter_97 (by decide) ?_
    refine wp_copy (a := 55) (b := 54) d_A_goByOneLetter_99 kc_copy rfl rfl (by decide) (by decide) (by decide) (by decide) (by decide) (by decide) (by decide) ?_
    refine wp_vret d_A_goByOneLetter_102 rfl ?_
    refine ⟨rfl, ?_, fun j hj => ?_⟩
    · intro q hq
      have hq1 : q ≠ 54 := fun z => hq (by simp [z])
      have hq2 : q ≠ 55 := fun z => hq (by simp [z])
      obtain ⟨a1, a2⟩ := hF q (by simp [hq2])
      exact ⟨by simp [hq1, a1], a2⟩
    · show (if (54 : Nat) = 54 then va_cpy (τ.1 55) (τ.1 54) (0 : Int32).toNatClampNeg (0 : Int32).toNatClampNeg (6 : Int32).toNatClampNeg else τ.1 54) j = _
      rw [if_pos rfl, va_cpy, if_pos ⟨Nat.zero_le _, by show j < 0 + 6; omega⟩]
      show τ.1 55 (0 + (j - 0)) = _
      rw [Nat.zero_add, Nat.sub_zero]
      exact hg j hj
  · rw [e1, hn] at hc
    have hk2 := nI_nge hc (by omega) (by omega)
    refine wp_iconst (v := 0) d_A_goByOneLetter_21 (by decide) ?_
    refine wp_istore2 d_A_goByOneLetter_22 (by decide) rfl ?_
    obtain ⟨r, hr⟩ : ∃ r, r = it (fun s g => it (gbS (σ.1 2) (σ.1 54) s) L g) k (fun _ => 0) := ⟨_, rfl⟩
    suffices H : ∀ i, i ≤ L → ∀ (τ : Hp) (x3 : Value), Fp [55] σ τ → (∀ j, j < 6 → τ.1 55 j = it (gbS (σ.1 2) (σ.1 54) k) i r j) → WP m_A_goByOneLetter 23 [.ref 48, .int (nI k), .int (nI i), x3] [] τ (fun w τ => w = none ∧ Fp [54, 55] σ τ ∧ ∀ j, j < 6 → τ.1 54 j = gbF (σ.1 2) N L (σ.1 54) j) from H 0 (Nat.zero_le _) τ _ hF (fun j hj => by rw [hr]; exact hg j hj)
    clear hF hg e1 e2 e54 τ
    refine lp_nat (fun i hi ih2 τ x3 hF hg => ?_)
    have e1 : τ.1 1 = σ.1 1 := (hF 1 (by decide)).1
    have e2 : τ.1 2 = σ.1 2 := (hF 2 (by decide)).1
    have e54 : τ.1 54 = σ.1 54 := (hF 54 (by decide)).1
    refine wp_iload_n d_A_goByOneLetter_23 rfl ?_
    refine wp_aload_n d_A_goByOneLetter_24 rfl ?_
    refine wp_getA d_A_goByOneLetter_25 fl_A_32 rfl rfl rfl ?_
    refine wp_getI d_A_goByOneLetter_28 fl_A_78 rfl rfl (by decide) ?_
    refine wp_icmp_ge (tgt := 81) d_A_goByOneLetter_31 (by decide) (fun hc2 => ?_) (fun hc2 => ?_)
    · rw [e1, hl] at hc2
      obtain rfl := Nat.le_antisymm hi (nI_ge2 hc2 (by omega) (by omega))
      refine wp_iinc1 d_A_goByOneLetter_81 (hn_ii1 _) (by decide) rfl ?_
      refine wp_goto (tgt := 10) d_A_goByOneLetter_84 (by decide) ?_
      rw [nI_1]
      refine ih hk2 τ _ _ rfl hF (fun j hj => ?_)
      rw [hg j hj, hr]
      rfl
    · rw [e1, hl] at hc2
      have hi2 := nI_nge hc2 (by omega) (by omega)
      refine wp_aload_n d_A_goByOneLetter_34 rfl ?_
      refine wp_getA d_A_goByOneLetter_35 fl_A_32 rfl rfl rfl ?_
      refine wp_iload_n d_A_goByOneLetter_38 rfl ?_
      refine wp_callV1e d_A_goByOneLetter_39 cv_A_81 rfl rfl rfl ⟨Nat.le_of_ble_eq_true rfl, Nat.le_of_ble_eq_true rfl⟩ (Nat.le_of_ble_eq_true rfl) (Nat.le_of_ble_eq_true rfl) (c_L_map _ _) ?_
      rw [rdA_in (by omega) (by decide), e2]
      refine wp_iload_n d_A_goByOneLetter_42 rfl ?_
      refine wp_callS2e d_A_goByOneLetter_43 cs_A_85 ⟨Nat.le_of_ble_eq_true rfl, Nat.le_of_ble_eq_true rfl⟩ (Nat.le_of_ble_eq_true rfl) (Nat.le_of_ble_eq_true rfl) (c_G_goesTo _ _ _) ?_
      refine wp_istore3 d_A_goByOneLetter_46 (by decide) rfl ?_
      refine wp_aload_n d_A_goByOneLetter_47 rfl ?_
      refine wp_getA d_A_goByOneLetter_48 fl_A_29 rfl rfl rfl ?_
      refine wp_iload_n d_A_goByOneLetter_51 rfl ?_
      refine wp_aload_n d_A_goByOneLetter_52 rfl ?_
      refine wp_getA d_A_goByOneLetter_53 fl_A_29 rfl rfl rfl ?_
      refine wp_iload_n d_A_goByOneLetter_56 rfl ?_
      refine wp_callSN2e d_A_goByOneLetter_57 csn_A_73 ⟨Nat.le_of_ble_eq_true rfl, Nat.le_of_ble_eq_true rfl⟩ (Nat.le_of_ble_eq_true rfl) (Nat.le_of_ble_eq_true rfl) (c_P_at (a := 55) rfl (by decide) _ _) ?_
      refine wp_aload_n d_A_goByOneLetter_60 rfl ?_
      refine wp_getA d_A_goByOneLetter_61 fl_A_25 rfl rfl rfl ?_
      refine wp_iload_n d_A_goByOneLetter_64 rfl ?_
      refine wp_callSN2e d_A_goByOneLetter_65 csn_A_73 ⟨Nat.le_of_ble_eq_true rfl, Nat.le_of_ble_eq_true rfl⟩ (Nat.le_of_ble_eq_true rfl) (Nat.le_of_ble_eq_true rfl) (c_P_at (a := 54) rfl (by decide) _ _) ?_
      rw [rdA_in (by omega) (by decide), e54]
      refine wp_iadd d_A_goByOneLetter_68 ?_
      refine wp_ldc d_A_goByOneLetter_69 kc_A_77 ?_
      refine wp_irem d_A_goByOneLetter_71 ?_ ?_
      · decide
      refine wp_callSN3v d_A_goByOneLetter_72 csn_A_57 ⟨Nat.le_of_ble_eq_true rfl, Nat.le_of_ble_eq_true rfl⟩ (Nat.le_of_ble_eq_true rfl) (Nat.le_of_ble_eq_true rfl) (c_P_put (a := 55) rfl (by decide) _ _ _) ?_
      refine wp_iinc2 d_A_goByOneLetter_75 (hn_ii1 _) (by decide) rfl ?_
      refine wp_goto (tgt := 23) d_A_goByOneLetter_78 (by decide) ?_
      rw [nI_1]
      refine ih2 hi2 _ _ (hF.wrA (by simp)) (fun j hj => ?_)
      rw [wrA_eq]
      show wrF (τ.1 55) 6 _ (rmP (rdF (τ.1 55) 6 _ + _)) j = gbS (σ.1 2) (σ.1 54) k i _ j
      rw [rdF_cong (by decide) hg]
      exact wrF_cong hg _ _ j hj
def wyF (σ : Hp) (N L t : Nat) : Nat → Int32 := it (fun _ w => gbF (σ.1 2) N L w) t (wrF (fun _ => 0) 6 (σ.1 48 7) 1)
def tkS (e : Int32) (w : Nat → Int32) (s : Nat) (r : Int32) : Int32 := if iB e (nI s) = true then rmP (r + w s) else r
theorem c_A_takenWords {N L t : Nat} (ht : t < 2 ^ 31) (σ : Hp) (hI : KI σ N L) : Ct m_A_takenWords [.ref 48, .int (nI t)] σ (fun w τ => w = some (.int (it (tkS (σ.1 48 8) (wyF σ N L t)) N 0)) ∧ Fp [54, 55] σ τ) := by
  have h0 := hI
  obtain ⟨hn, h1, h6, hl, h4⟩ := h0
  show WP m_A_takenWords 0 [.ref 48, .int (nI t), .null, .null] [] σ _
  refine wp_aload_n d_A_takenWords_0 rfl ?_
  refine wp_getA d_A_takenWords_1 fl_A_25 rfl rfl rfl ?_
  refine wp_iconst (v := 0) d_A_takenWords_4 (by decide) ?_
  refine wp_callS2v d_A_takenWords_5 cs_A_51 ⟨Nat.le_of_ble_eq_true rfl, Nat.le_of_ble_eq_true rfl⟩ (Nat.le_of_ble_eq_true rfl) (Nat.le_of_ble_eq_true rfl) (c_Ja_fill (a := 54) rfl (by decide) _ _) ?_
  refine wp_aload_n d_A_takenWords_8 rfl ?_
  refine wp_getA d_A_takenWords_9 fl_A_25 rfl rfl rfl ?_
  refine wp_aload_n d_A_takenWords_12 rfl ?_
  refine wp_getI d_A_takenWords_13 fl_A_44 rfl rfl (by decide) ?_
  refine wp_iconst (v := 1) d_A_takenWords_16 (by decide) ?_
  refine wp_callSN3v d_A_takenWords_17 csn_A_57 ⟨Nat.le_of_ble_eq_true rfl, Nat.le_of_ble_eq_true rfl⟩ (Nat.le_of_ble_eq_true rfl) (Nat.le_of_ble_eq_true rfl) (c_P_put (a := 54) rfl (by decide) _ _ _) ?_
  refine wp_iconst (v := 0) d_A_takenWords_20 (by decide) ?_
  refine wp_istore2 d_A_takenWords_21 (by decide) rfl ?_
  suffices H : ∀ k, k ≤ t → ∀ (τ : Hp), Fp [54, 55] σ τ → (∀ j, j < 6 → τ.1 54 j = wyF σ N L k j) → WP m_A_takenWords 22 [.ref 48, .int (nI t), .int (nI k), .null] [] τ (fun w τ => w = some (.int (it (tkS (σ.1 48 8) (wyF σ N L t)) N 0)) ∧ Fp [54, 55] σ τ) by
    refine H 0 (Nat.zero_le _) _ ((Fp.rf.flA (by simp)).wrA (by simp)) (fun j hj => ?_)
    rw [wrA_eq]
    refine wrF_cong (fun i hi => ?_) _ _ j hj
    exact flA_in hi
  refine lp_nat (fun k hk ih τ hF hg => ?_)
  have e1 : τ.1 1 = σ.1 1 := (hF 1 (by decide)).1
  have e2 : τ.1 2 = σ.1 2 := (hF 2 (by decide)).1
  have e48 : τ.1 48 = σ.1 48 := (hF 48 (by decide)).1
  refine wp_iload_n d_A_takenWords_22 rfl ?_
  refine wp_iload_n d_A_takenWords_23 rfl ?_
  refine wp_icmp_ge (tgt := 37) d_A_takenWords_24 (by decide) (fun hc => ?_) (fun hc => ?_)
  · obtain rfl := Nat.le_antisymm hk (nI_ge2 hc (by omega) (by omega))
    refine wp_iconst (v := 0) d_A_takenWords_37 (by decide) ?_
    refine wp_istore2 d_A_takenWords_38 (by decide) rfl ?_
    refine wp_iconst (v := 0) d_A_takenWords_39 (by decide) ?_
    refine wp_istore3 d_A_takenWords_40 (by decide) rfl ?_
    suffices H : ∀ s, s ≤ N → WP m_A_takenWords 41 [.ref 48, .int (nI k), .int (it (tkS (σ.1 48 8) (wyF σ N L k)) s 0), .int (nI s)] [] τ (fun w τ => w = some (.int (it (tkS (σ.1 48 8) (wyF σ N L k)) N 0)) ∧ Fp [54, 55] σ τ) from H 0 (Nat.zero_le _)
    refine lp_nat (fun s hs ih2 => ?_)
    refine wp_iload_n d_A_takenWords_41 rfl ?_
    refine wp_aload_n d_A_takenWords_42 rfl ?_
    refine wp_getA d_A_takenWords_43 fl_A_32 rfl rfl rfl ?_
    refine wp_getI d_A_takenWords_46 fl_A_64 rfl rfl (by decide) ?_
    refine wp_icmp_ge (tgt := 80) d_A_takenWords_49 (by decide) (fun hc2 => ?_) (fun hc2 => ?_)
    · rw [e1, hn] at hc2
      obtain rfl := Nat.le_antisymm hs (nI_ge2 hc2 (by omega) (by omega))
      refine wp_iload_n d_A_takenWords_80 rfl ?_
      refine wp_iret d_A_takenWords_81 rfl ?_
      exact ⟨rfl, hF⟩
    · rw [e1, hn] at hc2
      have hs2 := nI_nge hc2 (by omega) (by omega)
      refine wp_aload_n d_A_takenWords_52 rfl ?_
      refine wp_iload_n d_A_takenWords_53 rfl ?_
      refine wp_callV1e d_A_takenWords_54 cv_A_69 rfl rfl rfl ⟨Nat.le_of_ble_eq_true rfl, Nat.le_of_ble_eq_true rfl⟩ (Nat.le_of_ble_eq_true rfl) (Nat.le_of_ble_eq_true rfl) (c_A_isEnd _ _) ?_
      refine wp_if_eq (tgt := 74) d_A_takenWords_57 (by decide) (fun h3 => ?_) (fun h3 => ?_)
      · rw [bz_0, e48] at h3
        have ee : it (tkS (σ.1 48 8) (wyF σ N L k)) s 0 = it (tkS (σ.1 48 8) (wyF σ N L k)) (s + 1) 0 := by
          show _ = tkS _ _ s _
          rw [tkS, if_neg h3]
        refine wp_iinc3 d_A_takenWords_74 (hn_ii1 _) (by decide) rfl ?_
        refine wp_goto (tgt := 41) d_A_takenWords_77 (by decide) ?_
        rw [nI_1, ee]
        exact ih2 hs2
      · have h5 := Decidable.of_not_not (fun q => h3 (bz_0.mpr q))
        rw [e48] at h5
        refine wp_iload_n d_A_takenWords_60 rfl ?_
        refine wp_aload_n d_A_takenWords_61 rfl ?_
        refine wp_getA d_A_takenWords_62 fl_A_25 rfl rfl rfl ?_
        refine wp_iload_n d_A_takenWords_65 rfl ?_
        refine wp_callSN2e d_A_takenWords_66 csn_A_73 ⟨Nat.le_of_ble_eq_true rfl, Nat.le_of_ble_eq_true rfl⟩ (Nat.le_of_ble_eq_true rfl) (Nat.le_of_ble_eq_true rfl) (c_P_at (a := 54) rfl (by decide) _ _) ?_
        rw [rdA_in (by omega) (by decide), hg s (by omega)]
        refine wp_iadd d_A_takenWords_69 ?_
        refine wp_ldc d_A_takenWords_70 kc_A_77 ?_
        refine wp_irem d_A_takenWords_72 ?_ ?_
        · decide
        have ee : rmP (it (tkS (σ.1 48 8) (wyF σ N L k)) s 0 + wyF σ N L k s) = it (tkS (σ.1 48 8) (wyF σ N L k)) (s + 1) 0 := by
          show _ = tkS _ _ s _
          rw [tkS, if_pos h5]
        rw [← rmP, ee]
        refine wp_istore2 d_A_takenWords_73 (by decide) rfl ?_
        refine wp_iinc3 d_A_takenWords_74 (hn_ii1 _) (by decide) rfl ?_
        refine wp_goto (tgt := 41) d_A_takenWords_77 (by decide) ?_
        rw [nI_1]
        exact ih2 hs2
  · have hk2 := nI_nge hc (by omega) (by omega)
    refine wp_aload_n d_A_takenWords_27 rfl ?_
    have hI2 : KI τ N L := by rw [KI, e1]; exact hI
    refine wp_callV0 d_A_takenWords_28 cv_A_61 rfl rfl rfl ⟨Nat.le_of_ble_eq_true rfl, Nat.le_of_ble_eq_true rfl⟩ (Nat.le_of_ble_eq_true rfl) (Nat.le_of_ble_eq_true rfl) (c_A_goByOneLetter _ hI2) (fun v υ hq => ?_)
    obtain ⟨rfl, hF2, hg2⟩ := hq
    show WP m_A_takenWords 31 _ [] υ _
    refine wp_iinc2 d_A_takenWords_31 (hn_ii1 _) (by decide) rfl ?_
    refine wp_goto (tgt := 22) d_A_takenWords_34 (by decide) ?_
    rw [nI_1]
    refine ih hk2 υ (hF.tr hF2) (fun j hj => ?_)
    rw [hg2 j hj, e2]
    show gbF (σ.1 2) N L (τ.1 54) j = gbF (σ.1 2) N L (wyF σ N L k) j
    rw [gbF_cong h6 hg]
