/-! contracts: pairs that come together, points taken as one, twists; counts of bits, rank, kernel -/
def bcI0 (x : Int32) : Int32 := x - ((x.toUInt32 >>> ((1 : Int32).toUInt32 &&& Int32.toUInt32 31)).toInt32 &&& 1431655765)
def bcI1 (x : Int32) : Int32 := (x &&& 858993459) + ((x.toUInt32 >>> ((2 : Int32).toUInt32 &&& Int32.toUInt32 31)).toInt32 &&& 858993459)
def bcI2 (x : Int32) : Int32 := (x + (x.toUInt32 >>> ((4 : Int32).toUInt32 &&& Int32.toUInt32 31)).toInt32) &&& 252645135
def bcI3 (x : Int32) : Int32 := x + (x.toUInt32 >>> ((8 : Int32).toUInt32 &&& Int32.toUInt32 31)).toInt32
def bcI4 (x : Int32) : Int32 := x + (x.toUInt32 >>> ((16 : Int32).toUInt32 &&& Int32.toUInt32 31)).toInt32
def bcI (x : Int32) : Int32 := bcI4 (bcI3 (bcI2 (bcI1 (bcI0 x)))) &&& 63
theorem c_Ji_bitCount (x : Int32) (σ : Hp) : Ct m_Ji_bitCount [.int x] σ (Rt (.int (bcI x)) σ) := by
  show WP m_Ji_bitCount 0 [.int x] [] σ _
  refine wp_iload_n d_Ji_bitCount_0 rfl ?_
  refine wp_iload_n d_Ji_bitCount_1 rfl ?_
  refine wp_iconst (v := 1) d_Ji_bitCount_2 (by decide) ?_
  refine wp_iushr d_Ji_bitCount_3 ?_
  refine wp_ldcw d_Ji_bitCount_4 kc_Ji_265 ?_
  refine wp_iand d_Ji_bitCount_7 ?_
  refine wp_isub d_Ji_bitCount_8 ?_
  refine wp_istore0 d_Ji_bitCount_9 (by decide) ?_
  refine wp_iload_n d_Ji_bitCount_10 rfl ?_
  refine wp_ldcw d_Ji_bitCount_11 kc_Ji_266 ?_
  refine wp_iand d_Ji_bitCount_14 ?_
  refine wp_iload_n d_Ji_bitCount_15 rfl ?_
  refine wp_iconst (v := 2) d_Ji_bitCount_16 (by decide) ?_
  refine wp_iushr d_Ji_bitCount_17 ?_
  refine wp_ldcw d_Ji_bitCount_18 kc_Ji_266 ?_
  refine wp_iand d_Ji_bitCount_21 ?_
  refine wp_iadd d_Ji_bitCount_22 ?_
  refine wp_istore0 d_Ji_bitCount_23 (by decide) ?_
  refine wp_iload_n d_Ji_bitCount_24 rfl ?_
  refine wp_iload_n d_Ji_bitCount_25 rfl ?_
  refine wp_iconst (v := 4) d_Ji_bitCount_26 (by decide) ?_
  refine wp_iushr d_Ji_bitCount_27 ?_
  refine wp_iadd d_Ji_bitCount_28 ?_
  refine wp_ldcw d_Ji_bitCount_29 kc_Ji_267 ?_
  refine wp_iand d_Ji_bitCount_32 ?_
  refine wp_istore0 d_Ji_bitCount_33 (by decide) ?_
  refine wp_iload_n d_Ji_bitCount_34 rfl ?_
  refine wp_iload_n d_Ji_bitCount_35 rfl ?_
  refine wp_bipush (v := 8) d_Ji_bitCount_36 (by decide) ?_
  refine wp_iushr d_Ji_bitCount_38 ?_
  refine wp_iadd d_Ji_bitCount_39 ?_
  refine wp_istore0 d_Ji_bitCount_40 (by decide) ?_
  refine wp_iload_n d_Ji_bitCount_41 rfl ?_
  refine wp_iload_n d_Ji_bitCount_42 rfl ?_
  refine wp_bipush (v := 16) d_Ji_bitCount_43 (by decide) ?_
  refine wp_iushr d_Ji_bitCount_45 ?_
  refine wp_iadd d_Ji_bitCount_46 ?_
  refine wp_istore0 d_Ji_bitCount_47 (by decide) ?_
  refine wp_iload_n d_Ji_bitCount_48 rfl ?_
  refine wp_bipush (v := 63) d_Ji_bitCount_49 (by decide) ?_
  refine wp_iand d_Ji_bitCount_51 ?_
  refine wp_iret d_Ji_bitCount_52 rfl ?_
  exact ⟨rfl, rfl⟩
def usL (x : Int64) (p : Int32) : Int64 := (x.toUInt64 >>> (p.toInt64.toUInt64 &&& Int64.toUInt64 63)).toInt64
def bcL0 (x : Int64) : Int64 := x - (usL x 1 &&& 6148914691236517205)
def bcL1 (x : Int64) : Int64 := (x &&& 3689348814741910323) + (usL x 2 &&& 3689348814741910323)
def bcL2 (x : Int64) : Int64 := (x + usL x 4) &&& 1085102592571150095
def bcL3 (x : Int64) (p : Int32) : Int64 := x + usL x p
def bcL (x : Int64) : Int32 := (bcL3 (bcL3 (bcL3 (bcL2 (bcL1 (bcL0 x))) 8) 16) 32).toInt32 &&& 127
theorem c_Jl_bitCount (x : Int64) (σ : Hp) : Ct m_Jl_bitCount [.long x] σ (Rt (.int (bcL x)) σ) := by
  show WP m_Jl_bitCount 0 [.long x, .null] [] σ _
  refine wp_lload_n d_Jl_bitCount_0 rfl ?_
  refine wp_lload_n d_Jl_bitCount_1 rfl ?_
  refine wp_iconst (v := 1) d_Jl_bitCount_2 (by decide) ?_
  refine wp_lushr d_Jl_bitCount_3 ?_
  refine wp_ldc2 d_Jl_bitCount_4 kc_Jl_314 ?_
  refine wp_land d_Jl_bitCount_7 ?_
  refine wp_lsub d_Jl_bitCount_8 ?_
  refine wp_lstore0 d_Jl_bitCount_9 (by decide) ?_
  refine wp_lload_n d_Jl_bitCount_10 rfl ?_
  refine wp_ldc2 d_Jl_bitCount_11 kc_Jl_316 ?_
  refine wp_land d_Jl_bitCount_14 ?_
  refine wp_lload_n d_Jl_bitCount_15 rfl ?_
  refine wp_iconst (v := 2) d_Jl_bitCount_16 (by decide) ?_
  refine wp_lushr d_Jl_bitCount_17 ?_
  refine wp_ldc2 d_Jl_bitCount_18 kc_Jl_316 ?_
  refine wp_land d_Jl_bitCount_21 ?_
  refine wp_ladd d_Jl_bitCount_22 ?_
  refine wp_lstore0 d_Jl_bitCount_23 (by decide) ?_
  refine wp_lload_n d_Jl_bitCount_24 rfl ?_
  refine wp_lload_n d_Jl_bitCount_25 rfl ?_
  refine wp_iconst (v := 4) d_Jl_bitCount_26 (by decide) ?_
  refine wp_lushr d_Jl_bitCount_27 ?_
  refine wp_ladd d_Jl_bitCount_28 ?_
  refine wp_ldc2 d_Jl_bitCount_29 kc_Jl_318 ?_
  refine wp_land d_Jl_bitCount_32 ?_
  refine wp_lstore0 d_Jl_bitCount_33 (by decide) ?_
  refine wp_lload_n d_Jl_bitCount_34 rfl ?_
  refine wp_lload_n d_Jl_bitCount_35 rfl ?_
  refine wp_bipush (v := 8) d_Jl_bitCount_36 (by decide) ?_
  refine wp_lushr d_Jl_bitCount_38 ?_
  refine wp_ladd d_Jl_bitCount_39 ?_
  refine wp_lstore0 d_Jl_bitCount_40 (by decide) ?_
  refine wp_lload_n d_Jl_bitCount_41 rfl ?_
  refine wp_lload_n d_Jl_bitCount_42 rfl ?_
  refine wp_bipush (v := 16) d_Jl_bitCount_43 (by decide) ?_
  refine wp_lushr d_Jl_bitCount_45 ?_
  refine wp_ladd d_Jl_bitCount_46 ?_
  refine wp_lstore0 d_Jl_bitCount_47 (by decide) ?_
  refine wp_lload_n d_Jl_bitCount_48 rfl ?_
  refine wp_lload_n d_Jl_bitCount_49 rfl ?_
  refine wp_bipush (v := 32) d_Jl_bitCount_50 (by decide) ?_
  refine wp_lushr d_Jl_bitCount_52 ?_
  refine wp_ladd d_Jl_bitCount_53 ?_
  refine wp_lstore0 d_Jl_bitCount_54 (by decide) ?_
  refine wp_lload_n d_Jl_bitCount_55 rfl ?_
  refine wp_l2i d_Jl_bitCount_56 ?_
  refine wp_bipush (v := 127) d_Jl_bitCount_57 (by decide) ?_
  refine wp_iand d_Jl_bitCount_59 ?_
  refine wp_iret d_Jl_bitCount_60 rfl ?_
  exact ⟨rfl, rfl⟩
theorem c_G_rank (m : Int32) {N : Nat} (hN : N ≤ 6) (σ : Hp) : Ct m_G_rank [.int m, .int (nI N)] σ (Rt (.int (bcI (osF m (nI (2 ^ N - 1))))) σ) := by
  show WP m_G_rank 0 [.int m, .int (nI N)] [] σ _
  refine wp_iload_n d_G_rank_0 rfl ?_
  refine wp_iconst (v := 1) d_G_rank_1 (by decide) ?_
  refine wp_iload_n d_G_rank_2 rfl ?_
  refine wp_ishl d_G_rank_3 ?_
  refine wp_iconst (v := 1) d_G_rank_4 (by decide) ?_
  refine wp_isub d_G_rank_5 ?_
  refine wp_callS2e d_G_rank_6 cs_G_36 ⟨Nat.le_of_ble_eq_true rfl, Nat.le_of_ble_eq_true rfl⟩ (Nat.le_of_ble_eq_true rfl) (Nat.le_of_ble_eq_true rfl) (c_G_ofSet _ _ _) ?_
  refine wp_callS1e d_G_rank_9 cs_G_39 ⟨Nat.le_of_ble_eq_true rfl, Nat.le_of_ble_eq_true rfl⟩ (Nat.le_of_ble_eq_true rfl) (Nat.le_of_ble_eq_true rfl) (c_Ji_bitCount _ _) ?_
  refine wp_iret d_G_rank_12 rfl ?_
  refine ⟨?_, rfl⟩
  rw [whole_nI N hN]
/-- the first place from k on, within f steps, at which p holds; else k + f -/
def sr (p : Nat → Prop) [DecidablePred p] : Nat → Nat → Nat
  | 0, k => k
  | f + 1, k => if p k then k else sr p f (k + 1)
def knS (m : Int32) (i : Nat) (r : Int32) : Int32 := uF r (nI i) (nI (sr (fun l => gF m (nI l) = gF m (nI i)) i 0))
def knF (m : Int32) (N : Nat) : Int32 := it (knS m) N 0
theorem c_G_kernel (m : Int32) {N : Nat} (hN : N < 2 ^ 31) (σ : Hp) : Ct m_G_kernel [.int m, .int (nI N)] σ (Rt (.int (knF m N)) σ) := by
  show WP m_G_kernel 0 [.int m, .int (nI N), .null, .null, .null] [] σ _
  refine wp_iconst (v := 0) d_G_kernel_0 (by decide) ?_
  refine wp_istore2 d_G_kernel_1 (by decide) rfl ?_
  refine wp_iconst (v := 0) d_G_kernel_2 (by decide) ?_
  refine wp_istore3 d_G_kernel_3 (by decide) rfl ?_
  suffices H : ∀ k, k ≤ N → ∀ x4 : Value, WP m_G_kernel 4 [.int m, .int (nI N), .int (it (knS m) k 0), .int (nI k), x4] [] σ (Rt (.int (knF m N)) σ) from H 0 (Nat.zero_le _) _
  refine lp_nat (fun k hk ih x4 => ?_)
  refine wp_iload_n d_G_kernel_4 rfl ?_
  refine wp_iload_n d_G_kernel_5 rfl ?_
  refine wp_icmp_ge (tgt := 52) d_G_kernel_6 (by decide) (fun h1 => ?_) (fun h1 => ?_)
  · obtain rfl := Nat.le_antisymm hk (nI_ge2 h1 (by omega) hN)
    refine wp_iload_n d_G_kernel_52 rfl ?_
    refine wp_iret d_G_kernel_53 rfl ?_
    exact ⟨rfl, rfl⟩
  · have hk2 := nI_nge h1 (by omega) hN
    refine wp_iconst (v := 0) d_G_kernel_9 (by decide) ?_
    refine wp_istore4 d_G_kernel_10 (by decide) rfl ?_
    have fin : ∀ j, j = sr (fun l => gF m (nI l) = gF m (nI k)) k 0 → WP m_G_kernel 38 [.int m, .int (nI N), .int (it (knS m) k 0), .int (nI k), .int (nI j)] [] σ (Rt (.int (knF m N)) σ) := by
      intro j hj
      subst hj
      refine wp_iload_n d_G_kernel_38 rfl ?_
      refine wp_iload_n d_G_kernel_39 rfl ?_
      refine wp_iload d_G_kernel_40 rfl ?_
      refine wp_callS3e d_G_kernel_42 cs_G_9 ⟨Nat.le_of_ble_eq_true rfl, Nat.le_of_ble_eq_true rfl⟩ (Nat.le_of_ble_eq_true rfl) (Nat.le_of_ble_eq_true rfl) (c_G_with _ _ _ _) ?_
      refine wp_istore2 d_G_kernel_45 (by decide) rfl ?_
      refine wp_iinc3 d_G_kernel_46 (hn_ii1 _) (by decide) rfl ?_
      refine wp_goto (tgt := 4) d_G_kernel_49 (by decide) ?_
      rw [nI_1]
      exact ih hk2 _
    suffices H : ∀ j, j ≤ k → sr (fun l => gF m (nI l) = gF m (nI k)) (k - j) j = sr (fun l => gF m (nI l) = gF m (nI k)) k 0 → WP m_G_kernel 12 [.int m, .int (nI N), .int (it (knS m) k 0), .int (nI k), .int (nI j)] [] σ (Rt (.int (knF m N)) σ) from H 0 (Nat.zero_le _) rfl
    refine lp_nat (fun j hj ih2 hs => ?_)
    refine wp_iload d_G_kernel_12 rfl ?_
    refine wp_iload_n d_G_kernel_14 rfl ?_
    refine wp_icmp_ge (tgt := 38) d_G_kernel_15 (by decide) (fun h2 => ?_) (fun h2 => ?_)
    · obtain rfl := Nat.le_antisymm hj (nI_ge2 h2 (by omega) (by omega))
      rw [Nat.sub_self, sr] at hs
      exact fin j hs
    · have hj2 := nI_nge h2 (by omega) (by omega)
      obtain ⟨d, hd⟩ : ∃ d, k - j = d + 1 := ⟨k - j - 1, by omega⟩
      rw [hd, sr] at hs
      refine wp_iload_n d_G_kernel_18 rfl ?_
      refine wp_iload d_G_kernel_19 rfl ?_
      refine wp_callS2e d_G_kernel_21 cs_G_15 ⟨Nat.le_of_ble_eq_true rfl, Nat.le_of_ble_eq_true rfl⟩ (Nat.le_of_ble_eq_true rfl) (Nat.le_of_ble_eq_true rfl) (c_G_goesTo _ _ _) ?_
      refine wp_iload_n d_G_kernel_24 rfl ?_
      refine wp_iload_n d_G_kernel_25 rfl ?_
      refine wp_callS2e d_G_kernel_26 cs_G_15 ⟨Nat.le_of_ble_eq_true rfl, Nat.le_of_ble_eq_true rfl⟩ (Nat.le_of_ble_eq_true rfl) (Nat.le_of_ble_eq_true rfl) (c_G_goesTo _ _ _) ?_
      refine wp_icmp_eq (tgt := 38) d_G_kernel_29 (by decide) (fun h3 => ?_) (fun h3 => ?_)
      · rw [if_pos h3] at hs
        exact fin j hs
      · rw [if_neg h3] at hs
        refine wp_iinc4 d_G_kernel_32 (hn_ii1 _) (by decide) rfl ?_
        refine wp_goto (tgt := 12) d_G_kernel_35 (by decide) ?_
        rw [nI_1]
        exact ih2 hj2 (by rw [show k - (j + 1) = d by omega]; exact hs)
def stL (x : Int64) (p : Int32) : Int64 := x ||| (1 <<< (p.toInt64 &&& 63))
def sgF (N : Nat) : Int64 := it (fun k m => stL m (1 <<< (nI k &&& 31))) N 0
theorem c_S_singles {N L : Nat} (σ : Hp) (hI : KI σ N L) : Ct m_S_singles [.ref 35] σ (Rt (.long (sgF N)) σ) := by
  obtain ⟨hn, h1, h6, -⟩ := hI
  show WP m_S_singles 0 [.ref 35, .null, .null, .null] [] σ _
  refine wp_lconst (v := 0) d_S_singles_0 (by decide) ?_
  refine wp_lstore1 d_S_singles_1 (by decide) rfl ?_
  refine wp_iconst (v := 0) d_S_singles_2 (by decide) ?_
  refine wp_istore3 d_S_singles_3 (by decide) rfl ?_
  suffices H : ∀ k, k ≤ N → WP m_S_singles 4 [.ref 35, .long (it (fun k m => stL m (1 <<< (nI k &&& 31))) k 0), .null, .int (nI k)] [] σ (Rt (.long (sgF N)) σ) from H 0 (Nat.zero_le _)
  refine lp_nat (fun k hk ih => ?_)
  refine wp_iload_n d_S_singles_4 rfl ?_
  refine wp_aload_n d_S_singles_5 rfl ?_
  refine wp_getA d_S_singles_6 fl_S_7 rfl rfl rfl ?_
  refine wp_getI d_S_singles_9 fl_S_13 rfl rfl (by decide) ?_
  refine wp_icmp_ge (tgt := 29) d_S_singles_12 (by decide) (fun hc => ?_) (fun hc => ?_)
  · rw [hn] at hc
    obtain rfl := Nat.le_antisymm hk (nI_ge2 hc (by omega) (by omega))
    refine wp_lload_n d_S_singles_29 rfl ?_
    refine wp_lret d_S_singles_30 rfl ?_
    exact ⟨rfl, rfl⟩
  · rw [hn] at hc
    have hk2 := nI_nge hc (by omega) (by omega)
    refine wp_lload_n d_S_singles_15 rfl ?_
    refine wp_lconst (v := 1) d_S_singles_16 (by decide) ?_
    refine wp_iconst (v := 1) d_S_singles_17 (by decide) ?_
    refine wp_iload_n d_S_singles_18 rfl ?_
    refine wp_ishl d_S_singles_19 ?_
    refine wp_lshl d_S_singles_20 ?_
    refine wp_lor d_S_singles_21 ?_
    refine wp_lstore1 d_S_singles_22 (by decide) rfl ?_
    refine wp_iinc3 d_S_singles_23 (hn_ii1 _) (by decide) rfl ?_
    refine wp_goto (tgt := 4) d_S_singles_26 (by decide) ?_
    rw [nI_1]
    exact ih hk2
/-- bit p of x is set -/
def btL (x : Int64) (p : Int32) : Bool := decide (lg_cmp (usL x p &&& 1) 1 = 0)
theorem btL_t {x : Int64} {p : Int32} (h : lg_cmp (usL x p &&& 1) 1 = 0) : btL x p = true := decide_eq_true h
theorem btL_f {x : Int64} {p : Int32} (h : ¬ lg_cmp (usL x p &&& 1) 1 = 0) : btL x p = false := decide_eq_false h
def sllF (σ : Hp) (L : Nat) (q : Int32) (m : Int64) : Bool := (List.range L).any (fun k => btL m (opF (σ.1 2 k) q))
theorem sllF_t {σ : Hp} {L : Nat} {q : Int32} {m : Int64} {k : Nat} (hk : k < L) (h : btL m (opF (σ.1 2 k) q) = true) : sllF σ L q m = true := List.any_eq_true.mpr ⟨k, List.mem_range.mpr hk, h⟩
theorem sllF_f {σ : Hp} {L : Nat} {q : Int32} {m : Int64} (h : ∀ k, k < L → btL m (opF (σ.1 2 k) q) = false) : sllF σ L q m = false := by
  rw [sllF, List.any_eq_false]
  intro k hk
  rw [h k (List.mem_range.mp hk)]
  decide
theorem c_S_someLetterLeads (q : Int32) (m : Int64) {N L : Nat} (σ : Hp) (hI : KI σ N L) : Ct m_S_someLetterLeads [.ref 35, .int q, .long m] σ (Rt (.int (bz (sllF σ L q m = true))) σ) := by
  obtain ⟨hn, h1, h6, hl, h4⟩ := hI
  show WP m_S_someLetterLeads 0 [.ref 35, .int q, .long m, .null, .null] [] σ _
  refine wp_iconst (v := 0) d_S_someLetterLeads_0 (by decide) ?_
  refine wp_istore4 d_S_someLetterLeads_1 (by decide) rfl ?_
  suffices H : ∀ k, k ≤ L → (∀ j, j < k → btL m (opF (σ.1 2 j) q) = false) → WP m_S_someLetterLeads 3 [.ref 35, .int q, .long m, .null, .int (nI k)] [] σ (Rt (.int (bz (sllF σ L q m = true))) σ) from H 0 (Nat.zero_le _) (fun j hj => absurd hj (by omega))
  refine lp_nat (fun k hk ih hp => ?_)
  refine wp_iload d_S_someLetterLeads_3 rfl ?_
  refine wp_aload_n d_S_someLetterLeads_5 rfl ?_
  refine wp_getA d_S_someLetterLeads_6 fl_S_7 rfl rfl rfl ?_
  refine wp_getI d_S_someLetterLeads_9 fl_S_35 rfl rfl (by decide) ?_
  refine wp_icmp_ge (tgt := 45) d_S_someLetterLeads_12 (by decide) (fun hc => ?_) (fun hc => ?_)
  · rw [hl] at hc
    obtain rfl := Nat.le_antisymm hk (nI_ge2 hc (by omega) (by omega))
    rw [sllF_f hp, bz_f (by decide)]
    refine wp_iconst (v := 0) d_S_someLetterLeads_45 (by decide) ?_
    refine wp_zret d_S_someLetterLeads_46 rfl ?_ ?_
    · decide
    · exact ⟨rfl, rfl⟩
  · rw [hl] at hc
    have hk2 := nI_nge hc (by omega) (by omega)
    refine wp_lload_n d_S_someLetterLeads_15 rfl ?_
    refine wp_aload_n d_S_someLetterLeads_16 rfl ?_
    refine wp_getA d_S_someLetterLeads_17 fl_S_7 rfl rfl rfl ?_
    refine wp_iload d_S_someLetterLeads_20 rfl ?_
    refine wp_callV1e d_S_someLetterLeads_22 cv_S_38 rfl rfl rfl ⟨Nat.le_of_ble_eq_true rfl, Nat.le_of_ble_eq_true rfl⟩ (Nat.le_of_ble_eq_true rfl) (Nat.le_of_ble_eq_true rfl) (c_L_map _ _) ?_
    rw [rdA_in (by omega) (by decide)]
    refine wp_iload_n d_S_someLetterLeads_25 rfl ?_
    refine wp_callS2e d_S_someLetterLeads_26 cs_S_42 ⟨Nat.le_of_ble_eq_true rfl, Nat.le_of_ble_eq_true rfl⟩ (Nat.le_of_ble_eq_true rfl) (Nat.le_of_ble_eq_true rfl) (c_G_ofPair _ _ _) ?_
    refine wp_lushr d_S_someLetterLeads_29 ?_
    refine wp_lconst (v := 1) d_S_someLetterLeads_30 (by decide) ?_
    refine wp_land d_S_someLetterLeads_31 ?_
    refine wp_lconst (v := 1) d_S_someLetterLeads_32 (by decide) ?_
    refine wp_lcmp d_S_someLetterLeads_33 ?_
    refine wp_if_ne (tgt := 39) d_S_someLetterLeads_34 (by decide) (fun h2 => ?_) (fun h2 => ?_)
    · refine wp_iinc4 d_S_someLetterLeads_39 (hn_ii1 _) (by decide) rfl ?_
      refine wp_goto (tgt := 3) d_S_someLetterLeads_42 (by decide) ?_
      rw [nI_1]
      exact ih hk2 (lt_s hp (btL_f h2))
    · rw [sllF_t hk2 (btL_t h2), bz_t rfl]
      refine wp_iconst (v := 1) d_S_someLetterLeads_37 (by decide) ?_
      refine wp_zret d_S_someLetterLeads_38 rfl ?_ ?_
      · decide
      · exact ⟨rfl, rfl⟩
def woS (σ : Hp) (L : Nat) (m : Int64) (a b : Nat) (r : Int64) : Int64 := if sllF σ L (prF (nI a) (nI b)) m = true then stL r (prF (nI a) (nI b)) else r
def woF (σ : Hp) (N L : Nat) (m : Int64) : Int64 := it (fun a r => it (woS σ L m a) N r) N m
theorem c_S_withOneLetterAhead (m : Int64) {N L : Nat} (σ : Hp) (hI : KI σ N L) : Ct m_S_withOneLetterAhead [.ref 35, .long m] σ (Rt (.long (woF σ N L m)) σ) := by
  have h0 := hI
  obtain ⟨hn, h1, h6, hl, h4⟩ := h0
  show WP m_S_withOneLetterAhead 0 [.ref 35, .long m, .null, .null, .null, .null, .null] [] σ _
  refine wp_lload_n d_S_withOneLetterAhead_0 rfl ?_
  refine wp_lstore3 d_S_withOneLetterAhead_1 (by decide) rfl ?_
  refine wp_iconst (v := 0) d_S_withOneLetterAhead_2 (by decide) ?_
  refine wp_istore5 d_S_withOneLetterAhead_3 (by decide) rfl ?_
  suffices H : ∀ k, k ≤ N → ∀ x6 : Value, WP m_S_withOneLetterAhead 5 [.ref 35, .long m, .null, .long (it (fun a r => it (woS σ L m a) N r) k m), .null, .int (nI k), x6] [] σ (Rt (.long (woF σ N L m)) σ) from H 0 (Nat.zero_le _) _
  refine lp_nat (fun k hk ih x6 => ?_)
  refine wp_iload d_S_withOneLetterAhead_5 rfl ?_
  refine wp_aload_n d_S_withOneLetterAhead_7 rfl ?_
  refine wp_getA d_S_withOneLetterAhead_8 fl_S_7 rfl rfl rfl ?_
  refine wp_getI d_S_withOneLetterAhead_11 fl_S_13 rfl rfl (by decide) ?_
  refine wp_icmp_ge (tgt := 71) d_S_withOneLetterAhead_14 (by decide) (fun hc => ?_) (fun hc => ?_)
  · rw [hn] at hc
    obtain rfl := Nat.le_antisymm hk (nI_ge2 hc (by omega) (by omega))
    refine wp_lload_n d_S_withOneLetterAhead_71 rfl ?_
    refine wp_lret d_S_withOneLetterAhead_72 rfl ?_
    exact ⟨rfl, rfl⟩
  · rw [hn] at hc
    have hk2 := nI_nge hc (by omega) (by omega)
    refine wp_iconst (v := 0) d_S_withOneLetterAhead_17 (by decide) ?_
    refine wp_istore6 d_S_withOneLetterAhead_18 (by decide) rfl ?_
    obtain ⟨r, hr⟩ : ∃ r, r = it (fun a r => it (woS σ L m a) N r) k m := ⟨_, rfl⟩
    rw [← hr]
    suffices H : ∀ j, j ≤ N → WP m_S_withOneLetterAhead 20 [.ref 35, .long m, .null, .long (it (woS σ L m k) j r), .null, .int (nI k), .int (nI j)] [] σ (Rt (.long (woF σ N L m)) σ) from H 0 (Nat.zero_le _)
    refine lp_nat (fun j hj ih2 => ?_)
    refine wp_iload d_S_withOneLetterAhead_20 rfl ?_
    refine wp_aload_n d_S_withOneLetterAhead_22 rfl ?_
    refine wp_getA d_S_withOneLetterAhead_23 fl_S_7 rfl rfl rfl ?_
    refine wp_getI d_S_withOneLetterAhead_26 fl_S_13 rfl rfl (by decide) ?_
    refine wp_icmp_ge (tgt := 65) d_S_withOneLetterAhead_29 (by decide) (fun hc2 => ?_) (fun hc2 => ?_)
    · rw [hn] at hc2
      obtain rfl := Nat.le_antisymm hj (nI_ge2 hc2 (by omega) (by omega))
      refine wp_iinc5 d_S_withOneLetterAhead_65 (hn_ii1 _) (by decide) rfl ?_
      refine wp_goto (tgt := 5) d_S_withOneLetterAhead_68 (by decide) ?_
      rw [nI_1, hr]
      exact ih hk2 _
    · rw [hn] at hc2
      have hj2 := nI_nge hc2 (by omega) (by omega)
      refine wp_aload_n d_S_withOneLetterAhead_32 rfl ?_
      refine wp_iload d_S_withOneLetterAhead_33 rfl ?_
      refine wp_iload d_S_withOneLetterAhead_35 rfl ?_
      refine wp_callS2e d_S_withOneLetterAhead_37 cs_S_25 ⟨Nat.le_of_ble_eq_true rfl, Nat.le_of_ble_eq_true rfl⟩ (Nat.le_of_ble_eq_true rfl) (Nat.le_of_ble_eq_true rfl) (c_G_pair _ _ _) ?_
      refine wp_lload_n d_S_withOneLetterAhead_40 rfl ?_
      refine wp_callV2e d_S_withOneLetterAhead_41 cv_S_31 rfl rfl rfl ⟨Nat.le_of_ble_eq_true rfl, Nat.le_of_ble_eq_true rfl⟩ (Nat.le_of_ble_eq_true rfl) (Nat.le_of_ble_eq_true rfl) (c_S_someLetterLeads _ _ _ hI) ?_
      refine wp_if_eq (tgt := 59) d_S_withOneLetterAhead_44 (by decide) (fun h2 => ?_) (fun h2 => ?_)
      · rw [bz_0] at h2
        have ee : it (woS σ L m k) j r = it (woS σ L m k) (j + 1) r := by
          show _ = woS σ L m k j _
          rw [woS, if_neg h2]
        refine wp_iinc6 d_S_withOneLetterAhead_59 (hn_ii1 _) (by decide) rfl ?_
        refine wp_goto (tgt := 20) d_S_withOneLetterAhead_62 (by decide) ?_
        rw [nI_1, ee]
        exact ih2 hj2
      · have h3 : sllF σ L (prF (nI k) (nI j)) m = true := Decidable.of_not_not (fun q => h2 (bz_0.mpr q))
        have ee : stL (it (woS σ L m k) j r) (prF (nI k) (nI j)) = it (woS σ L m k) (j + 1) r := by
          show _ = woS σ L m k j _
          rw [woS, if_pos h3]
        refine wp_lload_n d_S_withOneLetterAhead_47 rfl ?_
        refine wp_lconst (v := 1) d_S_withOneLetterAhead_48 (by decide) ?_
        refine wp_iload d_S_withOneLetterAhead_49 rfl ?_
        refine wp_iload d_S_withOneLetterAhead_51 rfl ?_
        refine wp_callS2e d_S_withOneLetterAhead_53 cs_S_25 ⟨Nat.le_of_ble_eq_true rfl, Nat.le_of_ble_eq_true rfl⟩ (Nat.le_of_ble_eq_true rfl) (Nat.le_of_ble_eq_true rfl) (c_G_pair _ _ _) ?_
        refine wp_lshl d_S_withOneLetterAhead_56 ?_
        refine wp_lor d_S_withOneLetterAhead_57 ?_
        refine wp_lstore3 d_S_withOneLetterAhead_58 (by decide) rfl ?_
        rw [← stL, ee]
        refine wp_iinc6 d_S_withOneLetterAhead_59 (hn_ii1 _) (by decide) rfl ?_
        refine wp_goto (tgt := 20) d_S_withOneLetterAhead_62 (by decide) ?_
        rw [nI_1]
        exact ih2 hj2
theorem it_const {α : Type} (f : α → α) {x : α} (h : f x = x) : ∀ k, it (fun _ => f) k x = x
  | 0 => rfl
  | k + 1 => by
    show f (it (fun _ => f) k x) = x
    rw [it_const f h k, h]
theorem it_stop {α : Type} (f : α → α) {x : α} {k : Nat} (h : f (it (fun _ => f) k x) = it (fun _ => f) k x) : ∀ d, it (fun _ => f) (k + d) x = it (fun _ => f) k x
  | 0 => rfl
  | d + 1 => by
    show f (it (fun _ => f) (k + d) x) = _
    rw [it_stop f h d, h]
theorem lg_cmp_0 (x z : Int64) : lg_cmp x z = 0 ↔ x = z := by
  unfold lg_cmp
  split
  · rename_i h
    constructor
    · intro q; exact absurd q (by decide)
    · intro q
      subst q
      exact absurd h (lg_lt_not h)
  · split
    · rename_i h; simp [h]
    · rename_i h
      constructor
      · intro q; exact absurd q (by decide)
      · intro q; exact absurd q h
def ldF (σ : Hp) (N L : Nat) (m : Int64) : Int64 := it (fun _ => woF σ N L) 64 m
theorem c_S_leadingTo (m : Int64) {N L : Nat} (σ : Hp) (hI : KI σ N L) : Ct m_S_leadingTo [.ref 35, .long m] σ (Rt (.long (ldF σ N L m)) σ) := by
  show WP m_S_leadingTo 0 [.ref 35, .long m, .null, .null, .null, .null, .null, .null] [] σ _
  refine wp_lload_n d_S_leadingTo_0 rfl ?_
  refine wp_lstore3 d_S_leadingTo_1 (by decide) rfl ?_
  refine wp_iconst (v := 0) d_S_leadingTo_2 (by decide) ?_
  refine wp_istore5 d_S_leadingTo_3 (by decide) rfl ?_
  suffices H : ∀ k, k ≤ 64 → ∀ x6 x7 : Value, WP m_S_leadingTo 5 [.ref 35, .long m, .null, .long (it (fun _ => woF σ N L) k m), .null, .int (nI k), x6, x7] [] σ (Rt (.long (ldF σ N L m)) σ) from H 0 (Nat.zero_le _) _ _
  refine lp_nat (fun k hk ih x6 x7 => ?_)
  refine wp_iload d_S_leadingTo_5 rfl ?_
  refine wp_bipush (v := 64) d_S_leadingTo_7 (by decide) ?_
  refine wp_icmp_ge (tgt := 37) d_S_leadingTo_9 (by decide) (fun hc => ?_) (fun hc => ?_)
  · obtain rfl := Nat.le_antisymm hk (nI_ge2 (b := 64) hc (by omega) (by omega))
    refine wp_lload_n d_S_leadingTo_37 rfl ?_
    refine wp_lret d_S_leadingTo_38 rfl ?_
    exact ⟨rfl, rfl⟩
  · have hk2 := nI_nge (b := 64) hc (by omega) (by omega)
    refine wp_aload_n d_S_leadingTo_12 rfl ?_
    refine wp_lload_n d_S_leadingTo_13 rfl ?_
    refine wp_callV1e d_S_leadingTo_14 cv_S_21 rfl rfl rfl ⟨Nat.le_of_ble_eq_true rfl, Nat.le_of_ble_eq_true rfl⟩ (Nat.le_of_ble_eq_true rfl) (Nat.le_of_ble_eq_true rfl) (c_S_withOneLetterAhead _ _ hI) ?_
    refine wp_lstore6 d_S_leadingTo_17 (by decide) rfl ?_
    refine wp_lload d_S_leadingTo_19 rfl ?_
    refine wp_lload_n d_S_leadingTo_21 rfl ?_
    refine wp_lcmp d_S_leadingTo_22 ?_
    refine wp_if_ne (tgt := 28) d_S_leadingTo_23 (by decide) (fun h2 => ?_) (fun h2 => ?_)
    · refine wp_lload d_S_leadingTo_28 rfl ?_
      refine wp_lstore3 d_S_leadingTo_30 (by decide) rfl ?_
      refine wp_iinc5 d_S_leadingTo_31 (hn_ii1 _) (by decide) rfl ?_
      refine wp_goto (tgt := 5) d_S_leadingTo_34 (by decide) ?_
      rw [nI_1]
      exact ih hk2 _ _
    · rw [lg_cmp_0] at h2
      refine wp_lload_n d_S_leadingTo_26 rfl ?_
      refine wp_lret d_S_leadingTo_27 rfl ?_
      refine ⟨?_, rfl⟩
      have := it_stop (woF σ N L) h2 (64 - k)
      rw [show k + (64 - k) = 64 by omega] at this
      rw [ldF, this]
def dgF (N : Nat) : Int64 := it (fun k m => stL m (prF (nI k) (nI k))) N 0
theorem c_S_apartPairs {N L : Nat} (σ : Hp) (hI : KI σ N L) : Ct m_S_apartPairs [.ref 35] σ (Rt (.int ((nI (N * N) - bcL (ldF σ N L (dgF N))) / 2)) σ) := by
  have h0 := hI
  obtain ⟨hn, h1, h6, hl, h4⟩ := h0
  show WP m_S_apartPairs 0 [.ref 35, .null, .null, .null] [] σ _
  refine wp_lconst (v := 0) d_S_apartPairs_0 (by decide) ?_
  refine wp_lstore1 d_S_apartPairs_1 (by decide) rfl ?_
  refine wp_iconst (v := 0) d_S_apartPairs_2 (by decide) ?_
  refine wp_istore3 d_S_apartPairs_3 (by decide) rfl ?_
  suffices H : ∀ k, k ≤ N → WP m_S_apartPairs 4 [.ref 35, .long (it (fun k m => stL m (prF (nI k) (nI k))) k 0), .null, .int (nI k)] [] σ (Rt (.int ((nI (N * N) - bcL (ldF σ N L (dgF N))) / 2)) σ) from H 0 (Nat.zero_le _)
  refine lp_nat (fun k hk ih => ?_)
  refine wp_iload_n d_S_apartPairs_4 rfl ?_
  refine wp_aload_n d_S_apartPairs_5 rfl ?_
  refine wp_getA d_S_apartPairs_6 fl_S_7 rfl rfl rfl ?_
  refine wp_getI d_S_apartPairs_9 fl_S_13 rfl rfl (by decide) ?_
  refine wp_icmp_ge (tgt := 31) d_S_apartPairs_12 (by decide) (fun hc => ?_) (fun hc => ?_)
  · rw [hn] at hc
    obtain rfl := Nat.le_antisymm hk (nI_ge2 hc (by omega) (by omega))
    refine wp_aload_n d_S_apartPairs_31 rfl ?_
    refine wp_getA d_S_apartPairs_32 fl_S_7 rfl rfl rfl ?_
    refine wp_getI d_S_apartPairs_35 fl_S_13 rfl rfl (by decide) ?_
    refine wp_aload_n d_S_apartPairs_38 rfl ?_
    refine wp_getA d_S_apartPairs_39 fl_S_7 rfl rfl rfl ?_
    refine wp_getI d_S_apartPairs_42 fl_S_13 rfl rfl (by decide) ?_
    refine wp_imul d_S_apartPairs_45 ?_
    refine wp_istore3 d_S_apartPairs_46 (by decide) rfl ?_
    refine wp_iload_n d_S_apartPairs_47 rfl ?_
    refine wp_aload_n d_S_apartPairs_48 rfl ?_
    refine wp_lload_n d_S_apartPairs_49 rfl ?_
    refine wp_callV1e d_S_apartPairs_50 cv_S_45 rfl rfl rfl ⟨Nat.le_of_ble_eq_true rfl, Nat.le_of_ble_eq_true rfl⟩ (Nat.le_of_ble_eq_true rfl) (Nat.le_of_ble_eq_true rfl) (c_S_leadingTo _ _ hI) ?_
    refine wp_callS1e d_S_apartPairs_53 cs_S_48 ⟨Nat.le_of_ble_eq_true rfl, Nat.le_of_ble_eq_true rfl⟩ (Nat.le_of_ble_eq_true rfl) (Nat.le_of_ble_eq_true rfl) (c_Jl_bitCount _ _) ?_
    refine wp_isub d_S_apartPairs_56 ?_
    refine wp_iconst (v := 2) d_S_apartPairs_57 (by decide) ?_
    refine wp_idiv d_S_apartPairs_58 ?_ ?_
    · decide
    refine wp_iret d_S_apartPairs_59 rfl ?_
    refine ⟨?_, rfl⟩
    rw [hn, pk_mul]
    rfl
  · rw [hn] at hc
    have hk2 := nI_nge hc (by omega) (by omega)
    refine wp_lload_n d_S_apartPairs_15 rfl ?_
    refine wp_lconst (v := 1) d_S_apartPairs_16 (by decide) ?_
    refine wp_iload_n d_S_apartPairs_17 rfl ?_
    refine wp_iload_n d_S_apartPairs_18 rfl ?_
    refine wp_callS2e d_S_apartPairs_19 cs_S_25 ⟨Nat.le_of_ble_eq_true rfl, Nat.le_of_ble_eq_true rfl⟩ (Nat.le_of_ble_eq_true rfl) (Nat.le_of_ble_eq_true rfl) (c_G_pair _ _ _) ?_
    refine wp_lshl d_S_apartPairs_22 ?_
    refine wp_lor d_S_apartPairs_23 ?_
    refine wp_lstore1 d_S_apartPairs_24 (by decide) rfl ?_
    refine wp_iinc3 d_S_apartPairs_25 (hn_ii1 _) (by decide) rfl ?_
    refine wp_goto (tgt := 4) d_S_apartPairs_28 (by decide) ?_
    rw [nI_1]
    exact ih hk2
def joS (h a b : Int32) (i : Nat) (r : Int32) : Int32 := if gF h (nI i) = mxI (gF h a) (gF h b) then uF r (nI i) (mnI (gF h a) (gF h b)) else r
def joF (h a b : Int32) (N : Nat) : Int32 := it (joS h a b) N h
theorem c_S_joined (h a b : Int32) {N L : Nat} (σ : Hp) (hI : KI σ N L) : Ct m_S_joined [.ref 35, .int h, .int a, .int b] σ (Rt (.int (joF h a b N)) σ) := by
  obtain ⟨hn, h1, h6, hl, h4⟩ := hI
  show WP m_S_joined 0 [.ref 35, .int h, .int a, .int b, .null, .null, .null, .null] [] σ _
  refine wp_iload_n d_S_joined_0 rfl ?_
  refine wp_iload_n d_S_joined_1 rfl ?_
  refine wp_callS2e d_S_joined_2 cs_S_64 ⟨Nat.le_of_ble_eq_true rfl, Nat.le_of_ble_eq_true rfl⟩ (Nat.le_of_ble_eq_true rfl) (Nat.le_of_ble_eq_true rfl) (c_G_goesTo _ _ _) ?_
  refine wp_iload_n d_S_joined_5 rfl ?_
  refine wp_iload_n d_S_joined_6 rfl ?_
  refine wp_callS2e d_S_joined_7 cs_S_64 ⟨Nat.le_of_ble_eq_true rfl, Nat.le_of_ble_eq_true rfl⟩ (Nat.le_of_ble_eq_true rfl) (Nat.le_of_ble_eq_true rfl) (c_G_goesTo _ _ _) ?_
  refine wp_callS2e d_S_joined_10 cs_S_67 ⟨Nat.le_of_ble_eq_true rfl, Nat.le_of_ble_eq_true rfl⟩ (Nat.le_of_ble_eq_true rfl) (Nat.le_of_ble_eq_true rfl) (c_Jm_min _ _ _) ?_
  refine wp_istore4 d_S_joined_13 (by decide) rfl ?_
  refine wp_iload_n d_S_joined_15 rfl ?_
  refine wp_iload_n d_S_joined_16 rfl ?_
  refine wp_callS2e d_S_joined_17 cs_S_64 ⟨Nat.le_of_ble_eq_true rfl, Nat.le_of_ble_eq_true rfl⟩ (Nat.le_of_ble_eq_true rfl) (Nat.le_of_ble_eq_true rfl) (c_G_goesTo _ _ _) ?_
  refine wp_iload_n d_S_joined_20 rfl ?_
  refine wp_iload_n d_S_joined_21 rfl ?_
  refine wp_callS2e d_S_joined_22 cs_S_64 ⟨Nat.le_of_ble_eq_true rfl, Nat.le_of_ble_eq_true rfl⟩ (Nat.le_of_ble_eq_true rfl) (Nat.le_of_ble_eq_true rfl) (c_G_goesTo _ _ _) ?_
  refine wp_callS2e d_S_joined_25 cs_S_72 ⟨Nat.le_of_ble_eq_true rfl, Nat.le_of_ble_eq_true rfl⟩ (Nat.le_of_ble_eq_true rfl) (Nat.le_of_ble_eq_true rfl) (c_Jm_max _ _ _) ?_
  refine wp_istore5 d_S_joined_28 (by decide) rfl ?_
  refine wp_iload_n d_S_joined_30 rfl ?_
  refine wp_istore6 d_S_joined_31 (by decide) rfl ?_
  refine wp_iconst (v := 0) d_S_joined_33 (by decide) ?_
  refine wp_istore7 d_S_joined_34 (by decide) rfl ?_
  suffices H : ∀ k, k ≤ N → WP m_S_joined 36 [.ref 35, .int h, .int a, .int b, .int (mnI (gF h a) (gF h b)), .int (mxI (gF h a) (gF h b)), .int (it (joS h a b) k h), .int (nI k)] [] σ (Rt (.int (joF h a b N)) σ) from H 0 (Nat.zero_le _)
  refine lp_nat (fun k hk ih => ?_)
  refine wp_iload d_S_joined_36 rfl ?_
  refine wp_aload_n d_S_joined_38 rfl ?_
  refine wp_getA d_S_joined_39 fl_S_7 rfl rfl rfl ?_
  refine wp_getI d_S_joined_42 fl_S_13 rfl rfl (by decide) ?_
  refine wp_icmp_ge (tgt := 76) d_S_joined_45 (by decide) (fun hc => ?_) (fun hc => ?_)
  · rw [hn] at hc
    obtain rfl := Nat.le_antisymm hk (nI_ge2 hc (by omega) (by omega))
    refine wp_iload d_S_joined_76 rfl ?_
    refine wp_iret d_S_joined_78 rfl ?_
    exact ⟨rfl, rfl⟩
  · rw [hn] at hc
    have hk2 := nI_nge hc (by omega) (by omega)
    refine wp_iload_n d_S_joined_48 rfl ?_
    refine wp_iload d_S_joined_49 rfl ?_
    refine wp_callS2e d_S_joined_51 cs_S_64 ⟨Nat.le_of_ble_eq_true rfl, Nat.le_of_ble_eq_true rfl⟩ (Nat.le_of_ble_eq_true rfl) (Nat.le_of_ble_eq_true rfl) (c_G_goesTo _ _ _) ?_
    refine wp_iload d_S_joined_54 rfl ?_
    refine wp_icmp_ne (tgt := 70) d_S_joined_56 (by decide) (fun h2 => ?_) (fun h2 => ?_)
    · have ee : it (joS h a b) k h = it (joS h a b) (k + 1) h := by
        show _ = joS h a b k _
        rw [joS, if_neg h2]
      refine wp_iinc7 d_S_joined_70 (hn_ii1 _) (by decide) rfl ?_
      refine wp_goto (tgt := 36) d_S_joined_73 (by decide) ?_
      rw [nI_1, ee]
      exact ih hk2
    · have ee : uF (it (joS h a b) k h) (nI k) (mnI (gF h a) (gF h b)) = it (joS h a b) (k + 1) h := by
        show _ = joS h a b k _
        rw [joS, if_pos h2]
      refine wp_iload d_S_joined_59 rfl ?_
      refine wp_iload d_S_joined_61 rfl ?_
      refine wp_iload d_S_joined_63 rfl ?_
      refine wp_callS3e d_S_joined_65 cs_S_75 ⟨Nat.le_of_ble_eq_true rfl, Nat.le_of_ble_eq_true rfl⟩ (Nat.le_of_ble_eq_true rfl) (Nat.le_of_ble_eq_true rfl) (c_G_with _ _ _ _) ?_
      refine wp_istore6 d_S_joined_68 (by decide) rfl ?_
      refine wp_iinc7 d_S_joined_70 (hn_ii1 _) (by decide) rfl ?_
      refine wp_goto (tgt := 36) d_S_joined_73 (by decide) ?_
      rw [nI_1, ee]
      exact ih hk2
def jlS (m : Int32) (N i : Nat) (r : Int32) : Int32 := joF r (gF m (nI i)) (gF m (gF r (nI i))) N
def jlF (σ : Hp) (N L : Nat) (h : Int32) : Int32 := it (fun k r => it (jlS (σ.1 2 k) N) N r) L h
theorem c_S_joinedByLetters (h : Int32) {N L : Nat} (σ : Hp) (hI : KI σ N L) : Ct m_S_joinedByLetters [.ref 35, .int h] σ (Rt (.int (jlF σ N L h)) σ) := by
  have h0 := hI
  obtain ⟨hn, h1, h6, hl, h4⟩ := h0
  show WP m_S_joinedByLetters 0 [.ref 35, .int h, .null, .null, .null, .null] [] σ _
  refine wp_iload_n d_S_joinedByLetters_0 rfl ?_
  refine wp_istore2 d_S_joinedByLetters_1 (by decide) rfl ?_
  refine wp_iconst (v := 0) d_S_joinedByLetters_2 (by decide) ?_
  refine wp_istore3 d_S_joinedByLetters_3 (by decide) rfl ?_
  suffices H : ∀ k, k ≤ L → ∀ x4 x5 : Value, x4.category = 1 → WP m_S_joinedByLetters 4 [.ref 35, .int h, .int (it (fun k r => it (jlS (σ.1 2 k) N) N r) k h), .int (nI k), x4, x5] [] σ (Rt (.int (jlF σ N L h)) σ) from H 0 (Nat.zero_le _) _ _ rfl
  refine lp_nat (fun k hk ih x4 x5 hx4 => ?_)
  refine wp_iload_n d_S_joinedByLetters_4 rfl ?_
  refine wp_aload_n d_S_joinedByLetters_5 rfl ?_
  refine wp_getA d_S_joinedByLetters_6 fl_S_7 rfl rfl rfl ?_
  refine wp_getI d_S_joinedByLetters_9 fl_S_35 rfl rfl (by decide) ?_
  refine wp_icmp_ge (tgt := 76) d_S_joinedByLetters_12 (by decide) (fun hc => ?_) (fun hc => ?_)
  · rw [hl] at hc
    obtain rfl := Nat.le_antisymm hk (nI_ge2 hc (by omega) (by omega))
    refine wp_iload_n d_S_joinedByLetters_76 rfl ?_
    refine wp_iret d_S_joinedByLetters_77 rfl ?_
    exact ⟨rfl, rfl⟩
  · rw [hl] at hc
    have hk2 := nI_nge hc (by omega) (by omega)
    refine wp_aload_n d_S_joinedByLetters_15 rfl ?_
    refine wp_getA d_S_joinedByLetters_16 fl_S_7 rfl rfl rfl ?_
    refine wp_iload_n d_S_joinedByLetters_19 rfl ?_
    refine wp_callV1e d_S_joinedByLetters_20 cv_S_38 rfl rfl rfl ⟨Nat.le_of_ble_eq_true rfl, Nat.le_of_ble_eq_true rfl⟩ (Nat.le_of_ble_eq_true rfl) (Nat.le_of_ble_eq_true rfl) (c_L_map _ _) ?_
    rw [rdA_in (by omega) (by decide)]
    refine wp_istore4 d_S_joinedByLetters_23 (by decide) rfl ?_
    refine wp_iconst (v := 0) d_S_joinedByLetters_25 (by decide) ?_
    refine wp_istore5 d_S_joinedByLetters_26 (by decide) rfl ?_
    obtain ⟨r, hr⟩ : ∃ r, r = it (fun k r => it (jlS (σ.1 2 k) N) N r) k h := ⟨_, rfl⟩
    rw [← hr]
    suffices H : ∀ j, j ≤ N → WP m_S_joinedByLetters 28 [.ref 35, .int h, .int (it (jlS (σ.1 2 k) N) j r), .int (nI k), .int (σ.1 2 k), .int (nI j)] [] σ (Rt (.int (jlF σ N L h)) σ) from H 0 (Nat.zero_le _)
    refine lp_nat (fun j hj ih2 => ?_)
    refine wp_iload d_S_joinedByLetters_28 rfl ?_
    refine wp_aload_n d_S_joinedByLetters_30 rfl ?_
    refine wp_getA d_S_joinedByLetters_31 fl_S_7 rfl rfl rfl ?_
    refine wp_getI d_S_joinedByLetters_34 fl_S_13 rfl rfl (by decide) ?_
    refine wp_icmp_ge (tgt := 70) d_S_joinedByLetters_37 (by decide) (fun hc2 => ?_) (fun hc2 => ?_)
    · rw [hn] at hc2
      obtain rfl := Nat.le_antisymm hj (nI_ge2 hc2 (by omega) (by omega))
      refine wp_iinc3 d_S_joinedByLetters_70 (hn_ii1 _) (by decide) rfl ?_
      refine wp_goto (tgt := 4) d_S_joinedByLetters_73 (by decide) ?_
      rw [nI_1, hr]
      exact ih hk2 _ _ rfl
    · rw [hn] at hc2
      have hj2 := nI_nge hc2 (by omega) (by omega)
      refine wp_aload_n d_S_joinedByLetters_40 rfl ?_
      refine wp_iload_n d_S_joinedByLetters_41 rfl ?_
      refine wp_iload d_S_joinedByLetters_42 rfl ?_
      refine wp_iload d_S_joinedByLetters_44 rfl ?_
      refine wp_callS2e d_S_joinedByLetters_46 cs_S_64 ⟨Nat.le_of_ble_eq_true rfl, Nat.le_of_ble_eq_true rfl⟩ (Nat.le_of_ble_eq_true rfl) (Nat.le_of_ble_eq_true rfl) (c_G_goesTo _ _ _) ?_
      refine wp_iload d_S_joinedByLetters_49 rfl ?_
      refine wp_iload_n d_S_joinedByLetters_51 rfl ?_
      refine wp_iload d_S_joinedByLetters_52 rfl ?_
      refine wp_callS2e d_S_joinedByLetters_54 cs_S_64 ⟨Nat.le_of_ble_eq_true rfl, Nat.le_of_ble_eq_true rfl⟩ (Nat.le_of_ble_eq_true rfl) (Nat.le_of_ble_eq_true rfl) (c_G_goesTo _ _ _) ?_
      refine wp_callS2e d_S_joinedByLetters_57 cs_S_64 ⟨Nat.le_of_ble_eq_true rfl, Nat.le_of_ble_eq_true rfl⟩ (Nat.le_of_ble_eq_true rfl) (Nat.le_of_ble_eq_true rfl) (c_G_goesTo _ _ _) ?_
      refine wp_callV3e d_S_joinedByLetters_60 cv_S_57 rfl rfl rfl ⟨Nat.le_of_ble_eq_true rfl, Nat.le_of_ble_eq_true rfl⟩ (Nat.le_of_ble_eq_true rfl) (Nat.le_of_ble_eq_true rfl) (c_S_joined _ _ _ _ hI) ?_
      refine wp_istore2 d_S_joinedByLetters_63 (by decide) rfl ?_
      refine wp_iinc5 d_S_joinedByLetters_64 (hn_ii1 _) (by decide) rfl ?_
      refine wp_goto (tgt := 28) d_S_joinedByLetters_67 (by decide) ?_
      rw [nI_1]
      exact ih2 hj2
def lcF (σ : Hp) (N L : Nat) (a b : Int32) : Int32 := it (fun _ => jlF σ N L) N (joF (noF N) a b N)
theorem c_S_leastCut (a b : Int32) {N L : Nat} (σ : Hp) (hI : KI σ N L) : Ct m_S_leastCut [.ref 35, .int a, .int b] σ (Rt (.int (lcF σ N L a b)) σ) := by
  have h0 := hI
  obtain ⟨hn, h1, h6, hl, h4⟩ := h0
  have hN : N < 2 ^ 31 := by omega
  show WP m_S_leastCut 0 [.ref 35, .int a, .int b, .null, .null] [] σ _
  refine wp_aload_n d_S_leastCut_0 rfl ?_
  refine wp_aload_n d_S_leastCut_1 rfl ?_
  refine wp_getA d_S_leastCut_2 fl_S_7 rfl rfl rfl ?_
  refine wp_getI d_S_leastCut_5 fl_S_13 rfl rfl (by decide) ?_
  rw [hn]
  refine wp_callS1e d_S_leastCut_8 cs_S_54 ⟨Nat.le_of_ble_eq_true rfl, Nat.le_of_ble_eq_true rfl⟩ (Nat.le_of_ble_eq_true rfl) (Nat.le_of_ble_eq_true rfl) (c_G_nothing hN _) ?_
  refine wp_iload_n d_S_leastCut_11 rfl ?_
  refine wp_iload_n d_S_leastCut_12 rfl ?_
  refine wp_callV3e d_S_leastCut_13 cv_S_57 rfl rfl rfl ⟨Nat.le_of_ble_eq_true rfl, Nat.le_of_ble_eq_true rfl⟩ (Nat.le_of_ble_eq_true rfl) (Nat.le_of_ble_eq_true rfl) (c_S_joined _ _ _ _ hI) ?_
  refine wp_istore3 d_S_leastCut_16 (by decide) rfl ?_
  refine wp_iconst (v := 0) d_S_leastCut_17 (by decide) ?_
  refine wp_istore4 d_S_leastCut_18 (by decide) rfl ?_
  suffices H : ∀ k, k ≤ N → WP m_S_leastCut 20 [.ref 35, .int a, .int b, .int (it (fun _ => jlF σ N L) k (joF (noF N) a b N)), .int (nI k)] [] σ (Rt (.int (lcF σ N L a b)) σ) from H 0 (Nat.zero_le _)
  refine lp_nat (fun k hk ih => ?_)
  refine wp_iload d_S_leastCut_20 rfl ?_
  refine wp_aload_n d_S_leastCut_22 rfl ?_
  refine wp_getA d_S_leastCut_23 fl_S_7 rfl rfl rfl ?_
  refine wp_getI d_S_leastCut_26 fl_S_13 rfl rfl (by decide) ?_
  refine wp_icmp_ge (tgt := 44) d_S_leastCut_29 (by decide) (fun hc => ?_) (fun hc => ?_)
  · rw [hn] at hc
    obtain rfl := Nat.le_antisymm hk (nI_ge2 hc (by omega) (by omega))
    refine wp_iload_n d_S_leastCut_44 rfl ?_
    refine wp_iret d_S_leastCut_45 rfl ?_
    exact ⟨rfl, rfl⟩
  · rw [hn] at hc
    have hk2 := nI_nge hc (by omega) (by omega)
    refine wp_aload_n d_S_leastCut_32 rfl ?_
    refine wp_iload_n d_S_leastCut_33 rfl ?_
    refine wp_callV1e d_S_leastCut_34 cv_S_61 rfl rfl rfl ⟨Nat.le_of_ble_eq_true rfl, Nat.le_of_ble_eq_true rfl⟩ (Nat.le_of_ble_eq_true rfl) (Nat.le_of_ble_eq_true rfl) (c_S_joinedByLetters _ _ hI) ?_
    refine wp_istore3 d_S_leastCut_37 (by decide) rfl ?_
    refine wp_iinc4 d_S_leastCut_38 (hn_ii1 _) (by decide) rfl ?_
    refine wp_goto (tgt := 20) d_S_leastCut_41 (by decide) ?_
    rw [nI_1]
    exact ih hk2
def chF (N : Nat) : Nat := it (fun i p => p * (i + 2)) (N - 1) 1
theorem c_S_choices {N L : Nat} (σ : Hp) (hI : KI σ N L) : Ct m_S_choices [.ref 35] σ (Rt (.int (nI (chF N))) σ) := by
  obtain ⟨hn, h1, h6, hl, h4⟩ := hI
  show WP m_S_choices 0 [.ref 35, .null, .null] [] σ _
  refine wp_iconst (v := 1) d_S_choices_0 (by decide) ?_
  refine wp_istore1 d_S_choices_1 (by decide) rfl ?_
  refine wp_iconst (v := 1) d_S_choices_2 (by decide) ?_
  refine wp_istore2 d_S_choices_3 (by decide) rfl ?_
  suffices H : ∀ k, k ≤ N - 1 → WP m_S_choices 4 [.ref 35, .int (nI (it (fun i p => p * (i + 2)) k 1)), .int (nI (k + 1))] [] σ (Rt (.int (nI (chF N))) σ) from H 0 (Nat.zero_le _)
  refine lp_nat (fun k hk ih => ?_)
  refine wp_iload_n d_S_choices_4 rfl ?_
  refine wp_aload_n d_S_choices_5 rfl ?_
  refine wp_getA d_S_choices_6 fl_S_7 rfl rfl rfl ?_
  refine wp_getI d_S_choices_9 fl_S_13 rfl rfl (by decide) ?_
  refine wp_icmp_ge (tgt := 27) d_S_choices_12 (by decide) (fun hc => ?_) (fun hc => ?_)
  · rw [hn] at hc
    have := nI_ge2 hc (by omega) (by omega)
    obtain rfl : k = N - 1 := by omega
    refine wp_iload_n d_S_choices_27 rfl ?_
    refine wp_iret d_S_choices_28 rfl ?_
    exact ⟨rfl, rfl⟩
  · rw [hn] at hc
    have hk2 := nI_nge hc (by omega) (by omega)
    refine wp_iload_n d_S_choices_15 rfl ?_
    refine wp_iload_n d_S_choices_16 rfl ?_
    refine wp_iconst (v := 1) d_S_choices_17 (by decide) ?_
    refine wp_iadd d_S_choices_18 ?_
    refine wp_imul d_S_choices_19 ?_
    refine wp_istore1 d_S_choices_20 (by decide) rfl ?_
    refine wp_iinc2 d_S_choices_21 (hn_ii1 _) (by decide) rfl ?_
    refine wp_goto (tgt := 4) d_S_choices_24 (by decide) ?_
    rw [nI_1, pk_mul]
    exact ih (by omega)
theorem chF_le : ∀ N, N ≤ 6 → chF N ≤ 720 := by decide
def chS (i : Nat) (q : Int32 × Nat) : Int32 × Nat := (uF q.1 (nI i) (nI (q.2 % (i + 1))), q.2 / (i + 1))
theorem chS_le (f : Nat → Int32 × Nat → Int32 × Nat) (hf : ∀ i q, (f i q).2 = q.2 / (i + 1)) (q : Int32 × Nat) : ∀ k, (it f k q).2 ≤ q.2
  | 0 => Nat.le_refl _
  | k + 1 => by
    show (f k (it f k q)).2 ≤ _
    rw [hf]
    exact Nat.le_trans (Nat.div_le_self _ _) (chS_le f hf q k)
def hpF (N c : Nat) : Int32 := (it chS N (0, c)).1
theorem c_S_chosenHeaps {c N L : Nat} (hc0 : c < 2 ^ 31) (σ : Hp) (hI : KI σ N L) : Ct m_S_chosenHeaps [.ref 35, .int (nI c)] σ (Rt (.int (hpF N c)) σ) := by
  obtain ⟨hn, h1, h6, hl, h4⟩ := hI
  show WP m_S_chosenHeaps 0 [.ref 35, .int (nI c), .null, .null, .null] [] σ _
  refine wp_iconst (v := 0) d_S_chosenHeaps_0 (by decide) ?_
  refine wp_istore2 d_S_chosenHeaps_1 (by decide) rfl ?_
  refine wp_iload_n d_S_chosenHeaps_2 rfl ?_
  refine wp_istore3 d_S_chosenHeaps_3 (by decide) rfl ?_
  refine wp_iconst (v := 0) d_S_chosenHeaps_4 (by decide) ?_
  refine wp_istore4 d_S_chosenHeaps_5 (by decide) rfl ?_
  suffices H : ∀ k, k ≤ N → WP m_S_chosenHeaps 7 [.ref 35, .int (nI c), .int (it chS k (0, c)).1, .int (nI (it chS k (0, c)).2), .int (nI k)] [] σ (Rt (.int (hpF N c)) σ) from H 0 (Nat.zero_le _)
  refine lp_nat (fun k hk ih => ?_)
  refine wp_iload d_S_chosenHeaps_7 rfl ?_
  refine wp_aload_n d_S_chosenHeaps_9 rfl ?_
  refine wp_getA d_S_chosenHeaps_10 fl_S_7 rfl rfl rfl ?_
  refine wp_getI d_S_chosenHeaps_13 fl_S_13 rfl rfl (by decide) ?_
  refine wp_icmp_ge (tgt := 45) d_S_chosenHeaps_16 (by decide) (fun hc => ?_) (fun hc => ?_)
  · rw [hn] at hc
    obtain rfl := Nat.le_antisymm hk (nI_ge2 hc (by omega) (by omega))
    refine wp_iload_n d_S_chosenHeaps_45 rfl ?_
    refine wp_iret d_S_chosenHeaps_46 rfl ?_
    exact ⟨rfl, rfl⟩
  · rw [hn] at hc
    have hk2 := nI_nge hc (by omega) (by omega)
    have hle := chS_le chS (fun _ _ => rfl) (0, c) k
    have hlt : (it chS k (0, c)).2 < 2 ^ 31 := Nat.lt_of_le_of_lt hle hc0
    refine wp_iload_n d_S_chosenHeaps_19 rfl ?_
    refine wp_iload d_S_chosenHeaps_20 rfl ?_
    refine wp_iload_n d_S_chosenHeaps_22 rfl ?_
    refine wp_iload d_S_chosenHeaps_23 rfl ?_
    refine wp_iconst (v := 1) d_S_chosenHeaps_25 (by decide) ?_
    refine wp_iadd d_S_chosenHeaps_26 ?_
    rw [nI_1]
    refine wp_irem d_S_chosenHeaps_27 (nI_ne0 (by omega) (by omega)) ?_
    rw [pk_rem hlt (by omega) (by omega)]
    refine wp_callS3e d_S_chosenHeaps_28 cs_S_75 ⟨Nat.le_of_ble_eq_true rfl, Nat.le_of_ble_eq_true rfl⟩ (Nat.le_of_ble_eq_true rfl) (Nat.le_of_ble_eq_true rfl) (c_G_with _ _ _ _) ?_
    refine wp_istore2 d_S_chosenHeaps_31 (by decide) rfl ?_
    refine wp_iload_n d_S_chosenHeaps_32 rfl ?_
    refine wp_iload d_S_chosenHeaps_33 rfl ?_
    refine wp_iconst (v := 1) d_S_chosenHeaps_35 (by decide) ?_
    refine wp_iadd d_S_chosenHeaps_36 ?_
    rw [nI_1]
    refine wp_idiv d_S_chosenHeaps_37 (nI_ne0 (by omega) (by omega)) ?_
    rw [pk_div hlt (by omega) (by omega)]
    refine wp_istore3 d_S_chosenHeaps_38 (by decide) rfl ?_
    refine wp_iinc4 d_S_chosenHeaps_39 (hn_ii1 _) (by decide) rfl ?_
    refine wp_goto (tgt := 7) d_S_chosenHeaps_42 (by decide) ?_
    rw [nI_1]
    exact ih hk2
def twS (i : Nat) (q : Int32 × Nat) : Int32 × Nat := (uF (uF q.1 (nI i) (gF q.1 (nI (q.2 % (i + 1))))) (nI (q.2 % (i + 1))) (nI i), q.2 / (i + 1))
def twF (N c : Nat) : Int32 := (it twS N (0, c)).1
theorem c_S_chosenTwist {c N L : Nat} (hc0 : c < 2 ^ 31) (σ : Hp) (hI : KI σ N L) : Ct m_S_chosenTwist [.ref 35, .int (nI c)] σ (Rt (.int (twF N c)) σ) := by
  obtain ⟨hn, h1, h6, hl, h4⟩ := hI
  show WP m_S_chosenTwist 0 [.ref 35, .int (nI c), .null, .null, .null, .null] [] σ _
  refine wp_iconst (v := 0) d_S_chosenTwist_0 (by decide) ?_
  refine wp_istore2 d_S_chosenTwist_1 (by decide) rfl ?_
  refine wp_iload_n d_S_chosenTwist_2 rfl ?_
  refine wp_istore3 d_S_chosenTwist_3 (by decide) rfl ?_
  refine wp_iconst (v := 0) d_S_chosenTwist_4 (by decide) ?_
  refine wp_istore4 d_S_chosenTwist_5 (by decide) rfl ?_
  suffices H : ∀ k, k ≤ N → ∀ x5 : Value, WP m_S_chosenTwist 7 [.ref 35, .int (nI c), .int (it twS k (0, c)).1, .int (nI (it twS k (0, c)).2), .int (nI k), x5] [] σ (Rt (.int (twF N c)) σ) from H 0 (Nat.zero_le _) _
  refine lp_nat (fun k hk ih x5 => ?_)
  refine wp_iload d_S_chosenTwist_7 rfl ?_
  refine wp_aload_n d_S_chosenTwist_9 rfl ?_
  refine wp_getA d_S_chosenTwist_10 fl_S_7 rfl rfl rfl ?_
  refine wp_getI d_S_chosenTwist_13 fl_S_13 rfl rfl (by decide) ?_
  refine wp_icmp_ge (tgt := 62) d_S_chosenTwist_16 (by decide) (fun hc => ?_) (fun hc => ?_)
  · rw [hn] at hc
    obtain rfl := Nat.le_antisymm hk (nI_ge2 hc (by omega) (by omega))
    refine wp_iload_n d_S_chosenTwist_62 rfl ?_
    refine wp_iret d_S_chosenTwist_63 rfl ?_
    exact ⟨rfl, rfl⟩
  · rw [hn] at hc
    have hk2 := nI_nge hc (by omega) (by omega)
    have hle := chS_le twS (fun _ _ => rfl) (0, c) k
    have hlt : (it twS k (0, c)).2 < 2 ^ 31 := Nat.lt_of_le_of_lt hle hc0
    refine wp_iload_n d_S_chosenTwist_19 rfl ?_
    refine wp_iload d_S_chosenTwist_20 rfl ?_
    refine wp_iconst (v := 1) d_S_chosenTwist_22 (by decide) ?_
    refine wp_iadd d_S_chosenTwist_23 ?_
    rw [nI_1]
    refine wp_irem d_S_chosenTwist_24 (nI_ne0 (by omega) (by omega)) ?_
    rw [pk_rem hlt (by omega) (by omega)]
    refine wp_istore5 d_S_chosenTwist_25 (by decide) rfl ?_
    refine wp_iload_n d_S_chosenTwist_27 rfl ?_
    refine wp_iload d_S_chosenTwist_28 rfl ?_
    refine wp_iload_n d_S_chosenTwist_30 rfl ?_
    refine wp_iload d_S_chosenTwist_31 rfl ?_
    refine wp_callS2e d_S_chosenTwist_33 cs_S_64 ⟨Nat.le_of_ble_eq_true rfl, Nat.le_of_ble_eq_true rfl⟩ (Nat.le_of_ble_eq_true rfl) (Nat.le_of_ble_eq_true rfl) (c_G_goesTo _ _ _) ?_
    refine wp_callS3e d_S_chosenTwist_36 cs_S_75 ⟨Nat.le_of_ble_eq_true rfl, Nat.le_of_ble_eq_true rfl⟩ (Nat.le_of_ble_eq_true rfl) (Nat.le_of_ble_eq_true rfl) (c_G_with _ _ _ _) ?_
    refine wp_istore2 d_S_chosenTwist_39 (by decide) rfl ?_
    refine wp_iload_n d_S_chosenTwist_40 rfl ?_
    refine wp_iload d_S_chosenTwist_41 rfl ?_
    refine wp_iload d_S_chosenTwist_43 rfl ?_
    refine wp_callS3e d_S_chosenTwist_45 cs_S_75 ⟨Nat.le_of_ble_eq_true rfl, Nat.le_of_ble_eq_true rfl⟩ (Nat.le_of_ble_eq_true rfl) (Nat.le_of_ble_eq_true rfl) (c_G_with _ _ _ _) ?_
    refine wp_istore2 d_S_chosenTwist_48 (by decide) rfl ?_
    refine wp_iload_n d_S_chosenTwist_49 rfl ?_
    refine wp_iload d_S_chosenTwist_50 rfl ?_
    refine wp_iconst (v := 1) d_S_chosenTwist_52 (by decide) ?_
    refine wp_iadd d_S_chosenTwist_53 ?_
    rw [nI_1]
    refine wp_idiv d_S_chosenTwist_54 (nI_ne0 (by omega) (by omega)) ?_
    rw [pk_div hlt (by omega) (by omega)]
    refine wp_istore3 d_S_chosenTwist_55 (by decide) rfl ?_
    refine wp_iinc4 d_S_chosenTwist_56 (hn_ii1 _) (by decide) rfl ?_
    refine wp_goto (tgt := 7) d_S_chosenTwist_59 (by decide) ?_
    rw [nI_1]
    exact ih hk2 _
def lkP (σ : Hp) (N L : Nat) (h : Int32) : Prop := ∀ k, k < L → ahF h (ahF (σ.1 2 k) h N) N = ahF (σ.1 2 k) h N
def lkB (σ : Hp) (N L : Nat) (h : Int32) : Bool := (List.range L).all (fun k => decide (ahF h (ahF (σ.1 2 k) h N) N = ahF (σ.1 2 k) h N))
theorem lkB_iff {σ : Hp} {N L : Nat} {h : Int32} : lkB σ N L h = true ↔ ∀ k, k < L → ahF h (ahF (σ.1 2 k) h N) N = ahF (σ.1 2 k) h N := by
  rw [lkB, List.all_eq_true]
  constructor
  · intro q k hk
    exact of_decide_eq_true (q k (List.mem_range.mpr hk))
  · intro q k hk
    exact decide_eq_true (q k (List.mem_range.mp hk))
theorem c_S_lettersKeep (h : Int32) {N L : Nat} (σ : Hp) (hI : KI σ N L) : Ct m_S_lettersKeep [.ref 35, .int h] σ (Rt (.int (bz (lkB σ N L h = true))) σ) := by
  obtain ⟨hn, h1, h6, hl, h4⟩ := hI
  have hN : N < 2 ^ 31 := by omega
  show WP m_S_lettersKeep 0 [.ref 35, .int h, .null, .null] [] σ _
  refine wp_iconst (v := 0) d_S_lettersKeep_0 (by decide) ?_
  refine wp_istore2 d_S_lettersKeep_1 (by decide) rfl ?_
  suffices H : ∀ k, k ≤ L → (∀ j, j < k → ahF h (ahF (σ.1 2 j) h N) N = ahF (σ.1 2 j) h N) → ∀ x3 : Value, WP m_S_lettersKeep 2 [.ref 35, .int h, .int (nI k), x3] [] σ (Rt (.int (bz (lkB σ N L h = true))) σ) from H 0 (Nat.zero_le _) (fun j hj => absurd hj (by omega)) _
  refine lp_nat (fun k hk ih hp x3 => ?_)
  refine wp_iload_n d_S_lettersKeep_2 rfl ?_
  refine wp_aload_n d_S_lettersKeep_3 rfl ?_
  refine wp_getA d_S_lettersKeep_4 fl_S_7 rfl rfl rfl ?_
  refine wp_getI d_S_lettersKeep_7 fl_S_35 rfl rfl (by decide) ?_
  refine wp_icmp_ge (tgt := 57) d_S_lettersKeep_10 (by decide) (fun hc => ?_) (fun hc => ?_)
  · rw [hl] at hc
    obtain rfl := Nat.le_antisymm hk (nI_ge2 hc (by omega) (by omega))
    rw [bz_t (lkB_iff.mpr hp)]
    refine wp_iconst (v := 1) d_S_lettersKeep_57 (by decide) ?_
    refine wp_zret d_S_lettersKeep_58 rfl ?_ ?_
    · decide
    · exact ⟨rfl, rfl⟩
  · rw [hl] at hc
    have hk2 := nI_nge hc (by omega) (by omega)
    refine wp_aload_n d_S_lettersKeep_13 rfl ?_
    refine wp_getA d_S_lettersKeep_14 fl_S_7 rfl rfl rfl ?_
    refine wp_iload_n d_S_lettersKeep_17 rfl ?_
    refine wp_callV1e d_S_lettersKeep_18 cv_S_38 rfl rfl rfl ⟨Nat.le_of_ble_eq_true rfl, Nat.le_of_ble_eq_true rfl⟩ (Nat.le_of_ble_eq_true rfl) (Nat.le_of_ble_eq_true rfl) (c_L_map _ _) ?_
    rw [rdA_in (by omega) (by decide)]
    refine wp_iload_n d_S_lettersKeep_21 rfl ?_
    refine wp_aload_n d_S_lettersKeep_22 rfl ?_
    refine wp_getA d_S_lettersKeep_23 fl_S_7 rfl rfl rfl ?_
    refine wp_getI d_S_lettersKeep_26 fl_S_13 rfl rfl (by decide) ?_
    rw [hn]
    refine wp_callS3e d_S_lettersKeep_29 cs_S_99 ⟨Nat.le_of_ble_eq_true rfl, Nat.le_of_ble_eq_true rfl⟩ (Nat.le_of_ble_eq_true rfl) (Nat.le_of_ble_eq_true rfl) (c_G_ahead _ _ hN _) ?_
    refine wp_istore3 d_S_lettersKeep_32 (by decide) rfl ?_
    refine wp_iload_n d_S_lettersKeep_33 rfl ?_
    refine wp_iload_n d_S_lettersKeep_34 rfl ?_
    refine wp_aload_n d_S_lettersKeep_35 rfl ?_
    refine wp_getA d_S_lettersKeep_36 fl_S_7 rfl rfl rfl ?_
    refine wp_getI d_S_lettersKeep_39 fl_S_13 rfl rfl (by decide) ?_
    rw [hn]
    refine wp_callS3e d_S_lettersKeep_42 cs_S_99 ⟨Nat.le_of_ble_eq_true rfl, Nat.le_of_ble_eq_true rfl⟩ (Nat.le_of_ble_eq_true rfl) (Nat.le_of_ble_eq_true rfl) (c_G_ahead _ _ hN _) ?_
    refine wp_iload_n d_S_lettersKeep_45 rfl ?_
    refine wp_icmp_eq (tgt := 51) d_S_lettersKeep_46 (by decide) (fun h2 => ?_) (fun h2 => ?_)
    · refine wp_iinc2 d_S_lettersKeep_51 (hn_ii1 _) (by decide) rfl ?_
      refine wp_goto (tgt := 2) d_S_lettersKeep_54 (by decide) ?_
      rw [nI_1]
      exact ih hk2 (lt_s hp h2) _
    · rw [bz_f (fun q => h2 (lkB_iff.mp q k hk2))]
      refine wp_iconst (v := 0) d_S_lettersKeep_49 (by decide) ?_
      refine wp_zret d_S_lettersKeep_50 rfl ?_ ?_
      · decide
      · exact ⟨rfl, rfl⟩
def ctP (σ : Hp) (N L c : Nat) : Bool := decide (ahF (hpF N c) (hpF N c) N = hpF N c) && lkB σ N L (hpF N c)
theorem c_S_allCuts {N L : Nat} (σ : Hp) (hI : KI σ N L) : Ct m_S_allCuts [.ref 35] σ (Rt (.int (it (fun c r => r + bz (ctP σ N L c = true)) (chF N) 0)) σ) := by
  have h0 := hI
  obtain ⟨hn, h1, h6, hl, h4⟩ := h0
  have hN : N < 2 ^ 31 := by omega
  have hch := chF_le N h6
  show WP m_S_allCuts 0 [.ref 35, .null, .null, .null, .null] [] σ _
  refine wp_aload_n d_S_allCuts_0 rfl ?_
  refine wp_callV0e d_S_allCuts_1 cv_S_78 rfl rfl rfl ⟨Nat.le_of_ble_eq_true rfl, Nat.le_of_ble_eq_true rfl⟩ (Nat.le_of_ble_eq_true rfl) (Nat.le_of_ble_eq_true rfl) (c_S_choices _ hI) ?_
  refine wp_istore1 d_S_allCuts_4 (by decide) rfl ?_
  refine wp_iconst (v := 0) d_S_allCuts_5 (by decide) ?_
  refine wp_istore2 d_S_allCuts_6 (by decide) rfl ?_
  refine wp_iconst (v := 0) d_S_allCuts_7 (by decide) ?_
  refine wp_istore3 d_S_allCuts_8 (by decide) rfl ?_
  suffices H : ∀ k, k ≤ chF N → ∀ x4 : Value, WP m_S_allCuts 9 [.ref 35, .int (nI (chF N)), .int (it (fun c r => r + bz (ctP σ N L c = true)) k 0), .int (nI k), x4] [] σ (Rt (.int (it (fun c r => r + bz (ctP σ N L c = true)) (chF N) 0)) σ) from H 0 (Nat.zero_le _) _
  refine lp_nat (fun k hk ih x4 => ?_)
  refine wp_iload_n d_S_allCuts_9 rfl ?_
  refine wp_iload_n d_S_allCuts_10 rfl ?_
  refine wp_icmp_ge (tgt := 62) d_S_allCuts_11 (by decide) (fun hc => ?_) (fun hc => ?_)
  · have := nI_ge2 hc (by omega) (by omega)
    obtain rfl : k = chF N := by omega
    refine wp_iload_n d_S_allCuts_62 rfl ?_
    refine wp_iret d_S_allCuts_63 rfl ?_
    exact ⟨rfl, rfl⟩
  · have hk2 := nI_nge hc (by omega) (by omega)
    refine wp_aload_n d_S_allCuts_14 rfl ?_
    refine wp_iload_n d_S_allCuts_15 rfl ?_
    refine wp_callV1e d_S_allCuts_16 cv_S_82 rfl rfl rfl ⟨Nat.le_of_ble_eq_true rfl, Nat.le_of_ble_eq_true rfl⟩ (Nat.le_of_ble_eq_true rfl) (Nat.le_of_ble_eq_true rfl) (c_S_chosenHeaps (by omega) _ hI) ?_
    refine wp_istore4 d_S_allCuts_19 (by decide) rfl ?_
    refine wp_iload_n d_S_allCuts_21 rfl ?_
    refine wp_iload d_S_allCuts_22 rfl ?_
    refine wp_aload_n d_S_allCuts_24 rfl ?_
    refine wp_getA d_S_allCuts_25 fl_S_7 rfl rfl rfl ?_
    refine wp_getI d_S_allCuts_28 fl_S_13 rfl rfl (by decide) ?_
    rw [hn]
    refine wp_callS2e d_S_allCuts_31 cs_S_85 ⟨Nat.le_of_ble_eq_true rfl, Nat.le_of_ble_eq_true rfl⟩ (Nat.le_of_ble_eq_true rfl) (Nat.le_of_ble_eq_true rfl) (c_G_isStill _ hN _) ?_
    have fin : ∀ z : Int32, z = bz (ctP σ N L k = true) → WP m_S_allCuts 51 [.ref 35, .int (nI (chF N)), .int (it (fun c r => r + bz (ctP σ N L c = true)) k 0), .int (nI k), .int (hpF N k)] [.int z, .int (it (fun c r => r + bz (ctP σ N L c = true)) k 0)] σ (Rt (.int (it (fun c r => r + bz (ctP σ N L c = true)) (chF N) 0)) σ) := by
      intro z hz
      subst hz
      refine wp_callSN1e d_S_allCuts_51 csn_S_93 ⟨Nat.le_of_ble_eq_true rfl, Nat.le_of_ble_eq_true rfl⟩ (Nat.le_of_ble_eq_true rfl) (Nat.le_of_ble_eq_true rfl) (c_P_oneIf _ _) ?_
      refine wp_iadd d_S_allCuts_54 ?_
      refine wp_istore2 d_S_allCuts_55 (by decide) rfl ?_
      refine wp_iinc3 d_S_allCuts_56 (hn_ii1 _) (by decide) rfl ?_
      refine wp_goto (tgt := 9) d_S_allCuts_59 (by decide) ?_
      rw [nI_1]
      exact ih hk2 _
    refine wp_if_eq (tgt := 50) d_S_allCuts_34 (by decide) (fun h2 => ?_) (fun h2 => ?_)
    · rw [bz_0] at h2
      refine wp_iconst (v := 0) d_S_allCuts_50 (by decide) ?_
      refine fin 0 (bz_f ?_).symm
      rw [ctP, decide_eq_false h2, Bool.false_and]
      decide
    · have h3 := Decidable.of_not_not (fun q => h2 (bz_0.mpr q))
      refine wp_aload_n d_S_allCuts_37 rfl ?_
      refine wp_iload d_S_allCuts_38 rfl ?_
      refine wp_callV1e d_S_allCuts_40 cv_S_89 rfl rfl rfl ⟨Nat.le_of_ble_eq_true rfl, Nat.le_of_ble_eq_true rfl⟩ (Nat.le_of_ble_eq_true rfl) (Nat.le_of_ble_eq_true rfl) (c_S_lettersKeep _ _ hI) ?_
      refine wp_if_eq (tgt := 50) d_S_allCuts_43 (by decide) (fun h5 => ?_) (fun h5 => ?_)
      · rw [bz_0] at h5
        refine wp_iconst (v := 0) d_S_allCuts_50 (by decide) ?_
        refine fin 0 (bz_f ?_).symm
        rw [ctP, decide_eq_true h3, Bool.true_and]
        exact h5
      · have h6 := Decidable.of_not_not (fun q => h5 (bz_0.mpr q))
        refine wp_iconst (v := 1) d_S_allCuts_46 (by decide) ?_
        refine wp_goto (tgt := 51) d_S_allCuts_47 (by decide) ?_
        refine fin 1 (bz_t ?_).symm
        rw [ctP, decide_eq_true h3, Bool.true_and]
        exact h6
theorem c_S_allTwists {N L : Nat} (σ : Hp) (hI : KI σ N L) : Ct m_S_allTwists [.ref 35] σ (Rt (.int (it (fun c r => r + bz (∀ k, k < L → ahF (twF N c) (σ.1 2 k) N = ahF (σ.1 2 k) (twF N c) N)) (chF N) 0)) σ) := by
  have h0 := hI
  obtain ⟨hn, h1, h6, hl, h4⟩ := h0
  have hch := chF_le N h6
  show WP m_S_allTwists 0 [.ref 35, .null, .null, .null] [] σ _
  refine wp_aload_n d_S_allTwists_0 rfl ?_
  refine wp_callV0e d_S_allTwists_1 cv_S_78 rfl rfl rfl ⟨Nat.le_of_ble_eq_true rfl, Nat.le_of_ble_eq_true rfl⟩ (Nat.le_of_ble_eq_true rfl) (Nat.le_of_ble_eq_true rfl) (c_S_choices _ hI) ?_
  refine wp_istore1 d_S_allTwists_4 (by decide) rfl ?_
  refine wp_iconst (v := 0) d_S_allTwists_5 (by decide) ?_
  refine wp_istore2 d_S_allTwists_6 (by decide) rfl ?_
  refine wp_iconst (v := 0) d_S_allTwists_7 (by decide) ?_
  refine wp_istore3 d_S_allTwists_8 (by decide) rfl ?_
  suffices H : ∀ k, k ≤ chF N → WP m_S_allTwists 9 [.ref 35, .int (nI (chF N)), .int (it (fun c r => r + bz (∀ k, k < L → ahF (twF N c) (σ.1 2 k) N = ahF (σ.1 2 k) (twF N c) N)) k 0), .int (nI k)] [] σ (Rt (.int (it (fun c r => r + bz (∀ k, k < L → ahF (twF N c) (σ.1 2 k) N = ahF (σ.1 2 k) (twF N c) N)) (chF N) 0)) σ) from H 0 (Nat.zero_le _)
  refine lp_nat (fun k hk ih => ?_)
  refine wp_iload_n d_S_allTwists_9 rfl ?_
  refine wp_iload_n d_S_allTwists_10 rfl ?_
  refine wp_icmp_ge (tgt := 38) d_S_allTwists_11 (by decide) (fun hc => ?_) (fun hc => ?_)
  · have := nI_ge2 hc (by omega) (by omega)
    obtain rfl : k = chF N := by omega
    refine wp_iload_n d_S_allTwists_38 rfl ?_
    refine wp_iret d_S_allTwists_39 rfl ?_
    exact ⟨rfl, rfl⟩
  · have hk2 := nI_nge hc (by omega) (by omega)
    refine wp_iload_n d_S_allTwists_14 rfl ?_
    refine wp_aload_n d_S_allTwists_15 rfl ?_
    refine wp_getA d_S_allTwists_16 fl_S_7 rfl rfl rfl ?_
    refine wp_aload_n d_S_allTwists_19 rfl ?_
    refine wp_iload_n d_S_allTwists_20 rfl ?_
    refine wp_callV1e d_S_allTwists_21 cv_S_102 rfl rfl rfl ⟨Nat.le_of_ble_eq_true rfl, Nat.le_of_ble_eq_true rfl⟩ (Nat.le_of_ble_eq_true rfl) (Nat.le_of_ble_eq_true rfl) (c_S_chosenTwist (by omega) _ hI) ?_
    refine wp_callV1e d_S_allTwists_24 cv_S_105 rfl rfl rfl ⟨Nat.le_of_ble_eq_true rfl, Nat.le_of_ble_eq_true rfl⟩ (Nat.le_of_ble_eq_true rfl) (Nat.le_of_ble_eq_true rfl) (c_L_allCommuteWith _ _ hI) ?_
    refine wp_callSN1e d_S_allTwists_27 csn_S_93 ⟨Nat.le_of_ble_eq_true rfl, Nat.le_of_ble_eq_true rfl⟩ (Nat.le_of_ble_eq_true rfl) (Nat.le_of_ble_eq_true rfl) (c_P_oneIf _ _) ?_
    refine wp_iadd d_S_allTwists_30 ?_
    refine wp_istore2 d_S_allTwists_31 (by decide) rfl ?_
    refine wp_iinc3 d_S_allTwists_32 (hn_ii1 _) (by decide) rfl ?_
    refine wp_goto (tgt := 9) d_S_allTwists_35 (by decide) ?_
    rw [nI_1]
    exact ih hk2
