/-! contracts: maps, each octal digits in an int -/
def gF (m p : Int32) : Int32 := (m >>> ((3 * p) &&& 31)) &&& 7
def uF (m p t : Int32) : Int32 := (m &&& ((7 <<< ((3 * p) &&& 31)) ^^^ (-1))) ||| (t <<< ((3 * p) &&& 31))
theorem c_G_goesTo (m p : Int32) (σ : Hp) : Ct m_G_goesTo [.int m, .int p] σ (Rt (.int (gF m p)) σ) := by
  show WP m_G_goesTo 0 [.int m, .int p] [] σ _
  refine wp_iload_n d_G_goesTo_0 rfl ?_
  refine wp_iconst (v := 3) d_G_goesTo_1 (by decide) ?_
  refine wp_iload_n d_G_goesTo_2 rfl ?_
  refine wp_imul d_G_goesTo_3 ?_
  refine wp_ishr d_G_goesTo_4 ?_
  refine wp_bipush (v := 7) d_G_goesTo_5 (by decide) ?_
  refine wp_iand d_G_goesTo_7 ?_
  refine wp_iret d_G_goesTo_8 rfl ?_
  exact ⟨rfl, rfl⟩
theorem c_G_with (m p t : Int32) (σ : Hp) : Ct m_G_with [.int m, .int p, .int t] σ (Rt (.int (uF m p t)) σ) := by
  show WP m_G_with 0 [.int m, .int p, .int t] [] σ _
  refine wp_iload_n d_G_with_0 rfl ?_
  refine wp_bipush (v := 7) d_G_with_1 (by decide) ?_
  refine wp_iconst (v := 3) d_G_with_3 (by decide) ?_
  refine wp_iload_n d_G_with_4 rfl ?_
  refine wp_imul d_G_with_5 ?_
  refine wp_ishl d_G_with_6 ?_
  refine wp_iconst (v := -1) d_G_with_7 (by decide) ?_
  refine wp_ixor d_G_with_8 ?_
  refine wp_iand d_G_with_9 ?_
  refine wp_iload_n d_G_with_10 rfl ?_
  refine wp_iconst (v := 3) d_G_with_11 (by decide) ?_
  refine wp_iload_n d_G_with_12 rfl ?_
  refine wp_imul d_G_with_13 ?_
  refine wp_ishl d_G_with_14 ?_
  refine wp_ior d_G_with_15 ?_
  refine wp_iret d_G_with_16 rfl ?_
  exact ⟨rfl, rfl⟩
def noF (N : Nat) : Int32 := it (fun k r => uF r (nI k) (nI k)) N 0
theorem c_G_nothing {N : Nat} (hN : N < 2 ^ 31) (σ : Hp) : Ct m_G_nothing [.int (nI N)] σ (Rt (.int (noF N)) σ) := by
  show WP m_G_nothing 0 [.int (nI N), .null, .null] [] σ _
  refine wp_iconst (v := 0) d_G_nothing_0 (by decide) ?_
  refine wp_istore1 d_G_nothing_1 (by decide) rfl ?_
  refine wp_iconst (v := 0) d_G_nothing_2 (by decide) ?_
  refine wp_istore2 d_G_nothing_3 (by decide) rfl ?_
  suffices H : ∀ k, k ≤ N → WP m_G_nothing 4 [.int (nI N), .int (it (fun k r => uF r (nI k) (nI k)) k 0), .int (nI k)] [] σ (Rt (.int (noF N)) σ) from H 0 (Nat.zero_le _)
  refine lp_nat (fun k hk ih => ?_)
  refine wp_iload_n d_G_nothing_4 rfl ?_
  refine wp_iload_n d_G_nothing_5 rfl ?_
  refine wp_icmp_ge (tgt := 22) d_G_nothing_6 (by decide) (fun h1 => ?_) (fun h1 => ?_)
  · obtain rfl := Nat.le_antisymm hk (nI_ge2 h1 (by omega) hN)
    refine wp_iload_n d_G_nothing_22 rfl ?_
    refine wp_iret d_G_nothing_23 rfl ?_
    exact ⟨rfl, rfl⟩
  · have hk2 := nI_nge h1 (by omega) hN
    refine wp_iload_n d_G_nothing_9 rfl ?_
    refine wp_iload_n d_G_nothing_10 rfl ?_
    refine wp_iload_n d_G_nothing_11 rfl ?_
    refine wp_callS3e d_G_nothing_12 cs_G_9 ⟨Nat.le_of_ble_eq_true rfl, Nat.le_of_ble_eq_true rfl⟩ (Nat.le_of_ble_eq_true rfl) (Nat.le_of_ble_eq_true rfl) (c_G_with _ _ _ _) ?_
    refine wp_istore1 d_G_nothing_15 (by decide) rfl ?_
    refine wp_iinc2 d_G_nothing_16 (hn_ii1 _) (by decide) rfl ?_
    refine wp_goto (tgt := 4) d_G_nothing_19 (by decide) ?_
    rw [nI_1]
    exact ih hk2
def ahS (a b : Int32) (k : Nat) (r : Int32) : Int32 := r ||| (gF b (gF a (nI k)) <<< ((3 * nI k) &&& 31))
def ahF (a b : Int32) (N : Nat) : Int32 := it (ahS a b) N 0
theorem c_G_ahead (a b : Int32) {N : Nat} (hN : N < 2 ^ 31) (σ : Hp) : Ct m_G_ahead [.int a, .int b, .int (nI N)] σ (Rt (.int (ahF a b N)) σ) := by
  show WP m_G_ahead 0 [.int a, .int b, .int (nI N), .null, .null] [] σ _
  refine wp_iconst (v := 0) d_G_ahead_0 (by decide) ?_
  refine wp_istore3 d_G_ahead_1 (by decide) rfl ?_
  refine wp_iconst (v := 0) d_G_ahead_2 (by decide) ?_
  refine wp_istore4 d_G_ahead_3 (by decide) rfl ?_
  suffices H : ∀ k, k ≤ N → WP m_G_ahead 5 [.int a, .int b, .int (nI N), .int (it (ahS a b) k 0), .int (nI k)] [] σ (Rt (.int (ahF a b N)) σ) from H 0 (Nat.zero_le _)
  refine lp_nat (fun k hk ih => ?_)
  refine wp_iload d_G_ahead_5 rfl ?_
  refine wp_iload_n d_G_ahead_7 rfl ?_
  refine wp_icmp_ge (tgt := 35) d_G_ahead_8 (by decide) (fun h1 => ?_) (fun h1 => ?_)
  · obtain rfl := Nat.le_antisymm hk (nI_ge2 h1 (by omega) hN)
    refine wp_iload_n d_G_ahead_35 rfl ?_
    refine wp_iret d_G_ahead_36 rfl ?_
    exact ⟨rfl, rfl⟩
  · have hk2 := nI_nge h1 (by omega) hN
    refine wp_iload_n d_G_ahead_11 rfl ?_
    refine wp_iload_n d_G_ahead_12 rfl ?_
    refine wp_iload_n d_G_ahead_13 rfl ?_
    refine wp_iload d_G_ahead_14 rfl ?_
    refine wp_callS2e d_G_ahead_16 cs_G_15 ⟨Nat.le_of_ble_eq_true rfl, Nat.le_of_ble_eq_true rfl⟩ (Nat.le_of_ble_eq_true rfl) (Nat.le_of_ble_eq_true rfl) (c_G_goesTo _ _ _) ?_
    refine wp_callS2e d_G_ahead_19 cs_G_15 ⟨Nat.le_of_ble_eq_true rfl, Nat.le_of_ble_eq_true rfl⟩ (Nat.le_of_ble_eq_true rfl) (Nat.le_of_ble_eq_true rfl) (c_G_goesTo _ _ _) ?_
    refine wp_iconst (v := 3) d_G_ahead_22 (by decide) ?_
    refine wp_iload d_G_ahead_23 rfl ?_
    refine wp_imul d_G_ahead_25 ?_
    refine wp_ishl d_G_ahead_26 ?_
    refine wp_ior d_G_ahead_27 ?_
    refine wp_istore3 d_G_ahead_28 (by decide) rfl ?_
    refine wp_iinc4 d_G_ahead_29 (hn_ii1 _) (by decide) rfl ?_
    refine wp_goto (tgt := 5) d_G_ahead_32 (by decide) ?_
    rw [nI_1]
    exact ih hk2
theorem c_G_commute (a b : Int32) {N : Nat} (hN : N < 2 ^ 31) (σ : Hp) : Ct m_G_commute [.int a, .int b, .int (nI N)] σ (Rt (.int (bz (ahF a b N = ahF b a N))) σ) := by
  show WP m_G_commute 0 [.int a, .int b, .int (nI N)] [] σ _
  refine wp_iload_n d_G_commute_0 rfl ?_
  refine wp_iload_n d_G_commute_1 rfl ?_
  refine wp_iload_n d_G_commute_2 rfl ?_
  refine wp_callS3e d_G_commute_3 cs_G_19 ⟨Nat.le_of_ble_eq_true rfl, Nat.le_of_ble_eq_true rfl⟩ (Nat.le_of_ble_eq_true rfl) (Nat.le_of_ble_eq_true rfl) (c_G_ahead _ _ hN _) ?_
  refine wp_iload_n d_G_commute_6 rfl ?_
  refine wp_iload_n d_G_commute_7 rfl ?_
  refine wp_iload_n d_G_commute_8 rfl ?_
  refine wp_callS3e d_G_commute_9 cs_G_19 ⟨Nat.le_of_ble_eq_true rfl, Nat.le_of_ble_eq_true rfl⟩ (Nat.le_of_ble_eq_true rfl) (Nat.le_of_ble_eq_true rfl) (c_G_ahead _ _ hN _) ?_
  refine wp_icmp_ne (tgt := 19) d_G_commute_12 (by decide) (fun h1 => ?_) (fun h1 => ?_)
  · rw [bz_f h1]
    refine wp_iconst (v := 0) d_G_commute_19 (by decide) ?_
    refine wp_zret d_G_commute_20 rfl ?_ ?_
    · decide
    · exact ⟨rfl, rfl⟩
  · rw [bz_t h1]
    refine wp_iconst (v := 1) d_G_commute_15 (by decide) ?_
    refine wp_goto (tgt := 20) d_G_commute_16 (by decide) ?_
    refine wp_zret d_G_commute_20 rfl ?_ ?_
    · decide
    · exact ⟨rfl, rfl⟩
theorem c_G_isStill (a : Int32) {N : Nat} (hN : N < 2 ^ 31) (σ : Hp) : Ct m_G_isStill [.int a, .int (nI N)] σ (Rt (.int (bz (ahF a a N = a))) σ) := by
  show WP m_G_isStill 0 [.int a, .int (nI N)] [] σ _
  refine wp_iload_n d_G_isStill_0 rfl ?_
  refine wp_iload_n d_G_isStill_1 rfl ?_
  refine wp_iload_n d_G_isStill_2 rfl ?_
  refine wp_callS3e d_G_isStill_3 cs_G_19 ⟨Nat.le_of_ble_eq_true rfl, Nat.le_of_ble_eq_true rfl⟩ (Nat.le_of_ble_eq_true rfl) (Nat.le_of_ble_eq_true rfl) (c_G_ahead _ _ hN _) ?_
  refine wp_iload_n d_G_isStill_6 rfl ?_
  refine wp_icmp_ne (tgt := 14) d_G_isStill_7 (by decide) (fun h1 => ?_) (fun h1 => ?_)
  · rw [bz_f h1]
    refine wp_iconst (v := 0) d_G_isStill_14 (by decide) ?_
    refine wp_zret d_G_isStill_15 rfl ?_ ?_
    · decide
    · exact ⟨rfl, rfl⟩
  · rw [bz_t h1]
    refine wp_iconst (v := 1) d_G_isStill_10 (by decide) ?_
    refine wp_goto (tgt := 15) d_G_isStill_11 (by decide) ?_
    refine wp_zret d_G_isStill_15 rfl ?_ ?_
    · decide
    · exact ⟨rfl, rfl⟩
def tnS (m : Int32) (N j : Nat) (r : Int32) : Int32 := r * nI N + gF m (nI (N - 1 - j))
def tnF (m : Int32) (N : Nat) : Int32 := it (tnS m N) N 0
theorem c_G_toNumber (m : Int32) {N : Nat} (hN : N < 2 ^ 31) (σ : Hp) : Ct m_G_toNumber [.int m, .int (nI N)] σ (Rt (.int (tnF m N)) σ) := by
  show WP m_G_toNumber 0 [.int m, .int (nI N), .null, .null] [] σ _
  refine wp_iconst (v := 0) d_G_toNumber_0 (by decide) ?_
  refine wp_istore2 d_G_toNumber_1 (by decide) rfl ?_
  refine wp_iload_n d_G_toNumber_2 rfl ?_
  refine wp_iconst (v := 1) d_G_toNumber_3 (by decide) ?_
  refine wp_isub d_G_toNumber_4 ?_
  refine wp_istore3 d_G_toNumber_5 (by decide) rfl ?_
  suffices H : ∀ j, j ≤ N → WP m_G_toNumber 6 [.int m, .int (nI N), .int (it (tnS m N) j 0), .int (nI (N - j) - 1)] [] σ (Rt (.int (tnF m N)) σ) from H 0 (Nat.zero_le _)
  refine lp_nat (fun j hj ih => ?_)
  refine wp_iload_n d_G_toNumber_6 rfl ?_
  refine wp_if_lt (tgt := 26) d_G_toNumber_7 (by decide) (fun h1 => ?_) (fun h1 => ?_)
  · have hjN : j = N := by
      rcases Nat.lt_or_ge j N with q | q
      · obtain ⟨d, hd⟩ : ∃ d, N - j = d + 1 := ⟨N - j - 1, by omega⟩
        rw [hd, nI_pred] at h1
        exact absurd h1 (nI_pos (by omega))
      · omega
    subst hjN
    refine wp_iload_n d_G_toNumber_26 rfl ?_
    refine wp_iret d_G_toNumber_27 rfl ?_
    exact ⟨rfl, rfl⟩
  · have hjN : j < N := by
      rcases Nat.lt_or_ge j N with q | q
      · exact q
      · rw [show N - j = 0 by omega] at h1
        exact absurd (by decide) h1
    obtain ⟨d, hd⟩ : ∃ d, N - j = d + 1 := ⟨N - j - 1, by omega⟩
    have hd2 : nI (N - j) - 1 = nI (N - 1 - j) := by rw [hd, nI_pred, show N - 1 - j = d by omega]
    rw [hd2]
    refine wp_iload_n d_G_toNumber_10 rfl ?_
    refine wp_iload_n d_G_toNumber_11 rfl ?_
    refine wp_imul d_G_toNumber_12 ?_
    refine wp_iload_n d_G_toNumber_13 rfl ?_
    refine wp_iload_n d_G_toNumber_14 rfl ?_
    refine wp_callS2e d_G_toNumber_15 cs_G_15 ⟨Nat.le_of_ble_eq_true rfl, Nat.le_of_ble_eq_true rfl⟩ (Nat.le_of_ble_eq_true rfl) (Nat.le_of_ble_eq_true rfl) (c_G_goesTo _ _ _) ?_
    refine wp_iadd d_G_toNumber_18 ?_
    refine wp_istore2 d_G_toNumber_19 (by decide) rfl ?_
    refine wp_iinc3 d_G_toNumber_20 (hn_iim1 _) (by decide) rfl ?_
    refine wp_goto (tgt := 6) d_G_toNumber_23 (by decide) ?_
    have e3 : nI (N - 1 - j) + (-1) = nI (N - (j + 1)) - 1 := by
      rw [show N - 1 - j = N - (j + 1) by omega, Int32.sub_eq_add_neg]
    rw [e3]
    exact ih hjN
def onS (m N k : Nat) (r : Int32) : Int32 := uF r (nI k) (nI (m / N ^ k % N))
def onF (m N : Nat) : Int32 := it (onS m N) N 0
theorem mxI_1 {N : Nat} (h0 : 0 < N) (hN : N < 2 ^ 31) : mxI 1 (nI N) = nI N := by
  unfold mxI
  split
  · rfl
  · rename_i h
    have h2 := (nI_leI hN (by omega : 1 < 2 ^ 31)).mp (k2_le h)
    rw [show N = 1 by omega]; rfl
theorem c_G_ofNumber {m N : Nat} (hm : m < 2 ^ 31) (h0 : 0 < N) (hN : N < 2 ^ 31) (σ : Hp) : Ct m_G_ofNumber [.int (nI m), .int (nI N)] σ (Rt (.int (onF m N)) σ) := by
  show WP m_G_ofNumber 0 [.int (nI m), .int (nI N), .null, .null, .null] [] σ _
  refine wp_iconst (v := 0) d_G_ofNumber_0 (by decide) ?_
  refine wp_istore2 d_G_ofNumber_1 (by decide) rfl ?_
  refine wp_iload_n d_G_ofNumber_2 rfl ?_
  refine wp_istore3 d_G_ofNumber_3 (by decide) rfl ?_
  refine wp_iconst (v := 0) d_G_ofNumber_4 (by decide) ?_
  refine wp_istore4 d_G_ofNumber_5 (by decide) rfl ?_
  suffices H : ∀ k, k ≤ N → WP m_G_ofNumber 7 [.int (nI m), .int (nI N), .int (it (onS m N) k 0), .int (nI (m / N ^ k)), .int (nI k)] [] σ (Rt (.int (onF m N)) σ) by
    have := H 0 (Nat.zero_le _)
    rwa [Nat.pow_zero, Nat.div_one] at this
  refine lp_nat (fun k hk ih => ?_)
  have hq : m / N ^ k < 2 ^ 31 := Nat.lt_of_le_of_lt (Nat.div_le_self _ _) hm
  refine wp_iload d_G_ofNumber_7 rfl ?_
  refine wp_iload_n d_G_ofNumber_9 rfl ?_
  refine wp_icmp_ge (tgt := 45) d_G_ofNumber_10 (by decide) (fun h1 => ?_) (fun h1 => ?_)
  · obtain rfl := Nat.le_antisymm hk (nI_ge2 h1 (by omega) hN)
    refine wp_iload_n d_G_ofNumber_45 rfl ?_
    refine wp_iret d_G_ofNumber_46 rfl ?_
    exact ⟨rfl, rfl⟩
  · have hk2 := nI_nge h1 (by omega) hN
    refine wp_iload_n d_G_ofNumber_13 rfl ?_
    refine wp_iload d_G_ofNumber_14 rfl ?_
    refine wp_iload_n d_G_ofNumber_16 rfl ?_
    refine wp_iconst (v := 1) d_G_ofNumber_17 (by decide) ?_
    refine wp_iload_n d_G_ofNumber_18 rfl ?_
    refine wp_callS2e d_G_ofNumber_19 cs_G_22 ⟨Nat.le_of_ble_eq_true rfl, Nat.le_of_ble_eq_true rfl⟩ (Nat.le_of_ble_eq_true rfl) (Nat.le_of_ble_eq_true rfl) (c_Jm_max _ _ _) ?_
    rw [mxI_1 h0 hN]
    refine wp_callS2e d_G_ofNumber_22 cs_G_27 ⟨Nat.le_of_ble_eq_true rfl, Nat.le_of_ble_eq_true rfl⟩ (Nat.le_of_ble_eq_true rfl) (Nat.le_of_ble_eq_true rfl) (c_Jm_floorMod hq h0 hN _) ?_
    refine wp_callS3e d_G_ofNumber_25 cs_G_9 ⟨Nat.le_of_ble_eq_true rfl, Nat.le_of_ble_eq_true rfl⟩ (Nat.le_of_ble_eq_true rfl) (Nat.le_of_ble_eq_true rfl) (c_G_with _ _ _ _) ?_
    refine wp_istore2 d_G_ofNumber_28 (by decide) rfl ?_
    refine wp_iload_n d_G_ofNumber_29 rfl ?_
    refine wp_iconst (v := 1) d_G_ofNumber_30 (by decide) ?_
    refine wp_iload_n d_G_ofNumber_31 rfl ?_
    refine wp_callS2e d_G_ofNumber_32 cs_G_22 ⟨Nat.le_of_ble_eq_true rfl, Nat.le_of_ble_eq_true rfl⟩ (Nat.le_of_ble_eq_true rfl) (Nat.le_of_ble_eq_true rfl) (c_Jm_max _ _ _) ?_
    rw [mxI_1 h0 hN]
    refine wp_callS2e d_G_ofNumber_35 cs_G_30 ⟨Nat.le_of_ble_eq_true rfl, Nat.le_of_ble_eq_true rfl⟩ (Nat.le_of_ble_eq_true rfl) (Nat.le_of_ble_eq_true rfl) (c_Jm_floorDiv hq h0 hN _) ?_
    refine wp_istore3 d_G_ofNumber_38 (by decide) rfl ?_
    refine wp_iinc4 d_G_ofNumber_39 (hn_ii1 _) (by decide) rfl ?_
    refine wp_goto (tgt := 7) d_G_ofNumber_42 (by decide) ?_
    rw [nI_1, Nat.div_div_eq_div_mul, ← Nat.pow_succ]
    exact ih hk2
def osS (m s : Int32) (k : Nat) (r : Int32) : Int32 := if (s >>> (nI k &&& 31)) &&& 1 = 1 then r ||| (1 <<< (gF m (nI k) &&& 31)) else r
def osF (m s : Int32) : Int32 := it (osS m s) 6 0
theorem c_G_ofSet (m s : Int32) (σ : Hp) : Ct m_G_ofSet [.int m, .int s] σ (Rt (.int (osF m s)) σ) := by
  show WP m_G_ofSet 0 [.int m, .int s, .null, .null] [] σ _
  refine wp_iconst (v := 0) d_G_ofSet_0 (by decide) ?_
  refine wp_istore2 d_G_ofSet_1 (by decide) rfl ?_
  refine wp_iconst (v := 0) d_G_ofSet_2 (by decide) ?_
  refine wp_istore3 d_G_ofSet_3 (by decide) rfl ?_
  suffices H : ∀ k, k ≤ 6 → WP m_G_ofSet 4 [.int m, .int s, .int (it (osS m s) k 0), .int (nI k)] [] σ (Rt (.int (osF m s)) σ) from H 0 (Nat.zero_le _)
  refine lp_nat (fun k hk ih => ?_)
  refine wp_iload_n d_G_ofSet_4 rfl ?_
  refine wp_bipush (v := 6) d_G_ofSet_5 (by decide) ?_
  refine wp_icmp_ge (tgt := 35) d_G_ofSet_7 (by decide) (fun h1 => ?_) (fun h1 => ?_)
  · obtain rfl := Nat.le_antisymm hk (nI_ge2 (b := 6) h1 (by omega) (by omega))
    refine wp_iload_n d_G_ofSet_35 rfl ?_
    refine wp_iret d_G_ofSet_36 rfl ?_
    exact ⟨rfl, rfl⟩
  · have hk2 := nI_nge (b := 6) h1 (by omega) (by omega)
    refine wp_iload_n d_G_ofSet_10 rfl ?_
    refine wp_iload_n d_G_ofSet_11 rfl ?_
    refine wp_ishr d_G_ofSet_12 ?_
    refine wp_iconst (v := 1) d_G_ofSet_13 (by decide) ?_
    refine wp_iand d_G_ofSet_14 ?_
    refine wp_iconst (v := 1) d_G_ofSet_15 (by decide) ?_
    refine wp_icmp_ne (tgt := 29) d_G_ofSet_16 (by decide) (fun h2 => ?_) (fun h2 => ?_)
    · refine wp_iinc3 d_G_ofSet_29 (hn_ii1 _) (by decide) rfl ?_
      refine wp_goto (tgt := 4) d_G_ofSet_32 (by decide) ?_
      have ee : it (osS m s) k 0 = it (osS m s) (k + 1) 0 := by
        show _ = osS m s k _
        rw [osS, if_neg h2]
      rw [nI_1, ee]
      exact ih hk2
    · refine wp_iload_n d_G_ofSet_19 rfl ?_
      refine wp_iconst (v := 1) d_G_ofSet_20 (by decide) ?_
      refine wp_iload_n d_G_ofSet_21 rfl ?_
      refine wp_iload_n d_G_ofSet_22 rfl ?_
      refine wp_callS2e d_G_ofSet_23 cs_G_15 ⟨Nat.le_of_ble_eq_true rfl, Nat.le_of_ble_eq_true rfl⟩ (Nat.le_of_ble_eq_true rfl) (Nat.le_of_ble_eq_true rfl) (c_G_goesTo _ _ _) ?_
      refine wp_ishl d_G_ofSet_26 ?_
      refine wp_ior d_G_ofSet_27 ?_
      refine wp_istore2 d_G_ofSet_28 (by decide) rfl ?_
      refine wp_iinc3 d_G_ofSet_29 (hn_ii1 _) (by decide) rfl ?_
      refine wp_goto (tgt := 4) d_G_ofSet_32 (by decide) ?_
      have ee : it (osS m s) k 0 ||| (1 <<< (gF m (nI k) &&& 31)) = it (osS m s) (k + 1) 0 := by
        show _ = osS m s k _
        rw [osS, if_pos h2]
      rw [nI_1, ee]
      exact ih hk2
def prF (a b : Int32) : Int32 := a * 8 + b
theorem c_G_pair (a b : Int32) (σ : Hp) : Ct m_G_pair [.int a, .int b] σ (Rt (.int (prF a b)) σ) := by
  show WP m_G_pair 0 [.int a, .int b] [] σ _
  refine wp_iload_n d_G_pair_0 rfl ?_
  refine wp_bipush (v := 8) d_G_pair_1 (by decide) ?_
  refine wp_imul d_G_pair_3 ?_
  refine wp_iload_n d_G_pair_4 rfl ?_
  refine wp_iadd d_G_pair_5 ?_
  refine wp_iret d_G_pair_6 rfl ?_
  exact ⟨rfl, rfl⟩
def opF (m q : Int32) : Int32 := prF (gF m (q >>> (3 &&& 31))) (gF m (q &&& 7))
theorem c_G_ofPair (m q : Int32) (σ : Hp) : Ct m_G_ofPair [.int m, .int q] σ (Rt (.int (opF m q)) σ) := by
  show WP m_G_ofPair 0 [.int m, .int q] [] σ _
  refine wp_iload_n d_G_ofPair_0 rfl ?_
  refine wp_iload_n d_G_ofPair_1 rfl ?_
  refine wp_iconst (v := 3) d_G_ofPair_2 (by decide) ?_
  refine wp_ishr d_G_ofPair_3 ?_
  refine wp_callS2e d_G_ofPair_4 cs_G_15 ⟨Nat.le_of_ble_eq_true rfl, Nat.le_of_ble_eq_true rfl⟩ (Nat.le_of_ble_eq_true rfl) (Nat.le_of_ble_eq_true rfl) (c_G_goesTo _ _ _) ?_
  refine wp_iload_n d_G_ofPair_7 rfl ?_
  refine wp_iload_n d_G_ofPair_8 rfl ?_
  refine wp_bipush (v := 7) d_G_ofPair_9 (by decide) ?_
  refine wp_iand d_G_ofPair_11 ?_
  refine wp_callS2e d_G_ofPair_12 cs_G_15 ⟨Nat.le_of_ble_eq_true rfl, Nat.le_of_ble_eq_true rfl⟩ (Nat.le_of_ble_eq_true rfl) (Nat.le_of_ble_eq_true rfl) (c_G_goesTo _ _ _) ?_
  refine wp_callS2e d_G_ofPair_15 cs_G_33 ⟨Nat.le_of_ble_eq_true rfl, Nat.le_of_ble_eq_true rfl⟩ (Nat.le_of_ble_eq_true rfl) (Nat.le_of_ble_eq_true rfl) (c_G_pair _ _ _) ?_
  refine wp_iret d_G_ofPair_18 rfl ?_
  exact ⟨rfl, rfl⟩
