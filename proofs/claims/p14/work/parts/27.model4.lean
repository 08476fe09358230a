/-! contracts: ways back; together, lowest, apart, parting, as the reference has them -/
def waF (Q : BQ) (j : Nat) (i : Int32) : Int32 := if i < 0 then nI (dep Q j) else if i < nI (dep Q j) then nI (ltr Q (bkF Q (dep Q j - 1 - i.toNatClampNeg) j)) else -1
theorem c_M_wayOf {st : Nat → Nat → Nat} {L s B j : Nat} {Q : BQ} (hQ : BI st L s Q) (hB64 : B ≤ 64) (hb : ∀ j, j < Q.length → itm Q j < B) (hj : j < Q.length) (i : Int32) (σ : Hp) (hW : WK σ B Q) : Ct m_M_wayOf [.ref 56, .int (nI (itm Q j)), .int (nI s), .int i] σ (Rt (.int (waF Q j i)) σ) := by
  have hs : s < B := by rw [← hQ.2.1.1]; exact hb 0 hQ.1
  have hlen : Q.length ≤ 64 := Nat.le_trans (hQ.len hb) hB64
  have hd := dep_le hQ j hj
  show WP m_M_wayOf 0 [.ref 56, .int (nI (itm Q j)), .int (nI s), .int i, .null, .null, .null] [] σ _
  refine wp_iconst (v := 0) d_M_wayOf_0 (by decide) ?_
  refine wp_istore4 d_M_wayOf_1 (by decide) rfl ?_
  refine wp_iload_n d_M_wayOf_3 rfl ?_
  refine wp_istore5 d_M_wayOf_4 (by decide) rfl ?_
  suffices H : ∀ t, t ≤ dep Q j → WP m_M_wayOf 6 [.ref 56, .int (nI (itm Q j)), .int (nI s), .int i, .int (nI t), .int (nI (itm Q (bkF Q t j))), .null] [] σ (Rt (.int (waF Q j i)) σ) from H 0 (Nat.zero_le _)
  refine lp_nat (fun t ht ih => ?_)
  obtain ⟨b1, b2⟩ := bkF_dep hQ hj t ht
  have hbt := hb _ b1
  refine wp_iload d_M_wayOf_6 rfl ?_
  refine wp_iload_n d_M_wayOf_8 rfl ?_
  refine wp_icmp_eq (tgt := 27) d_M_wayOf_9 (by decide) (fun hc => ?_) (fun hc => ?_)
  · rw [nI_eq (by omega) (by omega)] at hc
    have hz : bkF Q t j = 0 := hQ.2.2.1 _ _ b1 hQ.1 (hc.trans hQ.2.1.1.symm)
    rw [hz, dep_0] at b2
    obtain rfl : t = dep Q j := by omega
    refine wp_iload_n d_M_wayOf_27 rfl ?_
    refine wp_if_ge (tgt := 34) d_M_wayOf_28 (by decide) (fun h2 => ?_) (fun h2 => ?_)
    · refine wp_iload_n d_M_wayOf_34 rfl ?_
      refine wp_iload d_M_wayOf_35 rfl ?_
      refine wp_icmp_lt (tgt := 42) d_M_wayOf_37 (by decide) (fun h3 => ?_) (fun h3 => ?_)
      · obtain ⟨I0, hI0, rfl⟩ := nI_of (k2_nlt h2)
        have hlt : I0 < dep Q j := (nI_ltI hI0 (by omega)).mp h3
        rw [waF, if_neg (k2_nlt h2), if_pos h3, nI_clamp hI0]
        refine wp_iload_n d_M_wayOf_42 rfl ?_
        refine wp_istore5 d_M_wayOf_43 (by decide) rfl ?_
        refine wp_iload d_M_wayOf_45 rfl ?_
        refine wp_iconst (v := 1) d_M_wayOf_47 (by decide) ?_
        refine wp_isub d_M_wayOf_48 ?_
        refine wp_istore6 d_M_wayOf_49 (by decide) rfl ?_
        have e0 : nI (dep Q j) - 1 = nI (dep Q j - 1) := by
          rw [show dep Q j = dep Q j - 1 + 1 by omega, nI_pred, show dep Q j - 1 + 1 - 1 = dep Q j - 1 by omega]
        rw [e0]
        suffices H : ∀ t, t ≤ dep Q j - 1 - I0 → WP m_M_wayOf 51 [.ref 56, .int (nI (itm Q j)), .int (nI s), .int (nI I0), .int (nI (dep Q j)), .int (nI (itm Q (bkF Q t j))), .int (nI (dep Q j - 1 - t))] [] σ (Rt (.int (nI (ltr Q (bkF Q (dep Q j - 1 - I0) j)))) σ) from H 0 (Nat.zero_le _)
        refine lp_nat (fun t ht ih2 => ?_)
        obtain ⟨b1, b2⟩ := bkF_dep hQ hj t (by omega)
        have hbt := hb _ b1
        have hp0 : 0 < bkF Q t j := dep_pos hQ b1 (by omega)
        refine wp_iload d_M_wayOf_51 rfl ?_
        refine wp_iload_n d_M_wayOf_53 rfl ?_
        refine wp_icmp_le (tgt := 72) d_M_wayOf_54 (by decide) (fun h5 => ?_) (fun h5 => ?_)
        · have := nI_ge2 (a := I0) (b := dep Q j - 1 - t) h5 (by omega) (by omega)
          obtain rfl : t = dep Q j - 1 - I0 := by omega
          refine wp_aload_n d_M_wayOf_72 rfl ?_
          refine wp_getA d_M_wayOf_73 fl_M_70 rfl rfl rfl ?_
          refine wp_iload d_M_wayOf_76 rfl ?_
          refine wp_iald d_M_wayOf_78 rfl ?_ ?_
          · exact vp_in_nI (n := itm Q (bkF Q (dep Q j - 1 - I0) j)) (by omega) (by decide)
          rw [nI_clamp (by omega), (hW.1 _ b1).2.2 hp0]
          refine wp_iret d_M_wayOf_79 rfl ?_
          exact ⟨rfl, rfl⟩
        · have h6 : I0 < dep Q j - 1 - t := by
            rcases Nat.lt_or_ge I0 (dep Q j - 1 - t) with q | q
            · exact q
            · exact absurd (nI_le q (by omega)) h5
          refine wp_aload_n d_M_wayOf_57 rfl ?_
          refine wp_getA d_M_wayOf_58 fl_M_67 rfl rfl rfl ?_
          refine wp_iload d_M_wayOf_61 rfl ?_
          refine wp_iald d_M_wayOf_63 rfl ?_ ?_
          · exact vp_in_nI (n := itm Q (bkF Q t j)) (by omega) (by decide)
          rw [nI_clamp (by omega), (hW.1 _ b1).2.1]
          refine wp_istore5 d_M_wayOf_64 (by decide) rfl ?_
          refine wp_iinc6 d_M_wayOf_66 (hn_iim1 _) (by decide) rfl ?_
          refine wp_goto (tgt := 51) d_M_wayOf_69 (by decide) ?_
          have e1 : nI (dep Q j - 1 - t) + (-1) = nI (dep Q j - 1 - (t + 1)) := by
            rw [show dep Q j - 1 - t = dep Q j - 1 - (t + 1) + 1 by omega]
            exact pk_m1 _
          rw [e1]
          exact ih2 (by omega)
      · rw [waF, if_neg (k2_nlt h2), if_neg h3]
        refine wp_iconst (v := -1) d_M_wayOf_40 (by decide) ?_
        refine wp_iret d_M_wayOf_41 rfl ?_
        exact ⟨rfl, rfl⟩
    · rw [waF, if_pos (k2_lt h2)]
      refine wp_iload d_M_wayOf_31 rfl ?_
      refine wp_iret d_M_wayOf_33 rfl ?_
      exact ⟨rfl, rfl⟩
  · rw [nI_eq (by omega) (by omega)] at hc
    have ht2 : t < dep Q j := by
      rcases Nat.lt_or_ge t (dep Q j) with q | q
      · exact q
      · exfalso
        have := dep_z hQ b1 (by omega)
        rw [this, hQ.2.1.1] at hc
        exact hc rfl
    refine wp_iinc4 d_M_wayOf_12 (hn_ii1 _) (by decide) rfl ?_
    refine wp_aload_n d_M_wayOf_15 rfl ?_
    refine wp_getA d_M_wayOf_16 fl_M_67 rfl rfl rfl ?_
    refine wp_iload d_M_wayOf_19 rfl ?_
    refine wp_iald d_M_wayOf_21 rfl ?_ ?_
    · exact vp_in_nI (n := itm Q (bkF Q t j)) (by omega) (by decide)
    rw [nI_clamp (by omega), (hW.1 _ b1).2.1]
    refine wp_istore5 d_M_wayOf_22 (by decide) rfl ?_
    refine wp_goto (tgt := 6) d_M_wayOf_24 (by decide) ?_
    rw [nI_1]
    exact ih ht2
/-- of a queue: the first place at which p holds; its way -/
def fwF (Q : BQ) (p : Nat → Prop) [DecidablePred p] (i : Int32) : Int32 := if sr (fun k => p (itm Q k)) Q.length 0 < Q.length then waF Q (sr (fun k => p (itm Q k)) Q.length 0) i else if i < 0 then -9 else -1
theorem QS_BI {N L : Nat} {lm : Nat → Nat} {S : Nat} : BI (stS N lm) L S (QS N L lm S) := BI.Q _
theorem QS_lt {N L : Nat} {lm : Nat → Nat} {S : Nat} (hN : 0 < N) (hS : S < 2 ^ N) : ∀ j, j < (QS N L lm S).length → itm (QS N L lm S) j < 2 ^ N := QS_BI.bd hS (fun k x _ _ => stS_lt hN k x)
theorem QS_len {N L : Nat} {lm : Nat → Nat} {S : Nat} (hN : 0 < N) (h6 : N ≤ 6) (hS : S < 2 ^ N) : (QS N L lm S).length ≤ 64 := Nat.le_trans (QS_BI.len (QS_lt hN hS)) (pow2_le6 h6)
theorem bad_pow {N : Nat} (h6 : N ≤ 6) : 2 ^ N - 1 < 2 ^ 31 := by have := pow2_le6 h6; omega
/-- the reference's numbers that every call keeps; 'thrown' is 0 -/
def Th (σ : Hp) : Hp := wI σ 56 0 0
theorem MB.th {σ : Hp} {N : Nat} (h : MB σ N) : MB (Th σ) N := h.mv (by rw [Th, wI_eq]; rfl)
theorem LT.th {σ : Hp} {N L : Nat} {lm : Nat → Nat} (h : LT σ N L lm) : LT (Th σ) N L lm := h.mv (by rw [Th, wI_eq]; rfl) (wI_ne (by decide))
theorem sr_at {p : Nat → Prop} [DecidablePred p] : ∀ (f k : Nat), sr p f k < k + f → p (sr p f k)
  | 0, k, h => absurd h (Nat.lt_irrefl _)
  | f + 1, k, h => by
    rw [sr] at h ⊢
    split
    · assumption
    · rename_i q
      rw [if_neg q] at h
      exact sr_at f (k + 1) (by omega)
theorem c_M_together_no (s i : Int32) {N L : Nat} {lm : Nat → Nat} (σ : Hp) (hB : MB σ N) (h : ¬ (1 ≤ s ∧ s ≤ nI (2 ^ N - 1)) ∨ ¬ -1 ≤ i) : Ct m_M_together [.ref 56, .int s, .int i] σ (Rt (.int (-1)) (Th σ)) := by
  have hB := hB.th
  show WP m_M_together 0 [.ref 56, .int s, .int i, .null, .null] [] σ _
  have bad : WP m_M_together 18 [.ref 56, .int s, .int i, .null, .null] [] (Th σ) (Rt (.int (-1)) (Th σ)) := by
    refine wp_iconst (v := -1) d_M_together_18 (by decide) ?_
    refine wp_iret d_M_together_19 rfl ?_
    exact ⟨rfl, rfl⟩
  refine wp_aload_n d_M_together_0 rfl ?_
  refine wp_iconst (v := 0) d_M_together_1 (by decide) ?_
  refine wp_putI d_M_together_2 fp_M_89 rfl rfl (by decide) rfl rfl ?_
  show WP m_M_together 5 _ _ (Th σ) _
  refine wp_aload_n d_M_together_5 rfl ?_
  refine wp_iload_n d_M_together_6 rfl ?_
  refine wp_callV1e d_M_together_7 cv_M_189 rfl rfl rfl ⟨Nat.le_of_ble_eq_true rfl, Nat.le_of_ble_eq_true rfl⟩ (Nat.le_of_ble_eq_true rfl) (Nat.le_of_ble_eq_true rfl) (c_M_isSet _ _ hB) ?_
  refine wp_if_eq (tgt := 18) d_M_together_10 (by decide) (fun hc => ?_) (fun hc => ?_)
  · exact bad
  · refine wp_iload_n d_M_together_13 rfl ?_
    refine wp_iconst (v := -1) d_M_together_14 (by decide) ?_
    refine wp_icmp_ge (tgt := 20) d_M_together_15 (by decide) (fun hc2 => ?_) (fun hc2 => ?_)
    · exact (h.elim (fun q => absurd (bz_n0 hc) q) (fun q => absurd hc2 q))
    · exact bad
theorem c_M_together {S N L : Nat} {lm : Nat → Nat} (i : Int32) (σ : Hp) (hB : MB σ N) (hL : LT σ N L lm) (h0 : 0 < S) (hS : S < 2 ^ N) (hi : -1 ≤ i) : Ct m_M_together [.ref 56, .int (nI S), .int i] σ (fun w τ => w = some (.int (fwF (QS N L lm S) (fun x => pcN x = 1) i)) ∧ Fp wS (Th σ) τ) := by
  have hB := hB.th
  have hL := hL.th
  have h6 := hB.2.2
  have h2N := pow2_le6 h6
  have hQ := QS_BI (N := N) (L := L) (lm := lm) (S := S)
  have hlt := QS_lt (L := L) (lm := lm) hB.2.1 hS
  have hlen := QS_len (L := L) (lm := lm) hB.2.1 h6 hS
  show WP m_M_together 0 [.ref 56, .int (nI S), .int i, .null, .null] [] σ _
  refine wp_aload_n d_M_together_0 rfl ?_
  refine wp_iconst (v := 0) d_M_together_1 (by decide) ?_
  refine wp_putI d_M_together_2 fp_M_89 rfl rfl (by decide) rfl rfl ?_
  show WP m_M_together 5 _ _ (Th σ) _
  refine wp_aload_n d_M_together_5 rfl ?_
  refine wp_iload_n d_M_together_6 rfl ?_
  refine wp_callV1e d_M_together_7 cv_M_189 rfl rfl rfl ⟨Nat.le_of_ble_eq_true rfl, Nat.le_of_ble_eq_true rfl⟩ (Nat.le_of_ble_eq_true rfl) (Nat.le_of_ble_eq_true rfl) (c_M_isSet _ _ hB) ?_
  refine wp_if_eq (tgt := 18) d_M_together_10 (by decide) (fun hc => ?_) (fun hc => ?_)
  · exact absurd ⟨nI_le h0 (by omega), nI_le (by omega) (by omega)⟩ (bz_0.mp hc)
  · refine wp_iload_n d_M_together_13 rfl ?_
    refine wp_iconst (v := -1) d_M_together_14 (by decide) ?_
    refine wp_icmp_ge (tgt := 20) d_M_together_15 (by decide) (fun hc2 => ?_) (fun hc2 => ?_)
    · refine wp_aload_n d_M_together_20 rfl ?_
      refine wp_iload_n d_M_together_21 rfl ?_
      refine wp_callV1 d_M_together_22 cv_M_192 rfl rfl rfl ⟨Nat.le_of_ble_eq_true rfl, Nat.le_of_ble_eq_true rfl⟩ (Nat.le_of_ble_eq_true rfl) (Nat.le_of_ble_eq_true rfl) (c_M_sets hS _ hB hL) (fun v τ hv => ?_)
      obtain ⟨rfl, hF, hW⟩ := hv
      show WP m_M_together 25 _ [.int _] τ _
      refine wp_istore3 d_M_together_25 (by decide) rfl ?_
      refine wp_iconst (v := 0) d_M_together_26 (by decide) ?_
      refine wp_istore4 d_M_together_27 (by decide) rfl ?_
      suffices H : ∀ k, k ≤ (QS N L lm S).length → sr (fun k => pcN (itm (QS N L lm S) k) = 1) ((QS N L lm S).length - k) k = sr (fun k => pcN (itm (QS N L lm S) k) = 1) (QS N L lm S).length 0 → WP m_M_together 29 [.ref 56, .int (nI S), .int i, .int (nI (QS N L lm S).length), .int (nI k)] [] τ (fun w τ => w = some (.int (fwF (QS N L lm S) (fun x => pcN x = 1) i)) ∧ Fp wS (Th σ) τ) from H 0 (Nat.zero_le _) rfl
      refine lp_nat (fun k hk ih hs => ?_)
      refine wp_iload d_M_together_29 rfl ?_
      refine wp_iload_n d_M_together_31 rfl ?_
      refine wp_icmp_ge (tgt := 69) d_M_together_32 (by decide) (fun hc3 => ?_) (fun hc3 => ?_)
      · obtain rfl := Nat.le_antisymm hk (nI_ge2 hc3 (by omega) (by omega))
        rw [Nat.sub_self, sr] at hs
        refine wp_iload_n d_M_together_69 rfl ?_
        refine wp_if_ge (tgt := 78) d_M_together_70 (by decide) (fun hc5 => ?_) (fun hc5 => ?_)
        · refine wp_iconst (v := -1) d_M_together_78 (by decide) ?_
          refine wp_iret d_M_together_79 rfl ?_
          refine ⟨?_, hF⟩
          rw [fwF, ← hs, if_neg (Nat.lt_irrefl _), if_neg (k2_nlt hc5)]
        · refine wp_bipush (v := -9) d_M_together_73 (by decide) ?_
          refine wp_goto (tgt := 79) d_M_together_75 (by decide) ?_
          refine wp_iret d_M_together_79 rfl ?_
          refine ⟨?_, hF⟩
          rw [fwF, ← hs, if_neg (Nat.lt_irrefl _), if_pos (k2_lt hc5)]
      · have hk2 := nI_nge hc3 (by omega) (by omega)
        have hb := hlt k hk2
        have hp := pcN_le (itm (QS N L lm S) k)
        obtain ⟨d, hd⟩ : ∃ d, (QS N L lm S).length - k = d + 1 := ⟨(QS N L lm S).length - k - 1, by omega⟩
        rw [hd, sr] at hs
        refine wp_aload_n d_M_together_35 rfl ?_
        refine wp_getA d_M_together_36 fl_M_64 rfl rfl rfl ?_
        refine wp_iload d_M_together_39 rfl ?_
        refine wp_iald d_M_together_41 rfl ?_ ?_
        · exact vp_in_nI (n := k) (by omega) (by decide)
        rw [nI_clamp (show k < 2 ^ 31 by omega), (hW.1 k hk2).1]
        refine wp_callS1e d_M_together_42 cs_M_155 ⟨Nat.le_of_ble_eq_true rfl, Nat.le_of_ble_eq_true rfl⟩ (Nat.le_of_ble_eq_true rfl) (Nat.le_of_ble_eq_true rfl) (c_M_ones (by omega) _) ?_
        refine wp_iconst (v := 1) d_M_together_45 (by decide) ?_
        refine wp_icmp_ne (tgt := 63) d_M_together_46 (by decide) (fun hc5 => ?_) (fun hc5 => ?_)
        · have h7 : ¬ pcN (itm (QS N L lm S) k) = 1 := fun q => hc5 (by rw [q]; rfl)
          rw [if_neg h7] at hs
          refine wp_iinc4 d_M_together_63 (hn_ii1 _) (by decide) rfl ?_
          refine wp_goto (tgt := 29) d_M_together_66 (by decide) ?_
          rw [nI_1]
          exact ih hk2 (by rw [show (QS N L lm S).length - (k + 1) = d by omega]; exact hs)
        · have h7 : pcN (itm (QS N L lm S) k) = 1 := (nI_eq (b := 1) (by omega) (by omega)).mp hc5
          rw [if_pos h7] at hs
          refine wp_aload_n d_M_together_49 rfl ?_
          refine wp_aload_n d_M_together_50 rfl ?_
          refine wp_getA d_M_together_51 fl_M_64 rfl rfl rfl ?_
          refine wp_iload d_M_together_54 rfl ?_
          refine wp_iald d_M_together_56 rfl ?_ ?_
          · exact vp_in_nI (n := k) (by omega) (by decide)
          rw [nI_clamp (show k < 2 ^ 31 by omega), (hW.1 k hk2).1]
          refine wp_iload_n d_M_together_57 rfl ?_
          refine wp_iload_n d_M_together_58 rfl ?_
          refine wp_callV3e d_M_together_59 cv_M_195 rfl rfl rfl ⟨Nat.le_of_ble_eq_true rfl, Nat.le_of_ble_eq_true rfl⟩ (Nat.le_of_ble_eq_true rfl) (Nat.le_of_ble_eq_true rfl) (c_M_wayOf hQ (Nat.le_refl 64) (fun j hj => by have := hlt j hj; omega) hk2 _ _ hW) ?_
          refine wp_iret d_M_together_62 rfl ?_
          refine ⟨?_, hF⟩
          rw [fwF, ← hs, if_pos hk2]
    · exact absurd hi hc2
def lwN (Q : BQ) : Nat := it (fun k r => if pcN (itm Q k) < r then pcN (itm Q k) else r) Q.length 6
theorem c_M_lowestOf {S N L : Nat} {lm : Nat → Nat} (hS : S < 2 ^ N) (σ : Hp) (hB : MB σ N) (hL : LT σ N L lm) : Ct m_M_lowestOf [.ref 56, .int (nI S)] σ (fun w τ => w = some (.int (nI (lwN (QS N L lm S)))) ∧ Fp wS σ τ ∧ lwN (QS N L lm S) ≤ 6) := by
  have h6 := hB.2.2
  have h2N := pow2_le6 h6
  have hlt := QS_lt (L := L) (lm := lm) hB.2.1 hS
  have hlen := QS_len (L := L) (lm := lm) hB.2.1 h6 hS
  show WP m_M_lowestOf 0 [.ref 56, .int (nI S), .null, .null, .null] [] σ _
  refine wp_aload_n d_M_lowestOf_0 rfl ?_
  refine wp_iload_n d_M_lowestOf_1 rfl ?_
  refine wp_callV1 d_M_lowestOf_2 cv_M_192 rfl rfl rfl ⟨Nat.le_of_ble_eq_true rfl, Nat.le_of_ble_eq_true rfl⟩ (Nat.le_of_ble_eq_true rfl) (Nat.le_of_ble_eq_true rfl) (c_M_sets hS _ hB hL) (fun v τ hv => ?_)
  obtain ⟨rfl, hF, hW⟩ := hv
  show WP m_M_lowestOf 5 _ [.int _] τ _
  refine wp_istore2 d_M_lowestOf_5 (by decide) rfl ?_
  refine wp_bipush (v := 6) d_M_lowestOf_6 (by decide) ?_
  refine wp_istore3 d_M_lowestOf_8 (by decide) rfl ?_
  refine wp_iconst (v := 0) d_M_lowestOf_9 (by decide) ?_
  refine wp_istore4 d_M_lowestOf_10 (by decide) rfl ?_
  suffices H : ∀ k, k ≤ (QS N L lm S).length → it (fun k r => if pcN (itm (QS N L lm S) k) < r then pcN (itm (QS N L lm S) k) else r) k 6 ≤ 6 → WP m_M_lowestOf 12 [.ref 56, .int (nI S), .int (nI (QS N L lm S).length), .int (nI (it (fun k r => if pcN (itm (QS N L lm S) k) < r then pcN (itm (QS N L lm S) k) else r) k 6)), .int (nI k)] [] τ (fun w τ => w = some (.int (nI (lwN (QS N L lm S)))) ∧ Fp wS σ τ ∧ lwN (QS N L lm S) ≤ 6) from H 0 (Nat.zero_le _) (Nat.le_refl _)
  refine lp_nat (fun k hk ih h66 => ?_)
  refine wp_iload d_M_lowestOf_12 rfl ?_
  refine wp_iload_n d_M_lowestOf_14 rfl ?_
  refine wp_icmp_ge (tgt := 53) d_M_lowestOf_15 (by decide) (fun hc => ?_) (fun hc => ?_)
  · obtain rfl := Nat.le_antisymm hk (nI_ge2 hc (by omega) (by omega))
    refine wp_iload_n d_M_lowestOf_53 rfl ?_
    refine wp_iret d_M_lowestOf_54 rfl ?_
    exact ⟨rfl, hF, h66⟩
  · have hk2 := nI_nge hc (by omega) (by omega)
    have hb := hlt k hk2
    have hp := pcN_le (itm (QS N L lm S) k)
    obtain ⟨r, hr⟩ : ∃ r, r = it (fun k r => if pcN (itm (QS N L lm S) k) < r then pcN (itm (QS N L lm S) k) else r) k 6 := ⟨_, rfl⟩
    have e1 : it (fun k r => if pcN (itm (QS N L lm S) k) < r then pcN (itm (QS N L lm S) k) else r) (k + 1) 6 = if pcN (itm (QS N L lm S) k) < r then pcN (itm (QS N L lm S) k) else r := by rw [hr]; rfl
    rw [e1] at ih
    rw [← hr] at h66 ⊢
    refine wp_aload_n d_M_lowestOf_18 rfl ?_
    refine wp_getA d_M_lowestOf_19 fl_M_64 rfl rfl rfl ?_
    refine wp_iload d_M_lowestOf_22 rfl ?_
    refine wp_iald d_M_lowestOf_24 rfl ?_ ?_
    · exact vp_in_nI (n := k) (by omega) (by decide)
    rw [nI_clamp (show k < 2 ^ 31 by omega), (hW.1 k hk2).1]
    refine wp_callS1e d_M_lowestOf_25 cs_M_155 ⟨Nat.le_of_ble_eq_true rfl, Nat.le_of_ble_eq_true rfl⟩ (Nat.le_of_ble_eq_true rfl) (Nat.le_of_ble_eq_true rfl) (c_M_ones (by omega) _) ?_
    refine wp_iload_n d_M_lowestOf_28 rfl ?_
    refine wp_icmp_ge (tgt := 45) d_M_lowestOf_29 (by decide) (fun hc2 => ?_) (fun hc2 => ?_)
    · have := nI_ge2 hc2 (by omega) (by omega)
      rw [if_neg (by omega)] at ih
      refine wp_iload_n d_M_lowestOf_45 rfl ?_
      refine wp_istore3 d_M_lowestOf_46 (by decide) rfl ?_
      refine wp_iinc4 d_M_lowestOf_47 (hn_ii1 _) (by decide) rfl ?_
      refine wp_goto (tgt := 12) d_M_lowestOf_50 (by decide) ?_
      rw [nI_1]
      exact ih hk2 h66
    · have := nI_nge hc2 (by omega) (by omega)
      rw [if_pos this] at ih
      refine wp_aload_n d_M_lowestOf_32 rfl ?_
      refine wp_getA d_M_lowestOf_33 fl_M_64 rfl rfl rfl ?_
      refine wp_iload d_M_lowestOf_36 rfl ?_
      refine wp_iald d_M_lowestOf_38 rfl ?_ ?_
      · exact vp_in_nI (n := k) (by omega) (by decide)
      rw [nI_clamp (show k < 2 ^ 31 by omega), (hW.1 k hk2).1]
      refine wp_callS1e d_M_lowestOf_39 cs_M_155 ⟨Nat.le_of_ble_eq_true rfl, Nat.le_of_ble_eq_true rfl⟩ (Nat.le_of_ble_eq_true rfl) (Nat.le_of_ble_eq_true rfl) (c_M_ones (by omega) _) ?_
      refine wp_goto (tgt := 46) d_M_lowestOf_42 (by decide) ?_
      refine wp_istore3 d_M_lowestOf_46 (by decide) rfl ?_
      refine wp_iinc4 d_M_lowestOf_47 (hn_ii1 _) (by decide) rfl ?_
      refine wp_goto (tgt := 12) d_M_lowestOf_50 (by decide) ?_
      rw [nI_1]
      exact ih hk2 hp
theorem c_M_lowest_no (s : Int32) {N : Nat} (σ : Hp) (hB : MB σ N) (h : ¬ (1 ≤ s ∧ s ≤ nI (2 ^ N - 1))) : Ct m_M_lowest [.ref 56, .int s] σ (Rt (.int (-1)) (Th σ)) := by
  have hB := hB.th
  show WP m_M_lowest 0 [.ref 56, .int s] [] σ _
  refine wp_aload_n d_M_lowest_0 rfl ?_
  refine wp_iconst (v := 0) d_M_lowest_1 (by decide) ?_
  refine wp_putI d_M_lowest_2 fp_M_89 rfl rfl (by decide) rfl rfl ?_
  show WP m_M_lowest 5 _ _ (Th σ) _
  refine wp_aload_n d_M_lowest_5 rfl ?_
  refine wp_iload_n d_M_lowest_6 rfl ?_
  refine wp_callV1e d_M_lowest_7 cv_M_189 rfl rfl rfl ⟨Nat.le_of_ble_eq_true rfl, Nat.le_of_ble_eq_true rfl⟩ (Nat.le_of_ble_eq_true rfl) (Nat.le_of_ble_eq_true rfl) (c_M_isSet _ _ hB) ?_
  refine wp_if_eq (tgt := 21) d_M_lowest_10 (by decide) (fun hc => ?_) (fun hc => ?_)
  · refine wp_iconst (v := -1) d_M_lowest_21 (by decide) ?_
    refine wp_iret d_M_lowest_22 rfl ?_
    exact ⟨rfl, rfl⟩
  · exact absurd (bz_n0 hc) h
theorem c_M_lowest {S N L : Nat} {lm : Nat → Nat} (σ : Hp) (hB : MB σ N) (hL : LT σ N L lm) (h0 : 0 < S) (hS : S < 2 ^ N) : Ct m_M_lowest [.ref 56, .int (nI S)] σ (fun w τ => w = some (.int (nI (lwN (QS N L lm S)))) ∧ Fp wS (Th σ) τ) := by
  have hB := hB.th
  have hL := hL.th
  have h2N := pow2_le6 hB.2.2
  show WP m_M_lowest 0 [.ref 56, .int (nI S)] [] σ _
  refine wp_aload_n d_M_lowest_0 rfl ?_
  refine wp_iconst (v := 0) d_M_lowest_1 (by decide) ?_
  refine wp_putI d_M_lowest_2 fp_M_89 rfl rfl (by decide) rfl rfl ?_
  show WP m_M_lowest 5 _ _ (Th σ) _
  refine wp_aload_n d_M_lowest_5 rfl ?_
  refine wp_iload_n d_M_lowest_6 rfl ?_
  refine wp_callV1e d_M_lowest_7 cv_M_189 rfl rfl rfl ⟨Nat.le_of_ble_eq_true rfl, Nat.le_of_ble_eq_true rfl⟩ (Nat.le_of_ble_eq_true rfl) (Nat.le_of_ble_eq_true rfl) (c_M_isSet _ _ hB) ?_
  refine wp_if_eq (tgt := 21) d_M_lowest_10 (by decide) (fun hc => ?_) (fun hc => ?_)
  · exact absurd ⟨nI_le h0 (by omega), nI_le (by omega) (by omega)⟩ (bz_0.mp hc)
  · refine wp_aload_n d_M_lowest_13 rfl ?_
    refine wp_iload_n d_M_lowest_14 rfl ?_
    refine wp_callV1 d_M_lowest_15 cv_M_198 rfl rfl rfl ⟨Nat.le_of_ble_eq_true rfl, Nat.le_of_ble_eq_true rfl⟩ (Nat.le_of_ble_eq_true rfl) (Nat.le_of_ble_eq_true rfl) (c_M_lowestOf hS _ hB hL) (fun v τ hv => ?_)
    obtain ⟨rfl, hF, -⟩ := hv
    show WP m_M_lowest 18 _ [.int _] τ _
    refine wp_goto (tgt := 22) d_M_lowest_18 (by decide) ?_
    refine wp_iret d_M_lowest_22 rfl ?_
    exact ⟨rfl, hF⟩
def apS (N L : Nat) (lm : Nat → Nat) (a b v : Nat) : Nat := v + if lwN (QS N L lm (2 ^ a ||| 2 ^ b)) = 2 then 1 else 0
def apN (N L : Nat) (lm : Nat → Nat) : Nat := it (fun a v => it (apS N L lm a) a v) N 0
theorem c_M_apart {N L : Nat} {lm : Nat → Nat} (σ : Hp) (hB : MB σ N) (hL : LT σ N L lm) : Ct m_M_apart [.ref 56] σ (fun w τ => w = some (.int (nI (apN N L lm))) ∧ Fp wS (Th σ) τ) := by
  have hB := hB.th
  have hL := hL.th
  have h6 := hB.2.2
  show WP m_M_apart 0 [.ref 56, .null, .null, .null] [] σ _
  refine wp_aload_n d_M_apart_0 rfl ?_
  refine wp_iconst (v := 0) d_M_apart_1 (by decide) ?_
  refine wp_putI d_M_apart_2 fp_M_89 rfl rfl (by decide) rfl rfl ?_
  show WP m_M_apart 5 _ _ (Th σ) _
  refine wp_iconst (v := 0) d_M_apart_5 (by decide) ?_
  refine wp_istore1 d_M_apart_6 (by decide) rfl ?_
  refine wp_iconst (v := 0) d_M_apart_7 (by decide) ?_
  refine wp_istore2 d_M_apart_8 (by decide) rfl ?_
  suffices H : ∀ k, k ≤ N → ∀ (τ : Hp) (x3 : Value), Fp wS (Th σ) τ → WP m_M_apart 9 [.ref 56, .int (nI (it (fun a v => it (apS N L lm a) a v) k 0)), .int (nI k), x3] [] τ (fun w τ => w = some (.int (nI (apN N L lm))) ∧ Fp wS (Th σ) τ) from H 0 (Nat.zero_le _) _ _ Fp.rf
  refine lp_nat (fun k hk ih τ x3 hF => ?_)
  have hB2 := hF.MB (by decide) hB
  refine wp_iload_n d_M_apart_9 rfl ?_
  refine wp_aload_n d_M_apart_10 rfl ?_
  refine wp_getI d_M_apart_11 fl_M_7 rfl rfl (by decide) ?_
  refine wp_icmp_ge (tgt := 59) d_M_apart_14 (by decide) (fun hc => ?_) (fun hc => ?_)
  · rw [hB2.1] at hc
    obtain rfl := Nat.le_antisymm hk (nI_ge2 hc (by omega) (by omega))
    refine wp_iload_n d_M_apart_59 rfl ?_
    refine wp_iret d_M_apart_60 rfl ?_
    exact ⟨rfl, hF⟩
  · rw [hB2.1] at hc
    have hk2 := nI_nge hc (by omega) (by omega)
    refine wp_iconst (v := 0) d_M_apart_17 (by decide) ?_
    refine wp_istore3 d_M_apart_18 (by decide) rfl ?_
    obtain ⟨r, hr⟩ : ∃ r, r = it (fun a v => it (apS N L lm a) a v) k 0 := ⟨_, rfl⟩
    rw [← hr]
    suffices H : ∀ j, j ≤ k → ∀ (τ : Hp), Fp wS (Th σ) τ → WP m_M_apart 19 [.ref 56, .int (nI (it (apS N L lm k) j r)), .int (nI k), .int (nI j)] [] τ (fun w τ => w = some (.int (nI (apN N L lm))) ∧ Fp wS (Th σ) τ) from H 0 (Nat.zero_le _) τ hF
    clear hF hB2 τ
    refine lp_nat (fun j hj ih2 τ hF => ?_)
    have hB2 := hF.MB (by decide) hB
    have hL2 := hF.LT (by decide) (by decide) hL
    refine wp_iload_n d_M_apart_19 rfl ?_
    refine wp_iload_n d_M_apart_20 rfl ?_
    refine wp_icmp_ge (tgt := 53) d_M_apart_21 (by decide) (fun hc2 => ?_) (fun hc2 => ?_)
    · obtain rfl := Nat.le_antisymm hj (nI_ge2 hc2 (by omega) (by omega))
      refine wp_iinc2 d_M_apart_53 (hn_ii1 _) (by decide) rfl ?_
      refine wp_goto (tgt := 9) d_M_apart_56 (by decide) ?_
      rw [nI_1, hr]
      exact ih hk2 _ _ hF
    · have hj2 := nI_nge hc2 (by omega) (by omega)
      refine wp_iload_n d_M_apart_24 rfl ?_
      refine wp_aload_n d_M_apart_25 rfl ?_
      refine wp_iconst (v := 1) d_M_apart_26 (by decide) ?_
      refine wp_iload_n d_M_apart_27 rfl ?_
      refine wp_ishl d_M_apart_28 ?_
      refine wp_iconst (v := 1) d_M_apart_29 (by decide) ?_
      refine wp_iload_n d_M_apart_30 rfl ?_
      refine wp_ishl d_M_apart_31 ?_
      refine wp_ior d_M_apart_32 ?_
      rw [sh_nI (by omega), sh_nI (by omega), or_nI]
      refine wp_callV1 d_M_apart_33 cv_M_198 rfl rfl rfl ⟨Nat.le_of_ble_eq_true rfl, Nat.le_of_ble_eq_true rfl⟩ (Nat.le_of_ble_eq_true rfl) (Nat.le_of_ble_eq_true rfl) (c_M_lowestOf (Nat.or_lt_two_pow (pow2_lt hk2) (pow2_lt (by omega))) _ hB2 hL2) (fun v υ hv => ?_)
      obtain ⟨rfl, hF2, hle⟩ := hv
      show WP m_M_apart 36 _ [.int _, .int _] υ _
      refine wp_iconst (v := 2) d_M_apart_36 (by decide) ?_
      refine wp_icmp_ne (tgt := 44) d_M_apart_37 (by decide) (fun hc3 => ?_) (fun hc3 => ?_)
      · have h7 : ¬ lwN (QS N L lm (2 ^ k ||| 2 ^ j)) = 2 := fun q => hc3 (by rw [q]; rfl)
        refine wp_iconst (v := 0) d_M_apart_44 (by decide) ?_
        refine wp_iadd d_M_apart_45 ?_
        refine wp_istore1 d_M_apart_46 (by decide) rfl ?_
        refine wp_iinc3 d_M_apart_47 (hn_ii1 _) (by decide) rfl ?_
        refine wp_goto (tgt := 19) d_M_apart_50 (by decide) ?_
        rw [nI_1, show (0 : Int32) = nI 0 from rfl, nI_add]
        have := ih2 hj2 υ (hF.tr hF2)
        have e1 : it (apS N L lm k) (j + 1) r = it (apS N L lm k) j r + 0 := by
          show _ + (if _ then _ else _) = _
          rw [if_neg h7]
        rw [e1] at this
        exact this
      · have h7 : lwN (QS N L lm (2 ^ k ||| 2 ^ j)) = 2 := (nI_eq (b := 2) (by omega) (by omega)).mp hc3
        refine wp_iconst (v := 1) d_M_apart_40 (by decide) ?_
        refine wp_goto (tgt := 45) d_M_apart_41 (by decide) ?_
        refine wp_iadd d_M_apart_45 ?_
        refine wp_istore1 d_M_apart_46 (by decide) rfl ?_
        refine wp_iinc3 d_M_apart_47 (hn_ii1 _) (by decide) rfl ?_
        refine wp_goto (tgt := 19) d_M_apart_50 (by decide) ?_
        rw [nI_1, show (1 : Int32) = nI 1 from rfl, nI_add]
        have := ih2 hj2 υ (hF.tr hF2)
        have e1 : it (apS N L lm k) (j + 1) r = it (apS N L lm k) j r + 1 := by
          show _ + (if _ then _ else _) = _
          rw [if_pos h7]
        rw [e1] at this
        exact this
