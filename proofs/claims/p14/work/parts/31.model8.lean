/-! contracts: cuts, reached, alike, least, meaning, as the reference has them -/
theorem bz_iff {b : Bool} {p : Prop} (h : b = true ↔ p) : (b = true ∧ p) ∨ (b = false ∧ ¬ p) := by
  cases b with
  | true => exact Or.inl ⟨rfl, h.mp rfl⟩
  | false => exact Or.inr ⟨rfl, fun q => by cases h.mpr q⟩
theorem bz_and1 (b : Bool) : bz (b = true) &&& 1 = bz (b = true) := by cases b <;> decide
theorem bz_and0 (b : Bool) : bz (b = true) &&& 0 = bz (false = true) := by cases b <;> decide
theorem HR.wI {τ : Hp} {N k : Nat} {h : Nat → Nat} {x : Nat} (hr : HR τ N h) : HR (wI τ 76 k (nI x)) N (fun i => if i = k then x else h i) := fun i hi => by
  rw [wI_eq]
  by_cases q : i = k
  · rw [q, upd_eq]; exact congrArg nI (if_pos rfl).symm
  · rw [upd_ne q]; exact (hr i hi).trans (congrArg nI (if_neg q).symm)
/-- the heaps are kept by each letter: so far -/
def kpT (N L : Nat) (lm : Nat → Nat) (h : Nat → Nat) (l i j : Nat) : Prop := ∀ l' i' j', l' < L → i' < N → j' < i' → (l' < l ∨ (l' = l ∧ (i' < i ∨ (i' = i ∧ j' < j)))) → h i' = h j' → h (gN N (lm l') i') = h (gN N (lm l') j')
def kpP (N L : Nat) (lm : Nat → Nat) (h : Nat → Nat) : Prop := ∀ l i j, l < L → i < N → j < i → h i = h j → h (gN N (lm l) i) = h (gN N (lm l) j)
theorem c_M_isKept {N L : Nat} {lm h : Nat → Nat} (σ : Hp) (hB : MB σ N) (hL : LT σ N L lm) (hR : HR σ N h) (hlt : ∀ i, i < N → h i < 2 ^ 31) : Ct m_M_isKept [.ref 56] σ (fun w τ => τ = σ ∧ ∃ b : Bool, w = some (.int (bz (b = true))) ∧ (b = true ↔ kpP N L lm h)) := by
  have h6 := hB.2.2
  have hp6 := pow6 h6
  have h4 := hL.2.1
  show WP m_M_isKept 0 [.ref 56, .null, .null, .null, .null] [] σ _
  refine wp_iconst (v := 1) d_M_isKept_0 (by decide) ?_
  refine wp_istore1 d_M_isKept_1 (by decide) rfl ?_
  refine wp_iconst (v := 0) d_M_isKept_2 (by decide) ?_
  refine wp_istore2 d_M_isKept_3 (by decide) rfl ?_
  suffices H : ∀ l, l ≤ L → ∀ (x3 x4 : Value) (b : Bool), x3.category = 1 → (b = true ↔ kpT N L lm h l 0 0) → WP m_M_isKept 4 [.ref 56, .int (bz (b = true)), .int (nI l), x3, x4] [] σ (fun w τ => τ = σ ∧ ∃ b : Bool, w = some (.int (bz (b = true))) ∧ (b = true ↔ kpP N L lm h)) by
    have := H 0 (Nat.zero_le _) .null .null true rfl ⟨fun _ l' i' j' _ _ _ q => by omega, fun _ => rfl⟩
    rw [bz_t rfl] at this
    exact this
  refine lp_nat (fun l hl ihl x3 x4 b hx3 hb => ?_)
  refine wp_iload_n d_M_isKept_4 rfl ?_
  refine wp_aload_n d_M_isKept_5 rfl ?_
  refine wp_getI d_M_isKept_6 fl_M_104 rfl rfl (by decide) ?_
  refine wp_icmp_ge (tgt := 109) d_M_isKept_9 (by decide) (fun hc2 => ?_) (fun hc2 => ?_)
  · rw [hL.1] at hc2
    obtain rfl := Nat.le_antisymm hl (nI_ge2 hc2 (by omega) (by omega))
    refine wp_iload_n d_M_isKept_109 rfl ?_
    refine wp_zret d_M_isKept_110 rfl ?_ ?_
    · exact bz_nar
    refine ⟨rfl, b, rfl, hb.trans ⟨fun q l' i j q1 q2 q3 => q l' i j q1 q2 q3 (Or.inl q1), fun q l' i j q1 q2 q3 _ => q l' i j q1 q2 q3⟩⟩
  · rw [hL.1] at hc2
    have hl2 := nI_nge hc2 (by omega) (by omega)
    refine wp_iconst (v := 0) d_M_isKept_12 (by decide) ?_
    refine wp_istore3 d_M_isKept_13 (by decide) rfl ?_
    suffices H : ∀ i, i ≤ N → ∀ (x4 : Value) (b : Bool), (b = true ↔ kpT N L lm h l i 0) → WP m_M_isKept 14 [.ref 56, .int (bz (b = true)), .int (nI l), .int (nI i), x4] [] σ (fun w τ => τ = σ ∧ ∃ b : Bool, w = some (.int (bz (b = true))) ∧ (b = true ↔ kpP N L lm h)) from H 0 (Nat.zero_le _) _ b hb
    clear hb b
    refine lp_nat (fun i hi ihi x4 b hb => ?_)
    refine wp_iload_n d_M_isKept_14 rfl ?_
    refine wp_aload_n d_M_isKept_15 rfl ?_
    refine wp_getI d_M_isKept_16 fl_M_7 rfl rfl (by decide) ?_
    refine wp_icmp_ge (tgt := 103) d_M_isKept_19 (by decide) (fun hc3 => ?_) (fun hc3 => ?_)
    · rw [hB.1] at hc3
      obtain rfl := Nat.le_antisymm hi (nI_ge2 hc3 (by omega) (by omega))
      refine wp_iinc2 d_M_isKept_103 (hn_ii1 _) (by decide) rfl ?_
      refine wp_goto (tgt := 4) d_M_isKept_106 (by decide) ?_
      rw [nI_1]
      refine ihl hl2 _ _ b rfl (hb.trans ⟨fun q l' i' j' q1 q2 q3 q4 => q l' i' j' q1 q2 q3 (by omega), fun q l' i' j' q1 q2 q3 q4 => q l' i' j' q1 q2 q3 (by omega)⟩)
    · rw [hB.1] at hc3
      have hi2 := nI_nge hc3 (by omega) (by omega)
      refine wp_iconst (v := 0) d_M_isKept_22 (by decide) ?_
      refine wp_istore4 d_M_isKept_23 (by decide) rfl ?_
      suffices H : ∀ j, j ≤ i → ∀ (b : Bool), (b = true ↔ kpT N L lm h l i j) → WP m_M_isKept 25 [.ref 56, .int (bz (b = true)), .int (nI l), .int (nI i), .int (nI j)] [] σ (fun w τ => τ = σ ∧ ∃ b : Bool, w = some (.int (bz (b = true))) ∧ (b = true ↔ kpP N L lm h)) from H 0 (Nat.zero_le _) b hb
      clear hb b
      refine lp_nat (fun j hj ihj b hb => ?_)
      refine wp_iload d_M_isKept_25 rfl ?_
      refine wp_iload_n d_M_isKept_27 rfl ?_
      refine wp_icmp_ge (tgt := 97) d_M_isKept_28 (by decide) (fun hc5 => ?_) (fun hc5 => ?_)
      · obtain rfl := Nat.le_antisymm hj (nI_ge2 hc5 (by omega) (by omega))
        refine wp_iinc3 d_M_isKept_97 (hn_ii1 _) (by decide) rfl ?_
        refine wp_goto (tgt := 14) d_M_isKept_100 (by decide) ?_
        rw [nI_1]
        refine ihi hi2 _ b (hb.trans ⟨fun q l' i' j' q1 q2 q3 q4 => q l' i' j' q1 q2 q3 (by omega), fun q l' i' j' q1 q2 q3 q4 => q l' i' j' q1 q2 q3 (by omega)⟩)
      · have hj2 := nI_nge hc5 (by omega) (by omega)
        have li := hlt i hi2
        have lj := hlt j (by omega)
        obtain ⟨l1, l2⟩ := hL.2.2 l hl2
        have g1 := gN_lt (N := N) (m := lm l) (i := i) hB.2.1
        have g2 := gN_lt (N := N) (m := lm l) (i := j) hB.2.1
        have lg1 := hlt _ g1
        have lg2 := hlt _ g2
        have st : kpT N L lm h l i (j + 1) ↔ (kpT N L lm h l i j ∧ (h i = h j → h (gN N (lm l) i) = h (gN N (lm l) j))) := by
          constructor
          · intro q
            exact ⟨fun l' i' j' q1 q2 q3 q4 => q l' i' j' q1 q2 q3 (by omega), q l i j hl2 hi2 hj2 (by omega)⟩
          · rintro ⟨q, q0⟩ l' i' j' q1 q2 q3 q4
            by_cases q5 : l' = l ∧ i' = i ∧ j' = j
            · obtain ⟨rfl, rfl, rfl⟩ := q5
              exact q0
            · exact q l' i' j' q1 q2 q3 (by omega)
        have good : (h i = h j → h (gN N (lm l) i) = h (gN N (lm l) j)) → WP m_M_isKept 84 [.ref 56, .int (bz (b = true)), .int (nI l), .int (nI i), .int (nI j)] [.int (bz (b = true))] σ (fun w τ => τ = σ ∧ ∃ b : Bool, w = some (.int (bz (b = true))) ∧ (b = true ↔ kpP N L lm h)) := by
          intro q
          refine wp_iconst (v := 1) d_M_isKept_84 (by decide) ?_
          refine wp_goto (tgt := 89) d_M_isKept_85 (by decide) ?_
          refine wp_iand d_M_isKept_89 ?_
          rw [bz_and1]
          refine wp_istore1 d_M_isKept_90 (by decide) rfl ?_
          refine wp_iinc4 d_M_isKept_91 (hn_ii1 _) (by decide) rfl ?_
          refine wp_goto (tgt := 25) d_M_isKept_94 (by decide) ?_
          rw [nI_1]
          exact ihj hj2 b (by rw [st]; exact hb.trans ⟨fun p => ⟨p, q⟩, fun p => p.1⟩)
        refine wp_iload_n d_M_isKept_31 rfl ?_
        refine wp_aload_n d_M_isKept_32 rfl ?_
        refine wp_getA d_M_isKept_33 fl_M_73 rfl rfl rfl ?_
        refine wp_iload_n d_M_isKept_36 rfl ?_
        refine wp_iald d_M_isKept_37 rfl ?_ ?_
        · exact vp_in_nI (n := i) (by omega) (by decide)
        rw [nI_clamp (show i < 2 ^ 31 by omega), hR i hi2]
        refine wp_aload_n d_M_isKept_38 rfl ?_
        refine wp_getA d_M_isKept_39 fl_M_73 rfl rfl rfl ?_
        refine wp_iload d_M_isKept_42 rfl ?_
        refine wp_iald d_M_isKept_44 rfl ?_ ?_
        · exact vp_in_nI (n := j) (by omega) (by decide)
        rw [nI_clamp (show j < 2 ^ 31 by omega), hR j (by omega)]
        refine wp_icmp_ne (tgt := 84) d_M_isKept_45 (by decide) (fun hc6 => ?_) (fun hc6 => ?_)
        · rw [nI_eq li lj] at hc6
          exact good (fun q => absurd q hc6)
        · rw [nI_eq li lj] at hc6
          refine wp_aload_n d_M_isKept_48 rfl ?_
          refine wp_getA d_M_isKept_49 fl_M_73 rfl rfl rfl ?_
          refine wp_aload_n d_M_isKept_52 rfl ?_
          refine wp_aload_n d_M_isKept_53 rfl ?_
          refine wp_getA d_M_isKept_54 fl_M_13 rfl rfl rfl ?_
          refine wp_iload_n d_M_isKept_57 rfl ?_
          refine wp_iald d_M_isKept_58 rfl ?_ ?_
          · exact vp_in_nI (n := l) (by omega) (by decide)
          rw [nI_clamp (show l < 2 ^ 31 by omega), l1]
          refine wp_iload_n d_M_isKept_59 rfl ?_
          refine wp_callV2e d_M_isKept_60 cv_M_96 rfl rfl rfl ⟨Nat.le_of_ble_eq_true rfl, Nat.le_of_ble_eq_true rfl⟩ (Nat.le_of_ble_eq_true rfl) (Nat.le_of_ble_eq_true rfl) (c_M_goes (by omega) (by omega) _ hB) ?_
          refine wp_iald d_M_isKept_63 rfl ?_ ?_
          · exact vp_in_nI (n := gN N (lm l) i) (by omega) (by decide)
          rw [nI_clamp (show gN N (lm l) i < 2 ^ 31 by omega), hR _ g1]
          refine wp_aload_n d_M_isKept_64 rfl ?_
          refine wp_getA d_M_isKept_65 fl_M_73 rfl rfl rfl ?_
          refine wp_aload_n d_M_isKept_68 rfl ?_
          refine wp_aload_n d_M_isKept_69 rfl ?_
          refine wp_getA d_M_isKept_70 fl_M_13 rfl rfl rfl ?_
          refine wp_iload_n d_M_isKept_73 rfl ?_
          refine wp_iald d_M_isKept_74 rfl ?_ ?_
          · exact vp_in_nI (n := l) (by omega) (by decide)
          rw [nI_clamp (show l < 2 ^ 31 by omega), l1]
          refine wp_iload d_M_isKept_75 rfl ?_
          refine wp_callV2e d_M_isKept_77 cv_M_96 rfl rfl rfl ⟨Nat.le_of_ble_eq_true rfl, Nat.le_of_ble_eq_true rfl⟩ (Nat.le_of_ble_eq_true rfl) (Nat.le_of_ble_eq_true rfl) (c_M_goes (by omega) (by omega) _ hB) ?_
          refine wp_iald d_M_isKept_80 rfl ?_ ?_
          · exact vp_in_nI (n := gN N (lm l) j) (by omega) (by decide)
          rw [nI_clamp (show gN N (lm l) j < 2 ^ 31 by omega), hR _ g2]
          refine wp_icmp_ne (tgt := 88) d_M_isKept_81 (by decide) (fun hc7 => ?_) (fun hc7 => ?_)
          · rw [nI_eq lg1 lg2] at hc7
            refine wp_iconst (v := 0) d_M_isKept_88 (by decide) ?_
            refine wp_iand d_M_isKept_89 ?_
            rw [bz_and0]
            refine wp_istore1 d_M_isKept_90 (by decide) rfl ?_
            refine wp_iinc4 d_M_isKept_91 (hn_ii1 _) (by decide) rfl ?_
            refine wp_goto (tgt := 25) d_M_isKept_94 (by decide) ?_
            rw [nI_1]
            exact ihj hj2 false (by rw [st]; exact ⟨fun p => absurd p (by decide), fun p => absurd (p.2 hc6) hc7⟩)
          · rw [nI_eq lg1 lg2] at hc7
            exact good (fun _ => hc7)
/-- a map that names heaps by their least, kept by each letter -/
def ctN (N L : Nat) (lm : Nat → Nat) (k : Nat) : Prop := (∀ i, i < N → gN N k i ≤ i ∧ gN N k (gN N k i) = gN N k i) ∧ kpP N L lm (gN N k)
noncomputable def ctC (N L : Nat) (lm : Nat → Nat) (K : Nat) : Nat := it (fun k r => r + @ite Nat (ctN N L lm k) (Classical.propDecidable _) 1 0) K 0
theorem c_M_cuts {N L : Nat} {lm : Nat → Nat} (σ : Hp) (hB : MB σ N) (hL : LT σ N L lm) : Ct m_M_cuts [.ref 56] σ (fun w τ => w = some (.int (nI (ctC N L lm (N ^ N)))) ∧ Fp hS76 (Th σ) τ) := by
  have hB := hB.th
  have hL := hL.th
  have h6 := hB.2.2
  have hp6 := pow6 h6
  show WP m_M_cuts 0 [.ref 56, .null, .null, .null, .null, .null] [] σ _
  refine wp_aload_n d_M_cuts_0 rfl ?_
  refine wp_iconst (v := 0) d_M_cuts_1 (by decide) ?_
  refine wp_putI d_M_cuts_2 fp_M_89 rfl rfl (by decide) rfl rfl ?_
  show WP m_M_cuts 5 _ _ (Th σ) _
  refine wp_iconst (v := 0) d_M_cuts_5 (by decide) ?_
  refine wp_istore1 d_M_cuts_6 (by decide) rfl ?_
  refine wp_aload_n d_M_cuts_7 rfl ?_
  refine wp_aload_n d_M_cuts_8 rfl ?_
  refine wp_getI d_M_cuts_9 fl_M_7 rfl rfl (by decide) ?_
  rw [hB.1]
  refine wp_callV1e d_M_cuts_12 cv_M_92 rfl rfl rfl ⟨Nat.le_of_ble_eq_true rfl, Nat.le_of_ble_eq_true rfl⟩ (Nat.le_of_ble_eq_true rfl) (Nat.le_of_ble_eq_true rfl) (c_M_power (by omega) _ hB) ?_
  refine wp_istore2 d_M_cuts_15 (by decide) rfl ?_
  refine wp_iconst (v := 0) d_M_cuts_16 (by decide) ?_
  refine wp_istore3 d_M_cuts_17 (by decide) rfl ?_
  suffices H : ∀ k, k ≤ N ^ N → ∀ (τ : Hp) (x4 x5 : Value), x4.category = 1 → Fp hS76 (Th σ) τ → WP m_M_cuts 18 [.ref 56, .int (nI (ctC N L lm k)), .int (nI (N ^ N)), .int (nI k), x4, x5] [] τ (fun w τ => w = some (.int (nI (ctC N L lm (N ^ N)))) ∧ Fp hS76 (Th σ) τ) from H 0 (Nat.zero_le _) _ _ _ rfl Fp.rf
  refine lp_nat (fun k hk ih τ x4 x5 hx4 hF => ?_)
  have hB1 := hF.MB (by decide) hB
  refine wp_iload_n d_M_cuts_18 rfl ?_
  refine wp_iload_n d_M_cuts_19 rfl ?_
  refine wp_icmp_ge (tgt := 146) d_M_cuts_20 (by decide) (fun hc => ?_) (fun hc => ?_)
  · obtain rfl := Nat.le_antisymm hk (nI_ge2 hc (by omega) (by omega))
    refine wp_iload_n d_M_cuts_146 rfl ?_
    refine wp_iret d_M_cuts_147 rfl ?_
    exact ⟨rfl, hF⟩
  · have hk2 := nI_nge hc (by omega) (by omega)
    refine wp_iconst (v := 1) d_M_cuts_23 (by decide) ?_
    refine wp_istore4 d_M_cuts_24 (by decide) rfl ?_
    refine wp_iconst (v := 0) d_M_cuts_26 (by decide) ?_
    refine wp_istore5 d_M_cuts_27 (by decide) rfl ?_
    -- the digits are laid out
    suffices H : ∀ i, i ≤ N → ∀ (τ : Hp), Fp hS76 (Th σ) τ → (∀ j, j < i → τ.1 76 j = nI (gN N k j)) → WP m_M_cuts 29 [.ref 56, .int (nI (ctC N L lm k)), .int (nI (N ^ N)), .int (nI k), .int 1, .int (nI i)] [] τ (fun w τ => w = some (.int (nI (ctC N L lm (N ^ N)))) ∧ Fp hS76 (Th σ) τ) from H 0 (Nat.zero_le _) τ hF (fun j hj => absurd hj (Nat.not_lt_zero j))
    clear hB1 hF τ
    refine lp_nat (fun i hi ih2 τ hF hv => ?_)
    have hB1 := hF.MB (by decide) hB
    have hL1 := hF.LT (by decide) (by decide) hL
    refine wp_iload d_M_cuts_29 rfl ?_
    refine wp_aload_n d_M_cuts_31 rfl ?_
    refine wp_getI d_M_cuts_32 fl_M_7 rfl rfl (by decide) ?_
    refine wp_icmp_ge (tgt := 58) d_M_cuts_35 (by decide) (fun hc2 => ?_) (fun hc2 => ?_)
    · rw [hB1.1] at hc2
      obtain rfl := Nat.le_antisymm hi (nI_ge2 hc2 (by omega) (by omega))
      refine wp_iconst (v := 0) d_M_cuts_58 (by decide) ?_
      refine wp_istore5 d_M_cuts_59 (by decide) rfl ?_
      have hR : HR τ i (gN i k) := hv
      have glt : ∀ j, gN i k j < i := fun j => gN_lt hB.2.1
      suffices H : ∀ j, j ≤ i → ∀ b : Bool, (b = true ↔ ∀ j', j' < j → gN i k j' ≤ j' ∧ gN i k (gN i k j') = gN i k j') → WP m_M_cuts 61 [.ref 56, .int (nI (ctC i L lm k)), .int (nI (i ^ i)), .int (nI k), .int (bz (b = true)), .int (nI j)] [] τ (fun w τ => w = some (.int (nI (ctC i L lm (i ^ i)))) ∧ Fp hS76 (Th σ) τ) by
        have := H 0 (Nat.zero_le _) true ⟨fun _ j hj => absurd hj (Nat.not_lt_zero j), fun _ => rfl⟩
        rw [bz_t rfl] at this
        exact this
      refine lp_nat (fun j hj ih3 b hb => ?_)
      refine wp_iload d_M_cuts_61 rfl ?_
      refine wp_aload_n d_M_cuts_63 rfl ?_
      refine wp_getI d_M_cuts_64 fl_M_7 rfl rfl (by decide) ?_
      refine wp_icmp_ge (tgt := 120) d_M_cuts_67 (by decide) (fun hc3 => ?_) (fun hc3 => ?_)
      · rw [hB1.1] at hc3
        obtain rfl := Nat.le_antisymm hj (nI_ge2 hc3 (by omega) (by omega))
        have fin : ∀ z : Nat, (∀ c, ctC j L lm (k + 1) = ctC j L lm k + c → z = c) → WP m_M_cuts 138 [.ref 56, .int (nI (ctC j L lm k)), .int (nI (j ^ j)), .int (nI k), .int (bz (b = true)), .int (nI j)] [.int (nI z), .int (nI (ctC j L lm k))] τ (fun w τ => w = some (.int (nI (ctC j L lm (j ^ j)))) ∧ Fp hS76 (Th σ) τ) := by
          intro z hz
          refine wp_iadd d_M_cuts_138 ?_
          refine wp_istore1 d_M_cuts_139 (by decide) rfl ?_
          refine wp_iinc3 d_M_cuts_140 (hn_ii1 _) (by decide) rfl ?_
          refine wp_goto (tgt := 18) d_M_cuts_143 (by decide) ?_
          rw [nI_1, nI_add, hz _ rfl]
          exact ih hk2 τ _ _ rfl hF
        refine wp_iload_n d_M_cuts_120 rfl ?_
        refine wp_iload d_M_cuts_121 rfl ?_
        refine wp_if_eq (tgt := 137) d_M_cuts_123 (by decide) (fun hc5 => ?_) (fun hc5 => ?_)
        · rw [bz_0] at hc5
          refine wp_iconst (v := 0) d_M_cuts_137 (by decide) ?_
          refine fin 0 (fun c e => ?_)
          have e2 : ctC j L lm (k + 1) = ctC j L lm k + 0 := by
            show ctC j L lm k + _ = _
            rw [if_neg]
            exact fun q => hc5 (hb.mpr q.1)
          omega
        · have hc5 := bz_n0 hc5
          refine wp_aload_n d_M_cuts_126 rfl ?_
          refine wp_callV0 d_M_cuts_127 cv_M_211 rfl rfl rfl ⟨Nat.le_of_ble_eq_true rfl, Nat.le_of_ble_eq_true rfl⟩ (Nat.le_of_ble_eq_true rfl) (Nat.le_of_ble_eq_true rfl) (c_M_isKept _ hB1 hL1 hR (fun x _ => by have := glt x; omega)) (fun v υ hv2 => ?_)
          obtain ⟨rfl, b2, rfl, hb2⟩ := hv2
          show WP m_M_cuts 130 _ [.int _, .int _] υ _
          refine wp_if_eq (tgt := 137) d_M_cuts_130 (by decide) (fun hc6 => ?_) (fun hc6 => ?_)
          · rw [bz_0] at hc6
            refine wp_iconst (v := 0) d_M_cuts_137 (by decide) ?_
            refine fin 0 (fun c e => ?_)
            have e2 : ctC j L lm (k + 1) = ctC j L lm k + 0 := by
              show ctC j L lm k + _ = _
              rw [if_neg]
              exact fun q => hc6 (hb2.mpr q.2)
            omega
          · have hc6 := bz_n0 hc6
            refine wp_iconst (v := 1) d_M_cuts_133 (by decide) ?_
            refine wp_goto (tgt := 138) d_M_cuts_134 (by decide) ?_
            refine fin 1 (fun c e => ?_)
            have e2 : ctC j L lm (k + 1) = ctC j L lm k + 1 := by
              show ctC j L lm k + _ = _
              rw [if_pos]
              exact ⟨hb.mp hc5, hb2.mp hc6⟩
            omega
      · rw [hB1.1] at hc3
        have hj2 := nI_nge hc3 (by omega) (by omega)
        have g1 := glt j
        have g2 := glt (gN i k j)
        have st : (∀ j', j' < j + 1 → gN i k j' ≤ j' ∧ gN i k (gN i k j') = gN i k j') ↔ ((∀ j', j' < j → gN i k j' ≤ j' ∧ gN i k (gN i k j') = gN i k j') ∧ (gN i k j ≤ j ∧ gN i k (gN i k j) = gN i k j)) := by
          constructor
          · intro q
            exact ⟨fun j' q1 => q j' (by omega), q j (by omega)⟩
          · rintro ⟨q, q0⟩ j' q1
            by_cases q5 : j' = j
            · rw [q5]; exact q0
            · exact q j' (by omega)
        have poor : ¬ (gN i k j ≤ j ∧ gN i k (gN i k j) = gN i k j) → WP m_M_cuts 110 [.ref 56, .int (nI (ctC i L lm k)), .int (nI (i ^ i)), .int (nI k), .int (bz (b = true)), .int (nI j)] [.int (bz (b = true))] τ (fun w τ => w = some (.int (nI (ctC i L lm (i ^ i)))) ∧ Fp hS76 (Th σ) τ) := by
          intro q
          refine wp_iconst (v := 0) d_M_cuts_110 (by decide) ?_
          refine wp_iand d_M_cuts_111 ?_
          rw [bz_and0]
          refine wp_istore4 d_M_cuts_112 (by decide) rfl ?_
          refine wp_iinc5 d_M_cuts_114 (hn_ii1 _) (by decide) rfl ?_
          refine wp_goto (tgt := 61) d_M_cuts_117 (by decide) ?_
          rw [nI_1]
          exact ih3 hj2 false (by rw [st]; exact ⟨fun p => absurd p (by decide), fun p => absurd p.2 q⟩)
        refine wp_iload d_M_cuts_70 rfl ?_
        refine wp_aload_n d_M_cuts_72 rfl ?_
        refine wp_getA d_M_cuts_73 fl_M_73 rfl rfl rfl ?_
        refine wp_iload d_M_cuts_76 rfl ?_
        refine wp_iald d_M_cuts_78 rfl ?_ ?_
        · exact vp_in_nI (n := j) (by omega) (by decide)
        rw [nI_clamp (show j < 2 ^ 31 by omega), hR j hj2]
        refine wp_iload d_M_cuts_79 rfl ?_
        refine wp_icmp_gt (tgt := 110) d_M_cuts_81 (by decide) (fun hc5 => ?_) (fun hc5 => ?_)
        · rw [nI_ltN (by omega) (by omega)] at hc5
          exact poor (fun q => by omega)
        · rw [nI_ltN (by omega) (by omega)] at hc5
          refine wp_aload_n d_M_cuts_84 rfl ?_
          refine wp_getA d_M_cuts_85 fl_M_73 rfl rfl rfl ?_
          refine wp_aload_n d_M_cuts_88 rfl ?_
          refine wp_getA d_M_cuts_89 fl_M_73 rfl rfl rfl ?_
          refine wp_iload d_M_cuts_92 rfl ?_
          refine wp_iald d_M_cuts_94 rfl ?_ ?_
          · exact vp_in_nI (n := j) (by omega) (by decide)
          rw [nI_clamp (show j < 2 ^ 31 by omega), hR j hj2]
          refine wp_iald d_M_cuts_95 rfl ?_ ?_
          · exact vp_in_nI (n := gN i k j) (by omega) (by decide)
          rw [nI_clamp (show gN i k j < 2 ^ 31 by omega), hR _ g1]
          refine wp_aload_n d_M_cuts_96 rfl ?_
          refine wp_getA d_M_cuts_97 fl_M_73 rfl rfl rfl ?_
          refine wp_iload d_M_cuts_100 rfl ?_
          refine wp_iald d_M_cuts_102 rfl ?_ ?_
          · exact vp_in_nI (n := j) (by omega) (by decide)
          rw [nI_clamp (show j < 2 ^ 31 by omega), hR j hj2]
          refine wp_icmp_ne (tgt := 110) d_M_cuts_103 (by decide) (fun hc6 => ?_) (fun hc6 => ?_)
          · rw [nI_eq (by omega) (by omega)] at hc6
            exact poor (fun q => hc6 q.2)
          · rw [nI_eq (by omega) (by omega)] at hc6
            refine wp_iconst (v := 1) d_M_cuts_106 (by decide) ?_
            refine wp_goto (tgt := 111) d_M_cuts_107 (by decide) ?_
            refine wp_iand d_M_cuts_111 ?_
            rw [bz_and1]
            refine wp_istore4 d_M_cuts_112 (by decide) rfl ?_
            refine wp_iinc5 d_M_cuts_114 (hn_ii1 _) (by decide) rfl ?_
            refine wp_goto (tgt := 61) d_M_cuts_117 (by decide) ?_
            rw [nI_1]
            exact ih3 hj2 b (by rw [st]; exact hb.trans ⟨fun p => ⟨p, by omega, hc6⟩, fun p => p.1⟩)
    · rw [hB1.1] at hc2
      have hi2 := nI_nge hc2 (by omega) (by omega)
      have g1 := gN_lt (N := N) (m := k) (i := i) hB.2.1
      refine wp_aload_n d_M_cuts_38 rfl ?_
      refine wp_getA d_M_cuts_39 fl_M_73 rfl rfl rfl ?_
      refine wp_iload d_M_cuts_42 rfl ?_
      refine wp_aload_n d_M_cuts_44 rfl ?_
      refine wp_iload_n d_M_cuts_45 rfl ?_
      refine wp_iload d_M_cuts_46 rfl ?_
      refine wp_callV2e d_M_cuts_48 cv_M_96 rfl rfl rfl ⟨Nat.le_of_ble_eq_true rfl, Nat.le_of_ble_eq_true rfl⟩ (Nat.le_of_ble_eq_true rfl) (Nat.le_of_ble_eq_true rfl) (c_M_goes (by omega) (by omega) _ hB1) ?_
      refine wp_iast d_M_cuts_51 rfl ?_ ?_
      · exact vp_in_nI (n := i) (by omega) (by decide)
      rw [nI_clamp (show i < 2 ^ 31 by omega)]
      refine wp_iinc5 d_M_cuts_52 (hn_ii1 _) (by decide) rfl ?_
      refine wp_goto (tgt := 29) d_M_cuts_55 (by decide) ?_
      rw [nI_1]
      refine ih2 hi2 _ (hF.wI (by decide)) (fun j hj => ?_)
      rw [wI_eq]
      by_cases q : j = i
      · rw [q, upd_eq]
      · rw [upd_ne q]; exact hv j (by omega)
