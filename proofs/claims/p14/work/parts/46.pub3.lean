/-! contracts: meanings, as the reference answers -/
theorem alH6_lt {N L e : Nat} {lm : Nat → Nat} : ∀ i, i < N → alH N L lm e (six N) i < N := by
  intro i hi
  rw [six_eq]
  obtain ⟨a1, a2⟩ := rdQ_lt (N := N) (L := L) (lm := lm) (h := alH N L lm e 5) N
  have := a2 i hi
  show (rdQ N L lm (alH N L lm e 5) N).1 i < N
  omega
theorem mgN_lt {N S m : Nat} {h : Nat → Nat} (hN : 0 < N) (hh : ∀ i, i < N → h i < 6) : ∀ K, it (fun i v => 6 * v + (if fiP S h i = true then h (gN N m i) else 0)) K 0 < 6 ^ K
  | 0 => by show 0 < 6 ^ 0; decide
  | K + 1 => by
    have ih := mgN_lt (S := S) (m := m) hN hh K
    have h1 := hh _ (gN_lt (N := N) (m := m) (i := K) hN)
    show 6 * it (fun i v => 6 * v + (if fiP S h i = true then h (gN N m i) else 0)) K 0 + (if fiP S h K = true then h (gN N m K) else 0) < 6 ^ (K + 1)
    rw [Nat.pow_succ]
    split <;> omega
def mgE (N L : Nat) (lm : Nat → Nat) (S e x : Nat) : Nat := mgN N S (alH N L lm e (six N)) (itm (EQ N L lm) x)
/-- this meaning hasn't come before -/
def nwB (N L : Nat) (lm : Nat → Nat) (S e j x : Nat) : Bool := if j = 0 then (List.range x).all (fun k => decide (¬ mgE N L lm S e k = mgE N L lm S e x)) else true
/-- of the 13th and the 14th power the meaning is one -/
def srB (N L : Nat) (lm : Nat → Nat) (S e j x : Nat) : Bool := if j = 1 then decide (mgN N S (alH N L lm e (six N)) (pwN N (itm (EQ N L lm) x) 12) = mgN N S (alH N L lm e (six N)) (pwN N (itm (EQ N L lm) x) 13)) else true
def meF (N L : Nat) (lm : Nat → Nat) (S e j M : Nat) : Int32 := if j = 0 then nI (sm (fun x => if nwB N L lm S e j x = true then 1 else 0) M) else bz ((List.range M).all (fun x => srB N L lm S e j x) = true)
def mgS' : List Nat := [76, 77, 78]
theorem mg_ne : ∀ q, q ∈ [56, 58, 59, 60, 61, 62, 63, 64, 65, 66] → q ∉ mgS' := by decide
theorem c_M_meanings_no (w : Int32) (σ : Hp) (h : ¬ (0 ≤ w ∧ w ≤ 1)) : Ct m_M_meanings [.ref 56, .int w] σ (Rt (.int (-1)) (Th σ)) := by
  show WP m_M_meanings 0 [.ref 56, .int w, .null, .null, .null, .null, .null, .null, .null] [] σ _
  refine wp_aload_n d_M_meanings_0 rfl ?_
  refine wp_iconst (v := 0) d_M_meanings_1 (by decide) ?_
  refine wp_putI d_M_meanings_2 fp_M_89 rfl rfl (by decide) rfl rfl ?_
  show WP m_M_meanings 5 _ _ (Th σ) _
  refine wp_iload_n d_M_meanings_5 rfl ?_
  refine wp_iconst (v := 0) d_M_meanings_6 (by decide) ?_
  refine wp_iconst (v := 1) d_M_meanings_7 (by decide) ?_
  refine wp_callS3e d_M_meanings_8 cs_M_100 ⟨Nat.le_of_ble_eq_true rfl, Nat.le_of_ble_eq_true rfl⟩ (Nat.le_of_ble_eq_true rfl) (Nat.le_of_ble_eq_true rfl) (c_M_in _ _ _ _) ?_
  refine wp_if_ne (tgt := 16) d_M_meanings_11 (by decide) (fun hc => ?_) (fun hc => ?_)
  · exact absurd (bz_n0 hc) h
  · refine wp_iconst (v := -1) d_M_meanings_14 (by decide) ?_
    refine wp_iret d_M_meanings_15 rfl ?_
    exact ⟨rfl, rfl⟩
theorem c_M_meanings {j s e N L : Nat} {lm : Nat → Nat} (hj : j ≤ 1) (σ : Hp) (hB : MB σ N) (hL : LT σ N L lm) (hs : s < N) (h4 : σ.1 56 4 = nI s) (he : e < 2 ^ N) (h5 : σ.1 56 5 = nI e) (hD : LD σ N L lm) : Ct m_M_meanings [.ref 56, .int (nI j)] σ (Lp N L lm σ (fun M z => ∃ S, RcOf N L lm s S ∧ z = meF N L lm S e j M)) := by
  have hB := hB.th
  have hL := hL.th
  have hD := hD.th
  have h4 : (Th σ).1 56 4 = nI s := (Th_0 (by decide)).trans h4
  have h5 : (Th σ).1 56 5 = nI e := (Th_0 (by decide)).trans h5
  have hN6 := hB.2.2
  have hp6 := pow6 hB.2.2
  have h26 := pow2_le6 hN6
  show WP m_M_meanings 0 [.ref 56, .int (nI j), .null, .null, .null, .null, .null, .null, .null] [] σ _
  refine wp_aload_n d_M_meanings_0 rfl ?_
  refine wp_iconst (v := 0) d_M_meanings_1 (by decide) ?_
  refine wp_putI d_M_meanings_2 fp_M_89 rfl rfl (by decide) rfl rfl ?_
  show WP m_M_meanings 5 _ _ (Th σ) _
  refine wp_iload_n d_M_meanings_5 rfl ?_
  refine wp_iconst (v := 0) d_M_meanings_6 (by decide) ?_
  refine wp_iconst (v := 1) d_M_meanings_7 (by decide) ?_
  refine wp_callS3e d_M_meanings_8 cs_M_100 ⟨Nat.le_of_ble_eq_true rfl, Nat.le_of_ble_eq_true rfl⟩ (Nat.le_of_ble_eq_true rfl) (Nat.le_of_ble_eq_true rfl) (c_M_in _ _ _ _) ?_
  refine wp_if_ne (tgt := 16) d_M_meanings_11 (by decide) (fun hc => ?_) (fun hc => ?_)
  · refine wp_aload_n d_M_meanings_16 rfl ?_
    refine wp_callV0 d_M_meanings_17 cv_M_141 rfl rfl rfl ⟨Nat.le_of_ble_eq_true rfl, Nat.le_of_ble_eq_true rfl⟩ (Nat.le_of_ble_eq_true rfl) (Nat.le_of_ble_eq_true rfl) (c_M_loads _ hB hL hD) (fun v τ hv => ?_)
    obtain ⟨hF, hv⟩ := hv
    show WP m_M_meanings 20 _ _ τ _
    rcases hv with ⟨rfl, hv⟩ | ⟨rfl, M, hv⟩
    · show WP m_M_meanings 20 _ [.int 0] τ _
      refine wp_if_ne (tgt := 26) d_M_meanings_20 (by decide) (fun hc2 => ?_) (fun hc2 => ?_)
      · exact absurd rfl hc2
      · refine wp_bipush (v := -5) d_M_meanings_23 (by decide) ?_
        refine wp_iret d_M_meanings_25 rfl ?_
        exact ⟨hF, Or.inl ⟨rfl, hv⟩⟩
    · show WP m_M_meanings 20 _ [.int 1] τ _
      have hB1 := hF.MB hB
      have hL1 := hF.LT hL
      obtain ⟨a, b, B, hx⟩ := hv.tx
      have hq := hx.1
      have h15 := hq.2.2.2.1
      have hlen := hq.2.2.1
      have h41 : τ.1 56 4 = nI s := (hF.2 4 (by decide) (by decide)).trans h4
      have h51 : τ.1 56 5 = nI e := (hF.2 5 (by decide) (by decide)).trans h5
      refine wp_if_ne (tgt := 26) d_M_meanings_20 (by decide) (fun hc2 => ?_) (fun hc2 => ?_)
      · refine wp_aload_n d_M_meanings_26 rfl ?_
        refine wp_callV0 d_M_meanings_27 cv_M_220 rfl rfl rfl ⟨Nat.le_of_ble_eq_true rfl, Nat.le_of_ble_eq_true rfl⟩ (Nat.le_of_ble_eq_true rfl) (Nat.le_of_ble_eq_true rfl) (c_M_reached _ hB1 hL1 hs h41) (fun v υ hv => ?_)
        obtain ⟨rfl, S, rfl, hS⟩ := hv
        show WP m_M_meanings 30 _ [.int _] υ _
        refine wp_istore2 d_M_meanings_30 (by decide) rfl ?_
        refine wp_aload_n d_M_meanings_31 rfl ?_
        refine wp_iload_n d_M_meanings_32 rfl ?_
        refine wp_callV1 d_M_meanings_33 cv_M_223 rfl rfl rfl ⟨Nat.le_of_ble_eq_true rfl, Nat.le_of_ble_eq_true rfl⟩ (Nat.le_of_ble_eq_true rfl) (Nat.le_of_ble_eq_true rfl) (c_M_alike _ hB1 hL1 he h51 hS.1) (fun v τ hv => ?_)
        obtain ⟨rfl, hF2, hR⟩ := hv
        show WP m_M_meanings 36 _ [.int _] τ _
        obtain ⟨h, hh⟩ : ∃ h, h = alH N L lm e (six N) := ⟨_, rfl⟩
        rw [← hh] at hR
        have hS64 : S < 64 := Nat.lt_of_lt_of_le hS.1 h26
        have hh6 : ∀ i, i < N → h i < 6 := fun i hi => by have := alH6_lt (N := N) (L := L) (e := e) (lm := lm) i hi; rw [hh]; omega
        have hmg : ∀ m, mgN N S h m < 46656 := fun m => by
          have := mgN_lt (S := S) (m := m) hB.2.1 hh6 N
          have p : 6 ^ N ≤ 6 ^ 6 := Nat.pow_le_pow_right (by decide) hN6
          have : mgN N S h m < 6 ^ N := this
          have : (6 : Nat) ^ 6 = 46656 := by decide
          omega
        have hmE : ∀ x, mgE N L lm S e x = mgN N S h (itm (EQ N L lm) x) := fun x => by rw [hh]; rfl
        have hfin : ∀ τ z, Fp mgS' υ τ → z = meF N L lm S e j M → Lp N L lm σ (fun M z => ∃ S, RcOf N L lm s S ∧ z = meF N L lm S e j M) (some (.int z)) τ := fun τ z f1 f2 => ⟨hF.tr (FM.of f1 (by decide) (by decide)), Or.inr ⟨z, M, rfl, (hx.mv f1 mg_ne).tb, S, hS, f2⟩⟩
        refine wp_pop d_M_meanings_36 rfl ?_
        refine wp_iconst (v := 0) d_M_meanings_37 (by decide) ?_
        refine wp_istore3 d_M_meanings_38 (by decide) rfl ?_
        refine wp_iconst (v := 1) d_M_meanings_39 (by decide) ?_
        refine wp_istore4 d_M_meanings_40 (by decide) rfl ?_
        refine wp_iconst (v := 0) d_M_meanings_42 (by decide) ?_
        refine wp_istore5 d_M_meanings_43 (by decide) rfl ?_
        suffices H : ∀ x, x ≤ M → ∀ (τ : Hp) (x6 x7 x8 : Value) (c : Bool), x6.category = 1 → x7.category = 1 → Fp mgS' υ τ → HR τ N h → (∀ y, y < x → τ.1 78 y = nI (mgE N L lm S e y)) → c = (List.range x).all (fun x => srB N L lm S e j x) → WP m_M_meanings 45 [.ref 56, .int (nI j), .int (nI S), .int (nI (sm (fun x => if nwB N L lm S e j x = true then 1 else 0) x)), .int (bz (c = true)), .int (nI x), x6, x7, x8] [] τ (Lp N L lm σ (fun M z => ∃ S, RcOf N L lm s S ∧ z = meF N L lm S e j M)) by
          have := H 0 (Nat.zero_le _) τ .null .null .null true rfl rfl (hF2.up (by decide)) hR (fun y hy => absurd hy (Nat.not_lt_zero y)) rfl
          rw [bz_t (p := (true = true)) rfl] at this
          exact this
        clear hR hF2 τ
        refine lp_nat (fun x hxM ih τ x6 x7 x8 c hx6 hx7 hF3 hR hv hcx => ?_)
        have f7 : τ.1 56 7 = nI M := by rw [(hF3 56 (by decide)).1]; exact hq.2.1
        have hB3 := hF3.MB (by decide) hB1
        refine wp_iload d_M_meanings_45 rfl ?_
        refine wp_aload_n d_M_meanings_47 rfl ?_
        refine wp_getI d_M_meanings_48 fl_M_117 rfl rfl (by decide) ?_
        refine wp_icmp_ge (tgt := 227) d_M_meanings_51 (by decide) (fun hc3 => ?_) (fun hc3 => ?_)
        · rw [f7] at hc3
          obtain rfl := Nat.le_antisymm hxM (nI_ge2 hc3 (by omega) (by omega))
          refine wp_iload_n d_M_meanings_227 rfl ?_
          refine wp_if_ne (tgt := 235) d_M_meanings_228 (by decide) (fun hc5 => ?_) (fun hc5 => ?_)
          · rw [show (0 : Int32) = nI 0 from rfl, nI_eq (by omega) (by omega)] at hc5
            refine wp_iload d_M_meanings_235 rfl ?_
            refine wp_if_eq (tgt := 244) d_M_meanings_237 (by decide) (fun hc6 => ?_) (fun hc6 => ?_)
            · refine wp_iconst (v := 0) d_M_meanings_244 (by decide) ?_
              refine wp_iret d_M_meanings_245 rfl ?_
              exact hfin τ 0 hF3 (by rw [meF, if_neg hc5, ← hcx, hc6])
            · have hc6 := bz_n0 hc6
              refine wp_iconst (v := 1) d_M_meanings_240 (by decide) ?_
              refine wp_goto (tgt := 245) d_M_meanings_241 (by decide) ?_
              refine wp_iret d_M_meanings_245 rfl ?_
              exact hfin τ 1 hF3 (by rw [meF, if_neg hc5, ← hcx, hc6]; rfl)
          · rw [show (0 : Int32) = nI 0 from rfl, nI_eq (by omega) (by omega)] at hc5
            refine wp_iload_n d_M_meanings_231 rfl ?_
            refine wp_goto (tgt := 245) d_M_meanings_232 (by decide) ?_
            refine wp_iret d_M_meanings_245 rfl ?_
            exact hfin τ _ hF3 (by rw [meF, if_pos hc5])
        · rw [f7] at hc3
          have hx2 := nI_nge hc3 (by omega) (by omega)
          obtain ⟨m, hm⟩ : ∃ m, m = itm (EQ N L lm) x := ⟨_, rfl⟩
          have hlt := EQ_lt (L := L) (lm := lm) hB.2.1 x (by omega)
          have hwx : τ.1 58 x = nI m := by rw [(hF3 58 (by decide)).1, hm]; exact (hq.2.2.2.2.1 x (by omega)).1
          rw [← hm] at hlt
          have hmx : mgE N L lm S e x = mgN N S h m := by rw [hmE, ← hm]
          refine wp_aload_n d_M_meanings_54 rfl ?_
          refine wp_getA d_M_meanings_55 fl_M_79 rfl rfl rfl ?_
          refine wp_iload d_M_meanings_58 rfl ?_
          refine wp_aload_n d_M_meanings_60 rfl ?_
          refine wp_aload_n d_M_meanings_61 rfl ?_
          refine wp_getA d_M_meanings_62 fl_M_17 rfl rfl rfl ?_
          refine wp_iload d_M_meanings_65 rfl ?_
          refine wp_iald d_M_meanings_67 rfl ?_ ?_
          · exact vp_in_nI (n := x) (by omega) (by decide)
          rw [nI_clamp (show x < 2 ^ 31 by omega), hwx]
          refine wp_iload_n d_M_meanings_68 rfl ?_
          refine wp_callV2e d_M_meanings_69 cv_M_229 rfl rfl rfl ⟨Nat.le_of_ble_eq_true rfl, Nat.le_of_ble_eq_true rfl⟩ (Nat.le_of_ble_eq_true rfl) (Nat.le_of_ble_eq_true rfl) (c_M_meaning (by omega) (by omega) _ hB3 hR (fun i hi => by have := hh6 i hi; omega)) ?_
          rw [← hmx]
          refine wp_iast d_M_meanings_72 rfl ?_ ?_
          · exact vp_in_nI (n := x) (by omega) (by decide)
          rw [nI_clamp (show x < 2 ^ 31 by omega)]
          obtain ⟨τ1, hτ1⟩ : ∃ τ1, τ1 = wI τ 78 x (nI (mgE N L lm S e x)) := ⟨_, rfl⟩
          have g1 : Fp mgS' υ τ1 := by rw [hτ1]; exact hF3.wI (by decide)
          have g2 : HR τ1 N h := by rw [hτ1]; exact hR.mv (wI_ne (by decide))
          have g3 : ∀ y, y < x + 1 → τ1.1 78 y = nI (mgE N L lm S e y) := by
            intro y hy
            rw [hτ1, wI_eq]
            by_cases q : y = x
            · rw [q, upd_eq]
            · rw [upd_ne q]; exact hv y (by omega)
          have g5 : τ1.1 58 x = nI m := by rw [hτ1, wI_ne (by decide)]; exact hwx
          have g6 : MB τ1 N := g1.MB (by decide) hB1
          rw [← hτ1]
          have hbd : ∀ y, mgE N L lm S e y < 46656 := fun y => by rw [hmE]; exact hmg _
          -- the last part of a round
          have rest : ∀ x7 : Value, x7.category = 1 → WP m_M_meanings 125 [.ref 56, .int (nI j), .int (nI S), .int (nI (sm (fun x => if nwB N L lm S e j x = true then 1 else 0) x)), .int (bz (c = true)), .int (nI x), .int (bz (nwB N L lm S e j x = true)), x7, x8] [] τ1 (Lp N L lm σ (fun M z => ∃ S, RcOf N L lm s S ∧ z = meF N L lm S e j M)) := by
            intro x7 hx7
            have es : sm (fun x => if nwB N L lm S e j x = true then 1 else 0) (x + 1) = sm (fun x => if nwB N L lm S e j x = true then 1 else 0) x + (if nwB N L lm S e j x = true then 1 else 0) := rfl
            have nx : ∀ (c' : Bool) (x6 x7 x8 : Value), x6.category = 1 → x7.category = 1 → c' = (c && srB N L lm S e j x) → WP m_M_meanings 221 [.ref 56, .int (nI j), .int (nI S), .int (nI (sm (fun x => if nwB N L lm S e j x = true then 1 else 0) (x + 1))), .int (bz (c' = true)), .int (nI x), x6, x7, x8] [] τ1 (Lp N L lm σ (fun M z => ∃ S, RcOf N L lm s S ∧ z = meF N L lm S e j M)) := by
              intro c' x6 x7 x8 hx6 hx7 hc'
              refine wp_iinc5 d_M_meanings_221 (hn_ii1 _) (by decide) rfl ?_
              refine wp_goto (tgt := 45) d_M_meanings_224 (by decide) ?_
              rw [nI_1]
              exact ih hx2 τ1 _ _ _ c' hx6 hx7 g1 g2 g3 (by rw [hc', hcx, all_s])
            have mid : ∀ z, z = (if nwB N L lm S e j x = true then 1 else 0) → WP m_M_meanings 136 [.ref 56, .int (nI j), .int (nI S), .int (nI (sm (fun x => if nwB N L lm S e j x = true then 1 else 0) x)), .int (bz (c = true)), .int (nI x), .int (bz (nwB N L lm S e j x = true)), x7, x8] [.int (nI z), .int (nI (sm (fun x => if nwB N L lm S e j x = true then 1 else 0) x))] τ1 (Lp N L lm σ (fun M z => ∃ S, RcOf N L lm s S ∧ z = meF N L lm S e j M)) := by
              intro z hz
              refine wp_iadd d_M_meanings_136 ?_
              rw [nI_add, hz, ← es]
              refine wp_istore3 d_M_meanings_137 (by decide) rfl ?_
              refine wp_iload_n d_M_meanings_138 rfl ?_
              refine wp_iconst (v := 1) d_M_meanings_139 (by decide) ?_
              refine wp_icmp_ne (tgt := 221) d_M_meanings_140 (by decide) (fun hc5 => ?_) (fun hc5 => ?_)
              · rw [show (1 : Int32) = nI 1 from rfl, nI_eq (by omega) (by omega)] at hc5
                exact nx c _ _ _ rfl hx7 (by rw [srB, if_neg hc5, Bool.and_true])
              · rw [show (1 : Int32) = nI 1 from rfl, nI_eq (by omega) (by omega)] at hc5
                refine wp_aload_n d_M_meanings_143 rfl ?_
                refine wp_getA d_M_meanings_144 fl_M_17 rfl rfl rfl ?_
                refine wp_iload d_M_meanings_147 rfl ?_
                refine wp_iald d_M_meanings_149 rfl ?_ ?_
                · exact vp_in_nI (n := x) (by omega) (by decide)
                rw [nI_clamp (show x < 2 ^ 31 by omega), g5]
                refine wp_istore7 d_M_meanings_150 (by decide) rfl ?_
                refine wp_iconst (v := 0) d_M_meanings_152 (by decide) ?_
                refine wp_istore8 d_M_meanings_153 (by decide) rfl ?_
                suffices H : ∀ k, k ≤ 12 → WP m_M_meanings 155 [.ref 56, .int (nI j), .int (nI S), .int (nI (sm (fun x => if nwB N L lm S e j x = true then 1 else 0) (x + 1))), .int (bz (c = true)), .int (nI x), .int (bz (nwB N L lm S e j x = true)), .int (nI (pwN N m k)), .int (nI k)] [] τ1 (Lp N L lm σ (fun M z => ∃ S, RcOf N L lm s S ∧ z = meF N L lm S e j M)) from H 0 (Nat.zero_le _)
                refine lp_nat (fun k hk ih2 => ?_)
                have hpk := pwN_lt hB.2.1 hlt k
                refine wp_iload d_M_meanings_155 rfl ?_
                refine wp_bipush (v := 12) d_M_meanings_157 (by decide) ?_
                refine wp_icmp_ge (tgt := 183) d_M_meanings_159 (by decide) (fun hc6 => ?_) (fun hc6 => ?_)
                · obtain rfl := Nat.le_antisymm hk (nI_ge2 (b := 12) hc6 (by omega) (by omega))
                  have hp13 := pwN_lt hB.2.1 hlt 13
                  refine wp_iload d_M_meanings_183 rfl ?_
                  refine wp_aload_n d_M_meanings_185 rfl ?_
                  refine wp_iload d_M_meanings_186 rfl ?_
                  refine wp_iload_n d_M_meanings_188 rfl ?_
                  refine wp_callV2e d_M_meanings_189 cv_M_229 rfl rfl rfl ⟨Nat.le_of_ble_eq_true rfl, Nat.le_of_ble_eq_true rfl⟩ (Nat.le_of_ble_eq_true rfl) (Nat.le_of_ble_eq_true rfl) (c_M_meaning (by omega) (by omega) _ g6 g2 (fun i hi => by have := hh6 i hi; omega)) ?_
                  refine wp_aload_n d_M_meanings_192 rfl ?_
                  refine wp_aload_n d_M_meanings_193 rfl ?_
                  refine wp_iload d_M_meanings_194 rfl ?_
                  refine wp_aload_n d_M_meanings_196 rfl ?_
                  refine wp_getA d_M_meanings_197 fl_M_17 rfl rfl rfl ?_
                  refine wp_iload d_M_meanings_200 rfl ?_
                  refine wp_iald d_M_meanings_202 rfl ?_ ?_
                  · exact vp_in_nI (n := x) (by omega) (by decide)
                  rw [nI_clamp (show x < 2 ^ 31 by omega), g5]
                  refine wp_callV2e d_M_meanings_203 cv_M_124 rfl rfl rfl ⟨Nat.le_of_ble_eq_true rfl, Nat.le_of_ble_eq_true rfl⟩ (Nat.le_of_ble_eq_true rfl) (Nat.le_of_ble_eq_true rfl) (c_M_both (by omega) (by omega) _ g6) ?_
                  rw [← pwN_s, show 12 + 1 = 13 from rfl]
                  refine wp_iload_n d_M_meanings_206 rfl ?_
                  refine wp_callV2e d_M_meanings_207 cv_M_229 rfl rfl rfl ⟨Nat.le_of_ble_eq_true rfl, Nat.le_of_ble_eq_true rfl⟩ (Nat.le_of_ble_eq_true rfl) (Nat.le_of_ble_eq_true rfl) (c_M_meaning (by omega) (by omega) _ g6 g2 (fun i hi => by have := hh6 i hi; omega)) ?_
                  have m1 := hmg (pwN N m 12)
                  have m2 := hmg (pwN N m 13)
                  have esr : srB N L lm S e j x = decide (mgN N S h (pwN N m 12) = mgN N S h (pwN N m 13)) := by rw [srB, if_pos hc5, ← hm, ← hh]
                  refine wp_icmp_ne (tgt := 217) d_M_meanings_210 (by decide) (fun hc7 => ?_) (fun hc7 => ?_)
                  · rw [nI_eq (by omega) (by omega)] at hc7
                    refine wp_iconst (v := 0) d_M_meanings_217 (by decide) ?_
                    refine wp_iand d_M_meanings_218 ?_
                    rw [bz_and0]
                    refine wp_istore4 d_M_meanings_219 (by decide) rfl ?_
                    exact nx false _ _ _ rfl rfl (by rw [esr, decide_eq_false hc7, Bool.and_false])
                  · rw [nI_eq (by omega) (by omega)] at hc7
                    refine wp_iconst (v := 1) d_M_meanings_213 (by decide) ?_
                    refine wp_goto (tgt := 218) d_M_meanings_214 (by decide) ?_
                    refine wp_iand d_M_meanings_218 ?_
                    rw [bz_and1]
                    refine wp_istore4 d_M_meanings_219 (by decide) rfl ?_
                    exact nx c _ _ _ rfl rfl (by rw [esr, decide_eq_true hc7, Bool.and_true])
                · have hk2 := nI_nge (b := 12) hc6 (by omega) (by omega)
                  refine wp_aload_n d_M_meanings_162 rfl ?_
                  refine wp_iload d_M_meanings_163 rfl ?_
                  refine wp_aload_n d_M_meanings_165 rfl ?_
                  refine wp_getA d_M_meanings_166 fl_M_17 rfl rfl rfl ?_
                  refine wp_iload d_M_meanings_169 rfl ?_
                  refine wp_iald d_M_meanings_171 rfl ?_ ?_
                  · exact vp_in_nI (n := x) (by omega) (by decide)
                  rw [nI_clamp (show x < 2 ^ 31 by omega), g5]
                  refine wp_callV2e d_M_meanings_172 cv_M_124 rfl rfl rfl ⟨Nat.le_of_ble_eq_true rfl, Nat.le_of_ble_eq_true rfl⟩ (Nat.le_of_ble_eq_true rfl) (Nat.le_of_ble_eq_true rfl) (c_M_both (by omega) (by omega) _ g6) ?_
                  refine wp_istore7 d_M_meanings_175 (by decide) rfl ?_
                  refine wp_iinc8 d_M_meanings_177 (hn_ii1 _) (by decide) rfl ?_
                  refine wp_goto (tgt := 155) d_M_meanings_180 (by decide) ?_
                  rw [nI_1, ← pwN_s]
                  exact ih2 hk2
            refine wp_iload_n d_M_meanings_125 rfl ?_
            refine wp_iload d_M_meanings_126 rfl ?_
            refine wp_if_eq (tgt := 135) d_M_meanings_128 (by decide) (fun hc5 => ?_) (fun hc5 => ?_)
            · rw [bz_0] at hc5
              refine wp_iconst (v := 0) d_M_meanings_135 (by decide) ?_
              exact mid 0 (by rw [if_neg hc5])
            · have hc5 := bz_n0 hc5
              refine wp_iconst (v := 1) d_M_meanings_131 (by decide) ?_
              refine wp_goto (tgt := 136) d_M_meanings_132 (by decide) ?_
              exact mid 1 (by rw [if_pos hc5])
          refine wp_iconst (v := 1) d_M_meanings_73 (by decide) ?_
          refine wp_istore6 d_M_meanings_74 (by decide) rfl ?_
          refine wp_iconst (v := 0) d_M_meanings_76 (by decide) ?_
          refine wp_istore7 d_M_meanings_77 (by decide) rfl ?_
          suffices H : ∀ k, k ≤ x → ∀ d : Bool, d = (if j = 0 then (List.range k).all (fun k => decide (¬ mgE N L lm S e k = mgE N L lm S e x)) else true) → WP m_M_meanings 79 [.ref 56, .int (nI j), .int (nI S), .int (nI (sm (fun x => if nwB N L lm S e j x = true then 1 else 0) x)), .int (bz (c = true)), .int (nI x), .int (bz (d = true)), .int (nI k), x8] [] τ1 (Lp N L lm σ (fun M z => ∃ S, RcOf N L lm s S ∧ z = meF N L lm S e j M)) by
            have := H 0 (Nat.zero_le _) true (by split <;> rfl)
            rw [bz_t (p := (true = true)) rfl] at this
            exact this
          refine lp_nat (fun k hk ih2 d hd => ?_)
          refine wp_iload d_M_meanings_79 rfl ?_
          refine wp_iload d_M_meanings_81 rfl ?_
          refine wp_icmp_ge (tgt := 125) d_M_meanings_83 (by decide) (fun hc5 => ?_) (fun hc5 => ?_)
          · obtain rfl := Nat.le_antisymm hk (nI_ge2 hc5 (by omega) (by omega))
            have : d = nwB N L lm S e j k := by rw [hd, nwB]
            rw [this]
            exact rest _ rfl
          · have hk2 := nI_nge hc5 (by omega) (by omega)
            refine wp_iload d_M_meanings_86 rfl ?_
            refine wp_if_eq (tgt := 125) d_M_meanings_88 (by decide) (fun hc6 => ?_) (fun hc6 => ?_)
            · rw [bz_0] at hc6
              have hdf : d = false := by cases d with
                | false => rfl
                | true => exact absurd rfl hc6
              have : d = nwB N L lm S e j x := by
                rw [hdf] at hd ⊢
                rw [nwB]
                by_cases q : j = 0
                · rw [if_pos q] at hd ⊢
                  exact (all_f hk hd.symm).symm
                · rw [if_neg q] at hd; cases hd
              rw [this]
              exact rest _ rfl
            · have hc6 := bz_n0 hc6
              refine wp_iload_n d_M_meanings_91 rfl ?_
              refine wp_if_ne (tgt := 125) d_M_meanings_92 (by decide) (fun hc7 => ?_) (fun hc7 => ?_)
              · rw [show (0 : Int32) = nI 0 from rfl, nI_eq (by omega) (by omega)] at hc7
                have : d = nwB N L lm S e j x := by rw [hd, nwB, if_neg hc7, if_neg hc7]
                rw [this]
                exact rest _ rfl
              · rw [show (0 : Int32) = nI 0 from rfl, nI_eq (by omega) (by omega)] at hc7
                have b1 := hbd k
                have b2 := hbd x
                rw [if_pos hc7, hc6] at hd
                refine wp_aload_n d_M_meanings_95 rfl ?_
                refine wp_getA d_M_meanings_96 fl_M_79 rfl rfl rfl ?_
                refine wp_iload d_M_meanings_99 rfl ?_
                refine wp_iald d_M_meanings_101 rfl ?_ ?_
                · exact vp_in_nI (n := k) (by omega) (by decide)
                rw [nI_clamp (show k < 2 ^ 31 by omega), g3 k (by omega)]
                refine wp_aload_n d_M_meanings_102 rfl ?_
                refine wp_getA d_M_meanings_103 fl_M_79 rfl rfl rfl ?_
                refine wp_iload d_M_meanings_106 rfl ?_
                refine wp_iald d_M_meanings_108 rfl ?_ ?_
                · exact vp_in_nI (n := x) (by omega) (by decide)
                rw [nI_clamp (show x < 2 ^ 31 by omega), g3 x (by omega)]
                refine wp_icmp_eq (tgt := 116) d_M_meanings_109 (by decide) (fun hc8 => ?_) (fun hc8 => ?_)
                · rw [nI_eq (by omega) (by omega)] at hc8
                  refine wp_iconst (v := 0) d_M_meanings_116 (by decide) ?_
                  refine wp_istore6 d_M_meanings_117 (by decide) rfl ?_
                  refine wp_iinc7 d_M_meanings_119 (hn_ii1 _) (by decide) rfl ?_
                  refine wp_goto (tgt := 79) d_M_meanings_122 (by decide) ?_
                  rw [nI_1]
                  exact ih2 hk2 false (by rw [if_pos hc7, all_s, ← hd, decide_eq_false (fun q => q hc8)]; rfl)
                · rw [nI_eq (by omega) (by omega)] at hc8
                  refine wp_iconst (v := 1) d_M_meanings_112 (by decide) ?_
                  refine wp_goto (tgt := 117) d_M_meanings_113 (by decide) ?_
                  refine wp_istore6 d_M_meanings_117 (by decide) rfl ?_
                  refine wp_iinc7 d_M_meanings_119 (hn_ii1 _) (by decide) rfl ?_
                  refine wp_goto (tgt := 79) d_M_meanings_122 (by decide) ?_
                  rw [nI_1]
                  exact ih2 hk2 true (by rw [if_pos hc7, all_s, ← hd, decide_eq_true hc8]; rfl)
      · exact absurd hc2 (by decide)
  · exact absurd ⟨nI_pos' (by omega), nI_le (b := 1) hj (by decide)⟩ (bz_0.mp hc)
