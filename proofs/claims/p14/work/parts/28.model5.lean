/-! contracts: parting, as the reference has it -/
theorem sr_skip {p : Nat → Prop} [DecidablePred p] : ∀ (f k i : Nat), (∀ j, k ≤ j → j < k + i → ¬ p j) → i ≤ f → sr p f k = sr p (f - i) (k + i)
  | f, k, 0, _, _ => rfl
  | 0, k, i + 1, _, h => absurd h (by omega)
  | f + 1, k, i + 1, h, hi => by
    rw [sr, if_neg (h k (Nat.le_refl _) (by omega)), sr_skip f (k + 1) i (fun j h1 h2 => h j (by omega) (by omega)) (by omega), show f + 1 - (i + 1) = f - i by omega, show k + 1 + i = k + (i + 1) by omega]
theorem sr_first {p : Nat → Prop} [DecidablePred p] {n k : Nat} (h : ∀ j, j < k → ¬ p j) (hk : p k) (hn : k < n) : sr p n 0 = k := by
  rw [sr_skip n 0 k (fun j _ h2 => h j (by omega)) (by omega), Nat.zero_add]
  obtain ⟨d, hd⟩ : ∃ d, n - k = d + 1 := ⟨n - k - 1, by omega⟩
  rw [hd, sr, if_pos hk]
theorem sr_none {p : Nat → Prop} [DecidablePred p] {n : Nat} (h : ∀ j, j < n → ¬ p j) : sr p n 0 = n := by
  rw [sr_skip n 0 n (fun j _ h2 => h j (by omega)) (by omega), Nat.sub_self, Nat.zero_add]
  rfl
theorem pre_dep {st : Nat → Nat → Nat} {L s : Nat} {P Q : BQ} (h : Pre P Q) (hP : BI st L s P) (hQ : BI st L s Q) : ∀ j, j < P.length → dep Q j = dep P j := by
  intro j
  induction j using Nat.strongRecOn with
  | _ j ih =>
    intro hj
    rcases Nat.eq_zero_or_pos j with rfl | h0
    · rfl
    · have a1 := (hP.2.2.2 j h0 hj).1
      rw [dep_s hP h0 hj, dep_s hQ h0 (Nat.lt_of_lt_of_le hj h.1), h.par hj, ih _ a1 (by omega)]
theorem pre_bk {st : Nat → Nat → Nat} {L s : Nat} {P Q : BQ} (h : Pre P Q) (hP : BI st L s P) {j : Nat} (hj : j < P.length) : ∀ t, t ≤ dep P j → bkF Q t j = bkF P t j
  | 0, _ => rfl
  | t + 1, ht => by
    have ih := pre_bk h hP hj t (by omega)
    obtain ⟨b1, -⟩ := bkF_dep hP hj t (by omega)
    show par Q (bkF Q t j) = par P (bkF P t j)
    rw [ih, h.par b1]
theorem pre_wa {st : Nat → Nat → Nat} {L s : Nat} {P Q : BQ} (h : Pre P Q) (hP : BI st L s P) (hQ : BI st L s Q) {j : Nat} (hj : j < P.length) (i : Int32) : waF Q j i = waF P j i := by
  have hd := pre_dep h hP hQ j hj
  unfold waF
  rw [hd]
  split
  · rfl
  · split
    · rename_i h2
      have hlt : i.toNatClampNeg ≤ 2 ^ 31 := by
        have := Int32.toInt_lt i
        show i.toInt.toNat ≤ _
        omega
      obtain ⟨b1, b2⟩ := bkF_dep hP hj (dep P j - 1 - i.toNatClampNeg) (by omega)
      rw [pre_bk h hP hj _ (by omega), h.ltr b1]
    · rfl
def stP (N : Nat) (lm : Nat → Nat) (k x : Nat) : Nat := 6 * gN N (lm k) (x / 6) + gN N (lm k) (x % 6)
def QP (N L : Nat) (lm : Nat → Nat) (x : Nat) : BQ := bfQ (stP N lm) L x (nx64 N)
theorem stP_lt {N : Nat} {lm : Nat → Nat} (hN : 0 < N) (h6 : N ≤ 6) (k x : Nat) : stP N lm k x < 36 := by
  have h1 := gN_lt (N := N) (m := lm k) (i := x / 6) hN
  have h2 := gN_lt (N := N) (m := lm k) (i := x % 6) hN
  unfold stP
  omega
theorem QP_BI {N L : Nat} {lm : Nat → Nat} {x : Nat} : BI (stP N lm) L x (QP N L lm x) := BI.Q _
def ptP (e x : Nat) : Prop := ¬ e / 2 ^ (x / 6) % 2 = e / 2 ^ (x % 6) % 2
theorem ptP_dec (e x : Nat) : ptP e x ∨ ¬ ptP e x := Classical.em _
def ptB (e x : Nat) : Bool := !decide (e / 2 ^ (x / 6) % 2 = e / 2 ^ (x % 6) % 2)
theorem c_M_isParted {e x : Nat} (he : e < 64) (hx : x < 36) (σ : Hp) (h5 : σ.1 56 5 = nI e) : Ct m_M_isParted [.ref 56, .int (nI x)] σ (Rt (.int (bz (ptB e x = true))) σ) := by
  show WP m_M_isParted 0 [.ref 56, .int (nI x)] [] σ _
  refine wp_aload_n d_M_isParted_0 rfl ?_
  refine wp_getI d_M_isParted_1 fl_M_110 rfl rfl (by decide) ?_
  refine wp_iload_n d_M_isParted_4 rfl ?_
  refine wp_bipush (v := 6) d_M_isParted_5 (by decide) ?_
  refine wp_idiv d_M_isParted_7 ?_ ?_
  · decide
  rw [h5, show (6 : Int32) = nI 6 from rfl, pk_div (d := 6) (by omega) (by decide) (by decide)]
  refine wp_ishr d_M_isParted_8 ?_
  refine wp_iconst (v := 1) d_M_isParted_9 (by decide) ?_
  refine wp_iand d_M_isParted_10 ?_
  refine wp_aload_n d_M_isParted_11 rfl ?_
  refine wp_getI d_M_isParted_12 fl_M_110 rfl rfl (by decide) ?_
  refine wp_iload_n d_M_isParted_15 rfl ?_
  refine wp_bipush (v := 6) d_M_isParted_16 (by decide) ?_
  refine wp_irem d_M_isParted_18 ?_ ?_
  · decide
  rw [h5, show (6 : Int32) = nI 6 from rfl, pk_rem (d := 6) (by omega) (by decide) (by decide), bt_nI (by omega) (by omega)]
  refine wp_ishr d_M_isParted_19 ?_
  refine wp_iconst (v := 1) d_M_isParted_20 (by decide) ?_
  refine wp_iand d_M_isParted_21 ?_
  rw [bt_nI (by omega) (by omega)]
  have a1 := Nat.mod_lt (e / 2 ^ (x / 6)) (show 0 < 2 by decide)
  have a2 := Nat.mod_lt (e / 2 ^ (x % 6)) (show 0 < 2 by decide)
  refine wp_icmp_eq (tgt := 29) d_M_isParted_22 (by decide) (fun h3 => ?_) (fun h3 => ?_)
  · rw [nI_eq (by omega) (by omega)] at h3
    rw [bz_f (by rw [ptB, decide_eq_true h3]; decide)]
    refine wp_iconst (v := 0) d_M_isParted_29 (by decide) ?_
    refine wp_zret d_M_isParted_30 rfl ?_ ?_
    · decide
    · exact ⟨rfl, rfl⟩
  · rw [nI_eq (by omega) (by omega)] at h3
    rw [bz_t (by rw [ptB, decide_eq_false h3]; rfl)]
    refine wp_iconst (v := 1) d_M_isParted_25 (by decide) ?_
    refine wp_goto (tgt := 30) d_M_isParted_26 (by decide) ?_
    refine wp_zret d_M_isParted_30 rfl ?_ ?_
    · decide
    · exact ⟨rfl, rfl⟩
theorem c_M_parting_no (a b i : Int32) {N : Nat} (σ : Hp) (hB : MB σ N) (h : ¬ (0 ≤ a ∧ a ≤ nI (N - 1)) ∨ ¬ (0 ≤ b ∧ b ≤ nI (N - 1)) ∨ ¬ -1 ≤ i) : Ct m_M_parting [.ref 56, .int a, .int b, .int i] σ (Rt (.int (-1)) (Th σ)) := by
  have hB := hB.th
  show WP m_M_parting 0 [.ref 56, .int a, .int b, .int i, .null, .null, .null, .null, .null] [] σ _
  have bad : WP m_M_parting 26 [.ref 56, .int a, .int b, .int i, .null, .null, .null, .null, .null] [] (Th σ) (Rt (.int (-1)) (Th σ)) := by
    refine wp_iconst (v := -1) d_M_parting_26 (by decide) ?_
    refine wp_iret d_M_parting_27 rfl ?_
    exact ⟨rfl, rfl⟩
  refine wp_aload_n d_M_parting_0 rfl ?_
  refine wp_iconst (v := 0) d_M_parting_1 (by decide) ?_
  refine wp_putI d_M_parting_2 fp_M_89 rfl rfl (by decide) rfl rfl ?_
  show WP m_M_parting 5 _ _ (Th σ) _
  refine wp_aload_n d_M_parting_5 rfl ?_
  refine wp_iload_n d_M_parting_6 rfl ?_
  refine wp_callV1e d_M_parting_7 cv_M_201 rfl rfl rfl ⟨Nat.le_of_ble_eq_true rfl, Nat.le_of_ble_eq_true rfl⟩ (Nat.le_of_ble_eq_true rfl) (Nat.le_of_ble_eq_true rfl) (c_M_isPoint _ _ hB) ?_
  refine wp_if_eq (tgt := 26) d_M_parting_10 (by decide) (fun hc => ?_) (fun hc => ?_)
  · exact bad
  · refine wp_aload_n d_M_parting_13 rfl ?_
    refine wp_iload_n d_M_parting_14 rfl ?_
    refine wp_callV1e d_M_parting_15 cv_M_201 rfl rfl rfl ⟨Nat.le_of_ble_eq_true rfl, Nat.le_of_ble_eq_true rfl⟩ (Nat.le_of_ble_eq_true rfl) (Nat.le_of_ble_eq_true rfl) (c_M_isPoint _ _ hB) ?_
    refine wp_if_eq (tgt := 26) d_M_parting_18 (by decide) (fun hc2 => ?_) (fun hc2 => ?_)
    · exact bad
    · refine wp_iload_n d_M_parting_21 rfl ?_
      refine wp_iconst (v := -1) d_M_parting_22 (by decide) ?_
      refine wp_icmp_ge (tgt := 28) d_M_parting_23 (by decide) (fun hc3 => ?_) (fun hc3 => ?_)
      · exact h.elim (fun q => absurd (bz_n0 hc) q) (fun q => q.elim (fun q => absurd (bz_n0 hc2) q) (fun q => absurd hc3 q))
      · exact bad
theorem c_M_parting {a b e N L : Nat} {lm : Nat → Nat} (i : Int32) (σ : Hp) (hB : MB σ N) (hL : LT σ N L lm) (he : σ.1 56 5 = nI e) (he2 : e < 2 ^ N) (ha : a < N) (hb : b < N) (hi : -1 ≤ i) : Ct m_M_parting [.ref 56, .int (nI a), .int (nI b), .int i] σ (fun w τ => w = some (.int (fwF (QP N L lm (6 * a + b)) (fun x => ptB e x = true) i)) ∧ Fp wS (Th σ) τ) := by
  have hB := hB.th
  have hL := hL.th
  have h6 := hB.2.2
  have he64 : e < 64 := by have := pow2_le6 h6; omega
  have he : (Th σ).1 56 5 = nI e := by rw [Th, wI_eq]; exact he
  obtain ⟨s, hs⟩ : ∃ s, s = 6 * a + b := ⟨_, rfl⟩
  have hs36 : s < 36 := by omega
  have hp6 := pow6 h6
  have bd : ∀ Q, BI (stP N lm) L s Q → (∀ j, j < Q.length → itm Q j < 36) ∧ Q.length ≤ 36 := by
    intro Q hQ
    have hb := hQ.bd hs36 (fun k x _ _ => stP_lt hB.2.1 h6 k x)
    exact ⟨hb, hQ.len hb⟩
  rw [← hs]
  show WP m_M_parting 0 [.ref 56, .int (nI a), .int (nI b), .int i, .null, .null, .null, .null, .null] [] σ _
  refine wp_aload_n d_M_parting_0 rfl ?_
  refine wp_iconst (v := 0) d_M_parting_1 (by decide) ?_
  refine wp_putI d_M_parting_2 fp_M_89 rfl rfl (by decide) rfl rfl ?_
  show WP m_M_parting 5 _ _ (Th σ) _
  refine wp_aload_n d_M_parting_5 rfl ?_
  refine wp_iload_n d_M_parting_6 rfl ?_
  refine wp_callV1e d_M_parting_7 cv_M_201 rfl rfl rfl ⟨Nat.le_of_ble_eq_true rfl, Nat.le_of_ble_eq_true rfl⟩ (Nat.le_of_ble_eq_true rfl) (Nat.le_of_ble_eq_true rfl) (c_M_isPoint _ _ hB) ?_
  refine wp_if_eq (tgt := 26) d_M_parting_10 (by decide) (fun hc => ?_) (fun hc => ?_)
  · exact absurd ⟨nI_pos' (by omega), nI_le (by omega) (by omega)⟩ (bz_0.mp hc)
  · refine wp_aload_n d_M_parting_13 rfl ?_
    refine wp_iload_n d_M_parting_14 rfl ?_
    refine wp_callV1e d_M_parting_15 cv_M_201 rfl rfl rfl ⟨Nat.le_of_ble_eq_true rfl, Nat.le_of_ble_eq_true rfl⟩ (Nat.le_of_ble_eq_true rfl) (Nat.le_of_ble_eq_true rfl) (c_M_isPoint _ _ hB) ?_
    refine wp_if_eq (tgt := 26) d_M_parting_18 (by decide) (fun hc2 => ?_) (fun hc2 => ?_)
    · exact absurd ⟨nI_pos' (by omega), nI_le (by omega) (by omega)⟩ (bz_0.mp hc2)
    · refine wp_iload_n d_M_parting_21 rfl ?_
      refine wp_iconst (v := -1) d_M_parting_22 (by decide) ?_
      refine wp_icmp_ge (tgt := 28) d_M_parting_23 (by decide) (fun hc3 => ?_) (fun hc3 => ?_)
      · refine wp_iconst (v := 0) d_M_parting_28 (by decide) ?_
        refine wp_istore4 d_M_parting_29 (by decide) rfl ?_
        have fill : ∀ k, k ≤ 36 → ∀ (τ : Hp), Fp wS (Th σ) τ → (∀ x, x < k → τ.1 74 x = -9) → WP m_M_parting 31 [.ref 56, .int (nI a), .int (nI b), .int i, .int (nI k), .null, .null, .null, .null] [] τ (fun w τ => w = some (.int (fwF (QP N L lm s) (fun x => ptB e x = true) i)) ∧ Fp wS (Th σ) τ) := by
          refine lp_nat (fun k hk ih τ hF h9 => ?_)
          refine wp_iload d_M_parting_31 rfl ?_
          refine wp_bipush (v := 36) d_M_parting_33 (by decide) ?_
          refine wp_icmp_ge (tgt := 53) d_M_parting_35 (by decide) (fun hc => ?_) (fun hc => ?_)
          · obtain rfl := Nat.le_antisymm hk (nI_ge2 (b := 36) hc (by omega) (by omega))
            refine wp_bipush (v := 6) d_M_parting_53 (by decide) ?_
            refine wp_iload_n d_M_parting_55 rfl ?_
            refine wp_imul d_M_parting_56 ?_
            refine wp_iload_n d_M_parting_57 rfl ?_
            refine wp_iadd d_M_parting_58 ?_
            rw [show (6 : Int32) = nI 6 from rfl, pk_mul, nI_add, ← hs]
            refine wp_istore4 d_M_parting_59 (by decide) rfl ?_
            refine wp_aload_n d_M_parting_61 rfl ?_
            refine wp_getA d_M_parting_62 fl_M_67 rfl rfl rfl ?_
            refine wp_iload d_M_parting_65 rfl ?_
            refine wp_iload d_M_parting_67 rfl ?_
            refine wp_iast d_M_parting_69 rfl ?_ ?_
            · exact vp_in_nI (by omega) (by decide)
            refine wp_aload_n d_M_parting_70 rfl ?_
            refine wp_getA d_M_parting_71 fl_M_64 rfl rfl rfl ?_
            refine wp_iconst (v := 0) d_M_parting_74 (by decide) ?_
            refine wp_iload d_M_parting_75 rfl ?_
            refine wp_iast d_M_parting_77 rfl ?_ ?_
            · exact vp_in_nI (n := 0) (by decide) (by decide)
            rw [nI_clamp (show s < 2 ^ 31 by omega), show (0 : Int32).toNatClampNeg = 0 by decide]
            refine wp_iconst (v := 1) d_M_parting_78 (by decide) ?_
            refine wp_istore5 d_M_parting_79 (by decide) rfl ?_
            refine wp_iconst (v := 0) d_M_parting_81 (by decide) ?_
            refine wp_istore6 d_M_parting_82 (by decide) rfl ?_
            suffices H : ∀ d i0, 64 - i0 = d → ∀ (τ : Hp) (x7 x8 : Value), x7.category = 1 → i0 ≤ (bfQ (stP N lm) L s i0).length → Fp wS (Th σ) τ → WK τ 36 (bfQ (stP N lm) L s i0) → (∀ j, j < i0 → ¬ ptB e (itm (bfQ (stP N lm) L s i0) j) = true) → WP m_M_parting 84 [.ref 56, .int (nI a), .int (nI b), .int i, .int (nI s), .int (nI (bfQ (stP N lm) L s i0).length), .int (nI i0), x7, x8] [] τ (fun w τ => w = some (.int (fwF (QP N L lm s) (fun x => ptB e x = true) i)) ∧ Fp wS (Th σ) τ) by
              refine H 64 0 rfl _ _ _ rfl (Nat.zero_le _) ((hF.wI (by decide)).wI (by decide)) ⟨fun j hj => ?_, fun x hx hn => ?_⟩ (fun j hj => absurd hj (Nat.not_lt_zero j))
              · obtain rfl : j = 0 := by
                  have : (bfQ (stP N lm) L s 0).length = 1 := rfl
                  omega
                refine ⟨?_, ?_, fun h => absurd h (by omega)⟩
                · rw [wI_eq, upd_eq]; rfl
                · show (wI (wI τ 74 s (nI s)) 73 0 (nI s)).1 74 s = nI s
                  rw [wI_ne (by decide), wI_eq, upd_eq]
              · have hxS : x ≠ s := fun e => by
                  have h8 : hasB (bfQ (stP N lm) L s 0) s = true := hasB_iff.mpr ⟨0, Nat.zero_lt_one, rfl⟩
                  rw [e, h8] at hn
                  cases hn
                rw [wI_ne (by decide), wI_eq, upd_ne hxS]
                exact h9 x hx
            intro d
            induction d with
            | zero =>
              intro i0 hd τ x7 x8 hx7 hil hF hW hnp
              have hQ := BI.Q (st := stP N lm) (L := L) (s := s) i0
              have hl36 := (bd _ hQ).2
              omega
            | succ d ihd =>
              intro i0 hd τ x7 x8 hx7 hil hF hW hnp
              have hQ := BI.Q (st := stP N lm) (L := L) (s := s) i0
              obtain ⟨hb36, hl36⟩ := bd _ hQ
              have hpre : Pre (bfQ (stP N lm) L s i0) (QP N L lm s) := by
                have := bfQ_pre (st := stP N lm) (L := L) (s := s) i0 (64 - i0)
                rw [show i0 + (64 - i0) = 64 by omega] at this
                rw [QP, nx64_eq]
                exact this
              refine wp_iload d_M_parting_84 rfl ?_
              refine wp_iload d_M_parting_86 rfl ?_
              refine wp_icmp_ge (tgt := 239) d_M_parting_88 (by decide) (fun hc2 => ?_) (fun hc2 => ?_)
              · have hle := nI_ge2 hc2 (by omega) (by omega)
                have e9 : QP N L lm s = bfQ (stP N lm) L s i0 := by
                  have := bfQ_stop hle (64 - i0)
                  rw [show i0 + (64 - i0) = 64 by omega] at this
                  rw [QP, nx64_eq]
                  exact this
                have e10 : sr (fun k => ptB e (itm (QP N L lm s) k) = true) (QP N L lm s).length 0 = (QP N L lm s).length := by
                  refine sr_none (fun j hj => ?_)
                  rw [e9] at hj ⊢
                  exact hnp j (by omega)
                refine wp_iload_n d_M_parting_239 rfl ?_
                refine wp_if_ge (tgt := 248) d_M_parting_240 (by decide) (fun hc3 => ?_) (fun hc3 => ?_)
                · refine wp_iconst (v := -1) d_M_parting_248 (by decide) ?_
                  refine wp_iret d_M_parting_249 rfl ?_
                  refine ⟨?_, hF⟩
                  rw [fwF, e10, if_neg (Nat.lt_irrefl _), if_neg (k2_nlt hc3)]
                · refine wp_bipush (v := -9) d_M_parting_243 (by decide) ?_
                  refine wp_goto (tgt := 249) d_M_parting_245 (by decide) ?_
                  refine wp_iret d_M_parting_249 rfl ?_
                  refine ⟨?_, hF⟩
                  rw [fwF, e10, if_neg (Nat.lt_irrefl _), if_pos (k2_lt hc3)]
              · have hlt := nI_nge hc2 (by omega) (by omega)
                have hb0 := hb36 i0 hlt
                have he2 : τ.1 56 5 = nI e := by rw [(hF 56 (by decide)).1]; exact he
                refine wp_aload_n d_M_parting_91 rfl ?_
                refine wp_aload_n d_M_parting_92 rfl ?_
                refine wp_getA d_M_parting_93 fl_M_64 rfl rfl rfl ?_
                refine wp_iload d_M_parting_96 rfl ?_
                refine wp_iald d_M_parting_98 rfl ?_ ?_
                · exact vp_in_nI (n := i0) (by omega) (by decide)
                rw [nI_clamp (show i0 < 2 ^ 31 by omega), (hW.1 i0 hlt).1]
                refine wp_callV1e d_M_parting_99 cv_M_226 rfl rfl rfl ⟨Nat.le_of_ble_eq_true rfl, Nat.le_of_ble_eq_true rfl⟩ (Nat.le_of_ble_eq_true rfl) (Nat.le_of_ble_eq_true rfl) (c_M_isParted he64 hb0 _ he2) ?_
                refine wp_if_eq (tgt := 120) d_M_parting_102 (by decide) (fun hc3 => ?_) (fun hc3 => ?_)
                · rw [bz_0] at hc3
                  refine wp_iconst (v := 0) d_M_parting_120 (by decide) ?_
                  refine wp_istore7 d_M_parting_121 (by decide) rfl ?_
                  suffices H : ∀ k, k ≤ L → ∀ (τ : Hp) (x8 : Value), Fp wS (Th σ) τ → WK τ 36 (it (fun k Q => bfA (stP N lm) i0 k Q) k (bfQ (stP N lm) L s i0)) → WP m_M_parting 123 [.ref 56, .int (nI a), .int (nI b), .int i, .int (nI s), .int (nI (it (fun k Q => bfA (stP N lm) i0 k Q) k (bfQ (stP N lm) L s i0)).length), .int (nI i0), .int (nI k), x8] [] τ (fun w τ => w = some (.int (fwF (QP N L lm s) (fun x => ptB e x = true) i)) ∧ Fp wS (Th σ) τ) from H 0 (Nat.zero_le _) τ _ hF hW
                  clear hF hW he2 τ
                  refine lp_nat (fun k hk ih2 τ x8 hF hW => ?_)
                  have hB2 := hF.MB (by decide) hB
                  have hL2 := hF.LT (by decide) (by decide) hL
                  have hQk := hQ.K hlt k hk
                  obtain ⟨Qk, hQe⟩ : ∃ Qk, Qk = it (fun k Q => bfA (stP N lm) i0 k Q) k (bfQ (stP N lm) L s i0) := ⟨_, rfl⟩
                  have hpre2 : Pre (bfQ (stP N lm) L s i0) Qk := by rw [hQe]; exact bfK_pre k
                  rw [← hQe] at hW hQk ⊢
                  have hik : i0 < Qk.length := Nat.lt_of_lt_of_le hlt hpre2.1
                  obtain ⟨hb, hlk⟩ := bd _ hQk
                  refine wp_iload d_M_parting_123 rfl ?_
                  refine wp_aload_n d_M_parting_125 rfl ?_
                  refine wp_getI d_M_parting_126 fl_M_104 rfl rfl (by decide) ?_
                  refine wp_icmp_ge (tgt := 233) d_M_parting_129 (by decide) (fun hc5 => ?_) (fun hc5 => ?_)
                  · rw [hL2.1] at hc5
                    have h4 := hL.2.1
                    have hkL : k = L := Nat.le_antisymm hk (nI_ge2 hc5 (by omega) (by omega))
                    refine wp_iinc6 d_M_parting_233 (hn_ii1 _) (by decide) rfl ?_
                    refine wp_goto (tgt := 84) d_M_parting_236 (by decide) ?_
                    rw [nI_1]
                    have e1 : bfQ (stP N lm) L s (i0 + 1) = Qk := by rw [bfQ_s hlt, hQe, hkL]; rfl
                    have := ihd (i0 + 1) (by omega) τ (.int (nI k)) x8 rfl (by rw [e1]; omega) hF (by rw [e1]; exact hW) (by
                      rw [e1]
                      intro j hj
                      rw [hpre2.itm (by omega)]
                      by_cases hji : j = i0
                      · rw [hji]; exact hc3
                      · exact hnp j (by omega))
                    rw [e1] at this
                    exact this
                  · rw [hL2.1] at hc5
                    have h4 := hL.2.1
                    have hk2 := nI_nge hc5 (by omega) (by omega)
                    obtain ⟨l1, l2⟩ := hL2.2.2 k hk2
                    have hbi := hb i0 hik
                    refine wp_bipush (v := 6) d_M_parting_132 (by decide) ?_
                    refine wp_aload_n d_M_parting_134 rfl ?_
                    refine wp_aload_n d_M_parting_135 rfl ?_
                    refine wp_getA d_M_parting_136 fl_M_13 rfl rfl rfl ?_
                    refine wp_iload d_M_parting_139 rfl ?_
                    refine wp_iald d_M_parting_141 rfl ?_ ?_
                    · exact vp_in_nI (n := k) (by omega) (by decide)
                    rw [nI_clamp (show k < 2 ^ 31 by omega), l1]
                    refine wp_aload_n d_M_parting_142 rfl ?_
                    refine wp_getA d_M_parting_143 fl_M_64 rfl rfl rfl ?_
                    refine wp_iload d_M_parting_146 rfl ?_
                    refine wp_iald d_M_parting_148 rfl ?_ ?_
                    · exact vp_in_nI (n := i0) (by omega) (by decide)
                    rw [nI_clamp (show i0 < 2 ^ 31 by omega), (hW.1 i0 hik).1]
                    refine wp_bipush (v := 6) d_M_parting_149 (by decide) ?_
                    refine wp_idiv d_M_parting_151 ?_ ?_
                    · decide
                    rw [show (6 : Int32) = nI 6 from rfl, pk_div (by omega) (by decide) (by decide)]
                    refine wp_callV2e d_M_parting_152 cv_M_96 rfl rfl rfl ⟨Nat.le_of_ble_eq_true rfl, Nat.le_of_ble_eq_true rfl⟩ (Nat.le_of_ble_eq_true rfl) (Nat.le_of_ble_eq_true rfl) (c_M_goes (by omega) (by omega) _ hB2) ?_
                    refine wp_imul d_M_parting_155 ?_
                    refine wp_aload_n d_M_parting_156 rfl ?_
                    refine wp_aload_n d_M_parting_157 rfl ?_
                    refine wp_getA d_M_parting_158 fl_M_13 rfl rfl rfl ?_
                    refine wp_iload d_M_parting_161 rfl ?_
                    refine wp_iald d_M_parting_163 rfl ?_ ?_
                    · exact vp_in_nI (n := k) (by omega) (by decide)
                    rw [nI_clamp (show k < 2 ^ 31 by omega), l1]
                    refine wp_aload_n d_M_parting_164 rfl ?_
                    refine wp_getA d_M_parting_165 fl_M_64 rfl rfl rfl ?_
                    refine wp_iload d_M_parting_168 rfl ?_
                    refine wp_iald d_M_parting_170 rfl ?_ ?_
                    · exact vp_in_nI (n := i0) (by omega) (by decide)
                    rw [nI_clamp (show i0 < 2 ^ 31 by omega), (hW.1 i0 hik).1]
                    refine wp_bipush (v := 6) d_M_parting_171 (by decide) ?_
                    refine wp_irem d_M_parting_173 ?_ ?_
                    · decide
                    rw [show (6 : Int32) = nI 6 from rfl, pk_rem (by omega) (by decide) (by decide)]
                    refine wp_callV2e d_M_parting_174 cv_M_96 rfl rfl rfl ⟨Nat.le_of_ble_eq_true rfl, Nat.le_of_ble_eq_true rfl⟩ (Nat.le_of_ble_eq_true rfl) (Nat.le_of_ble_eq_true rfl) (c_M_goes (by omega) (by omega) _ hB2) ?_
                    refine wp_iadd d_M_parting_177 ?_
                    rw [pk_mul, nI_add]
                    obtain ⟨w, hw⟩ : ∃ w, w = stP N lm k (itm Qk i0) := ⟨_, rfl⟩
                    have hwlt : w < 36 := by rw [hw]; exact stP_lt hB.2.1 h6 _ _
                    rw [show 6 * gN N (lm k) (itm Qk i0 / 6) + gN N (lm k) (itm Qk i0 % 6) = w from hw.symm]
                    refine wp_istore8 d_M_parting_178 (by decide) rfl ?_
                    refine wp_aload_n d_M_parting_180 rfl ?_
                    refine wp_getA d_M_parting_181 fl_M_67 rfl rfl rfl ?_
                    refine wp_iload d_M_parting_184 rfl ?_
                    refine wp_iald d_M_parting_186 rfl ?_ ?_
                    · exact vp_in_nI (n := w) (by omega) (by decide)
                    rw [nI_clamp (show w < 2 ^ 31 by omega)]
                    have eA : it (fun k Q => bfA (stP N lm) i0 k Q) (k + 1) (bfQ (stP N lm) L s i0) = bfA (stP N lm) i0 k Qk := by rw [bfK_s, ← hQe]
                    refine wp_bipush (v := -9) d_M_parting_187 (by decide) ?_
                    refine wp_icmp_ne (tgt := 227) d_M_parting_189 (by decide) (fun hc6 => ?_) (fun hc6 => ?_)
                    · have hin : hasB Qk w = true := by
                        cases q : hasB Qk w with
                        | true => rfl
                        | false => exact absurd (hW.2 w (by omega) q) hc6
                      have eA2 : bfA (stP N lm) i0 k Qk = Qk := by rw [bfA, ← hw, if_pos hin]
                      refine wp_iinc7 d_M_parting_227 (hn_ii1 _) (by decide) rfl ?_
                      refine wp_goto (tgt := 123) d_M_parting_230 (by decide) ?_
                      rw [nI_1]
                      have := ih2 hk2 τ (.int (nI w)) hF (by rw [eA, eA2]; exact hW)
                      rw [eA, eA2] at this
                      exact this
                    · have hout : hasB Qk w = false := by
                        cases q : hasB Qk w with
                        | false => rfl
                        | true =>
                          exfalso
                          obtain ⟨j, hj, e⟩ := hasB_iff.mp q
                          have h7 := (hW.1 j hj).2.1
                          rw [e, hc6] at h7
                          have hpl : par Qk j < Qk.length := by
                            rcases Nat.eq_zero_or_pos j with q0 | q0
                            · rw [q0, hQk.2.1.2]; exact hQk.1
                            · have := (hQk.2.2.2 j q0 hj).1
                              omega
                          have := nI_pos (show itm Qk (par Qk j) < 2 ^ 31 by have := hb _ hpl; omega)
                          rw [← h7] at this
                          exact this (by decide)
                      have eA2 : bfA (stP N lm) i0 k Qk = Qk ++ [(w, i0, k)] := by rw [bfA, ← hw, if_neg (by rw [hout]; decide)]
                      refine wp_aload_n d_M_parting_192 rfl ?_
                      refine wp_getA d_M_parting_193 fl_M_67 rfl rfl rfl ?_
                      refine wp_iload d_M_parting_196 rfl ?_
                      refine wp_aload_n d_M_parting_198 rfl ?_
                      refine wp_getA d_M_parting_199 fl_M_64 rfl rfl rfl ?_
                      refine wp_iload d_M_parting_202 rfl ?_
                      refine wp_iald d_M_parting_204 rfl ?_ ?_
                      · exact vp_in_nI (n := i0) (by omega) (by decide)
                      rw [nI_clamp (show i0 < 2 ^ 31 by omega), (hW.1 i0 hik).1]
                      refine wp_iast d_M_parting_205 rfl (vp_in_nI (by omega) (by decide)) ?_
                      rw [nI_clamp (show w < 2 ^ 31 by omega)]
                      refine wp_aload_n d_M_parting_206 rfl ?_
                      refine wp_getA d_M_parting_207 fl_M_70 rfl rfl rfl ?_
                      refine wp_iload d_M_parting_210 rfl ?_
                      refine wp_iload d_M_parting_212 rfl ?_
                      refine wp_iast d_M_parting_214 rfl ?_ ?_
                      · exact vp_in_nI (n := w) (by omega) (by decide)
                      rw [nI_clamp (show w < 2 ^ 31 by omega)]
                      refine wp_aload_n d_M_parting_215 rfl ?_
                      refine wp_getA d_M_parting_216 fl_M_64 rfl rfl rfl ?_
                      refine wp_iload d_M_parting_219 rfl ?_
                      refine wp_iload d_M_parting_221 rfl ?_
                      refine wp_iast d_M_parting_223 rfl ?_ ?_
                      · exact vp_in_nI (n := Qk.length) (by omega) (by decide)
                      rw [nI_clamp (show Qk.length < 2 ^ 31 by omega)]
                      refine wp_iinc5 d_M_parting_224 (hn_ii1 _) (by decide) rfl ?_
                      refine wp_iinc7 d_M_parting_227 (hn_ii1 _) (by decide) rfl ?_
                      refine wp_goto (tgt := 123) d_M_parting_230 (by decide) ?_
                      rw [nI_1, nI_1]
                      have := ih2 hk2 _ (.int (nI w)) (((hF.wI (k := 74) (j := w) (x := nI (itm Qk i0)) (by decide)).wI (k := 75) (j := w) (x := nI k) (by decide)).wI (k := 73) (j := Qk.length) (x := nI w) (by decide)) (by rw [eA, eA2]; exact hW.add hQk hik hout)
                      rw [eA, eA2] at this
                      simpa using this
                · have hp := bz_n0 hc3
                  have e10 : sr (fun k => ptB e (itm (QP N L lm s) k) = true) (QP N L lm s).length 0 = i0 := by
                    refine sr_first (fun j hj => ?_) ?_ (Nat.lt_of_lt_of_le hlt hpre.1)
                    · rw [hpre.itm (by omega)]; exact hnp j hj
                    · rw [hpre.itm hlt]; exact hp
                  refine wp_aload_n d_M_parting_105 rfl ?_
                  refine wp_aload_n d_M_parting_106 rfl ?_
                  refine wp_getA d_M_parting_107 fl_M_64 rfl rfl rfl ?_
                  refine wp_iload d_M_parting_110 rfl ?_
                  refine wp_iald d_M_parting_112 rfl ?_ ?_
                  · exact vp_in_nI (n := i0) (by omega) (by decide)
                  rw [nI_clamp (show i0 < 2 ^ 31 by omega), (hW.1 i0 hlt).1]
                  refine wp_iload d_M_parting_113 rfl ?_
                  refine wp_iload_n d_M_parting_115 rfl ?_
                  refine wp_callV3e d_M_parting_116 cv_M_195 rfl rfl rfl ⟨Nat.le_of_ble_eq_true rfl, Nat.le_of_ble_eq_true rfl⟩ (Nat.le_of_ble_eq_true rfl) (Nat.le_of_ble_eq_true rfl) (c_M_wayOf hQ (by omega) hb36 hlt _ _ hW) ?_
                  refine wp_iret d_M_parting_119 rfl ?_
                  refine ⟨?_, hF⟩
                  rw [fwF, e10, if_pos (Nat.lt_of_lt_of_le hlt hpre.1), pre_wa hpre hQ QP_BI hlt]
          · have hk2 := nI_nge (b := 36) hc (by omega) (by omega)
            refine wp_aload_n d_M_parting_38 rfl ?_
            refine wp_getA d_M_parting_39 fl_M_67 rfl rfl rfl ?_
            refine wp_iload d_M_parting_42 rfl ?_
            refine wp_bipush (v := -9) d_M_parting_44 (by decide) ?_
            refine wp_iast d_M_parting_46 rfl ?_ ?_
            · exact vp_in_nI (n := k) (by omega) (by decide)
            rw [nI_clamp (show k < 2 ^ 31 by omega)]
            refine wp_iinc4 d_M_parting_47 (hn_ii1 _) (by decide) rfl ?_
            refine wp_goto (tgt := 31) d_M_parting_50 (by decide) ?_
            rw [nI_1]
            refine ih hk2 _ (hF.wI (by decide)) (fun x hx => ?_)
            rw [wI_eq]
            by_cases hxk : x = k
            · rw [hxk, upd_eq]
            · rw [upd_ne hxk]; exact h9 x (by omega)
        exact fill 0 (Nat.zero_le _) _ Fp.rf (fun x hx => absurd hx (by omega))
      · exact absurd hi hc3
