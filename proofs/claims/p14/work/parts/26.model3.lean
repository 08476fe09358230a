/-! contracts: the reference's walks of sets -/
theorem LT.mv {σ τ : Hp} {N L : Nat} {lm : Nat → Nat} (h : LT σ N L lm) (e1 : τ.1 56 2 = σ.1 56 2) (e2 : τ.1 57 = σ.1 57) : LT τ N L lm := by rw [LT, e1, e2]; exact h
theorem Fp.MB {S : List Nat} {σ τ : Hp} {N : Nat} (h : Fp S σ τ) (hs : 56 ∉ S) (hB : MB σ N) : MB τ N := hB.mv (by rw [(h 56 hs).1])
theorem Fp.LT {S : List Nat} {σ τ : Hp} {N L : Nat} {lm : Nat → Nat} (h : Fp S σ τ) (hs : 56 ∉ S) (hs2 : 57 ∉ S) (hL : LT σ N L lm) : LT τ N L lm := hL.mv (by rw [(h 56 hs).1]) (h 57 hs2).1
def stS (N : Nat) (lm : Nat → Nat) (k x : Nat) : Nat := imN N (lm k) x
/-- 64, so written that it isn't counted out -/
def nx64 (N : Nat) : Nat := 64 + 0 * N
theorem nx64_eq (N : Nat) : nx64 N = 64 := by rw [nx64, Nat.zero_mul]
/-- what comes of a set -/
def QS (N L : Nat) (lm : Nat → Nat) (S : Nat) : BQ := bfQ (stS N lm) L S (nx64 N)
def wS : List Nat := [73, 74, 75]
theorem stS_lt {N : Nat} {lm : Nat → Nat} (hN : 0 < N) (k x : Nat) : stS N lm k x < 2 ^ N := imN_lt hN
theorem bfK_s {st : Nat → Nat → Nat} {i k : Nat} {Q : BQ} : it (fun k Q => bfA st i k Q) (k + 1) Q = bfA st i k (it (fun k Q => bfA st i k Q) k Q) := rfl
theorem c_M_sets {S N L : Nat} {lm : Nat → Nat} (hS : S < 2 ^ N) (σ : Hp) (hB : MB σ N) (hL : LT σ N L lm) : Ct m_M_sets [.ref 56, .int (nI S)] σ (fun w τ => w = some (.int (nI (QS N L lm S).length)) ∧ Fp wS σ τ ∧ WK τ 64 (QS N L lm S)) := by
  have h6 := hB.2.2
  have h2N := pow2_le6 h6
  have bd : ∀ Q, BI (stS N lm) L S Q → (∀ j, j < Q.length → itm Q j < 2 ^ N) ∧ Q.length ≤ 64 := by
    intro Q hQ
    have hb := hQ.bd hS (fun k x _ _ => stS_lt hB.2.1 k x)
    exact ⟨hb, Nat.le_trans (hQ.len hb) h2N⟩
  show WP m_M_sets 0 [.ref 56, .int (nI S), .null, .null, .null, .null] [] σ _
  refine wp_iconst (v := 0) d_M_sets_0 (by decide) ?_
  refine wp_istore2 d_M_sets_1 (by decide) rfl ?_
  -- from: nothing has come
  have fill : ∀ k, k ≤ 64 → ∀ (τ : Hp), Fp wS σ τ → (∀ x, x < k → τ.1 74 x = -9) → WP m_M_sets 2 [.ref 56, .int (nI S), .int (nI k), .null, .null, .null] [] τ (fun w τ => w = some (.int (nI (QS N L lm S).length)) ∧ Fp wS σ τ ∧ WK τ 64 (QS N L lm S)) := by
    refine lp_nat (fun k hk ih τ hF h9 => ?_)
    refine wp_iload_n d_M_sets_2 rfl ?_
    refine wp_bipush (v := 64) d_M_sets_3 (by decide) ?_
    refine wp_icmp_ge (tgt := 22) d_M_sets_5 (by decide) (fun hc => ?_) (fun hc => ?_)
    · obtain rfl := Nat.le_antisymm hk (nI_ge2 (b := 64) hc (by omega) (by omega))
      refine wp_aload_n d_M_sets_22 rfl ?_
      refine wp_getA d_M_sets_23 fl_M_67 rfl rfl rfl ?_
      refine wp_iload_n d_M_sets_26 rfl ?_
      refine wp_iload_n d_M_sets_27 rfl ?_
      refine wp_iast d_M_sets_28 rfl ?_ ?_
      · exact vp_in_nI (by omega) (by decide)
      refine wp_aload_n d_M_sets_29 rfl ?_
      refine wp_getA d_M_sets_30 fl_M_64 rfl rfl rfl ?_
      refine wp_iconst (v := 0) d_M_sets_33 (by decide) ?_
      refine wp_iload_n d_M_sets_34 rfl ?_
      refine wp_iast d_M_sets_35 rfl ?_ ?_
      · exact vp_in_nI (n := 0) (by decide) (by decide)
      rw [nI_clamp (show S < 2 ^ 31 by omega), show (0 : Int32).toNatClampNeg = 0 by decide]
      refine wp_iconst (v := 1) d_M_sets_36 (by decide) ?_
      refine wp_istore2 d_M_sets_37 (by decide) rfl ?_
      refine wp_iconst (v := 0) d_M_sets_38 (by decide) ?_
      refine wp_istore3 d_M_sets_39 (by decide) rfl ?_
      suffices H : ∀ d i, 64 - i = d → ∀ (τ : Hp) (x4 x5 : Value), x4.category = 1 → i ≤ (bfQ (stS N lm) L S i).length → Fp wS σ τ → WK τ 64 (bfQ (stS N lm) L S i) → WP m_M_sets 40 [.ref 56, .int (nI S), .int (nI (bfQ (stS N lm) L S i).length), .int (nI i), x4, x5] [] τ (fun w τ => w = some (.int (nI (QS N L lm S).length)) ∧ Fp wS σ τ ∧ WK τ 64 (QS N L lm S)) by
        refine H 64 0 rfl _ _ _ rfl (Nat.zero_le _) ((hF.wI (by decide)).wI (by decide)) ⟨fun j hj => ?_, fun x hx hn => ?_⟩
        · obtain rfl : j = 0 := by
            have : (bfQ (stS N lm) L S 0).length = 1 := rfl
            omega
          refine ⟨?_, ?_, fun h => absurd h (by omega)⟩
          · rw [wI_eq, upd_eq]; rfl
          · show (wI (wI τ 74 S (nI S)) 73 0 (nI S)).1 74 S = nI S
            rw [wI_ne (by decide), wI_eq, upd_eq]
        · have hxS : x ≠ S := fun e => by
            have h8 : hasB (bfQ (stS N lm) L S 0) S = true := hasB_iff.mpr ⟨0, Nat.zero_lt_one, rfl⟩
            rw [e, h8] at hn
            cases hn
          rw [wI_ne (by decide), wI_eq, upd_ne hxS]
          exact h9 x hx
      intro d
      induction d with
      | zero =>
        intro i hd τ x4 x5 hx4 hil hF hW
        have hQ := BI.Q (st := stS N lm) (L := L) (s := S) i
        have hl64 := (bd _ hQ).2
        refine wp_iload_n d_M_sets_40 rfl ?_
        refine wp_iload_n d_M_sets_41 rfl ?_
        refine wp_icmp_ge (tgt := 133) d_M_sets_42 (by decide) (fun hc2 => ?_) (fun hc2 => ?_)
        · refine wp_iload_n d_M_sets_133 rfl ?_
          refine wp_iret d_M_sets_134 rfl ?_
          have e : QS N L lm S = bfQ (stS N lm) L S i := by rw [QS, nx64_eq, show 64 = i by omega]
          rw [e]
          exact ⟨rfl, hF, hW⟩
        · have := nI_nge hc2 (by omega) (by omega)
          omega
      | succ d ihd =>
        intro i hd τ x4 x5 hx4 hil hF hW
        have hQ := BI.Q (st := stS N lm) (L := L) (s := S) i
        have hl64 := (bd _ hQ).2
        refine wp_iload_n d_M_sets_40 rfl ?_
        refine wp_iload_n d_M_sets_41 rfl ?_
        refine wp_icmp_ge (tgt := 133) d_M_sets_42 (by decide) (fun hc2 => ?_) (fun hc2 => ?_)
        · have hle := nI_ge2 hc2 (by omega) (by omega)
          refine wp_iload_n d_M_sets_133 rfl ?_
          refine wp_iret d_M_sets_134 rfl ?_
          have e : QS N L lm S = bfQ (stS N lm) L S i := by
            have := bfQ_stop hle (64 - i)
            rw [show i + (64 - i) = 64 by omega] at this
            rw [QS, nx64_eq]
            exact this
          rw [e]
          exact ⟨rfl, hF, hW⟩
        · have hlt := nI_nge hc2 (by omega) (by omega)
          refine wp_iconst (v := 0) d_M_sets_45 (by decide) ?_
          refine wp_istore4 d_M_sets_46 (by decide) rfl ?_
          suffices H : ∀ k, k ≤ L → ∀ (τ : Hp) (x5 : Value), Fp wS σ τ → WK τ 64 (it (fun k Q => bfA (stS N lm) i k Q) k (bfQ (stS N lm) L S i)) → WP m_M_sets 48 [.ref 56, .int (nI S), .int (nI (it (fun k Q => bfA (stS N lm) i k Q) k (bfQ (stS N lm) L S i)).length), .int (nI i), .int (nI k), x5] [] τ (fun w τ => w = some (.int (nI (QS N L lm S).length)) ∧ Fp wS σ τ ∧ WK τ 64 (QS N L lm S)) from H 0 (Nat.zero_le _) τ _ hF hW
          clear hF hW τ
          refine lp_nat (fun k hk ih2 τ x5 hF hW => ?_)
          have hB2 := hF.MB (by decide) hB
          have hL2 := hF.LT (by decide) (by decide) hL
          have hQk := hQ.K hlt k hk
          obtain ⟨Qk, hQe⟩ : ∃ Qk, Qk = it (fun k Q => bfA (stS N lm) i k Q) k (bfQ (stS N lm) L S i) := ⟨_, rfl⟩
          have hpre : Pre (bfQ (stS N lm) L S i) Qk := by rw [hQe]; exact bfK_pre k
          rw [← hQe] at hW hQk ⊢
          have hik : i < Qk.length := Nat.lt_of_lt_of_le hlt hpre.1
          obtain ⟨hb, hlk⟩ := bd _ hQk
          refine wp_iload d_M_sets_48 rfl ?_
          refine wp_aload_n d_M_sets_50 rfl ?_
          refine wp_getI d_M_sets_51 fl_M_104 rfl rfl (by decide) ?_
          refine wp_icmp_ge (tgt := 127) d_M_sets_54 (by decide) (fun hc3 => ?_) (fun hc3 => ?_)
          · rw [hL2.1] at hc3
            have h4 := hL.2.1
            have hkL : k = L := Nat.le_antisymm hk (nI_ge2 hc3 (by omega) (by omega))
            refine wp_iinc3 d_M_sets_127 (hn_ii1 _) (by decide) rfl ?_
            refine wp_goto (tgt := 40) d_M_sets_130 (by decide) ?_
            rw [nI_1]
            have e : bfQ (stS N lm) L S (i + 1) = Qk := by rw [bfQ_s hlt, hQe, hkL]; rfl
            have := ihd (i + 1) (by omega) τ (.int (nI k)) x5 rfl (by rw [e]; omega) hF (by rw [e]; exact hW)
            rw [e] at this
            exact this
          · rw [hL2.1] at hc3
            have h4 := hL.2.1
            have hk2 := nI_nge hc3 (by omega) (by omega)
            obtain ⟨l1, l2⟩ := hL2.2.2 k hk2
            have hp6 := pow6 h6
            refine wp_aload_n d_M_sets_57 rfl ?_
            refine wp_aload_n d_M_sets_58 rfl ?_
            refine wp_getA d_M_sets_59 fl_M_64 rfl rfl rfl ?_
            refine wp_iload_n d_M_sets_62 rfl ?_
            refine wp_iald d_M_sets_63 rfl ?_ ?_
            · exact vp_in_nI (n := i) (by omega) (by decide)
            rw [nI_clamp (show i < 2 ^ 31 by omega), (hW.1 i hik).1]
            refine wp_aload_n d_M_sets_64 rfl ?_
            refine wp_getA d_M_sets_65 fl_M_13 rfl rfl rfl ?_
            refine wp_iload d_M_sets_68 rfl ?_
            refine wp_iald d_M_sets_70 rfl ?_ ?_
            · exact vp_in_nI (n := k) (by omega) (by decide)
            rw [nI_clamp (show k < 2 ^ 31 by omega), l1]
            have hbi := hb i hik
            refine wp_callV2e d_M_sets_71 cv_M_186 rfl rfl rfl ⟨Nat.le_of_ble_eq_true rfl, Nat.le_of_ble_eq_true rfl⟩ (Nat.le_of_ble_eq_true rfl) (Nat.le_of_ble_eq_true rfl) (c_M_image (by omega) (by omega) _ hB2) ?_
            obtain ⟨w, hw⟩ : ∃ w, w = stS N lm k (itm Qk i) := ⟨_, rfl⟩
            have hwlt : w < 2 ^ N := by rw [hw]; exact stS_lt hB.2.1 _ _
            rw [show imN N (lm k) (itm Qk i) = w from hw.symm]
            refine wp_istore5 d_M_sets_74 (by decide) rfl ?_
            refine wp_aload_n d_M_sets_76 rfl ?_
            refine wp_getA d_M_sets_77 fl_M_67 rfl rfl rfl ?_
            refine wp_iload d_M_sets_80 rfl ?_
            refine wp_iald d_M_sets_82 rfl ?_ ?_
            · exact vp_in_nI (n := w) (by omega) (by decide)
            rw [nI_clamp (show w < 2 ^ 31 by omega)]
            have eA : it (fun k Q => bfA (stS N lm) i k Q) (k + 1) (bfQ (stS N lm) L S i) = bfA (stS N lm) i k Qk := by rw [bfK_s, ← hQe]
            refine wp_bipush (v := -9) d_M_sets_83 (by decide) ?_
            refine wp_icmp_ne (tgt := 121) d_M_sets_85 (by decide) (fun hc5 => ?_) (fun hc5 => ?_)
            · have hin : hasB Qk w = true := by
                cases q : hasB Qk w with
                | true => rfl
                | false => exact absurd (hW.2 w (by omega) q) hc5
              have eA2 : bfA (stS N lm) i k Qk = Qk := by rw [bfA, ← hw, if_pos hin]
              refine wp_iinc4 d_M_sets_121 (hn_ii1 _) (by decide) rfl ?_
              refine wp_goto (tgt := 48) d_M_sets_124 (by decide) ?_
              rw [nI_1]
              have := ih2 hk2 τ (.int (nI w)) hF (by rw [eA, eA2]; exact hW)
              rw [eA, eA2] at this
              exact this
            · have hout : hasB Qk w = false := by
                cases q : hasB Qk w with
                | false => rfl
                | true =>
                  exfalso
                  obtain ⟨j, hj, e⟩ := hasB_iff.mp q
                  have h7 := (hW.1 j hj).2.1
                  rw [e, hc5] at h7
                  have hpl : par Qk j < Qk.length := by
                    rcases Nat.eq_zero_or_pos j with q0 | q0
                    · rw [q0, hQk.2.1.2]; exact hQk.1
                    · have := (hQk.2.2.2 j q0 hj).1
                      omega
                  have := nI_pos (show itm Qk (par Qk j) < 2 ^ 31 by have := hb _ hpl; omega)
                  rw [← h7] at this
                  exact this (by decide)
              have eA2 : bfA (stS N lm) i k Qk = Qk ++ [(w, i, k)] := by rw [bfA, ← hw, if_neg (by rw [hout]; decide)]
              have hlk2 : Qk.length < 64 := by
                have := (bd _ (hw ▸ hQk.add hik hk2 (hw ▸ hout))).2
                simp at this
                omega
              refine wp_aload_n d_M_sets_88 rfl ?_
              refine wp_getA d_M_sets_89 fl_M_67 rfl rfl rfl ?_
              refine wp_iload d_M_sets_92 rfl ?_
              refine wp_aload_n d_M_sets_94 rfl ?_
              refine wp_getA d_M_sets_95 fl_M_64 rfl rfl rfl ?_
              refine wp_iload_n d_M_sets_98 rfl ?_
              refine wp_iald d_M_sets_99 rfl ?_ ?_
              · exact vp_in_nI (n := i) (by omega) (by decide)
              rw [nI_clamp (show i < 2 ^ 31 by omega), (hW.1 i hik).1]
              refine wp_iast d_M_sets_100 rfl (vp_in_nI (by omega) (by decide)) ?_
              rw [nI_clamp (show w < 2 ^ 31 by omega)]
              refine wp_aload_n d_M_sets_101 rfl ?_
              refine wp_getA d_M_sets_102 fl_M_70 rfl rfl rfl ?_
              refine wp_iload d_M_sets_105 rfl ?_
              refine wp_iload d_M_sets_107 rfl ?_
              refine wp_iast d_M_sets_109 rfl ?_ ?_
              · exact vp_in_nI (n := w) (by omega) (by decide)
              rw [nI_clamp (show w < 2 ^ 31 by omega)]
              refine wp_aload_n d_M_sets_110 rfl ?_
              refine wp_getA d_M_sets_111 fl_M_64 rfl rfl rfl ?_
              refine wp_iload_n d_M_sets_114 rfl ?_
              refine wp_iload d_M_sets_115 rfl ?_
              refine wp_iast d_M_sets_117 rfl ?_ ?_
              · exact vp_in_nI (n := Qk.length) (by omega) (by decide)
              rw [nI_clamp (show Qk.length < 2 ^ 31 by omega)]
              refine wp_iinc2 d_M_sets_118 (hn_ii1 _) (by decide) rfl ?_
              refine wp_iinc4 d_M_sets_121 (hn_ii1 _) (by decide) rfl ?_
              refine wp_goto (tgt := 48) d_M_sets_124 (by decide) ?_
              rw [nI_1, nI_1]
              have := ih2 hk2 _ (.int (nI w)) (((hF.wI (k := 74) (j := w) (x := nI (itm Qk i)) (by decide)).wI (k := 75) (j := w) (x := nI k) (by decide)).wI (k := 73) (j := Qk.length) (x := nI w) (by decide)) (by rw [eA, eA2]; exact hW.add hQk hik hout)
              rw [eA, eA2] at this
              simpa using this
    · have hk2 := nI_nge (b := 64) hc (by omega) (by omega)
      refine wp_aload_n d_M_sets_8 rfl ?_
      refine wp_getA d_M_sets_9 fl_M_67 rfl rfl rfl ?_
      refine wp_iload_n d_M_sets_12 rfl ?_
      refine wp_bipush (v := -9) d_M_sets_13 (by decide) ?_
      refine wp_iast d_M_sets_15 rfl ?_ ?_
      · exact vp_in_nI (n := k) (by omega) (by decide)
      rw [nI_clamp (show k < 2 ^ 31 by omega)]
      refine wp_iinc2 d_M_sets_16 (hn_ii1 _) (by decide) rfl ?_
      refine wp_goto (tgt := 2) d_M_sets_19 (by decide) ?_
      rw [nI_1]
      refine ih hk2 _ (hF.wI (by decide)) (fun x hx => ?_)
      rw [wI_eq]
      by_cases hxk : x = k
      · rw [hxk, upd_eq]
      · rw [upd_ne hxk]; exact h9 x (by omega)
  exact fill 0 (Nat.zero_le _) σ Fp.rf (fun x hx => absurd hx (by omega))
