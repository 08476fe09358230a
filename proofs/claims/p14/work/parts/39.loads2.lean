/-! contracts: the elements are listed (the reference) -/
def mS : List Nat := [56, 58, 59, 60, 61, 62, 63, 64, 65, 66, 67, 68, 69, 70, 71, 72, 73, 74, 75, 76, 77, 78, 79, 80]
/-- what a call of the reference may change: no letters, no points, no start, no ends -/
def FM (σ τ : Hp) : Prop := Fp mS σ τ ∧ ∀ j, j ≠ 6 → j ≠ 7 → τ.1 56 j = σ.1 56 j
theorem FM.rf {σ : Hp} : FM σ σ := ⟨Fp.rf, fun _ _ _ => rfl⟩
theorem FM.tr {σ τ υ : Hp} (h : FM σ τ) (h2 : FM τ υ) : FM σ υ := ⟨h.1.tr h2.1, fun j h6 h7 => (h2.2 j h6 h7).trans (h.2 j h6 h7)⟩
theorem FM.of {S : List Nat} {σ τ : Hp} (h : Fp S σ τ) (hs : ∀ q, q ∈ S → q ∈ mS) (h56 : 56 ∉ S) : FM σ τ := ⟨h.up hs, fun j _ _ => by rw [(h 56 h56).1]⟩
theorem FM.w6 {σ τ : Hp} (h : FM σ τ) {x : Int32} : FM σ (wI τ 56 6 x) := ⟨h.1.wI (by decide), fun i a b => by rw [wI_eq, upd_ne a]; exact h.2 i a b⟩
theorem FM.w7 {σ τ : Hp} (h : FM σ τ) {x : Int32} : FM σ (wI τ 56 7 x) := ⟨h.1.wI (by decide), fun i a b => by rw [wI_eq, upd_ne b]; exact h.2 i a b⟩
theorem FM.wI {σ τ : Hp} (h : FM σ τ) {k j : Nat} {x : Int32} (hk : k ∈ mS) (h56 : k ≠ 56) : FM σ (wI τ k j x) := ⟨h.1.wI hk, fun i a b => by rw [wI_ne (fun q => h56 q.symm)]; exact h.2 i a b⟩
theorem FM.MB {σ τ : Hp} {N : Nat} (h : FM σ τ) (hB : MB σ N) : MB τ N := hB.mv (h.2 1 (by decide) (by decide))
theorem FM.LT {σ τ : Hp} {N L : Nat} {lm : Nat → Nat} (h : FM σ τ) (hL : LT σ N L lm) : LT τ N L lm := hL.mv (h.2 2 (by decide) (by decide)) (h.1 57 (by decide)).1
/-- the list so far: maps, places, lengths, whence, last letters -/
def TW (τ : Hp) (Q : BQ) : Prop := (∀ j, j < Q.length → τ.1 58 j = nI (itm Q j) ∧ τ.1 59 (itm Q j) = nI j ∧ τ.1 62 j = nI (dep Q j) ∧ (0 < j → τ.1 63 j = nI (par Q j) ∧ τ.1 64 j = nI (ltr Q j))) ∧ ∀ x, x < 46656 → hasB Q x = false → τ.1 59 x = -9
theorem TW.mv {σ τ : Hp} {Q : BQ} (h : TW σ Q) (e1 : τ.1 58 = σ.1 58) (e2 : τ.1 59 = σ.1 59) (e3 : τ.1 62 = σ.1 62) (e4 : τ.1 63 = σ.1 63) (e5 : τ.1 64 = σ.1 64) : TW τ Q := by
  unfold TW
  rw [e1, e2, e3, e4, e5]
  exact h
/-- the steps so far -/
def TO (τ : Hp) (N L : Nat) (lm : Nat → Nat) (Q : BQ) (e l : Nat) : Prop := ∀ e' l', l' < L → (e' < e ∨ (e' = e ∧ l' < l)) → ∃ j, j < Q.length ∧ itm Q j = stE N lm l' (itm Q e') ∧ τ.1 60 (4 * e' + l') = nI j
theorem Pre.TO {τ υ : Hp} {N L e l : Nat} {lm : Nat → Nat} {P Q : BQ} (h : Pre P Q) (hT : TO τ N L lm P e l) (he : e < P.length) (e60 : υ.1 60 = τ.1 60) : TO υ N L lm Q e l := by
  intro e' l' hl' q
  obtain ⟨j, a1, a2, a3⟩ := hT e' l' hl' q
  exact ⟨j, Nat.lt_of_lt_of_le a1 h.1, by rw [h.itm a1, h.itm (by omega)]; exact a2, by rw [e60]; exact a3⟩
theorem dep_app {st : Nat → Nat → Nat} {L s i k : Nat} {Q : BQ} (hI : BI st L s Q) (hi : i < Q.length) (hk : k < L) (hn : hasB Q (st k (itm Q i)) = false) : dep (Q ++ [(st k (itm Q i), i, k)]) Q.length = dep Q i + 1 ∧ ∀ j, j < Q.length → dep (Q ++ [(st k (itm Q i), i, k)]) j = dep Q j := by
  have hI2 := hI.add hi hk hn
  have hp := pre_dep (Pre.app (Q := Q) (e := (st k (itm Q i), i, k))) hI hI2
  refine ⟨?_, hp⟩
  rw [dep_s hI2 hI.1 (by simp), par_app, hp i hi]
theorem TW.add {st : Nat → Nat → Nat} {L s i k : Nat} {Q : BQ} {τ : Hp} (h : TW τ Q) (hI : BI st L s Q) (hi : i < Q.length) (hk : k < L) (hn : hasB Q (st k (itm Q i)) = false) : TW (wI (wI (wI (wI (wI τ 59 (st k (itm Q i)) (nI Q.length)) 58 Q.length (nI (st k (itm Q i)))) 62 Q.length (nI (dep Q i + 1))) 63 Q.length (nI i)) 64 Q.length (nI k)) (Q ++ [(st k (itm Q i), i, k)]) := by
  obtain ⟨w, hw⟩ : ∃ w, w = st k (itm Q i) := ⟨_, rfl⟩
  obtain ⟨d1, d2⟩ := dep_app hI hi hk hn
  rw [← hw] at hn d1 d2 ⊢
  have nn : ∀ j, j < Q.length → itm Q j ≠ w := fun j hj e => by
    rw [hasB_iff.mpr ⟨j, hj, e⟩] at hn
    cases hn
  refine ⟨fun j hj => ?_, fun x hx hxn => ?_⟩
  · simp only [List.length_append, List.length_cons, List.length_nil] at hj
    rw [wI_ne (show (58 : Nat) ≠ 64 by decide), wI_ne (show (58 : Nat) ≠ 63 by decide), wI_ne (show (58 : Nat) ≠ 62 by decide), wI_eq, wI_ne (show (58 : Nat) ≠ 59 by decide), wI_ne (show (59 : Nat) ≠ 64 by decide), wI_ne (show (59 : Nat) ≠ 63 by decide), wI_ne (show (59 : Nat) ≠ 62 by decide), wI_ne (show (59 : Nat) ≠ 58 by decide), wI_eq,
      wI_ne (show (62 : Nat) ≠ 64 by decide), wI_ne (show (62 : Nat) ≠ 63 by decide), wI_eq, wI_ne (show (62 : Nat) ≠ 58 by decide), wI_ne (show (62 : Nat) ≠ 59 by decide), wI_ne (show (63 : Nat) ≠ 64 by decide), wI_eq, wI_ne (show (63 : Nat) ≠ 62 by decide), wI_ne (show (63 : Nat) ≠ 58 by decide), wI_ne (show (63 : Nat) ≠ 59 by decide),
      wI_eq, wI_ne (show (64 : Nat) ≠ 63 by decide), wI_ne (show (64 : Nat) ≠ 62 by decide), wI_ne (show (64 : Nat) ≠ 58 by decide), wI_ne (show (64 : Nat) ≠ 59 by decide)]
    rcases Nat.lt_or_ge j Q.length with q | q
    · rw [itm_old q, par_old q, ltr_old q, upd_ne (by omega), upd_ne (nn j q), upd_ne (by omega), upd_ne (by omega), upd_ne (by omega), d2 j q]
      exact h.1 j q
    · obtain rfl : j = Q.length := by omega
      rw [itm_app, par_app, ltr_app, upd_eq, upd_eq, upd_eq, upd_eq, upd_eq, d1]
      exact ⟨rfl, rfl, rfl, fun _ => ⟨rfl, rfl⟩⟩
  · have hxw : x ≠ w := fun e => by
      rw [e, hasB_iff.mpr ⟨Q.length, by simp, itm_app⟩] at hxn
      cases hxn
    rw [wI_ne (by decide), wI_ne (by decide), wI_ne (by decide), wI_ne (by decide), wI_eq, upd_ne hxw]
    refine h.2 x hx ?_
    cases q : hasB Q x with
    | false => rfl
    | true => rw [Pre.app.has q] at hxn; cases hxn
theorem TW.at {τ : Hp} {Q : BQ} (h : TW τ Q) {x : Nat} (hx : hasB Q x = true) : ∃ j, j < Q.length ∧ itm Q j = x ∧ τ.1 59 x = nI j := by
  obtain ⟨j, hj, e⟩ := hasB_iff.mp hx
  exact ⟨j, hj, e, by rw [← e]; exact (h.1 j hj).2.1⟩
/-- there are too many -/
def LDf (τ : Hp) (N L : Nat) (lm : Nat → Nat) : Prop := τ.1 56 6 = 1 ∧ τ.1 56 7 = nI 1501 ∧ 1500 < (EQ N L lm).length
/-- the list is there -/
def LQ (τ : Hp) (N L : Nat) (lm : Nat → Nat) (M : Nat) : Prop := τ.1 56 6 = 1 ∧ τ.1 56 7 = nI M ∧ (EQ N L lm).length = M ∧ M ≤ 1500 ∧ TW τ (EQ N L lm)
theorem c_M_loads_list {N L : Nat} {lm : Nat → Nat} {Z : Option Value → Hp → Prop} (σ : Hp) (hB : MB σ N) (hL : LT σ N L lm) (h6 : σ.1 56 6 = 0)
    (Kf : ∀ τ, FM σ τ → LDf τ N L lm → Z (some (.int 0)) τ)
    (Kt : ∀ τ M x1 x2 x3, FM σ τ → LQ τ N L lm M → TO τ N L lm (EQ N L lm) M 0 → WP m_M_loads 249 [.ref 56, x1, x2, x3] [] τ Z) : Ct m_M_loads [.ref 56] σ Z := by
  have hN6 := hB.2.2
  have hp6 := pow6 hN6
  have h4 := hL.2.1
  have pw : 0 < N ^ N := pow_pos' hB.2.1
  have lt : ∀ n j, j < (bfQ (stE N lm) L (idN N) n).length → itm (bfQ (stE N lm) L (idN N) n) j < N ^ N := fun n => (BI.Q n).bd idN_lt (fun k x _ _ => stE_lt hB.2.1 k x)
  -- one after another
  have loop : ∀ d e, 1500 - e = d → ∀ (τ : Hp) (x2 x3 : Value), x2.category = 1 → e ≤ (bfQ (stE N lm) L (idN N) e).length → (bfQ (stE N lm) L (idN N) e).length ≤ 1500 → FM σ τ → τ.1 56 6 = 1 → τ.1 56 7 = nI (bfQ (stE N lm) L (idN N) e).length → TW τ (bfQ (stE N lm) L (idN N) e) → TO τ N L lm (bfQ (stE N lm) L (idN N) e) e 0 → WP m_M_loads 86 [.ref 56, .int (nI e), x2, x3] [] τ Z := by
    intro d
    induction d with
    | zero =>
      intro e hd τ x2 x3 hx2 hel hl15 hF f6 f7 hW hO
      refine wp_iload_n d_M_loads_86 rfl ?_
      refine wp_aload_n d_M_loads_87 rfl ?_
      refine wp_getI d_M_loads_88 fl_M_117 rfl rfl (by decide) ?_
      refine wp_icmp_ge (tgt := 249) d_M_loads_91 (by decide) (fun hc => ?_) (fun hc => ?_)
      · have hs : EQ N L lm = bfQ (stE N lm) L (idN N) e := EQ_at (by omega) (by omega)
        have e9 : (bfQ (stE N lm) L (idN N) e).length = e := by omega
        refine Kt τ e _ _ _ hF ⟨f6, by rw [f7, e9], by rw [hs]; exact e9, by omega, by rw [hs]; exact hW⟩ (by rw [hs]; exact hO)
      · rw [f7] at hc
        have := nI_nge hc (by omega) (by omega)
        omega
    | succ d ihd =>
      intro e hd τ x2 x3 hx2 hel hl15 hF f6 f7 hW hO
      refine wp_iload_n d_M_loads_86 rfl ?_
      refine wp_aload_n d_M_loads_87 rfl ?_
      refine wp_getI d_M_loads_88 fl_M_117 rfl rfl (by decide) ?_
      refine wp_icmp_ge (tgt := 249) d_M_loads_91 (by decide) (fun hc => ?_) (fun hc => ?_)
      · rw [f7] at hc
        have hle := nI_ge2 hc (by omega) (by omega)
        have hs : EQ N L lm = bfQ (stE N lm) L (idN N) e := EQ_at (by omega) hle
        have e9 : (bfQ (stE N lm) L (idN N) e).length = e := by omega
        refine Kt τ e _ _ _ hF ⟨f6, by rw [f7, e9], by rw [hs]; exact e9, by omega, by rw [hs]; exact hW⟩ (by rw [hs]; exact hO)
      · rw [f7] at hc
        have hlt := nI_nge hc (by omega) (by omega)
        have hQ := BI.Q (st := stE N lm) (L := L) (s := idN N) e
        refine wp_iconst (v := 0) d_M_loads_94 (by decide) ?_
        refine wp_istore2 d_M_loads_95 (by decide) rfl ?_
        suffices H : ∀ l, l ≤ L → ∀ (τ : Hp) (x3 : Value), (it (fun k Q => bfA (stE N lm) e k Q) l (bfQ (stE N lm) L (idN N) e)).length ≤ 1500 → FM σ τ → τ.1 56 6 = 1 → τ.1 56 7 = nI (it (fun k Q => bfA (stE N lm) e k Q) l (bfQ (stE N lm) L (idN N) e)).length → TW τ (it (fun k Q => bfA (stE N lm) e k Q) l (bfQ (stE N lm) L (idN N) e)) → TO τ N L lm (it (fun k Q => bfA (stE N lm) e k Q) l (bfQ (stE N lm) L (idN N) e)) e l → WP m_M_loads 96 [.ref 56, .int (nI e), .int (nI l), x3] [] τ Z from H 0 (Nat.zero_le _) τ _ hl15 hF f6 f7 hW hO
        clear hO hW f7 f6 hF τ
        refine lp_nat (fun l hl ih τ x3 hlk hF f6 f7 hW hO => ?_)
        have hB1 := hF.MB hB
        have hL1 := hF.LT hL
        have hQl := hQ.K hlt l hl
        obtain ⟨Ql, hQe⟩ : ∃ Ql, Ql = it (fun k Q => bfA (stE N lm) e k Q) l (bfQ (stE N lm) L (idN N) e) := ⟨_, rfl⟩
        have hpre : Pre (bfQ (stE N lm) L (idN N) e) Ql := by rw [hQe]; exact bfK_pre l
        rw [← hQe] at hlk f7 hW hO hQl
        have hel2 : e < Ql.length := Nat.lt_of_lt_of_le hlt hpre.1
        have hb : ∀ j, j < Ql.length → itm Ql j < N ^ N := hQl.bd idN_lt (fun k x _ _ => stE_lt hB.2.1 k x)
        refine wp_iload_n d_M_loads_96 rfl ?_
        refine wp_aload_n d_M_loads_97 rfl ?_
        refine wp_getI d_M_loads_98 fl_M_104 rfl rfl (by decide) ?_
        refine wp_icmp_ge (tgt := 243) d_M_loads_101 (by decide) (fun hc2 => ?_) (fun hc2 => ?_)
        · rw [hL1.1] at hc2
          have hkL : l = L := Nat.le_antisymm hl (nI_ge2 hc2 (by omega) (by omega))
          refine wp_iinc1 d_M_loads_243 (hn_ii1 _) (by decide) rfl ?_
          refine wp_goto (tgt := 86) d_M_loads_246 (by decide) ?_
          rw [nI_1]
          have e1 : bfQ (stE N lm) L (idN N) (e + 1) = Ql := by rw [bfQ_s hlt, hQe, hkL]; rfl
          refine ihd (e + 1) (by omega) τ (.int (nI l)) x3 rfl (by rw [e1]; omega) (by rw [e1]; exact hlk) hF f6 (by rw [e1]; exact f7) (by rw [e1]; exact hW) ?_
          rw [e1]
          intro e' l' hl' q
          exact hO e' l' hl' (by omega)
        · rw [hL1.1] at hc2
          have hl2 := nI_nge hc2 (by omega) (by omega)
          obtain ⟨l1, l2⟩ := hL1.2.2 l hl2
          have hbe := hb e hel2
          obtain ⟨w, hw⟩ : ∃ w, w = stE N lm l (itm Ql e) := ⟨_, rfl⟩
          have hwlt : w < N ^ N := by rw [hw]; exact stE_lt hB.2.1 _ _
          have eA : it (fun k Q => bfA (stE N lm) e k Q) (l + 1) (bfQ (stE N lm) L (idN N) e) = bfA (stE N lm) e l Ql := by rw [bfK_s, ← hQe]
          refine wp_aload_n d_M_loads_104 rfl ?_
          refine wp_aload_n d_M_loads_105 rfl ?_
          refine wp_getA d_M_loads_106 fl_M_17 rfl rfl rfl ?_
          refine wp_iload_n d_M_loads_109 rfl ?_
          refine wp_iald d_M_loads_110 rfl ?_ ?_
          · exact vp_in_nI (n := e) (by omega) (by decide)
          rw [nI_clamp (show e < 2 ^ 31 by omega), (hW.1 e hel2).1]
          refine wp_aload_n d_M_loads_111 rfl ?_
          refine wp_getA d_M_loads_112 fl_M_13 rfl rfl rfl ?_
          refine wp_iload_n d_M_loads_115 rfl ?_
          refine wp_iald d_M_loads_116 rfl ?_ ?_
          · exact vp_in_nI (n := l) (by omega) (by decide)
          rw [nI_clamp (show l < 2 ^ 31 by omega), l1]
          refine wp_callV2e d_M_loads_117 cv_M_124 rfl rfl rfl ⟨Nat.le_of_ble_eq_true rfl, Nat.le_of_ble_eq_true rfl⟩ (Nat.le_of_ble_eq_true rfl) (Nat.le_of_ble_eq_true rfl) (c_M_both (by omega) (by omega) _ hB1) ?_
          rw [show bN N (itm Ql e) (lm l) = w from hw.symm]
          -- behind the test: w is there
          have fin : ∀ (υ : Hp) (Q' : BQ), bfA (stE N lm) e l Ql = Q' → Pre Ql Q' → hasB Q' w = true → Q'.length ≤ 1500 → FM σ υ → υ.1 56 6 = 1 → υ.1 56 7 = nI Q'.length → TW υ Q' → TO υ N L lm Q' e l → WP m_M_loads 221 [.ref 56, .int (nI e), .int (nI l), .int (nI w)] [] υ Z := by
            intro υ Q' g1 g2 g3 g5 g6 g7 g8 g9 g10
            obtain ⟨j, j1, j2, j3⟩ := g9.at g3
            refine wp_aload_n d_M_loads_221 rfl ?_
            refine wp_getA d_M_loads_222 fl_M_24 rfl rfl rfl ?_
            refine wp_iconst (v := 4) d_M_loads_225 (by decide) ?_
            refine wp_iload_n d_M_loads_226 rfl ?_
            refine wp_imul d_M_loads_227 ?_
            refine wp_iload_n d_M_loads_228 rfl ?_
            refine wp_iadd d_M_loads_229 ?_
            rw [four_nI]
            refine wp_aload_n d_M_loads_230 rfl ?_
            refine wp_getA d_M_loads_231 fl_M_21 rfl rfl rfl ?_
            refine wp_iload_n d_M_loads_234 rfl ?_
            refine wp_iald d_M_loads_235 rfl ?_ ?_
            · exact vp_in_nI (n := w) (by omega) (by decide)
            rw [nI_clamp (show w < 2 ^ 31 by omega), j3]
            refine wp_iast d_M_loads_236 rfl ?_ ?_
            · exact vp_in_nI (n := 4 * e + l) (by omega) (by decide)
            rw [nI_clamp (show 4 * e + l < 2 ^ 31 by omega)]
            refine wp_iinc2 d_M_loads_237 (hn_ii1 _) (by decide) rfl ?_
            refine wp_goto (tgt := 96) d_M_loads_240 (by decide) ?_
            rw [nI_1]
            have := ih hl2 (wI υ 60 (4 * e + l) (nI j)) (.int (nI w)) (by rw [eA, g1]; exact g5) (g6.wI (by decide) (by decide)) (by rw [wI_ne (by decide)]; exact g7) (by rw [eA, g1, wI_ne (by decide)]; exact g8) (by rw [eA, g1]; exact g9.mv (wI_ne (by decide)) (wI_ne (by decide)) (wI_ne (by decide)) (wI_ne (by decide)) (wI_ne (by decide))) (by
              rw [eA, g1]
              intro e' l' hl' q
              rw [wI_eq]
              by_cases q2 : e' = e ∧ l' = l
              · obtain ⟨rfl, rfl⟩ := q2
                exact ⟨j, j1, by rw [j2, hw, g2.itm hel2], by rw [upd_eq]⟩
              · rw [upd_ne (by omega)]
                exact g10 e' l' hl' (by omega))
            exact this
          refine wp_istore3 d_M_loads_120 (by decide) rfl ?_
          refine wp_aload_n d_M_loads_121 rfl ?_
          refine wp_getA d_M_loads_122 fl_M_21 rfl rfl rfl ?_
          refine wp_iload_n d_M_loads_125 rfl ?_
          refine wp_iald d_M_loads_126 rfl ?_ ?_
          · exact vp_in_nI (n := w) (by omega) (by decide)
          rw [nI_clamp (show w < 2 ^ 31 by omega)]
          refine wp_bipush (v := -9) d_M_loads_127 (by decide) ?_
          refine wp_icmp_ne (tgt := 221) d_M_loads_129 (by decide) (fun hc3 => ?_) (fun hc3 => ?_)
          · have hin : hasB Ql w = true := by
              cases q : hasB Ql w with
              | true => rfl
              | false => exact absurd (hW.2 w (by omega) q) hc3
            exact fin τ Ql (by rw [bfA, ← hw, if_pos hin]) Pre.rf hin hlk hF f6 f7 hW hO
          · have hout : hasB Ql w = false := by
              cases q : hasB Ql w with
              | false => rfl
              | true =>
                obtain ⟨j, j1, j2, j3⟩ := hW.at q
                rw [j3] at hc3
                exact absurd hc3 (ne9 (by omega))
            have eA2 : bfA (stE N lm) e l Ql = Ql ++ [(w, e, l)] := by rw [bfA, ← hw, if_neg (by rw [hout]; decide)]
            refine wp_aload_n d_M_loads_132 rfl ?_
            refine wp_getI d_M_loads_133 fl_M_117 rfl rfl (by decide) ?_
            refine wp_sipush (v := 1500) d_M_loads_136 (by decide) ?_
            refine wp_icmp_ne (tgt := 154) d_M_loads_139 (by decide) (fun hc5 => ?_) (fun hc5 => ?_)
            · rw [f7, show (1500 : Int32) = nI 1500 from rfl, nI_eq (by omega) (by omega)] at hc5
              refine wp_aload_n d_M_loads_154 rfl ?_
              refine wp_getA d_M_loads_155 fl_M_21 rfl rfl rfl ?_
              refine wp_iload_n d_M_loads_158 rfl ?_
              refine wp_aload_n d_M_loads_159 rfl ?_
              refine wp_getI d_M_loads_160 fl_M_117 rfl rfl (by decide) ?_
              rw [f7]
              refine wp_iast d_M_loads_163 rfl ?_ ?_
              · exact vp_in_nI (n := w) (by omega) (by decide)
              rw [nI_clamp (show w < 2 ^ 31 by omega)]
              refine wp_aload_n d_M_loads_164 rfl ?_
              refine wp_getA d_M_loads_165 fl_M_17 rfl rfl rfl ?_
              refine wp_aload_n d_M_loads_168 rfl ?_
              refine wp_getI d_M_loads_169 fl_M_117 rfl rfl (by decide) ?_
              rw [wI_ne (by decide), f7]
              refine wp_iload_n d_M_loads_172 rfl ?_
              refine wp_iast d_M_loads_173 rfl ?_ ?_
              · exact vp_in_nI (n := Ql.length) (by omega) (by decide)
              rw [nI_clamp (show Ql.length < 2 ^ 31 by omega)]
              refine wp_aload_n d_M_loads_174 rfl ?_
              refine wp_getA d_M_loads_175 fl_M_30 rfl rfl rfl ?_
              refine wp_aload_n d_M_loads_178 rfl ?_
              refine wp_getI d_M_loads_179 fl_M_117 rfl rfl (by decide) ?_
              rw [wI_ne (by decide), wI_ne (by decide), f7]
              refine wp_aload_n d_M_loads_182 rfl ?_
              refine wp_getA d_M_loads_183 fl_M_30 rfl rfl rfl ?_
              refine wp_iload_n d_M_loads_186 rfl ?_
              refine wp_iald d_M_loads_187 rfl ?_ ?_
              · exact vp_in_nI (n := e) (by omega) (by decide)
              rw [nI_clamp (show e < 2 ^ 31 by omega), wI_ne (by decide), wI_ne (by decide), (hW.1 e hel2).2.2.1]
              refine wp_iconst (v := 1) d_M_loads_188 (by decide) ?_
              refine wp_iadd d_M_loads_189 ?_
              rw [nI_1]
              refine wp_iast d_M_loads_190 rfl ?_ ?_
              · exact vp_in_nI (n := Ql.length) (by omega) (by decide)
              rw [nI_clamp (show Ql.length < 2 ^ 31 by omega)]
              refine wp_aload_n d_M_loads_191 rfl ?_
              refine wp_getA d_M_loads_192 fl_M_33 rfl rfl rfl ?_
              refine wp_aload_n d_M_loads_195 rfl ?_
              refine wp_getI d_M_loads_196 fl_M_117 rfl rfl (by decide) ?_
              rw [wI_ne (by decide), wI_ne (by decide), wI_ne (by decide), f7]
              refine wp_iload_n d_M_loads_199 rfl ?_
              refine wp_iast d_M_loads_200 rfl ?_ ?_
              · exact vp_in_nI (n := Ql.length) (by omega) (by decide)
              rw [nI_clamp (show Ql.length < 2 ^ 31 by omega)]
              refine wp_aload_n d_M_loads_201 rfl ?_
              refine wp_getA d_M_loads_202 fl_M_36 rfl rfl rfl ?_
              refine wp_aload_n d_M_loads_205 rfl ?_
              refine wp_getI d_M_loads_206 fl_M_117 rfl rfl (by decide) ?_
              rw [wI_ne (by decide), wI_ne (by decide), wI_ne (by decide), wI_ne (by decide), f7]
              refine wp_iload_n d_M_loads_209 rfl ?_
              refine wp_iast d_M_loads_210 rfl ?_ ?_
              · exact vp_in_nI (n := Ql.length) (by omega) (by decide)
              rw [nI_clamp (show Ql.length < 2 ^ 31 by omega)]
              refine wp_aload_n d_M_loads_211 rfl ?_
              refine wp_dup d_M_loads_212 rfl ?_
              refine wp_getI d_M_loads_213 fl_M_117 rfl rfl (by decide) ?_
              refine wp_iconst (v := 1) d_M_loads_216 (by decide) ?_
              refine wp_iadd d_M_loads_217 ?_
              rw [wI_ne (by decide), wI_ne (by decide), wI_ne (by decide), wI_ne (by decide), wI_ne (by decide), f7, nI_1]
              refine wp_putI d_M_loads_218 fp_M_117 rfl rfl (by decide) rfl rfl ?_
              have hadd := hW.add hQl hel2 hl2 (by rw [← hw]; exact hout)
              rw [← hw] at hadd
              refine fin _ (Ql ++ [(w, e, l)]) eA2 Pre.app (hasB_iff.mpr ⟨Ql.length, by simp, itm_app⟩) (by simp; omega) ((((((hF.wI (by decide) (by decide)).wI (by decide) (by decide)).wI (by decide) (by decide)).wI (by decide) (by decide)).wI (by decide) (by decide)).w7) ?_ ?_ (hadd.mv (wI_ne (by decide)) (wI_ne (by decide)) (wI_ne (by decide)) (wI_ne (by decide)) (wI_ne (by decide))) (Pre.app.TO hO hel2 ?_)
              · rw [wI_eq, upd_ne (by decide), wI_ne (by decide), wI_ne (by decide), wI_ne (by decide), wI_ne (by decide), wI_ne (by decide)]; exact f6
              · rw [wI_eq, upd_eq]; simp
              · rw [wI_ne (by decide), wI_ne (by decide), wI_ne (by decide), wI_ne (by decide), wI_ne (by decide), wI_ne (by decide)]
            · rw [f7, show (1500 : Int32) = nI 1500 from rfl, nI_eq (by omega) (by omega)] at hc5
              refine wp_aload_n d_M_loads_142 rfl ?_
              refine wp_dup d_M_loads_143 rfl ?_
              refine wp_getI d_M_loads_144 fl_M_117 rfl rfl (by decide) ?_
              refine wp_iconst (v := 1) d_M_loads_147 (by decide) ?_
              refine wp_iadd d_M_loads_148 ?_
              rw [f7, nI_1, hc5]
              refine wp_putI d_M_loads_149 fp_M_117 rfl rfl (by decide) rfl rfl ?_
              refine wp_iconst (v := 0) d_M_loads_152 (by decide) ?_
              refine wp_zret d_M_loads_153 rfl ?_ ?_
              · decide
              refine Kf _ hF.w7 ⟨by rw [wI_eq, upd_ne (by decide)]; exact f6, by rw [wI_eq, upd_eq], ?_⟩
              have p1 : Pre (bfA (stE N lm) e l Ql) (bfQ (stE N lm) L (idN N) (e + 1)) := by
                rw [bfQ_s hlt, ← eA]
                have key : ∀ d, Pre (it (fun k Q => bfA (stE N lm) e k Q) (l + 1) (bfQ (stE N lm) L (idN N) e)) (it (fun k Q => bfA (stE N lm) e k Q) (l + 1 + d) (bfQ (stE N lm) L (idN N) e)) := by
                  intro d
                  induction d with
                  | zero => exact Pre.rf
                  | succ d ihd2 => exact ihd2.tr bfA_pre
                have := key (L - (l + 1))
                rw [show l + 1 + (L - (l + 1)) = L by omega] at this
                exact this
              have p2 := (EQ_pre (N := N) (L := L) (lm := lm) (n := e + 1) (by omega)).1
              have p3 := p1.1
              rw [eA2] at p3
              simp at p3
              omega
  show WP m_M_loads 0 [.ref 56, .null, .null, .null] [] σ Z
  refine wp_aload_n d_M_loads_0 rfl ?_
  refine wp_getI d_M_loads_1 fl_M_113 rfl rfl (by decide) ?_
  refine wp_if_eq (tgt := 23) d_M_loads_4 (by decide) (fun hc => ?_) (fun hc => ?_)
  · refine wp_aload_n d_M_loads_23 rfl ?_
    refine wp_iconst (v := 1) d_M_loads_24 (by decide) ?_
    refine wp_putI d_M_loads_25 fp_M_113 rfl rfl (by decide) (by decide) (by decide) ?_
    refine wp_iconst (v := 0) d_M_loads_28 (by decide) ?_
    refine wp_istore1 d_M_loads_29 (by decide) rfl ?_
    suffices H : ∀ k, k ≤ 46656 → ∀ τ, FM σ τ → τ.1 56 6 = 1 → (∀ x, x < k → τ.1 59 x = -9) → WP m_M_loads 30 [.ref 56, .int (nI k), .null, .null] [] τ Z from H 0 (Nat.zero_le _) _ FM.rf.w6 (by rw [wI_eq, upd_eq]) (fun x hx => absurd hx (Nat.not_lt_zero x))
    refine lp_nat (fun k hk ih τ hF f6 hv => ?_)
    refine wp_iload_n d_M_loads_30 rfl ?_
    refine wp_ldc d_M_loads_31 kc_M_20 ?_
    refine wp_icmp_ge (tgt := 50) d_M_loads_33 (by decide) (fun hc2 => ?_) (fun hc2 => ?_)
    · obtain rfl := Nat.le_antisymm hk (nI_ge2 (b := 46656) hc2 (by omega) (by omega))
      clear ih
      have hB1 := hF.MB hB
      have hid := idN_lt (N := N)
      refine wp_aload_n d_M_loads_50 rfl ?_
      refine wp_getA d_M_loads_51 fl_M_17 rfl rfl rfl ?_
      refine wp_iconst (v := 0) d_M_loads_54 (by decide) ?_
      refine wp_aload_n d_M_loads_55 rfl ?_
      refine wp_callV0e d_M_loads_56 cv_M_120 rfl rfl rfl ⟨Nat.le_of_ble_eq_true rfl, Nat.le_of_ble_eq_true rfl⟩ (Nat.le_of_ble_eq_true rfl) (Nat.le_of_ble_eq_true rfl) (c_M_nothing _ hB1) ?_
      refine wp_iast d_M_loads_59 rfl ?_ ?_
      · exact vp_in_nI (n := 0) (by decide) (by decide)
      rw [show (0 : Int32).toNatClampNeg = 0 by decide]
      refine wp_aload_n d_M_loads_60 rfl ?_
      refine wp_getA d_M_loads_61 fl_M_21 rfl rfl rfl ?_
      refine wp_aload_n d_M_loads_64 rfl ?_
      refine wp_getA d_M_loads_65 fl_M_17 rfl rfl rfl ?_
      refine wp_iconst (v := 0) d_M_loads_68 (by decide) ?_
      refine wp_iald d_M_loads_69 rfl ?_ ?_
      · exact vp_in_nI (n := 0) (by decide) (by decide)
      rw [show (0 : Int32).toNatClampNeg = 0 by decide, wI_eq, upd_eq]
      refine wp_iconst (v := 0) d_M_loads_70 (by decide) ?_
      refine wp_iast d_M_loads_71 rfl ?_ ?_
      · exact vp_in_nI (n := idN N) (by omega) (by decide)
      rw [nI_clamp (show idN N < 2 ^ 31 by omega)]
      refine wp_aload_n d_M_loads_72 rfl ?_
      refine wp_getA d_M_loads_73 fl_M_30 rfl rfl rfl ?_
      refine wp_iconst (v := 0) d_M_loads_76 (by decide) ?_
      refine wp_iconst (v := 0) d_M_loads_77 (by decide) ?_
      refine wp_iast d_M_loads_78 rfl ?_ ?_
      · exact vp_in_nI (n := 0) (by decide) (by decide)
      rw [show (0 : Int32).toNatClampNeg = 0 by decide]
      refine wp_aload_n d_M_loads_79 rfl ?_
      refine wp_iconst (v := 1) d_M_loads_80 (by decide) ?_
      refine wp_putI d_M_loads_81 fp_M_117 rfl rfl (by decide) rfl rfl ?_
      refine wp_iconst (v := 0) d_M_loads_84 (by decide) ?_
      refine wp_istore1 d_M_loads_85 (by decide) rfl ?_
      refine loop 1500 0 rfl _ _ _ rfl (Nat.zero_le _) (by show 1 ≤ 1500; decide) ((((hF.wI (by decide) (by decide)).wI (by decide) (by decide)).wI (by decide) (by decide)).w7) ?_ ?_ ⟨fun j hj => ?_, fun x hx hxn => ?_⟩ (fun e' l' _ q => by omega)
      · rw [wI_eq, upd_ne (by decide), wI_ne (by decide), wI_ne (by decide), wI_ne (by decide)]; exact f6
      · rw [wI_eq, upd_eq]; rfl
      · obtain rfl : j = 0 := by
          have : (bfQ (stE N lm) L (idN N) 0).length = 1 := rfl
          omega
        refine ⟨?_, ?_, ?_, fun q => absurd q (Nat.lt_irrefl 0)⟩
        · rw [wI_ne (by decide), wI_ne (by decide), wI_ne (by decide), wI_eq, upd_eq]; rfl
        · show (wI (wI (wI (wI τ 58 0 (nI (idN N))) 59 (idN N) 0) 62 0 0) 56 7 1).1 59 (idN N) = nI 0
          rw [wI_ne (by decide), wI_ne (by decide), wI_eq, upd_eq]; rfl
        · rw [wI_ne (by decide), wI_eq, upd_eq]; rfl
      · have hxS : x ≠ idN N := fun e => by
          have h8 : hasB (bfQ (stE N lm) L (idN N) 0) (idN N) = true := hasB_iff.mpr ⟨0, Nat.zero_lt_one, rfl⟩
          rw [e, h8] at hxn
          cases hxn
        rw [wI_ne (by decide), wI_ne (by decide), wI_eq, upd_ne hxS, wI_ne (by decide)]
        exact hv x hx
    · have hk2 := nI_nge (b := 46656) hc2 (by omega) (by omega)
      refine wp_aload_n d_M_loads_36 rfl ?_
      refine wp_getA d_M_loads_37 fl_M_21 rfl rfl rfl ?_
      refine wp_iload_n d_M_loads_40 rfl ?_
      refine wp_bipush (v := -9) d_M_loads_41 (by decide) ?_
      refine wp_iast d_M_loads_43 rfl ?_ ?_
      · exact vp_in_nI (n := k) (by omega) (by decide)
      rw [nI_clamp (show k < 2 ^ 31 by omega)]
      refine wp_iinc1 d_M_loads_44 (hn_ii1 _) (by decide) rfl ?_
      refine wp_goto (tgt := 30) d_M_loads_47 (by decide) ?_
      rw [nI_1]
      refine ih hk2 _ (hF.wI (by decide) (by decide)) (by rw [wI_ne (by decide)]; exact f6) (fun x hx => ?_)
      rw [wI_eq]
      by_cases q : x = k
      · rw [q, upd_eq]
      · rw [upd_ne q]; exact hv x (by omega)
  · exact absurd h6 hc
