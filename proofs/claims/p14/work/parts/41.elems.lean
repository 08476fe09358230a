/-! contracts: elements, element, word, find, done, solve (the reference) -/
/-- there are too many; or the list is there and the answer is so -/
def Lp (N L : Nat) (lm : Nat → Nat) (σ : Hp) (A : Nat → Int32 → Prop) : Option Value → Hp → Prop := fun w τ => FM (Th σ) τ ∧ ((w = some (.int (-5)) ∧ LDf τ N L lm) ∨ ∃ z M, w = some (.int z) ∧ Tb τ N L lm M ∧ A M z)
theorem LD.th {σ : Hp} {N L : Nat} {lm : Nat → Nat} (h : LD σ N L lm) : LD (Th σ) N L lm := by
  have e : ∀ j, j ≠ 0 → (Th σ).1 56 j = σ.1 56 j := fun j hj => Th_0 hj
  have f : ∀ q, q ≠ 56 → (Th σ).1 q = σ.1 q := fun q hq => Th_ne hq
  rcases h with h | ⟨h1, h2, h3⟩ | ⟨M, h1, h2, h3⟩
  · exact Or.inl ((e 6 (by decide)).trans h)
  · exact Or.inr (Or.inl ⟨(e 6 (by decide)).trans h1, (e 7 (by decide)).trans h2, h3⟩)
  · refine Or.inr (Or.inr ⟨M, h1.mv (e 6 (by decide)) (e 7 (by decide)) (f 58 (by decide)) (f 59 (by decide)) (f 62 (by decide)) (f 63 (by decide)) (f 64 (by decide)), fun x l hx hl => by rw [f 60 (by decide), f 61 (by decide)]; exact h2 x l hx hl, ?_⟩)
    obtain ⟨a, b, B, h3, h5⟩ := h3
    exact ⟨a, b, B, fun k hk => by rw [f 65 (by decide), f 66 (by decide)]; exact h3 k hk, h5⟩
theorem Tb.mv {σ τ : Hp} {N L M : Nat} {lm : Nat → Nat} {S : List Nat} (h : Tb σ N L lm M) (hF : Fp S σ τ) (hs : ∀ q, q ∈ [56, 58, 59, 60, 61, 62, 63, 64, 65, 66] → q ∉ S) : Tb τ N L lm M := by
  have f : ∀ q, q ∈ [56, 58, 59, 60, 61, 62, 63, 64, 65, 66] → τ.1 q = σ.1 q := fun q hq => (hF q (hs q hq)).1
  obtain ⟨h1, h2, a, b, B, h3, h5⟩ := h
  exact ⟨h1.mv (by rw [f 56 (by decide)]) (by rw [f 56 (by decide)]) (f 58 (by decide)) (f 59 (by decide)) (f 62 (by decide)) (f 63 (by decide)) (f 64 (by decide)), fun x l hx hl => by rw [f 60 (by decide), f 61 (by decide)]; exact h2 x l hx hl, a, b, B, fun k hk => by rw [f 65 (by decide), f 66 (by decide)]; exact h3 k hk, h5⟩
def stN (N x : Nat) : Bool := decide (bN N x x = x)
theorem c_M_isStill {N L M e : Nat} {lm : Nat → Nat} (σ : Hp) (hB : MB σ N) (h : LQ σ N L lm M) (he : e < M) : Ct m_M_isStill [.ref 56, .int (nI e)] σ (Rt (.int (bz (stN N (itm (EQ N L lm) e) = true))) σ) := by
  have h6 := hB.2.2
  have hp6 := pow6 h6
  obtain ⟨-, -, hl, h15, hW⟩ := h
  have hw := (hW.1 e (by omega)).1
  have hlt := EQ_lt (L := L) (lm := lm) hB.2.1 e (by omega)
  have hbl := bN_lt (N := N) (a := itm (EQ N L lm) e) (b := itm (EQ N L lm) e) hB.2.1
  show WP m_M_isStill 0 [.ref 56, .int (nI e)] [] σ _
  refine wp_aload_n d_M_isStill_0 rfl ?_
  refine wp_aload_n d_M_isStill_1 rfl ?_
  refine wp_getA d_M_isStill_2 fl_M_17 rfl rfl rfl ?_
  refine wp_iload_n d_M_isStill_5 rfl ?_
  refine wp_iald d_M_isStill_6 rfl ?_ ?_
  · exact vp_in_nI (n := e) (by omega) (by decide)
  rw [nI_clamp (show e < 2 ^ 31 by omega), hw]
  refine wp_aload_n d_M_isStill_7 rfl ?_
  refine wp_getA d_M_isStill_8 fl_M_17 rfl rfl rfl ?_
  refine wp_iload_n d_M_isStill_11 rfl ?_
  refine wp_iald d_M_isStill_12 rfl ?_ ?_
  · exact vp_in_nI (n := e) (by omega) (by decide)
  rw [nI_clamp (show e < 2 ^ 31 by omega), hw]
  refine wp_callV2e d_M_isStill_13 cv_M_124 rfl rfl rfl ⟨Nat.le_of_ble_eq_true rfl, Nat.le_of_ble_eq_true rfl⟩ (Nat.le_of_ble_eq_true rfl) (Nat.le_of_ble_eq_true rfl) (c_M_both (by omega) (by omega) _ hB) ?_
  refine wp_aload_n d_M_isStill_16 rfl ?_
  refine wp_getA d_M_isStill_17 fl_M_17 rfl rfl rfl ?_
  refine wp_iload_n d_M_isStill_20 rfl ?_
  refine wp_iald d_M_isStill_21 rfl ?_ ?_
  · exact vp_in_nI (n := e) (by omega) (by decide)
  rw [nI_clamp (show e < 2 ^ 31 by omega), hw]
  refine wp_icmp_ne (tgt := 29) d_M_isStill_22 (by decide) (fun hc => ?_) (fun hc => ?_)
  · rw [nI_eq (by omega) (by omega)] at hc
    rw [stN, decide_eq_false hc, bz_f (by decide)]
    refine wp_iconst (v := 0) d_M_isStill_29 (by decide) ?_
    refine wp_zret d_M_isStill_30 rfl ?_ ?_
    · decide
    · exact ⟨rfl, rfl⟩
  · rw [nI_eq (by omega) (by omega)] at hc
    rw [stN, decide_eq_true hc, bz_t rfl]
    refine wp_iconst (v := 1) d_M_isStill_25 (by decide) ?_
    refine wp_goto (tgt := 30) d_M_isStill_26 (by decide) ?_
    refine wp_zret d_M_isStill_30 rfl ?_ ?_
    · decide
    · exact ⟨rfl, rfl⟩
def ceN (N L : Nat) (lm : Nat → Nat) (Q : BQ) (e : Nat) : Bool := (List.range L).all (fun l => decide (toP N lm Q e l = ahP N lm Q e l))
theorem c_M_isCentre {N L M e : Nat} {lm : Nat → Nat} (σ : Hp) (hL : LT σ N L lm) (h : LQ σ N L lm M) (hT : TA σ N L lm (EQ N L lm)) (he : e < M) : Ct m_M_isCentre [.ref 56, .int (nI e)] σ (Rt (.int (bz (ceN N L lm (EQ N L lm) e = true))) σ) := by
  obtain ⟨-, -, hl, h15, hW⟩ := h
  have h4 := hL.2.1
  show WP m_M_isCentre 0 [.ref 56, .int (nI e), .null, .null] [] σ _
  refine wp_iconst (v := 1) d_M_isCentre_0 (by decide) ?_
  refine wp_istore2 d_M_isCentre_1 (by decide) rfl ?_
  refine wp_iconst (v := 0) d_M_isCentre_2 (by decide) ?_
  refine wp_istore3 d_M_isCentre_3 (by decide) rfl ?_
  suffices H : ∀ l, l ≤ L → ∀ c : Bool, c = (List.range l).all (fun l => decide (toP N lm (EQ N L lm) e l = ahP N lm (EQ N L lm) e l)) → WP m_M_isCentre 4 [.ref 56, .int (nI e), .int (bz (c = true)), .int (nI l)] [] σ (Rt (.int (bz (ceN N L lm (EQ N L lm) e = true))) σ) by
    have := H 0 (Nat.zero_le _) true rfl
    rw [bz_t (p := (true = true)) rfl] at this
    exact this
  refine lp_nat (fun l hl2 ih c hc => ?_)
  refine wp_iload_n d_M_isCentre_4 rfl ?_
  refine wp_aload_n d_M_isCentre_5 rfl ?_
  refine wp_getI d_M_isCentre_6 fl_M_104 rfl rfl (by decide) ?_
  refine wp_icmp_ge (tgt := 51) d_M_isCentre_9 (by decide) (fun h1 => ?_) (fun h1 => ?_)
  · rw [hL.1] at h1
    obtain rfl := Nat.le_antisymm hl2 (nI_ge2 h1 (by omega) (by omega))
    refine wp_iload_n d_M_isCentre_51 rfl ?_
    refine wp_zret d_M_isCentre_52 rfl ?_ ?_
    · exact bz_nar
    · rw [hc]; exact ⟨rfl, rfl⟩
  · rw [hL.1] at h1
    have hl3 := nI_nge h1 (by omega) (by omega)
    refine wp_iload_n d_M_isCentre_12 rfl ?_
    refine wp_if_eq (tgt := 51) d_M_isCentre_13 (by decide) (fun h3 => ?_) (fun h3 => ?_)
    · have h3 := bz_0.mp h3
      refine wp_iload_n d_M_isCentre_51 rfl ?_
      refine wp_zret d_M_isCentre_52 rfl ?_ ?_
      · exact bz_nar
      · have hcf : c = false := by cases c with
          | false => rfl
          | true => exact absurd rfl h3
        have : ceN N L lm (EQ N L lm) e = c := by
          rw [hcf] at hc ⊢
          exact all_f hl2 hc.symm
        rw [this]
        exact ⟨rfl, rfl⟩
    · have h3 := bz_n0 h3
      obtain ⟨⟨t1, t2⟩, t3, t4⟩ := hT e l (by omega) hl3
      refine wp_aload_n d_M_isCentre_16 rfl ?_
      refine wp_getA d_M_isCentre_17 fl_M_24 rfl rfl rfl ?_
      refine wp_iconst (v := 4) d_M_isCentre_20 (by decide) ?_
      refine wp_iload_n d_M_isCentre_21 rfl ?_
      refine wp_imul d_M_isCentre_22 ?_
      refine wp_iload_n d_M_isCentre_23 rfl ?_
      refine wp_iadd d_M_isCentre_24 ?_
      rw [four_nI]
      refine wp_iald d_M_isCentre_25 rfl ?_ ?_
      · exact vp_in_nI (n := 4 * e + l) (by omega) (by decide)
      rw [nI_clamp (show 4 * e + l < 2 ^ 31 by omega), t1]
      refine wp_aload_n d_M_isCentre_26 rfl ?_
      refine wp_getA d_M_isCentre_27 fl_M_27 rfl rfl rfl ?_
      refine wp_iconst (v := 4) d_M_isCentre_30 (by decide) ?_
      refine wp_iload_n d_M_isCentre_31 rfl ?_
      refine wp_imul d_M_isCentre_32 ?_
      refine wp_iload_n d_M_isCentre_33 rfl ?_
      refine wp_iadd d_M_isCentre_34 ?_
      rw [four_nI]
      refine wp_iald d_M_isCentre_35 rfl ?_ ?_
      · exact vp_in_nI (n := 4 * e + l) (by omega) (by decide)
      rw [nI_clamp (show 4 * e + l < 2 ^ 31 by omega), t3]
      refine wp_icmp_ne (tgt := 43) d_M_isCentre_36 (by decide) (fun h5 => ?_) (fun h5 => ?_)
      · rw [nI_eq (by omega) (by omega)] at h5
        refine wp_iconst (v := 0) d_M_isCentre_43 (by decide) ?_
        refine wp_istore2 d_M_isCentre_44 (by decide) rfl ?_
        refine wp_iinc3 d_M_isCentre_45 (hn_ii1 _) (by decide) rfl ?_
        refine wp_goto (tgt := 4) d_M_isCentre_48 (by decide) ?_
        rw [nI_1]
        exact ih hl3 false (by rw [all_s, ← hc, h3, decide_eq_false h5]; rfl)
      · rw [nI_eq (by omega) (by omega)] at h5
        refine wp_iconst (v := 1) d_M_isCentre_39 (by decide) ?_
        refine wp_goto (tgt := 44) d_M_isCentre_40 (by decide) ?_
        refine wp_istore2 d_M_isCentre_44 (by decide) rfl ?_
        refine wp_iinc3 d_M_isCentre_45 (hn_ii1 _) (by decide) rfl ?_
        refine wp_goto (tgt := 4) d_M_isCentre_48 (by decide) ?_
        rw [nI_1]
        exact ih hl3 true (by rw [all_s, ← hc, h3, decide_eq_true h5]; rfl)
/-- 60 and 13, so written that they aren't counted out -/
def n60 (N : Nat) : Nat := 60 + 0 * N
theorem n60_eq (N : Nat) : n60 N = 60 := by rw [n60, Nat.zero_mul]
def rgN (N m : Nat) : Nat := sr (fun r => pwN N m (12 + (r + 1)) = pwN N m 12) (n60 N) 0 + 1
def tlN (N m : Nat) : Nat := sr (fun t => pwN N m (t + rgN N m) = pwN N m t) (n60 N) 0
def slN (N m : Nat) : Nat := sr (fun k => bN N (pwN N m k) (pwN N m k) = pwN N m k) (n60 N) 0
theorem RgOf.eq {N m R : Nat} (h : RgOf N m R) : R = rgN N m := by
  obtain ⟨h1, h2, h3, h4⟩ := h
  have : sr (fun r => pwN N m (12 + (r + 1)) = pwN N m 12) (n60 N) 0 = R - 1 := by
    refine sr_first (fun j hj => h4 (j + 1) (by omega) (by omega)) ?_ (by rw [n60_eq]; omega)
    show pwN N m (12 + (R - 1 + 1)) = _
    rw [show R - 1 + 1 = R by omega]
    exact h3
  unfold rgN
  omega
theorem TlOf.eq {N m T : Nat} (h : TlOf N m (rgN N m) T) : T = tlN N m := by
  obtain ⟨h1, h2, h3⟩ := h
  have : sr (fun t => pwN N m (t + rgN N m) = pwN N m t) (n60 N) 0 = T := sr_first h3 h2 (by rw [n60_eq]; omega)
  exact this.symm
theorem slN_spec {N m : Nat} (hN : 0 < N) (h6 : N ≤ 6) (hm : m < N ^ N) : slN N m < 60 ∧ bN N (pwN N m (slN N m)) (pwN N m (slN N m)) = pwN N m (slN N m) := by
  have h1 : sr (fun k => bN N (pwN N m k) (pwN N m k) = pwN N m k) (n60 N) 0 < 0 + n60 N := sr_ex _ _ ⟨59, Nat.zero_le _, by rw [n60_eq]; decide, pwN_still hN h6 hm⟩
  refine ⟨?_, sr_at (p := fun k => bN N (pwN N m k) (pwN N m k) = pwN N m k) _ _ h1⟩
  rw [n60_eq] at h1
  unfold slN
  rw [n60_eq]
  omega
theorem EQ_pw {N L : Nat} {lm : Nat → Nat} (hN : 0 < N) (h : (EQ N L lm).length ≤ 1500) {e : Nat} (he : e < (EQ N L lm).length) : ∀ k, hasB (EQ N L lm) (pwN N (itm (EQ N L lm) e) k) = true
  | 0 => hasB_iff.mpr ⟨e, he, rfl⟩
  | k + 1 => by
    obtain ⟨j, j1, j2⟩ := hasB_iff.mp (EQ_pw hN h he k)
    rw [pwN_s, ← j2]
    exact EQ_mul hN h j1 e he
theorem c_M_powers' {m N : Nat} (hm : m < N ^ N) (w : Int32) (σ : Hp) (hB : MB σ N) : Ct m_M_powers [.ref 56, .int (nI m), .int w] σ (Rt (.int (if w = 1 then nI (rgN N m) else nI (tlN N m))) σ) := by
  refine (c_M_powers hm w σ hB).mono (fun x τ hx => ?_)
  obtain ⟨rfl, R, T, h1, h2, rfl⟩ := hx
  have e1 := h1.eq
  rw [e1] at h2
  have e2 := h2.eq
  rw [e1, ← e2]
  exact ⟨rfl, rfl⟩
theorem c_M_stillOf {N L M e : Nat} {lm : Nat → Nat} (σ : Hp) (hB : MB σ N) (h : LQ σ N L lm M) (he : e < M) : Ct m_M_stillOf [.ref 56, .int (nI e)] σ (Rt (.int (nI (psN (EQ N L lm) (pwN N (itm (EQ N L lm) e) (slN N (itm (EQ N L lm) e)))))) σ) := by
  have h6 := hB.2.2
  have hp6 := pow6 h6
  obtain ⟨-, -, hl, h15, hW⟩ := h
  have hw := (hW.1 e (by omega)).1
  have hlt := EQ_lt (L := L) (lm := lm) hB.2.1 e (by omega)
  obtain ⟨m, hm⟩ : ∃ m, m = itm (EQ N L lm) e := ⟨_, rfl⟩
  have hpw := EQ_pw hB.2.1 (by omega) (show e < (EQ N L lm).length by omega)
  rw [← hm] at hw hlt hpw ⊢
  have plt := fun k => pwN_lt hB.2.1 hlt k
  obtain ⟨s1, s2⟩ := slN_spec hB.2.1 h6 hlt
  show WP m_M_stillOf 0 [.ref 56, .int (nI e), .null] [] σ _
  refine wp_aload_n d_M_stillOf_0 rfl ?_
  refine wp_getA d_M_stillOf_1 fl_M_17 rfl rfl rfl ?_
  refine wp_iload_n d_M_stillOf_4 rfl ?_
  refine wp_iald d_M_stillOf_5 rfl ?_ ?_
  · exact vp_in_nI (n := e) (by omega) (by decide)
  rw [nI_clamp (show e < 2 ^ 31 by omega), hw]
  refine wp_istore2 d_M_stillOf_6 (by decide) rfl ?_
  suffices H : ∀ k, k ≤ slN N m → WP m_M_stillOf 7 [.ref 56, .int (nI e), .int (nI (pwN N m k))] [] σ (Rt (.int (nI (psN (EQ N L lm) (pwN N m (slN N m))))) σ) from H 0 (Nat.zero_le _)
  refine lp_nat (fun k hk ih => ?_)
  have hk1 := plt k
  have hk2 := bN_lt (N := N) (a := pwN N m k) (b := pwN N m k) hB.2.1
  refine wp_aload_n d_M_stillOf_7 rfl ?_
  refine wp_iload_n d_M_stillOf_8 rfl ?_
  refine wp_iload_n d_M_stillOf_9 rfl ?_
  refine wp_callV2e d_M_stillOf_10 cv_M_124 rfl rfl rfl ⟨Nat.le_of_ble_eq_true rfl, Nat.le_of_ble_eq_true rfl⟩ (Nat.le_of_ble_eq_true rfl) (Nat.le_of_ble_eq_true rfl) (c_M_both (by omega) (by omega) _ hB) ?_
  refine wp_iload_n d_M_stillOf_13 rfl ?_
  refine wp_icmp_eq (tgt := 32) d_M_stillOf_14 (by decide) (fun hc => ?_) (fun hc => ?_)
  · rw [nI_eq (by omega) (by omega)] at hc
    have hks : k = slN N m := by
      rcases Nat.lt_or_ge k (slN N m) with q | q
      · exfalso
        have : slN N m ≤ k := by
          have h9 : sr (fun k => bN N (pwN N m k) (pwN N m k) = pwN N m k) (n60 N) 0 < 0 + (k + 1) := by
            have e1 : n60 N = (k + 1) + (60 - (k + 1)) := by rw [n60_eq]; omega
            have h8 : sr (fun k => bN N (pwN N m k) (pwN N m k) = pwN N m k) (k + 1) 0 < 0 + (k + 1) := sr_ex _ _ ⟨k, Nat.zero_le _, by omega, hc⟩
            have h7 := sr_at (p := fun k => bN N (pwN N m k) (pwN N m k) = pwN N m k) _ _ h8
            rcases Nat.lt_or_ge (sr (fun k => bN N (pwN N m k) (pwN N m k) = pwN N m k) (n60 N) 0) (k + 1) with r | r
            · omega
            · exfalso
              have key : ∀ f i, (∃ j, i ≤ j ∧ j < i + f ∧ (bN N (pwN N m j) (pwN N m j) = pwN N m j)) → ∀ j, i ≤ j → j < sr (fun k => bN N (pwN N m k) (pwN N m k) = pwN N m k) f i → ¬ (bN N (pwN N m j) (pwN N m j) = pwN N m j) := by
                intro f
                induction f with
                | zero => intro i ⟨j, a, b, _⟩; omega
                | succ f ihf =>
                  intro i hx j hij hj
                  rw [sr] at hj
                  by_cases q5 : bN N (pwN N m i) (pwN N m i) = pwN N m i
                  · rw [if_pos q5] at hj; omega
                  · rw [if_neg q5] at hj
                    by_cases q6 : j = i
                    · rw [q6]; exact q5
                    · obtain ⟨x, x1, x2, x3⟩ := hx
                      refine ihf (i + 1) ⟨x, ?_, by omega, x3⟩ j (by omega) hj
                      by_cases q7 : x = i
                      · rw [q7] at x3; exact absurd x3 q5
                      · omega
              exact key (n60 N) 0 ⟨k, Nat.zero_le _, by rw [n60_eq]; omega, hc⟩ k (Nat.zero_le _) (by omega) hc
          unfold slN
          omega
        omega
      · omega
    subst hks
    have hh := hpw (slN N m)
    obtain ⟨j, j1, j2, j3⟩ := hW.at hh
    have hj : psN (EQ N L lm) (pwN N m (slN N m)) = j := EQ_BI.ps j1 j2
    refine wp_aload_n d_M_stillOf_32 rfl ?_
    refine wp_getA d_M_stillOf_33 fl_M_21 rfl rfl rfl ?_
    refine wp_iload_n d_M_stillOf_36 rfl ?_
    refine wp_iald d_M_stillOf_37 rfl ?_ ?_
    · exact vp_in_nI (n := pwN N m (slN N m)) (by omega) (by decide)
    rw [nI_clamp (show pwN N m (slN N m) < 2 ^ 31 by omega), j3]
    refine wp_iret d_M_stillOf_38 rfl ?_
    rw [hj]
    exact ⟨rfl, rfl⟩
  · rw [nI_eq (by omega) (by omega)] at hc
    have hk3 : k < slN N m := by
      rcases Nat.lt_or_ge k (slN N m) with q | q
      · exact q
      · obtain rfl : k = slN N m := by omega
        exact absurd s2 hc
    refine wp_aload_n d_M_stillOf_17 rfl ?_
    refine wp_iload_n d_M_stillOf_18 rfl ?_
    refine wp_aload_n d_M_stillOf_19 rfl ?_
    refine wp_getA d_M_stillOf_20 fl_M_17 rfl rfl rfl ?_
    refine wp_iload_n d_M_stillOf_23 rfl ?_
    refine wp_iald d_M_stillOf_24 rfl ?_ ?_
    · exact vp_in_nI (n := e) (by omega) (by decide)
    rw [nI_clamp (show e < 2 ^ 31 by omega), hw]
    refine wp_callV2e d_M_stillOf_25 cv_M_124 rfl rfl rfl ⟨Nat.le_of_ble_eq_true rfl, Nat.le_of_ble_eq_true rfl⟩ (Nat.le_of_ble_eq_true rfl) (Nat.le_of_ble_eq_true rfl) (c_M_both (by omega) (by omega) _ hB) ?_
    refine wp_istore2 d_M_stillOf_28 (by decide) rfl ?_
    refine wp_goto (tgt := 7) d_M_stillOf_29 (by decide) ?_
    exact ih hk3
