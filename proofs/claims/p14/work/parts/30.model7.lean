/-! contracts: heaps of points: cut, as the reference has it -/
theorem nI_ltN {a b : Nat} (ha : a < 2 ^ 31) (hb : b < 2 ^ 31) : nI a < nI b ↔ a < b := nI_ltI ha hb
theorem nI_leN {a b : Nat} (ha : a < 2 ^ 31) (hb : b < 2 ^ 31) : nI a ≤ nI b ↔ a ≤ b := nI_leI ha hb
def HR (τ : Hp) (N : Nat) (h : Nat → Nat) : Prop := ∀ i, i < N → τ.1 76 i = nI (h i)
theorem HR.mv {σ τ : Hp} {N : Nat} {h : Nat → Nat} (hr : HR σ N h) (e : τ.1 76 = σ.1 76) : HR τ N h := fun i hi => by rw [e]; exact hr i hi
def loN (h : Nat → Nat) (a b : Nat) : Nat := if h a < h b then h a else h b
def hiN (h : Nat → Nat) (a b : Nat) : Nat := if h a < h b then h b else h a
def jnF (h : Nat → Nat) (a b : Nat) : Nat → Nat := fun k => if h k = hiN h a b then loN h a b else h k
theorem loN_le (h : Nat → Nat) (a b : Nat) : loN h a b ≤ hiN h a b := by
  unfold loN hiN
  split <;> omega
theorem jnF_le (h : Nat → Nat) (a b k : Nat) : jnF h a b k ≤ h k := by
  have := loN_le h a b
  unfold jnF
  split <;> omega
theorem jnF_ab (h : Nat → Nat) (a b : Nat) : jnF h a b a = jnF h a b b := by
  unfold jnF loN hiN
  by_cases q : h a < h b
  · simp only [if_pos q, if_neg (Nat.ne_of_lt q), if_true]
  · simp only [if_neg q, if_true]
    split <;> rfl
theorem jnF_cong {h : Nat → Nat} {a b i j : Nat} (e : h i = h j) : jnF h a b i = jnF h a b j := by unfold jnF; rw [e]
/-- what no letter takes apart -/
def Cg (N L : Nat) (lm : Nat → Nat) (R : Nat → Nat → Prop) : Prop := (∀ i, R i i) ∧ (∀ i j, R i j → R j i) ∧ (∀ i j k, R i j → R j k → R i k) ∧ ∀ l i j, l < L → i < N → j < N → R i j → R (gN N (lm l) i) (gN N (lm l) j)
/-- heaps named by their least, no greater than what a and b, put together, ask -/
def HPre (N L : Nat) (lm : Nat → Nat) (a b : Nat) (h : Nat → Nat) : Prop := (∀ i, i < N → h i ≤ i ∧ h (h i) = h i) ∧ ∀ R, Cg N L lm R → R a b → ∀ i j, i < N → j < N → h i = h j → R i j
theorem HPre.jn {N L : Nat} {lm : Nat → Nat} {a b x y : Nat} {h : Nat → Nat} (hp : HPre N L lm a b h) (hx : x < N) (hy : y < N) (hR : ∀ R, Cg N L lm R → R a b → R x y) : HPre N L lm a b (jnF h x y) := by
  obtain ⟨h1, h2⟩ := hp
  have hlo : h (loN h x y) = loN h x y ∧ loN h x y < N := by
    unfold loN
    have := h1 x hx
    have := h1 y hy
    split
    · exact ⟨(h1 x hx).2, by omega⟩
    · exact ⟨(h1 y hy).2, by omega⟩
  have hle := loN_le h x y
  have jlo : jnF h x y (loN h x y) = loN h x y := by
    unfold jnF
    rw [hlo.1]
    split <;> rfl
  refine ⟨fun i hi => ⟨Nat.le_trans (jnF_le h x y i) (h1 i hi).1, ?_⟩, fun R hC hab i j hi hj e => ?_⟩
  · by_cases q : h i = hiN h x y
    · have e1 : jnF h x y i = loN h x y := by unfold jnF; rw [if_pos q]
      rw [e1, jlo]
    · have e1 : jnF h x y i = h i := by unfold jnF; rw [if_neg q]
      rw [e1]
      unfold jnF
      rw [(h1 i hi).2, if_neg q]
  · have hs := h2 R hC hab
    obtain ⟨c1, c2, c3, c4⟩ := hC
    have rep : ∀ k, k < N → R k (h k) := fun k hk => hs k (h k) hk (Nat.lt_of_le_of_lt (h1 k hk).1 hk) ((h1 k hk).2).symm
    have hlh : R (loN h x y) (hiN h x y) := by
      have r := hR R ⟨c1, c2, c3, c4⟩ hab
      have rx := rep x hx
      have ry := rep y hy
      unfold loN hiN
      split
      · exact c3 _ _ _ (c2 _ _ rx) (c3 _ _ _ r ry)
      · exact c3 _ _ _ (c2 _ _ ry) (c3 _ _ _ (c2 _ _ r) rx)
    have key : ∀ k, k < N → R k (jnF h x y k) := by
      intro k hk
      unfold jnF
      by_cases q : h k = hiN h x y
      · rw [if_pos q]
        exact c3 _ _ _ (rep k hk) (by rw [q]; exact c2 _ _ hlh)
      · rw [if_neg q]
        exact rep k hk
    exact c3 _ _ _ (key i hi) (by rw [e]; exact c2 _ _ (key j hj))
theorem hz_le {N K : Nat} {f g : Nat → Nat} (h : ∀ i, i < K → f i ≤ g i) : ∀ J, J ≤ K → hz N K f J ≤ hz N K g J
  | 0, _ => Nat.le_refl _
  | J + 1, hJ => by
    have ih := hz_le (N := N) h J (by omega)
    have := h (K - 1 - J) (by omega)
    show N * hz N K f J + f (K - 1 - J) ≤ N * hz N K g J + g (K - 1 - J)
    have := Nat.mul_le_mul_left N ih
    omega
theorem hzN_inj {N : Nat} {f g : Nat → Nat} (hf : ∀ i, i < N → f i < N) (hg : ∀ i, i < N → g i < N) (e : hzN N f = hzN N g) : ∀ i, i < N → f i = g i := fun i hi => by
  rw [← hzN_dig hf hi, ← hzN_dig hg hi, e]
def hS76 : List Nat := [76]
theorem c_M_joins {a b N : Nat} {h : Nat → Nat} (ha : a < N) (hb : b < N) (σ : Hp) (hB : MB σ N) (hR : HR σ N h) (hlt : ∀ i, i < N → h i < 2 ^ 31) : Ct m_M_joins [.ref 56, .int (nI a), .int (nI b)] σ (fun w τ => w = none ∧ Fp hS76 σ τ ∧ HR τ N (jnF h a b)) := by
  have h6 := hB.2.2
  show WP m_M_joins 0 [.ref 56, .int (nI a), .int (nI b), .null, .null, .null] [] σ _
  have la := hlt a ha
  have lb := hlt b hb
  have body : ∀ k, k ≤ N → ∀ τ, Fp hS76 σ τ → (∀ i, i < N → τ.1 76 i = nI (if i < k then jnF h a b i else h i)) → WP m_M_joins 66 [.ref 56, .int (nI a), .int (nI b), .int (nI (loN h a b)), .int (nI (hiN h a b)), .int (nI k)] [] τ (fun w τ => w = none ∧ Fp hS76 σ τ ∧ HR τ N (jnF h a b)) := by
    have lhi : hiN h a b < 2 ^ 31 := by unfold hiN; split <;> omega
    refine lp_nat (fun k hk ih τ hF hv => ?_)
    have hB := hF.MB (by decide) hB
    refine wp_iload d_M_joins_66 rfl ?_
    refine wp_aload_n d_M_joins_68 rfl ?_
    refine wp_getI d_M_joins_69 fl_M_7 rfl rfl (by decide) ?_
    refine wp_icmp_ge (tgt := 111) d_M_joins_72 (by decide) (fun hc => ?_) (fun hc => ?_)
    · rw [hB.1] at hc
      obtain rfl := Nat.le_antisymm hk (nI_ge2 hc (by omega) (by omega))
      refine wp_vret d_M_joins_111 rfl ?_
      exact ⟨rfl, hF, fun i hi => by rw [hv i hi, if_pos hi]⟩
    · rw [hB.1] at hc
      have hk2 := nI_nge hc (by omega) (by omega)
      have e0 := hv k hk2
      rw [if_neg (Nat.lt_irrefl _)] at e0
      have lk := hlt k hk2
      have fin : ∀ z, z = jnF h a b k → WP m_M_joins 104 [.ref 56, .int (nI a), .int (nI b), .int (nI (loN h a b)), .int (nI (hiN h a b)), .int (nI k)] [.int (nI z), .int (nI k), .ref 76] τ (fun w τ => w = none ∧ Fp hS76 σ τ ∧ HR τ N (jnF h a b)) := by
        intro z hz
        refine wp_iast d_M_joins_104 rfl ?_ ?_
        · exact vp_in_nI (n := k) (by omega) (by decide)
        rw [nI_clamp (show k < 2 ^ 31 by omega)]
        refine wp_iinc5 d_M_joins_105 (hn_ii1 _) (by decide) rfl ?_
        refine wp_goto (tgt := 66) d_M_joins_108 (by decide) ?_
        rw [nI_1]
        refine ih hk2 _ (hF.wI (by decide)) (fun i hi => ?_)
        rw [wI_eq]
        by_cases q : i = k
        · rw [q, upd_eq, hz, if_pos (by omega)]
        · rw [upd_ne q, hv i hi]
          by_cases q2 : i < k
          · rw [if_pos q2, if_pos (by omega)]
          · rw [if_neg q2, if_neg (by omega)]
      refine wp_aload_n d_M_joins_75 rfl ?_
      refine wp_getA d_M_joins_76 fl_M_73 rfl rfl rfl ?_
      refine wp_iload d_M_joins_79 rfl ?_
      refine wp_aload_n d_M_joins_81 rfl ?_
      refine wp_getA d_M_joins_82 fl_M_73 rfl rfl rfl ?_
      refine wp_iload d_M_joins_85 rfl ?_
      refine wp_iald d_M_joins_87 rfl ?_ ?_
      · exact vp_in_nI (n := k) (by omega) (by decide)
      rw [nI_clamp (show k < 2 ^ 31 by omega), e0]
      refine wp_iload d_M_joins_88 rfl ?_
      refine wp_icmp_ne (tgt := 97) d_M_joins_90 (by decide) (fun hc2 => ?_) (fun hc2 => ?_)
      · rw [nI_eq (by omega) (by omega)] at hc2
        refine wp_aload_n d_M_joins_97 rfl ?_
        refine wp_getA d_M_joins_98 fl_M_73 rfl rfl rfl ?_
        refine wp_iload d_M_joins_101 rfl ?_
        refine wp_iald d_M_joins_103 rfl ?_ ?_
        · exact vp_in_nI (n := k) (by omega) (by decide)
        rw [nI_clamp (show k < 2 ^ 31 by omega), e0]
        exact fin _ (by unfold jnF; rw [if_neg hc2])
      · rw [nI_eq (by omega) (by omega)] at hc2
        refine wp_iload_n d_M_joins_93 rfl ?_
        refine wp_goto (tgt := 104) d_M_joins_94 (by decide) ?_
        exact fin _ (by unfold jnF; rw [if_pos hc2])
  have mid : ∀ z, z = loN h a b → WP m_M_joins 30 [.ref 56, .int (nI a), .int (nI b), .null, .null, .null] [.int (nI z)] σ (fun w τ => w = none ∧ Fp hS76 σ τ ∧ HR τ N (jnF h a b)) := by
    intro z hz
    subst hz
    have mid2 : ∀ z, z = hiN h a b → WP m_M_joins 61 [.ref 56, .int (nI a), .int (nI b), .int (nI (loN h a b)), .null, .null] [.int (nI z)] σ (fun w τ => w = none ∧ Fp hS76 σ τ ∧ HR τ N (jnF h a b)) := by
      intro z hz
      subst hz
      refine wp_istore4 d_M_joins_61 (by decide) rfl ?_
      refine wp_iconst (v := 0) d_M_joins_63 (by decide) ?_
      refine wp_istore5 d_M_joins_64 (by decide) rfl ?_
      exact body 0 (Nat.zero_le _) σ Fp.rf (fun i hi => by rw [if_neg (Nat.not_lt_zero i)]; exact hR i hi)
    refine wp_istore3 d_M_joins_30 (by decide) rfl ?_
    refine wp_aload_n d_M_joins_31 rfl ?_
    refine wp_getA d_M_joins_32 fl_M_73 rfl rfl rfl ?_
    refine wp_iload_n d_M_joins_35 rfl ?_
    refine wp_iald d_M_joins_36 rfl ?_ ?_
    · exact vp_in_nI (n := a) (by omega) (by decide)
    rw [nI_clamp (show a < 2 ^ 31 by omega), hR a ha]
    refine wp_aload_n d_M_joins_37 rfl ?_
    refine wp_getA d_M_joins_38 fl_M_73 rfl rfl rfl ?_
    refine wp_iload_n d_M_joins_41 rfl ?_
    refine wp_iald d_M_joins_42 rfl ?_ ?_
    · exact vp_in_nI (n := b) (by omega) (by decide)
    rw [nI_clamp (show b < 2 ^ 31 by omega), hR b hb]
    refine wp_icmp_ge (tgt := 55) d_M_joins_43 (by decide) (fun hc => ?_) (fun hc => ?_)
    · rw [nI_leN lb la] at hc
      refine wp_aload_n d_M_joins_55 rfl ?_
      refine wp_getA d_M_joins_56 fl_M_73 rfl rfl rfl ?_
      refine wp_iload_n d_M_joins_59 rfl ?_
      refine wp_iald d_M_joins_60 rfl ?_ ?_
      · exact vp_in_nI (n := a) (by omega) (by decide)
      rw [nI_clamp (show a < 2 ^ 31 by omega), hR a ha]
      exact mid2 _ (by unfold hiN; rw [if_neg (by omega)])
    · rw [nI_leN lb la] at hc
      refine wp_aload_n d_M_joins_46 rfl ?_
      refine wp_getA d_M_joins_47 fl_M_73 rfl rfl rfl ?_
      refine wp_iload_n d_M_joins_50 rfl ?_
      refine wp_iald d_M_joins_51 rfl ?_ ?_
      · exact vp_in_nI (n := b) (by omega) (by decide)
      rw [nI_clamp (show b < 2 ^ 31 by omega), hR b hb]
      refine wp_goto (tgt := 61) d_M_joins_52 (by decide) ?_
      exact mid2 _ (by unfold hiN; rw [if_pos (by omega)])
  refine wp_aload_n d_M_joins_0 rfl ?_
  refine wp_getA d_M_joins_1 fl_M_73 rfl rfl rfl ?_
  refine wp_iload_n d_M_joins_4 rfl ?_
  refine wp_iald d_M_joins_5 rfl ?_ ?_
  · exact vp_in_nI (n := a) (by omega) (by decide)
  rw [nI_clamp (show a < 2 ^ 31 by omega), hR a ha]
  refine wp_aload_n d_M_joins_6 rfl ?_
  refine wp_getA d_M_joins_7 fl_M_73 rfl rfl rfl ?_
  refine wp_iload_n d_M_joins_10 rfl ?_
  refine wp_iald d_M_joins_11 rfl ?_ ?_
  · exact vp_in_nI (n := b) (by omega) (by decide)
  rw [nI_clamp (show b < 2 ^ 31 by omega), hR b hb]
  refine wp_icmp_ge (tgt := 24) d_M_joins_12 (by decide) (fun hc => ?_) (fun hc => ?_)
  · rw [nI_leN lb la] at hc
    refine wp_aload_n d_M_joins_24 rfl ?_
    refine wp_getA d_M_joins_25 fl_M_73 rfl rfl rfl ?_
    refine wp_iload_n d_M_joins_28 rfl ?_
    refine wp_iald d_M_joins_29 rfl ?_ ?_
    · exact vp_in_nI (n := b) (by omega) (by decide)
    rw [nI_clamp (show b < 2 ^ 31 by omega), hR b hb]
    exact mid _ (by unfold loN; rw [if_neg (by omega)])
  · rw [nI_leN lb la] at hc
    refine wp_aload_n d_M_joins_15 rfl ?_
    refine wp_getA d_M_joins_16 fl_M_73 rfl rfl rfl ?_
    refine wp_iload_n d_M_joins_19 rfl ?_
    refine wp_iald d_M_joins_20 rfl ?_ ?_
    · exact vp_in_nI (n := a) (by omega) (by decide)
    rw [nI_clamp (show a < 2 ^ 31 by omega), hR a ha]
    refine wp_goto (tgt := 30) d_M_joins_21 (by decide) ?_
    exact mid _ (by unfold loN; rw [if_pos (by omega)])
theorem c_M_told {N : Nat} {h : Nat → Nat} (σ : Hp) (hB : MB σ N) (hR : HR σ N h) : Ct m_M_told [.ref 56] σ (Rt (.int (nI (hzN N h))) σ) := by
  have h6 := hB.2.2
  show WP m_M_told 0 [.ref 56, .null, .null] [] σ _
  refine wp_iconst (v := 0) d_M_told_0 (by decide) ?_
  refine wp_istore1 d_M_told_1 (by decide) rfl ?_
  refine wp_aload_n d_M_told_2 rfl ?_
  refine wp_getI d_M_told_3 fl_M_7 rfl rfl (by decide) ?_
  refine wp_iconst (v := 1) d_M_told_6 (by decide) ?_
  refine wp_isub d_M_told_7 ?_
  refine wp_istore2 d_M_told_8 (by decide) rfl ?_
  rw [hB.1]
  suffices H : ∀ j, j ≤ N → WP m_M_told 9 [.ref 56, .int (nI (hz N N h j)), .int (nI (N - j) - 1)] [] σ (Rt (.int (nI (hzN N h))) σ) from H 0 (Nat.zero_le _)
  refine lp_nat (fun j hj ih => ?_)
  refine wp_iload_n d_M_told_9 rfl ?_
  refine wp_if_lt (tgt := 33) d_M_told_10 (by decide) (fun hc => ?_) (fun hc => ?_)
  · obtain rfl := nI_down (by omega) hc hj
    refine wp_iload_n d_M_told_33 rfl ?_
    refine wp_iret d_M_told_34 rfl ?_
    exact ⟨rfl, rfl⟩
  · obtain ⟨hjN, hd2⟩ := nI_down2 hc
    rw [hd2]
    refine wp_aload_n d_M_told_13 rfl ?_
    refine wp_getI d_M_told_14 fl_M_7 rfl rfl (by decide) ?_
    refine wp_iload_n d_M_told_17 rfl ?_
    refine wp_imul d_M_told_18 ?_
    refine wp_aload_n d_M_told_19 rfl ?_
    refine wp_getA d_M_told_20 fl_M_73 rfl rfl rfl ?_
    refine wp_iload_n d_M_told_23 rfl ?_
    refine wp_iald d_M_told_24 rfl ?_ ?_
    · exact vp_in_nI (n := N - 1 - j) (by omega) (by decide)
    rw [nI_clamp (by omega), hR _ (by omega)]
    refine wp_iadd d_M_told_25 ?_
    refine wp_istore1 d_M_told_26 (by decide) rfl ?_
    refine wp_iinc2 d_M_told_27 (hn_iim1 _) (by decide) rfl ?_
    refine wp_goto (tgt := 9) d_M_told_30 (by decide) ?_
    rw [hB.1, pk_mul, nI_add, nI_down3 hjN]
    exact ih hjN
/-- heaps that no letter takes apart, with a and b together, and no greater than that asks -/
def CtOf (N L : Nat) (lm : Nat → Nat) (a b : Nat) (h : Nat → Nat) : Prop := HPre N L lm a b h ∧ h a = h b ∧ ∀ l i j, l < L → i < N → j < N → h i = h j → h (gN N (lm l) i) = h (gN N (lm l) j)
def dnP (N L : Nat) (lm : Nat → Nat) (h : Nat → Nat) (l i j : Nat) : Prop := ∀ l' i' j', l' < L → i' < N → j' < i' → (l' < l ∨ (l' = l ∧ (i' < i ∨ (i' = i ∧ j' < j)))) → h i' = h j' → h (gN N (lm l') i') = h (gN N (lm l') j')
theorem c_M_cut_no (a b : Int32) {N : Nat} (σ : Hp) (hB : MB σ N) (h : ¬ (0 ≤ a ∧ a ≤ nI (N - 1)) ∨ ¬ (0 ≤ b ∧ b ≤ nI (N - 1))) : Ct m_M_cut [.ref 56, .int a, .int b] σ (Rt (.int (-1)) (Th σ)) := by
  have hB := hB.th
  show WP m_M_cut 0 [.ref 56, .int a, .int b, .null, .null, .null, .null] [] σ _
  have bad : WP m_M_cut 21 [.ref 56, .int a, .int b, .null, .null, .null, .null] [] (Th σ) (Rt (.int (-1)) (Th σ)) := by
    refine wp_iconst (v := -1) d_M_cut_21 (by decide) ?_
    refine wp_iret d_M_cut_22 rfl ?_
    exact ⟨rfl, rfl⟩
  refine wp_aload_n d_M_cut_0 rfl ?_
  refine wp_iconst (v := 0) d_M_cut_1 (by decide) ?_
  refine wp_putI d_M_cut_2 fp_M_89 rfl rfl (by decide) rfl rfl ?_
  show WP m_M_cut 5 _ _ (Th σ) _
  refine wp_aload_n d_M_cut_5 rfl ?_
  refine wp_iload_n d_M_cut_6 rfl ?_
  refine wp_callV1e d_M_cut_7 cv_M_201 rfl rfl rfl ⟨Nat.le_of_ble_eq_true rfl, Nat.le_of_ble_eq_true rfl⟩ (Nat.le_of_ble_eq_true rfl) (Nat.le_of_ble_eq_true rfl) (c_M_isPoint _ _ hB) ?_
  refine wp_if_eq (tgt := 21) d_M_cut_10 (by decide) (fun hc => ?_) (fun hc => ?_)
  · exact bad
  · refine wp_aload_n d_M_cut_13 rfl ?_
    refine wp_iload_n d_M_cut_14 rfl ?_
    refine wp_callV1e d_M_cut_15 cv_M_201 rfl rfl rfl ⟨Nat.le_of_ble_eq_true rfl, Nat.le_of_ble_eq_true rfl⟩ (Nat.le_of_ble_eq_true rfl) (Nat.le_of_ble_eq_true rfl) (c_M_isPoint _ _ hB) ?_
    refine wp_if_ne (tgt := 23) d_M_cut_18 (by decide) (fun hc2 => ?_) (fun hc2 => ?_)
    · exact h.elim (fun q => absurd (bz_n0 hc) q) (fun q => absurd (bz_n0 hc2) q)
    · exact bad
theorem c_M_cut {a b N L : Nat} {lm : Nat → Nat} (σ : Hp) (hB : MB σ N) (hL : LT σ N L lm) (ha : a < N) (hb : b < N) : Ct m_M_cut [.ref 56, .int (nI a), .int (nI b)] σ (fun w τ => ∃ h, w = some (.int (nI (hzN N h))) ∧ Fp hS76 (Th σ) τ ∧ CtOf N L lm a b h) := by
  have hB := hB.th
  have hL := hL.th
  have h6 := hB.2.2
  have hp6 := pow6 h6
  have h4 := hL.2.1
  have ltN : ∀ {h}, HPre N L lm a b h → ∀ i, i < N → h i < N := fun hp i hi => Nat.lt_of_le_of_lt (hp.1 i hi).1 hi
  have lt31 : ∀ {h}, HPre N L lm a b h → ∀ i, i < N → h i < 2 ^ 31 := fun hp i hi => by have := ltN hp i hi; omega
  have zlt : ∀ {h}, HPre N L lm a b h → hzN N h < 2 ^ 31 := fun hp => by have := hzN_lt (ltN hp); omega
  have loop : ∀ d (h : Nat → Nat) (τ : Hp) (bf : Int32) (x4 x5 x6 : Value), x4.category = 1 → x5.category = 1 → hzN N h < d → Fp hS76 (Th σ) τ → HR τ N h → HPre N L lm a b h → h a = h b → (bf = nI (hzN N h) → CtOf N L lm a b h) → WP m_M_cut 54 [.ref 56, .int (nI a), .int (nI b), .int bf, x4, x5, x6] [] τ (fun w τ => ∃ h, w = some (.int (nI (hzN N h))) ∧ Fp hS76 (Th σ) τ ∧ CtOf N L lm a b h) := by
    intro d
    induction d with
    | zero => intro h τ bf x4 x5 x6 _ _ hd; exact absurd hd (Nat.not_lt_zero _)
    | succ d ihd =>
      intro h0 τ bf x4 x5 x6 hx4 hx5 hd hF hR0 hp0 hab hcl
      have hB1 := hF.MB (by decide) hB
      refine wp_aload_n d_M_cut_54 rfl ?_
      refine wp_callV0e d_M_cut_55 cv_M_208 rfl rfl rfl ⟨Nat.le_of_ble_eq_true rfl, Nat.le_of_ble_eq_true rfl⟩ (Nat.le_of_ble_eq_true rfl) (Nat.le_of_ble_eq_true rfl) (c_M_told _ hB1 hR0) ?_
      refine wp_iload_n d_M_cut_58 rfl ?_
      refine wp_icmp_eq (tgt := 169) d_M_cut_59 (by decide) (fun hc => ?_) (fun hc => ?_)
      · refine wp_aload_n d_M_cut_169 rfl ?_
        refine wp_callV0e d_M_cut_170 cv_M_208 rfl rfl rfl ⟨Nat.le_of_ble_eq_true rfl, Nat.le_of_ble_eq_true rfl⟩ (Nat.le_of_ble_eq_true rfl) (Nat.le_of_ble_eq_true rfl) (c_M_told _ hB1 hR0) ?_
        refine wp_iret d_M_cut_173 rfl ?_
        exact ⟨h0, rfl, hF, hcl hc.symm⟩
      · refine wp_aload_n d_M_cut_62 rfl ?_
        refine wp_callV0e d_M_cut_63 cv_M_208 rfl rfl rfl ⟨Nat.le_of_ble_eq_true rfl, Nat.le_of_ble_eq_true rfl⟩ (Nat.le_of_ble_eq_true rfl) (Nat.le_of_ble_eq_true rfl) (c_M_told _ hB1 hR0) ?_
        refine wp_istore3 d_M_cut_66 (by decide) rfl ?_
        refine wp_iconst (v := 0) d_M_cut_67 (by decide) ?_
        refine wp_istore4 d_M_cut_68 (by decide) rfl ?_
        -- one round
        suffices H : ∀ l, l ≤ L → ∀ (τ : Hp) (x5 x6 : Value) (h : Nat → Nat), x5.category = 1 → Fp hS76 (Th σ) τ → HR τ N h → HPre N L lm a b h → h a = h b → (∀ i, i < N → h i ≤ h0 i) → ((∀ i, i < N → h i = h0 i) → dnP N L lm h0 l 0 0) → WP m_M_cut 70 [.ref 56, .int (nI a), .int (nI b), .int (nI (hzN N h0)), .int (nI l), x5, x6] [] τ (fun w τ => ∃ h, w = some (.int (nI (hzN N h))) ∧ Fp hS76 (Th σ) τ ∧ CtOf N L lm a b h) from H 0 (Nat.zero_le _) τ _ _ h0 hx5 hF hR0 hp0 hab (fun _ _ => Nat.le_refl _) (fun _ l' i' j' _ _ _ q => by omega)
        clear hcl hF hB1 hR0 τ
        refine lp_nat (fun l hl ihl τ x5 x6 h hx5 hF hR hp hab hle hdn => ?_)
        have hB1 := hF.MB (by decide) hB
        have hL1 := hF.LT (by decide) (by decide) hL
        refine wp_iload d_M_cut_70 rfl ?_
        refine wp_aload_n d_M_cut_72 rfl ?_
        refine wp_getI d_M_cut_73 fl_M_104 rfl rfl (by decide) ?_
        refine wp_icmp_ge (tgt := 166) d_M_cut_76 (by decide) (fun hc2 => ?_) (fun hc2 => ?_)
        · rw [hL1.1] at hc2
          obtain rfl := Nat.le_antisymm hl (nI_ge2 hc2 (by omega) (by omega))
          refine wp_goto (tgt := 54) d_M_cut_166 (by decide) ?_
          have hz1 : hzN N h ≤ hzN N h0 := hz_le hle N (Nat.le_refl _)
          have clo : nI (hzN N h0) = nI (hzN N h) → CtOf N l lm a b h := by
            intro e
            rw [nI_eq (zlt hp0) (zlt hp)] at e
            have ee := hzN_inj (ltN hp) (ltN hp0) e.symm
            have hd2 := hdn ee
            refine ⟨hp, hab, fun l' i j hl' hi hj e2 => ?_⟩
            have g1 := gN_lt (N := N) (m := lm l') (i := i) hB.2.1
            have g2 := gN_lt (N := N) (m := lm l') (i := j) hB.2.1
            rw [ee _ g1, ee _ g2]
            rw [ee i hi, ee j hj] at e2
            rcases Nat.lt_trichotomy i j with q | q | q
            · exact (hd2 l' j i hl' hj q (Or.inl hl') e2.symm).symm
            · rw [q]
            · exact hd2 l' i j hl' hi q (Or.inl hl') e2
          rcases Nat.lt_or_ge (hzN N h) d with q | q
          · exact ihd h τ _ _ _ _ rfl hx5 q hF hR hp hab clo
          · have e : hzN N h0 = hzN N h := by omega
            refine wp_aload_n d_M_cut_54 rfl ?_
            refine wp_callV0e d_M_cut_55 cv_M_208 rfl rfl rfl ⟨Nat.le_of_ble_eq_true rfl, Nat.le_of_ble_eq_true rfl⟩ (Nat.le_of_ble_eq_true rfl) (Nat.le_of_ble_eq_true rfl) (c_M_told _ hB1 hR) ?_
            refine wp_iload_n d_M_cut_58 rfl ?_
            refine wp_icmp_eq (tgt := 169) d_M_cut_59 (by decide) (fun hc3 => ?_) (fun hc3 => ?_)
            · refine wp_aload_n d_M_cut_169 rfl ?_
              refine wp_callV0e d_M_cut_170 cv_M_208 rfl rfl rfl ⟨Nat.le_of_ble_eq_true rfl, Nat.le_of_ble_eq_true rfl⟩ (Nat.le_of_ble_eq_true rfl) (Nat.le_of_ble_eq_true rfl) (c_M_told _ hB1 hR) ?_
              refine wp_iret d_M_cut_173 rfl ?_
              exact ⟨h, rfl, hF, clo (by rw [e])⟩
            · exact absurd (by rw [e]) hc3
        · rw [hL1.1] at hc2
          have hl2 := nI_nge hc2 (by omega) (by omega)
          refine wp_iconst (v := 0) d_M_cut_79 (by decide) ?_
          refine wp_istore5 d_M_cut_80 (by decide) rfl ?_
          suffices H : ∀ i, i ≤ N → ∀ (τ : Hp) (x6 : Value) (h : Nat → Nat), Fp hS76 (Th σ) τ → HR τ N h → HPre N L lm a b h → h a = h b → (∀ i, i < N → h i ≤ h0 i) → ((∀ i, i < N → h i = h0 i) → dnP N L lm h0 l i 0) → WP m_M_cut 82 [.ref 56, .int (nI a), .int (nI b), .int (nI (hzN N h0)), .int (nI l), .int (nI i), x6] [] τ (fun w τ => ∃ h, w = some (.int (nI (hzN N h))) ∧ Fp hS76 (Th σ) τ ∧ CtOf N L lm a b h) from H 0 (Nat.zero_le _) τ _ h hF hR hp hab hle hdn
          clear hdn hle hab hp hR hF hB1 hL1 h τ
          refine lp_nat (fun i hi ihi τ x6 h hF hR hp hab hle hdn => ?_)
          have hB1 := hF.MB (by decide) hB
          refine wp_iload d_M_cut_82 rfl ?_
          refine wp_aload_n d_M_cut_84 rfl ?_
          refine wp_getI d_M_cut_85 fl_M_7 rfl rfl (by decide) ?_
          refine wp_icmp_ge (tgt := 160) d_M_cut_88 (by decide) (fun hc3 => ?_) (fun hc3 => ?_)
          · rw [hB1.1] at hc3
            obtain rfl := Nat.le_antisymm hi (nI_ge2 hc3 (by omega) (by omega))
            refine wp_iinc4 d_M_cut_160 (hn_ii1 _) (by decide) rfl ?_
            refine wp_goto (tgt := 70) d_M_cut_163 (by decide) ?_
            rw [nI_1]
            refine ihl hl2 τ _ _ h rfl hF hR hp hab hle (fun e l' i' j' q1 q2 q3 q4 => ?_)
            refine hdn e l' i' j' q1 q2 q3 ?_
            rcases q4 with q4 | q4
            · rcases Nat.lt_or_ge l' l with q | q
              · exact Or.inl q
              · exact Or.inr ⟨by omega, Or.inl q2⟩
            · omega
          · rw [hB1.1] at hc3
            have hi2 := nI_nge hc3 (by omega) (by omega)
            refine wp_iconst (v := 0) d_M_cut_91 (by decide) ?_
            refine wp_istore6 d_M_cut_92 (by decide) rfl ?_
            suffices H : ∀ j, j ≤ i → ∀ (τ : Hp) (h : Nat → Nat), Fp hS76 (Th σ) τ → HR τ N h → HPre N L lm a b h → h a = h b → (∀ i, i < N → h i ≤ h0 i) → ((∀ i, i < N → h i = h0 i) → dnP N L lm h0 l i j) → WP m_M_cut 94 [.ref 56, .int (nI a), .int (nI b), .int (nI (hzN N h0)), .int (nI l), .int (nI i), .int (nI j)] [] τ (fun w τ => ∃ h, w = some (.int (nI (hzN N h))) ∧ Fp hS76 (Th σ) τ ∧ CtOf N L lm a b h) from H 0 (Nat.zero_le _) τ h hF hR hp hab hle hdn
            clear hdn hle hab hp hR hF hB1 h τ
            refine lp_nat (fun j hj ihj τ h hF hR hp hab hle hdn => ?_)
            have hB1 := hF.MB (by decide) hB
            have hL1 := hF.LT (by decide) (by decide) hL
            refine wp_iload d_M_cut_94 rfl ?_
            refine wp_iload d_M_cut_96 rfl ?_
            refine wp_icmp_ge (tgt := 154) d_M_cut_98 (by decide) (fun hc5 => ?_) (fun hc5 => ?_)
            · obtain rfl := Nat.le_antisymm hj (nI_ge2 hc5 (by omega) (by omega))
              refine wp_iinc5 d_M_cut_154 (hn_ii1 _) (by decide) rfl ?_
              refine wp_goto (tgt := 82) d_M_cut_157 (by decide) ?_
              rw [nI_1]
              refine ihi hi2 τ _ h hF hR hp hab hle (fun e l' i' j' q1 q2 q3 q4 => ?_)
              refine hdn e l' i' j' q1 q2 q3 ?_
              omega
            · have hj2 := nI_nge hc5 (by omega) (by omega)
              have li := lt31 hp i hi2
              have lj := lt31 hp j (by omega)
              obtain ⟨l1, l2⟩ := hL1.2.2 l hl2
              refine wp_aload_n d_M_cut_101 rfl ?_
              refine wp_getA d_M_cut_102 fl_M_73 rfl rfl rfl ?_
              refine wp_iload d_M_cut_105 rfl ?_
              refine wp_iald d_M_cut_107 rfl ?_ ?_
              · exact vp_in_nI (n := i) (by omega) (by decide)
              rw [nI_clamp (show i < 2 ^ 31 by omega), hR i hi2]
              refine wp_aload_n d_M_cut_108 rfl ?_
              refine wp_getA d_M_cut_109 fl_M_73 rfl rfl rfl ?_
              refine wp_iload d_M_cut_112 rfl ?_
              refine wp_iald d_M_cut_114 rfl ?_ ?_
              · exact vp_in_nI (n := j) (by omega) (by decide)
              rw [nI_clamp (show j < 2 ^ 31 by omega), hR j (by omega)]
              refine wp_icmp_ne (tgt := 148) d_M_cut_115 (by decide) (fun hc6 => ?_) (fun hc6 => ?_)
              · rw [nI_eq li lj] at hc6
                refine wp_iinc6 d_M_cut_148 (hn_ii1 _) (by decide) rfl ?_
                refine wp_goto (tgt := 94) d_M_cut_151 (by decide) ?_
                rw [nI_1]
                refine ihj hj2 τ h hF hR hp hab hle (fun e l' i' j' q1 q2 q3 q4 e2 => ?_)
                rcases Nat.lt_or_ge j' j with q | q
                · exact hdn e l' i' j' q1 q2 q3 (by omega) e2
                · by_cases q5 : l' = l ∧ i' = i
                  · have : j' = j := by omega
                    rw [q5.2, this, ← e i hi2, ← e j (by omega)] at e2
                    exact absurd e2 hc6
                  · exact hdn e l' i' j' q1 q2 q3 (by omega) e2
              · rw [nI_eq li lj] at hc6
                refine wp_aload_n d_M_cut_118 rfl ?_
                refine wp_aload_n d_M_cut_119 rfl ?_
                refine wp_aload_n d_M_cut_120 rfl ?_
                refine wp_getA d_M_cut_121 fl_M_13 rfl rfl rfl ?_
                refine wp_iload d_M_cut_124 rfl ?_
                refine wp_iald d_M_cut_126 rfl ?_ ?_
                · exact vp_in_nI (n := l) (by omega) (by decide)
                rw [nI_clamp (show l < 2 ^ 31 by omega), l1]
                refine wp_iload d_M_cut_127 rfl ?_
                refine wp_callV2e d_M_cut_129 cv_M_96 rfl rfl rfl ⟨Nat.le_of_ble_eq_true rfl, Nat.le_of_ble_eq_true rfl⟩ (Nat.le_of_ble_eq_true rfl) (Nat.le_of_ble_eq_true rfl) (c_M_goes (by omega) (by omega) _ hB1) ?_
                refine wp_aload_n d_M_cut_132 rfl ?_
                refine wp_aload_n d_M_cut_133 rfl ?_
                refine wp_getA d_M_cut_134 fl_M_13 rfl rfl rfl ?_
                refine wp_iload d_M_cut_137 rfl ?_
                refine wp_iald d_M_cut_139 rfl ?_ ?_
                · exact vp_in_nI (n := l) (by omega) (by decide)
                rw [nI_clamp (show l < 2 ^ 31 by omega), l1]
                refine wp_iload d_M_cut_140 rfl ?_
                refine wp_callV2e d_M_cut_142 cv_M_96 rfl rfl rfl ⟨Nat.le_of_ble_eq_true rfl, Nat.le_of_ble_eq_true rfl⟩ (Nat.le_of_ble_eq_true rfl) (Nat.le_of_ble_eq_true rfl) (c_M_goes (by omega) (by omega) _ hB1) ?_
                have g1 := gN_lt (N := N) (m := lm l) (i := i) hB.2.1
                have g2 := gN_lt (N := N) (m := lm l) (i := j) hB.2.1
                refine wp_callV2 d_M_cut_145 cv_M_204 rfl rfl rfl ⟨Nat.le_of_ble_eq_true rfl, Nat.le_of_ble_eq_true rfl⟩ (Nat.le_of_ble_eq_true rfl) (Nat.le_of_ble_eq_true rfl) (c_M_joins g1 g2 _ hB1 hR (lt31 hp)) (fun v υ hv => ?_)
                obtain ⟨rfl, hF2, hR2⟩ := hv
                show WP m_M_cut 148 _ [] υ _
                refine wp_iinc6 d_M_cut_148 (hn_ii1 _) (by decide) rfl ?_
                refine wp_goto (tgt := 94) d_M_cut_151 (by decide) ?_
                rw [nI_1]
                refine ihj hj2 υ _ (hF.tr hF2) hR2 (hp.jn g1 g2 (fun R hC hr => hC.2.2.2 l i j hl2 hi2 (by omega) (hp.2 R hC hr i j hi2 (by omega) hc6))) (jnF_cong hab) (fun k hk => Nat.le_trans (jnF_le _ _ _ k) (hle k hk)) (fun e l' i' j' q1 q2 q3 q4 e2 => ?_)
                have e3 : ∀ k, k < N → h k = h0 k := fun k hk => by
                  have a1 := e k hk
                  have a2 := jnF_le h (gN N (lm l) i) (gN N (lm l) j) k
                  have a3 := hle k hk
                  omega
                by_cases q5 : l' = l ∧ i' = i ∧ j' = j
                · obtain ⟨rfl, rfl, rfl⟩ := q5
                  rw [← e _ g1, ← e _ g2]
                  exact jnF_ab _ _ _
                · exact hdn e3 l' i' j' q1 q2 q3 (by omega) e2
  show WP m_M_cut 0 [.ref 56, .int (nI a), .int (nI b), .null, .null, .null, .null] [] σ _
  refine wp_aload_n d_M_cut_0 rfl ?_
  refine wp_iconst (v := 0) d_M_cut_1 (by decide) ?_
  refine wp_putI d_M_cut_2 fp_M_89 rfl rfl (by decide) rfl rfl ?_
  show WP m_M_cut 5 _ _ (Th σ) _
  refine wp_aload_n d_M_cut_5 rfl ?_
  refine wp_iload_n d_M_cut_6 rfl ?_
  refine wp_callV1e d_M_cut_7 cv_M_201 rfl rfl rfl ⟨Nat.le_of_ble_eq_true rfl, Nat.le_of_ble_eq_true rfl⟩ (Nat.le_of_ble_eq_true rfl) (Nat.le_of_ble_eq_true rfl) (c_M_isPoint _ _ hB) ?_
  refine wp_if_eq (tgt := 21) d_M_cut_10 (by decide) (fun hc => ?_) (fun hc => ?_)
  · exact absurd ⟨nI_pos' (by omega), nI_le (by omega) (by omega)⟩ (bz_0.mp hc)
  · refine wp_aload_n d_M_cut_13 rfl ?_
    refine wp_iload_n d_M_cut_14 rfl ?_
    refine wp_callV1e d_M_cut_15 cv_M_201 rfl rfl rfl ⟨Nat.le_of_ble_eq_true rfl, Nat.le_of_ble_eq_true rfl⟩ (Nat.le_of_ble_eq_true rfl) (Nat.le_of_ble_eq_true rfl) (c_M_isPoint _ _ hB) ?_
    refine wp_if_ne (tgt := 23) d_M_cut_18 (by decide) (fun hc2 => ?_) (fun hc2 => ?_)
    · refine wp_iconst (v := 0) d_M_cut_23 (by decide) ?_
      refine wp_istore3 d_M_cut_24 (by decide) rfl ?_
      suffices H : ∀ k, k ≤ N → ∀ τ, Fp hS76 (Th σ) τ → (∀ i, i < k → τ.1 76 i = nI i) → WP m_M_cut 25 [.ref 56, .int (nI a), .int (nI b), .int (nI k), .null, .null, .null] [] τ (fun w τ => ∃ h, w = some (.int (nI (hzN N h))) ∧ Fp hS76 (Th σ) τ ∧ CtOf N L lm a b h) from H 0 (Nat.zero_le _) _ Fp.rf (fun i hi => absurd hi (Nat.not_lt_zero i))
      refine lp_nat (fun k hk ih τ hF hv => ?_)
      have hB1 := hF.MB (by decide) hB
      refine wp_iload_n d_M_cut_25 rfl ?_
      refine wp_aload_n d_M_cut_26 rfl ?_
      refine wp_getI d_M_cut_27 fl_M_7 rfl rfl (by decide) ?_
      refine wp_icmp_ge (tgt := 46) d_M_cut_30 (by decide) (fun hc3 => ?_) (fun hc3 => ?_)
      · rw [hB1.1] at hc3
        obtain rfl := Nat.le_antisymm hk (nI_ge2 hc3 (by omega) (by omega))
        refine wp_aload_n d_M_cut_46 rfl ?_
        refine wp_iload_n d_M_cut_47 rfl ?_
        refine wp_iload_n d_M_cut_48 rfl ?_
        have hR : HR τ k (fun i => i) := hv
        refine wp_callV2 d_M_cut_49 cv_M_204 rfl rfl rfl ⟨Nat.le_of_ble_eq_true rfl, Nat.le_of_ble_eq_true rfl⟩ (Nat.le_of_ble_eq_true rfl) (Nat.le_of_ble_eq_true rfl) (c_M_joins ha hb _ hB1 hR (fun i hi => by omega)) (fun v υ hv2 => ?_)
        obtain ⟨rfl, hF2, hR2⟩ := hv2
        show WP m_M_cut 52 _ [] υ _
        refine wp_iconst (v := -1) d_M_cut_52 (by decide) ?_
        refine wp_istore3 d_M_cut_53 (by decide) rfl ?_
        have hp0 : HPre k L lm a b (fun i => i) := ⟨fun i hi => ⟨Nat.le_refl _, rfl⟩, fun R hC _ i j _ _ e => by
          have e : i = j := e
          rw [e]; exact hC.1 j⟩
        have hp : HPre k L lm a b (jnF (fun i => i) a b) := hp0.jn ha hb (fun R _ hr => hr)
        have hz0 := zlt hp
        refine loop _ _ υ _ _ _ _ rfl rfl (Nat.lt_succ_self _) (hF.tr hF2) hR2 hp (jnF_ab _ _ _) (fun e => ?_)
        exfalso
        have := nI_pos hz0
        rw [← e] at this
        exact this (by decide)
      · rw [hB1.1] at hc3
        have hk2 := nI_nge hc3 (by omega) (by omega)
        refine wp_aload_n d_M_cut_33 rfl ?_
        refine wp_getA d_M_cut_34 fl_M_73 rfl rfl rfl ?_
        refine wp_iload_n d_M_cut_37 rfl ?_
        refine wp_iload_n d_M_cut_38 rfl ?_
        refine wp_iast d_M_cut_39 rfl ?_ ?_
        · exact vp_in_nI (n := k) (by omega) (by decide)
        rw [nI_clamp (show k < 2 ^ 31 by omega)]
        refine wp_iinc3 d_M_cut_40 (hn_ii1 _) (by decide) rfl ?_
        refine wp_goto (tgt := 25) d_M_cut_43 (by decide) ?_
        rw [nI_1]
        refine ih hk2 _ (hF.wI (by decide)) (fun i hi => ?_)
        rw [wI_eq]
        by_cases q : i = k
        · rw [q, upd_eq]
        · rw [upd_ne q]; exact hv i (by omega)
    · exact absurd ⟨nI_pos' (by omega), nI_le (by omega) (by omega)⟩ (bz_0.mp hc2)
