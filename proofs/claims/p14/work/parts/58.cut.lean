/-! cut: the class's answer -/
theorem v_P_cut (a b : Int32) {N L M : Nat} (σ : Hp) (hI : KI σ N L) (hM : EM σ M) : Ct m_P_cut [.ref 0, .int a, .int b] σ (Rq σ (fun z => ((0 ≤ a ∧ a ≤ nI (N - 1)) ∧ (0 ≤ b ∧ b ≤ nI (N - 1)) ∧ z = tnF (lcF σ N L a b) N) ∨ ((¬ (0 ≤ a ∧ a ≤ nI (N - 1)) ∨ ¬ (0 ≤ b ∧ b ≤ nI (N - 1))) ∧ z = -1))) := by
  show WP m_P_cut 0 [.ref 0, .int a, .int b] [] σ _
  have bad : (¬ (0 ≤ a ∧ a ≤ nI (N - 1)) ∨ ¬ (0 ≤ b ∧ b ≤ nI (N - 1))) → WP m_P_cut 22 [.ref 0, .int a, .int b] [] σ (Rq σ (fun z => ((0 ≤ a ∧ a ≤ nI (N - 1)) ∧ (0 ≤ b ∧ b ≤ nI (N - 1)) ∧ z = tnF (lcF σ N L a b) N) ∨ ((¬ (0 ≤ a ∧ a ≤ nI (N - 1)) ∨ ¬ (0 ≤ b ∧ b ≤ nI (N - 1))) ∧ z = -1))) := by
    intro hb
    refine wp_iconst (v := -1) d_P_cut_22 (by decide) ?_
    refine wp_iret d_P_cut_23 rfl ?_
    exact ⟨⟨_, rfl, Or.inr ⟨hb, rfl⟩⟩, Fp.rf, M, hM⟩
  refine wp_aload_n d_P_cut_0 rfl ?_
  refine wp_getA d_P_cut_1 fl_P_10 rfl rfl rfl ?_
  refine wp_iload_n d_P_cut_4 rfl ?_
  refine wp_callV1e d_P_cut_5 cv_P_194 rfl rfl rfl ⟨Nat.le_of_ble_eq_true rfl, Nat.le_of_ble_eq_true rfl⟩ (Nat.le_of_ble_eq_true rfl) (Nat.le_of_ble_eq_true rfl) (c_L_hasPoint _ _ hI) ?_
  refine wp_if_eq (tgt := 22) d_P_cut_8 (by decide) (fun hc => ?_) (fun hc => ?_)
  · exact bad (Or.inl (bz_0.mp hc))
  · refine wp_aload_n d_P_cut_11 rfl ?_
    refine wp_getA d_P_cut_12 fl_P_10 rfl rfl rfl ?_
    refine wp_iload_n d_P_cut_15 rfl ?_
    refine wp_callV1e d_P_cut_16 cv_P_194 rfl rfl rfl ⟨Nat.le_of_ble_eq_true rfl, Nat.le_of_ble_eq_true rfl⟩ (Nat.le_of_ble_eq_true rfl) (Nat.le_of_ble_eq_true rfl) (c_L_hasPoint _ _ hI) ?_
    refine wp_if_ne (tgt := 24) d_P_cut_19 (by decide) (fun hc2 => ?_) (fun hc2 => ?_)
    · refine wp_aload_n d_P_cut_24 rfl ?_
      refine wp_getA d_P_cut_25 fl_P_37 rfl rfl rfl ?_
      refine wp_iload_n d_P_cut_28 rfl ?_
      refine wp_iload_n d_P_cut_29 rfl ?_
      refine wp_callV2e d_P_cut_30 cv_P_197 rfl rfl rfl ⟨Nat.le_of_ble_eq_true rfl, Nat.le_of_ble_eq_true rfl⟩ (Nat.le_of_ble_eq_true rfl) (Nat.le_of_ble_eq_true rfl) (c_S_leastCut _ _ _ hI) ?_
      refine wp_aload_n d_P_cut_33 rfl ?_
      refine wp_getA d_P_cut_34 fl_P_10 rfl rfl rfl ?_
      refine wp_getI d_P_cut_37 fl_P_66 rfl rfl (by decide) ?_
      rw [hI.1]
      refine wp_callS2e d_P_cut_40 cs_P_200 ⟨Nat.le_of_ble_eq_true rfl, Nat.le_of_ble_eq_true rfl⟩ (Nat.le_of_ble_eq_true rfl) (Nat.le_of_ble_eq_true rfl) (c_G_toNumber _ (by have := hI.2.2.1; omega) _) ?_
      refine wp_iret d_P_cut_43 rfl ?_
      exact ⟨⟨_, rfl, Or.inl ⟨bz_n0 hc, bz_n0 hc2, rfl⟩⟩, Fp.rf, M, hM⟩
    · exact bad (Or.inr (bz_0.mp hc2))
theorem joF_Oc {N a b : Nat} {h : Nat → Nat} (h6 : N ≤ 6) (ha : a < N) (hb : b < N) (hh : ∀ i, i < N → h i < N) : joF (Oc N h) (nI a) (nI b) N = Oc N (jnF h a b) := by
  have h8 := nI_8 h6 hh
  have la := hh a ha
  have lb := hh b hb
  have emx : mxI (gF (Oc N h) (nI a)) (gF (Oc N h) (nI b)) = nI (hiN h a b) := by
    rw [gF_at h6 h8 ha, gF_at h6 h8 hb]
    unfold mxI hiN
    by_cases q : h a < h b
    · rw [if_pos ((nI_ltN (by omega) (by omega)).mpr q), if_pos q]
    · rw [if_neg (fun z => q ((nI_ltN (by omega) (by omega)).mp z)), if_neg q]
  have emn : mnI (gF (Oc N h) (nI a)) (gF (Oc N h) (nI b)) = nI (loN h a b) := by
    rw [gF_at h6 h8 ha, gF_at h6 h8 hb]
    unfold mnI loN
    by_cases q : h b < h a
    · rw [if_pos ((nI_ltN (by omega) (by omega)).mpr q), if_neg (by omega)]
    · rw [if_neg (fun z => q ((nI_ltN (by omega) (by omega)).mp z))]
      by_cases q2 : h a < h b
      · rw [if_pos q2]
      · rw [if_neg q2, show h a = h b by omega]
  have hlo : loN h a b < 8 := by
    unfold loN
    split <;> omega
  have hhi : hiN h a b < 8 := by
    unfold hiN
    split <;> omega
  have key : ∀ K, K ≤ N → it (joS (Oc N h) (nI a) (nI b)) K (Oc N h) = Oc N (fun k => if k < K then jnF h a b k else h k) := by
    intro K
    induction K with
    | zero => intro _; exact Oc_ext (fun i hi => by rw [if_neg (Nat.not_lt_zero i)])
    | succ K ih =>
      intro hK
      have lK := hh K (by omega)
      have d8 : D8 N (fun k => if k < K then jnF h a b k else h k) := fun i hi => by
        try dsimp only
        have := jnF_le h a b i
        have := hh i hi
        split <;> omega
      show (if gF (Oc N h) (nI K) = mxI (gF (Oc N h) (nI a)) (gF (Oc N h) (nI b)) then uF (it (joS (Oc N h) (nI a) (nI b)) K (Oc N h)) (nI K) (mnI (gF (Oc N h) (nI a)) (gF (Oc N h) (nI b))) else it (joS (Oc N h) (nI a) (nI b)) K (Oc N h)) = _
      rw [emx, emn, ih (by omega), gF_at h6 h8 (by omega)]
      by_cases q : h K = hiN h a b
      · rw [if_pos (by rw [q]), uF_Oc h6 d8 (by omega) hlo]
        refine Oc_ext (fun i hi => ?_)
        try dsimp only
        by_cases q2 : i = K
        · rw [if_pos q2, if_pos (by omega), q2, jnF, if_pos q]
        · rw [if_neg q2]
          by_cases q3 : i < K
          · rw [if_pos q3, if_pos (by omega)]
          · rw [if_neg q3, if_neg (by omega)]
      · rw [if_neg (fun e => q ((nI_eq (by omega) (by omega)).mp e))]
        refine Oc_ext (fun i hi => ?_)
        by_cases q2 : i = K
        · rw [if_neg (by omega), if_pos (by omega), q2, jnF, if_neg q]
        · by_cases q3 : i < K
          · rw [if_pos q3, if_pos (by omega)]
          · rw [if_neg q3, if_neg (by omega)]
  rw [joF, key N (Nat.le_refl _)]
  exact Oc_ext (fun i hi => by rw [if_pos hi])
/-- a round, by the numbers -/
def jr (m : Nat → Nat) (i : Nat) (h : Nat → Nat) : Nat → Nat := jnF h (m i) (m (h i))
def jl (N L : Nat) (lm : Nat → Nat) (h : Nat → Nat) : Nat → Nat := it (fun k h => it (jr (gN N (lm k))) N h) L h
def HL (N : Nat) (h : Nat → Nat) : Prop := ∀ i, i < N → h i ≤ i
theorem HL.jn {N a b : Nat} {h : Nat → Nat} (hh : HL N h) : HL N (jnF h a b) := fun i hi => Nat.le_trans (jnF_le h a b i) (hh i hi)
theorem HL.r {N : Nat} {m : Nat → Nat} : ∀ {K : Nat} {h : Nat → Nat}, HL N h → HL N (it (jr m) K h)
  | 0, _, hh => hh
  | K + 1, h, hh => (HL.r (K := K) hh).jn
theorem jr_Oc {N : Nat} {lk : Nat} (h6 : N ≤ 6) (h0 : 0 < N) : ∀ K, K ≤ N → ∀ h, HL N h → it (jlS (Oc N (gN N lk)) N) K (Oc N h) = Oc N (it (jr (gN N lk)) K h)
  | 0, _, _, _ => rfl
  | K + 1, hK, h, hh => by
    have ih := jr_Oc (lk := lk) h6 h0 K (by omega) h hh
    have hh2 := HL.r (m := gN N lk) (K := K) hh
    have lt : ∀ i, i < N → it (jr (gN N lk)) K h i < N := fun i hi => Nat.lt_of_le_of_lt (hh2 i hi) hi
    show joF (it (jlS (Oc N (gN N lk)) N) K (Oc N h)) (gF (Oc N (gN N lk)) (nI K)) (gF (Oc N (gN N lk)) (gF (it (jlS (Oc N (gN N lk)) N) K (Oc N h)) (nI K))) N = _
    rw [ih, gF_at h6 (gN8 h0 h6) (by omega), gF_at h6 (nI_8 h6 lt) (by omega), gF_at h6 (gN8 h0 h6) (lt K (by omega)), joF_Oc h6 (gN_lt h0) (gN_lt h0) lt]
    rfl
theorem jl_Oc {σ : Hp} {N L : Nat} {lm : Nat → Nat} {s e : Nat} (hX : XS σ (N, L, lm, s, e)) : ∀ K, K ≤ L → ∀ h, HL N h → it (fun k r => it (jlS (σ.1 2 k) N) N r) K (Oc N h) = Oc N (it (fun k h => it (jr (gN N (lm k))) N h) K h) ∧ HL N (it (fun k h => it (jr (gN N (lm k))) N h) K h)
  | 0, _, _, hh => ⟨rfl, hh⟩
  | K + 1, hK, h, hh => by
    obtain ⟨i1, i2⟩ := jl_Oc hX K (by omega) h hh
    refine ⟨?_, i2.r⟩
    show it (jlS (σ.1 2 K) N) N (it (fun k r => it (jlS (σ.1 2 k) N) N r) K (Oc N h)) = _
    rw [i1, hX.lt (by omega)]
    exact jr_Oc hX.1.2.2.1 (by have := hX.1.2.1; omega) N (Nat.le_refl _) _ i2
theorem lc_Oc {σ : Hp} {N L : Nat} {lm : Nat → Nat} {s e a b : Nat} (hX : XS σ (N, L, lm, s, e)) (ha : a < N) (hb : b < N) : lcF σ N L (nI a) (nI b) = Oc N (it (fun _ => jl N L lm) N (jnF (fun i => i) a b)) := by
  have h6 := hX.1.2.2.1
  have key : ∀ K, it (fun _ => jlF σ N L) K (joF (noF N) (nI a) (nI b) N) = Oc N (it (fun _ => jl N L lm) K (jnF (fun i => i) a b)) ∧ HL N (it (fun _ => jl N L lm) K (jnF (fun i => i) a b)) := by
    intro K
    induction K with
    | zero =>
      refine ⟨?_, HL.jn (fun i _ => Nat.le_refl i)⟩
      show joF (noF N) (nI a) (nI b) N = _
      rw [noF_Oc h6, joF_Oc h6 ha hb (fun i hi => hi)]
      rfl
    | succ K ih =>
      obtain ⟨i1, i2⟩ := ih
      obtain ⟨j1, j2⟩ := jl_Oc hX L (Nat.le_refl _) _ i2
      refine ⟨?_, j2⟩
      show jlF σ N L (it (fun _ => jlF σ N L) K (joF (noF N) (nI a) (nI b) N)) = _
      rw [i1]
      exact j1
  exact (key N).1
/-! the rounds end in what no letter takes apart -/
theorem jn_id {h : Nat → Nat} {a b : Nat} (e : h a = h b) : jnF h a b = h := by
  funext k
  unfold jnF hiN loN
  have n : ¬ h a < h b := by omega
  simp only [if_neg n]
  split
  · rename_i q; rw [q, e]
  · rfl
def fx (N : Nat) (h : Nat → Nat) : Nat := sm (fun i => if h i = i then 1 else 0) N
theorem sm_lq {F G : Nat → Nat} : ∀ {n : Nat}, (∀ k, k < n → F k ≤ G k) → sm F n ≤ sm G n
  | 0, _ => Nat.le_refl _
  | n + 1, h => Nat.add_le_add (sm_lq (fun k hk => h k (by omega))) (h n (by omega))
theorem sm_lu {F G : Nat → Nat} {j : Nat} : ∀ {n : Nat}, (∀ k, k < n → F k ≤ G k) → j < n → F j < G j → sm F n < sm G n
  | n + 1, h, hj, hl => by
    show sm F n + F n < sm G n + G n
    rcases Nat.lt_or_ge j n with q | q
    · exact Nat.add_lt_add_of_lt_of_le (sm_lu (fun k hk => h k (by omega)) q hl) (h n (by omega))
    · obtain rfl : j = n := by omega
      exact Nat.add_lt_add_of_le_of_lt (sm_lq (fun k hk => h k (by omega))) hl
theorem fx_jn {N a b : Nat} {h : Nat → Nat} (hh : ∀ i, i < N → h i ≤ i ∧ h (h i) = h i) (ha : a < N) (hb : b < N) (ne : h a ≠ h b) : fx N (jnF h a b) < fx N h := by
  have hlo : loN h a b < hiN h a b ∧ hiN h a b < N ∧ h (hiN h a b) = hiN h a b := by
    have := hh a ha
    have := hh b hb
    unfold loN hiN
    split <;> omega
  refine sm_lu (j := hiN h a b) (fun k hk => ?_) hlo.2.1 ?_
  · have := jnF_le h a b k
    have := (hh k hk).1
    by_cases q : jnF h a b k = k
    · rw [if_pos q, if_pos (by omega)]
      exact Nat.le_refl _
    · rw [if_neg q]
      exact Nat.zero_le _
  · have e : jnF h a b (hiN h a b) = loN h a b := by unfold jnF; rw [if_pos hlo.2.2]
    rw [e, if_neg (by omega), if_pos hlo.2.2]
    decide
/-- nothing left to join by letter k at point i -/
def okJ (N : Nat) (lm : Nat → Nat) (h : Nat → Nat) (k i : Nat) : Prop := h (gN N (lm k) i) = h (gN N (lm k) (h i))
theorem jr_all {N L a b k : Nat} {lm h h' : Nat → Nat} (h0 : 0 < N) (hk : k < L) (hp : HPre N L lm a b h') (hc : h' = h ∨ fx N h' < fx N h) : ∀ K, K ≤ N → HPre N L lm a b (it (jr (gN N (lm k))) K h') ∧ ((it (jr (gN N (lm k))) K h' = h ∧ ∀ i, i < K → okJ N lm h k i) ∨ fx N (it (jr (gN N (lm k))) K h') < fx N h)
  | 0, _ => ⟨hp, hc.imp (fun q => ⟨q, fun i hi => absurd hi (Nat.not_lt_zero i)⟩) id⟩
  | K + 1, hK => by
    obtain ⟨i1, i2⟩ := jr_all h0 hk hp hc K (by omega)
    have e : it (jr (gN N (lm k))) (K + 1) h' = jnF (it (jr (gN N (lm k))) K h') (gN N (lm k) K) (gN N (lm k) (it (jr (gN N (lm k))) K h' K)) := rfl
    rw [e]
    generalize it (jr (gN N (lm k))) K h' = g at i1 i2 ⊢
    have gK := i1.1 K (by omega)
    have x1 := gN_lt (N := N) (m := lm k) (i := K) h0
    have x2 := gN_lt (N := N) (m := lm k) (i := g K) h0
    refine ⟨i1.jn x1 x2 (fun R hC hab => hC.2.2.2 k K (g K) hk (by omega) (by omega) (i1.2 R hC hab K (g K) (by omega) (by omega) gK.2.symm)), ?_⟩
    by_cases q : g (gN N (lm k) K) = g (gN N (lm k) (g K))
    · rw [jn_id q]
      rcases i2 with ⟨rfl, i2⟩ | i2
      · refine Or.inl ⟨rfl, fun i hi => ?_⟩
        rcases Nat.lt_or_ge i K with q2 | q2
        · exact i2 i q2
        · rw [show i = K by omega]
          exact q
      · exact Or.inr i2
    · have := fx_jn i1.1 x1 x2 q
      rcases i2 with ⟨rfl, i2⟩ | i2
      · exact Or.inr this
      · exact Or.inr (by omega)
theorem jl_all {N L a b : Nat} {lm h : Nat → Nat} (h0 : 0 < N) (hp : HPre N L lm a b h) : ∀ K, K ≤ L → HPre N L lm a b (it (fun k h => it (jr (gN N (lm k))) N h) K h) ∧ ((it (fun k h => it (jr (gN N (lm k))) N h) K h = h ∧ ∀ k i, k < K → i < N → okJ N lm h k i) ∨ fx N (it (fun k h => it (jr (gN N (lm k))) N h) K h) < fx N h)
  | 0, _ => ⟨hp, Or.inl ⟨rfl, fun k i hk _ => absurd hk (Nat.not_lt_zero k)⟩⟩
  | K + 1, hK => by
    obtain ⟨i1, i2⟩ := jl_all h0 hp K (by omega)
    obtain ⟨j1, j2⟩ := jr_all (k := K) (h := h) h0 (by omega) i1 (i2.imp (fun q => q.1) id) N (Nat.le_refl _)
    refine ⟨j1, ?_⟩
    rcases j2 with ⟨j2, j3⟩ | j2
    · rcases i2 with ⟨i2, i3⟩ | i2
      · refine Or.inl ⟨j2, fun k i hk hi => ?_⟩
        rcases Nat.lt_or_ge k K with q | q
        · exact i3 k i q hi
        · rw [show k = K by omega]
          exact j3 i hi
      · refine Or.inr ?_
        show fx N (it (jr (gN N (lm K))) N (it (fun k h => it (jr (gN N (lm k))) N h) K h)) < fx N h
        have hz : ∀ J g, fx N g < fx N h → (∀ i, i < N → g i ≤ i ∧ g (g i) = g i) → J ≤ N → HPre N L lm a b g → fx N (it (jr (gN N (lm K))) J g) < fx N h := fun J g hg _ hJ hpg => by
          rcases (jr_all (k := K) (h := g) h0 (by omega) hpg (Or.inl rfl) J hJ).2 with ⟨e, _⟩ | e
          · rw [e]; exact hg
          · omega
        exact hz N _ i2 i1.1 (Nat.le_refl _) i1
    · exact Or.inr j2
theorem ct_all {N L a b : Nat} {lm : Nat → Nat} (h0 : 0 < N) (ha : a < N) (hb : b < N) : CtOf N L lm a b (it (fun _ => jl N L lm) N (jnF (fun i => i) a b)) := by
  have p0 : HPre N L lm a b (jnF (fun i => i) a b) := HPre.jn (h := fun i => i) ⟨fun i _ => ⟨Nat.le_refl i, rfl⟩, fun R hC _ i j _ _ e => by dsimp only at e; rw [e]; exact hC.1 j⟩ ha hb (fun _ _ hab => hab)
  have key : ∀ K, HPre N L lm a b (it (fun _ => jl N L lm) K (jnF (fun i => i) a b)) ∧ it (fun _ => jl N L lm) K (jnF (fun i => i) a b) a = it (fun _ => jl N L lm) K (jnF (fun i => i) a b) b ∧ ((∀ k i, k < L → i < N → okJ N lm (it (fun _ => jl N L lm) K (jnF (fun i => i) a b)) k i) ∨ fx N (it (fun _ => jl N L lm) K (jnF (fun i => i) a b)) + K ≤ N) := by
    intro K
    induction K with
    | zero =>
      refine ⟨p0, jnF_ab _ a b, Or.inr ?_⟩
      have h1 := sm_lq (F := fun i => if jnF (fun i => i) a b i = i then 1 else 0) (G := fun _ => 1) (n := N) (fun k _ => by split <;> decide)
      have h2 : ∀ n, sm (fun _ => 1) n = n := fun n => by
        induction n with
        | zero => rfl
        | succ n ih => show sm (fun _ => 1) n + 1 = n + 1; rw [ih]
      rw [h2] at h1
      exact h1
    | succ K ih =>
      obtain ⟨i1, i2, i3⟩ := ih
      have e : it (fun _ => jl N L lm) (K + 1) (jnF (fun i => i) a b) = jl N L lm (it (fun _ => jl N L lm) K (jnF (fun i => i) a b)) := rfl
      rw [e]
      generalize it (fun _ => jl N L lm) K (jnF (fun i => i) a b) = g at i1 i2 i3 ⊢
      obtain ⟨j1, j2⟩ := jl_all h0 i1 L (Nat.le_refl _)
      have hab : jl N L lm g a = jl N L lm g b := by
        have cj : ∀ x y f, f a = f b → jnF f x y a = jnF f x y b := fun x y f e => jnF_cong e
        have c1 : ∀ (m : Nat → Nat) J f, f a = f b → it (jr m) J f a = it (jr m) J f b := fun m J => by
          induction J with
          | zero => exact fun f e => e
          | succ J ih => exact fun f e => cj _ _ _ (ih f e)
        have c2 : ∀ J f, f a = f b → it (fun k h => it (jr (gN N (lm k))) N h) J f a = it (fun k h => it (jr (gN N (lm k))) N h) J f b := fun J => by
          induction J with
          | zero => exact fun f e => e
          | succ J ih => exact fun f e => c1 _ N _ (ih f e)
        exact c2 L g i2
      refine ⟨j1, hab, ?_⟩
      rcases j2 with ⟨j2, j3⟩ | j2
      · refine Or.inl (fun k i hk hi => ?_)
        have : jl N L lm g = g := j2
        rw [this]
        exact j3 k i hk hi
      · rcases i3 with i3 | i3
        · exfalso
          have st : ∀ J, J ≤ N → ∀ k, k < L → it (jr (gN N (lm k))) J g = g := fun J => by
            induction J with
            | zero => exact fun _ _ _ => rfl
            | succ J ih =>
              intro hJ k hk
              show jr (gN N (lm k)) J (it (jr (gN N (lm k))) J g) = g
              rw [ih (by omega) k hk]
              exact jn_id (i3 k J hk (by omega))
          have st2 : ∀ J, J ≤ L → it (fun k h => it (jr (gN N (lm k))) N h) J g = g := fun J => by
            induction J with
            | zero => exact fun _ => rfl
            | succ J ih =>
              intro hJ
              show it (jr (gN N (lm J))) N (it (fun k h => it (jr (gN N (lm k))) N h) J g) = g
              rw [ih (by omega)]
              exact st N (Nat.le_refl _) J (by omega)
          rw [st2 L (Nat.le_refl _)] at j2
          omega
        · refine Or.inr ?_
          have : fx N (jl N L lm g) < fx N g := j2
          omega
  obtain ⟨k1, k2, k3⟩ := key N
  refine ⟨k1, k2, fun l i j hl hi hj e => ?_⟩
  have hk : ∀ k i, k < L → i < N → okJ N lm (it (fun _ => jl N L lm) N (jnF (fun i => i) a b)) k i := by
    rcases k3 with k3 | k3
    · exact k3
    · exfalso
      have h1 : 1 ≤ fx N (it (fun _ => jl N L lm) N (jnF (fun i => i) a b)) := by
        have z := (k1.1 0 h0).1
        have := sm_lu (F := fun _ => 0) (G := fun i => if it (fun _ => jl N L lm) N (jnF (fun i => i) a b) i = i then 1 else 0) (n := N) (j := 0) (fun _ _ => Nat.zero_le _) h0 (by rw [if_pos (by omega)]; decide)
        rw [sm_0] at this
        exact this
      omega
  have a1 := hk l i hl hi
  have a2 := hk l j hl hj
  unfold okJ at a1 a2
  rw [a1, a2, e]
/-- there is but one -/
theorem ct_un {N L a b : Nat} {lm h g : Nat → Nat} (hh : CtOf N L lm a b h) (hg : CtOf N L lm a b g) (ha : a < N) (hb : b < N) : ∀ i, i < N → h i = g i := by
  have cg : ∀ f, CtOf N L lm a b f → Cg N L lm (fun i j => i = j ∨ (i < N ∧ j < N ∧ f i = f j)) := fun f hf =>
    ⟨fun i => Or.inl rfl, fun i j r => r.imp Eq.symm (fun q => ⟨q.2.1, q.1, q.2.2.symm⟩), fun i j k r1 r2 => by
      rcases r1 with rfl | r1
      · exact r2
      · rcases r2 with rfl | r2
        · exact Or.inr r1
        · exact Or.inr ⟨r1.1, r2.2.1, r1.2.2.trans r2.2.2⟩, fun l i j hl hi hj r => by
      rcases r with rfl | r
      · exact Or.inl rfl
      · exact Or.inr ⟨gN_lt (by omega), gN_lt (by omega), hf.2.2 l i j hl hi hj r.2.2⟩⟩
  have imp : ∀ f f', CtOf N L lm a b f → CtOf N L lm a b f' → ∀ i j, i < N → j < N → f i = f j → f' i = f' j := fun f f' hf hf' i j hi hj e => by
    rcases hf.1.2 _ (cg f' hf') (Or.inr ⟨ha, hb, hf'.2.1⟩) i j hi hj e with rfl | r
    · rfl
    · exact r.2.2
  have le : ∀ f f', CtOf N L lm a b f → CtOf N L lm a b f' → ∀ i, i < N → f' i ≤ f i := fun f f' hf hf' i hi => by
    have h1 := hf.1.1 i hi
    have h2 := hf'.1.1 (f i) (by omega)
    have h3 := imp f f' hf hf' (f i) i (by omega) hi h1.2
    omega
  intro i hi
  have := le h g hh hg i hi
  have := le g h hg hh i hi
  omega
theorem xv_cut (x y : Int32) {σ : Hp} {a : Sx} (h : XS σ a) : Ct m_P_cut [.ref 0, .int x, .int y] σ (YX σ a (aeCu x y a)) := by
  obtain ⟨N, L, lm, s, e⟩ := a
  obtain ⟨M, hM, -⟩ := h.2.2.2.2
  have h0 := h.1.2.1
  have h6 := h.1.2.2.1
  refine (v_P_cut x y σ h.1 hM).im (fun w τ hr => hr.yx h (fun z hz => ?_))
  rcases hz with ⟨hx, hy, rfl⟩ | hz
  · obtain ⟨i, hi, rfl⟩ := pt_nI h0 h6 hx
    obtain ⟨j, hj, rfl⟩ := pt_nI h0 h6 hy
    have hC := ct_all (L := L) (lm := lm) (by omega) hi hj
    refine Or.inl ⟨i, j, _, hi, hj, rfl, rfl, hC, ?_⟩
    rw [lc_Oc h hi hj, tnF_Oc h6 (nI_8 h6 (fun k hk => Nat.lt_of_le_of_lt (hC.1.1 k hk).1 hk))]
  · exact Or.inr hz
theorem un_cut {x y z z' : Int32} {σ : Hp} {a : Sx} (hX : XS σ a) (h : aeCu x y a z) (h' : aeCu x y a z') : z = z' := by
  obtain ⟨N, L, lm, s, e⟩ := a
  have h0 := hX.1.2.1
  have h6 := hX.1.2.2.1
  have bad : ∀ i j, i < N → j < N → ¬ (¬ (0 ≤ nI i ∧ nI i ≤ nI (N - 1)) ∨ ¬ (0 ≤ nI j ∧ nI j ≤ nI (N - 1))) := fun i j hi hj q => q.elim (fun q => q ⟨nI_pos' (by omega), nI_le (by omega) (by omega)⟩) (fun q => q ⟨nI_pos' (by omega), nI_le (by omega) (by omega)⟩)
  rcases h with ⟨i, j, g, hi, hj, rfl, rfl, hg, rfl⟩ | ⟨h, rfl⟩ <;> rcases h' with ⟨i', j', g', hi', hj', e1, e2, hg', rfl⟩ | ⟨h', rfl⟩
  · rw [nI_eq (by omega) (by omega)] at e1 e2
    subst e1
    subst e2
    have := ct_un hg hg' hi hj
    congr 1
    refine gN_ext (by omega) (hzN_lt (fun k hk => Nat.lt_of_le_of_lt (hg.1.1 k hk).1 hk)) (hzN_lt (fun k hk => Nat.lt_of_le_of_lt (hg'.1.1 k hk).1 hk)) (fun k hk => ?_)
    rw [hzN_dig (fun k hk => Nat.lt_of_le_of_lt (hg.1.1 k hk).1 hk) hk, hzN_dig (fun k hk => Nat.lt_of_le_of_lt (hg'.1.1 k hk).1 hk) hk, this k hk]
  · exact absurd h' (bad i j hi hj)
  · rw [e1, e2] at h
    exact absurd h (bad i' j' hi' hj')
  · rfl
