/-! contracts: heaps found (the reference): the search -/
theorem TR.push {M : Nat} {τ : Hp} {u : Nat → Bool} {f w g p o : Nat → Nat} {held high v : Nat} (h : TR M τ u f w g p o held high) : TR M (wI τ 68 high (nI v)) u f w g (fu p high v) o held (high + 1) := by
  obtain ⟨h1, h2, h3, h4, h5, h6, h7⟩ := h
  refine ⟨?_, ?_, ?_, fun i hi => ?_, ?_, ?_, ?_⟩
  · rw [wI_ne (by decide)]; exact h1
  · rw [wI_ne (by decide)]; exact h2
  · rw [wI_ne (by decide)]; exact h3
  · rw [wI_eq]
    by_cases q : i = high
    · rw [q, upd_eq, fu_eq]
    · rw [upd_ne q, fu_ne q]; exact h4 i (by omega)
  · rw [wI_ne (by decide)]; exact h5
  · rw [wI_ne (by decide)]; exact h6
  · rw [wI_ne (by decide)]; exact h7
theorem TR.opn {M : Nat} {τ : Hp} {u : Nat → Bool} {f w g p o : Nat → Nat} {held high met a : Nat} (h : TR M τ u f w g p o held high) : TR M (wI (wI (wI (wI (wI τ 70 a (nI met)) 71 a (nI met)) 69 a (nI 0)) 67 held (nI a)) 72 a 1) (fu u a true) (fu f a met) (fu w a met) (fu g a 0) p (fu o held a) (held + 1) high := by
  obtain ⟨h1, h2, h3, h4, h5, h6, h7⟩ := h
  refine ⟨fun e he => ?_, fun e he hu => ?_, fun e he hu => ?_, fun i hi => ?_, fun j hj => ?_, fun e he hno => ?_, fun e he hu => ?_⟩
  · rw [wI_ne (by decide), wI_ne (by decide), wI_ne (by decide), wI_ne (by decide), wI_eq]
    by_cases q : e = a
    · rw [q, upd_eq, fu_eq, fu_eq, if_pos rfl]
    · rw [upd_ne q, fu_ne q, fu_ne q]; exact h1 e he
  · rw [wI_ne (by decide), wI_ne (by decide), wI_ne (by decide), wI_eq]
    by_cases q : e = a
    · rw [q, upd_eq, fu_eq]
    · rw [fu_ne q] at hu
      rw [upd_ne q, fu_ne q, wI_ne (by decide)]; exact h2 e he hu
  · rw [wI_ne (by decide), wI_ne (by decide), wI_eq]
    by_cases q : e = a
    · rw [q, upd_eq, fu_eq]
    · rw [fu_ne q] at hu
      rw [upd_ne q, fu_ne q, wI_ne (by decide), wI_ne (by decide)]; exact h3 e he hu
  · rw [wI_ne (by decide), wI_ne (by decide), wI_ne (by decide), wI_ne (by decide), wI_ne (by decide)]
    exact h4 i hi
  · rw [wI_ne (by decide), wI_eq]
    by_cases q : j = held
    · rw [q, upd_eq, fu_eq]
    · rw [upd_ne q, fu_ne q, wI_ne (by decide), wI_ne (by decide), wI_ne (by decide)]; exact h5 j (by omega)
  · have q : e ≠ a := fun q => hno held (by omega) (by rw [fu_eq, q])
    rw [wI_eq, upd_ne q, wI_ne (by decide), wI_ne (by decide), wI_ne (by decide), wI_ne (by decide)]
    refine h6 e he (fun j hj q2 => hno j (by omega) (by rw [fu_ne (by omega)]; exact q2))
  · rw [wI_ne (by decide), wI_ne (by decide), wI_ne (by decide), wI_ne (by decide), wI_ne (by decide)]
    by_cases q : e = a
    · exact Or.inl ⟨held, by omega, by rw [fu_eq, q]⟩
    · rw [fu_ne q] at hu
      rcases h7 e he hu with ⟨j, a1, a2⟩ | r
      · exact Or.inl ⟨j, by omega, by rw [fu_ne (by omega)]; exact a2⟩
      · exact Or.inr r
theorem TR.step {M : Nat} {τ : Hp} {u : Nat → Bool} {f w g p o : Nat → Nat} {held high a x : Nat} (h : TR M τ u f w g p o held high) : TR M (wI τ 69 a (nI x)) u f w (fu g a x) p o held high := by
  obtain ⟨h1, h2, h3, h4, h5, h6, h7⟩ := h
  refine ⟨?_, ?_, fun e he hu => ?_, ?_, ?_, ?_, ?_⟩
  · rw [wI_ne (by decide)]; exact h1
  · rw [wI_ne (by decide)]; exact h2
  · rw [wI_eq]
    by_cases q : e = a
    · rw [q, upd_eq, fu_eq]
    · rw [upd_ne q, fu_ne q]; exact h3 e he hu
  · rw [wI_ne (by decide)]; exact h4
  · rw [wI_ne (by decide)]; exact h5
  · rw [wI_ne (by decide)]; exact h6
  · rw [wI_ne (by decide)]; exact h7
theorem TR.lower {M : Nat} {τ : Hp} {u : Nat → Bool} {f w g p o : Nat → Nat} {held high a x : Nat} (h : TR M τ u f w g p o held high) : TR M (wI τ 71 a (nI x)) u f (fu w a x) g p o held high := by
  obtain ⟨h1, h2, h3, h4, h5, h6, h7⟩ := h
  refine ⟨?_, fun e he hu => ?_, ?_, ?_, ?_, ?_, ?_⟩
  · rw [wI_ne (by decide)]; exact h1
  · rw [wI_eq]
    by_cases q : e = a
    · rw [q, upd_eq, fu_eq]
    · rw [upd_ne q, fu_ne q]; exact h2 e he hu
  · rw [wI_ne (by decide)]; exact h3
  · rw [wI_ne (by decide)]; exact h4
  · rw [wI_ne (by decide)]; exact h5
  · rw [wI_ne (by decide)]; exact h6
  · rw [wI_ne (by decide)]; exact h7
theorem TR.less {M : Nat} {τ : Hp} {u : Nat → Bool} {f w g p o : Nat → Nat} {held high : Nat} (h : TR M τ u f w g p o held (high + 1)) : TR M τ u f w g p o held high := by
  obtain ⟨h1, h2, h3, h4, h5, h6, h7⟩ := h
  exact ⟨h1, h2, h3, fun i hi => h4 i (by omega), h5, h6, h7⟩
theorem TR.pop {M : Nat} {τ : Hp} {u : Nat → Bool} {f w g p o : Nat → Nat} {held high a : Nat} (h : TR M τ u f w g p o (held + 1) high) (ha : a < M) : TR M (wI (wI τ 78 (o held) (nI a)) 72 (o held) 0) u f w g p o held high := by
  obtain ⟨h1, h2, h3, h4, h5, h6, h7⟩ := h
  refine ⟨?_, ?_, ?_, ?_, fun j hj => ?_, fun e he hno => ?_, fun e he hu => ?_⟩
  · rw [wI_ne (by decide), wI_ne (by decide)]; exact h1
  · rw [wI_ne (by decide), wI_ne (by decide)]; exact h2
  · rw [wI_ne (by decide), wI_ne (by decide)]; exact h3
  · rw [wI_ne (by decide), wI_ne (by decide)]; exact h4
  · rw [wI_ne (by decide), wI_ne (by decide)]; exact h5 j (by omega)
  · rw [wI_eq]
    by_cases q : e = o held
    · rw [q, upd_eq]
    · rw [upd_ne q, wI_ne (by decide)]
      refine h6 e he (fun j hj => ?_)
      by_cases q2 : j = held
      · rw [q2]; exact fun q3 => q q3.symm
      · exact hno j (by omega)
  · rw [wI_ne (by decide), wI_eq]
    by_cases q : e = o held
    · exact Or.inr ⟨a, ha, by rw [q, upd_eq]⟩
    · rw [upd_ne q]
      rcases h7 e he hu with ⟨j, a1, a2⟩ | r
      · refine Or.inl ⟨j, ?_, a2⟩
        rcases Nat.lt_or_ge j held with q2 | q2
        · exact q2
        · rw [show j = held by omega] at a2
          exact absurd a2.symm q
      · exact Or.inr r
def tjS : List Nat := [67, 68, 69, 70, 71, 72, 78]
theorem wt1_ne {T : Nat} {u : Nat → Bool} {g : Nat → Nat} {a x : Nat} {e : Nat} (h : e ≠ a) : wt1 T u (fu g a x) e = wt1 T u g e := by unfold wt1; rw [fu_ne h]
theorem wt1_ne2 {T : Nat} {u : Nat → Bool} {g : Nat → Nat} {a x : Nat} {b : Bool} {e : Nat} (h : e ≠ a) : wt1 T (fu u a b) (fu g a x) e = wt1 T u g e := by unfold wt1; rw [fu_ne h, fu_ne h]
theorem ne9 {a : Nat} (ha : a < 2 ^ 31) : ¬ nI a = -9 := fun q => by
  have := nI_pos ha
  rw [q] at this
  exact this (by decide)
theorem c_M_heaps_main {N L kind M : Nat} {lm : Nat → Nat} {Q : BQ} {Z : Option Value → Hp → Prop} (σ : Hp) (h2 : σ.1 56 2 = nI L) (hL4 : L ≤ 4) (hT : TA σ N L lm Q) (hM : Q.length = M) (hM15 : M ≤ 1500) (h7 : σ.1 56 7 = nI M) (hk : kind ≤ 2)
    (K : ∀ (τ : Hp) (a : Nat → Nat) (z4 : Int32) (x2 x3 x5 x6 x7 x8 : Value), Fp tjS σ τ → (∀ e, e < M → τ.1 78 e = nI (a e) ∧ a e < M) → (∀ e e', e < M → e' < M → (a e = a e' ↔ RQ (spP N L lm Q kind) (spN L kind) e e' ∧ RQ (spP N L lm Q kind) (spN L kind) e' e)) → WP m_M_heaps 419 [.ref 56, .int (nI kind), x2, x3, .int z4, x5, x6, x7, x8] [] τ Z) : Ct m_M_heaps [.ref 56, .int (nI kind)] σ Z := by
  have T8 : spN L kind ≤ 8 := by unfold spN; split <;> omega
  obtain ⟨T, hTe⟩ : ∃ T, T = spN L kind := ⟨_, rfl⟩
  rw [← hTe] at T8
  have stp : ∀ a k, a < M → k < T → spP N L lm Q kind a k < M := fun a k ha hk2 => by rw [← hM]; exact spP_lt hT hk (by omega) (by omega)
  -- the search from one on
  have loop : ∀ first, first < M → (∀ (τ : Hp) (u : Nat → Bool) (f w g p o : Nat → Nat) (met : Nat) (x7 x8 : Value), Fp tjS σ τ → TR M τ u f w g p o 0 0 → TP M T u f w g p o met 0 0 0 → TZ M T (spP N L lm Q kind) τ u f w g p o 0 0 0 → (∀ e, e < first + 1 → u e = true) → WP m_M_heaps 413 [.ref 56, .int (nI kind), .int (nI T), .int (nI met), .int (nI 0), .int (nI first), .int (nI 0), x7, x8] [] τ Z) →
      ∀ d (τ : Hp) (u : Nat → Bool) (f w g p o : Nat → Nat) (met held high hb : Nat) (x7 x8 : Value), sm (wt1 T u g) M + high < d → Fp tjS σ τ → TR M τ u f w g p o held high → TP M T u f w g p o met held high hb → TZ M T (spP N L lm Q kind) τ u f w g p o held high hb → (hb = high ∨ (hb + 1 = high ∧ u (p hb) = false)) → (∀ e, e < first → u e = true) → (u first = true ∨ (high = 1 ∧ hb = 0 ∧ p 0 = first)) → WP m_M_heaps 92 [.ref 56, .int (nI kind), .int (nI T), .int (nI met), .int (nI held), .int (nI first), .int (nI high), x7, x8] [] τ Z := by
    intro first hfM done d
    induction d with
    | zero => intro τ u f w g p o met held high hb x7 x8 hd; exact absurd hd (Nat.not_lt_zero _)
    | succ d ihd =>
      -- behind the numbering
      have body : ∀ (τ : Hp) (u : Nat → Bool) (f w g p o : Nat → Nat) (met held k : Nat) (x8 : Value), sm (wt1 T u g) M + (k + 1) < d + 1 → Fp tjS σ τ → TR M τ u f w g p o held (k + 1) → TP M T u f w g p o met held (k + 1) (k + 1) → TZ M T (spP N L lm Q kind) τ u f w g p o held (k + 1) (k + 1) → (∀ e, e < first + 1 → u e = true) → WP m_M_heaps 167 [.ref 56, .int (nI kind), .int (nI T), .int (nI met), .int (nI held), .int (nI first), .int (nI (k + 1)), .int (nI (p k)), x8] [] τ Z := by
        intro τ u f w g p o met held k x8 hd hF hR hP hZ hu
        have hpM := hP.1 k (by omega)
        have hpu := hP.2.2.1 k (by omega)
        have hkM := fb_holes M (k + 1) p hP.1 (fun i j hij hj e => by have := hP.inP (i := i) (j := j) (by omega) hj e; omega)
        have hme := hP.metM
        have hhe := hP.heldM
        obtain ⟨hfm, hgT⟩ := hP.2.2.2.2.2.2.1 _ hpM hpu
        have hw := hP.2.2.2.2.2.2.2.1 k (by omega)
        have hw31 : w (p k) < 2 ^ 31 := by omega
        obtain ⟨a, ha⟩ : ∃ a, a = p k := ⟨_, rfl⟩
        rw [← ha] at hpM hpu hfm hgT hw hw31 ⊢
        have back : ∀ (τ : Hp) (u : Nat → Bool) (f w g p o : Nat → Nat) (met held high hb : Nat) (x7 x8 : Value), sm (wt1 T u g) M + high < d → Fp tjS σ τ → TR M τ u f w g p o held high → TP M T u f w g p o met held high hb → TZ M T (spP N L lm Q kind) τ u f w g p o held high hb → (hb = high ∨ (hb + 1 = high ∧ u (p hb) = false)) → (∀ e, e < first + 1 → u e = true) → WP m_M_heaps 410 [.ref 56, .int (nI kind), .int (nI T), .int (nI met), .int (nI held), .int (nI first), .int (nI high), x7, x8] [] τ Z := by
          intro τ u f w g p o met held high hb x7 x8 b1 b2 b3 b5 bz b6 b7
          refine wp_goto (tgt := 92) d_M_heaps_410 (by decide) ?_
          exact ihd τ u f w g p o met held high hb x7 x8 b1 b2 b3 b5 bz b6 (fun e he => b7 e (by omega)) (Or.inl (b7 first (by omega)))
        refine wp_aload_n d_M_heaps_167 rfl ?_
        refine wp_getA d_M_heaps_168 fl_M_51 rfl rfl rfl ?_
        refine wp_iload d_M_heaps_171 rfl ?_
        refine wp_iald d_M_heaps_173 rfl ?_ ?_
        · exact vp_in_nI (n := a) (by omega) (by decide)
        rw [nI_clamp (show a < 2 ^ 31 by omega), hR.2.2.1 a hpM hpu]
        refine wp_iload_n d_M_heaps_174 rfl ?_
        refine wp_icmp_ge (tgt := 276) d_M_heaps_175 (by decide) (fun hc => ?_) (fun hc => ?_)
        · rw [nI_leN (by omega) (by omega)] at hc
          -- all steps were taken: the path's last is left
          refine wp_iinc6 d_M_heaps_276 (hn_iim1 _) (by decide) rfl ?_
          rw [pk_m1]
          have pop : ∀ (τ : Hp) (w' : Nat → Nat), Fp tjS σ τ → TR M τ u f w' g p o held (k + 1) → TP M T u f w' g p o met held (k + 1) (k + 1) → TZ M T (spP N L lm Q kind) τ u f w' g p o held (k + 1) (k + 1) → (∀ i, k = i + 1 → w' (p i) ≤ w' (p k)) → WP m_M_heaps 329 [.ref 56, .int (nI kind), .int (nI T), .int (nI met), .int (nI held), .int (nI first), .int (nI k), .int (nI a), x8] [] τ Z := by
            clear hw hw31 hR hF hP hZ
            intro τ w hF hR hP hZ hlow
            have hw := hP.2.2.2.2.2.2.2.1 k (by omega)
            rw [← ha] at hw
            refine wp_aload_n d_M_heaps_329 rfl ?_
            refine wp_getA d_M_heaps_330 fl_M_57 rfl rfl rfl ?_
            refine wp_iload d_M_heaps_333 rfl ?_
            refine wp_iald d_M_heaps_335 rfl ?_ ?_
            · exact vp_in_nI (n := a) (by omega) (by decide)
            rw [nI_clamp (show a < 2 ^ 31 by omega), hR.2.1 a hpM hpu]
            refine wp_aload_n d_M_heaps_336 rfl ?_
            refine wp_getA d_M_heaps_337 fl_M_54 rfl rfl rfl ?_
            refine wp_iload d_M_heaps_340 rfl ?_
            refine wp_iald d_M_heaps_342 rfl ?_ ?_
            · exact vp_in_nI (n := a) (by omega) (by decide)
            rw [nI_clamp (show a < 2 ^ 31 by omega), hR.1 a hpM, if_pos hpu]
            refine wp_icmp_ne (tgt := 350) d_M_heaps_343 (by decide) (fun hc2 => ?_) (fun hc2 => ?_)
            · rw [nI_eq (by omega) (by omega)] at hc2
              refine wp_iconst (v := 0) d_M_heaps_350 (by decide) ?_
              refine wp_istore8 d_M_heaps_351 (by decide) rfl ?_
              refine wp_iload d_M_heaps_353 rfl ?_
              refine wp_if_eq (tgt := 410) d_M_heaps_355 (by decide) (fun hc3 => ?_) (fun hc3 => ?_)
              · obtain ⟨hk0, hP2⟩ := hP.leave (by rw [← ha]; exact hc2)
                obtain ⟨i, rfl⟩ : ∃ i, k = i + 1 := ⟨k - 1, by omega⟩
                have hZ2 := hZ.leave (by rw [← ha]; omega) (hlow i rfl) (by rw [← ha]; omega)
                exact back τ u f w g p o met held (i + 1) (i + 1) _ _ (by omega) hF hR.less hP2 hZ2 (Or.inl rfl) hu
              · exact absurd rfl hc3
            · rw [nI_eq (by omega) (by omega)] at hc2
              refine wp_iconst (v := 1) d_M_heaps_346 (by decide) ?_
              refine wp_goto (tgt := 351) d_M_heaps_347 (by decide) ?_
              refine wp_istore8 d_M_heaps_351 (by decide) rfl ?_
              obtain ⟨j0, hj0, e0⟩ := hP.2.2.2.2.2.1 k (by omega)
              have hPc := hP.close hj0 e0
              have inO := fun {i j} => hP.inO (i := i) (j := j)
              obtain ⟨τ0, hτ0⟩ : ∃ τ0, τ0 = τ := ⟨_, rfl⟩
              suffices H : ∀ t, t ≤ held - j0 → ∀ τ, Fp tjS σ τ → TR M τ u f w g p o (held - t) k → (∀ j, held - t ≤ j → j < held → τ.1 78 (o j) = nI a) → (∀ e, (∀ j, held - t ≤ j → j < held → o j ≠ e) → τ.1 78 e = τ0.1 78 e) → (∀ j, j < held - t → τ.1 72 (o j) = τ0.1 72 (o j)) → WP m_M_heaps 353 [.ref 56, .int (nI kind), .int (nI T), .int (nI met), .int (nI (held - t)), .int (nI first), .int (nI k), .int (nI a), .int (if held - t = j0 then 0 else 1)] [] τ Z by
                have := H 0 (Nat.zero_le _) τ hF hR.less (fun j h1 h2 => absurd h1 (by omega)) (fun e _ => by rw [hτ0]) (fun j _ => by rw [hτ0])
                rw [Nat.sub_zero, if_neg (by omega)] at this
                exact this
              have hZ0 : TZ M T (spP N L lm Q kind) τ0 u f w g p o held (k + 1) (k + 1) := by rw [hτ0]; exact hZ
              clear hR hF hZ hτ0 τ
              refine lp_nat (fun t ht ih τ hF hR ca cb cc => ?_)
              by_cases q : held - t = j0
              · rw [q, if_pos rfl]
                rw [q] at hR ca cb cc
                refine wp_iload d_M_heaps_353 rfl ?_
                refine wp_if_eq (tgt := 410) d_M_heaps_355 (by decide) (fun hc3 => ?_) (fun hc3 => ?_)
                · have hZc := hZ0.close (τ' := τ) stp hP (by rw [← ha]; omega) (by rw [← ha]; exact hc2) hj0 e0 (fun j h1 h2 => by rw [ca j h1 h2, ha]) cb cc
                  exact back τ u f w g p o met j0 k k _ _ (by omega) hF hR hPc hZc (Or.inl rfl) hu
                · exact absurd rfl hc3
              · rw [if_neg q]
                obtain ⟨m, hm⟩ : ∃ m, held - t = m + 1 := ⟨held - t - 1, by omega⟩
                have hmh : m < held := by omega
                have om := hP.2.1 m hmh
                rw [hm] at hR ⊢
                have r67 := hR.2.2.2.2.1 m (by omega)
                refine wp_iload d_M_heaps_353 rfl ?_
                refine wp_if_eq (tgt := 410) d_M_heaps_355 (by decide) (fun hc3 => ?_) (fun hc3 => ?_)
                · exact absurd hc3 (by decide)
                · refine wp_iinc4 d_M_heaps_358 (hn_iim1 _) (by decide) rfl ?_
                  rw [pk_m1]
                  refine wp_aload_n d_M_heaps_361 rfl ?_
                  refine wp_getA d_M_heaps_362 fl_M_79 rfl rfl rfl ?_
                  refine wp_aload_n d_M_heaps_365 rfl ?_
                  refine wp_getA d_M_heaps_366 fl_M_45 rfl rfl rfl ?_
                  refine wp_iload d_M_heaps_369 rfl ?_
                  refine wp_iald d_M_heaps_371 rfl ?_ ?_
                  · exact vp_in_nI (n := m) (by omega) (by decide)
                  rw [nI_clamp (show m < 2 ^ 31 by omega), r67]
                  refine wp_iload d_M_heaps_372 rfl ?_
                  refine wp_iast d_M_heaps_374 rfl ?_ ?_
                  · exact vp_in_nI (n := o m) (by omega) (by decide)
                  rw [nI_clamp (show o m < 2 ^ 31 by omega)]
                  refine wp_aload_n d_M_heaps_375 rfl ?_
                  refine wp_getA d_M_heaps_376 fl_M_60 rfl rfl rfl ?_
                  refine wp_aload_n d_M_heaps_379 rfl ?_
                  refine wp_getA d_M_heaps_380 fl_M_45 rfl rfl rfl ?_
                  refine wp_iload d_M_heaps_383 rfl ?_
                  refine wp_iald d_M_heaps_385 rfl ?_ ?_
                  · exact vp_in_nI (n := m) (by omega) (by decide)
                  rw [nI_clamp (show m < 2 ^ 31 by omega), wI_ne (by decide), r67]
                  refine wp_iconst (v := 0) d_M_heaps_386 (by decide) ?_
                  refine wp_bast d_M_heaps_387 rfl ?_ ?_ ?_
                  · exact vp_in_nI (n := o m) (by omega) (by decide)
                  · decide
                  rw [nI_clamp (show o m < 2 ^ 31 by omega)]
                  refine wp_aload_n d_M_heaps_388 rfl ?_
                  refine wp_getA d_M_heaps_389 fl_M_45 rfl rfl rfl ?_
                  refine wp_iload d_M_heaps_392 rfl ?_
                  refine wp_iald d_M_heaps_394 rfl ?_ ?_
                  · exact vp_in_nI (n := m) (by omega) (by decide)
                  rw [nI_clamp (show m < 2 ^ 31 by omega), wI_ne (by decide), wI_ne (by decide), r67]
                  have nx := ih (by omega) _ ((hF.wI (k := 78) (j := o m) (x := nI a) (by decide)).wI (k := 72) (j := o m) (x := 0) (by decide)) (by rw [show held - (t + 1) = m by omega]; exact hR.pop hpM) (fun j h1 h2 => by
                    rw [wI_ne (by decide), wI_eq]
                    by_cases z : j = m
                    · rw [z, upd_eq]
                    · have : o j ≠ o m := fun y => z (inO h2 hmh y)
                      rw [upd_ne this]
                      exact ca j (by omega) h2) (fun e he => by
                    rw [wI_ne (by decide), wI_eq, upd_ne (fun z => he m (by omega) hmh z.symm)]
                    exact cb e (fun j h1 h2 => he j (by omega) h2)) (fun j h1 => by
                    have : o j ≠ o m := fun y => by
                      have := inO (show j < held by omega) hmh y
                      omega
                    rw [wI_eq, upd_ne this, wI_ne (by decide)]
                    exact cc j (by omega))
                  rw [show held - (t + 1) = m by omega] at nx
                  refine wp_iload d_M_heaps_395 rfl ?_
                  refine wp_icmp_eq (tgt := 404) d_M_heaps_397 (by decide) (fun hc5 => ?_) (fun hc5 => ?_)
                  · rw [nI_eq (by omega) (by omega)] at hc5
                    have : m = j0 := inO hmh hj0 (by rw [hc5, e0, ha])
                    rw [if_pos this] at nx
                    refine wp_iconst (v := 0) d_M_heaps_404 (by decide) ?_
                    refine wp_istore8 d_M_heaps_405 (by decide) rfl ?_
                    refine wp_goto (tgt := 353) d_M_heaps_407 (by decide) ?_
                    exact nx
                  · rw [nI_eq (by omega) (by omega)] at hc5
                    have : ¬ m = j0 := fun r => hc5 (by rw [r, e0, ha])
                    rw [if_neg this] at nx
                    refine wp_iconst (v := 1) d_M_heaps_400 (by decide) ?_
                    refine wp_goto (tgt := 405) d_M_heaps_401 (by decide) ?_
                    refine wp_istore8 d_M_heaps_405 (by decide) rfl ?_
                    refine wp_goto (tgt := 353) d_M_heaps_407 (by decide) ?_
                    exact nx
          refine wp_iload d_M_heaps_279 rfl ?_
          refine wp_if_le (tgt := 329) d_M_heaps_281 (by decide) (fun hc2 => ?_) (fun hc2 => ?_)
          · have hk00 : k = 0 := by
              rcases Nat.eq_zero_or_pos k with q | q
              · exact q
              · have : nI k ≤ nI 0 := hc2
                rw [nI_leN (by omega) (by omega)] at this
                omega
            exact pop τ w hF hR hP hZ (fun i hi => by omega)
          · have hk0 : 0 < k := by
              rcases Nat.eq_zero_or_pos k with q | q
              · rw [q] at hc2; exact absurd (by decide) hc2
              · exact q
            obtain ⟨i, hi⟩ : ∃ i, k = i + 1 := ⟨k - 1, by omega⟩
            have ppM := hP.1 i (by omega)
            have ppu := hP.2.2.1 i (by omega)
            have r68 := hR.2.2.2.1 i (by omega)
            have hw2 := hP.2.2.2.2.2.2.2.1 i (by omega)
            have hf2 := (hP.2.2.2.2.2.2.1 _ ppM ppu).1
            have ki : nI k - 1 = nI i := by rw [hi, nI_pred]
            refine wp_aload_n d_M_heaps_284 rfl ?_
            refine wp_getA d_M_heaps_285 fl_M_57 rfl rfl rfl ?_
            refine wp_iload d_M_heaps_288 rfl ?_
            refine wp_iald d_M_heaps_290 rfl ?_ ?_
            · exact vp_in_nI (n := a) (by omega) (by decide)
            rw [nI_clamp (show a < 2 ^ 31 by omega), hR.2.1 a hpM hpu]
            refine wp_aload_n d_M_heaps_291 rfl ?_
            refine wp_getA d_M_heaps_292 fl_M_57 rfl rfl rfl ?_
            refine wp_aload_n d_M_heaps_295 rfl ?_
            refine wp_getA d_M_heaps_296 fl_M_48 rfl rfl rfl ?_
            refine wp_iload d_M_heaps_299 rfl ?_
            refine wp_iconst (v := 1) d_M_heaps_301 (by decide) ?_
            refine wp_isub d_M_heaps_302 ?_
            rw [ki]
            refine wp_iald d_M_heaps_303 rfl ?_ ?_
            · exact vp_in_nI (n := i) (by omega) (by decide)
            rw [nI_clamp (show i < 2 ^ 31 by omega), r68]
            refine wp_iald d_M_heaps_304 rfl ?_ ?_
            · exact vp_in_nI (n := p i) (by omega) (by decide)
            rw [nI_clamp (show p i < 2 ^ 31 by omega), hR.2.1 _ ppM ppu]
            refine wp_icmp_ge (tgt := 329) d_M_heaps_305 (by decide) (fun hc3 => ?_) (fun hc3 => ?_)
            · rw [nI_leN (by omega) (by omega)] at hc3
              refine pop τ w hF hR hP hZ (fun i' hi' => ?_)
              rw [show i' = i by omega, ← ha]
              omega
            · rw [nI_leN (by omega) (by omega)] at hc3
              refine wp_aload_n d_M_heaps_308 rfl ?_
              refine wp_getA d_M_heaps_309 fl_M_57 rfl rfl rfl ?_
              refine wp_aload_n d_M_heaps_312 rfl ?_
              refine wp_getA d_M_heaps_313 fl_M_48 rfl rfl rfl ?_
              refine wp_iload d_M_heaps_316 rfl ?_
              refine wp_iconst (v := 1) d_M_heaps_318 (by decide) ?_
              refine wp_isub d_M_heaps_319 ?_
              rw [ki]
              refine wp_iald d_M_heaps_320 rfl ?_ ?_
              · exact vp_in_nI (n := i) (by omega) (by decide)
              rw [nI_clamp (show i < 2 ^ 31 by omega), r68]
              refine wp_aload_n d_M_heaps_321 rfl ?_
              refine wp_getA d_M_heaps_322 fl_M_57 rfl rfl rfl ?_
              refine wp_iload d_M_heaps_325 rfl ?_
              refine wp_iald d_M_heaps_327 rfl ?_ ?_
              · exact vp_in_nI (n := a) (by omega) (by decide)
              rw [nI_clamp (show a < 2 ^ 31 by omega), hR.2.1 a hpM hpu]
              refine wp_iast d_M_heaps_328 rfl ?_ ?_
              · exact vp_in_nI (n := p i) (by omega) (by decide)
              rw [nI_clamp (show p i < 2 ^ 31 by omega)]
              have hpk : p (i + 1) = a := by rw [← hi, ha]
              have hpne : p i ≠ a := fun z => by
                have := hP.inP (i := i) (j := k) (by omega) (by omega) (by rw [z, ha])
                omega
              have hZ1 : TZ M T (spP N L lm Q kind) τ u f (fu w (p i) (w a)) g p o held (k + 1) (k + 1) := by
                rw [hi] at hZ ⊢
                exact hZ.lower (fun e he => fu_ne he) (by rw [fu_eq, hpk]) (by rw [fu_eq]; omega)
              refine pop _ _ (hF.wI (by decide)) hR.lower (hP.lower hw.1 (by omega)) (hZ1.mv (by rw [wI_ne (by decide)]) (by rw [wI_ne (by decide)])) (fun i' hi' => ?_)
              rw [show i' = i by omega, fu_eq, ← ha, fu_ne (Ne.symm hpne)]
              exact Nat.le_refl _
        · rw [nI_leN (by omega) (by omega)] at hc
          -- the next step
          have hg2 : g a < T := by omega
          have vM := stp a (g a) hpM hg2
          obtain ⟨v, hv⟩ : ∃ v, v = spP N L lm Q kind a (g a) := ⟨_, rfl⟩
          rw [← hv] at vM
          have hT2 : TA τ N L lm Q := fun e l he hl => by
            rw [(hF 60 (by decide)).1, (hF 61 (by decide)).1]
            exact hT e l he hl
          have h2' : τ.1 56 2 = nI L := by rw [(hF 56 (by decide)).1]; exact h2
          have hmu : sm (wt1 T u (fu g a (g a + 1))) M + 2 = sm (wt1 T u g) M := by
            have := sm_upd (F := wt1 T u g) (G := wt1 T u (fu g a (g a + 1))) M hpM (fun e he hne => wt1_ne hne)
            have e1 : wt1 T u g a = 2 * (T - g a) := by unfold wt1; rw [if_pos hpu]
            have e2 : wt1 T u (fu g a (g a + 1)) a = 2 * (T - (g a + 1)) := by unfold wt1; rw [if_pos hpu, fu_eq]
            omega
          refine wp_aload_n d_M_heaps_178 rfl ?_
          refine wp_iload_n d_M_heaps_179 rfl ?_
          refine wp_iload d_M_heaps_180 rfl ?_
          refine wp_aload_n d_M_heaps_182 rfl ?_
          refine wp_getA d_M_heaps_183 fl_M_51 rfl rfl rfl ?_
          refine wp_iload d_M_heaps_186 rfl ?_
          refine wp_iald d_M_heaps_188 rfl ?_ ?_
          · exact vp_in_nI (n := a) (by omega) (by decide)
          rw [nI_clamp (show a < 2 ^ 31 by omega), hR.2.2.1 a hpM hpu]
          refine wp_callV3e d_M_heaps_189 cv_M_134 rfl rfl rfl ⟨Nat.le_of_ble_eq_true rfl, Nat.le_of_ble_eq_true rfl⟩ (Nat.le_of_ble_eq_true rfl) (Nat.le_of_ble_eq_true rfl) (c_M_step _ h2' hL4 hT2 (by omega) hk (by omega) (by omega)) ?_
          rw [← hv]
          refine wp_istore8 d_M_heaps_192 (by decide) rfl ?_
          refine wp_aload_n d_M_heaps_194 rfl ?_
          refine wp_getA d_M_heaps_195 fl_M_51 rfl rfl rfl ?_
          refine wp_iload d_M_heaps_198 rfl ?_
          refine wp_dup2 d_M_heaps_200 rfl rfl ?_
          refine wp_iald d_M_heaps_201 rfl ?_ ?_
          · exact vp_in_nI (n := a) (by omega) (by decide)
          rw [nI_clamp (show a < 2 ^ 31 by omega), hR.2.2.1 a hpM hpu]
          refine wp_iconst (v := 1) d_M_heaps_202 (by decide) ?_
          refine wp_iadd d_M_heaps_203 ?_
          refine wp_iast d_M_heaps_204 rfl ?_ ?_
          · exact vp_in_nI (n := a) (by omega) (by decide)
          rw [nI_clamp (show a < 2 ^ 31 by omega), nI_1]
          have hF1 : Fp tjS σ (wI τ 69 a (nI (g a + 1))) := hF.wI (by decide)
          have hR1 := hR.step (a := a) (x := g a + 1)
          have hP1 := hP.step hg2
          obtain ⟨τ1, hτ1⟩ : ∃ τ1, τ1 = wI τ 69 a (nI (g a + 1)) := ⟨_, rfl⟩
          rw [← hτ1] at hF1 hR1 ⊢
          refine wp_aload_n d_M_heaps_205 rfl ?_
          refine wp_getA d_M_heaps_206 fl_M_54 rfl rfl rfl ?_
          refine wp_iload d_M_heaps_209 rfl ?_
          refine wp_iald d_M_heaps_211 rfl ?_ ?_
          · exact vp_in_nI (n := v) (by omega) (by decide)
          rw [nI_clamp (show v < 2 ^ 31 by omega), hR1.1 v vM]
          cases huv : u v with
          | false =>
            rw [if_neg (by decide)]
            refine wp_bipush (v := -9) d_M_heaps_212 (by decide) ?_
            refine wp_icmp_ne (tgt := 232) d_M_heaps_214 (by decide) (fun hc2 => ?_) (fun hc2 => ?_)
            · exact absurd rfl hc2
            · have hh := hP.highU vM huv
              refine wp_aload_n d_M_heaps_217 rfl ?_
              refine wp_getA d_M_heaps_218 fl_M_48 rfl rfl rfl ?_
              refine wp_iload d_M_heaps_221 rfl ?_
              refine wp_iload d_M_heaps_223 rfl ?_
              refine wp_iast d_M_heaps_225 rfl ?_ ?_
              · exact vp_in_nI (n := k + 1) (by omega) (by decide)
              rw [nI_clamp (show k + 1 < 2 ^ 31 by omega)]
              refine wp_iinc6 d_M_heaps_226 (hn_ii1 _) (by decide) rfl ?_
              refine wp_goto (tgt := 273) d_M_heaps_229 (by decide) ?_
              refine wp_goto (tgt := 410) d_M_heaps_273 (by decide) ?_
              rw [nI_1]
              refine back _ u f w _ (fu p (k + 1) v) o met held (k + 1 + 1) (k + 1) _ _ (by omega) (hF1.wI (by decide)) hR1.push (hP1.push vM) ?_ (Or.inr ⟨rfl, by rw [fu_eq]; exact huv⟩) hu
              have hZ2 := hZ.down hP (by rw [← ha]; exact hg2) (by rw [← ha, ← hv]; exact huv)
              rw [← ha, ← hv] at hZ2
              exact hZ2.mv (by rw [wI_ne (by decide), hτ1, wI_ne (by decide)]) (by rw [wI_ne (by decide), hτ1, wI_ne (by decide)])
          | true =>
            rw [if_pos rfl]
            have hfv := (hP.2.2.2.2.2.2.1 _ vM huv).1
            refine wp_bipush (v := -9) d_M_heaps_212 (by decide) ?_
            refine wp_icmp_ne (tgt := 232) d_M_heaps_214 (by decide) (fun hc2 => ?_) (fun hc2 => ?_)
            · refine wp_aload_n d_M_heaps_232 rfl ?_
              refine wp_getA d_M_heaps_233 fl_M_60 rfl rfl rfl ?_
              refine wp_iload d_M_heaps_236 rfl ?_
              refine wp_bald d_M_heaps_238 rfl ?_ ?_
              · exact vp_in_nI (n := v) (by omega) (by decide)
              rw [nI_clamp (show v < 2 ^ 31 by omega)]
              refine wp_if_eq (tgt := 273) d_M_heaps_239 (by decide) (fun hc3 => ?_) (fun hc3 => ?_)
              · have hno : ¬ onO o held v := fun ⟨j, hj, ej⟩ => by
                  obtain ⟨act, -, -, hz3⟩ := hZ
                  have := hz3 j hj
                  rw [ej] at this
                  rw [hτ1, wI_ne (by decide)] at hc3
                  exact this hc3
                have hZ2 : TZ M T (spP N L lm Q kind) τ u f w (fu g a (g a + 1)) p o held (k + 1) (k + 1) := by
                  have := hZ.side (w' := w) hP (by rw [← ha]; exact hg2) (by rw [← ha, ← hv]; exact huv) (fun _ _ => rfl) (Nat.le_refl _) (fun z => by rw [← ha, ← hv] at z; exact absurd z hno) (Or.inl rfl)
                  rwa [← ha] at this
                refine wp_goto (tgt := 410) d_M_heaps_273 (by decide) ?_
                exact back τ1 u f w _ p o met held (k + 1) (k + 1) _ _ (by omega) hF1 hR1 hP1 (hZ2.mv (by rw [hτ1, wI_ne (by decide)]) (by rw [hτ1, wI_ne (by decide)])) (Or.inl rfl) hu
              · have hin : ∃ j, j < held ∧ o j = v := by
                  refine Classical.byContradiction (fun q => hc3 (hR1.2.2.2.2.2.1 v vM (fun j hj r => q ⟨j, hj, r⟩)))
                obtain ⟨j, hj, ej⟩ := hin
                have hole := hP.o_le hj
                rw [ej] at hole
                refine wp_aload_n d_M_heaps_242 rfl ?_
                refine wp_getA d_M_heaps_243 fl_M_54 rfl rfl rfl ?_
                refine wp_iload d_M_heaps_246 rfl ?_
                refine wp_iald d_M_heaps_248 rfl ?_ ?_
                · exact vp_in_nI (n := v) (by omega) (by decide)
                rw [nI_clamp (show v < 2 ^ 31 by omega), hR1.1 v vM, if_pos huv]
                refine wp_aload_n d_M_heaps_249 rfl ?_
                refine wp_getA d_M_heaps_250 fl_M_57 rfl rfl rfl ?_
                refine wp_iload d_M_heaps_253 rfl ?_
                refine wp_iald d_M_heaps_255 rfl ?_ ?_
                · exact vp_in_nI (n := a) (by omega) (by decide)
                rw [nI_clamp (show a < 2 ^ 31 by omega), hR1.2.1 a hpM hpu]
                refine wp_icmp_ge (tgt := 273) d_M_heaps_256 (by decide) (fun hc5 => ?_) (fun hc5 => ?_)
                · rw [nI_leN (by omega) (by omega)] at hc5
                  have hZ2 : TZ M T (spP N L lm Q kind) τ u f w (fu g a (g a + 1)) p o held (k + 1) (k + 1) := by
                    have := hZ.side (w' := w) hP (by rw [← ha]; exact hg2) (by rw [← ha, ← hv]; exact huv) (fun _ _ => rfl) (Nat.le_refl _) (fun _ => by rw [← ha, ← hv]; omega) (Or.inl rfl)
                    rwa [← ha] at this
                  refine wp_goto (tgt := 410) d_M_heaps_273 (by decide) ?_
                  exact back τ1 u f w _ p o met held (k + 1) (k + 1) _ _ (by omega) hF1 hR1 hP1 (hZ2.mv (by rw [hτ1, wI_ne (by decide)]) (by rw [hτ1, wI_ne (by decide)])) (Or.inl rfl) hu
                · rw [nI_leN (by omega) (by omega)] at hc5
                  have hZ2 : TZ M T (spP N L lm Q kind) τ u f (fu w a (f v)) (fu g a (g a + 1)) p o held (k + 1) (k + 1) := by
                    have := hZ.side (w' := fu w a (f v)) hP (by rw [← ha]; exact hg2) (by rw [← ha, ← hv]; exact huv) (fun e he => fu_ne (by rw [ha]; exact he)) (by rw [← ha, fu_eq]; omega) (fun _ => by rw [← ha, ← hv, fu_eq]; exact Nat.le_refl _) (Or.inr (by rw [← ha, ← hv, fu_eq]; exact ⟨⟨j, hj, ej⟩, rfl⟩))
                    rwa [← ha] at this
                  refine wp_aload_n d_M_heaps_259 rfl ?_
                  refine wp_getA d_M_heaps_260 fl_M_57 rfl rfl rfl ?_
                  refine wp_iload d_M_heaps_263 rfl ?_
                  refine wp_aload_n d_M_heaps_265 rfl ?_
                  refine wp_getA d_M_heaps_266 fl_M_54 rfl rfl rfl ?_
                  refine wp_iload d_M_heaps_269 rfl ?_
                  refine wp_iald d_M_heaps_271 rfl ?_ ?_
                  · exact vp_in_nI (n := v) (by omega) (by decide)
                  rw [nI_clamp (show v < 2 ^ 31 by omega), hR1.1 v vM, if_pos huv]
                  refine wp_iast d_M_heaps_272 rfl ?_ ?_
                  · exact vp_in_nI (n := a) (by omega) (by decide)
                  rw [nI_clamp (show a < 2 ^ 31 by omega)]
                  refine wp_goto (tgt := 410) d_M_heaps_273 (by decide) ?_
                  exact back _ u f _ _ p o met held (k + 1) (k + 1) _ _ (by omega) (hF1.wI (by decide)) hR1.lower (hP1.lower hole (by omega)) (hZ2.mv (by rw [wI_ne (by decide), hτ1, wI_ne (by decide)]) (by rw [wI_ne (by decide), hτ1, wI_ne (by decide)])) (Or.inl rfl) hu
            · exact absurd hc2 (ne9 (by omega))
      intro τ u f w g p o met held high hb x7 x8 hd hF hR hP hZ hb2 hu hfirst
      have hme := hP.metM
      have hhe := hP.heldM
      refine wp_iload d_M_heaps_92 rfl ?_
      refine wp_if_le (tgt := 413) d_M_heaps_94 (by decide) (fun hc => ?_) (fun hc => ?_)
      · have h0 : high = 0 := by
          rcases Nat.eq_zero_or_pos high with q | q
          · exact q
          · exfalso
            obtain ⟨i, rfl⟩ : ∃ i, high = i + 1 := ⟨high - 1, by omega⟩
            have hh : i + 1 ≤ M := by
              rcases hb2 with r | ⟨r, r2⟩
              · refine fb_holes M (i + 1) p hP.1 (fun i j hij hj e => ?_)
                have := hP.inP (by omega) (by omega) e
                omega
              · obtain rfl : hb = i := by omega
                refine fb_holes M (hb + 1) p hP.1 (fun i j hij hj e => ?_)
                by_cases q2 : j = hb
                · have := hP.2.2.1 i (by omega)
                  rw [e, q2, r2] at this
                  cases this
                · have := hP.inP (i := i) (j := j) (by omega) (by omega) e
                  omega
            have : nI (i + 1) ≤ nI 0 := hc
            rw [nI_leN (by omega) (by omega)] at this
            omega
        subst h0
        have hb0 : hb = 0 := by rcases hb2 with r | ⟨r, _⟩ <;> omega
        subst hb0
        have held0 := hP.2.2.2.2.2.2.2.2.2.1 rfl
        subst held0
        refine done τ u f w g p o met _ _ hF hR hP hZ (fun e he => ?_)
        rcases Nat.lt_or_ge e first with q | q
        · exact hu e q
        · rw [show e = first by omega]
          exact hfirst.elim id (fun r => by omega)
      · have h0 : 0 < high := by
          rcases Nat.eq_zero_or_pos high with q | q
          · rw [q] at hc; exact absurd (by decide) hc
          · exact q
        obtain ⟨k, rfl⟩ : ∃ i, high = i + 1 := ⟨high - 1, by omega⟩
        have hpM := hP.1 k (by omega)
        have hkM : k < M := by
          rcases hb2 with r | ⟨r, r2⟩
          · have := fb_holes M (k + 1) p hP.1 (fun i j hij hj e => by have := hP.inP (i := i) (j := j) (by omega) (by omega) e; omega)
            omega
          · obtain rfl : hb = k := by omega
            have := fb_holes M (hb + 1) p hP.1 (fun i j hij hj e => by
              by_cases q2 : j = hb
              · have := hP.2.2.1 i (by omega)
                rw [e, q2, r2] at this
                cases this
              · have := hP.inP (i := i) (j := j) (by omega) (by omega) e
                omega)
            omega
        refine wp_aload_n d_M_heaps_97 rfl ?_
        refine wp_getA d_M_heaps_98 fl_M_48 rfl rfl rfl ?_
        refine wp_iload d_M_heaps_101 rfl ?_
        refine wp_iconst (v := 1) d_M_heaps_103 (by decide) ?_
        refine wp_isub d_M_heaps_104 ?_
        rw [nI_pred]
        refine wp_iald d_M_heaps_105 rfl ?_ ?_
        · exact vp_in_nI (n := k) (by omega) (by decide)
        rw [nI_clamp (show k < 2 ^ 31 by omega), hR.2.2.2.1 k (by omega)]
        refine wp_istore7 d_M_heaps_106 (by decide) rfl ?_
        refine wp_aload_n d_M_heaps_108 rfl ?_
        refine wp_getA d_M_heaps_109 fl_M_54 rfl rfl rfl ?_
        refine wp_iload d_M_heaps_112 rfl ?_
        refine wp_iald d_M_heaps_114 rfl ?_ ?_
        · exact vp_in_nI (n := p k) (by omega) (by decide)
        rw [nI_clamp (show p k < 2 ^ 31 by omega), hR.1 _ hpM]
        rcases hb2 with r | ⟨r, r2⟩
        · subst r
          have hpu := hP.2.2.1 k (by omega)
          rw [if_pos hpu]
          have hfm := (hP.2.2.2.2.2.2.1 _ hpM hpu).1
          refine wp_bipush (v := -9) d_M_heaps_115 (by decide) ?_
          refine wp_icmp_ne (tgt := 167) d_M_heaps_117 (by decide) (fun hc2 => ?_) (fun hc2 => ?_)
          · refine body τ u f w g p o met held k x8 (by omega) hF hR hP hZ (fun e he => ?_)
            rcases Nat.lt_or_ge e first with q | q
            · exact hu e q
            · rw [show e = first by omega]
              exact hfirst.elim id (fun r => by omega)
          · exact absurd hc2 (ne9 (by omega))
        · obtain rfl : hb = k := by omega
          rw [r2, if_neg (by decide)]
          have hh := hP.heldU hpM r2
          refine wp_bipush (v := -9) d_M_heaps_115 (by decide) ?_
          refine wp_icmp_ne (tgt := 167) d_M_heaps_117 (by decide) (fun hc2 => ?_) (fun hc2 => ?_)
          · exact absurd rfl hc2
          · refine wp_aload_n d_M_heaps_120 rfl ?_
            refine wp_getA d_M_heaps_121 fl_M_54 rfl rfl rfl ?_
            refine wp_iload d_M_heaps_124 rfl ?_
            refine wp_iload_n d_M_heaps_126 rfl ?_
            refine wp_iast d_M_heaps_127 rfl ?_ ?_
            · exact vp_in_nI (n := p hb) (by omega) (by decide)
            rw [nI_clamp (show p hb < 2 ^ 31 by omega)]
            refine wp_aload_n d_M_heaps_128 rfl ?_
            refine wp_getA d_M_heaps_129 fl_M_57 rfl rfl rfl ?_
            refine wp_iload d_M_heaps_132 rfl ?_
            refine wp_iload_n d_M_heaps_134 rfl ?_
            refine wp_iast d_M_heaps_135 rfl ?_ ?_
            · exact vp_in_nI (n := p hb) (by omega) (by decide)
            rw [nI_clamp (show p hb < 2 ^ 31 by omega)]
            refine wp_iinc3 d_M_heaps_136 (hn_ii1 _) (by decide) rfl ?_
            rw [nI_1]
            refine wp_aload_n d_M_heaps_139 rfl ?_
            refine wp_getA d_M_heaps_140 fl_M_51 rfl rfl rfl ?_
            refine wp_iload d_M_heaps_143 rfl ?_
            refine wp_iconst (v := 0) d_M_heaps_145 (by decide) ?_
            refine wp_iast d_M_heaps_146 rfl ?_ ?_
            · exact vp_in_nI (n := p hb) (by omega) (by decide)
            rw [nI_clamp (show p hb < 2 ^ 31 by omega)]
            refine wp_aload_n d_M_heaps_147 rfl ?_
            refine wp_getA d_M_heaps_148 fl_M_45 rfl rfl rfl ?_
            refine wp_iload d_M_heaps_151 rfl ?_
            refine wp_iload d_M_heaps_153 rfl ?_
            refine wp_iast d_M_heaps_155 rfl ?_ ?_
            · exact vp_in_nI (n := held) (by omega) (by decide)
            rw [nI_clamp (show held < 2 ^ 31 by omega)]
            refine wp_iinc4 d_M_heaps_156 (hn_ii1 _) (by decide) rfl ?_
            rw [nI_1]
            refine wp_aload_n d_M_heaps_159 rfl ?_
            refine wp_getA d_M_heaps_160 fl_M_60 rfl rfl rfl ?_
            refine wp_iload d_M_heaps_163 rfl ?_
            refine wp_iconst (v := 1) d_M_heaps_165 (by decide) ?_
            refine wp_bast d_M_heaps_166 rfl ?_ ?_ ?_
            · exact vp_in_nI (n := p hb) (by omega) (by decide)
            · decide
            rw [nI_clamp (show p hb < 2 ^ 31 by omega)]
            have hmu : sm (wt1 T (fu u (p hb) true) (fu g (p hb) 0)) M + 3 = sm (wt1 T u g) M := by
              have := sm_upd (F := wt1 T u g) (G := wt1 T (fu u (p hb) true) (fu g (p hb) 0)) M hpM (fun e he hne => wt1_ne2 hne)
              have e1 : wt1 T u g (p hb) = 2 * T + 3 := by unfold wt1; rw [r2, if_neg (by decide)]
              have e2 : wt1 T (fu u (p hb) true) (fu g (p hb) 0) (p hb) = 2 * T := by unfold wt1; rw [fu_eq, fu_eq, if_pos rfl]; rfl
              omega
            refine body _ (fu u (p hb) true) (fu f (p hb) met) (fu w (p hb) met) (fu g (p hb) 0) p (fu o held (p hb)) (met + 1) (held + 1) hb x8 (by omega) (((((hF.wI (by decide)).wI (by decide)).wI (by decide)).wI (by decide)).wI (by decide)) hR.opn (hP.opn r2) (hZ.opn hP r2 (by rw [wI_ne (by decide), wI_ne (by decide), wI_ne (by decide), wI_ne (by decide), wI_ne (by decide)]) (by rw [wI_eq, wI_ne (by decide), wI_ne (by decide), wI_ne (by decide), wI_ne (by decide)])) (fun e he => ?_)
            by_cases q : e = p hb
            · rw [q, fu_eq]
            · rw [fu_ne q]
              rcases Nat.lt_or_ge e first with q2 | q2
              · exact hu e q2
              · obtain rfl : e = first := by omega
                rcases hfirst with r3 | ⟨-, r4, r5⟩
                · exact r3
                · rw [r4] at q
                  exact absurd r5.symm q
  -- one after another
  have outer : ∀ first, first ≤ M → ∀ (τ : Hp) (u : Nat → Bool) (f w g p o : Nat → Nat) (met : Nat) (x6 x7 x8 : Value), Fp tjS σ τ → TR M τ u f w g p o 0 0 → TP M T u f w g p o met 0 0 0 → TZ M T (spP N L lm Q kind) τ u f w g p o 0 0 0 → (∀ e, e < first → u e = true) → WP m_M_heaps 57 [.ref 56, .int (nI kind), .int (nI T), .int (nI met), .int (nI 0), .int (nI first), x6, x7, x8] [] τ Z := by
    refine lp_nat (fun first hf ih τ u f w g p o met x6 x7 x8 hF hR hP hZ hu => ?_)
    have h7' : τ.1 56 7 = nI M := by rw [(hF 56 (by decide)).1]; exact h7
    refine wp_iload d_M_heaps_57 rfl ?_
    refine wp_aload_n d_M_heaps_59 rfl ?_
    refine wp_getI d_M_heaps_60 fl_M_117 rfl rfl (by decide) ?_
    refine wp_icmp_ge (tgt := 419) d_M_heaps_63 (by decide) (fun hc => ?_) (fun hc => ?_)
    · rw [h7'] at hc
      obtain rfl := Nat.le_antisymm hf (nI_ge2 hc (by omega) (by omega))
      obtain ⟨act, hS, hz2, -⟩ := hZ
      have no : ∀ e, ¬ onO o 0 e := fun e ⟨j, hj, _⟩ => absurd hj (Nat.not_lt_zero j)
      rw [hTe] at hS
      exact K τ act _ _ _ _ _ _ _ hF (fun e he => ⟨hz2 e he (hu e he) (no e), (hS.C e he (hu e he) (no e)).2.1⟩) (fun e e' he he' => hS.K e e' he he' (hu e he) (hu e' he') (no e) (no e'))
    · rw [h7'] at hc
      have hf2 := nI_nge hc (by omega) (by omega)
      have nxt : ∀ (τ : Hp) (u : Nat → Bool) (f w g p o : Nat → Nat) (met : Nat) (x7 x8 : Value), Fp tjS σ τ → TR M τ u f w g p o 0 0 → TP M T u f w g p o met 0 0 0 → TZ M T (spP N L lm Q kind) τ u f w g p o 0 0 0 → (∀ e, e < first + 1 → u e = true) → WP m_M_heaps 413 [.ref 56, .int (nI kind), .int (nI T), .int (nI met), .int (nI 0), .int (nI first), .int (nI 0), x7, x8] [] τ Z := by
        intro τ u f w g p o met x7 x8 hF hR hP hZ hu
        refine wp_iinc5 d_M_heaps_413 (hn_ii1 _) (by decide) rfl ?_
        refine wp_goto (tgt := 57) d_M_heaps_416 (by decide) ?_
        rw [nI_1]
        exact ih hf2 τ u f w g p o met _ _ _ hF hR hP hZ hu
      have hme := hP.metM
      refine wp_iconst (v := 0) d_M_heaps_66 (by decide) ?_
      refine wp_istore6 d_M_heaps_67 (by decide) rfl ?_
      refine wp_aload_n d_M_heaps_69 rfl ?_
      refine wp_getA d_M_heaps_70 fl_M_54 rfl rfl rfl ?_
      refine wp_iload d_M_heaps_73 rfl ?_
      refine wp_iald d_M_heaps_75 rfl ?_ ?_
      · exact vp_in_nI (n := first) (by omega) (by decide)
      rw [nI_clamp (show first < 2 ^ 31 by omega), hR.1 first hf2]
      cases huf : u first with
      | true =>
        rw [if_pos rfl]
        have hfm := (hP.2.2.2.2.2.2.1 _ hf2 huf).1
        refine wp_bipush (v := -9) d_M_heaps_76 (by decide) ?_
        refine wp_icmp_ne (tgt := 92) d_M_heaps_78 (by decide) (fun hc2 => ?_) (fun hc2 => ?_)
        · exact loop first hf2 nxt _ τ u f w g p o met 0 0 0 _ _ (Nat.lt_succ_self _) hF hR hP hZ (Or.inl rfl) hu (Or.inl huf)
        · exact absurd hc2 (ne9 (by omega))
      | false =>
        rw [if_neg (by decide)]
        refine wp_bipush (v := -9) d_M_heaps_76 (by decide) ?_
        refine wp_icmp_ne (tgt := 92) d_M_heaps_78 (by decide) (fun hc2 => ?_) (fun hc2 => ?_)
        · exact absurd rfl hc2
        · refine wp_iconst (v := 1) d_M_heaps_81 (by decide) ?_
          refine wp_istore6 d_M_heaps_82 (by decide) rfl ?_
          refine wp_aload_n d_M_heaps_84 rfl ?_
          refine wp_getA d_M_heaps_85 fl_M_48 rfl rfl rfl ?_
          refine wp_iconst (v := 0) d_M_heaps_88 (by decide) ?_
          refine wp_iload d_M_heaps_89 rfl ?_
          refine wp_iast d_M_heaps_91 rfl ?_ ?_
          · exact vp_in_nI (n := 0) (by omega) (by decide)
          rw [show (0 : Int32).toNatClampNeg = 0 by decide]
          exact loop first hf2 nxt _ _ u f w g (fu p 0 first) o met 0 1 0 _ _ (Nat.lt_succ_self _) (hF.wI (by decide)) hR.push (hP.push hf2) ((hZ.start first).mv (by rw [wI_ne (by decide)]) (by rw [wI_ne (by decide)])) (Or.inr ⟨rfl, by rw [fu_eq]; exact huf⟩) hu (Or.inr ⟨rfl, rfl, fu_eq⟩)
  show WP m_M_heaps 0 [.ref 56, .int (nI kind), .null, .null, .null, .null, .null, .null, .null] [] σ Z
  have fill : WP m_M_heaps 17 [.ref 56, .int (nI kind), .null, .null, .null, .null, .null, .null, .null] [.int (nI T)] σ Z := by
    refine wp_istore2 d_M_heaps_17 (by decide) rfl ?_
    refine wp_iconst (v := 0) d_M_heaps_18 (by decide) ?_
    refine wp_istore3 d_M_heaps_19 (by decide) rfl ?_
    suffices H : ∀ k, k ≤ M → ∀ τ, Fp tjS σ τ → (∀ e, e < k → τ.1 70 e = -9 ∧ τ.1 72 e = 0) → WP m_M_heaps 20 [.ref 56, .int (nI kind), .int (nI T), .int (nI k), .null, .null, .null, .null, .null] [] τ Z from H 0 (Nat.zero_le _) σ Fp.rf (fun e he => absurd he (Nat.not_lt_zero e))
    refine lp_nat (fun k hk2 ih τ hF hv => ?_)
    have h7' : τ.1 56 7 = nI M := by rw [(hF 56 (by decide)).1]; exact h7
    refine wp_iload_n d_M_heaps_20 rfl ?_
    refine wp_aload_n d_M_heaps_21 rfl ?_
    refine wp_getI d_M_heaps_22 fl_M_117 rfl rfl (by decide) ?_
    refine wp_icmp_ge (tgt := 49) d_M_heaps_25 (by decide) (fun hc => ?_) (fun hc => ?_)
    · rw [h7'] at hc
      obtain rfl := Nat.le_antisymm hk2 (nI_ge2 hc (by omega) (by omega))
      refine wp_iconst (v := 0) d_M_heaps_49 (by decide) ?_
      refine wp_istore3 d_M_heaps_50 (by decide) rfl ?_
      refine wp_iconst (v := 0) d_M_heaps_51 (by decide) ?_
      refine wp_istore4 d_M_heaps_52 (by decide) rfl ?_
      refine wp_iconst (v := 0) d_M_heaps_54 (by decide) ?_
      refine wp_istore5 d_M_heaps_55 (by decide) rfl ?_
      refine outer 0 (Nat.zero_le _) τ (fun _ => false) (fun _ => 0) (fun _ => 0) (fun _ => 0) (fun _ => 0) (fun _ => 0) 0 _ _ _ hF ⟨fun e he => (hv e he).1, fun e he q => (Bool.false_ne_true q).elim, fun e he q => (Bool.false_ne_true q).elim, fun i hi => absurd hi (Nat.not_lt_zero i), fun i hi => absurd hi (Nat.not_lt_zero i), fun e he _ => (hv e he).2, fun e he q => (Bool.false_ne_true q).elim⟩ ⟨fun i hi => absurd hi (Nat.not_lt_zero i), fun i hi => absurd hi (Nat.not_lt_zero i), fun i hi => absurd hi (Nat.not_lt_zero i), fun i j _ hj => absurd hj (Nat.not_lt_zero j), fun i j _ hj => absurd hj (Nat.not_lt_zero j), fun i hi => absurd hi (Nat.not_lt_zero i), fun e he q => (Bool.false_ne_true q).elim, fun i hi => absurd hi (Nat.not_lt_zero i), fun q => absurd q (Nat.lt_irrefl 0), fun _ => rfl, ?_, Nat.le_refl _⟩ ⟨fun _ => 0, TS.none (fun _ _ => rfl), fun e he q => (Bool.false_ne_true q).elim, fun j hj => absurd hj (Nat.not_lt_zero j)⟩ (fun e he => absurd he (Nat.not_lt_zero e))
      have : ∀ m, sm (un1 fun _ => false) m = 0 := by
        intro m
        induction m with
        | zero => rfl
        | succ m ihm =>
          show sm (un1 fun _ => false) m + un1 (fun _ => false) m = 0
          rw [ihm]; rfl
      exact this k
    · rw [h7'] at hc
      have hk3 := nI_nge hc (by omega) (by omega)
      refine wp_aload_n d_M_heaps_28 rfl ?_
      refine wp_getA d_M_heaps_29 fl_M_54 rfl rfl rfl ?_
      refine wp_iload_n d_M_heaps_32 rfl ?_
      refine wp_bipush (v := -9) d_M_heaps_33 (by decide) ?_
      refine wp_iast d_M_heaps_35 rfl ?_ ?_
      · exact vp_in_nI (n := k) (by omega) (by decide)
      rw [nI_clamp (show k < 2 ^ 31 by omega)]
      refine wp_aload_n d_M_heaps_36 rfl ?_
      refine wp_getA d_M_heaps_37 fl_M_60 rfl rfl rfl ?_
      refine wp_iload_n d_M_heaps_40 rfl ?_
      refine wp_iconst (v := 0) d_M_heaps_41 (by decide) ?_
      refine wp_bast d_M_heaps_42 rfl ?_ ?_ ?_
      · exact vp_in_nI (n := k) (by omega) (by decide)
      · decide
      rw [nI_clamp (show k < 2 ^ 31 by omega)]
      refine wp_iinc3 d_M_heaps_43 (hn_ii1 _) (by decide) rfl ?_
      refine wp_goto (tgt := 20) d_M_heaps_46 (by decide) ?_
      rw [nI_1]
      refine ih hk3 _ ((hF.wI (by decide)).wI (by decide)) (fun e he => ?_)
      rw [wI_ne (by decide), wI_eq, wI_eq, wI_ne (by decide)]
      by_cases q : e = k
      · rw [q, upd_eq, upd_eq]; exact ⟨rfl, rfl⟩
      · rw [upd_ne q, upd_ne q]; exact hv e (by omega)
  refine wp_iload_n d_M_heaps_0 rfl ?_
  refine wp_if_ne (tgt := 13) d_M_heaps_1 (by decide) (fun hc => ?_) (fun hc => ?_)
  · rw [show (0 : Int32) = nI 0 from rfl, nI_eq (by omega) (by omega)] at hc
    refine wp_aload_n d_M_heaps_13 rfl ?_
    refine wp_getI d_M_heaps_14 fl_M_104 rfl rfl (by decide) ?_
    rw [h2]
    rw [hTe, spN, if_neg hc] at fill
    exact fill
  · rw [show (0 : Int32) = nI 0 from rfl, nI_eq (by omega) (by omega)] at hc
    refine wp_iconst (v := 2) d_M_heaps_4 (by decide) ?_
    refine wp_aload_n d_M_heaps_5 rfl ?_
    refine wp_getI d_M_heaps_6 fl_M_104 rfl rfl (by decide) ?_
    refine wp_imul d_M_heaps_9 ?_
    refine wp_goto (tgt := 17) d_M_heaps_10 (by decide) ?_
    rw [h2, show (2 : Int32) = nI 2 from rfl, pk_mul]
    rw [hTe, spN, if_pos hc] at fill
    exact fill
def hpS : List Nat := [65, 66, 67, 68, 69, 70, 71, 72, 78]
theorem c_M_heaps {N L kind M : Nat} {lm : Nat → Nat} {Q : BQ} (σ : Hp) (h2 : σ.1 56 2 = nI L) (hL4 : L ≤ 4) (hT : TA σ N L lm Q) (hM : Q.length = M) (hM15 : M ≤ 1500) (h7 : σ.1 56 7 = nI M) (hk : kind ≤ 2) : Ct m_M_heaps [.ref 56, .int (nI kind)] σ (fun v τ => v = none ∧ Fp hpS σ τ ∧ ∃ a, (∀ e e', e < M → e' < M → (a e = a e' ↔ RQ (spP N L lm Q kind) (spN L kind) e e' ∧ RQ (spP N L lm Q kind) (spN L kind) e' e)) ∧ BX kind M a σ τ) := by
  refine c_M_heaps_main σ h2 hL4 hT hM hM15 h7 hk (fun τ a z4 x2 x3 x5 x6 x7 x8 hF ha hK => ?_)
  refine WP.mono (c_M_heaps_last hk hM15 τ (by rw [(hF 56 (by decide)).1]; exact h7) ha z4 x2 x3 x5 x6 x7 x8) (fun v υ hv => ?_)
  obtain ⟨hv, hF2, b, B, h1, h3, h5, h6, h8⟩ := hv
  refine ⟨hv, (hF.up (by decide)).tr (hF2.up (by decide)), a, hK, b, B, h1, h3, h5, fun j hj => ?_, fun j hj => ?_⟩
  · rw [h6 j hj, (hF 65 (by decide)).1]
  · rw [h8 j hj, (hF 66 (by decide)).1]
