/-! contracts: heaps named by their first (the reference) -/
def fu {α : Type} (f : Nat → α) (k : Nat) (x : α) : Nat → α := fun j => if j = k then x else f j
theorem fu_eq {α : Type} {f : Nat → α} {k : Nat} {x : α} : fu f k x k = x := if_pos rfl
theorem fu_ne {α : Type} {f : Nat → α} {k j : Nat} {x : α} (h : j ≠ k) : fu f k x j = f j := if_neg h
/-- numbers given in order of the first, alike where a is -/
def RG (M : Nat) (a b : Nat → Nat) (B : Nat) : Prop := (∀ e, e < M → b e < B) ∧ (∀ c, c < B → ∃ e, e < M ∧ b e = c) ∧ (∀ e c, e < M → c < b e → ∃ e', e' < e ∧ b e' = c) ∧ ∀ e e', e < M → e' < M → (b e = b e' ↔ a e = a e')
theorem RG.le {M B : Nat} {a b : Nat → Nat} (h : RG M a b B) : B ≤ M := by
  have hx : ∀ c, ∃ e, c < B → e < M ∧ b e = c := fun c => by
    by_cases q : c < B
    · obtain ⟨e, h1, h2⟩ := h.2.1 c q
      exact ⟨e, fun _ => ⟨h1, h2⟩⟩
    · exact ⟨0, fun q2 => absurd q2 q⟩
  refine fb_holes M B (fun c => Classical.choose (hx c)) (fun c hc => (Classical.choose_spec (hx c) hc).1) (fun i j hij hj e => ?_)
  have e1 := (Classical.choose_spec (hx i) (by omega)).2
  have e2 := (Classical.choose_spec (hx j) hj).2
  rw [e, e2] at e1
  omega
def bxS : List Nat := [65, 66, 69]
/-- column k of the boxes -/
def BX (k M : Nat) (a : Nat → Nat) (σ τ : Hp) : Prop := ∃ b B, RG M a b B ∧ (∀ e, e < M → τ.1 65 (4 * e + k) = nI (b e)) ∧ τ.1 66 k = nI B ∧ (∀ j, j % 4 ≠ k → τ.1 65 j = σ.1 65 j) ∧ ∀ j, j ≠ k → τ.1 66 j = σ.1 66 j
theorem c_M_heaps_last {M kind : Nat} {a : Nat → Nat} (hk : kind ≤ 2) (hM : M ≤ 1500) (σ : Hp) (h7 : σ.1 56 7 = nI M) (ha : ∀ e, e < M → σ.1 78 e = nI (a e) ∧ a e < M) (z4 : Int32) (x2 x3 x5 x6 x7 x8 : Value) : WP m_M_heaps 419 [.ref 56, .int (nI kind), x2, x3, .int z4, x5, x6, x7, x8] [] σ (fun v τ => v = none ∧ Fp bxS σ τ ∧ BX kind M a σ τ) := by
  refine wp_aload_n d_M_heaps_419 rfl ?_
  refine wp_getA d_M_heaps_420 fl_M_42 rfl rfl rfl ?_
  refine wp_iload_n d_M_heaps_423 rfl ?_
  refine wp_iconst (v := 0) d_M_heaps_424 (by decide) ?_
  refine wp_iast d_M_heaps_425 rfl ?_ ?_
  · exact vp_in_nI (n := kind) (by omega) (by decide)
  rw [nI_clamp (show kind < 2 ^ 31 by omega)]
  refine wp_iconst (v := 0) d_M_heaps_426 (by decide) ?_
  refine wp_istore5 d_M_heaps_427 (by decide) rfl ?_
  -- next: none
  suffices H : ∀ k, k ≤ M → ∀ τ, Fp bxS σ τ → (∀ j, j < k → τ.1 69 j = -9) → (∀ j, τ.1 65 j = σ.1 65 j) → (τ.1 66 kind = 0) → (∀ j, j ≠ kind → τ.1 66 j = σ.1 66 j) → WP m_M_heaps 429 [.ref 56, .int (nI kind), x2, x3, .int z4, .int (nI k), x6, x7, x8] [] τ (fun v τ => v = none ∧ Fp bxS σ τ ∧ BX kind M a σ τ) by
    refine H 0 (Nat.zero_le _) _ (Fp.rf.wI (by decide)) (fun j hj => absurd hj (Nat.not_lt_zero j)) (fun j => by rw [wI_ne (by decide)]) (by rw [wI_eq, upd_eq]) (fun j hj => by rw [wI_eq, upd_ne hj])
  refine lp_nat (fun k hk2 ih τ hF h69 h65 h66 h66b => ?_)
  have h7' : τ.1 56 7 = nI M := by rw [(hF 56 (by decide)).1]; exact h7
  refine wp_iload d_M_heaps_429 rfl ?_
  refine wp_aload_n d_M_heaps_431 rfl ?_
  refine wp_getI d_M_heaps_432 fl_M_117 rfl rfl (by decide) ?_
  refine wp_icmp_ge (tgt := 453) d_M_heaps_435 (by decide) (fun hc => ?_) (fun hc => ?_)
  · rw [h7'] at hc
    obtain rfl := Nat.le_antisymm hk2 (nI_ge2 hc (by omega) (by omega))
    clear ih
    refine wp_iconst (v := 0) d_M_heaps_453 (by decide) ?_
    refine wp_istore5 d_M_heaps_454 (by decide) rfl ?_
    suffices H : ∀ e, e ≤ k → ∀ (τ : Hp) (b c : Nat → Nat) (B : Nat), Fp bxS σ τ → RG e a b B → (∀ e', e' < e → τ.1 65 (4 * e' + kind) = nI (b e')) → (∀ x, x < k → ((∃ e', e' < e ∧ a e' = x) ∧ τ.1 69 x = nI (c x) ∧ c x < B) ∨ ((∀ e', e' < e → a e' ≠ x) ∧ τ.1 69 x = -9)) → (∀ e', e' < e → b e' = c (a e')) → (∀ j, j % 4 ≠ kind → τ.1 65 j = σ.1 65 j) → τ.1 66 kind = nI B → (∀ j, j ≠ kind → τ.1 66 j = σ.1 66 j) → WP m_M_heaps 456 [.ref 56, .int (nI kind), x2, x3, .int z4, .int (nI e), x6, x7, x8] [] τ (fun v τ => v = none ∧ Fp bxS σ τ ∧ BX kind k a σ τ) by
      refine H 0 (Nat.zero_le _) τ (fun _ => 0) (fun _ => 0) 0 hF ⟨fun e he => absurd he (Nat.not_lt_zero e), fun c hc => absurd hc (Nat.not_lt_zero c), fun e c he => absurd he (Nat.not_lt_zero e), fun e e' he => absurd he (Nat.not_lt_zero e)⟩ (fun e he => absurd he (Nat.not_lt_zero e)) (fun x hx => Or.inr ⟨fun e he => absurd he (Nat.not_lt_zero e), h69 x hx⟩) (fun e he => absurd he (Nat.not_lt_zero e)) (fun j _ => h65 j) h66 h66b
    clear h69 h65 h66 h66b h7' hF τ
    refine lp_nat (fun e he ih τ b c B hF hR h65 hn hb h65b h66 h66b => ?_)
    have h7' : τ.1 56 7 = nI k := by rw [(hF 56 (by decide)).1]; exact h7
    have hBe := hR.le
    refine wp_iload d_M_heaps_456 rfl ?_
    refine wp_aload_n d_M_heaps_458 rfl ?_
    refine wp_getI d_M_heaps_459 fl_M_117 rfl rfl (by decide) ?_
    refine wp_icmp_ge (tgt := 539) d_M_heaps_462 (by decide) (fun hc2 => ?_) (fun hc2 => ?_)
    · rw [h7'] at hc2
      obtain rfl := Nat.le_antisymm he (nI_ge2 hc2 (by omega) (by omega))
      refine wp_vret d_M_heaps_539 rfl ?_
      exact ⟨rfl, hF, b, B, hR, h65, h66, h65b, h66b⟩
    · rw [h7'] at hc2
      have he2 := nI_nge hc2 (by omega) (by omega)
      obtain ⟨a1, a2⟩ := ha e he2
      have a1 : τ.1 78 e = nI (a e) := by rw [(hF 78 (by decide)).1]; exact a1
      -- behind the test: the name is there
      have fin : ∀ (υ : Hp) (b' c' : Nat → Nat) (B' : Nat), Fp bxS σ υ → RG (e + 1) a b' B' → (∀ e', e' < e → υ.1 65 (4 * e' + kind) = nI (b' e')) → (∀ x, x < k → ((∃ e', e' < e + 1 ∧ a e' = x) ∧ υ.1 69 x = nI (c' x) ∧ c' x < B') ∨ ((∀ e', e' < e + 1 → a e' ≠ x) ∧ υ.1 69 x = -9)) → (∀ e', e' < e + 1 → b' e' = c' (a e')) → (∀ j, j % 4 ≠ kind → υ.1 65 j = σ.1 65 j) → υ.1 66 kind = nI B' → (∀ j, j ≠ kind → υ.1 66 j = σ.1 66 j) → WP m_M_heaps 510 [.ref 56, .int (nI kind), x2, x3, .int z4, .int (nI e), x6, x7, x8] [] υ (fun v τ => v = none ∧ Fp bxS σ τ ∧ BX kind k a σ τ) := by
        intro υ b' c' B' hF hR h65 hn hb h65b h66 h66b
        have u1 : υ.1 78 e = nI (a e) := by rw [(hF 78 (by decide)).1]; exact (ha e he2).1
        have u2 : υ.1 69 (a e) = nI (b' e) := by
          rcases hn (a e) a2 with ⟨-, q, -⟩ | ⟨q, -⟩
          · rw [q, hb e (by omega)]
          · exact absurd rfl (q e (by omega))
        refine wp_aload_n d_M_heaps_510 rfl ?_
        refine wp_getA d_M_heaps_511 fl_M_39 rfl rfl rfl ?_
        refine wp_iconst (v := 4) d_M_heaps_514 (by decide) ?_
        refine wp_iload d_M_heaps_515 rfl ?_
        refine wp_imul d_M_heaps_517 ?_
        refine wp_iload_n d_M_heaps_518 rfl ?_
        refine wp_iadd d_M_heaps_519 ?_
        rw [four_nI]
        refine wp_aload_n d_M_heaps_520 rfl ?_
        refine wp_getA d_M_heaps_521 fl_M_51 rfl rfl rfl ?_
        refine wp_aload_n d_M_heaps_524 rfl ?_
        refine wp_getA d_M_heaps_525 fl_M_79 rfl rfl rfl ?_
        refine wp_iload d_M_heaps_528 rfl ?_
        refine wp_iald d_M_heaps_530 rfl ?_ ?_
        · exact vp_in_nI (n := e) (by omega) (by decide)
        rw [nI_clamp (show e < 2 ^ 31 by omega), u1]
        refine wp_iald d_M_heaps_531 rfl ?_ ?_
        · exact vp_in_nI (n := a e) (by omega) (by decide)
        rw [nI_clamp (show a e < 2 ^ 31 by omega), u2]
        refine wp_iast d_M_heaps_532 rfl ?_ ?_
        · exact vp_in_nI (n := 4 * e + kind) (by omega) (by decide)
        rw [nI_clamp (show 4 * e + kind < 2 ^ 31 by omega)]
        refine wp_iinc5 d_M_heaps_533 (hn_ii1 _) (by decide) rfl ?_
        refine wp_goto (tgt := 456) d_M_heaps_536 (by decide) ?_
        rw [nI_1]
        refine ih he2 _ b' c' B' (hF.wI (by decide)) hR (fun e' he' => ?_) (fun x hx => by rw [wI_ne (by decide)]; exact hn x hx) hb (fun j hj => ?_) (by rw [wI_ne (by decide)]; exact h66) (fun j hj => by rw [wI_ne (by decide)]; exact h66b j hj)
        · rw [wI_eq]
          by_cases q : e' = e
          · rw [q, upd_eq]
          · rw [upd_ne (by omega)]; exact h65 e' (by omega)
        · rw [wI_eq, upd_ne (by omega)]; exact h65b j hj
      refine wp_aload_n d_M_heaps_465 rfl ?_
      refine wp_getA d_M_heaps_466 fl_M_51 rfl rfl rfl ?_
      refine wp_aload_n d_M_heaps_469 rfl ?_
      refine wp_getA d_M_heaps_470 fl_M_79 rfl rfl rfl ?_
      refine wp_iload d_M_heaps_473 rfl ?_
      refine wp_iald d_M_heaps_475 rfl ?_ ?_
      · exact vp_in_nI (n := e) (by omega) (by decide)
      rw [nI_clamp (show e < 2 ^ 31 by omega), a1]
      refine wp_iald d_M_heaps_476 rfl ?_ ?_
      · exact vp_in_nI (n := a e) (by omega) (by decide)
      rw [nI_clamp (show a e < 2 ^ 31 by omega)]
      rcases hn (a e) a2 with ⟨⟨e0, q0, q1⟩, q2, q3⟩ | ⟨q1, q2⟩
      · -- named before
        rw [q2]
        refine wp_bipush (v := -9) d_M_heaps_477 (by decide) ?_
        refine wp_icmp_ne (tgt := 510) d_M_heaps_479 (by decide) (fun hc3 => ?_) (fun hc3 => ?_)
        · refine fin τ (fun i => if i < e then b i else c (a e)) c B hF ⟨fun i hi => ?_, fun d hd => ?_, fun i d hi hd => ?_, fun i i' hi hi' => ?_⟩ (fun i hi => ?_) (fun x hx => ?_) (fun i hi => ?_) h65b h66 h66b
          · dsimp only
            by_cases q : i < e
            · rw [if_pos q]; exact hR.1 i q
            · rw [if_neg q]; exact q3
          · obtain ⟨i, h1, h2⟩ := hR.2.1 d hd
            exact ⟨i, by omega, by dsimp only; rw [if_pos h1]; exact h2⟩
          · dsimp only at hd ⊢
            by_cases q : i < e
            · rw [if_pos q] at hd
              obtain ⟨i', h1, h2⟩ := hR.2.2.1 i d q hd
              exact ⟨i', h1, by rw [if_pos (by omega)]; exact h2⟩
            · rw [if_neg q, ← q1, ← hb e0 q0] at hd
              obtain ⟨i', h1, h2⟩ := hR.2.2.1 e0 d q0 hd
              exact ⟨i', by omega, by rw [if_pos (by omega)]; exact h2⟩
          · dsimp only
            have e3 : ∀ i, i < e + 1 → ∃ i2, i2 < e ∧ a i2 = a i ∧ (if i < e then b i else c (a e)) = b i2 := by
              intro i hi
              by_cases q : i < e
              · exact ⟨i, q, rfl, if_pos q⟩
              · exact ⟨e0, q0, by rw [q1, show i = e by omega], by rw [if_neg q, hb e0 q0, q1]⟩
            obtain ⟨i2, r1, r2, r3⟩ := e3 i hi
            obtain ⟨i3, s1, s2, s3⟩ := e3 i' hi'
            rw [r3, s3, ← r2, ← s2]
            exact hR.2.2.2 i2 i3 r1 s1
          · rw [if_pos hi]; exact h65 i hi
          · rcases hn x hx with ⟨⟨i, r1, r2⟩, r3⟩ | ⟨r1, r2⟩
            · exact Or.inl ⟨⟨i, by omega, r2⟩, r3⟩
            · refine Or.inr ⟨fun i hi q => ?_, r2⟩
              by_cases q5 : i < e
              · exact r1 i q5 q
              · rw [show i = e by omega] at q
                exact r1 e0 q0 (q1.trans q)
          · by_cases q : i < e
            · rw [if_pos q]; exact hb i q
            · rw [if_neg q, show i = e by omega]
        · exact absurd hc3 (by
            have := nI_pos (show c (a e) < 2 ^ 31 by omega)
            intro q
            rw [q] at this
            exact this (by decide))
      · -- a new name
        rw [q2]
        refine wp_bipush (v := -9) d_M_heaps_477 (by decide) ?_
        refine wp_icmp_ne (tgt := 510) d_M_heaps_479 (by decide) (fun hc3 => ?_) (fun hc3 => ?_)
        · exact absurd rfl hc3
        · refine wp_aload_n d_M_heaps_482 rfl ?_
          refine wp_getA d_M_heaps_483 fl_M_51 rfl rfl rfl ?_
          refine wp_aload_n d_M_heaps_486 rfl ?_
          refine wp_getA d_M_heaps_487 fl_M_79 rfl rfl rfl ?_
          refine wp_iload d_M_heaps_490 rfl ?_
          refine wp_iald d_M_heaps_492 rfl ?_ ?_
          · exact vp_in_nI (n := e) (by omega) (by decide)
          rw [nI_clamp (show e < 2 ^ 31 by omega), a1]
          refine wp_aload_n d_M_heaps_493 rfl ?_
          refine wp_getA d_M_heaps_494 fl_M_42 rfl rfl rfl ?_
          refine wp_iload_n d_M_heaps_497 rfl ?_
          refine wp_iald d_M_heaps_498 rfl ?_ ?_
          · exact vp_in_nI (n := kind) (by omega) (by decide)
          rw [nI_clamp (show kind < 2 ^ 31 by omega), h66]
          refine wp_iast d_M_heaps_499 rfl ?_ ?_
          · exact vp_in_nI (n := a e) (by omega) (by decide)
          rw [nI_clamp (show a e < 2 ^ 31 by omega)]
          refine wp_aload_n d_M_heaps_500 rfl ?_
          refine wp_getA d_M_heaps_501 fl_M_42 rfl rfl rfl ?_
          refine wp_iload_n d_M_heaps_504 rfl ?_
          refine wp_dup2 d_M_heaps_505 rfl rfl ?_
          refine wp_iald d_M_heaps_506 rfl ?_ ?_
          · exact vp_in_nI (n := kind) (by omega) (by decide)
          rw [nI_clamp (show kind < 2 ^ 31 by omega), wI_ne (by decide), h66]
          refine wp_iconst (v := 1) d_M_heaps_507 (by decide) ?_
          refine wp_iadd d_M_heaps_508 ?_
          refine wp_iast d_M_heaps_509 rfl ?_ ?_
          · exact vp_in_nI (n := kind) (by omega) (by decide)
          rw [nI_clamp (show kind < 2 ^ 31 by omega), nI_1]
          refine fin _ (fun i => if i < e then b i else B) (fu c (a e) B) (B + 1) ((hF.wI (by decide)).wI (by decide)) ⟨fun i hi => ?_, fun d hd => ?_, fun i d hi hd => ?_, fun i i' hi hi' => ?_⟩ (fun i hi => ?_) (fun x hx => ?_) (fun i hi => ?_) (fun j hj => ?_) ?_ (fun j hj => ?_)
          · dsimp only
            by_cases q : i < e
            · rw [if_pos q]; have := hR.1 i q; omega
            · rw [if_neg q]; omega
          · dsimp only
            by_cases q : d < B
            · obtain ⟨i, h1, h2⟩ := hR.2.1 d q
              exact ⟨i, by omega, by rw [if_pos h1]; exact h2⟩
            · exact ⟨e, by omega, by rw [if_neg (Nat.lt_irrefl _)]; omega⟩
          · dsimp only at hd ⊢
            by_cases q : i < e
            · rw [if_pos q] at hd
              obtain ⟨i', h1, h2⟩ := hR.2.2.1 i d q hd
              exact ⟨i', h1, by rw [if_pos (by omega)]; exact h2⟩
            · rw [if_neg q] at hd
              obtain ⟨i', h1, h2⟩ := hR.2.1 d hd
              exact ⟨i', by omega, by rw [if_pos h1]; exact h2⟩
          · dsimp only
            by_cases q : i < e <;> by_cases q' : i' < e
            · rw [if_pos q, if_pos q']; exact hR.2.2.2 i i' q q'
            · rw [if_pos q, if_neg q', show i' = e by omega]
              have r1 := hR.1 i q
              exact ⟨fun r => by omega, fun r => absurd r (q1 i q)⟩
            · rw [if_neg q, if_pos q', show i = e by omega]
              have r1 := hR.1 i' q'
              exact ⟨fun r => by omega, fun r => absurd r.symm (q1 i' q')⟩
            · rw [if_neg q, if_neg q', show i = e by omega, show i' = e by omega]
              exact ⟨fun _ => rfl, fun _ => rfl⟩
          · rw [wI_ne (by decide), wI_ne (by decide)]
            rw [if_pos hi]; exact h65 i hi
          · rw [wI_ne (by decide), wI_eq]
            by_cases q : x = a e
            · refine Or.inl ⟨⟨e, by omega, q.symm⟩, ?_, ?_⟩
              · rw [q, upd_eq, fu_eq]
              · rw [q, fu_eq]; omega
            · rw [upd_ne q, fu_ne q]
              rcases hn x hx with ⟨⟨i, r1, r2⟩, r3, r5⟩ | ⟨r1, r2⟩
              · exact Or.inl ⟨⟨i, by omega, r2⟩, r3, by omega⟩
              · refine Or.inr ⟨fun i hi r => ?_, r2⟩
                by_cases q5 : i < e
                · exact r1 i q5 r
                · rw [show i = e by omega] at r
                  exact q r.symm
          · by_cases q : i < e
            · rw [if_pos q, fu_ne (q1 i q)]; exact hb i q
            · rw [if_neg q, show i = e by omega, fu_eq]
          · rw [wI_ne (by decide), wI_ne (by decide)]; exact h65b j hj
          · rw [wI_eq, upd_eq]
          · rw [wI_eq, upd_ne hj, wI_ne (by decide)]; exact h66b j hj
  · rw [h7'] at hc
    have hk3 := nI_nge hc (by omega) (by omega)
    refine wp_aload_n d_M_heaps_438 rfl ?_
    refine wp_getA d_M_heaps_439 fl_M_51 rfl rfl rfl ?_
    refine wp_iload d_M_heaps_442 rfl ?_
    refine wp_bipush (v := -9) d_M_heaps_444 (by decide) ?_
    refine wp_iast d_M_heaps_446 rfl ?_ ?_
    · exact vp_in_nI (n := k) (by omega) (by decide)
    rw [nI_clamp (show k < 2 ^ 31 by omega)]
    refine wp_iinc5 d_M_heaps_447 (hn_ii1 _) (by decide) rfl ?_
    refine wp_goto (tgt := 429) d_M_heaps_450 (by decide) ?_
    rw [nI_1]
    refine ih hk3 _ (hF.wI (by decide)) (fun j hj => ?_) (fun j => by rw [wI_ne (by decide)]; exact h65 j) (by rw [wI_ne (by decide)]; exact h66) (fun j hj => by rw [wI_ne (by decide)]; exact h66b j hj)
    rw [wI_eq]
    by_cases q : j = k
    · rw [q, upd_eq]
    · rw [upd_ne q]; exact h69 j (by omega)
