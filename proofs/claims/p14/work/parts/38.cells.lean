/-! contracts: cells (the reference) -/
theorem RG.old {e B e0 : Nat} {a b : Nat → Nat} (h : RG e a b B) (h0 : e0 < e) (q1 : a e0 = a e) : RG (e + 1) a (fun i => if i < e then b i else b e0) B := by
  refine ⟨fun i hi => ?_, fun d hd => ?_, fun i d hi hd => ?_, fun i i' hi hi' => ?_⟩
  · dsimp only
    by_cases q : i < e
    · rw [if_pos q]; exact h.1 i q
    · rw [if_neg q]; exact h.1 e0 h0
  · obtain ⟨i, h1, h2⟩ := h.2.1 d hd
    exact ⟨i, by omega, by dsimp only; rw [if_pos h1]; exact h2⟩
  · dsimp only at hd ⊢
    by_cases q : i < e
    · rw [if_pos q] at hd
      obtain ⟨i', h1, h2⟩ := h.2.2.1 i d q hd
      exact ⟨i', h1, by rw [if_pos (by omega)]; exact h2⟩
    · rw [if_neg q] at hd
      obtain ⟨i', h1, h2⟩ := h.2.2.1 e0 d h0 hd
      exact ⟨i', by omega, by rw [if_pos (by omega)]; exact h2⟩
  · dsimp only
    have e3 : ∀ i, i < e + 1 → ∃ i2, i2 < e ∧ a i2 = a i ∧ (if i < e then b i else b e0) = b i2 := by
      intro i hi
      by_cases q : i < e
      · exact ⟨i, q, rfl, if_pos q⟩
      · exact ⟨e0, h0, by rw [q1, show i = e by omega], by rw [if_neg q]⟩
    obtain ⟨i2, r1, r2, r3⟩ := e3 i hi
    obtain ⟨i3, s1, s2, s3⟩ := e3 i' hi'
    rw [r3, s3, ← r2, ← s2]
    exact h.2.2.2 i2 i3 r1 s1
theorem RG.new {e B : Nat} {a b : Nat → Nat} (h : RG e a b B) (q1 : ∀ i, i < e → a i ≠ a e) : RG (e + 1) a (fun i => if i < e then b i else B) (B + 1) := by
  refine ⟨fun i hi => ?_, fun d hd => ?_, fun i d hi hd => ?_, fun i i' hi hi' => ?_⟩
  · dsimp only
    by_cases q : i < e
    · rw [if_pos q]; have := h.1 i q; omega
    · rw [if_neg q]; omega
  · dsimp only
    by_cases q : d < B
    · obtain ⟨i, h1, h2⟩ := h.2.1 d q
      exact ⟨i, by omega, by rw [if_pos h1]; exact h2⟩
    · exact ⟨e, by omega, by rw [if_neg (Nat.lt_irrefl _)]; omega⟩
  · dsimp only at hd ⊢
    by_cases q : i < e
    · rw [if_pos q] at hd
      obtain ⟨i', h1, h2⟩ := h.2.2.1 i d q hd
      exact ⟨i', h1, by rw [if_pos (by omega)]; exact h2⟩
    · rw [if_neg q] at hd
      obtain ⟨i', h1, h2⟩ := h.2.1 d hd
      exact ⟨i', by omega, by rw [if_pos h1]; exact h2⟩
  · dsimp only
    by_cases q : i < e <;> by_cases q' : i' < e
    · rw [if_pos q, if_pos q']; exact h.2.2.2 i i' q q'
    · rw [if_pos q, if_neg q', show i' = e by omega]
      have r1 := h.1 i q
      exact ⟨fun r => by omega, fun r => absurd r (q1 i q)⟩
    · rw [if_neg q, if_pos q', show i = e by omega]
      have r1 := h.1 i' q'
      exact ⟨fun r => by omega, fun r => absurd r.symm (q1 i' q')⟩
    · rw [if_neg q, if_neg q', show i = e by omega, show i' = e by omega]
      exact ⟨fun _ => rfl, fun _ => rfl⟩
theorem RG.nil {a b : Nat → Nat} : RG 0 a b 0 := ⟨fun e he => absurd he (Nat.not_lt_zero e), fun c hc => absurd hc (Nat.not_lt_zero c), fun e c he => absurd he (Nat.not_lt_zero e), fun e e' he => absurd he (Nat.not_lt_zero e)⟩
/-- two numbers as one -/
def twN (b1 b2 : Nat → Nat) (e : Nat) : Nat := b1 e * 1501 + b2 e
theorem twN_iff {b1 b2 : Nat → Nat} {e e' : Nat} (h : b2 e ≤ 1500) (h' : b2 e' ≤ 1500) : twN b1 b2 e = twN b1 b2 e' ↔ b1 e = b1 e' ∧ b2 e = b2 e' := by
  unfold twN
  constructor
  · intro q; exact ⟨by omega, by omega⟩
  · rintro ⟨q1, q2⟩; rw [q1, q2]
def ceS : List Nat := [65, 66]
theorem c_M_cells {M : Nat} {b1 b2 : Nat → Nat} (σ : Hp) (hM : M ≤ 1500) (h7 : σ.1 56 7 = nI M) (h1 : ∀ e, e < M → σ.1 65 (4 * e + 1) = nI (b1 e) ∧ b1 e ≤ 1500) (h2 : ∀ e, e < M → σ.1 65 (4 * e + 2) = nI (b2 e) ∧ b2 e ≤ 1500) : Ct m_M_cells [.ref 56] σ (fun v τ => v = none ∧ Fp ceS σ τ ∧ BX 3 M (twN b1 b2) σ τ) := by
  show WP m_M_cells 0 [.ref 56, .null, .null] [] σ _
  refine wp_aload_n d_M_cells_0 rfl ?_
  refine wp_getA d_M_cells_1 fl_M_42 rfl rfl rfl ?_
  refine wp_iconst (v := 3) d_M_cells_4 (by decide) ?_
  refine wp_iconst (v := 0) d_M_cells_5 (by decide) ?_
  refine wp_iast d_M_cells_6 rfl ?_ ?_
  · exact vp_in_nI (n := 3) (by omega) (by decide)
  rw [show (3 : Int32).toNatClampNeg = 3 by decide]
  refine wp_iconst (v := 0) d_M_cells_7 (by decide) ?_
  refine wp_istore1 d_M_cells_8 (by decide) rfl ?_
  suffices H : ∀ e, e ≤ M → ∀ (τ : Hp) (b : Nat → Nat) (B : Nat) (x2 : Value), Fp ceS σ τ → RG e (twN b1 b2) b B → (∀ e', e' < e → τ.1 65 (4 * e' + 3) = nI (b e')) → (∀ j, j % 4 ≠ 3 → τ.1 65 j = σ.1 65 j) → τ.1 66 3 = nI B → (∀ j, j ≠ 3 → τ.1 66 j = σ.1 66 j) → WP m_M_cells 9 [.ref 56, .int (nI e), x2] [] τ (fun v τ => v = none ∧ Fp ceS σ τ ∧ BX 3 M (twN b1 b2) σ τ) by
    refine H 0 (Nat.zero_le _) _ (fun _ => 0) 0 _ (Fp.rf.wI (by decide)) RG.nil (fun e he => absurd he (Nat.not_lt_zero e)) (fun j _ => by rw [wI_ne (by decide)]) (by rw [wI_eq, upd_eq]; rfl) (fun j hj => by rw [wI_eq, upd_ne hj])
  refine lp_nat (fun e he ih τ b B x2 hF hR h65 h65b h66 h66b => ?_)
  have h7' : τ.1 56 7 = nI M := by rw [(hF 56 (by decide)).1]; exact h7
  have hBe := hR.le
  refine wp_iload_n d_M_cells_9 rfl ?_
  refine wp_aload_n d_M_cells_10 rfl ?_
  refine wp_getI d_M_cells_11 fl_M_117 rfl rfl (by decide) ?_
  refine wp_icmp_ge (tgt := 136) d_M_cells_14 (by decide) (fun hc => ?_) (fun hc => ?_)
  · rw [h7'] at hc
    obtain rfl := Nat.le_antisymm he (nI_ge2 hc (by omega) (by omega))
    refine wp_vret d_M_cells_136 rfl ?_
    exact ⟨rfl, hF, b, B, hR, h65, h66, h65b, h66b⟩
  · rw [h7'] at hc
    have he2 := nI_nge hc (by omega) (by omega)
    have c1 : ∀ i, i < M → τ.1 65 (4 * i + 1) = nI (b1 i) := fun i hi => by rw [h65b _ (by omega)]; exact (h1 i hi).1
    have c2 : ∀ i, i < M → τ.1 65 (4 * i + 2) = nI (b2 i) := fun i hi => by rw [h65b _ (by omega)]; exact (h2 i hi).1
    have nx : ∀ (υ : Hp) (b' : Nat → Nat) (B' y : Nat) (x2 : Value), Fp ceS σ υ → RG (e + 1) (twN b1 b2) b' B' → (∀ e', e' < e → b' e' = b e') → b' e = y → (∀ e', e' < e → υ.1 65 (4 * e' + 3) = nI (b e')) → υ.1 65 (4 * e + 3) = nI y → (∀ j, j % 4 ≠ 3 → υ.1 65 j = σ.1 65 j) → υ.1 66 3 = nI B' → (∀ j, j ≠ 3 → υ.1 66 j = σ.1 66 j) → WP m_M_cells 130 [.ref 56, .int (nI e), x2] [] υ (fun v τ => v = none ∧ Fp ceS σ τ ∧ BX 3 M (twN b1 b2) σ τ) := by
      intro υ b' B' y x2 f1 f2 f3 f4 f5 f6 f7 f8 f9
      refine wp_iinc1 d_M_cells_130 (hn_ii1 _) (by decide) rfl ?_
      refine wp_goto (tgt := 9) d_M_cells_133 (by decide) ?_
      rw [nI_1]
      refine ih he2 υ b' B' x2 f1 f2 (fun e' he' => ?_) f7 f8 f9
      by_cases q : e' = e
      · rw [q, f4]; exact f6
      · rw [f3 e' (by omega)]; exact f5 e' (by omega)
    have fin : ∀ k, k ≤ e → (∀ i, i < k → twN b1 b2 i ≠ twN b1 b2 e) → (k < e → twN b1 b2 k = twN b1 b2 e) → WP m_M_cells 76 [.ref 56, .int (nI e), .int (nI k)] [] τ (fun v τ => v = none ∧ Fp ceS σ τ ∧ BX 3 M (twN b1 b2) σ τ) := by
      intro k hk hno hyes
      refine wp_iload_n d_M_cells_76 rfl ?_
      refine wp_iload_n d_M_cells_77 rfl ?_
      refine wp_icmp_ge (tgt := 104) d_M_cells_78 (by decide) (fun hc2 => ?_) (fun hc2 => ?_)
      · have : e ≤ k := nI_ge2 hc2 (by omega) (by omega)
        obtain rfl : k = e := by omega
        refine wp_aload_n d_M_cells_104 rfl ?_
        refine wp_getA d_M_cells_105 fl_M_39 rfl rfl rfl ?_
        refine wp_iconst (v := 4) d_M_cells_108 (by decide) ?_
        refine wp_iload_n d_M_cells_109 rfl ?_
        refine wp_imul d_M_cells_110 ?_
        refine wp_iconst (v := 3) d_M_cells_111 (by decide) ?_
        refine wp_iadd d_M_cells_112 ?_
        rw [show (3 : Int32) = nI 3 from rfl, four_nI]
        refine wp_aload_n d_M_cells_113 rfl ?_
        refine wp_getA d_M_cells_114 fl_M_42 rfl rfl rfl ?_
        refine wp_iconst (v := 3) d_M_cells_117 (by decide) ?_
        refine wp_iald d_M_cells_118 rfl ?_ ?_
        · exact vp_in_nI (n := 3) (by omega) (by decide)
        rw [show (3 : Int32).toNatClampNeg = 3 by decide, h66]
        refine wp_iast d_M_cells_119 rfl ?_ ?_
        · exact vp_in_nI (n := 4 * k + 3) (by omega) (by decide)
        rw [nI_clamp (show 4 * k + 3 < 2 ^ 31 by omega)]
        refine wp_aload_n d_M_cells_120 rfl ?_
        refine wp_getA d_M_cells_121 fl_M_42 rfl rfl rfl ?_
        refine wp_iconst (v := 3) d_M_cells_124 (by decide) ?_
        refine wp_dup2 d_M_cells_125 rfl rfl ?_
        refine wp_iald d_M_cells_126 rfl ?_ ?_
        · exact vp_in_nI (n := 3) (by omega) (by decide)
        rw [show (3 : Int32).toNatClampNeg = 3 by decide, wI_ne (by decide), h66]
        refine wp_iconst (v := 1) d_M_cells_127 (by decide) ?_
        refine wp_iadd d_M_cells_128 ?_
        refine wp_iast d_M_cells_129 rfl ?_ ?_
        · exact vp_in_nI (n := 3) (by omega) (by decide)
        rw [show (3 : Int32).toNatClampNeg = 3 by decide, nI_1]
        refine nx _ _ (B + 1) B _ ((hF.wI (by decide)).wI (by decide)) (hR.new hno) (fun i hi => if_pos hi) (if_neg (Nat.lt_irrefl _)) (fun i hi => ?_) ?_ (fun j hj => ?_) ?_ (fun j hj => ?_)
        · rw [wI_ne (by decide), wI_eq, upd_ne (by omega)]; exact h65 i hi
        · rw [wI_ne (by decide), wI_eq, upd_eq]
        · rw [wI_ne (by decide), wI_eq, upd_ne (by omega)]; exact h65b j hj
        · rw [wI_eq, upd_eq]
        · rw [wI_eq, upd_ne hj, wI_ne (by decide)]; exact h66b j hj
      · have hk2 : k < e := nI_nge hc2 (by omega) (by omega)
        refine wp_aload_n d_M_cells_81 rfl ?_
        refine wp_getA d_M_cells_82 fl_M_39 rfl rfl rfl ?_
        refine wp_iconst (v := 4) d_M_cells_85 (by decide) ?_
        refine wp_iload_n d_M_cells_86 rfl ?_
        refine wp_imul d_M_cells_87 ?_
        refine wp_iconst (v := 3) d_M_cells_88 (by decide) ?_
        refine wp_iadd d_M_cells_89 ?_
        rw [show (3 : Int32) = nI 3 from rfl, four_nI]
        refine wp_aload_n d_M_cells_90 rfl ?_
        refine wp_getA d_M_cells_91 fl_M_39 rfl rfl rfl ?_
        refine wp_iconst (v := 4) d_M_cells_94 (by decide) ?_
        refine wp_iload_n d_M_cells_95 rfl ?_
        refine wp_imul d_M_cells_96 ?_
        refine wp_iconst (v := 3) d_M_cells_97 (by decide) ?_
        refine wp_iadd d_M_cells_98 ?_
        rw [show (3 : Int32) = nI 3 from rfl, four_nI]
        refine wp_iald d_M_cells_99 rfl ?_ ?_
        · exact vp_in_nI (n := 4 * k + 3) (by omega) (by decide)
        rw [nI_clamp (show 4 * k + 3 < 2 ^ 31 by omega), h65 k hk2]
        refine wp_iast d_M_cells_100 rfl ?_ ?_
        · exact vp_in_nI (n := 4 * e + 3) (by omega) (by decide)
        rw [nI_clamp (show 4 * e + 3 < 2 ^ 31 by omega)]
        refine wp_goto (tgt := 130) d_M_cells_101 (by decide) ?_
        refine nx _ _ B (b k) _ (hF.wI (by decide)) (hR.old hk2 (hyes hk2)) (fun i hi => if_pos hi) (if_neg (Nat.lt_irrefl _)) (fun i hi => ?_) ?_ (fun j hj => ?_) ?_ (fun j hj => ?_)
        · rw [wI_eq, upd_ne (by omega)]; exact h65 i hi
        · rw [wI_eq, upd_eq]
        · rw [wI_eq, upd_ne (by omega)]; exact h65b j hj
        · rw [wI_ne (by decide)]; exact h66
        · rw [wI_ne (by decide)]; exact h66b j hj
    refine wp_iconst (v := 0) d_M_cells_17 (by decide) ?_
    refine wp_istore2 d_M_cells_18 (by decide) rfl ?_
    suffices H : ∀ k, k ≤ e → (∀ i, i < k → twN b1 b2 i ≠ twN b1 b2 e) → WP m_M_cells 19 [.ref 56, .int (nI e), .int (nI k)] [] τ (fun v τ => v = none ∧ Fp ceS σ τ ∧ BX 3 M (twN b1 b2) σ τ) from H 0 (Nat.zero_le _) (fun i hi => absurd hi (Nat.not_lt_zero i))
    refine lp_nat (fun k hk ih2 hno => ?_)
    refine wp_iload_n d_M_cells_19 rfl ?_
    refine wp_iload_n d_M_cells_20 rfl ?_
    refine wp_icmp_ge (tgt := 76) d_M_cells_21 (by decide) (fun hc2 => ?_) (fun hc2 => ?_)
    · have : e ≤ k := nI_ge2 hc2 (by omega) (by omega)
      exact fin k hk hno (fun q => by omega)
    · have hk2 : k < e := nI_nge hc2 (by omega) (by omega)
      have i1 := (h1 e he2).2
      have i2 := (h2 e he2).2
      have i3 := (h1 k (by omega)).2
      have i4 := (h2 k (by omega)).2
      have step : twN b1 b2 k ≠ twN b1 b2 e → WP m_M_cells 70 [.ref 56, .int (nI e), .int (nI k)] [] τ (fun v τ => v = none ∧ Fp ceS σ τ ∧ BX 3 M (twN b1 b2) σ τ) := by
        intro q
        refine wp_iinc2 d_M_cells_70 (hn_ii1 _) (by decide) rfl ?_
        refine wp_goto (tgt := 19) d_M_cells_73 (by decide) ?_
        rw [nI_1]
        refine ih2 hk2 (fun i hi => ?_)
        by_cases q2 : i = k
        · rw [q2]; exact q
        · exact hno i (by omega)
      refine wp_aload_n d_M_cells_24 rfl ?_
      refine wp_getA d_M_cells_25 fl_M_39 rfl rfl rfl ?_
      refine wp_iconst (v := 4) d_M_cells_28 (by decide) ?_
      refine wp_iload_n d_M_cells_29 rfl ?_
      refine wp_imul d_M_cells_30 ?_
      refine wp_iconst (v := 1) d_M_cells_31 (by decide) ?_
      refine wp_iadd d_M_cells_32 ?_
      rw [show (1 : Int32) = nI 1 from rfl, four_nI]
      refine wp_iald d_M_cells_33 rfl ?_ ?_
      · exact vp_in_nI (n := 4 * k + 1) (by omega) (by decide)
      rw [nI_clamp (show 4 * k + 1 < 2 ^ 31 by omega), c1 k (by omega)]
      refine wp_aload_n d_M_cells_34 rfl ?_
      refine wp_getA d_M_cells_35 fl_M_39 rfl rfl rfl ?_
      refine wp_iconst (v := 4) d_M_cells_38 (by decide) ?_
      refine wp_iload_n d_M_cells_39 rfl ?_
      refine wp_imul d_M_cells_40 ?_
      refine wp_iconst (v := 1) d_M_cells_41 (by decide) ?_
      refine wp_iadd d_M_cells_42 ?_
      rw [show (1 : Int32) = nI 1 from rfl, four_nI]
      refine wp_iald d_M_cells_43 rfl ?_ ?_
      · exact vp_in_nI (n := 4 * e + 1) (by omega) (by decide)
      rw [nI_clamp (show 4 * e + 1 < 2 ^ 31 by omega), c1 e he2]
      refine wp_icmp_ne (tgt := 70) d_M_cells_44 (by decide) (fun hc3 => ?_) (fun hc3 => ?_)
      · rw [nI_eq (by omega) (by omega)] at hc3
        exact step (fun q => hc3 ((twN_iff i4 i2).mp q).1)
      · rw [nI_eq (by omega) (by omega)] at hc3
        refine wp_aload_n d_M_cells_47 rfl ?_
        refine wp_getA d_M_cells_48 fl_M_39 rfl rfl rfl ?_
        refine wp_iconst (v := 4) d_M_cells_51 (by decide) ?_
        refine wp_iload_n d_M_cells_52 rfl ?_
        refine wp_imul d_M_cells_53 ?_
        refine wp_iconst (v := 2) d_M_cells_54 (by decide) ?_
        refine wp_iadd d_M_cells_55 ?_
        rw [show (2 : Int32) = nI 2 from rfl, four_nI]
        refine wp_iald d_M_cells_56 rfl ?_ ?_
        · exact vp_in_nI (n := 4 * k + 2) (by omega) (by decide)
        rw [nI_clamp (show 4 * k + 2 < 2 ^ 31 by omega), c2 k (by omega)]
        refine wp_aload_n d_M_cells_57 rfl ?_
        refine wp_getA d_M_cells_58 fl_M_39 rfl rfl rfl ?_
        refine wp_iconst (v := 4) d_M_cells_61 (by decide) ?_
        refine wp_iload_n d_M_cells_62 rfl ?_
        refine wp_imul d_M_cells_63 ?_
        refine wp_iconst (v := 2) d_M_cells_64 (by decide) ?_
        refine wp_iadd d_M_cells_65 ?_
        rw [show (2 : Int32) = nI 2 from rfl, four_nI]
        refine wp_iald d_M_cells_66 rfl ?_ ?_
        · exact vp_in_nI (n := 4 * e + 2) (by omega) (by decide)
        rw [nI_clamp (show 4 * e + 2 < 2 ^ 31 by omega), c2 e he2]
        refine wp_icmp_eq (tgt := 76) d_M_cells_67 (by decide) (fun hc5 => ?_) (fun hc5 => ?_)
        · rw [nI_eq (by omega) (by omega)] at hc5
          exact fin k hk hno (fun _ => (twN_iff i4 i2).mpr ⟨hc3, hc5⟩)
        · rw [nI_eq (by omega) (by omega)] at hc5
          exact step (fun q => hc5 ((twN_iff i4 i2).mp q).2)
