/-! contracts: boxes, box, about, below, ideal, sort, meanings, as the reference answers -/
def TX (τ : Hp) (N L : Nat) (lm : Nat → Nat) (M : Nat) (a b : Nat → Nat → Nat) (B : Nat → Nat) : Prop := LQ τ N L lm M ∧ TA τ N L lm (EQ N L lm) ∧ BK τ M 4 a b B ∧ (∀ e e', e < M → e' < M → (b 3 e = b 3 e' ↔ b 1 e = b 1 e' ∧ b 2 e = b 2 e')) ∧ SB N L lm M 3 b
theorem Tb.tx {τ : Hp} {N L M : Nat} {lm : Nat → Nat} (h : Tb τ N L lm M) : ∃ a b B, TX τ N L lm M a b B := by
  obtain ⟨h1, h2, a, b, B, h3, h5⟩ := h
  exact ⟨a, b, B, h1, h2, h3, h5⟩
theorem TX.tb {τ : Hp} {N L M : Nat} {lm : Nat → Nat} {a b : Nat → Nat → Nat} {B : Nat → Nat} (h : TX τ N L lm M a b B) : Tb τ N L lm M := ⟨h.1, h.2.1, a, b, B, h.2.2.1, h.2.2.2⟩
theorem TX.mv {σ τ : Hp} {N L M : Nat} {lm : Nat → Nat} {a b : Nat → Nat → Nat} {B : Nat → Nat} {S : List Nat} (h : TX σ N L lm M a b B) (hF : Fp S σ τ) (hs : ∀ q, q ∈ [56, 58, 59, 60, 61, 62, 63, 64, 65, 66] → q ∉ S) : TX τ N L lm M a b B := by
  have f : ∀ q, q ∈ [56, 58, 59, 60, 61, 62, 63, 64, 65, 66] → τ.1 q = σ.1 q := fun q hq => (hF q (hs q hq)).1
  obtain ⟨h1, h2, h3, h5⟩ := h
  exact ⟨h1.mv (by rw [f 56 (by decide)]) (by rw [f 56 (by decide)]) (f 58 (by decide)) (f 59 (by decide)) (f 62 (by decide)) (f 63 (by decide)) (f 64 (by decide)), fun x l hx hl => by rw [f 60 (by decide), f 61 (by decide)]; exact h2 x l hx hl, fun k hk => by rw [f 65 (by decide), f 66 (by decide)]; exact h3 k hk, h5⟩
def Lb (N L : Nat) (lm : Nat → Nat) (σ : Hp) (A : Nat → (Nat → Nat → Nat) → (Nat → Nat) → Int32 → Prop) : Option Value → Hp → Prop := fun w τ => FM (Th σ) τ ∧ ((w = some (.int (-5)) ∧ LDf τ N L lm) ∨ ∃ z M a b B, w = some (.int z) ∧ TX τ N L lm M a b B ∧ A M b B z)
theorem TX.B0 {τ : Hp} {N L M : Nat} {lm : Nat → Nat} {a b : Nat → Nat → Nat} {B : Nat → Nat} (h : TX τ N L lm M a b B) : 0 < B 0 ∧ B 0 ≤ M := by
  have h1 := h.2.2.1 0 (by decide)
  have := h1.1.1 0 h.1.pos
  exact ⟨by omega, h1.1.le⟩
theorem TX.b0 {τ : Hp} {N L M : Nat} {lm : Nat → Nat} {a b : Nat → Nat → Nat} {B : Nat → Nat} (h : TX τ N L lm M a b B) {k : Nat} (hk : k < 4) {e : Nat} (he : e < M) : b k e < M ∧ b k e < B k := by
  have h1 := h.2.2.1 k hk
  have := h1.1.1 e he
  have := h1.1.le
  omega
theorem cm_ne : ∀ q, q ∈ [56, 58, 59, 60, 61, 62, 63, 64, 65, 66] → q ∉ cmS := by decide
theorem FM.cm {σ τ υ : Hp} (h : FM σ τ) (h2 : Fp cmS τ υ) : FM σ υ := h.tr (FM.of h2 (by decide) (by decide))
def boF (N L : Nat) (lm : Nat → Nat) (j M : Nat) (b : Nat → Nat → Nat) (B : Nat → Nat) : Nat :=
  if j < 4 then B j else if j = 4 then (inF N (EQ N L lm) (b 0) (b 0) none true M).2 else if j = 5 then (inF N (EQ N L lm) (b 0) (b 3) none true M).2 else if j = 6 then b 0 (lbF N L lm (b 0) M (B 0)).1 else szF (b 0) M (b 0 (lbF N L lm (b 0) M (B 0)).1)
theorem lbF_lt {N L M B : Nat} {lm : Nat → Nat} {a b : Nat → Nat} (hR : RG M a b B) (h0 : 0 < M) : ∀ K, K ≤ B → (lbF N L lm b M K).1 < M
  | 0, _ => h0
  | K + 1, hK => by
    have ih := lbF_lt (N := N) (L := L) (lm := lm) hR h0 K (by omega)
    obtain ⟨e0, he0, hb0⟩ := hR.2.1 K (by omega)
    have hlt : loF b M K < 0 + M := sr_ex _ _ ⟨e0, Nat.zero_le _, by omega, hb0⟩
    show (if (CQ N L lm (loF b M K)).length < (lbF N L lm b M K).2 then (loF b M K, (CQ N L lm (loF b M K)).length) else lbF N L lm b M K).1 < M
    split
    · show loF b M K < M
      omega
    · exact ih
theorem c_M_boxes_no (w : Int32) (σ : Hp) (h : ¬ (0 ≤ w ∧ w ≤ nI 7)) : Ct m_M_boxes [.ref 56, .int w] σ (Rt (.int (-1)) (Th σ)) := by
  show WP m_M_boxes 0 [.ref 56, .int w] [] σ _
  refine wp_aload_n d_M_boxes_0 rfl ?_
  refine wp_iconst (v := 0) d_M_boxes_1 (by decide) ?_
  refine wp_putI d_M_boxes_2 fp_M_89 rfl rfl (by decide) rfl rfl ?_
  show WP m_M_boxes 5 _ _ (Th σ) _
  refine wp_iload_n d_M_boxes_5 rfl ?_
  refine wp_iconst (v := 0) d_M_boxes_6 (by decide) ?_
  refine wp_bipush (v := 7) d_M_boxes_7 (by decide) ?_
  refine wp_callS3e d_M_boxes_9 cs_M_100 ⟨Nat.le_of_ble_eq_true rfl, Nat.le_of_ble_eq_true rfl⟩ (Nat.le_of_ble_eq_true rfl) (Nat.le_of_ble_eq_true rfl) (c_M_in _ _ _ _) ?_
  refine wp_if_ne (tgt := 17) d_M_boxes_12 (by decide) (fun hc => ?_) (fun hc => ?_)
  · exact absurd (bz_n0 hc) h
  · refine wp_iconst (v := -1) d_M_boxes_15 (by decide) ?_
    refine wp_iret d_M_boxes_16 rfl ?_
    exact ⟨rfl, rfl⟩
theorem c_M_boxes {j N L : Nat} {lm : Nat → Nat} (hj : j ≤ 7) (σ : Hp) (hB : MB σ N) (hL : LT σ N L lm) (hD : LD σ N L lm) : Ct m_M_boxes [.ref 56, .int (nI j)] σ (Lb N L lm σ (fun M b B z => z = nI (boF N L lm j M b B))) := by
  have hB := hB.th
  have hL := hL.th
  have hD := hD.th
  show WP m_M_boxes 0 [.ref 56, .int (nI j)] [] σ _
  refine wp_aload_n d_M_boxes_0 rfl ?_
  refine wp_iconst (v := 0) d_M_boxes_1 (by decide) ?_
  refine wp_putI d_M_boxes_2 fp_M_89 rfl rfl (by decide) rfl rfl ?_
  show WP m_M_boxes 5 _ _ (Th σ) _
  refine wp_iload_n d_M_boxes_5 rfl ?_
  refine wp_iconst (v := 0) d_M_boxes_6 (by decide) ?_
  refine wp_bipush (v := 7) d_M_boxes_7 (by decide) ?_
  refine wp_callS3e d_M_boxes_9 cs_M_100 ⟨Nat.le_of_ble_eq_true rfl, Nat.le_of_ble_eq_true rfl⟩ (Nat.le_of_ble_eq_true rfl) (Nat.le_of_ble_eq_true rfl) (c_M_in _ _ _ _) ?_
  refine wp_if_ne (tgt := 17) d_M_boxes_12 (by decide) (fun hc => ?_) (fun hc => ?_)
  · refine wp_aload_n d_M_boxes_17 rfl ?_
    refine wp_callV0 d_M_boxes_18 cv_M_141 rfl rfl rfl ⟨Nat.le_of_ble_eq_true rfl, Nat.le_of_ble_eq_true rfl⟩ (Nat.le_of_ble_eq_true rfl) (Nat.le_of_ble_eq_true rfl) (c_M_loads _ hB hL hD) (fun v τ hv => ?_)
    obtain ⟨hF, hv⟩ := hv
    show WP m_M_boxes 21 _ _ τ _
    rcases hv with ⟨rfl, hv⟩ | ⟨rfl, M, hv⟩
    · show WP m_M_boxes 21 _ [.int 0] τ _
      refine wp_if_ne (tgt := 27) d_M_boxes_21 (by decide) (fun hc2 => ?_) (fun hc2 => ?_)
      · exact absurd rfl hc2
      · refine wp_bipush (v := -5) d_M_boxes_24 (by decide) ?_
        refine wp_iret d_M_boxes_26 rfl ?_
        exact ⟨hF, Or.inl ⟨rfl, hv⟩⟩
    · show WP m_M_boxes 21 _ [.int 1] τ _
      have hB1 := hF.MB hB
      have hL1 := hF.LT hL
      obtain ⟨a, b, B, hx⟩ := hv.tx
      have hq := hx.1
      have h15 := hq.2.2.2.1
      obtain ⟨r0, k0, z0⟩ := hx.2.2.1 0 (by decide)
      have bM : ∀ e, e < M → b 0 e < M ∧ b 0 e < M := fun e he => ⟨(hx.b0 (by decide) he).1, (hx.b0 (by decide) he).1⟩
      have fin : ∀ z υ, Fp cmS τ υ → z = boF N L lm j M b B → Lb N L lm σ (fun M b B z => z = nI (boF N L lm j M b B)) (some (.int (nI z))) υ := fun z υ hF2 hz => ⟨hF.cm hF2, Or.inr ⟨nI z, M, a, b, B, rfl, hx.mv hF2 cm_ne, by rw [hz]⟩⟩
      have lb1 : b 0 (lbF N L lm (b 0) M (B 0)).1 < M := (hx.b0 (by decide) (lbF_lt r0 hq.pos _ (Nat.le_refl _))).1
      refine wp_if_ne (tgt := 27) d_M_boxes_21 (by decide) (fun hc2 => ?_) (fun hc2 => ?_)
      · rcases (show j < 4 ∨ j = 4 ∨ j = 5 ∨ j = 6 ∨ j = 7 by omega) with h | rfl | rfl | rfl | rfl
        · obtain ⟨rj, kj, zj⟩ := hx.2.2.1 j h
          have key : WP m_M_boxes 72 [.ref 56, .int (nI j)] [] τ (Lb N L lm σ (fun M b B z => z = nI (boF N L lm j M b B))) := by
            refine wp_aload_n d_M_boxes_72 rfl ?_
            refine wp_getA d_M_boxes_73 fl_M_42 rfl rfl rfl ?_
            refine wp_iload_n d_M_boxes_76 rfl ?_
            refine wp_iald d_M_boxes_77 rfl ?_ ?_
            · exact vp_in_nI (n := j) (by omega) (by decide)
            rw [nI_clamp (show j < 2 ^ 31 by omega), zj]
            refine wp_iret d_M_boxes_78 rfl ?_
            exact fin _ τ Fp.rf (by rw [boF, if_pos h])
          rcases (show j = 0 ∨ j = 1 ∨ j = 2 ∨ j = 3 by omega) with rfl | rfl | rfl | rfl
          · refine wp_iload_n d_M_boxes_27 rfl ?_
            refine wp_tabIn (tgt := 72) (off := 44) d_M_boxes_28 (by decide) (by decide) (by decide) (by decide) ?_
            exact key
          · refine wp_iload_n d_M_boxes_27 rfl ?_
            refine wp_tabIn (tgt := 72) (off := 44) d_M_boxes_28 (by decide) (by decide) (by decide) (by decide) ?_
            exact key
          · refine wp_iload_n d_M_boxes_27 rfl ?_
            refine wp_tabIn (tgt := 72) (off := 44) d_M_boxes_28 (by decide) (by decide) (by decide) (by decide) ?_
            exact key
          · refine wp_iload_n d_M_boxes_27 rfl ?_
            refine wp_tabIn (tgt := 72) (off := 44) d_M_boxes_28 (by decide) (by decide) (by decide) (by decide) ?_
            exact key
        · refine wp_iload_n d_M_boxes_27 rfl ?_
          refine wp_tabIn (tgt := 79) (off := 51) d_M_boxes_28 (by decide) (by decide) (by decide) (by decide) ?_
          refine wp_aload_n d_M_boxes_79 rfl ?_
          refine wp_iconst (v := -1) d_M_boxes_80 (by decide) ?_
          refine wp_iconst (v := 0) d_M_boxes_81 (by decide) ?_
          refine wp_iconst (v := 1) d_M_boxes_82 (by decide) ?_
          have := c_M_inside (k := 0) (b := b 0) (bk := b 0) none (fun x q => by cases q) true τ hB1 hq (by decide) bM k0 k0
          refine wp_callV3 d_M_boxes_83 cv_M_173 rfl rfl rfl ⟨Nat.le_of_ble_eq_true rfl, Nat.le_of_ble_eq_true rfl⟩ (Nat.le_of_ble_eq_true rfl) (Nat.le_of_ble_eq_true rfl) (this) (fun v υ hv => ?_)
          obtain ⟨rfl, hF2⟩ := hv
          show WP m_M_boxes 86 _ [.int _] υ _
          refine wp_iret d_M_boxes_86 rfl ?_
          exact fin _ υ hF2 rfl
        · refine wp_iload_n d_M_boxes_27 rfl ?_
          refine wp_tabIn (tgt := 87) (off := 59) d_M_boxes_28 (by decide) (by decide) (by decide) (by decide) ?_
          refine wp_aload_n d_M_boxes_87 rfl ?_
          refine wp_iconst (v := -1) d_M_boxes_88 (by decide) ?_
          refine wp_iconst (v := 3) d_M_boxes_89 (by decide) ?_
          refine wp_iconst (v := 1) d_M_boxes_90 (by decide) ?_
          have := c_M_inside (k := 3) (b := b 0) (bk := b 3) none (fun x q => by cases q) true τ hB1 hq (by decide) (fun e he => ⟨(hx.b0 (by decide) he).1, (hx.b0 (by decide) he).1⟩) k0 (hx.2.2.1 3 (by decide)).2.1
          refine wp_callV3 d_M_boxes_91 cv_M_173 rfl rfl rfl ⟨Nat.le_of_ble_eq_true rfl, Nat.le_of_ble_eq_true rfl⟩ (Nat.le_of_ble_eq_true rfl) (Nat.le_of_ble_eq_true rfl) (this) (fun v υ hv => ?_)
          obtain ⟨rfl, hF2⟩ := hv
          show WP m_M_boxes 94 _ [.int _] υ _
          refine wp_iret d_M_boxes_94 rfl ?_
          exact fin _ υ hF2 rfl
        · refine wp_iload_n d_M_boxes_27 rfl ?_
          refine wp_tabIn (tgt := 95) (off := 67) d_M_boxes_28 (by decide) (by decide) (by decide) (by decide) ?_
          refine wp_aload_n d_M_boxes_95 rfl ?_
          refine wp_callV0 d_M_boxes_96 cv_M_177 rfl rfl rfl ⟨Nat.le_of_ble_eq_true rfl, Nat.le_of_ble_eq_true rfl⟩ (Nat.le_of_ble_eq_true rfl) (Nat.le_of_ble_eq_true rfl) (c_M_leastBox _ hL1 hq hx.2.1 r0 k0 z0) (fun v υ hv => ?_)
          obtain ⟨rfl, hF2⟩ := hv
          show WP m_M_boxes 99 _ [.int _] υ _
          refine wp_iret d_M_boxes_99 rfl ?_
          exact fin _ υ hF2 rfl
        · refine wp_iload_n d_M_boxes_27 rfl ?_
          refine wp_tabOut (tgt := 100) d_M_boxes_28 (by decide) (by decide) ?_
          refine wp_aload_n d_M_boxes_100 rfl ?_
          refine wp_aload_n d_M_boxes_101 rfl ?_
          refine wp_callV0 d_M_boxes_102 cv_M_177 rfl rfl rfl ⟨Nat.le_of_ble_eq_true rfl, Nat.le_of_ble_eq_true rfl⟩ (Nat.le_of_ble_eq_true rfl) (Nat.le_of_ble_eq_true rfl) (c_M_leastBox _ hL1 hq hx.2.1 r0 k0 z0) (fun v υ hv => ?_)
          obtain ⟨rfl, hF2⟩ := hv
          have hx2 := hx.mv hF2 cm_ne
          have k2 := (hx2.2.2.1 0 (by decide)).2.1
          show WP m_M_boxes 105 _ [.int _, .ref 56] υ _
          refine wp_callV1e d_M_boxes_105 cv_M_180 rfl rfl rfl ⟨Nat.le_of_ble_eq_true rfl, Nat.le_of_ble_eq_true rfl⟩ (Nat.le_of_ble_eq_true rfl) (Nat.le_of_ble_eq_true rfl) (c_M_sizeOf _ h15 hx2.1.2.1 (fun e he => by have := (hx2.b0 (k := 0) (by decide) he).1; omega) k2 (by omega)) ?_
          refine wp_iret d_M_boxes_108 rfl ?_
          exact fin _ υ hF2 rfl
      · exact absurd hc2 (by decide)
  · exact absurd ⟨nI_pos' (by omega), nI_le (b := 7) hj (by decide)⟩ (bz_0.mp hc)
theorem c_M_box_no (e w : Int32) (σ : Hp) (h : ¬ (0 ≤ w ∧ w ≤ nI 3)) : Ct m_M_box [.ref 56, .int e, .int w] σ (Rt (.int (-1)) (Th σ)) := by
  show WP m_M_box 0 [.ref 56, .int e, .int w] [] σ _
  refine wp_aload_n d_M_box_0 rfl ?_
  refine wp_iconst (v := 0) d_M_box_1 (by decide) ?_
  refine wp_putI d_M_box_2 fp_M_89 rfl rfl (by decide) rfl rfl ?_
  show WP m_M_box 5 _ _ (Th σ) _
  refine wp_iload_n d_M_box_5 rfl ?_
  refine wp_iconst (v := 0) d_M_box_6 (by decide) ?_
  refine wp_iconst (v := 3) d_M_box_7 (by decide) ?_
  refine wp_callS3e d_M_box_8 cs_M_100 ⟨Nat.le_of_ble_eq_true rfl, Nat.le_of_ble_eq_true rfl⟩ (Nat.le_of_ble_eq_true rfl) (Nat.le_of_ble_eq_true rfl) (c_M_in _ _ _ _) ?_
  refine wp_if_ne (tgt := 16) d_M_box_11 (by decide) (fun hc => ?_) (fun hc => ?_)
  · exact absurd (bz_n0 hc) h
  · refine wp_iconst (v := -1) d_M_box_14 (by decide) ?_
    refine wp_iret d_M_box_15 rfl ?_
    exact ⟨rfl, rfl⟩
theorem c_M_box {j N L : Nat} {lm : Nat → Nat} (e : Int32) (hj : j ≤ 3) (σ : Hp) (hB : MB σ N) (hL : LT σ N L lm) (hD : LD σ N L lm) : Ct m_M_box [.ref 56, .int e, .int (nI j)] σ (Lb N L lm σ (fun M b _ z => Ar M e (fun x => nI (b j x)) z)) := by
  have hB := hB.th
  have hL := hL.th
  have hD := hD.th
  show WP m_M_box 0 [.ref 56, .int e, .int (nI j)] [] σ _
  refine wp_aload_n d_M_box_0 rfl ?_
  refine wp_iconst (v := 0) d_M_box_1 (by decide) ?_
  refine wp_putI d_M_box_2 fp_M_89 rfl rfl (by decide) rfl rfl ?_
  show WP m_M_box 5 _ _ (Th σ) _
  refine wp_iload_n d_M_box_5 rfl ?_
  refine wp_iconst (v := 0) d_M_box_6 (by decide) ?_
  refine wp_iconst (v := 3) d_M_box_7 (by decide) ?_
  refine wp_callS3e d_M_box_8 cs_M_100 ⟨Nat.le_of_ble_eq_true rfl, Nat.le_of_ble_eq_true rfl⟩ (Nat.le_of_ble_eq_true rfl) (Nat.le_of_ble_eq_true rfl) (c_M_in _ _ _ _) ?_
  refine wp_if_ne (tgt := 16) d_M_box_11 (by decide) (fun hc => ?_) (fun hc => ?_)
  · refine wp_aload_n d_M_box_16 rfl ?_
    refine wp_callV0 d_M_box_17 cv_M_141 rfl rfl rfl ⟨Nat.le_of_ble_eq_true rfl, Nat.le_of_ble_eq_true rfl⟩ (Nat.le_of_ble_eq_true rfl) (Nat.le_of_ble_eq_true rfl) (c_M_loads _ hB hL hD) (fun v τ hv => ?_)
    obtain ⟨hF, hv⟩ := hv
    show WP m_M_box 20 _ _ τ _
    rcases hv with ⟨rfl, hv⟩ | ⟨rfl, M, hv⟩
    · show WP m_M_box 20 _ [.int 0] τ _
      refine wp_if_ne (tgt := 26) d_M_box_20 (by decide) (fun hc2 => ?_) (fun hc2 => ?_)
      · exact absurd rfl hc2
      · refine wp_bipush (v := -5) d_M_box_23 (by decide) ?_
        refine wp_iret d_M_box_25 rfl ?_
        exact ⟨hF, Or.inl ⟨rfl, hv⟩⟩
    · show WP m_M_box 20 _ [.int 1] τ _
      obtain ⟨a, b, B, hx⟩ := hv.tx
      have hq := hx.1
      have h15 := hq.2.2.2.1
      have h0 := hq.pos
      refine wp_if_ne (tgt := 26) d_M_box_20 (by decide) (fun hc2 => ?_) (fun hc2 => ?_)
      · refine wp_iload_n d_M_box_26 rfl ?_
        refine wp_iconst (v := 0) d_M_box_27 (by decide) ?_
        refine wp_aload_n d_M_box_28 rfl ?_
        refine wp_getI d_M_box_29 fl_M_117 rfl rfl (by decide) ?_
        refine wp_iconst (v := 1) d_M_box_32 (by decide) ?_
        refine wp_isub d_M_box_33 ?_
        rw [hq.2.1, m_e9 h0]
        refine wp_callS3e d_M_box_34 cs_M_100 ⟨Nat.le_of_ble_eq_true rfl, Nat.le_of_ble_eq_true rfl⟩ (Nat.le_of_ble_eq_true rfl) (Nat.le_of_ble_eq_true rfl) (c_M_in _ _ _ _) ?_
        refine wp_if_eq (tgt := 53) d_M_box_37 (by decide) (fun hc3 => ?_) (fun hc3 => ?_)
        · rw [bz_0, in_M h0 h15] at hc3
          refine wp_iconst (v := -1) d_M_box_53 (by decide) ?_
          refine wp_iret d_M_box_54 rfl ?_
          exact ⟨hF, Or.inr ⟨-1, M, a, b, B, rfl, hx, Or.inr ⟨hc3, rfl⟩⟩⟩
        · have hc3 := bz_n0 hc3
          obtain ⟨x, hxM, rfl⟩ := (in_M h0 h15).mp hc3
          refine wp_aload_n d_M_box_40 rfl ?_
          refine wp_getA d_M_box_41 fl_M_39 rfl rfl rfl ?_
          refine wp_iconst (v := 4) d_M_box_44 (by decide) ?_
          refine wp_iload_n d_M_box_45 rfl ?_
          refine wp_imul d_M_box_46 ?_
          refine wp_iload_n d_M_box_47 rfl ?_
          refine wp_iadd d_M_box_48 ?_
          rw [four_nI]
          refine wp_iald d_M_box_49 rfl ?_ ?_
          · exact vp_in_nI (n := 4 * x + j) (by omega) (by decide)
          rw [nI_clamp (show 4 * x + j < 2 ^ 31 by omega), (hx.2.2.1 j (by omega)).2.1 x hxM]
          refine wp_goto (tgt := 54) d_M_box_50 (by decide) ?_
          refine wp_iret d_M_box_54 rfl ?_
          exact ⟨hF, Or.inr ⟨_, M, a, b, B, rfl, hx, Or.inl ⟨x, hxM, rfl, rfl⟩⟩⟩
      · exact absurd hc2 (by decide)
  · exact absurd ⟨nI_pos' (by omega), nI_le (b := 3) hj (by decide)⟩ (bz_0.mp hc)
def abF (N L : Nat) (lm : Nat → Nat) (j M : Nat) (b : Nat → Nat → Nat) (i : Nat) : Nat :=
  if j = 0 then szF (b 0) M i else if j < 4 then (inF N (EQ N L lm) (b 0) (b j) (some i) false M).2 else if j = 4 then (if rgF N (EQ N L lm) (b 0) i M = true then 1 else 0) else if j = 5 then (inF N (EQ N L lm) (b 0) (b 3) (some i) true M).2 else if j = 6 then pcN (rsN N (itm (EQ N L lm) (loF (b 0) M i))) else loF (b 0) M i
theorem c_M_about_no (e w : Int32) (σ : Hp) (h : ¬ (0 ≤ w ∧ w ≤ nI 7)) : Ct m_M_about [.ref 56, .int e, .int w] σ (Rt (.int (-1)) (Th σ)) := by
  show WP m_M_about 0 [.ref 56, .int e, .int w] [] σ _
  refine wp_aload_n d_M_about_0 rfl ?_
  refine wp_iconst (v := 0) d_M_about_1 (by decide) ?_
  refine wp_putI d_M_about_2 fp_M_89 rfl rfl (by decide) rfl rfl ?_
  show WP m_M_about 5 _ _ (Th σ) _
  refine wp_iload_n d_M_about_5 rfl ?_
  refine wp_iconst (v := 0) d_M_about_6 (by decide) ?_
  refine wp_bipush (v := 7) d_M_about_7 (by decide) ?_
  refine wp_callS3e d_M_about_9 cs_M_100 ⟨Nat.le_of_ble_eq_true rfl, Nat.le_of_ble_eq_true rfl⟩ (Nat.le_of_ble_eq_true rfl) (Nat.le_of_ble_eq_true rfl) (c_M_in _ _ _ _) ?_
  refine wp_if_ne (tgt := 17) d_M_about_12 (by decide) (fun hc => ?_) (fun hc => ?_)
  · exact absurd (bz_n0 hc) h
  · refine wp_iconst (v := -1) d_M_about_15 (by decide) ?_
    refine wp_iret d_M_about_16 rfl ?_
    exact ⟨rfl, rfl⟩
theorem c_M_about {j N L : Nat} {lm : Nat → Nat} (i : Int32) (hj : j ≤ 7) (σ : Hp) (hB : MB σ N) (hL : LT σ N L lm) (hD : LD σ N L lm) : Ct m_M_about [.ref 56, .int i, .int (nI j)] σ (Lb N L lm σ (fun M b B z => Ar (B 0) i (fun x => nI (abF N L lm j M b x)) z)) := by
  have hB := hB.th
  have hL := hL.th
  have hD := hD.th
  have hp6 := pow6 hB.2.2
  show WP m_M_about 0 [.ref 56, .int i, .int (nI j)] [] σ _
  refine wp_aload_n d_M_about_0 rfl ?_
  refine wp_iconst (v := 0) d_M_about_1 (by decide) ?_
  refine wp_putI d_M_about_2 fp_M_89 rfl rfl (by decide) rfl rfl ?_
  show WP m_M_about 5 _ _ (Th σ) _
  refine wp_iload_n d_M_about_5 rfl ?_
  refine wp_iconst (v := 0) d_M_about_6 (by decide) ?_
  refine wp_bipush (v := 7) d_M_about_7 (by decide) ?_
  refine wp_callS3e d_M_about_9 cs_M_100 ⟨Nat.le_of_ble_eq_true rfl, Nat.le_of_ble_eq_true rfl⟩ (Nat.le_of_ble_eq_true rfl) (Nat.le_of_ble_eq_true rfl) (c_M_in _ _ _ _) ?_
  refine wp_if_ne (tgt := 17) d_M_about_12 (by decide) (fun hc => ?_) (fun hc => ?_)
  · refine wp_aload_n d_M_about_17 rfl ?_
    refine wp_callV0 d_M_about_18 cv_M_141 rfl rfl rfl ⟨Nat.le_of_ble_eq_true rfl, Nat.le_of_ble_eq_true rfl⟩ (Nat.le_of_ble_eq_true rfl) (Nat.le_of_ble_eq_true rfl) (c_M_loads _ hB hL hD) (fun v τ hv => ?_)
    obtain ⟨hF, hv⟩ := hv
    show WP m_M_about 21 _ _ τ _
    rcases hv with ⟨rfl, hv⟩ | ⟨rfl, M, hv⟩
    · show WP m_M_about 21 _ [.int 0] τ _
      refine wp_if_ne (tgt := 27) d_M_about_21 (by decide) (fun hc2 => ?_) (fun hc2 => ?_)
      · exact absurd rfl hc2
      · refine wp_bipush (v := -5) d_M_about_24 (by decide) ?_
        refine wp_iret d_M_about_26 rfl ?_
        exact ⟨hF, Or.inl ⟨rfl, hv⟩⟩
    · show WP m_M_about 21 _ [.int 1] τ _
      have hB1 := hF.MB hB
      have hL1 := hF.LT hL
      obtain ⟨a, b, B, hx⟩ := hv.tx
      have hq := hx.1
      have h15 := hq.2.2.2.1
      have hlen := hq.2.2.1
      obtain ⟨r0, k0, z0⟩ := hx.2.2.1 0 (by decide)
      obtain ⟨hB0, hBM⟩ := hx.B0
      have loM : ∀ i, i < B 0 → loF (b 0) M i < M := fun i hi => by
        obtain ⟨e0, he0, hb0⟩ := r0.2.1 i hi
        have hlt : loF (b 0) M i < 0 + M := sr_ex _ _ ⟨e0, Nat.zero_le _, by omega, hb0⟩
        omega
      refine wp_if_ne (tgt := 27) d_M_about_21 (by decide) (fun hc2 => ?_) (fun hc2 => ?_)
      · refine wp_iload_n d_M_about_27 rfl ?_
        refine wp_iconst (v := 0) d_M_about_28 (by decide) ?_
        refine wp_aload_n d_M_about_29 rfl ?_
        refine wp_getA d_M_about_30 fl_M_42 rfl rfl rfl ?_
        refine wp_iconst (v := 0) d_M_about_33 (by decide) ?_
        refine wp_iald d_M_about_34 rfl ?_ ?_
        · exact vp_in_nI (n := 0) (by decide) (by decide)
        rw [show (0 : Int32).toNatClampNeg = 0 by decide, z0]
        refine wp_iconst (v := 1) d_M_about_35 (by decide) ?_
        refine wp_isub d_M_about_36 ?_
        rw [m_e9 hB0]
        refine wp_callS3e d_M_about_37 cs_M_100 ⟨Nat.le_of_ble_eq_true rfl, Nat.le_of_ble_eq_true rfl⟩ (Nat.le_of_ble_eq_true rfl) (Nat.le_of_ble_eq_true rfl) (c_M_in _ _ _ _) ?_
        refine wp_if_ne (tgt := 45) d_M_about_40 (by decide) (fun hc3 => ?_) (fun hc3 => ?_)
        · have hc3 := bz_n0 hc3
          obtain ⟨x, hxB, rfl⟩ := (in_M hB0 (by omega)).mp hc3
          have fin : ∀ z υ, Fp cmS τ υ → z = abF N L lm j M b x → Lb N L lm σ (fun M b B z => Ar (B 0) (nI x) (fun x => nI (abF N L lm j M b x)) z) (some (.int (nI z))) υ := fun z υ hF2 hz => ⟨hF.cm hF2, Or.inr ⟨nI z, M, a, b, B, rfl, hx.mv hF2 cm_ne, Or.inl ⟨x, hxB, rfl, by rw [hz]⟩⟩⟩
          rcases (show j = 0 ∨ (0 < j ∧ j < 4) ∨ j = 4 ∨ j = 5 ∨ j = 6 ∨ j = 7 by omega) with rfl | h | rfl | rfl | rfl | rfl
          · refine wp_iload_n d_M_about_45 rfl ?_
            refine wp_tabIn (tgt := 88) (off := 42) d_M_about_46 (by decide) (by decide) (by decide) (by decide) ?_
            refine wp_aload_n d_M_about_88 rfl ?_
            refine wp_iload_n d_M_about_89 rfl ?_
            refine wp_callV1e d_M_about_90 cv_M_180 rfl rfl rfl ⟨Nat.le_of_ble_eq_true rfl, Nat.le_of_ble_eq_true rfl⟩ (Nat.le_of_ble_eq_true rfl) (Nat.le_of_ble_eq_true rfl) (c_M_sizeOf _ h15 hq.2.1 (fun e he => by have := (hx.b0 (k := 0) (by decide) he).1; omega) k0 (by omega)) ?_
            refine wp_iret d_M_about_93 rfl ?_
            exact fin _ τ Fp.rf rfl
          · have key : WP m_M_about 94 [.ref 56, .int (nI x), .int (nI j)] [] τ (Lb N L lm σ (fun M b B z => Ar (B 0) (nI x) (fun x => nI (abF N L lm j M b x)) z)) := by
              have := c_M_inside (k := j) (b := b 0) (bk := b j) (some x) (fun y q => by cases q; omega) false τ hB1 hq (by omega) (fun e he => ⟨(hx.b0 (by decide) he).1, (hx.b0 (by omega) he).1⟩) k0 (hx.2.2.1 j (by omega)).2.1
              refine wp_aload_n d_M_about_94 rfl ?_
              refine wp_iload_n d_M_about_95 rfl ?_
              refine wp_iload_n d_M_about_96 rfl ?_
              refine wp_iconst (v := 0) d_M_about_97 (by decide) ?_
              refine wp_callV3 d_M_about_98 cv_M_173 rfl rfl rfl ⟨Nat.le_of_ble_eq_true rfl, Nat.le_of_ble_eq_true rfl⟩ (Nat.le_of_ble_eq_true rfl) (Nat.le_of_ble_eq_true rfl) (this) (fun v υ hv => ?_)
              obtain ⟨rfl, hF2⟩ := hv
              show WP m_M_about 101 _ [.int _] υ _
              refine wp_iret d_M_about_101 rfl ?_
              exact fin _ υ hF2 (by rw [abF, if_neg (by omega), if_pos h.2])
            rcases (show j = 1 ∨ j = 2 ∨ j = 3 by omega) with rfl | rfl | rfl
            · refine wp_iload_n d_M_about_45 rfl ?_
              refine wp_tabIn (tgt := 94) (off := 48) d_M_about_46 (by decide) (by decide) (by decide) (by decide) ?_
              exact key
            · refine wp_iload_n d_M_about_45 rfl ?_
              refine wp_tabIn (tgt := 94) (off := 48) d_M_about_46 (by decide) (by decide) (by decide) (by decide) ?_
              exact key
            · refine wp_iload_n d_M_about_45 rfl ?_
              refine wp_tabIn (tgt := 94) (off := 48) d_M_about_46 (by decide) (by decide) (by decide) (by decide) ?_
              exact key
          · refine wp_iload_n d_M_about_45 rfl ?_
            refine wp_tabIn (tgt := 102) (off := 56) d_M_about_46 (by decide) (by decide) (by decide) (by decide) ?_
            refine wp_aload_n d_M_about_102 rfl ?_
            refine wp_iload_n d_M_about_103 rfl ?_
            refine wp_callV1e d_M_about_104 cv_M_183 rfl rfl rfl ⟨Nat.le_of_ble_eq_true rfl, Nat.le_of_ble_eq_true rfl⟩ (Nat.le_of_ble_eq_true rfl) (Nat.le_of_ble_eq_true rfl) (c_M_isRegular (by omega) _ hB1 hq (fun e he => (hx.b0 (by decide) he).1) k0) ?_
            refine wp_if_eq (tgt := 114) d_M_about_107 (by decide) (fun hc5 => ?_) (fun hc5 => ?_)
            · rw [bz_0] at hc5
              refine wp_iconst (v := 0) d_M_about_114 (by decide) ?_
              refine wp_iret d_M_about_115 rfl ?_
              exact fin 0 τ Fp.rf (by simp [abF, hc5])
            · have hc5 := bz_n0 hc5
              refine wp_iconst (v := 1) d_M_about_110 (by decide) ?_
              refine wp_goto (tgt := 115) d_M_about_111 (by decide) ?_
              refine wp_iret d_M_about_115 rfl ?_
              exact fin 1 τ Fp.rf (by simp [abF, hc5])
          · have := c_M_inside (k := 3) (b := b 0) (bk := b 3) (some x) (fun y q => by cases q; omega) true τ hB1 hq (by omega) (fun e he => ⟨(hx.b0 (by decide) he).1, (hx.b0 (by decide) he).1⟩) k0 (hx.2.2.1 3 (by omega)).2.1
            refine wp_iload_n d_M_about_45 rfl ?_
            refine wp_tabIn (tgt := 116) (off := 70) d_M_about_46 (by decide) (by decide) (by decide) (by decide) ?_
            refine wp_aload_n d_M_about_116 rfl ?_
            refine wp_iload_n d_M_about_117 rfl ?_
            refine wp_iconst (v := 3) d_M_about_118 (by decide) ?_
            refine wp_iconst (v := 1) d_M_about_119 (by decide) ?_
            refine wp_callV3 d_M_about_120 cv_M_173 rfl rfl rfl ⟨Nat.le_of_ble_eq_true rfl, Nat.le_of_ble_eq_true rfl⟩ (Nat.le_of_ble_eq_true rfl) (Nat.le_of_ble_eq_true rfl) (this) (fun v υ hv => ?_)
            obtain ⟨rfl, hF2⟩ := hv
            show WP m_M_about 123 _ [.int _] υ _
            refine wp_iret d_M_about_123 rfl ?_
            exact fin _ υ hF2 rfl
          · have l1 := loM x hxB
            have hlt := EQ_lt (L := L) (lm := lm) hB.2.1 (loF (b 0) M x) (by omega)
            refine wp_iload_n d_M_about_45 rfl ?_
            refine wp_tabIn (tgt := 124) (off := 78) d_M_about_46 (by decide) (by decide) (by decide) (by decide) ?_
            refine wp_aload_n d_M_about_124 rfl ?_
            refine wp_aload_n d_M_about_125 rfl ?_
            refine wp_getA d_M_about_126 fl_M_17 rfl rfl rfl ?_
            refine wp_aload_n d_M_about_129 rfl ?_
            refine wp_iload_n d_M_about_130 rfl ?_
            refine wp_callV1e d_M_about_131 cv_M_170 rfl rfl rfl ⟨Nat.le_of_ble_eq_true rfl, Nat.le_of_ble_eq_true rfl⟩ (Nat.le_of_ble_eq_true rfl) (Nat.le_of_ble_eq_true rfl) (c_M_leastOf _ h15 r0 k0 hxB) ?_
            refine wp_iald d_M_about_134 rfl ?_ ?_
            · exact vp_in_nI (n := loF (b 0) M x) (by omega) (by decide)
            rw [nI_clamp (show loF (b 0) M x < 2 ^ 31 by omega), (hq.2.2.2.2.1 _ (by omega)).1]
            refine wp_callV1e d_M_about_135 cv_M_158 rfl rfl rfl ⟨Nat.le_of_ble_eq_true rfl, Nat.le_of_ble_eq_true rfl⟩ (Nat.le_of_ble_eq_true rfl) (Nat.le_of_ble_eq_true rfl) (c_M_rankOf (by omega) _ hB1) ?_
            refine wp_iret d_M_about_138 rfl ?_
            exact fin _ τ Fp.rf rfl
          · refine wp_iload_n d_M_about_45 rfl ?_
            refine wp_tabOut (tgt := 139) d_M_about_46 (by decide) (by decide) ?_
            refine wp_aload_n d_M_about_139 rfl ?_
            refine wp_iload_n d_M_about_140 rfl ?_
            refine wp_callV1e d_M_about_141 cv_M_170 rfl rfl rfl ⟨Nat.le_of_ble_eq_true rfl, Nat.le_of_ble_eq_true rfl⟩ (Nat.le_of_ble_eq_true rfl) (Nat.le_of_ble_eq_true rfl) (c_M_leastOf _ h15 r0 k0 hxB) ?_
            refine wp_iret d_M_about_144 rfl ?_
            exact fin _ τ Fp.rf rfl
        · rw [bz_0, in_M hB0 (by omega)] at hc3
          refine wp_iconst (v := -1) d_M_about_43 (by decide) ?_
          refine wp_iret d_M_about_44 rfl ?_
          exact ⟨hF, Or.inr ⟨-1, M, a, b, B, rfl, hx, Or.inr ⟨hc3, rfl⟩⟩⟩
      · exact absurd hc2 (by decide)
  · exact absurd ⟨nI_pos' (by omega), nI_le (b := 7) hj (by decide)⟩ (bz_0.mp hc)
theorem c_M_below {N L : Nat} {lm : Nat → Nat} (i j : Int32) (σ : Hp) (hB : MB σ N) (hL : LT σ N L lm) (hD : LD σ N L lm) : Ct m_M_below [.ref 56, .int i, .int j] σ (Lb N L lm σ (fun M b B z => Ar2 (B 0) i j (fun x y => bz (hasB (CQ N L lm (loF (b 0) M y)) (loF (b 0) M x) = true)) z)) := by
  have hB := hB.th
  have hL := hL.th
  have hD := hD.th
  show WP m_M_below 0 [.ref 56, .int i, .int j, .null] [] σ _
  refine wp_aload_n d_M_below_0 rfl ?_
  refine wp_iconst (v := 0) d_M_below_1 (by decide) ?_
  refine wp_putI d_M_below_2 fp_M_89 rfl rfl (by decide) rfl rfl ?_
  show WP m_M_below 5 _ _ (Th σ) _
  refine wp_aload_n d_M_below_5 rfl ?_
  refine wp_callV0 d_M_below_6 cv_M_141 rfl rfl rfl ⟨Nat.le_of_ble_eq_true rfl, Nat.le_of_ble_eq_true rfl⟩ (Nat.le_of_ble_eq_true rfl) (Nat.le_of_ble_eq_true rfl) (c_M_loads _ hB hL hD) (fun v τ hv => ?_)
  obtain ⟨hF, hv⟩ := hv
  show WP m_M_below 9 _ _ τ _
  rcases hv with ⟨rfl, hv⟩ | ⟨rfl, M, hv⟩
  · show WP m_M_below 9 _ [.int 0] τ _
    refine wp_if_ne (tgt := 15) d_M_below_9 (by decide) (fun hc2 => ?_) (fun hc2 => ?_)
    · exact absurd rfl hc2
    · refine wp_bipush (v := -5) d_M_below_12 (by decide) ?_
      refine wp_iret d_M_below_14 rfl ?_
      exact ⟨hF, Or.inl ⟨rfl, hv⟩⟩
  · show WP m_M_below 9 _ [.int 1] τ _
    have hL1 := hF.LT hL
    obtain ⟨a, b, B, hx⟩ := hv.tx
    have hq := hx.1
    have h15 := hq.2.2.2.1
    have hlen := hq.2.2.1
    obtain ⟨r0, k0, z0⟩ := hx.2.2.1 0 (by decide)
    obtain ⟨hB0, hBM⟩ := hx.B0
    have loM : ∀ i, i < B 0 → loF (b 0) M i < M := fun i hi => by
      obtain ⟨e0, he0, hb0⟩ := r0.2.1 i hi
      have hlt : loF (b 0) M i < 0 + M := sr_ex _ _ ⟨e0, Nat.zero_le _, by omega, hb0⟩
      omega
    have bad : (¬ ∃ x y, x < B 0 ∧ y < B 0 ∧ i = nI x ∧ j = nI y) → WP m_M_below 47 [.ref 56, .int i, .int j, .null] [] τ (Lb N L lm σ (fun M b B z => Ar2 (B 0) i j (fun x y => bz (hasB (CQ N L lm (loF (b 0) M y)) (loF (b 0) M x) = true)) z)) := by
      intro q
      refine wp_iconst (v := -1) d_M_below_47 (by decide) ?_
      refine wp_iret d_M_below_48 rfl ?_
      exact ⟨hF, Or.inr ⟨-1, M, a, b, B, rfl, hx, Or.inr ⟨q, rfl⟩⟩⟩
    refine wp_if_ne (tgt := 15) d_M_below_9 (by decide) (fun hc2 => ?_) (fun hc2 => ?_)
    · refine wp_iload_n d_M_below_15 rfl ?_
      refine wp_iconst (v := 0) d_M_below_16 (by decide) ?_
      refine wp_aload_n d_M_below_17 rfl ?_
      refine wp_getA d_M_below_18 fl_M_42 rfl rfl rfl ?_
      refine wp_iconst (v := 0) d_M_below_21 (by decide) ?_
      refine wp_iald d_M_below_22 rfl ?_ ?_
      · exact vp_in_nI (n := 0) (by decide) (by decide)
      rw [show (0 : Int32).toNatClampNeg = 0 by decide, z0]
      refine wp_iconst (v := 1) d_M_below_23 (by decide) ?_
      refine wp_isub d_M_below_24 ?_
      rw [m_e9 hB0]
      refine wp_callS3e d_M_below_25 cs_M_100 ⟨Nat.le_of_ble_eq_true rfl, Nat.le_of_ble_eq_true rfl⟩ (Nat.le_of_ble_eq_true rfl) (Nat.le_of_ble_eq_true rfl) (c_M_in _ _ _ _) ?_
      refine wp_if_eq (tgt := 47) d_M_below_28 (by decide) (fun hc3 => ?_) (fun hc3 => ?_)
      · rw [bz_0, in_M hB0 (by omega)] at hc3
        exact bad (fun ⟨x, y, q1, _, q2, _⟩ => hc3 ⟨x, q1, q2⟩)
      · have hc3 := bz_n0 hc3
        obtain ⟨x, hxB, rfl⟩ := (in_M hB0 (by omega)).mp hc3
        refine wp_iload_n d_M_below_31 rfl ?_
        refine wp_iconst (v := 0) d_M_below_32 (by decide) ?_
        refine wp_aload_n d_M_below_33 rfl ?_
        refine wp_getA d_M_below_34 fl_M_42 rfl rfl rfl ?_
        refine wp_iconst (v := 0) d_M_below_37 (by decide) ?_
        refine wp_iald d_M_below_38 rfl ?_ ?_
        · exact vp_in_nI (n := 0) (by decide) (by decide)
        rw [show (0 : Int32).toNatClampNeg = 0 by decide, z0]
        refine wp_iconst (v := 1) d_M_below_39 (by decide) ?_
        refine wp_isub d_M_below_40 ?_
        rw [m_e9 hB0]
        refine wp_callS3e d_M_below_41 cs_M_100 ⟨Nat.le_of_ble_eq_true rfl, Nat.le_of_ble_eq_true rfl⟩ (Nat.le_of_ble_eq_true rfl) (Nat.le_of_ble_eq_true rfl) (c_M_in _ _ _ _) ?_
        refine wp_if_ne (tgt := 49) d_M_below_44 (by decide) (fun hc5 => ?_) (fun hc5 => ?_)
        · have hc5 := bz_n0 hc5
          obtain ⟨y, hyB, rfl⟩ := (in_M hB0 (by omega)).mp hc5
          clear bad
          have l1 := loM x hxB
          have l2 := loM y hyB
          refine wp_aload_n d_M_below_49 rfl ?_
          refine wp_iload_n d_M_below_50 rfl ?_
          refine wp_callV1e d_M_below_51 cv_M_170 rfl rfl rfl ⟨Nat.le_of_ble_eq_true rfl, Nat.le_of_ble_eq_true rfl⟩ (Nat.le_of_ble_eq_true rfl) (Nat.le_of_ble_eq_true rfl) (c_M_leastOf _ h15 r0 k0 hxB) ?_
          refine wp_istore3 d_M_below_54 (by decide) rfl ?_
          refine wp_aload_n d_M_below_55 rfl ?_
          refine wp_aload_n d_M_below_56 rfl ?_
          refine wp_iload_n d_M_below_57 rfl ?_
          refine wp_callV1e d_M_below_58 cv_M_170 rfl rfl rfl ⟨Nat.le_of_ble_eq_true rfl, Nat.le_of_ble_eq_true rfl⟩ (Nat.le_of_ble_eq_true rfl) (Nat.le_of_ble_eq_true rfl) (c_M_leastOf _ h15 r0 k0 hyB) ?_
          refine wp_callV1 d_M_below_61 cv_M_167 rfl rfl rfl ⟨Nat.le_of_ble_eq_true rfl, Nat.le_of_ble_eq_true rfl⟩ (Nat.le_of_ble_eq_true rfl) (Nat.le_of_ble_eq_true rfl) (c_M_comes l2 _ hL1 hq hx.2.1) (fun v υ hv => ?_)
          obtain ⟨rfl, hF2, hC⟩ := hv
          have e72 : υ.1 72 (loF (b 0) M x) = bz (hasB (CQ N L lm (loF (b 0) M y)) (loF (b 0) M x) = true) := by
            rw [hC.2 _ l1]; rfl
          show WP m_M_below 64 _ [.int _] υ _
          refine wp_pop d_M_below_64 rfl ?_
          refine wp_aload_n d_M_below_65 rfl ?_
          refine wp_getA d_M_below_66 fl_M_60 rfl rfl rfl ?_
          refine wp_iload_n d_M_below_69 rfl ?_
          refine wp_bald d_M_below_70 rfl ?_ ?_
          · exact vp_in_nI (n := loF (b 0) M x) (by omega) (by decide)
          rw [nI_clamp (show loF (b 0) M x < 2 ^ 31 by omega), e72]
          have fin : ∀ z, z = bz (hasB (CQ N L lm (loF (b 0) M y)) (loF (b 0) M x) = true) → Lb N L lm σ (fun M b B z => Ar2 (B 0) (nI x) (nI y) (fun x y => bz (hasB (CQ N L lm (loF (b 0) M y)) (loF (b 0) M x) = true)) z) (some (.int z)) υ := fun z hz => ⟨hF.cm hF2, Or.inr ⟨z, M, a, b, B, rfl, hx.mv hF2 cm_ne, Or.inl ⟨x, y, hxB, hyB, rfl, rfl, hz⟩⟩⟩
          refine wp_if_eq (tgt := 78) d_M_below_71 (by decide) (fun hc6 => ?_) (fun hc6 => ?_)
          · refine wp_iconst (v := 0) d_M_below_78 (by decide) ?_
            refine wp_iret d_M_below_79 rfl ?_
            exact fin 0 hc6.symm
          · have hc6 := bz_n0 hc6
            refine wp_iconst (v := 1) d_M_below_74 (by decide) ?_
            refine wp_goto (tgt := 79) d_M_below_75 (by decide) ?_
            refine wp_iret d_M_below_79 rfl ?_
            exact fin 1 (bz_t hc6).symm
        · rw [bz_0, in_M hB0 (by omega)] at hc5
          exact bad (fun ⟨x, y, _, q1, _, q2⟩ => hc5 ⟨y, q1, q2⟩)
    · exact absurd hc2 (by decide)
theorem c_M_ideal {N L : Nat} {lm : Nat → Nat} (e : Int32) (σ : Hp) (hB : MB σ N) (hL : LT σ N L lm) (hD : LD σ N L lm) : Ct m_M_ideal [.ref 56, .int e] σ (Lb N L lm σ (fun M _ _ z => Ar M e (fun x => nI (CQ N L lm x).length) z)) := by
  have hB := hB.th
  have hL := hL.th
  have hD := hD.th
  show WP m_M_ideal 0 [.ref 56, .int e] [] σ _
  refine wp_aload_n d_M_ideal_0 rfl ?_
  refine wp_iconst (v := 0) d_M_ideal_1 (by decide) ?_
  refine wp_putI d_M_ideal_2 fp_M_89 rfl rfl (by decide) rfl rfl ?_
  show WP m_M_ideal 5 _ _ (Th σ) _
  refine wp_aload_n d_M_ideal_5 rfl ?_
  refine wp_callV0 d_M_ideal_6 cv_M_141 rfl rfl rfl ⟨Nat.le_of_ble_eq_true rfl, Nat.le_of_ble_eq_true rfl⟩ (Nat.le_of_ble_eq_true rfl) (Nat.le_of_ble_eq_true rfl) (c_M_loads _ hB hL hD) (fun v τ hv => ?_)
  obtain ⟨hF, hv⟩ := hv
  show WP m_M_ideal 9 _ _ τ _
  rcases hv with ⟨rfl, hv⟩ | ⟨rfl, M, hv⟩
  · show WP m_M_ideal 9 _ [.int 0] τ _
    refine wp_if_ne (tgt := 15) d_M_ideal_9 (by decide) (fun hc2 => ?_) (fun hc2 => ?_)
    · exact absurd rfl hc2
    · refine wp_bipush (v := -5) d_M_ideal_12 (by decide) ?_
      refine wp_iret d_M_ideal_14 rfl ?_
      exact ⟨hF, Or.inl ⟨rfl, hv⟩⟩
  · show WP m_M_ideal 9 _ [.int 1] τ _
    have hL1 := hF.LT hL
    obtain ⟨a, b, B, hx⟩ := hv.tx
    have hq := hx.1
    have h15 := hq.2.2.2.1
    have h0 := hq.pos
    refine wp_if_ne (tgt := 15) d_M_ideal_9 (by decide) (fun hc2 => ?_) (fun hc2 => ?_)
    · refine wp_iload_n d_M_ideal_15 rfl ?_
      refine wp_iconst (v := 0) d_M_ideal_16 (by decide) ?_
      refine wp_aload_n d_M_ideal_17 rfl ?_
      refine wp_getI d_M_ideal_18 fl_M_117 rfl rfl (by decide) ?_
      refine wp_iconst (v := 1) d_M_ideal_21 (by decide) ?_
      refine wp_isub d_M_ideal_22 ?_
      rw [hq.2.1, m_e9 h0]
      refine wp_callS3e d_M_ideal_23 cs_M_100 ⟨Nat.le_of_ble_eq_true rfl, Nat.le_of_ble_eq_true rfl⟩ (Nat.le_of_ble_eq_true rfl) (Nat.le_of_ble_eq_true rfl) (c_M_in _ _ _ _) ?_
      refine wp_if_eq (tgt := 37) d_M_ideal_26 (by decide) (fun hc3 => ?_) (fun hc3 => ?_)
      · rw [bz_0, in_M h0 h15] at hc3
        refine wp_iconst (v := -1) d_M_ideal_37 (by decide) ?_
        refine wp_iret d_M_ideal_38 rfl ?_
        exact ⟨hF, Or.inr ⟨-1, M, a, b, B, rfl, hx, Or.inr ⟨hc3, rfl⟩⟩⟩
      · have hc3 := bz_n0 hc3
        obtain ⟨x, hxM, rfl⟩ := (in_M h0 h15).mp hc3
        refine wp_aload_n d_M_ideal_29 rfl ?_
        refine wp_iload_n d_M_ideal_30 rfl ?_
        refine wp_callV1 d_M_ideal_31 cv_M_167 rfl rfl rfl ⟨Nat.le_of_ble_eq_true rfl, Nat.le_of_ble_eq_true rfl⟩ (Nat.le_of_ble_eq_true rfl) (Nat.le_of_ble_eq_true rfl) (c_M_comes hxM _ hL1 hq hx.2.1) (fun v υ hv => ?_)
        obtain ⟨rfl, hF2, hC⟩ := hv
        show WP m_M_ideal 34 _ [.int _] υ _
        refine wp_goto (tgt := 38) d_M_ideal_34 (by decide) ?_
        refine wp_iret d_M_ideal_38 rfl ?_
        exact ⟨hF.cm hF2, Or.inr ⟨_, M, a, b, B, rfl, hx.mv hF2 cm_ne, Or.inl ⟨x, hxM, rfl, rfl⟩⟩⟩
    · exact absurd hc2 (by decide)
