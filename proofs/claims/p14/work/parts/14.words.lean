/-! contracts: words, numbers by keys, powers, counts of bits -/
def TrK (r a b c n : Nat) : Prop := kdl[r]? = some (12, 0, [(2, a), (2, b), (2, c)]) ∧ kdl[a]? = some (0, n, []) ∧ kdl[b]? = some (0, n, []) ∧ kdl[c]? = some (0, n, []) ∧ n < 2 ^ 31
def FiK (r a b : Nat) : Prop := kdl[r]? = some (6, 0, [(2, a), (2, b)]) ∧ kdl[a]? = some (0, 4096, []) ∧ kdl[b]? = some (0, 4096, [])
def PoK (r a : Nat) : Prop := kdl[r]? = some (10, 0, [(2, a), (0, 0), (0, 0)]) ∧ kdl[a]? = some (0, 16, [])
theorem trK_11 : TrK 11 12 13 14 1500 := ⟨rfl, rfl, rfl, rfl, by decide⟩
theorem trK_38 : TrK 38 39 40 41 64 := ⟨rfl, rfl, rfl, rfl, by decide⟩
theorem trK_44 : TrK 44 45 46 47 64 := ⟨rfl, rfl, rfl, rfl, by decide⟩
theorem fiK_6 : FiK 6 7 8 := ⟨rfl, rfl, rfl⟩
theorem fiK_24 : FiK 24 25 26 := ⟨rfl, rfl, rfl⟩
theorem fiK_51 : FiK 51 52 53 := ⟨rfl, rfl, rfl⟩
theorem poK_9 : PoK 9 10 := ⟨rfl, rfl⟩
theorem poK_49 : PoK 49 50 := ⟨rfl, rfl⟩
theorem c_R_begin {r a b c n : Nat} (h : TrK r a b c n) (x : Int32) (σ : Hp) : Ct m_R_begin [.ref r, .int x] σ (Rv (wrA σ c n x 0)) := by
  obtain ⟨hr, ha, hb, hc, hn⟩ := h
  show WP m_R_begin 0 [.ref r, .int x] [] σ _
  refine wp_aload_n d_R_begin_0 rfl ?_
  refine wp_getA d_R_begin_1 fl_R_24 hr rfl rfl ?_
  refine wp_iload_n d_R_begin_4 rfl ?_
  refine wp_iconst (v := 0) d_R_begin_5 (by decide) ?_
  refine wp_callSN3v d_R_begin_6 csn_R_27 ⟨Nat.le_of_ble_eq_true rfl, Nat.le_of_ble_eq_true rfl⟩ (Nat.le_of_ble_eq_true rfl) (Nat.le_of_ble_eq_true rfl) (c_P_put hc hn _ _ _) ?_
  refine wp_vret d_R_begin_9 rfl ?_
  exact ⟨rfl, rfl⟩
def grW (σ : Hp) (a b c n : Nat) (x k z : Int32) : Hp := wrA (wrA (wrA σ a n z x) b n z k) c n z (rdA (wrA (wrA σ a n z x) b n z k) c n x + 1)
theorem c_R_grow {r a b c n : Nat} (h : TrK r a b c n) (x k z : Int32) (σ : Hp) : Ct m_R_grow [.ref r, .int x, .int k, .int z] σ (Rv (grW σ a b c n x k z)) := by
  obtain ⟨hr, ha, hb, hc, hn⟩ := h
  show WP m_R_grow 0 [.ref r, .int x, .int k, .int z] [] σ _
  refine wp_aload_n d_R_grow_0 rfl ?_
  refine wp_getA d_R_grow_1 fl_R_15 hr rfl rfl ?_
  refine wp_iload_n d_R_grow_4 rfl ?_
  refine wp_iload_n d_R_grow_5 rfl ?_
  refine wp_callSN3v d_R_grow_6 csn_R_27 ⟨Nat.le_of_ble_eq_true rfl, Nat.le_of_ble_eq_true rfl⟩ (Nat.le_of_ble_eq_true rfl) (Nat.le_of_ble_eq_true rfl) (c_P_put ha hn _ _ _) ?_
  refine wp_aload_n d_R_grow_9 rfl ?_
  refine wp_getA d_R_grow_10 fl_R_21 hr rfl rfl ?_
  refine wp_iload_n d_R_grow_13 rfl ?_
  refine wp_iload_n d_R_grow_14 rfl ?_
  refine wp_callSN3v d_R_grow_15 csn_R_27 ⟨Nat.le_of_ble_eq_true rfl, Nat.le_of_ble_eq_true rfl⟩ (Nat.le_of_ble_eq_true rfl) (Nat.le_of_ble_eq_true rfl) (c_P_put hb hn _ _ _) ?_
  refine wp_aload_n d_R_grow_18 rfl ?_
  refine wp_getA d_R_grow_19 fl_R_24 hr rfl rfl ?_
  refine wp_iload_n d_R_grow_22 rfl ?_
  refine wp_aload_n d_R_grow_23 rfl ?_
  refine wp_getA d_R_grow_24 fl_R_24 hr rfl rfl ?_
  refine wp_iload_n d_R_grow_27 rfl ?_
  refine wp_callSN2e d_R_grow_28 csn_R_31 ⟨Nat.le_of_ble_eq_true rfl, Nat.le_of_ble_eq_true rfl⟩ (Nat.le_of_ble_eq_true rfl) (Nat.le_of_ble_eq_true rfl) (c_P_at hc hn _ _) ?_
  refine wp_iconst (v := 1) d_R_grow_31 (by decide) ?_
  refine wp_iadd d_R_grow_32 ?_
  refine wp_callSN3v d_R_grow_33 csn_R_27 ⟨Nat.le_of_ble_eq_true rfl, Nat.le_of_ble_eq_true rfl⟩ (Nat.le_of_ble_eq_true rfl) (Nat.le_of_ble_eq_true rfl) (c_P_put hc hn _ _ _) ?_
  refine wp_vret d_R_grow_36 rfl ?_
  exact ⟨rfl, rfl⟩
theorem c_R_lengthOf {r a b c n : Nat} (h : TrK r a b c n) (x : Int32) (σ : Hp) : Ct m_R_lengthOf [.ref r, .int x] σ (Rt (.int (rdA σ c n x)) σ) := by
  obtain ⟨hr, ha, hb, hc, hn⟩ := h
  show WP m_R_lengthOf 0 [.ref r, .int x] [] σ _
  refine wp_aload_n d_R_lengthOf_0 rfl ?_
  refine wp_getA d_R_lengthOf_1 fl_R_24 hr rfl rfl ?_
  refine wp_iload_n d_R_lengthOf_4 rfl ?_
  refine wp_callSN2e d_R_lengthOf_5 csn_R_31 ⟨Nat.le_of_ble_eq_true rfl, Nat.le_of_ble_eq_true rfl⟩ (Nat.le_of_ble_eq_true rfl) (Nat.le_of_ble_eq_true rfl) (c_P_at hc hn _ _) ?_
  refine wp_iret d_R_lengthOf_8 rfl ?_
  exact ⟨rfl, rfl⟩
def laF (σ : Hp) (a b c n : Nat) (x i : Int32) : Int32 := if i < 0 ∨ rdA σ c n x - 1 - i < 0 then -1 else rdA σ b n (it (fun _ p => rdA σ a n p) (rdA σ c n x - 1 - i).toNatClampNeg x)
theorem c_R_letterAt {r a b c n : Nat} (h : TrK r a b c n) (x i : Int32) (σ : Hp) : Ct m_R_letterAt [.ref r, .int x, .int i] σ (Rt (.int (laF σ a b c n x i)) σ) := by
  have h0 := h
  obtain ⟨hr, ha, hb, hc, hn⟩ := h
  show WP m_R_letterAt 0 [.ref r, .int x, .int i, .null, .null, .null] [] σ _
  refine wp_aload_n d_R_letterAt_0 rfl ?_
  refine wp_iload_n d_R_letterAt_1 rfl ?_
  refine wp_callV1e d_R_letterAt_2 cv_R_35 hr rfl rfl ⟨Nat.le_of_ble_eq_true rfl, Nat.le_of_ble_eq_true rfl⟩ (Nat.le_of_ble_eq_true rfl) (Nat.le_of_ble_eq_true rfl) (c_R_lengthOf h0 _ _) ?_
  refine wp_iconst (v := 1) d_R_letterAt_5 (by decide) ?_
  refine wp_isub d_R_letterAt_6 ?_
  refine wp_iload_n d_R_letterAt_7 rfl ?_
  refine wp_isub d_R_letterAt_8 ?_
  refine wp_istore3 d_R_letterAt_9 (by decide) rfl ?_
  refine wp_iload_n d_R_letterAt_10 rfl ?_
  refine wp_if_lt (tgt := 18) d_R_letterAt_11 (by decide) (fun h1 => ?_) (fun h1 => ?_)
  · rw [laF, if_pos (Or.inl h1)]
    refine wp_iconst (v := -1) d_R_letterAt_18 (by decide) ?_
    refine wp_iret d_R_letterAt_19 rfl ?_
    exact ⟨rfl, rfl⟩
  refine wp_iload_n d_R_letterAt_14 rfl ?_
  refine wp_if_ge (tgt := 20) d_R_letterAt_15 (by decide) (fun h2 => ?_) (fun h2 => ?_)
  · obtain ⟨B, hB, eB⟩ := nI_of (k2_nlt h2)
    rw [laF, if_neg (fun q => q.elim h1 (k2_nlt h2))]
    rw [eB, nI_clamp hB]
    refine wp_iload_n d_R_letterAt_20 rfl ?_
    refine wp_istore4 d_R_letterAt_21 (by decide) rfl ?_
    refine wp_iconst (v := 0) d_R_letterAt_23 (by decide) ?_
    refine wp_istore5 d_R_letterAt_24 (by decide) rfl ?_
    suffices H : ∀ k, k ≤ B → WP m_R_letterAt 26 [.ref r, .int x, .int i, .int (nI B), .int (it (fun _ p => rdA σ a n p) k x), .int (nI k)] [] σ (Rt (.int (rdA σ b n (it (fun _ p => rdA σ a n p) B x))) σ) from H 0 (Nat.zero_le _)
    refine lp_nat (fun k hk ih => ?_)
    refine wp_iload d_R_letterAt_26 rfl ?_
    refine wp_iload_n d_R_letterAt_28 rfl ?_
    refine wp_icmp_ge (tgt := 49) d_R_letterAt_29 (by decide) (fun h3 => ?_) (fun h3 => ?_)
    · obtain rfl := Nat.le_antisymm hk (nI_ge2 h3 (by omega) hB)
      refine wp_aload_n d_R_letterAt_49 rfl ?_
      refine wp_getA d_R_letterAt_50 fl_R_21 hr rfl rfl ?_
      refine wp_iload d_R_letterAt_53 rfl ?_
      refine wp_callSN2e d_R_letterAt_55 csn_R_31 ⟨Nat.le_of_ble_eq_true rfl, Nat.le_of_ble_eq_true rfl⟩ (Nat.le_of_ble_eq_true rfl) (Nat.le_of_ble_eq_true rfl) (c_P_at hb hn _ _) ?_
      refine wp_iret d_R_letterAt_58 rfl ?_
      exact ⟨rfl, rfl⟩
    · have hk2 := nI_nge h3 (by omega) hB
      refine wp_aload_n d_R_letterAt_32 rfl ?_
      refine wp_getA d_R_letterAt_33 fl_R_15 hr rfl rfl ?_
      refine wp_iload d_R_letterAt_36 rfl ?_
      refine wp_callSN2e d_R_letterAt_38 csn_R_31 ⟨Nat.le_of_ble_eq_true rfl, Nat.le_of_ble_eq_true rfl⟩ (Nat.le_of_ble_eq_true rfl) (Nat.le_of_ble_eq_true rfl) (c_P_at ha hn _ _) ?_
      refine wp_istore4 d_R_letterAt_41 (by decide) rfl ?_
      refine wp_iinc5 d_R_letterAt_43 (hn_ii1 _) (by decide) rfl ?_
      refine wp_goto (tgt := 26) d_R_letterAt_46 (by decide) ?_
      rw [nI_1]
      exact ih hk2
  · rw [laF, if_pos (Or.inr (k2_lt h2))]
    refine wp_iconst (v := -1) d_R_letterAt_18 (by decide) ?_
    refine wp_iret d_R_letterAt_19 rfl ?_
    exact ⟨rfl, rfl⟩
theorem c_F_clear {r a b : Nat} (h : FiK r a b) (σ : Hp) : Ct m_F_clear [.ref r] σ (Rv (flA σ a 0 4096)) := by
  obtain ⟨hr, ha, hb⟩ := h
  show WP m_F_clear 0 [.ref r] [] σ _
  refine wp_aload_n d_F_clear_0 rfl ?_
  refine wp_getA d_F_clear_1 fl_F_11 hr rfl rfl ?_
  refine wp_iconst (v := 0) d_F_clear_4 (by decide) ?_
  refine wp_callS2v d_F_clear_5 cs_F_18 ⟨Nat.le_of_ble_eq_true rfl, Nat.le_of_ble_eq_true rfl⟩ (Nat.le_of_ble_eq_true rfl) (Nat.le_of_ble_eq_true rfl) (c_Ja_fill ha (by decide) _ _) ?_
  refine wp_vret d_F_clear_8 rfl ?_
  exact ⟨rfl, rfl⟩
def slG (σ : Hp) (a : Nat) (key : Int32) : Nat → Int32 → Int32
  | 0, s => s
  | f + 1, s => if rdA σ a 4096 s = 0 ∨ rdA σ a 4096 s = key + 1 then s else slG σ a key f (s + 1 - (s + 1) / 4096 * 4096)
def slF (σ : Hp) (a : Nat) (key : Int32) : Int32 := slG σ a key 4096 ((key * (-1640531535)).toUInt32 >>> ((20 : Int32).toUInt32 &&& Int32.toUInt32 31)).toInt32
theorem c_F_slotOf {r a b : Nat} (h : FiK r a b) (key : Int32) (σ : Hp) : Ct m_F_slotOf [.ref r, .int key] σ (Rt (.int (slF σ a key)) σ) := by
  obtain ⟨hr, ha, hb⟩ := h
  show WP m_F_slotOf 0 [.ref r, .int key, .null, .null, .null] [] σ _
  refine wp_iload_n d_F_slotOf_0 rfl ?_
  refine wp_ldc d_F_slotOf_1 kc_F_36 ?_
  refine wp_imul d_F_slotOf_3 ?_
  refine wp_bipush (v := 20) d_F_slotOf_4 (by decide) ?_
  refine wp_iushr d_F_slotOf_6 ?_
  refine wp_istore2 d_F_slotOf_7 (by decide) rfl ?_
  refine wp_iconst (v := 0) d_F_slotOf_8 (by decide) ?_
  refine wp_istore3 d_F_slotOf_9 (by decide) rfl ?_
  suffices H : ∀ k, k ≤ 4096 → ∀ (s : Int32) (x4 : Value), slG σ a key (4096 - k) s = slF σ a key → WP m_F_slotOf 10 [.ref r, .int key, .int s, .int (nI k), x4] [] σ (Rt (.int (slF σ a key)) σ) from H 0 (Nat.zero_le _) _ _ rfl
  refine lp_nat (fun k hk ih s x4 hs => ?_)
  refine wp_iload_n d_F_slotOf_10 rfl ?_
  refine wp_sipush (v := 4096) d_F_slotOf_11 (by decide) ?_
  refine wp_icmp_ge (tgt := 56) d_F_slotOf_14 (by decide) (fun h1 => ?_) (fun h1 => ?_)
  · obtain rfl := Nat.le_antisymm hk (nI_ge2 (b := 4096) h1 (by omega) (by omega))
    refine wp_iload_n d_F_slotOf_56 rfl ?_
    refine wp_iret d_F_slotOf_57 rfl ?_
    exact ⟨by rw [← hs]; rfl, rfl⟩
  · have hk2 := nI_nge (b := 4096) h1 (by omega) (by omega)
    obtain ⟨d, hd⟩ : ∃ d, 4096 - k = d + 1 := ⟨4096 - k - 1, by omega⟩
    rw [hd, slG] at hs
    refine wp_aload_n d_F_slotOf_17 rfl ?_
    refine wp_getA d_F_slotOf_18 fl_F_11 hr rfl rfl ?_
    refine wp_iload_n d_F_slotOf_21 rfl ?_
    refine wp_callSN2e d_F_slotOf_22 csn_F_28 ⟨Nat.le_of_ble_eq_true rfl, Nat.le_of_ble_eq_true rfl⟩ (Nat.le_of_ble_eq_true rfl) (Nat.le_of_ble_eq_true rfl) (c_P_at ha (by decide) _ _) ?_
    refine wp_istore4 d_F_slotOf_25 (by decide) rfl ?_
    refine wp_iload d_F_slotOf_27 rfl ?_
    refine wp_if_eq (tgt := 40) d_F_slotOf_29 (by decide) (fun h2 => ?_) (fun h2 => ?_)
    · rw [if_pos (Or.inl h2)] at hs
      refine wp_iload_n d_F_slotOf_40 rfl ?_
      refine wp_iret d_F_slotOf_41 rfl ?_
      exact ⟨by rw [← hs], rfl⟩
    · refine wp_iload d_F_slotOf_32 rfl ?_
      refine wp_iload_n d_F_slotOf_34 rfl ?_
      refine wp_iconst (v := 1) d_F_slotOf_35 (by decide) ?_
      refine wp_iadd d_F_slotOf_36 ?_
      refine wp_icmp_ne (tgt := 42) d_F_slotOf_37 (by decide) (fun h3 => ?_) (fun h3 => ?_)
      · rw [if_neg (fun q => q.elim h2 h3)] at hs
        refine wp_iload_n d_F_slotOf_42 rfl ?_
        refine wp_iconst (v := 1) d_F_slotOf_43 (by decide) ?_
        refine wp_iadd d_F_slotOf_44 ?_
        refine wp_sipush (v := 4096) d_F_slotOf_45 (by decide) ?_
        refine wp_irem d_F_slotOf_48 ?_ ?_
        · decide
        refine wp_istore2 d_F_slotOf_49 (by decide) rfl ?_
        refine wp_iinc3 d_F_slotOf_50 (hn_ii1 _) (by decide) rfl ?_
        refine wp_goto (tgt := 10) d_F_slotOf_53 (by decide) ?_
        rw [nI_1]
        exact ih hk2 _ _ (by rw [show 4096 - (k + 1) = d by omega]; exact hs)
      · rw [if_pos (Or.inr h3)] at hs
        refine wp_iload_n d_F_slotOf_40 rfl ?_
        refine wp_iret d_F_slotOf_41 rfl ?_
        exact ⟨by rw [← hs], rfl⟩
def lkF (σ : Hp) (a b : Nat) (key : Int32) : Int32 := if rdA σ a 4096 (slF σ a key) = key + 1 then rdA σ b 4096 (slF σ a key) else -9
theorem c_F_look {r a b : Nat} (h : FiK r a b) (key : Int32) (σ : Hp) : Ct m_F_look [.ref r, .int key] σ (Rt (.int (lkF σ a b key)) σ) := by
  have h0 := h
  obtain ⟨hr, ha, hb⟩ := h
  show WP m_F_look 0 [.ref r, .int key, .null] [] σ _
  refine wp_aload_n d_F_look_0 rfl ?_
  refine wp_iload_n d_F_look_1 rfl ?_
  refine wp_callV1e d_F_look_2 cv_F_24 hr rfl rfl ⟨Nat.le_of_ble_eq_true rfl, Nat.le_of_ble_eq_true rfl⟩ (Nat.le_of_ble_eq_true rfl) (Nat.le_of_ble_eq_true rfl) (c_F_slotOf h0 _ _) ?_
  refine wp_istore2 d_F_look_5 (by decide) rfl ?_
  refine wp_aload_n d_F_look_6 rfl ?_
  refine wp_getA d_F_look_7 fl_F_11 hr rfl rfl ?_
  refine wp_iload_n d_F_look_10 rfl ?_
  refine wp_callSN2e d_F_look_11 csn_F_28 ⟨Nat.le_of_ble_eq_true rfl, Nat.le_of_ble_eq_true rfl⟩ (Nat.le_of_ble_eq_true rfl) (Nat.le_of_ble_eq_true rfl) (c_P_at ha (by decide) _ _) ?_
  refine wp_iload_n d_F_look_14 rfl ?_
  refine wp_iconst (v := 1) d_F_look_15 (by decide) ?_
  refine wp_iadd d_F_look_16 ?_
  refine wp_icmp_ne (tgt := 31) d_F_look_17 (by decide) (fun h1 => ?_) (fun h1 => ?_)
  · rw [lkF, if_neg h1]
    refine wp_bipush (v := -9) d_F_look_31 (by decide) ?_
    refine wp_iret d_F_look_33 rfl ?_
    exact ⟨rfl, rfl⟩
  · rw [lkF, if_pos h1]
    refine wp_aload_n d_F_look_20 rfl ?_
    refine wp_getA d_F_look_21 fl_F_15 hr rfl rfl ?_
    refine wp_iload_n d_F_look_24 rfl ?_
    refine wp_callSN2e d_F_look_25 csn_F_28 ⟨Nat.le_of_ble_eq_true rfl, Nat.le_of_ble_eq_true rfl⟩ (Nat.le_of_ble_eq_true rfl) (Nat.le_of_ble_eq_true rfl) (c_P_at hb (by decide) _ _) ?_
    refine wp_goto (tgt := 33) d_F_look_28 (by decide) ?_
    refine wp_iret d_F_look_33 rfl ?_
    exact ⟨rfl, rfl⟩
def kpW (σ : Hp) (a b : Nat) (key x : Int32) : Hp := wrA (wrA σ a 4096 (slF σ a key) (key + 1)) b 4096 (slF σ a key) x
theorem c_F_keep {r a b : Nat} (h : FiK r a b) (key x : Int32) (σ : Hp) : Ct m_F_keep [.ref r, .int key, .int x] σ (Rv (kpW σ a b key x)) := by
  have h0 := h
  obtain ⟨hr, ha, hb⟩ := h
  show WP m_F_keep 0 [.ref r, .int key, .int x, .null] [] σ _
  refine wp_aload_n d_F_keep_0 rfl ?_
  refine wp_iload_n d_F_keep_1 rfl ?_
  refine wp_callV1e d_F_keep_2 cv_F_24 hr rfl rfl ⟨Nat.le_of_ble_eq_true rfl, Nat.le_of_ble_eq_true rfl⟩ (Nat.le_of_ble_eq_true rfl) (Nat.le_of_ble_eq_true rfl) (c_F_slotOf h0 _ _) ?_
  refine wp_istore3 d_F_keep_5 (by decide) rfl ?_
  refine wp_aload_n d_F_keep_6 rfl ?_
  refine wp_getA d_F_keep_7 fl_F_11 hr rfl rfl ?_
  refine wp_iload_n d_F_keep_10 rfl ?_
  refine wp_iload_n d_F_keep_11 rfl ?_
  refine wp_iconst (v := 1) d_F_keep_12 (by decide) ?_
  refine wp_iadd d_F_keep_13 ?_
  refine wp_callSN3v d_F_keep_14 csn_F_32 ⟨Nat.le_of_ble_eq_true rfl, Nat.le_of_ble_eq_true rfl⟩ (Nat.le_of_ble_eq_true rfl) (Nat.le_of_ble_eq_true rfl) (c_P_put ha (by decide) _ _ _) ?_
  refine wp_aload_n d_F_keep_17 rfl ?_
  refine wp_getA d_F_keep_18 fl_F_15 hr rfl rfl ?_
  refine wp_iload_n d_F_keep_21 rfl ?_
  refine wp_iload_n d_F_keep_22 rfl ?_
  refine wp_callSN3v d_F_keep_23 csn_F_32 ⟨Nat.le_of_ble_eq_true rfl, Nat.le_of_ble_eq_true rfl⟩ (Nat.le_of_ble_eq_true rfl) (Nat.le_of_ble_eq_true rfl) (c_P_put hb (by decide) _ _ _) ?_
  refine wp_vret d_F_keep_26 rfl ?_
  exact ⟨rfl, rfl⟩
/-- only these cells are changed -/
def Fp (S : List Nat) (σ τ : Hp) : Prop := ∀ q, q ∉ S → τ.1 q = σ.1 q ∧ τ.2 q = σ.2 q
theorem Fp.rf {S : List Nat} {σ : Hp} : Fp S σ σ := fun _ _ => ⟨rfl, rfl⟩
theorem Fp.tr {S : List Nat} {σ τ υ : Hp} (h : Fp S σ τ) (h2 : Fp S τ υ) : Fp S σ υ := fun q hq => ⟨(h2 q hq).1.trans (h q hq).1, (h2 q hq).2.trans (h q hq).2⟩
theorem Fp.up {S S' : List Nat} {σ τ : Hp} (h : Fp S σ τ) (hs : ∀ q, q ∈ S → q ∈ S') : Fp S' σ τ := fun q hq => h q (fun z => hq (hs q z))
theorem Fp.wI {S : List Nat} {σ τ : Hp} (h : Fp S σ τ) {k j : Nat} {x : Int32} (hk : k ∈ S) : Fp S σ (wI τ k j x) := fun q hq => by
  have hqk : q ≠ k := fun z => hq (z ▸ hk)
  exact ⟨(wI_ne hqk).trans (h q hq).1, (h q hq).2⟩
theorem Fp.wL {S : List Nat} {σ τ : Hp} (h : Fp S σ τ) {k j : Nat} {x : Int64} (hk : k ∈ S) : Fp S σ (wL τ k j x) := fun q hq => by
  have hqk : q ≠ k := fun z => hq (z ▸ hk)
  exact ⟨(h q hq).1, (wL_ne hqk).trans (h q hq).2⟩
theorem Fp.wrA {S : List Nat} {σ τ : Hp} (h : Fp S σ τ) {k n : Nat} {i x : Int32} (hk : k ∈ S) : Fp S σ (wrA τ k n i x) := by
  show Fp S σ (if _ then _ else _)
  split
  · exact h.wI hk
  · exact h
theorem Fp.flA {S : List Nat} {σ τ : Hp} (h : Fp S σ τ) {k n : Nat} {x : Int32} (hk : k ∈ S) : Fp S σ (flA τ k x n) := fun q hq => by
  have hqk : q ≠ k := fun z => hq (z ▸ hk)
  refine ⟨Eq.trans ?_ (h q hq).1, (h q hq).2⟩
  show (if q = k then _ else _) = _
  rw [if_neg hqk]
/-- the first place of x in the first T of a row; -9 where it isn't -/
def PlOf (f : Nat → Int32) (x : Int32) (T : Nat) (r : Int32) : Prop := (∃ i, i < T ∧ f i = x ∧ (∀ j, j < i → f j ≠ x) ∧ r = nI i) ∨ ((∀ j, j < T → f j ≠ x) ∧ r = -9)
theorem c_O_placeOf {r a T : Nat} (h : PoK r a) (x : Int32) (σ : Hp) (hT : σ.1 r 1 = nI T) (h16 : T ≤ 16) : Ct m_O_placeOf [.ref r, .int x] σ (fun w τ => ∃ z, w = some (.int z) ∧ PlOf (σ.1 a) x T z ∧ τ = σ) := by
  obtain ⟨hr, ha⟩ := h
  show WP m_O_placeOf 0 [.ref r, .int x, .null] [] σ _
  refine wp_iconst (v := 0) d_O_placeOf_0 (by decide) ?_
  refine wp_istore2 d_O_placeOf_1 (by decide) rfl ?_
  suffices H : ∀ k, k ≤ T → (∀ j, j < k → σ.1 a j ≠ x) → WP m_O_placeOf 2 [.ref r, .int x, .int (nI k)] [] σ (fun w τ => ∃ z, w = some (.int z) ∧ PlOf (σ.1 a) x T z ∧ τ = σ) from H 0 (Nat.zero_le _) (fun j hj => absurd hj (by omega))
  refine lp_nat (fun k hk ih hp => ?_)
  refine wp_iload_n d_O_placeOf_2 rfl ?_
  refine wp_aload_n d_O_placeOf_3 rfl ?_
  refine wp_getI d_O_placeOf_4 fl_O_15 hr rfl (by decide) ?_
  refine wp_icmp_ge (tgt := 30) d_O_placeOf_7 (by decide) (fun h1 => ?_) (fun h1 => ?_)
  · rw [hT] at h1
    obtain rfl := Nat.le_antisymm hk (nI_ge2 h1 (by omega) (by omega))
    refine wp_bipush (v := -9) d_O_placeOf_30 (by decide) ?_
    refine wp_iret d_O_placeOf_32 rfl ?_
    exact ⟨_, rfl, Or.inr ⟨hp, rfl⟩, rfl⟩
  · rw [hT] at h1
    have hk2 := nI_nge h1 (by omega) (by omega)
    refine wp_aload_n d_O_placeOf_10 rfl ?_
    refine wp_getA d_O_placeOf_11 fl_O_11 hr rfl rfl ?_
    refine wp_iload_n d_O_placeOf_14 rfl ?_
    refine wp_callSN2e d_O_placeOf_15 csn_O_42 ⟨Nat.le_of_ble_eq_true rfl, Nat.le_of_ble_eq_true rfl⟩ (Nat.le_of_ble_eq_true rfl) (Nat.le_of_ble_eq_true rfl) (c_P_at ha (by decide) _ _) ?_
    rw [rdA_in (by omega) (by decide)]
    refine wp_iload_n d_O_placeOf_18 rfl ?_
    refine wp_icmp_ne (tgt := 24) d_O_placeOf_19 (by decide) (fun h2 => ?_) (fun h2 => ?_)
    · refine wp_iinc2 d_O_placeOf_24 (hn_ii1 _) (by decide) rfl ?_
      refine wp_goto (tgt := 2) d_O_placeOf_27 (by decide) ?_
      rw [nI_1]
      exact ih hk2 (lt_s hp h2)
    · refine wp_iload_n d_O_placeOf_22 rfl ?_
      refine wp_iret d_O_placeOf_23 rfl ?_
      exact ⟨_, rfl, Or.inl ⟨k, hk2, h2, hp, rfl⟩, rfl⟩
def pwF (m : Int32) (N : Nat) (j : Nat) : Int32 := it (fun _ p => ahF p m N) j m
/-- what listOf leaves: k powers in the row, where the next one stood among them -/
def LsOf (m : Int32) (N r a : Nat) (σ τ : Hp) : Prop := ∃ (k : Nat) (z : Int32), 1 ≤ k ∧ k ≤ 16 ∧ (∀ t, t < k → ∀ i, i < t → pwF m N i ≠ pwF m N t) ∧ PlOf (pwF m N) (pwF m N k) k z ∧ (k = 16 ∨ z ≠ -9) ∧ τ.1 r 1 = nI k ∧ τ.1 r 2 = mxI 0 z ∧ (∀ j, j < k → τ.1 a j = pwF m N j) ∧ Fp [r, a] σ τ
theorem PlOf.cong {f g : Nat → Int32} {x : Int32} {T : Nat} {r : Int32} (h : PlOf f x T r) (e : ∀ j, j < T → f j = g j) : PlOf g x T r := by
  rcases h with ⟨i, h1, h2, h3, h4⟩ | ⟨h1, h2⟩
  · exact Or.inl ⟨i, h1, (e i h1) ▸ h2, fun j hj => (e j (by omega)) ▸ h3 j hj, h4⟩
  · exact Or.inr ⟨fun j hj => (e j hj) ▸ h1 j hj, h2⟩
theorem c_O_listOf {r a : Nat} (h : PoK r a) (hra : r ≠ a) (m : Int32) {N : Nat} (hN : N < 2 ^ 31) (σ : Hp) : Ct m_O_listOf [.ref r, .int m, .int (nI N)] σ (fun w τ => w = none ∧ LsOf m N r a σ τ) := by
  have h0 := h
  obtain ⟨hr, ha⟩ := h
  show WP m_O_listOf 0 [.ref r, .int m, .int (nI N), .null, .null, .null] [] σ _
  refine wp_iload_n d_O_listOf_0 rfl ?_
  refine wp_istore3 d_O_listOf_1 (by decide) rfl ?_
  refine wp_bipush (v := -9) d_O_listOf_2 (by decide) ?_
  refine wp_istore4 d_O_listOf_4 (by decide) rfl ?_
  refine wp_aload_n d_O_listOf_6 rfl ?_
  refine wp_iconst (v := 0) d_O_listOf_7 (by decide) ?_
  refine wp_putI d_O_listOf_8 fp_O_15 hr rfl (by decide) rfl rfl ?_
  refine wp_iconst (v := 0) d_O_listOf_11 (by decide) ?_
  refine wp_istore5 d_O_listOf_12 (by decide) rfl ?_
  suffices H : ∀ k, k ≤ 16 → ∀ (z : Int32) (τ : Hp), (∀ t, t < k → ∀ i, i < t → pwF m N i ≠ pwF m N t) → PlOf (pwF m N) (pwF m N k) k z → τ.1 r 1 = nI k → (∀ j, j < k → τ.1 a j = pwF m N j) → Fp [r, a] σ τ → WP m_O_listOf 14 [.ref r, .int m, .int (nI N), .int (pwF m N k), .int z, .int (nI k)] [] τ (fun w τ => w = none ∧ LsOf m N r a σ τ) by
    refine H 0 (Nat.zero_le _) (-9) _ (fun t ht => absurd ht (by omega)) (Or.inr ⟨fun j hj => absurd hj (by omega), rfl⟩) ?_ (fun j hj => absurd hj (by omega)) (Fp.rf.wI (by simp))
    rw [wI_eq]; rfl
  refine lp_nat (fun k hk ih z τ h1 h2 h3 h4 h5 => ?_)
  have fin : (k = 16 ∨ z ≠ -9) → 1 ≤ k → WP m_O_listOf 70 [.ref r, .int m, .int (nI N), .int (pwF m N k), .int z, .int (nI k)] [] τ (fun w τ => w = none ∧ LsOf m N r a σ τ) := by
    intro h6 h7
    refine wp_aload_n d_O_listOf_70 rfl ?_
    refine wp_iconst (v := 0) d_O_listOf_71 (by decide) ?_
    refine wp_iload d_O_listOf_72 rfl ?_
    refine wp_callS2e d_O_listOf_74 cs_O_33 ⟨Nat.le_of_ble_eq_true rfl, Nat.le_of_ble_eq_true rfl⟩ (Nat.le_of_ble_eq_true rfl) (Nat.le_of_ble_eq_true rfl) (c_Jm_max _ _ _) ?_
    refine wp_putI d_O_listOf_77 fp_O_39 hr rfl (by decide) rfl rfl ?_
    refine wp_vret d_O_listOf_80 rfl ?_
    refine ⟨rfl, k, z, h7, hk, h1, h2, h6, ?_, ?_, ?_, h5.wI (by simp)⟩
    · rw [wI_eq]; exact h3
    · rw [wI_eq]; rfl
    · intro j hj
      rw [wI_ne (Ne.symm hra)]
      exact h4 j hj
  refine wp_iload d_O_listOf_14 rfl ?_
  refine wp_bipush (v := 16) d_O_listOf_16 (by decide) ?_
  refine wp_icmp_ge (tgt := 70) d_O_listOf_18 (by decide) (fun h6 => ?_) (fun h6 => ?_)
  · obtain rfl := Nat.le_antisymm hk (nI_ge2 (b := 16) h6 (by omega) (by omega))
    exact fin (Or.inl rfl) (by omega)
  · have hk2 := nI_nge (b := 16) h6 (by omega) (by omega)
    refine wp_iload d_O_listOf_21 rfl ?_
    refine wp_bipush (v := -9) d_O_listOf_23 (by decide) ?_
    refine wp_icmp_ne (tgt := 70) d_O_listOf_25 (by decide) (fun h7 => ?_) (fun h7 => ?_)
    · refine fin (Or.inr h7) ?_
      rcases h2 with ⟨i, hi, -⟩ | ⟨-, hz⟩
      · omega
      · exact absurd hz h7
    · have h8 : ∀ i, i < k → pwF m N i ≠ pwF m N k := by
        rcases h2 with ⟨i, hi, -, -, hz⟩ | ⟨hz, -⟩
        · exfalso
          rw [h7] at hz
          have := nI_pos (show i < 2 ^ 31 by omega)
          rw [← hz] at this
          exact this (by decide)
        · exact hz
      refine wp_aload_n d_O_listOf_28 rfl ?_
      refine wp_getA d_O_listOf_29 fl_O_11 hr rfl rfl ?_
      refine wp_aload_n d_O_listOf_32 rfl ?_
      refine wp_getI d_O_listOf_33 fl_O_15 hr rfl (by decide) ?_
      refine wp_iload_n d_O_listOf_36 rfl ?_
      rw [h3]
      refine wp_callSN3v d_O_listOf_37 csn_O_19 ⟨Nat.le_of_ble_eq_true rfl, Nat.le_of_ble_eq_true rfl⟩ (Nat.le_of_ble_eq_true rfl) (Nat.le_of_ble_eq_true rfl) (c_P_put ha (by decide) _ _ _) ?_
      rw [wrA_in hk2 (by decide)]
      refine wp_aload_n d_O_listOf_40 rfl ?_
      refine wp_dup d_O_listOf_41 rfl ?_
      refine wp_getI d_O_listOf_42 fl_O_15 hr rfl (by decide) ?_
      refine wp_iconst (v := 1) d_O_listOf_45 (by decide) ?_
      refine wp_iadd d_O_listOf_46 ?_
      refine wp_putI d_O_listOf_47 fp_O_15 hr rfl (by decide) rfl rfl ?_
      refine wp_iload_n d_O_listOf_50 rfl ?_
      refine wp_iload_n d_O_listOf_51 rfl ?_
      refine wp_iload_n d_O_listOf_52 rfl ?_
      have e1 : (wI τ a k (pwF m N k)).1 r 1 = nI k := by rw [wI_ne hra]; exact h3
      rw [e1, nI_1]
      refine wp_callS3e d_O_listOf_53 cs_O_23 ⟨Nat.le_of_ble_eq_true rfl, Nat.le_of_ble_eq_true rfl⟩ (Nat.le_of_ble_eq_true rfl) (Nat.le_of_ble_eq_true rfl) (c_G_ahead _ _ hN _) ?_
      refine wp_istore3 d_O_listOf_56 (by decide) rfl ?_
      refine wp_aload_n d_O_listOf_57 rfl ?_
      refine wp_iload_n d_O_listOf_58 rfl ?_
      obtain ⟨υ, hυ⟩ : ∃ υ, υ = wI (wI τ a k (pwF m N k)) r 1 (nI (k + 1)) := ⟨_, rfl⟩
      rw [← hυ]
      have u1 : υ.1 r 1 = nI (k + 1) := by rw [hυ, wI_eq]; rfl
      have u2 : ∀ j, j < k + 1 → υ.1 a j = pwF m N j := by
        intro j hj
        rw [hυ, wI_ne (Ne.symm hra), wI_eq]
        unfold upd
        split
        · rename_i q; rw [q]
        · rename_i q; exact h4 j (by omega)
      have u3 : Fp [r, a] σ υ := by rw [hυ]; exact (h5.wI (by simp)).wI (by simp)
      show WP m_O_listOf 59 [_, _, _, .int (pwF m N (k + 1)), _, _] [.int (pwF m N (k + 1)), _] υ _
      refine wp_callV1 d_O_listOf_59 cv_O_29 hr rfl rfl ⟨Nat.le_of_ble_eq_true rfl, Nat.le_of_ble_eq_true rfl⟩ (Nat.le_of_ble_eq_true rfl) (Nat.le_of_ble_eq_true rfl) (c_O_placeOf h0 _ _ u1 (by omega)) (fun v τ2 hq => ?_)
      obtain ⟨z2, rfl, hz2, rfl⟩ := hq
      show WP m_O_listOf 62 _ [.int z2] _ _
      refine wp_istore4 d_O_listOf_62 (by decide) rfl ?_
      refine wp_iinc5 d_O_listOf_64 (hn_ii1 _) (by decide) rfl ?_
      refine wp_goto (tgt := 14) d_O_listOf_67 (by decide) ?_
      rw [nI_1]
      exact ih hk2 z2 _ (lt_s h1 h8) (hz2.cong u2) u1 u2 u3
theorem c_O_tail {r a : Nat} (h : PoK r a) (σ : Hp) : Ct m_O_tail [.ref r] σ (Rt (.int (σ.1 r 2)) σ) := by
  obtain ⟨hr, ha⟩ := h
  show WP m_O_tail 0 [.ref r] [] σ _
  refine wp_aload_n d_O_tail_0 rfl ?_
  refine wp_getI d_O_tail_1 fl_O_39 hr rfl (by decide) ?_
  refine wp_iret d_O_tail_4 rfl ?_
  exact ⟨rfl, rfl⟩
theorem c_O_ring {r a : Nat} (h : PoK r a) (σ : Hp) : Ct m_O_ring [.ref r] σ (Rt (.int (σ.1 r 1 - σ.1 r 2)) σ) := by
  obtain ⟨hr, ha⟩ := h
  show WP m_O_ring 0 [.ref r] [] σ _
  refine wp_aload_n d_O_ring_0 rfl ?_
  refine wp_getI d_O_ring_1 fl_O_15 hr rfl (by decide) ?_
  refine wp_aload_n d_O_ring_4 rfl ?_
  refine wp_getI d_O_ring_5 fl_O_39 hr rfl (by decide) ?_
  refine wp_isub d_O_ring_8 ?_
  refine wp_iret d_O_ring_9 rfl ?_
  exact ⟨rfl, rfl⟩
theorem c_O_stillOne {r a K T N : Nat} (h : PoK r a) (hN : N < 2 ^ 31) (σ : Hp) (hK : σ.1 r 1 = nI K) (h16 : K ≤ 16) (hT : σ.1 r 2 = nI T) (hTK : T ≤ K) : Ct m_O_stillOne [.ref r, .int (nI N)] σ (fun w τ => ∃ z, w = some (.int z) ∧ τ = σ ∧ ((∃ i, T ≤ i ∧ i < K ∧ z = σ.1 a i ∧ ahF z z N = z ∧ ∀ j, T ≤ j → j < i → ¬ ahF (σ.1 a j) (σ.1 a j) N = σ.1 a j) ∨ (z = σ.1 a 0 ∧ ∀ j, T ≤ j → j < K → ¬ ahF (σ.1 a j) (σ.1 a j) N = σ.1 a j))) := by
  obtain ⟨hr, ha⟩ := h
  show WP m_O_stillOne 0 [.ref r, .int (nI N), .null] [] σ _
  refine wp_aload_n d_O_stillOne_0 rfl ?_
  refine wp_getI d_O_stillOne_1 fl_O_39 hr rfl (by decide) ?_
  refine wp_istore2 d_O_stillOne_4 (by decide) rfl ?_
  rw [hT]
  suffices H : ∀ k, k ≤ K → T ≤ k → (∀ j, T ≤ j → j < k → ¬ ahF (σ.1 a j) (σ.1 a j) N = σ.1 a j) → WP m_O_stillOne 5 [.ref r, .int (nI N), .int (nI k)] [] σ (fun w τ => ∃ z, w = some (.int z) ∧ τ = σ ∧ ((∃ i, T ≤ i ∧ i < K ∧ z = σ.1 a i ∧ ahF z z N = z ∧ ∀ j, T ≤ j → j < i → ¬ ahF (σ.1 a j) (σ.1 a j) N = σ.1 a j) ∨ (z = σ.1 a 0 ∧ ∀ j, T ≤ j → j < K → ¬ ahF (σ.1 a j) (σ.1 a j) N = σ.1 a j))) from H T hTK (Nat.le_refl _) (fun j h1 h2 => absurd h1 (by omega))
  refine lp_nat (fun k hk ih hTk hp => ?_)
  refine wp_iload_n d_O_stillOne_5 rfl ?_
  refine wp_aload_n d_O_stillOne_6 rfl ?_
  refine wp_getI d_O_stillOne_7 fl_O_15 hr rfl (by decide) ?_
  refine wp_icmp_ge (tgt := 43) d_O_stillOne_10 (by decide) (fun h1 => ?_) (fun h1 => ?_)
  · rw [hK] at h1
    obtain rfl := Nat.le_antisymm hk (nI_ge2 h1 (by omega) (by omega))
    refine wp_aload_n d_O_stillOne_43 rfl ?_
    refine wp_getA d_O_stillOne_44 fl_O_11 hr rfl rfl ?_
    refine wp_iconst (v := 0) d_O_stillOne_47 (by decide) ?_
    refine wp_callSN2e d_O_stillOne_48 csn_O_42 ⟨Nat.le_of_ble_eq_true rfl, Nat.le_of_ble_eq_true rfl⟩ (Nat.le_of_ble_eq_true rfl) (Nat.le_of_ble_eq_true rfl) (c_P_at ha (by decide) _ _) ?_
    rw [show (0 : Int32) = nI 0 from rfl, rdA_in (by omega) (by decide)]
    refine wp_iret d_O_stillOne_51 rfl ?_
    exact ⟨_, rfl, rfl, Or.inr ⟨rfl, hp⟩⟩
  · rw [hK] at h1
    have hk2 := nI_nge h1 (by omega) (by omega)
    refine wp_aload_n d_O_stillOne_13 rfl ?_
    refine wp_getA d_O_stillOne_14 fl_O_11 hr rfl rfl ?_
    refine wp_iload_n d_O_stillOne_17 rfl ?_
    refine wp_callSN2e d_O_stillOne_18 csn_O_42 ⟨Nat.le_of_ble_eq_true rfl, Nat.le_of_ble_eq_true rfl⟩ (Nat.le_of_ble_eq_true rfl) (Nat.le_of_ble_eq_true rfl) (c_P_at ha (by decide) _ _) ?_
    rw [rdA_in (by omega) (by decide)]
    refine wp_iload_n d_O_stillOne_21 rfl ?_
    refine wp_callS2e d_O_stillOne_22 cs_O_46 ⟨Nat.le_of_ble_eq_true rfl, Nat.le_of_ble_eq_true rfl⟩ (Nat.le_of_ble_eq_true rfl) (Nat.le_of_ble_eq_true rfl) (c_G_isStill _ hN _) ?_
    refine wp_if_eq (tgt := 37) d_O_stillOne_25 (by decide) (fun h2 => ?_) (fun h2 => ?_)
    · rw [bz_0] at h2
      refine wp_iinc2 d_O_stillOne_37 (hn_ii1 _) (by decide) rfl ?_
      refine wp_goto (tgt := 5) d_O_stillOne_40 (by decide) ?_
      rw [nI_1]
      refine ih hk2 (by omega) (fun j h3 h4 => ?_)
      by_cases hj : j = k
      · rw [hj]; exact h2
      · exact hp j h3 (by omega)
    · have h3 := Decidable.of_not_not (fun q => h2 (bz_0.mpr q))
      refine wp_aload_n d_O_stillOne_28 rfl ?_
      refine wp_getA d_O_stillOne_29 fl_O_11 hr rfl rfl ?_
      refine wp_iload_n d_O_stillOne_32 rfl ?_
      refine wp_callSN2e d_O_stillOne_33 csn_O_42 ⟨Nat.le_of_ble_eq_true rfl, Nat.le_of_ble_eq_true rfl⟩ (Nat.le_of_ble_eq_true rfl) (Nat.le_of_ble_eq_true rfl) (c_P_at ha (by decide) _ _) ?_
      rw [rdA_in (by omega) (by decide)]
      refine wp_iret d_O_stillOne_36 rfl ?_
      exact ⟨_, rfl, rfl, Or.inl ⟨k, hTk, hk2, rfl, h3, hp⟩⟩
