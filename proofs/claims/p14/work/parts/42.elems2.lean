/-! contracts: elements, element, word, find, done, solve, as the reference answers -/
/-- behind loads, in any method: too many, or the list -/
theorem M_after {y : Mth} {pc : Nat} {ls st : List Value} {N L : Nat} {lm : Nat → Nat} {σ τ : Hp} {w : Option Value} {Z : Option Value → Hp → Prop} (hF : FM (Th σ) τ) (hv : (w = some (.int 0) ∧ LDf τ N L lm) ∨ (w = some (.int 1) ∧ ∃ M, Tb τ N L lm M))
    (h0 : LDf τ N L lm → WP y pc ls (.int 0 :: st) τ Z) (h1 : ∀ M, Tb τ N L lm M → WP y pc ls (.int 1 :: st) τ Z) : WP y pc ls ((w.toList) ++ st) τ Z := by
  rcases hv with ⟨rfl, h⟩ | ⟨rfl, M, h⟩
  · exact h0 h
  · exact h1 M h
def elS (N L : Nat) (lm : Nat → Nat) (j e v : Nat) : Nat := if j = 3 then (if v < rgN N (itm (EQ N L lm) e) then rgN N (itm (EQ N L lm) e) else v) else v + (if j = 0 ∨ (j = 1 ∧ stN N (itm (EQ N L lm) e) = true) ∨ (j = 2 ∧ ceN N L lm (EQ N L lm) e = true) then 1 else 0)
def elN (N L : Nat) (lm : Nat → Nat) (j K : Nat) : Nat := it (elS N L lm j) K 0
theorem rgN_le (N m : Nat) : rgN N m ≤ 61 := by
  have := sr_le (fun r => pwN N m (12 + (r + 1)) = pwN N m 12) (n60 N) 0
  have e := n60_eq N
  unfold rgN
  omega
theorem elN_le {N L : Nat} {lm : Nat → Nat} {j : Nat} : ∀ K, elN N L lm j K ≤ K + 61
  | 0 => Nat.zero_le _
  | K + 1 => by
    have ih := elN_le (N := N) (L := L) (lm := lm) (j := j) K
    have r := rgN_le N (itm (EQ N L lm) K)
    show elS N L lm j K (elN N L lm j K) ≤ _
    unfold elS
    split
    · split <;> omega
    · split <;> omega
theorem c_M_elements_no (w : Int32) (σ : Hp) (h : ¬ (0 ≤ w ∧ w ≤ nI 3)) : Ct m_M_elements [.ref 56, .int w] σ (Rt (.int (-1)) (Th σ)) := by
  show WP m_M_elements 0 [.ref 56, .int w, .null, .null, .null] [] σ _
  refine wp_aload_n d_M_elements_0 rfl ?_
  refine wp_iconst (v := 0) d_M_elements_1 (by decide) ?_
  refine wp_putI d_M_elements_2 fp_M_89 rfl rfl (by decide) rfl rfl ?_
  show WP m_M_elements 5 _ _ (Th σ) _
  refine wp_iload_n d_M_elements_5 rfl ?_
  refine wp_iconst (v := 0) d_M_elements_6 (by decide) ?_
  refine wp_iconst (v := 3) d_M_elements_7 (by decide) ?_
  refine wp_callS3e d_M_elements_8 cs_M_100 ⟨Nat.le_of_ble_eq_true rfl, Nat.le_of_ble_eq_true rfl⟩ (Nat.le_of_ble_eq_true rfl) (Nat.le_of_ble_eq_true rfl) (c_M_in _ _ _ _) ?_
  refine wp_if_ne (tgt := 16) d_M_elements_11 (by decide) (fun hc => ?_) (fun hc => ?_)
  · exact absurd (bz_n0 hc) h
  · refine wp_iconst (v := -1) d_M_elements_14 (by decide) ?_
    refine wp_iret d_M_elements_15 rfl ?_
    exact ⟨rfl, rfl⟩
theorem c_M_elements {j N L : Nat} {lm : Nat → Nat} (hj : j ≤ 3) (σ : Hp) (hB : MB σ N) (hL : LT σ N L lm) (hD : LD σ N L lm) : Ct m_M_elements [.ref 56, .int (nI j)] σ (Lp N L lm σ (fun M z => z = nI (elN N L lm j M))) := by
  have hB := hB.th
  have hL := hL.th
  have hD := hD.th
  have h6 := hB.2.2
  have hp6 := pow6 h6
  show WP m_M_elements 0 [.ref 56, .int (nI j), .null, .null, .null] [] σ _
  refine wp_aload_n d_M_elements_0 rfl ?_
  refine wp_iconst (v := 0) d_M_elements_1 (by decide) ?_
  refine wp_putI d_M_elements_2 fp_M_89 rfl rfl (by decide) rfl rfl ?_
  show WP m_M_elements 5 _ _ (Th σ) _
  refine wp_iload_n d_M_elements_5 rfl ?_
  refine wp_iconst (v := 0) d_M_elements_6 (by decide) ?_
  refine wp_iconst (v := 3) d_M_elements_7 (by decide) ?_
  refine wp_callS3e d_M_elements_8 cs_M_100 ⟨Nat.le_of_ble_eq_true rfl, Nat.le_of_ble_eq_true rfl⟩ (Nat.le_of_ble_eq_true rfl) (Nat.le_of_ble_eq_true rfl) (c_M_in _ _ _ _) ?_
  refine wp_if_ne (tgt := 16) d_M_elements_11 (by decide) (fun hc => ?_) (fun hc => ?_)
  · refine wp_aload_n d_M_elements_16 rfl ?_
    refine wp_callV0 d_M_elements_17 cv_M_141 rfl rfl rfl ⟨Nat.le_of_ble_eq_true rfl, Nat.le_of_ble_eq_true rfl⟩ (Nat.le_of_ble_eq_true rfl) (Nat.le_of_ble_eq_true rfl) (c_M_loads _ hB hL hD) (fun v τ hv => ?_)
    obtain ⟨hF, hv⟩ := hv
    show WP m_M_elements 20 _ _ τ _
    rcases hv with ⟨rfl, hv⟩ | ⟨rfl, M, hv⟩
    · show WP m_M_elements 20 _ [.int 0] τ _
      refine wp_if_ne (tgt := 26) d_M_elements_20 (by decide) (fun hc2 => ?_) (fun hc2 => ?_)
      · exact absurd rfl hc2
      · refine wp_bipush (v := -5) d_M_elements_23 (by decide) ?_
        refine wp_iret d_M_elements_25 rfl ?_
        exact ⟨hF, Or.inl ⟨rfl, hv⟩⟩
    · show WP m_M_elements 20 _ [.int 1] τ _
      have hB1 := hF.MB hB
      have hL1 := hF.LT hL
      obtain ⟨hq, hT, -⟩ := id hv
      have h15 := hq.2.2.2.1
      have hlen := hq.2.2.1
      refine wp_if_ne (tgt := 26) d_M_elements_20 (by decide) (fun hc2 => ?_) (fun hc2 => ?_)
      · refine wp_iconst (v := 0) d_M_elements_26 (by decide) ?_
        refine wp_istore2 d_M_elements_27 (by decide) rfl ?_
        refine wp_iconst (v := 0) d_M_elements_28 (by decide) ?_
        refine wp_istore3 d_M_elements_29 (by decide) rfl ?_
        suffices H : ∀ e, e ≤ M → ∀ x4 : Value, WP m_M_elements 30 [.ref 56, .int (nI j), .int (nI (elN N L lm j e)), .int (nI e), x4] [] τ (Lp N L lm σ (fun M z => z = nI (elN N L lm j M))) from H 0 (Nat.zero_le _) _
        refine lp_nat (fun e he ih x4 => ?_)
        refine wp_iload_n d_M_elements_30 rfl ?_
        refine wp_aload_n d_M_elements_31 rfl ?_
        refine wp_getI d_M_elements_32 fl_M_117 rfl rfl (by decide) ?_
        refine wp_icmp_ge (tgt := 116) d_M_elements_35 (by decide) (fun hc3 => ?_) (fun hc3 => ?_)
        · rw [hq.2.1] at hc3
          obtain rfl := Nat.le_antisymm he (nI_ge2 hc3 (by omega) (by omega))
          refine wp_iload_n d_M_elements_116 rfl ?_
          refine wp_iret d_M_elements_117 rfl ?_
          exact ⟨hF, Or.inr ⟨_, e, rfl, hv, rfl⟩⟩
        · rw [hq.2.1] at hc3
          have he2 := nI_nge hc3 (by omega) (by omega)
          have hle := elN_le (N := N) (L := L) (lm := lm) (j := j) e
          have hlt := EQ_lt (L := L) (lm := lm) hB.2.1 e (by omega)
          have nx : ∀ (z : Nat) (x4 : Value), z = elN N L lm j (e + 1) → WP m_M_elements 110 [.ref 56, .int (nI j), .int (nI z), .int (nI e), x4] [] τ (Lp N L lm σ (fun M z => z = nI (elN N L lm j M))) := by
            intro z x4 hz
            refine wp_iinc3 d_M_elements_110 (hn_ii1 _) (by decide) rfl ?_
            refine wp_goto (tgt := 30) d_M_elements_113 (by decide) ?_
            rw [nI_1, hz]
            exact ih he2 _
          have es : elN N L lm j (e + 1) = elS N L lm j e (elN N L lm j e) := rfl
          refine wp_iload_n d_M_elements_38 rfl ?_
          refine wp_iconst (v := 3) d_M_elements_39 (by decide) ?_
          refine wp_icmp_ne (tgt := 72) d_M_elements_40 (by decide) (fun hc5 => ?_) (fun hc5 => ?_)
          · rw [show (3 : Int32) = nI 3 from rfl, nI_eq (by omega) (by omega)] at hc5
            have e2 : elN N L lm j (e + 1) = elN N L lm j e + (if j = 0 ∨ (j = 1 ∧ stN N (itm (EQ N L lm) e) = true) ∨ (j = 2 ∧ ceN N L lm (EQ N L lm) e = true) then 1 else 0) := by rw [es, elS, if_neg hc5]
            have yes : elN N L lm j (e + 1) = elN N L lm j e + 1 → WP m_M_elements 103 [.ref 56, .int (nI j), .int (nI (elN N L lm j e)), .int (nI e), x4] [.int (nI (elN N L lm j e))] τ (Lp N L lm σ (fun M z => z = nI (elN N L lm j M))) := by
              intro q
              refine wp_iconst (v := 1) d_M_elements_103 (by decide) ?_
              refine wp_goto (tgt := 108) d_M_elements_104 (by decide) ?_
              refine wp_iadd d_M_elements_108 ?_
              rw [nI_1]
              refine wp_istore2 d_M_elements_109 (by decide) rfl ?_
              exact nx _ _ q.symm
            have no : elN N L lm j (e + 1) = elN N L lm j e + 0 → WP m_M_elements 107 [.ref 56, .int (nI j), .int (nI (elN N L lm j e)), .int (nI e), x4] [.int (nI (elN N L lm j e))] τ (Lp N L lm σ (fun M z => z = nI (elN N L lm j M))) := by
              intro q
              refine wp_iconst (v := 0) d_M_elements_107 (by decide) ?_
              rw [show (0 : Int32) = nI 0 from rfl]
              refine wp_iadd d_M_elements_108 ?_
              rw [nI_add]
              refine wp_istore2 d_M_elements_109 (by decide) rfl ?_
              exact nx _ _ q.symm
            have cen : ¬ j = 0 → ¬ (j = 1 ∧ stN N (itm (EQ N L lm) e) = true) → WP m_M_elements 90 [.ref 56, .int (nI j), .int (nI (elN N L lm j e)), .int (nI e), x4] [.int (nI (elN N L lm j e))] τ (Lp N L lm σ (fun M z => z = nI (elN N L lm j M))) := by
              intro q0 q1
              refine wp_iload_n d_M_elements_90 rfl ?_
              refine wp_iconst (v := 2) d_M_elements_91 (by decide) ?_
              refine wp_icmp_ne (tgt := 107) d_M_elements_92 (by decide) (fun hc6 => ?_) (fun hc6 => ?_)
              · rw [show (2 : Int32) = nI 2 from rfl, nI_eq (by omega) (by omega)] at hc6
                exact no (by rw [e2, if_neg (fun q => q.elim q0 (fun q => q.elim q1 (fun q => hc6 q.1)))])
              · rw [show (2 : Int32) = nI 2 from rfl, nI_eq (by omega) (by omega)] at hc6
                refine wp_aload_n d_M_elements_95 rfl ?_
                refine wp_iload_n d_M_elements_96 rfl ?_
                refine wp_callV1e d_M_elements_97 cv_M_152 rfl rfl rfl ⟨Nat.le_of_ble_eq_true rfl, Nat.le_of_ble_eq_true rfl⟩ (Nat.le_of_ble_eq_true rfl) (Nat.le_of_ble_eq_true rfl) (c_M_isCentre _ hL1 hq hT he2) ?_
                refine wp_if_eq (tgt := 107) d_M_elements_100 (by decide) (fun hc7 => ?_) (fun hc7 => ?_)
                · rw [bz_0] at hc7
                  exact no (by rw [e2, if_neg (fun q => q.elim q0 (fun q => q.elim q1 (fun q => hc7 q.2)))])
                · have hc7 := bz_n0 hc7
                  exact yes (by rw [e2, if_pos (Or.inr (Or.inr ⟨hc6, hc7⟩))])
            refine wp_iload_n d_M_elements_72 rfl ?_
            refine wp_iload_n d_M_elements_73 rfl ?_
            refine wp_if_eq (tgt := 103) d_M_elements_74 (by decide) (fun hc6 => ?_) (fun hc6 => ?_)
            · rw [show (0 : Int32) = nI 0 from rfl, nI_eq (by omega) (by omega)] at hc6
              exact yes (by rw [e2, if_pos (Or.inl hc6)])
            · rw [show (0 : Int32) = nI 0 from rfl, nI_eq (by omega) (by omega)] at hc6
              refine wp_iload_n d_M_elements_77 rfl ?_
              refine wp_iconst (v := 1) d_M_elements_78 (by decide) ?_
              refine wp_icmp_ne (tgt := 90) d_M_elements_79 (by decide) (fun hc7 => ?_) (fun hc7 => ?_)
              · rw [show (1 : Int32) = nI 1 from rfl, nI_eq (by omega) (by omega)] at hc7
                exact cen hc6 (fun q => hc7 q.1)
              · rw [show (1 : Int32) = nI 1 from rfl, nI_eq (by omega) (by omega)] at hc7
                refine wp_aload_n d_M_elements_82 rfl ?_
                refine wp_iload_n d_M_elements_83 rfl ?_
                refine wp_callV1e d_M_elements_84 cv_M_148 rfl rfl rfl ⟨Nat.le_of_ble_eq_true rfl, Nat.le_of_ble_eq_true rfl⟩ (Nat.le_of_ble_eq_true rfl) (Nat.le_of_ble_eq_true rfl) (c_M_isStill _ hB1 hq he2) ?_
                refine wp_if_ne (tgt := 103) d_M_elements_87 (by decide) (fun hc8 => ?_) (fun hc8 => ?_)
                · have hc8 := bz_n0 hc8
                  exact yes (by rw [e2, if_pos (Or.inr (Or.inl ⟨hc7, hc8⟩))])
                · rw [bz_0] at hc8
                  exact cen hc6 (fun q => hc8 q.2)
          · rw [show (3 : Int32) = nI 3 from rfl, nI_eq (by omega) (by omega)] at hc5
            have hr := rgN_le N (itm (EQ N L lm) e)
            have e2 : elN N L lm j (e + 1) = (if elN N L lm j e < rgN N (itm (EQ N L lm) e) then rgN N (itm (EQ N L lm) e) else elN N L lm j e) := by rw [es, elS, if_pos hc5]
            refine wp_aload_n d_M_elements_43 rfl ?_
            refine wp_aload_n d_M_elements_44 rfl ?_
            refine wp_getA d_M_elements_45 fl_M_17 rfl rfl rfl ?_
            refine wp_iload_n d_M_elements_48 rfl ?_
            refine wp_iald d_M_elements_49 rfl ?_ ?_
            · exact vp_in_nI (n := e) (by omega) (by decide)
            rw [nI_clamp (show e < 2 ^ 31 by omega), (hq.2.2.2.2.1 e (by omega)).1]
            refine wp_iconst (v := 1) d_M_elements_50 (by decide) ?_
            refine wp_callV2e d_M_elements_51 cv_M_145 rfl rfl rfl ⟨Nat.le_of_ble_eq_true rfl, Nat.le_of_ble_eq_true rfl⟩ (Nat.le_of_ble_eq_true rfl) (Nat.le_of_ble_eq_true rfl) (c_M_powers' hlt _ _ hB1) ?_
            rw [if_pos rfl]
            refine wp_istore4 d_M_elements_54 (by decide) rfl ?_
            refine wp_iload d_M_elements_56 rfl ?_
            refine wp_iload_n d_M_elements_58 rfl ?_
            refine wp_icmp_le (tgt := 67) d_M_elements_59 (by decide) (fun hc6 => ?_) (fun hc6 => ?_)
            · rw [nI_leN (by omega) (by omega)] at hc6
              refine wp_iload_n d_M_elements_67 rfl ?_
              refine wp_istore2 d_M_elements_68 (by decide) rfl ?_
              refine wp_goto (tgt := 110) d_M_elements_69 (by decide) ?_
              exact nx _ _ (by rw [e2, if_neg (by omega)])
            · rw [nI_leN (by omega) (by omega)] at hc6
              refine wp_iload d_M_elements_62 rfl ?_
              refine wp_goto (tgt := 68) d_M_elements_64 (by decide) ?_
              refine wp_istore2 d_M_elements_68 (by decide) rfl ?_
              refine wp_goto (tgt := 110) d_M_elements_69 (by decide) ?_
              exact nx _ _ (by rw [e2, if_pos (by omega)])
      · exact absurd hc2 (by decide)
  · exact absurd ⟨nI_pos' (by omega), nI_le (b := 3) hj (by decide)⟩ (bz_0.mp hc)
/-- what is told of one element -/
def eoN (N L : Nat) (lm : Nat → Nat) (j x : Nat) : Nat :=
  if j = 0 then itm (EQ N L lm) x else if j = 1 then pcN (rsN N (itm (EQ N L lm) x)) else if j = 2 then knN N (itm (EQ N L lm) x) else if j = 3 then dep (EQ N L lm) x else if j = 4 then (if stN N (itm (EQ N L lm) x) = true then 1 else 0) else if j = 5 then tlN N (itm (EQ N L lm) x) else if j = 6 then rgN N (itm (EQ N L lm) x) else psN (EQ N L lm) (pwN N (itm (EQ N L lm) x) (slN N (itm (EQ N L lm) x)))
theorem in_M {M : Nat} (h0 : 0 < M) (hM : M ≤ 1500) {e : Int32} : (0 ≤ e ∧ e ≤ nI (M - 1)) ↔ ∃ x, x < M ∧ e = nI x := by
  constructor
  · intro h
    obtain ⟨x, hx, rfl⟩ := wi_nI (by omega) h
    exact ⟨x, by omega, rfl⟩
  · rintro ⟨x, hx, rfl⟩
    exact ⟨nI_pos' (by omega), nI_le (by omega) (by omega)⟩
theorem m_e9 {M : Nat} (h0 : 0 < M) : nI M - 1 = nI (M - 1) := by
  rw [show M = M - 1 + 1 by omega, nI_pred, show M - 1 + 1 - 1 = M - 1 by omega]
theorem c_M_element_no (e w : Int32) (σ : Hp) (h : ¬ (0 ≤ w ∧ w ≤ nI 7)) : Ct m_M_element [.ref 56, .int e, .int w] σ (Rt (.int (-1)) (Th σ)) := by
  show WP m_M_element 0 [.ref 56, .int e, .int w] [] σ _
  refine wp_aload_n d_M_element_0 rfl ?_
  refine wp_iconst (v := 0) d_M_element_1 (by decide) ?_
  refine wp_putI d_M_element_2 fp_M_89 rfl rfl (by decide) rfl rfl ?_
  show WP m_M_element 5 _ _ (Th σ) _
  refine wp_iload_n d_M_element_5 rfl ?_
  refine wp_iconst (v := 0) d_M_element_6 (by decide) ?_
  refine wp_bipush (v := 7) d_M_element_7 (by decide) ?_
  refine wp_callS3e d_M_element_9 cs_M_100 ⟨Nat.le_of_ble_eq_true rfl, Nat.le_of_ble_eq_true rfl⟩ (Nat.le_of_ble_eq_true rfl) (Nat.le_of_ble_eq_true rfl) (c_M_in _ _ _ _) ?_
  refine wp_if_ne (tgt := 17) d_M_element_12 (by decide) (fun hc => ?_) (fun hc => ?_)
  · exact absurd (bz_n0 hc) h
  · refine wp_iconst (v := -1) d_M_element_15 (by decide) ?_
    refine wp_iret d_M_element_16 rfl ?_
    exact ⟨rfl, rfl⟩
/-- in range the answer, else -1 -/
def Ar (M : Nat) (e : Int32) (f : Nat → Int32) (z : Int32) : Prop := (∃ x, x < M ∧ e = nI x ∧ z = f x) ∨ ((¬ ∃ x, x < M ∧ e = nI x) ∧ z = -1)
theorem c_M_element {j N L : Nat} {lm : Nat → Nat} (e : Int32) (hj : j ≤ 7) (σ : Hp) (hB : MB σ N) (hL : LT σ N L lm) (hD : LD σ N L lm) : Ct m_M_element [.ref 56, .int e, .int (nI j)] σ (Lp N L lm σ (fun M z => Ar M e (fun x => nI (eoN N L lm j x)) z)) := by
  have hB := hB.th
  have hL := hL.th
  have hD := hD.th
  have h6 := hB.2.2
  have hp6 := pow6 h6
  show WP m_M_element 0 [.ref 56, .int e, .int (nI j)] [] σ _
  refine wp_aload_n d_M_element_0 rfl ?_
  refine wp_iconst (v := 0) d_M_element_1 (by decide) ?_
  refine wp_putI d_M_element_2 fp_M_89 rfl rfl (by decide) rfl rfl ?_
  show WP m_M_element 5 _ _ (Th σ) _
  refine wp_iload_n d_M_element_5 rfl ?_
  refine wp_iconst (v := 0) d_M_element_6 (by decide) ?_
  refine wp_bipush (v := 7) d_M_element_7 (by decide) ?_
  refine wp_callS3e d_M_element_9 cs_M_100 ⟨Nat.le_of_ble_eq_true rfl, Nat.le_of_ble_eq_true rfl⟩ (Nat.le_of_ble_eq_true rfl) (Nat.le_of_ble_eq_true rfl) (c_M_in _ _ _ _) ?_
  refine wp_if_ne (tgt := 17) d_M_element_12 (by decide) (fun hc => ?_) (fun hc => ?_)
  · refine wp_aload_n d_M_element_17 rfl ?_
    refine wp_callV0 d_M_element_18 cv_M_141 rfl rfl rfl ⟨Nat.le_of_ble_eq_true rfl, Nat.le_of_ble_eq_true rfl⟩ (Nat.le_of_ble_eq_true rfl) (Nat.le_of_ble_eq_true rfl) (c_M_loads _ hB hL hD) (fun v τ hv => ?_)
    obtain ⟨hF, hv⟩ := hv
    show WP m_M_element 21 _ _ τ _
    rcases hv with ⟨rfl, hv⟩ | ⟨rfl, M, hv⟩
    · show WP m_M_element 21 _ [.int 0] τ _
      refine wp_if_ne (tgt := 27) d_M_element_21 (by decide) (fun hc2 => ?_) (fun hc2 => ?_)
      · exact absurd rfl hc2
      · refine wp_bipush (v := -5) d_M_element_24 (by decide) ?_
        refine wp_iret d_M_element_26 rfl ?_
        exact ⟨hF, Or.inl ⟨rfl, hv⟩⟩
    · show WP m_M_element 21 _ [.int 1] τ _
      have hB1 := hF.MB hB
      obtain ⟨hq, hT, -⟩ := id hv
      have h15 := hq.2.2.2.1
      have hlen := hq.2.2.1
      have h0 := hq.pos
      refine wp_if_ne (tgt := 27) d_M_element_21 (by decide) (fun hc2 => ?_) (fun hc2 => ?_)
      · refine wp_iload_n d_M_element_27 rfl ?_
        refine wp_iconst (v := 0) d_M_element_28 (by decide) ?_
        refine wp_aload_n d_M_element_29 rfl ?_
        refine wp_getI d_M_element_30 fl_M_117 rfl rfl (by decide) ?_
        refine wp_iconst (v := 1) d_M_element_33 (by decide) ?_
        refine wp_isub d_M_element_34 ?_
        rw [hq.2.1, m_e9 h0]
        refine wp_callS3e d_M_element_35 cs_M_100 ⟨Nat.le_of_ble_eq_true rfl, Nat.le_of_ble_eq_true rfl⟩ (Nat.le_of_ble_eq_true rfl) (Nat.le_of_ble_eq_true rfl) (c_M_in _ _ _ _) ?_
        refine wp_if_ne (tgt := 43) d_M_element_38 (by decide) (fun hc3 => ?_) (fun hc3 => ?_)
        · have hc3 := bz_n0 hc3
          obtain ⟨x, hx, rfl⟩ := (in_M h0 h15).mp hc3
          have hw := (hq.2.2.2.2.1 x (by omega)).1
          have hlt := EQ_lt (L := L) (lm := lm) hB.2.1 x (by omega)
          have fin : ∀ z, z = eoN N L lm j x → Lp N L lm σ (fun M z => Ar M (nI x) (fun x => nI (eoN N L lm j x)) z) (some (.int (nI z))) τ := fun z hz => ⟨hF, Or.inr ⟨nI z, M, rfl, hv, Or.inl ⟨x, hx, rfl, by rw [hz]⟩⟩⟩
          rcases (show j = 0 ∨ j = 1 ∨ j = 2 ∨ j = 3 ∨ j = 4 ∨ j = 5 ∨ j = 6 ∨ j = 7 by omega) with rfl | rfl | rfl | rfl | rfl | rfl | rfl | rfl
          · refine wp_iload_n d_M_element_43 rfl ?_
            refine wp_tabIn (tgt := 88) (off := 44) d_M_element_44 (by decide) (by decide) (by decide) (by decide) ?_
            refine wp_aload_n d_M_element_88 rfl ?_
            refine wp_getA d_M_element_89 fl_M_17 rfl rfl rfl ?_
            refine wp_iload_n d_M_element_92 rfl ?_
            refine wp_iald d_M_element_93 rfl ?_ ?_
            · exact vp_in_nI (n := x) (by omega) (by decide)
            rw [nI_clamp (show x < 2 ^ 31 by omega), hw]
            refine wp_iret d_M_element_94 rfl ?_
            exact fin _ rfl
          · refine wp_iload_n d_M_element_43 rfl ?_
            refine wp_tabIn (tgt := 95) (off := 51) d_M_element_44 (by decide) (by decide) (by decide) (by decide) ?_
            refine wp_aload_n d_M_element_95 rfl ?_
            refine wp_aload_n d_M_element_96 rfl ?_
            refine wp_getA d_M_element_97 fl_M_17 rfl rfl rfl ?_
            refine wp_iload_n d_M_element_100 rfl ?_
            refine wp_iald d_M_element_101 rfl ?_ ?_
            · exact vp_in_nI (n := x) (by omega) (by decide)
            rw [nI_clamp (show x < 2 ^ 31 by omega), hw]
            refine wp_callV1e d_M_element_102 cv_M_158 rfl rfl rfl ⟨Nat.le_of_ble_eq_true rfl, Nat.le_of_ble_eq_true rfl⟩ (Nat.le_of_ble_eq_true rfl) (Nat.le_of_ble_eq_true rfl) (c_M_rankOf (by omega) _ hB1) ?_
            refine wp_iret d_M_element_105 rfl ?_
            exact fin _ rfl
          · refine wp_iload_n d_M_element_43 rfl ?_
            refine wp_tabIn (tgt := 106) (off := 62) d_M_element_44 (by decide) (by decide) (by decide) (by decide) ?_
            refine wp_aload_n d_M_element_106 rfl ?_
            refine wp_aload_n d_M_element_107 rfl ?_
            refine wp_getA d_M_element_108 fl_M_17 rfl rfl rfl ?_
            refine wp_iload_n d_M_element_111 rfl ?_
            refine wp_iald d_M_element_112 rfl ?_ ?_
            · exact vp_in_nI (n := x) (by omega) (by decide)
            rw [nI_clamp (show x < 2 ^ 31 by omega), hw]
            refine wp_callV1e d_M_element_113 cv_M_161 rfl rfl rfl ⟨Nat.le_of_ble_eq_true rfl, Nat.le_of_ble_eq_true rfl⟩ (Nat.le_of_ble_eq_true rfl) (Nat.le_of_ble_eq_true rfl) (c_M_kernelOf (by omega) _ hB1) ?_
            refine wp_iret d_M_element_116 rfl ?_
            exact fin _ rfl
          · refine wp_iload_n d_M_element_43 rfl ?_
            refine wp_tabIn (tgt := 117) (off := 73) d_M_element_44 (by decide) (by decide) (by decide) (by decide) ?_
            refine wp_aload_n d_M_element_117 rfl ?_
            refine wp_getA d_M_element_118 fl_M_30 rfl rfl rfl ?_
            refine wp_iload_n d_M_element_121 rfl ?_
            refine wp_iald d_M_element_122 rfl ?_ ?_
            · exact vp_in_nI (n := x) (by omega) (by decide)
            rw [nI_clamp (show x < 2 ^ 31 by omega), (hq.2.2.2.2.1 x (by omega)).2.2.1]
            refine wp_iret d_M_element_123 rfl ?_
            exact fin _ rfl
          · refine wp_iload_n d_M_element_43 rfl ?_
            refine wp_tabIn (tgt := 124) (off := 80) d_M_element_44 (by decide) (by decide) (by decide) (by decide) ?_
            refine wp_aload_n d_M_element_124 rfl ?_
            refine wp_iload_n d_M_element_125 rfl ?_
            refine wp_callV1e d_M_element_126 cv_M_148 rfl rfl rfl ⟨Nat.le_of_ble_eq_true rfl, Nat.le_of_ble_eq_true rfl⟩ (Nat.le_of_ble_eq_true rfl) (Nat.le_of_ble_eq_true rfl) (c_M_isStill _ hB1 hq hx) ?_
            refine wp_if_eq (tgt := 136) d_M_element_129 (by decide) (fun hc5 => ?_) (fun hc5 => ?_)
            · rw [bz_0] at hc5
              refine wp_iconst (v := 0) d_M_element_136 (by decide) ?_
              refine wp_iret d_M_element_137 rfl ?_
              exact fin 0 (by simp [eoN, hc5])
            · have hc5 := bz_n0 hc5
              refine wp_iconst (v := 1) d_M_element_132 (by decide) ?_
              refine wp_goto (tgt := 137) d_M_element_133 (by decide) ?_
              refine wp_iret d_M_element_137 rfl ?_
              exact fin 1 (by simp [eoN, hc5])
          · refine wp_iload_n d_M_element_43 rfl ?_
            refine wp_tabIn (tgt := 138) (off := 94) d_M_element_44 (by decide) (by decide) (by decide) (by decide) ?_
            refine wp_aload_n d_M_element_138 rfl ?_
            refine wp_aload_n d_M_element_139 rfl ?_
            refine wp_getA d_M_element_140 fl_M_17 rfl rfl rfl ?_
            refine wp_iload_n d_M_element_143 rfl ?_
            refine wp_iald d_M_element_144 rfl ?_ ?_
            · exact vp_in_nI (n := x) (by omega) (by decide)
            rw [nI_clamp (show x < 2 ^ 31 by omega), hw]
            refine wp_iconst (v := 0) d_M_element_145 (by decide) ?_
            refine wp_callV2e d_M_element_146 cv_M_145 rfl rfl rfl ⟨Nat.le_of_ble_eq_true rfl, Nat.le_of_ble_eq_true rfl⟩ (Nat.le_of_ble_eq_true rfl) (Nat.le_of_ble_eq_true rfl) (c_M_powers' hlt _ _ hB1) ?_
            rw [if_neg (by decide)]
            refine wp_iret d_M_element_149 rfl ?_
            exact fin _ rfl
          · refine wp_iload_n d_M_element_43 rfl ?_
            refine wp_tabIn (tgt := 150) (off := 106) d_M_element_44 (by decide) (by decide) (by decide) (by decide) ?_
            refine wp_aload_n d_M_element_150 rfl ?_
            refine wp_aload_n d_M_element_151 rfl ?_
            refine wp_getA d_M_element_152 fl_M_17 rfl rfl rfl ?_
            refine wp_iload_n d_M_element_155 rfl ?_
            refine wp_iald d_M_element_156 rfl ?_ ?_
            · exact vp_in_nI (n := x) (by omega) (by decide)
            rw [nI_clamp (show x < 2 ^ 31 by omega), hw]
            refine wp_iconst (v := 1) d_M_element_157 (by decide) ?_
            refine wp_callV2e d_M_element_158 cv_M_145 rfl rfl rfl ⟨Nat.le_of_ble_eq_true rfl, Nat.le_of_ble_eq_true rfl⟩ (Nat.le_of_ble_eq_true rfl) (Nat.le_of_ble_eq_true rfl) (c_M_powers' hlt _ _ hB1) ?_
            rw [if_pos rfl]
            refine wp_iret d_M_element_161 rfl ?_
            exact fin _ rfl
          · refine wp_iload_n d_M_element_43 rfl ?_
            refine wp_tabOut (tgt := 162) d_M_element_44 (by decide) (by decide) ?_
            refine wp_aload_n d_M_element_162 rfl ?_
            refine wp_iload_n d_M_element_163 rfl ?_
            refine wp_callV1e d_M_element_164 cv_M_164 rfl rfl rfl ⟨Nat.le_of_ble_eq_true rfl, Nat.le_of_ble_eq_true rfl⟩ (Nat.le_of_ble_eq_true rfl) (Nat.le_of_ble_eq_true rfl) (c_M_stillOf _ hB1 hq hx) ?_
            refine wp_iret d_M_element_167 rfl ?_
            exact fin _ rfl
        · rw [bz_0, in_M h0 h15] at hc3
          refine wp_iconst (v := -1) d_M_element_41 (by decide) ?_
          refine wp_iret d_M_element_42 rfl ?_
          exact ⟨hF, Or.inr ⟨-1, M, rfl, hv, Or.inr ⟨hc3, rfl⟩⟩⟩
      · exact absurd hc2 (by decide)
  · exact absurd ⟨nI_pos' (by omega), nI_le (b := 7) hj (by decide)⟩ (bz_0.mp hc)
/-- the letter at a place of a word -/
def woN (N L : Nat) (lm : Nat → Nat) (x y : Nat) : Nat := ltr (EQ N L lm) (bkF (EQ N L lm) (dep (EQ N L lm) x - 1 - y) x)
def Wr (N L : Nat) (lm : Nat → Nat) (M : Nat) (e i z : Int32) : Prop := (∃ x y, x < M ∧ e = nI x ∧ i = nI y ∧ y < dep (EQ N L lm) x ∧ z = nI (woN N L lm x y)) ∨ ((¬ ∃ x y, x < M ∧ e = nI x ∧ i = nI y ∧ y < dep (EQ N L lm) x) ∧ z = -1)
theorem c_M_word {N L : Nat} {lm : Nat → Nat} (e i : Int32) (σ : Hp) (hB : MB σ N) (hL : LT σ N L lm) (hD : LD σ N L lm) : Ct m_M_word [.ref 56, .int e, .int i] σ (Lp N L lm σ (fun M z => Wr N L lm M e i z)) := by
  have hB := hB.th
  have hL := hL.th
  have hD := hD.th
  show WP m_M_word 0 [.ref 56, .int e, .int i, .null] [] σ _
  refine wp_aload_n d_M_word_0 rfl ?_
  refine wp_iconst (v := 0) d_M_word_1 (by decide) ?_
  refine wp_putI d_M_word_2 fp_M_89 rfl rfl (by decide) rfl rfl ?_
  show WP m_M_word 5 _ _ (Th σ) _
  refine wp_aload_n d_M_word_5 rfl ?_
  refine wp_callV0 d_M_word_6 cv_M_141 rfl rfl rfl ⟨Nat.le_of_ble_eq_true rfl, Nat.le_of_ble_eq_true rfl⟩ (Nat.le_of_ble_eq_true rfl) (Nat.le_of_ble_eq_true rfl) (c_M_loads _ hB hL hD) (fun v τ hv => ?_)
  obtain ⟨hF, hv⟩ := hv
  show WP m_M_word 9 _ _ τ _
  rcases hv with ⟨rfl, hv⟩ | ⟨rfl, M, hv⟩
  · show WP m_M_word 9 _ [.int 0] τ _
    refine wp_if_ne (tgt := 15) d_M_word_9 (by decide) (fun hc2 => ?_) (fun hc2 => ?_)
    · exact absurd rfl hc2
    · refine wp_bipush (v := -5) d_M_word_12 (by decide) ?_
      refine wp_iret d_M_word_14 rfl ?_
      exact ⟨hF, Or.inl ⟨rfl, hv⟩⟩
  · show WP m_M_word 9 _ [.int 1] τ _
    obtain ⟨hq, hT, -⟩ := id hv
    have h15 := hq.2.2.2.1
    have hlen := hq.2.2.1
    have h0 := hq.pos
    have hI := EQ_BI (N := N) (L := L) (lm := lm)
    have bad : (¬ ∃ x y, x < M ∧ e = nI x ∧ i = nI y ∧ y < dep (EQ N L lm) x) → WP m_M_word 45 [.ref 56, .int e, .int i, .null] [] τ (Lp N L lm σ (fun M z => Wr N L lm M e i z)) := by
      intro q
      refine wp_iconst (v := -1) d_M_word_45 (by decide) ?_
      refine wp_iret d_M_word_46 rfl ?_
      exact ⟨hF, Or.inr ⟨-1, M, rfl, hv, Or.inr ⟨q, rfl⟩⟩⟩
    refine wp_if_ne (tgt := 15) d_M_word_9 (by decide) (fun hc2 => ?_) (fun hc2 => ?_)
    · refine wp_iload_n d_M_word_15 rfl ?_
      refine wp_iconst (v := 0) d_M_word_16 (by decide) ?_
      refine wp_aload_n d_M_word_17 rfl ?_
      refine wp_getI d_M_word_18 fl_M_117 rfl rfl (by decide) ?_
      refine wp_iconst (v := 1) d_M_word_21 (by decide) ?_
      refine wp_isub d_M_word_22 ?_
      rw [hq.2.1, m_e9 h0]
      refine wp_callS3e d_M_word_23 cs_M_100 ⟨Nat.le_of_ble_eq_true rfl, Nat.le_of_ble_eq_true rfl⟩ (Nat.le_of_ble_eq_true rfl) (Nat.le_of_ble_eq_true rfl) (c_M_in _ _ _ _) ?_
      refine wp_if_eq (tgt := 45) d_M_word_26 (by decide) (fun hc3 => ?_) (fun hc3 => ?_)
      · rw [bz_0, in_M h0 h15] at hc3
        exact bad (fun ⟨x, y, q1, q2, _⟩ => hc3 ⟨x, q1, q2⟩)
      · have hc3 := bz_n0 hc3
        obtain ⟨x, hx, rfl⟩ := (in_M h0 h15).mp hc3
        have hd := dep_le hI x (by omega)
        have hdx := (hq.2.2.2.2.1 x (by omega)).2.2.1
        refine wp_iload_n d_M_word_29 rfl ?_
        refine wp_iconst (v := 0) d_M_word_30 (by decide) ?_
        refine wp_aload_n d_M_word_31 rfl ?_
        refine wp_getA d_M_word_32 fl_M_30 rfl rfl rfl ?_
        refine wp_iload_n d_M_word_35 rfl ?_
        refine wp_iald d_M_word_36 rfl ?_ ?_
        · exact vp_in_nI (n := x) (by omega) (by decide)
        rw [nI_clamp (show x < 2 ^ 31 by omega), hdx]
        refine wp_iconst (v := 1) d_M_word_37 (by decide) ?_
        refine wp_isub d_M_word_38 ?_
        refine wp_callS3e d_M_word_39 cs_M_100 ⟨Nat.le_of_ble_eq_true rfl, Nat.le_of_ble_eq_true rfl⟩ (Nat.le_of_ble_eq_true rfl) (Nat.le_of_ble_eq_true rfl) (c_M_in _ _ _ _) ?_
        refine wp_if_ne (tgt := 47) d_M_word_42 (by decide) (fun hc5 => ?_) (fun hc5 => ?_)
        · have hc5 := bz_n0 hc5
          rcases Nat.eq_zero_or_pos (dep (EQ N L lm) x) with q | q
          · rw [q] at hc5
            have hi0 := hc5.1
            have hi1 := hc5.2
            have : (0 : Int32) ≤ nI 0 - 1 := Int32.le_trans hi0 hi1
            exact absurd this (by decide)
          · rw [m_e9 q] at hc5
            obtain ⟨y, hy, rfl⟩ := wi_nI (by omega) hc5
            clear bad
            refine wp_iload_n d_M_word_47 rfl ?_
            refine wp_istore3 d_M_word_48 (by decide) rfl ?_
            suffices H : ∀ t, t ≤ dep (EQ N L lm) x - 1 - y → WP m_M_word 49 [.ref 56, .int (nI x), .int (nI y), .int (nI (bkF (EQ N L lm) t x))] [] τ (Lp N L lm σ (fun M z => Wr N L lm M (nI x) (nI y) z)) from H 0 (Nat.zero_le _)
            refine lp_nat (fun t ht ih => ?_)
            obtain ⟨b1, b2⟩ := bkF_dep hI (show x < (EQ N L lm).length by omega) t (by omega)
            have hw := hq.2.2.2.2.1 _ b1
            refine wp_aload_n d_M_word_49 rfl ?_
            refine wp_getA d_M_word_50 fl_M_30 rfl rfl rfl ?_
            refine wp_iload_n d_M_word_53 rfl ?_
            refine wp_iald d_M_word_54 rfl ?_ ?_
            · exact vp_in_nI (n := bkF (EQ N L lm) t x) (by omega) (by decide)
            rw [nI_clamp (show bkF (EQ N L lm) t x < 2 ^ 31 by omega), hw.2.2.1, b2]
            refine wp_iload_n d_M_word_55 rfl ?_
            refine wp_iconst (v := 1) d_M_word_56 (by decide) ?_
            refine wp_iadd d_M_word_57 ?_
            rw [nI_1]
            refine wp_icmp_le (tgt := 71) d_M_word_58 (by decide) (fun hc6 => ?_) (fun hc6 => ?_)
            · rw [nI_leN (by omega) (by omega)] at hc6
              obtain rfl : t = dep (EQ N L lm) x - 1 - y := by omega
              have hp := dep_pos hI b1 (by omega)
              refine wp_aload_n d_M_word_71 rfl ?_
              refine wp_getA d_M_word_72 fl_M_36 rfl rfl rfl ?_
              refine wp_iload_n d_M_word_75 rfl ?_
              refine wp_iald d_M_word_76 rfl ?_ ?_
              · exact vp_in_nI (n := bkF (EQ N L lm) (dep (EQ N L lm) x - 1 - y) x) (by omega) (by decide)
              rw [nI_clamp (show bkF (EQ N L lm) (dep (EQ N L lm) x - 1 - y) x < 2 ^ 31 by omega), (hw.2.2.2 hp).2]
              refine wp_iret d_M_word_77 rfl ?_
              exact ⟨hF, Or.inr ⟨_, M, rfl, hv, Or.inl ⟨x, y, hx, rfl, rfl, by omega, rfl⟩⟩⟩
            · rw [nI_leN (by omega) (by omega)] at hc6
              have hp := dep_pos hI b1 (by omega)
              refine wp_aload_n d_M_word_61 rfl ?_
              refine wp_getA d_M_word_62 fl_M_33 rfl rfl rfl ?_
              refine wp_iload_n d_M_word_65 rfl ?_
              refine wp_iald d_M_word_66 rfl ?_ ?_
              · exact vp_in_nI (n := bkF (EQ N L lm) t x) (by omega) (by decide)
              rw [nI_clamp (show bkF (EQ N L lm) t x < 2 ^ 31 by omega), (hw.2.2.2 hp).1]
              refine wp_istore3 d_M_word_67 (by decide) rfl ?_
              refine wp_goto (tgt := 49) d_M_word_68 (by decide) ?_
              exact ih (by omega)
        · rw [bz_0] at hc5
          refine bad (fun ⟨x2, y, q1, q2, q3, q5⟩ => hc5 ?_)
          have : x = x2 := (nI_eq (by omega) (by omega)).mp q2
          rw [← this] at q5
          rw [q3, m_e9 (by omega)]
          exact ⟨nI_pos' (by omega), nI_le (by omega) (by omega)⟩
    · exact absurd hc2 (by decide)
theorem c_M_find_no (m : Int32) {N : Nat} (σ : Hp) (hB : MB σ N) (h : ¬ (0 ≤ m ∧ m ≤ nI (N ^ N - 1))) : Ct m_M_find [.ref 56, .int m] σ (Rt (.int (-1)) (Th σ)) := by
  have hB := hB.th
  show WP m_M_find 0 [.ref 56, .int m] [] σ _
  refine wp_aload_n d_M_find_0 rfl ?_
  refine wp_iconst (v := 0) d_M_find_1 (by decide) ?_
  refine wp_putI d_M_find_2 fp_M_89 rfl rfl (by decide) rfl rfl ?_
  show WP m_M_find 5 _ _ (Th σ) _
  refine wp_iload_n d_M_find_5 rfl ?_
  refine wp_iconst (v := 0) d_M_find_6 (by decide) ?_
  refine wp_aload_n d_M_find_7 rfl ?_
  refine wp_aload_n d_M_find_8 rfl ?_
  refine wp_getI d_M_find_9 fl_M_7 rfl rfl (by decide) ?_
  rw [hB.1]
  refine wp_callV1e d_M_find_12 cv_M_92 rfl rfl rfl ⟨Nat.le_of_ble_eq_true rfl, Nat.le_of_ble_eq_true rfl⟩ (Nat.le_of_ble_eq_true rfl) (Nat.le_of_ble_eq_true rfl) (c_M_power (by have := hB.2.2; omega) _ hB) ?_
  refine wp_iconst (v := 1) d_M_find_15 (by decide) ?_
  refine wp_isub d_M_find_16 ?_
  rw [pw_e9 hB.2.1]
  refine wp_callS3e d_M_find_17 cs_M_100 ⟨Nat.le_of_ble_eq_true rfl, Nat.le_of_ble_eq_true rfl⟩ (Nat.le_of_ble_eq_true rfl) (Nat.le_of_ble_eq_true rfl) (c_M_in _ _ _ _) ?_
  refine wp_if_ne (tgt := 25) d_M_find_20 (by decide) (fun hc => ?_) (fun hc => ?_)
  · exact absurd (bz_n0 hc) h
  · refine wp_iconst (v := -1) d_M_find_23 (by decide) ?_
    refine wp_iret d_M_find_24 rfl ?_
    exact ⟨rfl, rfl⟩
theorem c_M_find {m N L : Nat} {lm : Nat → Nat} (hm : m < N ^ N) (σ : Hp) (hB : MB σ N) (hL : LT σ N L lm) (hD : LD σ N L lm) : Ct m_M_find [.ref 56, .int (nI m)] σ (Lp N L lm σ (fun _ z => (hasB (EQ N L lm) m = true ∧ z = nI (psN (EQ N L lm) m)) ∨ (hasB (EQ N L lm) m = false ∧ z = -9))) := by
  have hB := hB.th
  have hL := hL.th
  have hD := hD.th
  have hp6 := pow6 hB.2.2
  show WP m_M_find 0 [.ref 56, .int (nI m)] [] σ _
  refine wp_aload_n d_M_find_0 rfl ?_
  refine wp_iconst (v := 0) d_M_find_1 (by decide) ?_
  refine wp_putI d_M_find_2 fp_M_89 rfl rfl (by decide) rfl rfl ?_
  show WP m_M_find 5 _ _ (Th σ) _
  refine wp_iload_n d_M_find_5 rfl ?_
  refine wp_iconst (v := 0) d_M_find_6 (by decide) ?_
  refine wp_aload_n d_M_find_7 rfl ?_
  refine wp_aload_n d_M_find_8 rfl ?_
  refine wp_getI d_M_find_9 fl_M_7 rfl rfl (by decide) ?_
  rw [hB.1]
  refine wp_callV1e d_M_find_12 cv_M_92 rfl rfl rfl ⟨Nat.le_of_ble_eq_true rfl, Nat.le_of_ble_eq_true rfl⟩ (Nat.le_of_ble_eq_true rfl) (Nat.le_of_ble_eq_true rfl) (c_M_power (by have := hB.2.2; omega) _ hB) ?_
  refine wp_iconst (v := 1) d_M_find_15 (by decide) ?_
  refine wp_isub d_M_find_16 ?_
  rw [pw_e9 hB.2.1]
  refine wp_callS3e d_M_find_17 cs_M_100 ⟨Nat.le_of_ble_eq_true rfl, Nat.le_of_ble_eq_true rfl⟩ (Nat.le_of_ble_eq_true rfl) (Nat.le_of_ble_eq_true rfl) (c_M_in _ _ _ _) ?_
  refine wp_if_ne (tgt := 25) d_M_find_20 (by decide) (fun hc => ?_) (fun hc => ?_)
  · refine wp_aload_n d_M_find_25 rfl ?_
    refine wp_callV0 d_M_find_26 cv_M_141 rfl rfl rfl ⟨Nat.le_of_ble_eq_true rfl, Nat.le_of_ble_eq_true rfl⟩ (Nat.le_of_ble_eq_true rfl) (Nat.le_of_ble_eq_true rfl) (c_M_loads _ hB hL hD) (fun v τ hv => ?_)
    obtain ⟨hF, hv⟩ := hv
    show WP m_M_find 29 _ _ τ _
    rcases hv with ⟨rfl, hv⟩ | ⟨rfl, M, hv⟩
    · show WP m_M_find 29 _ [.int 0] τ _
      refine wp_if_eq (tgt := 41) d_M_find_29 (by decide) (fun hc2 => ?_) (fun hc2 => ?_)
      · refine wp_bipush (v := -5) d_M_find_41 (by decide) ?_
        refine wp_iret d_M_find_43 rfl ?_
        exact ⟨hF, Or.inl ⟨rfl, hv⟩⟩
      · exact absurd rfl hc2
    · show WP m_M_find 29 _ [.int 1] τ _
      obtain ⟨hq, hT, -⟩ := id hv
      refine wp_if_eq (tgt := 41) d_M_find_29 (by decide) (fun hc2 => ?_) (fun hc2 => ?_)
      · exact absurd hc2 (by decide)
      · refine wp_aload_n d_M_find_32 rfl ?_
        refine wp_getA d_M_find_33 fl_M_21 rfl rfl rfl ?_
        refine wp_iload_n d_M_find_36 rfl ?_
        refine wp_iald d_M_find_37 rfl ?_ ?_
        · exact vp_in_nI (n := m) (by omega) (by decide)
        rw [nI_clamp (show m < 2 ^ 31 by omega)]
        refine wp_goto (tgt := 43) d_M_find_38 (by decide) ?_
        refine wp_iret d_M_find_43 rfl ?_
        refine ⟨hF, Or.inr ⟨_, M, rfl, hv, ?_⟩⟩
        cases q : hasB (EQ N L lm) m with
        | true =>
          obtain ⟨j, j1, j2, j3⟩ := hq.2.2.2.2.at q
          exact Or.inl ⟨rfl, by rw [j3, EQ_BI.ps j1 j2]⟩
        | false => exact Or.inr ⟨rfl, hq.2.2.2.2.2 m (by omega) q⟩
  · exact absurd ⟨nI_pos' (by omega), nI_le (by omega) (by omega)⟩ (bz_0.mp hc)
def Ar2 (M : Nat) (a b : Int32) (f : Nat → Nat → Int32) (z : Int32) : Prop := (∃ x y, x < M ∧ y < M ∧ a = nI x ∧ b = nI y ∧ z = f x y) ∨ ((¬ ∃ x y, x < M ∧ y < M ∧ a = nI x ∧ b = nI y) ∧ z = -1)
theorem c_M_done {N L : Nat} {lm : Nat → Nat} (a b : Int32) (σ : Hp) (hB : MB σ N) (hL : LT σ N L lm) (hD : LD σ N L lm) : Ct m_M_done [.ref 56, .int a, .int b] σ (Lp N L lm σ (fun M z => Ar2 M a b (fun x y => nI (psN (EQ N L lm) (bN N (itm (EQ N L lm) x) (itm (EQ N L lm) y)))) z)) := by
  have hB := hB.th
  have hL := hL.th
  have hD := hD.th
  have hp6 := pow6 hB.2.2
  show WP m_M_done 0 [.ref 56, .int a, .int b] [] σ _
  refine wp_aload_n d_M_done_0 rfl ?_
  refine wp_iconst (v := 0) d_M_done_1 (by decide) ?_
  refine wp_putI d_M_done_2 fp_M_89 rfl rfl (by decide) rfl rfl ?_
  show WP m_M_done 5 _ _ (Th σ) _
  refine wp_aload_n d_M_done_5 rfl ?_
  refine wp_callV0 d_M_done_6 cv_M_141 rfl rfl rfl ⟨Nat.le_of_ble_eq_true rfl, Nat.le_of_ble_eq_true rfl⟩ (Nat.le_of_ble_eq_true rfl) (Nat.le_of_ble_eq_true rfl) (c_M_loads _ hB hL hD) (fun v τ hv => ?_)
  obtain ⟨hF, hv⟩ := hv
  show WP m_M_done 9 _ _ τ _
  rcases hv with ⟨rfl, hv⟩ | ⟨rfl, M, hv⟩
  · show WP m_M_done 9 _ [.int 0] τ _
    refine wp_if_ne (tgt := 15) d_M_done_9 (by decide) (fun hc2 => ?_) (fun hc2 => ?_)
    · exact absurd rfl hc2
    · refine wp_bipush (v := -5) d_M_done_12 (by decide) ?_
      refine wp_iret d_M_done_14 rfl ?_
      exact ⟨hF, Or.inl ⟨rfl, hv⟩⟩
  · show WP m_M_done 9 _ [.int 1] τ _
    have hB1 := hF.MB hB
    obtain ⟨hq, hT, -⟩ := id hv
    have h15 := hq.2.2.2.1
    have hlen := hq.2.2.1
    have h0 := hq.pos
    have bad : (¬ ∃ x y, x < M ∧ y < M ∧ a = nI x ∧ b = nI y) → WP m_M_done 67 [.ref 56, .int a, .int b] [] τ (Lp N L lm σ (fun M z => Ar2 M a b (fun x y => nI (psN (EQ N L lm) (bN N (itm (EQ N L lm) x) (itm (EQ N L lm) y)))) z)) := by
      intro q
      refine wp_iconst (v := -1) d_M_done_67 (by decide) ?_
      refine wp_iret d_M_done_68 rfl ?_
      exact ⟨hF, Or.inr ⟨-1, M, rfl, hv, Or.inr ⟨q, rfl⟩⟩⟩
    refine wp_if_ne (tgt := 15) d_M_done_9 (by decide) (fun hc2 => ?_) (fun hc2 => ?_)
    · refine wp_iload_n d_M_done_15 rfl ?_
      refine wp_iconst (v := 0) d_M_done_16 (by decide) ?_
      refine wp_aload_n d_M_done_17 rfl ?_
      refine wp_getI d_M_done_18 fl_M_117 rfl rfl (by decide) ?_
      refine wp_iconst (v := 1) d_M_done_21 (by decide) ?_
      refine wp_isub d_M_done_22 ?_
      rw [hq.2.1, m_e9 h0]
      refine wp_callS3e d_M_done_23 cs_M_100 ⟨Nat.le_of_ble_eq_true rfl, Nat.le_of_ble_eq_true rfl⟩ (Nat.le_of_ble_eq_true rfl) (Nat.le_of_ble_eq_true rfl) (c_M_in _ _ _ _) ?_
      refine wp_if_eq (tgt := 67) d_M_done_26 (by decide) (fun hc3 => ?_) (fun hc3 => ?_)
      · rw [bz_0, in_M h0 h15] at hc3
        exact bad (fun ⟨x, y, q1, _, q2, _⟩ => hc3 ⟨x, q1, q2⟩)
      · have hc3 := bz_n0 hc3
        obtain ⟨x, hx, rfl⟩ := (in_M h0 h15).mp hc3
        refine wp_iload_n d_M_done_29 rfl ?_
        refine wp_iconst (v := 0) d_M_done_30 (by decide) ?_
        refine wp_aload_n d_M_done_31 rfl ?_
        refine wp_getI d_M_done_32 fl_M_117 rfl rfl (by decide) ?_
        refine wp_iconst (v := 1) d_M_done_35 (by decide) ?_
        refine wp_isub d_M_done_36 ?_
        rw [hq.2.1, m_e9 h0]
        refine wp_callS3e d_M_done_37 cs_M_100 ⟨Nat.le_of_ble_eq_true rfl, Nat.le_of_ble_eq_true rfl⟩ (Nat.le_of_ble_eq_true rfl) (Nat.le_of_ble_eq_true rfl) (c_M_in _ _ _ _) ?_
        refine wp_if_eq (tgt := 67) d_M_done_40 (by decide) (fun hc5 => ?_) (fun hc5 => ?_)
        · rw [bz_0, in_M h0 h15] at hc5
          exact bad (fun ⟨x, y, _, q1, _, q2⟩ => hc5 ⟨y, q1, q2⟩)
        · have hc5 := bz_n0 hc5
          obtain ⟨y, hy, rfl⟩ := (in_M h0 h15).mp hc5
          have hwx := (hq.2.2.2.2.1 x (by omega)).1
          have hwy := (hq.2.2.2.2.1 y (by omega)).1
          have hlx := EQ_lt (L := L) (lm := lm) hB.2.1 x (by omega)
          have hly := EQ_lt (L := L) (lm := lm) hB.2.1 y (by omega)
          have hbl := bN_lt (N := N) (a := itm (EQ N L lm) x) (b := itm (EQ N L lm) y) hB.2.1
          have hh := EQ_mul (L := L) (lm := lm) hB.2.1 (by omega) (show x < (EQ N L lm).length by omega) y (by omega)
          obtain ⟨j, j1, j2, j3⟩ := hq.2.2.2.2.at hh
          refine wp_aload_n d_M_done_43 rfl ?_
          refine wp_getA d_M_done_44 fl_M_21 rfl rfl rfl ?_
          refine wp_aload_n d_M_done_47 rfl ?_
          refine wp_aload_n d_M_done_48 rfl ?_
          refine wp_getA d_M_done_49 fl_M_17 rfl rfl rfl ?_
          refine wp_iload_n d_M_done_52 rfl ?_
          refine wp_iald d_M_done_53 rfl ?_ ?_
          · exact vp_in_nI (n := x) (by omega) (by decide)
          rw [nI_clamp (show x < 2 ^ 31 by omega), hwx]
          refine wp_aload_n d_M_done_54 rfl ?_
          refine wp_getA d_M_done_55 fl_M_17 rfl rfl rfl ?_
          refine wp_iload_n d_M_done_58 rfl ?_
          refine wp_iald d_M_done_59 rfl ?_ ?_
          · exact vp_in_nI (n := y) (by omega) (by decide)
          rw [nI_clamp (show y < 2 ^ 31 by omega), hwy]
          refine wp_callV2e d_M_done_60 cv_M_124 rfl rfl rfl ⟨Nat.le_of_ble_eq_true rfl, Nat.le_of_ble_eq_true rfl⟩ (Nat.le_of_ble_eq_true rfl) (Nat.le_of_ble_eq_true rfl) (c_M_both (by omega) (by omega) _ hB1) ?_
          refine wp_iald d_M_done_63 rfl ?_ ?_
          · exact vp_in_nI (n := bN N (itm (EQ N L lm) x) (itm (EQ N L lm) y)) (by omega) (by decide)
          rw [nI_clamp (show bN N (itm (EQ N L lm) x) (itm (EQ N L lm) y) < 2 ^ 31 by omega), j3]
          refine wp_goto (tgt := 68) d_M_done_64 (by decide) ?_
          refine wp_iret d_M_done_68 rfl ?_
          exact ⟨hF, Or.inr ⟨_, M, rfl, hv, Or.inl ⟨x, y, hx, hy, rfl, rfl, by show nI j = nI _; rw [EQ_BI.ps j1 j2]⟩⟩⟩
    · exact absurd hc2 (by decide)
def svP (N L : Nat) (lm : Nat → Nat) (w a b x : Nat) : Bool := decide ((if w = 1 then bN N (itm (EQ N L lm) a) (itm (EQ N L lm) x) else bN N (itm (EQ N L lm) x) (itm (EQ N L lm) a)) = itm (EQ N L lm) b)
/-- how many, and the least, so far -/
def svC (N L : Nat) (lm : Nat → Nat) (w a b K : Nat) : Nat := sm (fun x => if svP N L lm w a b x = true then 1 else 0) K
def svL (N L : Nat) (lm : Nat → Nat) (w a b K : Nat) : Int32 := if sr (fun x => svP N L lm w a b x = true) K 0 < K then nI (sr (fun x => svP N L lm w a b x = true) K 0) else -9
theorem sr_app {p : Nat → Prop} [DecidablePred p] : ∀ f k, sr p (f + 1) k = if sr p f k < k + f then sr p f k else if p (k + f) then k + f else k + f + 1
  | 0, k => by
    show (if p k then k else k + 1) = (if k < k + 0 then k else if p (k + 0) then k + 0 else k + 0 + 1)
    rw [if_neg (show ¬ k < k + 0 by omega)]
    rfl
  | f + 1, k => by
    rw [sr]
    conv => rhs; rw [sr]
    by_cases q : p k
    · rw [if_pos q, if_pos q, if_pos (by omega)]
    · rw [if_neg q, if_neg q, sr_app f (k + 1), show k + 1 + f = k + (f + 1) by omega]
theorem svL_s {N L w a b K : Nat} {lm : Nat → Nat} : svL N L lm w a b (K + 1) = if sr (fun x => svP N L lm w a b x = true) K 0 < K then svL N L lm w a b K else if svP N L lm w a b K = true then nI K else -9 := by
  unfold svL
  have e := sr_app (p := fun x => svP N L lm w a b x = true) K 0
  rw [Nat.zero_add] at e
  rw [e]
  by_cases q : sr (fun x => svP N L lm w a b x = true) K 0 < K
  · rw [if_pos q, if_pos q, if_pos q, if_pos (by omega)]
  · rw [if_neg q, if_neg q]
    by_cases r : svP N L lm w a b K = true
    · rw [if_pos r, if_pos r, if_pos (by omega)]
    · rw [if_neg r, if_neg r, if_neg (by omega)]
theorem c_M_solve_no (a b v w : Int32) (σ : Hp) (h : ¬ ((0 ≤ v ∧ v ≤ 1) ∧ (0 ≤ w ∧ w ≤ 1))) : Ct m_M_solve [.ref 56, .int a, .int b, .int v, .int w] σ (Rt (.int (-1)) (Th σ)) := by
  show WP m_M_solve 0 [.ref 56, .int a, .int b, .int v, .int w, .null, .null, .null, .null] [] σ _
  have bad : WP m_M_solve 24 [.ref 56, .int a, .int b, .int v, .int w, .null, .null, .null, .null] [] (Th σ) (Rt (.int (-1)) (Th σ)) := by
    refine wp_iconst (v := -1) d_M_solve_24 (by decide) ?_
    refine wp_iret d_M_solve_25 rfl ?_
    exact ⟨rfl, rfl⟩
  refine wp_aload_n d_M_solve_0 rfl ?_
  refine wp_iconst (v := 0) d_M_solve_1 (by decide) ?_
  refine wp_putI d_M_solve_2 fp_M_89 rfl rfl (by decide) rfl rfl ?_
  show WP m_M_solve 5 _ _ (Th σ) _
  refine wp_iload_n d_M_solve_5 rfl ?_
  refine wp_iconst (v := 0) d_M_solve_6 (by decide) ?_
  refine wp_iconst (v := 1) d_M_solve_7 (by decide) ?_
  refine wp_callS3e d_M_solve_8 cs_M_100 ⟨Nat.le_of_ble_eq_true rfl, Nat.le_of_ble_eq_true rfl⟩ (Nat.le_of_ble_eq_true rfl) (Nat.le_of_ble_eq_true rfl) (c_M_in _ _ _ _) ?_
  refine wp_if_eq (tgt := 24) d_M_solve_11 (by decide) (fun hc => ?_) (fun hc => ?_)
  · exact bad
  · refine wp_iload d_M_solve_14 rfl ?_
    refine wp_iconst (v := 0) d_M_solve_16 (by decide) ?_
    refine wp_iconst (v := 1) d_M_solve_17 (by decide) ?_
    refine wp_callS3e d_M_solve_18 cs_M_100 ⟨Nat.le_of_ble_eq_true rfl, Nat.le_of_ble_eq_true rfl⟩ (Nat.le_of_ble_eq_true rfl) (Nat.le_of_ble_eq_true rfl) (c_M_in _ _ _ _) ?_
    refine wp_if_ne (tgt := 26) d_M_solve_21 (by decide) (fun hc2 => ?_) (fun hc2 => ?_)
    · exact absurd ⟨bz_n0 hc, bz_n0 hc2⟩ h
    · exact bad
theorem c_M_solve {v w N L : Nat} {lm : Nat → Nat} (a b : Int32) (hv1 : v ≤ 1) (hw1 : w ≤ 1) (σ : Hp) (hB : MB σ N) (hL : LT σ N L lm) (hD : LD σ N L lm) : Ct m_M_solve [.ref 56, .int a, .int b, .int (nI v), .int (nI w)] σ (Lp N L lm σ (fun M z => Ar2 M a b (fun x y => if w = 0 then nI (svC N L lm v x y M) else svL N L lm v x y M) z)) := by
  have hB := hB.th
  have hL := hL.th
  have hD := hD.th
  have hp6 := pow6 hB.2.2
  show WP m_M_solve 0 [.ref 56, .int a, .int b, .int (nI v), .int (nI w), .null, .null, .null, .null] [] σ _
  refine wp_aload_n d_M_solve_0 rfl ?_
  refine wp_iconst (v := 0) d_M_solve_1 (by decide) ?_
  refine wp_putI d_M_solve_2 fp_M_89 rfl rfl (by decide) rfl rfl ?_
  show WP m_M_solve 5 _ _ (Th σ) _
  refine wp_iload_n d_M_solve_5 rfl ?_
  refine wp_iconst (v := 0) d_M_solve_6 (by decide) ?_
  refine wp_iconst (v := 1) d_M_solve_7 (by decide) ?_
  refine wp_callS3e d_M_solve_8 cs_M_100 ⟨Nat.le_of_ble_eq_true rfl, Nat.le_of_ble_eq_true rfl⟩ (Nat.le_of_ble_eq_true rfl) (Nat.le_of_ble_eq_true rfl) (c_M_in _ _ _ _) ?_
  refine wp_if_eq (tgt := 24) d_M_solve_11 (by decide) (fun hc => ?_) (fun hc => ?_)
  · exact absurd ⟨nI_pos' (by omega), nI_le (b := 1) hv1 (by decide)⟩ (bz_0.mp hc)
  · refine wp_iload d_M_solve_14 rfl ?_
    refine wp_iconst (v := 0) d_M_solve_16 (by decide) ?_
    refine wp_iconst (v := 1) d_M_solve_17 (by decide) ?_
    refine wp_callS3e d_M_solve_18 cs_M_100 ⟨Nat.le_of_ble_eq_true rfl, Nat.le_of_ble_eq_true rfl⟩ (Nat.le_of_ble_eq_true rfl) (Nat.le_of_ble_eq_true rfl) (c_M_in _ _ _ _) ?_
    refine wp_if_ne (tgt := 26) d_M_solve_21 (by decide) (fun hc2 => ?_) (fun hc2 => ?_)
    · refine wp_aload_n d_M_solve_26 rfl ?_
      refine wp_callV0 d_M_solve_27 cv_M_141 rfl rfl rfl ⟨Nat.le_of_ble_eq_true rfl, Nat.le_of_ble_eq_true rfl⟩ (Nat.le_of_ble_eq_true rfl) (Nat.le_of_ble_eq_true rfl) (c_M_loads _ hB hL hD) (fun u τ hv => ?_)
      obtain ⟨hF, hv⟩ := hv
      show WP m_M_solve 30 _ _ τ _
      rcases hv with ⟨rfl, hv⟩ | ⟨rfl, M, hv⟩
      · show WP m_M_solve 30 _ [.int 0] τ _
        refine wp_if_ne (tgt := 36) d_M_solve_30 (by decide) (fun hc3 => ?_) (fun hc3 => ?_)
        · exact absurd rfl hc3
        · refine wp_bipush (v := -5) d_M_solve_33 (by decide) ?_
          refine wp_iret d_M_solve_35 rfl ?_
          exact ⟨hF, Or.inl ⟨rfl, hv⟩⟩
      · show WP m_M_solve 30 _ [.int 1] τ _
        have hB1 := hF.MB hB
        obtain ⟨hq, hT, -⟩ := id hv
        have h15 := hq.2.2.2.1
        have hlen := hq.2.2.1
        have h0 := hq.pos
        have bad : (¬ ∃ x y, x < M ∧ y < M ∧ a = nI x ∧ b = nI y) → WP m_M_solve 64 [.ref 56, .int a, .int b, .int (nI v), .int (nI w), .null, .null, .null, .null] [] τ (Lp N L lm σ (fun M z => Ar2 M a b (fun x y => if w = 0 then nI (svC N L lm v x y M) else svL N L lm v x y M) z)) := by
          intro q
          refine wp_iconst (v := -1) d_M_solve_64 (by decide) ?_
          refine wp_iret d_M_solve_65 rfl ?_
          exact ⟨hF, Or.inr ⟨-1, M, rfl, hv, Or.inr ⟨q, rfl⟩⟩⟩
        refine wp_if_ne (tgt := 36) d_M_solve_30 (by decide) (fun hc3 => ?_) (fun hc3 => ?_)
        · refine wp_iload_n d_M_solve_36 rfl ?_
          refine wp_iconst (v := 0) d_M_solve_37 (by decide) ?_
          refine wp_aload_n d_M_solve_38 rfl ?_
          refine wp_getI d_M_solve_39 fl_M_117 rfl rfl (by decide) ?_
          refine wp_iconst (v := 1) d_M_solve_42 (by decide) ?_
          refine wp_isub d_M_solve_43 ?_
          rw [hq.2.1, m_e9 h0]
          refine wp_callS3e d_M_solve_44 cs_M_100 ⟨Nat.le_of_ble_eq_true rfl, Nat.le_of_ble_eq_true rfl⟩ (Nat.le_of_ble_eq_true rfl) (Nat.le_of_ble_eq_true rfl) (c_M_in _ _ _ _) ?_
          refine wp_if_eq (tgt := 64) d_M_solve_47 (by decide) (fun hc5 => ?_) (fun hc5 => ?_)
          · rw [bz_0, in_M h0 h15] at hc5
            exact bad (fun ⟨x, y, q1, _, q2, _⟩ => hc5 ⟨x, q1, q2⟩)
          · have hc5 := bz_n0 hc5
            obtain ⟨x, hx, rfl⟩ := (in_M h0 h15).mp hc5
            refine wp_iload_n d_M_solve_50 rfl ?_
            refine wp_iconst (v := 0) d_M_solve_51 (by decide) ?_
            refine wp_aload_n d_M_solve_52 rfl ?_
            refine wp_getI d_M_solve_53 fl_M_117 rfl rfl (by decide) ?_
            refine wp_iconst (v := 1) d_M_solve_56 (by decide) ?_
            refine wp_isub d_M_solve_57 ?_
            rw [hq.2.1, m_e9 h0]
            refine wp_callS3e d_M_solve_58 cs_M_100 ⟨Nat.le_of_ble_eq_true rfl, Nat.le_of_ble_eq_true rfl⟩ (Nat.le_of_ble_eq_true rfl) (Nat.le_of_ble_eq_true rfl) (c_M_in _ _ _ _) ?_
            refine wp_if_ne (tgt := 66) d_M_solve_61 (by decide) (fun hc6 => ?_) (fun hc6 => ?_)
            · have hc6 := bz_n0 hc6
              obtain ⟨y, hy, rfl⟩ := (in_M h0 h15).mp hc6
              have hwx := (hq.2.2.2.2.1 x (by omega)).1
              have hwy := (hq.2.2.2.2.1 y (by omega)).1
              have hlx := EQ_lt (L := L) (lm := lm) hB.2.1 x (by omega)
              have hly := EQ_lt (L := L) (lm := lm) hB.2.1 y (by omega)
              refine wp_iconst (v := 0) d_M_solve_66 (by decide) ?_
              refine wp_istore5 d_M_solve_67 (by decide) rfl ?_
              refine wp_bipush (v := -9) d_M_solve_69 (by decide) ?_
              refine wp_istore6 d_M_solve_71 (by decide) rfl ?_
              refine wp_iconst (v := 0) d_M_solve_73 (by decide) ?_
              refine wp_istore7 d_M_solve_74 (by decide) rfl ?_
              suffices H : ∀ k, k ≤ M → ∀ x8 : Value, WP m_M_solve 76 [.ref 56, .int (nI x), .int (nI y), .int (nI v), .int (nI w), .int (nI (svC N L lm v x y k)), .int (svL N L lm v x y k), .int (nI k), x8] [] τ (Lp N L lm σ (fun M z => Ar2 M (nI x) (nI y) (fun x y => if w = 0 then nI (svC N L lm v x y M) else svL N L lm v x y M) z)) from H 0 (Nat.zero_le _) _
              refine lp_nat (fun k hk ih x8 => ?_)
              refine wp_iload d_M_solve_76 rfl ?_
              refine wp_aload_n d_M_solve_78 rfl ?_
              refine wp_getI d_M_solve_79 fl_M_117 rfl rfl (by decide) ?_
              refine wp_icmp_ge (tgt := 165) d_M_solve_82 (by decide) (fun hc7 => ?_) (fun hc7 => ?_)
              · rw [hq.2.1] at hc7
                obtain rfl := Nat.le_antisymm hk (nI_ge2 hc7 (by omega) (by omega))
                refine wp_iload d_M_solve_165 rfl ?_
                refine wp_if_ne (tgt := 175) d_M_solve_167 (by decide) (fun hc8 => ?_) (fun hc8 => ?_)
                · rw [show (0 : Int32) = nI 0 from rfl, nI_eq (by omega) (by omega)] at hc8
                  refine wp_iload d_M_solve_175 rfl ?_
                  refine wp_iret d_M_solve_177 rfl ?_
                  exact ⟨hF, Or.inr ⟨_, k, rfl, hv, Or.inl ⟨x, y, hx, hy, rfl, rfl, (if_neg hc8).symm⟩⟩⟩
                · rw [show (0 : Int32) = nI 0 from rfl, nI_eq (by omega) (by omega)] at hc8
                  refine wp_iload d_M_solve_170 rfl ?_
                  refine wp_goto (tgt := 177) d_M_solve_172 (by decide) ?_
                  refine wp_iret d_M_solve_177 rfl ?_
                  exact ⟨hF, Or.inr ⟨_, k, rfl, hv, Or.inl ⟨x, y, hx, hy, rfl, rfl, (if_pos hc8).symm⟩⟩⟩
              · rw [hq.2.1] at hc7
                have hk2 := nI_nge hc7 (by omega) (by omega)
                have hwk := (hq.2.2.2.2.1 k (by omega)).1
                have hlk := EQ_lt (L := L) (lm := lm) hB.2.1 k (by omega)
                obtain ⟨r, hr⟩ : ∃ r, r = (if v = 1 then bN N (itm (EQ N L lm) x) (itm (EQ N L lm) k) else bN N (itm (EQ N L lm) k) (itm (EQ N L lm) x)) := ⟨_, rfl⟩
                have hrl : r < N ^ N := by
                  rw [hr]
                  split
                  · exact bN_lt hB.2.1
                  · exact bN_lt hB.2.1
                have hsv : svP N L lm v x y k = decide (r = itm (EQ N L lm) y) := by rw [hr]; rfl
                have ec : svC N L lm v x y (k + 1) = svC N L lm v x y k + (if svP N L lm v x y k = true then 1 else 0) := rfl
                have key : WP m_M_solve 127 [.ref 56, .int (nI x), .int (nI y), .int (nI v), .int (nI w), .int (nI (svC N L lm v x y k)), .int (svL N L lm v x y k), .int (nI k), x8] [.int (nI r)] τ (Lp N L lm σ (fun M z => Ar2 M (nI x) (nI y) (fun x y => if w = 0 then nI (svC N L lm v x y M) else svL N L lm v x y M) z)) := by
                  refine wp_istore8 d_M_solve_127 (by decide) rfl ?_
                  refine wp_iload d_M_solve_129 rfl ?_
                  refine wp_aload_n d_M_solve_131 rfl ?_
                  refine wp_getA d_M_solve_132 fl_M_17 rfl rfl rfl ?_
                  refine wp_iload_n d_M_solve_135 rfl ?_
                  refine wp_iald d_M_solve_136 rfl ?_ ?_
                  · exact vp_in_nI (n := y) (by omega) (by decide)
                  rw [nI_clamp (show y < 2 ^ 31 by omega), hwy]
                  refine wp_icmp_ne (tgt := 159) d_M_solve_137 (by decide) (fun hc8 => ?_) (fun hc8 => ?_)
                  · rw [nI_eq (by omega) (by omega)] at hc8
                    rw [decide_eq_false hc8] at hsv
                    have el : svL N L lm v x y (k + 1) = svL N L lm v x y k := by
                      rw [svL_s, hsv, if_neg (show ¬ false = true by decide)]
                      split
                      · rfl
                      · rename_i q
                        rw [svL, if_neg q]
                    refine wp_iinc7 d_M_solve_159 (hn_ii1 _) (by decide) rfl ?_
                    refine wp_goto (tgt := 76) d_M_solve_162 (by decide) ?_
                    rw [nI_1]
                    have := ih hk2 (.int (nI r))
                    rw [ec, hsv, if_neg (show ¬ false = true by decide), Nat.add_zero, el] at this
                    exact this
                  · rw [nI_eq (by omega) (by omega)] at hc8
                    rw [decide_eq_true hc8] at hsv
                    refine wp_iinc5 d_M_solve_140 (hn_ii1 _) (by decide) rfl ?_
                    rw [nI_1]
                    have nx : ∀ l, l = svL N L lm v x y (k + 1) → WP m_M_solve 157 [.ref 56, .int (nI x), .int (nI y), .int (nI v), .int (nI w), .int (nI (svC N L lm v x y k + 1)), .int (svL N L lm v x y k), .int (nI k), .int (nI r)] [.int l] τ (Lp N L lm σ (fun M z => Ar2 M (nI x) (nI y) (fun x y => if w = 0 then nI (svC N L lm v x y M) else svL N L lm v x y M) z)) := by
                      intro l hl
                      refine wp_istore6 d_M_solve_157 (by decide) rfl ?_
                      refine wp_iinc7 d_M_solve_159 (hn_ii1 _) (by decide) rfl ?_
                      refine wp_goto (tgt := 76) d_M_solve_162 (by decide) ?_
                      rw [nI_1, hl]
                      have := ih hk2 (.int (nI r))
                      rw [ec, hsv, if_pos rfl] at this
                      exact this
                    refine wp_iload d_M_solve_143 rfl ?_
                    refine wp_bipush (v := -9) d_M_solve_145 (by decide) ?_
                    refine wp_icmp_ne (tgt := 155) d_M_solve_147 (by decide) (fun hc9 => ?_) (fun hc9 => ?_)
                    · refine wp_iload d_M_solve_155 rfl ?_
                      refine nx _ ?_
                      rw [svL_s]
                      split
                      · rfl
                      · rename_i q
                        rw [svL, if_neg q] at hc9
                        exact absurd rfl hc9
                    · refine wp_iload d_M_solve_150 rfl ?_
                      refine wp_goto (tgt := 157) d_M_solve_152 (by decide) ?_
                      refine nx _ ?_
                      rw [svL_s, hsv, if_pos rfl]
                      split
                      · rename_i q
                        rw [svL, if_pos q] at hc9
                        exact absurd hc9 (ne9 (by omega))
                      · rfl
                refine wp_iload_n d_M_solve_85 rfl ?_
                refine wp_iconst (v := 1) d_M_solve_86 (by decide) ?_
                refine wp_icmp_ne (tgt := 110) d_M_solve_87 (by decide) (fun hc8 => ?_) (fun hc8 => ?_)
                · rw [show (1 : Int32) = nI 1 from rfl, nI_eq (by omega) (by omega)] at hc8
                  refine wp_aload_n d_M_solve_110 rfl ?_
                  refine wp_aload_n d_M_solve_111 rfl ?_
                  refine wp_getA d_M_solve_112 fl_M_17 rfl rfl rfl ?_
                  refine wp_iload d_M_solve_115 rfl ?_
                  refine wp_iald d_M_solve_117 rfl ?_ ?_
                  · exact vp_in_nI (n := k) (by omega) (by decide)
                  rw [nI_clamp (show k < 2 ^ 31 by omega), hwk]
                  refine wp_aload_n d_M_solve_118 rfl ?_
                  refine wp_getA d_M_solve_119 fl_M_17 rfl rfl rfl ?_
                  refine wp_iload_n d_M_solve_122 rfl ?_
                  refine wp_iald d_M_solve_123 rfl ?_ ?_
                  · exact vp_in_nI (n := x) (by omega) (by decide)
                  rw [nI_clamp (show x < 2 ^ 31 by omega), hwx]
                  refine wp_callV2e d_M_solve_124 cv_M_124 rfl rfl rfl ⟨Nat.le_of_ble_eq_true rfl, Nat.le_of_ble_eq_true rfl⟩ (Nat.le_of_ble_eq_true rfl) (Nat.le_of_ble_eq_true rfl) (c_M_both (by omega) (by omega) _ hB1) ?_
                  rw [if_neg hc8] at hr
                  rw [← hr]
                  exact key
                · rw [show (1 : Int32) = nI 1 from rfl, nI_eq (by omega) (by omega)] at hc8
                  refine wp_aload_n d_M_solve_90 rfl ?_
                  refine wp_aload_n d_M_solve_91 rfl ?_
                  refine wp_getA d_M_solve_92 fl_M_17 rfl rfl rfl ?_
                  refine wp_iload_n d_M_solve_95 rfl ?_
                  refine wp_iald d_M_solve_96 rfl ?_ ?_
                  · exact vp_in_nI (n := x) (by omega) (by decide)
                  rw [nI_clamp (show x < 2 ^ 31 by omega), hwx]
                  refine wp_aload_n d_M_solve_97 rfl ?_
                  refine wp_getA d_M_solve_98 fl_M_17 rfl rfl rfl ?_
                  refine wp_iload d_M_solve_101 rfl ?_
                  refine wp_iald d_M_solve_103 rfl ?_ ?_
                  · exact vp_in_nI (n := k) (by omega) (by decide)
                  rw [nI_clamp (show k < 2 ^ 31 by omega), hwk]
                  refine wp_callV2e d_M_solve_104 cv_M_124 rfl rfl rfl ⟨Nat.le_of_ble_eq_true rfl, Nat.le_of_ble_eq_true rfl⟩ (Nat.le_of_ble_eq_true rfl) (Nat.le_of_ble_eq_true rfl) (c_M_both (by omega) (by omega) _ hB1) ?_
                  rw [if_pos hc8] at hr
                  rw [← hr]
                  refine wp_goto (tgt := 127) d_M_solve_107 (by decide) ?_
                  exact key
            · rw [bz_0, in_M h0 h15] at hc6
              exact bad (fun ⟨x, y, _, q1, _, q2⟩ => hc6 ⟨y, q1, q2⟩)
        · exact absurd hc3 (by decide)
    · exact absurd ⟨nI_pos' (by omega), nI_le (b := 1) hw1 (by decide)⟩ (bz_0.mp hc2)
