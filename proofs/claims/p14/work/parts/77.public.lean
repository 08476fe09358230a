/-! boxes, about, sort: the answers of both -/
theorem soB_cg {L e : Nat} {sp sp' : Nat → Nat → Nat} {b : Nat → Nat} (h : ∀ l, l < 2 * L → sp e l = sp' e l) : soB L sp b e = soB L sp' b e := by
  rw [Bool.eq_iff_iff, soB_iff, soB_iff]
  exact ⟨fun ⟨l, hl, q⟩ => ⟨l, hl, by rw [← h l hl]; exact q⟩, fun ⟨l, hl, q⟩ => ⟨l, hl, by rw [h l hl]; exact q⟩⟩
theorem SU.cg {τ : Hp} {L M : Nat} {sp sp' : Nat → Nat → Nat} {b : Nat → Nat} {st : Nat → Bool} (h : SU τ L sp b st M) (e : ∀ x l, l < 2 * L → sp x l = sp' x l) : SU τ L sp' b st M := fun i hi => by
  obtain ⟨h1, h2, h3⟩ := h i hi
  have es : soB L sp b = soB L sp' b := funext (fun x => soB_cg (e x))
  rw [es] at h3
  exact ⟨h1, h2, h3⟩
theorem BV.nm2 {τ : Hp} {N L : Nat} {lm lm' : Nat → Nat} (e : ∀ k, k < L → lm k = lm' k) (h : BV τ N L lm') : ∃ (b : Nat → Nat → Nat) (B : Nat → Nat) (l : Nat → Nat → Nat) (a : Nat → Nat → Nat), NM N L lm b B ∧ (∀ k, k < 4 → NB τ k (EQ N L lm).length (a k) (b k) (B k) (l k)) ∧ SU τ L (spP N L lm (EQ N L lm) 0) (b 0) (fun e => stN N (itm (EQ N L lm) e)) (EQ N L lm).length := by
  obtain ⟨-, a, b, B, l, h2, h3, h4, h5⟩ := h
  have e' : ∀ k, k < L → lm' k = lm k := fun k hk => (e k hk).symm
  rw [EQ_cg e'] at h2 h3 h4 h5
  exact ⟨b, B, l, a, ⟨⟨a, fun k hk => (h2 k hk).1⟩, SB.un e' h3, h4⟩, h2, h5.cg (fun x l hl => spP_cg (kind := 0) (by decide) e' (show l < spN L 0 from hl))⟩
section TL
variable {σ : Hp} {N L : Nat} {lm : Nat → Nat} {b a l : Nat → Nat → Nat} {B : Nat → Nat}
theorem nb_le (hB : ∀ k, k < 4 → NB σ k (EQ N L lm).length (a k) (b k) (B k) (l k)) {k : Nat} (hk : k < 4) : B k ≤ (EQ N L lm).length := (hB k hk).1.le
theorem v_B_tell {x j : Nat} (hj : j < 8) (hI : KI σ N L) (hlm : ∀ l, l < L → lm l < N ^ N) (hE : EL σ N L lm) (hN : NM N L lm b B) (hB : ∀ k, k < 4 → NB σ k (EQ N L lm).length (a k) (b k) (B k) (l k)) (hU : SU σ L (spP N L lm (EQ N L lm) 0) (b 0) (fun e => stN N (itm (EQ N L lm) e)) (EQ N L lm).length) (hx : x < B 0) : Ct m_B_tell [.ref 15, .int (nI x), .int (nI j)] σ (Rt (.int (nI (abF N L lm j (EQ N L lm).length b x))) σ) := by
  have h0 : 0 < N := by have := hI.2.1; omega
  have h6 := hI.2.2.1
  have h15 := hE.len
  have hBM := nb_le hB (k := 0) (by decide)
  obtain ⟨u1, u2, -⟩ := hU x (by omega)
  obtain ⟨x1, x2, -, -⟩ := (hB 0 (by decide)).2.2.1 x hx
  have lo := (hB 0 (by decide)).lo hx
  have r28 : rdA σ 28 6000 (0 * 1500 + nI x) = nI (loF (b 0) (EQ N L lm).length x) := by
    rw [c0_nI, rdA_in (by omega) (by decide), lo]
    exact x1
  have hs : stI (b 0) (fun e => stN N (itm (EQ N L lm) e)) (EQ N L lm).length x ≤ (EQ N L lm).length := sm_le1 _
  have u2 : σ.1 31 x = nI (stI (b 0) (fun e => stN N (itm (EQ N L lm) e)) (EQ N L lm).length x) := u2
  have hm : ∀ k, k < 4 → Ct m_B_howManyIn [.ref 15, .int (nI k), .int (nI x)] σ (Rt (.int (nI (inF N (EQ N L lm) (b 0) (b k) (some x) false (EQ N L lm).length).2)) σ) := fun k hk => by
    have hBk := nb_le hB hk
    rw [inF_in (l := l k) (B := B k) (fun e he => (hB k hk).1.1 e he) (fun e e' he he' q => hN.b0 hk he he' q) (fun y hy => ⟨((hB k hk).2.2.1 y hy).2.1, ((hB k hk).2.2.1 y hy).2.2.1⟩)]
    exact v_B_howManyIn hk h15 hBk (by omega) σ (hB k hk).2.2.2 (fun y hy => ⟨((hB k hk).2.2.1 y hy).1, ((hB k hk).2.2.1 y hy).2.1⟩) (fun e he => ⟨(hB 0 (by decide)).2.1 e he, by have := (hB 0 (by decide)).1.1 e he; omega⟩)
  show WP m_B_tell 0 [.ref 15, .int (nI x), .int (nI j)] [] σ _
  rcases (show j = 0 ∨ j = 1 ∨ j = 2 ∨ j = 3 ∨ j = 4 ∨ j = 5 ∨ j = 6 ∨ j = 7 by omega) with rfl | rfl | rfl | rfl | rfl | rfl | rfl | rfl
  · refine wp_iload_n d_B_tell_0 rfl ?_
    refine wp_tabIn (tgt := 48) (off := 47) d_B_tell_1 (by decide) (by decide) (by decide) (by decide) ?_
    refine wp_aload_n d_B_tell_48 rfl ?_
    refine wp_iload_n d_B_tell_49 rfl ?_
    refine wp_callV1e d_B_tell_50 cv_B_161 rfl rfl rfl ⟨Nat.le_of_ble_eq_true rfl, Nat.le_of_ble_eq_true rfl⟩ (Nat.le_of_ble_eq_true rfl) (Nat.le_of_ble_eq_true rfl) (c_B_size _ _) ?_
    refine wp_iret d_B_tell_53 rfl ?_
    exact ⟨by rw [rdA_in (show x < 1500 by omega) (by decide), u1]; rfl, rfl⟩
  · refine wp_iload_n d_B_tell_0 rfl ?_
    refine wp_tabIn (tgt := 104) (off := 103) d_B_tell_1 (by decide) (by decide) (by decide) (by decide) ?_
    refine wp_aload_n d_B_tell_104 rfl ?_
    refine wp_iload_n d_B_tell_105 rfl ?_
    refine wp_iload_n d_B_tell_106 rfl ?_
    refine wp_callV2e d_B_tell_107 cv_B_170 rfl rfl rfl ⟨Nat.le_of_ble_eq_true rfl, Nat.le_of_ble_eq_true rfl⟩ (Nat.le_of_ble_eq_true rfl) (Nat.le_of_ble_eq_true rfl) (hm 1 (by decide)) ?_
    refine wp_iret d_B_tell_110 rfl ?_
    exact ⟨rfl, rfl⟩
  · refine wp_iload_n d_B_tell_0 rfl ?_
    refine wp_tabIn (tgt := 104) (off := 103) d_B_tell_1 (by decide) (by decide) (by decide) (by decide) ?_
    refine wp_aload_n d_B_tell_104 rfl ?_
    refine wp_iload_n d_B_tell_105 rfl ?_
    refine wp_iload_n d_B_tell_106 rfl ?_
    refine wp_callV2e d_B_tell_107 cv_B_170 rfl rfl rfl ⟨Nat.le_of_ble_eq_true rfl, Nat.le_of_ble_eq_true rfl⟩ (Nat.le_of_ble_eq_true rfl) (Nat.le_of_ble_eq_true rfl) (hm 2 (by decide)) ?_
    refine wp_iret d_B_tell_110 rfl ?_
    exact ⟨rfl, rfl⟩
  · refine wp_iload_n d_B_tell_0 rfl ?_
    refine wp_tabIn (tgt := 104) (off := 103) d_B_tell_1 (by decide) (by decide) (by decide) (by decide) ?_
    refine wp_aload_n d_B_tell_104 rfl ?_
    refine wp_iload_n d_B_tell_105 rfl ?_
    refine wp_iload_n d_B_tell_106 rfl ?_
    refine wp_callV2e d_B_tell_107 cv_B_170 rfl rfl rfl ⟨Nat.le_of_ble_eq_true rfl, Nat.le_of_ble_eq_true rfl⟩ (Nat.le_of_ble_eq_true rfl) (Nat.le_of_ble_eq_true rfl) (hm 3 (by decide)) ?_
    refine wp_iret d_B_tell_110 rfl ?_
    exact ⟨rfl, rfl⟩
  · refine wp_iload_n d_B_tell_0 rfl ?_
    refine wp_tabIn (tgt := 54) (off := 53) d_B_tell_1 (by decide) (by decide) (by decide) (by decide) ?_
    refine wp_aload_n d_B_tell_54 rfl ?_
    refine wp_getA d_B_tell_55 fl_B_38 rfl rfl rfl ?_
    refine wp_iload_n d_B_tell_58 rfl ?_
    refine wp_callSN2e d_B_tell_59 csn_B_139 ⟨Nat.le_of_ble_eq_true rfl, Nat.le_of_ble_eq_true rfl⟩ (Nat.le_of_ble_eq_true rfl) (Nat.le_of_ble_eq_true rfl) (c_P_at (a := 31) rfl (by decide) _ _) ?_
    rw [rdA_in (show x < 1500 by omega) (by decide), u2]
    have fin : ∀ u : Int32, u = bz (rgF N (EQ N L lm) (b 0) x (EQ N L lm).length = true) → WP m_B_tell 70 [.ref 15, .int (nI x), .int (nI 4)] [.int u] σ (Rt (.int (nI (abF N L lm 4 (EQ N L lm).length b x))) σ) := by
      rintro u rfl
      refine wp_callSN1e d_B_tell_70 csn_B_147 ⟨Nat.le_of_ble_eq_true rfl, Nat.le_of_ble_eq_true rfl⟩ (Nat.le_of_ble_eq_true rfl) (Nat.le_of_ble_eq_true rfl) (c_P_oneIf _ _) ?_
      have e : bz (rgF N (EQ N L lm) (b 0) x (EQ N L lm).length = true) = nI (abF N L lm 4 (EQ N L lm).length b x) := by
        show _ = nI (if rgF N (EQ N L lm) (b 0) x (EQ N L lm).length = true then 1 else 0)
        unfold bz
        split <;> rfl
      rw [e]
      refine wp_iret d_B_tell_73 rfl ?_
      exact ⟨rfl, rfl⟩
    refine wp_if_le (tgt := 69) d_B_tell_62 (by decide) (fun hc2 => ?_) (fun hc2 => ?_)
    · have : ¬ rgF N (EQ N L lm) (b 0) x (EQ N L lm).length = true := fun z => by
        have z := rg_st.mp z
        have h2 : nI (stI (b 0) (fun e => stN N (itm (EQ N L lm) e)) (EQ N L lm).length x) ≤ nI 0 := hc2
        rw [nI_leN (by omega) (by omega)] at h2
        omega
      refine wp_iconst (v := 0) d_B_tell_69 (by decide) ?_
      exact fin 0 (bz_f this).symm
    · have : rgF N (EQ N L lm) (b 0) x (EQ N L lm).length = true := rg_st.mpr (by
        rcases Nat.eq_zero_or_pos (stI (b 0) (fun e => stN N (itm (EQ N L lm) e)) (EQ N L lm).length x) with q | q
        · refine absurd ?_ hc2
          rw [q]
          decide
        · exact q)
      refine wp_iconst (v := 1) d_B_tell_65 (by decide) ?_
      refine wp_goto (tgt := 70) d_B_tell_66 (by decide) ?_
      exact fin 1 (bz_t this).symm
  · refine wp_iload_n d_B_tell_0 rfl ?_
    refine wp_tabIn (tgt := 74) (off := 73) d_B_tell_1 (by decide) (by decide) (by decide) (by decide) ?_
    refine wp_aload_n d_B_tell_74 rfl ?_
    refine wp_getA d_B_tell_75 fl_B_38 rfl rfl rfl ?_
    refine wp_iload_n d_B_tell_78 rfl ?_
    refine wp_callSN2e d_B_tell_79 csn_B_139 ⟨Nat.le_of_ble_eq_true rfl, Nat.le_of_ble_eq_true rfl⟩ (Nat.le_of_ble_eq_true rfl) (Nat.le_of_ble_eq_true rfl) (c_P_at (a := 31) rfl (by decide) _ _) ?_
    refine wp_iret d_B_tell_82 rfl ?_
    refine ⟨?_, rfl⟩
    rw [rdA_in (show x < 1500 by omega) (by decide), u2, ← hN.five h0 hlm h15]
    rfl
  · refine wp_iload_n d_B_tell_0 rfl ?_
    refine wp_tabIn (tgt := 83) (off := 82) d_B_tell_1 (by decide) (by decide) (by decide) (by decide) ?_
    refine wp_aload_n d_B_tell_83 rfl ?_
    refine wp_getA d_B_tell_84 fl_B_58 rfl rfl rfl ?_
    refine wp_aload_n d_B_tell_87 rfl ?_
    refine wp_iconst (v := 0) d_B_tell_88 (by decide) ?_
    refine wp_iload_n d_B_tell_89 rfl ?_
    refine wp_callV2e d_B_tell_90 cv_B_164 rfl rfl rfl ⟨Nat.le_of_ble_eq_true rfl, Nat.le_of_ble_eq_true rfl⟩ (Nat.le_of_ble_eq_true rfl) (Nat.le_of_ble_eq_true rfl) (c_B_leastOf _ _ _) ?_
    refine wp_callV1e d_B_tell_93 cv_B_167 rfl rfl rfl ⟨Nat.le_of_ble_eq_true rfl, Nat.le_of_ble_eq_true rfl⟩ (Nat.le_of_ble_eq_true rfl) (Nat.le_of_ble_eq_true rfl) (c_E_rank _ _ hI) ?_
    refine wp_iret d_B_tell_96 rfl ?_
    refine ⟨?_, rfl⟩
    rw [r28, rdA_in (show loF (b 0) (EQ N L lm).length x < 1500 by omega) (by decide), hE.at (by omega), mp_rank h0 h6]
    rfl
  · refine wp_iload_n d_B_tell_0 rfl ?_
    refine wp_tabIn (tgt := 97) (off := 96) d_B_tell_1 (by decide) (by decide) (by decide) (by decide) ?_
    refine wp_aload_n d_B_tell_97 rfl ?_
    refine wp_iconst (v := 0) d_B_tell_98 (by decide) ?_
    refine wp_iload_n d_B_tell_99 rfl ?_
    refine wp_callV2e d_B_tell_100 cv_B_164 rfl rfl rfl ⟨Nat.le_of_ble_eq_true rfl, Nat.le_of_ble_eq_true rfl⟩ (Nat.le_of_ble_eq_true rfl) (Nat.le_of_ble_eq_true rfl) (c_B_leastOf _ _ _) ?_
    refine wp_iret d_B_tell_103 rfl ?_
    exact ⟨by rw [r28]; rfl, rfl⟩
end TL
def aeBo (w : Int32) : Sx → Int32 → Prop := fun (N, L, lm, _, _) z => (∃ j, j ≤ 7 ∧ w = nI j ∧ LBx N L lm (fun b B z => z = nI (boF N L lm j (EQ N L lm).length b B)) z) ∨ (¬ (0 ≤ w ∧ w ≤ nI 7) ∧ z = -1)
def aeAb (i w : Int32) : Sx → Int32 → Prop := fun (N, L, lm, _, _) z => (∃ j, j ≤ 7 ∧ w = nI j ∧ LBx N L lm (fun b B z => Ar (B 0) i (fun x => nI (abF N L lm j (EQ N L lm).length b x)) z) z) ∨ (¬ (0 ≤ w ∧ w ≤ nI 7) ∧ z = -1)
def aeSt (w : Int32) : Sx → Int32 → Prop := fun (N, L, lm, _, _) z => (∃ j, j ≤ 6 ∧ w = nI j ∧ LBx N L lm (fun b B z => z = bz (soF N L lm j (EQ N L lm).length b B = true)) z) ∨ (¬ (0 ≤ w ∧ w ≤ nI 6) ∧ z = -1)
theorem mb_boxes (w : Int32) {σ : Hp} {a : Sx} (h : MS σ a) : Ct m_M_boxes [.ref 56, .int w] σ (YM σ a (aeBo w a)) := by
  obtain ⟨N, L, lm, s, e⟩ := a
  by_cases hw : 0 ≤ w ∧ w ≤ nI 7
  · obtain ⟨j, hj, rfl⟩ := wi_nI (by decide) hw
    exact (c_M_boxes hj σ h.1 h.2.1 h.2.2.2.2).im (fun w τ hr => (hr.yb h).im (fun z hz => Or.inl ⟨j, hj, rfl, hz⟩))
  · exact (c_M_boxes_no w σ hw).im (h.no (Or.inr ⟨hw, rfl⟩))
theorem mb_about (i w : Int32) {σ : Hp} {a : Sx} (h : MS σ a) : Ct m_M_about [.ref 56, .int i, .int w] σ (YM σ a (aeAb i w a)) := by
  obtain ⟨N, L, lm, s, e⟩ := a
  by_cases hw : 0 ≤ w ∧ w ≤ nI 7
  · obtain ⟨j, hj, rfl⟩ := wi_nI (by decide) hw
    exact (c_M_about i hj σ h.1 h.2.1 h.2.2.2.2).im (fun w τ hr => (hr.yb h).im (fun z hz => Or.inl ⟨j, hj, rfl, hz⟩))
  · exact (c_M_about_no i w σ hw).im (h.no (Or.inr ⟨hw, rfl⟩))
theorem mb_sort (w : Int32) {σ : Hp} {a : Sx} (h : MS σ a) : Ct m_M_sort [.ref 56, .int w] σ (YM σ a (aeSt w a)) := by
  obtain ⟨N, L, lm, s, e⟩ := a
  by_cases hw : 0 ≤ w ∧ w ≤ nI 6
  · obtain ⟨j, hj, rfl⟩ := wi_nI (by decide) hw
    exact (c_M_sort hj σ h.1 h.2.1 h.2.2.2.2).im (fun w τ hr => (hr.yb h).im (fun z hz => Or.inl ⟨j, hj, rfl, hz⟩))
  · exact (c_M_sort_no w σ hw).im (h.no (Or.inr ⟨hw, rfl⟩))
section CG
variable {N L M : Nat} {lm : Nat → Nat} {b b' : Nat → Nat → Nat} {B B' : Nat → Nat}
theorem inF_cg {Q : BQ} {b b' bk bk' : Nat → Nat} {i : Option Nat} {s : Bool} {M : Nat} (h : ∀ e, e < M → b e = b' e) (hk : ∀ e, e < M → bk e = bk' e) : ∀ K, K ≤ M → inF N Q b bk i s K = inF N Q b' bk' i s K
  | 0, _ => rfl
  | K + 1, hK => by
    show inS N Q b bk i s K (inF N Q b bk i s K) = inS N Q b' bk' i s K (inF N Q b' bk' i s K)
    rw [inF_cg h hk K (by omega)]
    unfold inS
    rw [h K (by omega), hk K (by omega)]
theorem loF_cg {b b' : Nat → Nat} {M : Nat} (h : ∀ e, e < M → b e = b' e) : loF b M = loF b' M := funext (fun x => by
  unfold loF
  have key : ∀ f k, k + f ≤ M → sr (fun e => b e = x) f k = sr (fun e => b' e = x) f k := by
    intro f
    induction f with
    | zero => exact fun _ _ => rfl
    | succ f ih =>
      intro k hk
      show (if b k = x then k else sr _ f (k + 1)) = (if b' k = x then k else sr _ f (k + 1))
      rw [h k (by omega), ih (k + 1) (by omega)]
  exact key _ 0 (by omega))
theorem szF_cg {b b' : Nat → Nat} {M i : Nat} (h : ∀ e, e < M → b e = b' e) : szF b M i = szF b' M i := sm_cg (fun e he => by
  try dsimp only
  rw [h e he])
theorem lbF_cg {b b' : Nat → Nat} {M K : Nat} (h : ∀ e, e < M → b e = b' e) : lbF N L lm b M K = lbF N L lm b' M K := by
  unfold lbF
  rw [loF_cg h]
theorem rgF_cg {Q : BQ} {b b' : Nat → Nat} {M i : Nat} (h : ∀ e, e < M → b e = b' e) : rgF N Q b i M = rgF N Q b' i M := by
  rw [Bool.eq_iff_iff, rgF, rgF, List.any_eq_true, List.any_eq_true]
  exact ⟨fun ⟨e, he, q⟩ => ⟨e, he, by rw [← h e (List.mem_range.mp he)]; exact q⟩, fun ⟨e, he, q⟩ => ⟨e, he, by rw [h e (List.mem_range.mp he)]; exact q⟩⟩
theorem NM.bo_un (h : NM N L lm b B) (h' : NM N L lm b' B') {j : Nat} : boF N L lm j (EQ N L lm).length b B = boF N L lm j (EQ N L lm).length b' B' := by
  have u := fun k hk => h.un h' k hk
  obtain ⟨a', hR'⟩ := h'.rg0
  have pos : 0 < (EQ N L lm).length := EQ_BI.1
  have lt := lbF_lt (N := N) (L := L) (lm := lm) hR' pos (B' 0) (Nat.le_refl _)
  have u0 := u 0 (by decide)
  have u3 := u 3 (by decide)
  unfold boF
  rw [inF_cg u0.1 u0.1 _ (Nat.le_refl _), inF_cg u0.1 u3.1 _ (Nat.le_refl _), lbF_cg u0.1, u0.2, u0.1 _ lt, szF_cg u0.1]
  split
  · rename_i q
    exact (u j q).2
  · rfl
theorem NM.ab_un (h : NM N L lm b B) (h' : NM N L lm b' B') {j x : Nat} : abF N L lm j (EQ N L lm).length b x = abF N L lm j (EQ N L lm).length b' x := by
  have u := fun k hk => h.un h' k hk
  have u0 := u 0 (by decide)
  have u3 := u 3 (by decide)
  unfold abF
  rw [inF_cg u0.1 u3.1 _ (Nat.le_refl _), szF_cg u0.1, rgF_cg u0.1, loF_cg u0.1]
  split
  · rfl
  · split
    · rename_i q
      rw [inF_cg u0.1 (u j q).1 _ (Nat.le_refl _)]
    · rfl
theorem NM.so_un (h : NM N L lm b B) (h' : NM N L lm b' B') {j : Nat} : soF N L lm j (EQ N L lm).length b B = soF N L lm j (EQ N L lm).length b' B' := by
  have u := fun k hk => h.un h' k hk
  have u0 := u 0 (by decide)
  unfold soF
  rw [inF_cg u0.1 u0.1 _ (Nat.le_refl _), u0.2, (u 3 (by decide)).2]
  split
  · rfl
  · split
    · rename_i q
      rw [(u j q).2]
    · rfl
end CG
theorem un_boxes {w z z' : Int32} {a : Sx} (h : aeBo w a z) (h' : aeBo w a z') : z = z' := by
  obtain ⟨N, L, lm, s, e⟩ := a
  rcases h with ⟨j, hj, rfl, h⟩ | ⟨h, rfl⟩ <;> rcases h' with ⟨j', hj', e', h'⟩ | ⟨h', rfl⟩
  · obtain rfl : j = j' := (nI_eq (by omega) (by omega)).mp e'
    rcases h with ⟨h, rfl⟩ | ⟨h, b, B, hN, hA⟩ <;> rcases h' with ⟨h', rfl⟩ | ⟨h', b', B', hN', hA'⟩
    · rfl
    · omega
    · omega
    · exact hA.trans ((congrArg nI (hN.bo_un hN')).trans hA'.symm)
  · exact absurd (in_nI hj (by decide)) h'
  · rw [e'] at h
    exact absurd (in_nI hj' (by decide)) h
  · rfl
theorem un_about {i w z z' : Int32} {a : Sx} (h : aeAb i w a z) (h' : aeAb i w a z') : z = z' := by
  obtain ⟨N, L, lm, s, e⟩ := a
  rcases h with ⟨j, hj, rfl, h⟩ | ⟨h, rfl⟩ <;> rcases h' with ⟨j', hj', e', h'⟩ | ⟨h', rfl⟩
  · obtain rfl : j = j' := (nI_eq (by omega) (by omega)).mp e'
    rcases h with ⟨h, rfl⟩ | ⟨h, b, B, hN, hA⟩ <;> rcases h' with ⟨h', rfl⟩ | ⟨h', b', B', hN', hA'⟩
    · rfl
    · omega
    · omega
    · have hBB := (hN.un hN' 0 (by decide)).2
      have hBM := (hN.1.choose_spec 0 (by decide)).le
      have hA2 : Ar (B 0) i (fun x => nI (abF N L lm j (EQ N L lm).length b x)) z' := by
        rw [hBB]
        rcases hA' with ⟨x, hx, e1, rfl⟩ | hA'
        · exact Or.inl ⟨x, hx, e1, congrArg nI (hN.ab_un hN').symm⟩
        · exact Or.inr hA'
      exact hA.un (by omega) hA2
  · exact absurd (in_nI hj (by decide)) h'
  · rw [e'] at h
    exact absurd (in_nI hj' (by decide)) h
  · rfl
theorem un_sort {w z z' : Int32} {a : Sx} (h : aeSt w a z) (h' : aeSt w a z') : z = z' := by
  obtain ⟨N, L, lm, s, e⟩ := a
  rcases h with ⟨j, hj, rfl, h⟩ | ⟨h, rfl⟩ <;> rcases h' with ⟨j', hj', e', h'⟩ | ⟨h', rfl⟩
  · obtain rfl : j = j' := (nI_eq (by omega) (by omega)).mp e'
    rcases h with ⟨h, rfl⟩ | ⟨h, b, B, hN, hA⟩ <;> rcases h' with ⟨h', rfl⟩ | ⟨h', b', B', hN', hA'⟩
    · rfl
    · omega
    · omega
    · rw [hA, hA', hN.so_un hN']
  · exact absurd (in_nI hj (by decide)) h'
  · rw [e'] at h
    exact absurd (in_nI hj' (by decide)) h
  · rfl
