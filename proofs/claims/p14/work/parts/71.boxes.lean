/-! boxes: one answer of both (box) -/
theorem spP_cg {N L kind : Nat} {lm lm' : Nat → Nat} {Q : BQ} (hk : kind ≤ 2) (h : ∀ k, k < L → lm k = lm' k) {e l : Nat} (hl : l < spN L kind) : spP N L lm Q kind e l = spP N L lm' Q kind e l := by
  unfold spN at hl
  unfold spP toP ahP
  rcases (show kind = 0 ∨ kind = 1 ∨ kind = 2 by omega) with rfl | rfl | rfl
  · rw [if_pos rfl] at hl
    rcases Nat.lt_or_ge l L with q | q
    · rw [if_pos (Or.inr ⟨rfl, q⟩), if_pos (Or.inr ⟨rfl, q⟩), h l q]
    · have c : ¬ (0 = 1 ∨ (0 = 0 ∧ l < L)) := by omega
      rw [if_neg c, if_neg c, if_neg (show ¬ 0 = 2 by decide), h (l - L) (by omega)]
  · rw [if_neg (by decide)] at hl
    rw [if_pos (Or.inl rfl), if_pos (Or.inl rfl), h l hl]
  · rw [if_neg (by decide)] at hl
    have c : ¬ (2 = 1 ∨ (2 = 0 ∧ l < L)) := by omega
    rw [if_neg c, if_neg c, if_pos (show 2 = 2 from rfl), h l hl]
theorem RQ.cg {sp sp' : Nat → Nat → Nat} {T a b : Nat} (e : ∀ a l, l < T → sp a l = sp' a l) (h : RQ sp T a b) : RQ sp' T a b := by
  obtain ⟨w, hw, r⟩ := h
  refine ⟨w, hw, ?_⟩
  rw [← r]
  have key : ∀ (w : List Nat) a, (∀ k, k ∈ w → k < T) → runS sp' w a = runS sp w a := by
    intro w
    induction w with
    | nil => exact fun _ _ => rfl
    | cons k w ih =>
      intro a hw
      show runS sp' w (sp' a k) = runS sp w (sp a k)
      rw [ih _ (fun j hj => hw j (List.mem_cons_of_mem _ hj)), e a k (hw k List.mem_cons_self)]
  exact key w a hw
theorem SB.un {N L M : Nat} {lm lm' : Nat → Nat} {b : Nat → Nat → Nat} (e : ∀ k, k < L → lm k = lm' k) (h : SB N L lm M 3 b) : SB N L lm' M 3 b := fun k hk x y hx hy => by
  rw [h k hk x y hx hy, ← EQ_cg e]
  have c1 : ∀ a l, l < spN L k → spP N L lm (EQ N L lm) k a l = spP N L lm' (EQ N L lm) k a l := fun a l hl => spP_cg (by omega) e hl
  have c2 : ∀ a l, l < spN L k → spP N L lm' (EQ N L lm) k a l = spP N L lm (EQ N L lm) k a l := fun a l hl => (c1 a l hl).symm
  exact ⟨fun z => ⟨z.1.cg c1, z.2.cg c1⟩, fun z => ⟨z.1.cg c2, z.2.cg c2⟩⟩
/-- numbers of boxes of all kinds -/
def NM (N L : Nat) (lm : Nat → Nat) (b : Nat → Nat → Nat) (B : Nat → Nat) : Prop := (∃ a : Nat → Nat → Nat, ∀ k, k < 4 → RG (EQ N L lm).length (a k) (b k) (B k)) ∧ SB N L lm (EQ N L lm).length 3 b ∧ ∀ e e', e < (EQ N L lm).length → e' < (EQ N L lm).length → (b 3 e = b 3 e' ↔ b 1 e = b 1 e' ∧ b 2 e = b 2 e')
theorem NM.un {N L : Nat} {lm : Nat → Nat} {b b' : Nat → Nat → Nat} {B B' : Nat → Nat} (h : NM N L lm b B) (h' : NM N L lm b' B') : ∀ k, k < 4 → (∀ e, e < (EQ N L lm).length → b k e = b' k e) ∧ B k = B' k := by
  obtain ⟨⟨a, h1⟩, h2, h3⟩ := h
  obtain ⟨⟨a', h1'⟩, h2', h3'⟩ := h'
  have lo : ∀ k, k < 3 → (∀ e, e < (EQ N L lm).length → b k e = b' k e) ∧ B k = B' k := fun k hk =>
    RG.un (h1 k (by omega)) (h1' k (by omega)) (fun i j hi hj => by
      rw [← (h1 k (by omega)).2.2.2 i j hi hj, ← (h1' k (by omega)).2.2.2 i j hi hj, h2 k hk i j hi hj, h2' k hk i j hi hj])
  intro k hk
  rcases Nat.lt_or_ge k 3 with q | q
  · exact lo k q
  · obtain rfl : k = 3 := by omega
    refine RG.un (h1 3 (by decide)) (h1' 3 (by decide)) (fun i j hi hj => ?_)
    rw [← (h1 3 (by decide)).2.2.2 i j hi hj, ← (h1' 3 (by decide)).2.2.2 i j hi hj, h3 i j hi hj, h3' i j hi hj, (lo 1 (by decide)).1 i hi, (lo 1 (by decide)).1 j hj, (lo 2 (by decide)).1 i hi, (lo 2 (by decide)).1 j hj]
/-- what the answers of the boxes' calls are -/
def LBx (N L : Nat) (lm : Nat → Nat) (A : (Nat → Nat → Nat) → (Nat → Nat) → Int32 → Prop) (z : Int32) : Prop := (1500 < (EQ N L lm).length ∧ z = -5) ∨ ((EQ N L lm).length ≤ 1500 ∧ ∃ b B, NM N L lm b B ∧ A b B z)
theorem TX.nm {τ : Hp} {N L M : Nat} {lm : Nat → Nat} {a b : Nat → Nat → Nat} {B : Nat → Nat} (h : TX τ N L lm M a b B) : NM N L lm b B := by
  have hM : (EQ N L lm).length = M := h.1.2.2.1
  refine ⟨⟨a, fun k hk => ?_⟩, ?_, ?_⟩
  · rw [hM]; exact (h.2.2.1 k hk).1
  · rw [hM]; exact h.2.2.2.2
  · rw [hM]; exact h.2.2.2.1
theorem Lb.yb {σ : Hp} {N L : Nat} {lm : Nat → Nat} {s e : Nat} {A : Nat → (Nat → Nat → Nat) → (Nat → Nat) → Int32 → Prop} {w : Option Value} {τ : Hp} (h : MS σ (N, L, lm, s, e)) (hr : Lb N L lm σ A w τ) : YM σ (N, L, lm, s, e) (LBx N L lm (A (EQ N L lm).length)) w τ := by
  obtain ⟨hF, ⟨rfl, hD⟩ | ⟨z, M, a, b, B, rfl, hT, hA⟩⟩ := hr
  · exact ⟨⟨-5, rfl, Or.inl ⟨hD.2.2, rfl⟩⟩, h.fm hF (Or.inr (Or.inl hD))⟩
  · have hM : (EQ N L lm).length = M := hT.1.2.2.1
    exact ⟨⟨z, rfl, Or.inr ⟨by rw [hM]; exact hT.1.2.2.2.1, b, B, hT.nm, by rw [hM]; exact hA⟩⟩, h.fm hF (Or.inr (Or.inr ⟨M, hT.tb⟩))⟩
def aeBx (x w : Int32) : Sx → Int32 → Prop := fun (N, L, lm, _, _) z => (∃ j, j ≤ 3 ∧ w = nI j ∧ LBx N L lm (fun b _ z => Ar (EQ N L lm).length x (fun x => nI (b j x)) z) z) ∨ (¬ (0 ≤ w ∧ w ≤ nI 3) ∧ z = -1)
theorem mb_box (x w : Int32) {σ : Hp} {a : Sx} (h : MS σ a) : Ct m_M_box [.ref 56, .int x, .int w] σ (YM σ a (aeBx x w a)) := by
  obtain ⟨N, L, lm, s, e⟩ := a
  by_cases hw : 0 ≤ w ∧ w ≤ nI 3
  · obtain ⟨j, hj, rfl⟩ := wi_nI (by decide) hw
    exact (c_M_box x hj σ h.1 h.2.1 h.2.2.2.2).im (fun w τ hr => (hr.yb h).im (fun z hz => Or.inl ⟨j, hj, rfl, hz⟩))
  · exact (c_M_box_no x w σ hw).im (h.no (Or.inr ⟨hw, rfl⟩))
theorem BV.nm {τ : Hp} {N L : Nat} {lm lm' : Nat → Nat} (e : ∀ k, k < L → lm k = lm' k) (h : BV τ N L lm') : ∃ (b : Nat → Nat → Nat) (B : Nat → Nat) (l : Nat → Nat → Nat) (a : Nat → Nat → Nat), NM N L lm b B ∧ ∀ k, k < 4 → NB τ k (EQ N L lm).length (a k) (b k) (B k) (l k) := by
  obtain ⟨-, a, b, B, l, h2, h3, h4, -⟩ := h
  have e' : ∀ k, k < L → lm' k = lm k := fun k hk => (e k hk).symm
  rw [EQ_cg e'] at h2 h3 h4
  exact ⟨b, B, l, a, ⟨⟨a, fun k hk => (h2 k hk).1⟩, SB.un e' h3, h4⟩, h2⟩
theorem xv_box (x w : Int32) {σ : Hp} {a : Sx} (hX : XS σ a) : Ct m_P_box [.ref 0, .int x, .int w] σ (YX σ a (aeBx x w a)) := by
  obtain ⟨N, L, lm, s, e⟩ := a
  obtain ⟨M, hM, -⟩ := hX.2.2.2.2
  have hI := hX.1
  suffices H : Ct m_P_box [.ref 0, .int x, .int w] σ (Rq σ (aeBx x w (N, L, lm, s, e))) from H.im (fun w τ hr => hr.yx hX (fun z hz => hz))
  show WP m_P_box 0 [.ref 0, .int x, .int w] [] σ _
  refine wp_iload_n d_P_box_0 rfl ?_
  refine wp_iconst (v := 0) d_P_box_1 (by decide) ?_
  refine wp_iconst (v := 3) d_P_box_2 (by decide) ?_
  refine wp_callS3e d_P_box_3 cs_P_62 ⟨Nat.le_of_ble_eq_true rfl, Nat.le_of_ble_eq_true rfl⟩ (Nat.le_of_ble_eq_true rfl) (Nat.le_of_ble_eq_true rfl) (c_P_within _ _ _ _) ?_
  refine wp_if_ne (tgt := 11) d_P_box_6 (by decide) (fun hc => ?_) (fun hc => ?_)
  · obtain ⟨j, hj, rfl⟩ := wi_nI (m := 3) (by decide) (bz_n0 hc)
    refine wp_aload_n d_P_box_11 rfl ?_
    refine wp_getA d_P_box_12 fl_P_30 rfl rfl rfl ?_
    refine wp_callV0 d_P_box_15 cv_P_136 rfl rfl rfl ⟨Nat.le_of_ble_eq_true rfl, Nat.le_of_ble_eq_true rfl⟩ (Nat.le_of_ble_eq_true rfl) (Nat.le_of_ble_eq_true rfl) (v_B_ready _ hI hX.2.1 hM) (fun v τ hv => ?_)
    obtain ⟨hF, ⟨M', hM'⟩, hv⟩ := hv
    have hFp : Fp pS σ τ := hF.up (upS (by decide))
    rcases hv with ⟨rfl, hE⟩ | ⟨rfl, lm', un, hE, hBV⟩
    · show WP m_P_box 18 _ [.int 0] τ _
      refine wp_if_ne (tgt := 24) d_P_box_18 (by decide) (fun hc2 => ?_) (fun hc2 => ?_)
      · exact absurd rfl hc2
      · refine wp_bipush (v := -5) d_P_box_21 (by decide) ?_
        refine wp_iret d_P_box_23 rfl ?_
        exact ⟨⟨_, rfl, Or.inl ⟨j, hj, rfl, Or.inl ⟨hE.2.1, rfl⟩⟩⟩, hFp, M', hM'⟩
    · have hE : EL τ N L lm := hE.un (fun k hk => (un k hk).symm)
      obtain ⟨b, B, l, a, hN, hB⟩ := hBV.nm un
      have ans : ∀ z : Int32, Ar (EQ N L lm).length x (fun x => nI (b j x)) z → aeBx x (nI j) (N, L, lm, s, e) z := fun z hz => Or.inl ⟨j, hj, rfl, Or.inr ⟨hE.len, b, B, hN, hz⟩⟩
      show WP m_P_box 18 _ [.int 1] τ _
      refine wp_if_ne (tgt := 24) d_P_box_18 (by decide) (fun hc2 => ?_) (fun hc2 => ?_)
      · refine wp_aload_n d_P_box_24 rfl ?_
        refine wp_getA d_P_box_25 fl_P_21 rfl rfl rfl ?_
        refine wp_iload_n d_P_box_28 rfl ?_
        refine wp_callV1e d_P_box_29 cv_P_114 rfl rfl rfl ⟨Nat.le_of_ble_eq_true rfl, Nat.le_of_ble_eq_true rfl⟩ (Nat.le_of_ble_eq_true rfl) (Nat.le_of_ble_eq_true rfl) (c_E_has _ _) ?_
        refine wp_if_eq (tgt := 47) d_P_box_32 (by decide) (fun hc3 => ?_) (fun hc3 => ?_)
        · refine wp_iconst (v := -1) d_P_box_47 (by decide) ?_
          refine wp_iret d_P_box_48 rfl ?_
          exact ⟨⟨_, rfl, ans _ (Or.inr ⟨fun q => bz_0.mp hc3 ((has_bz hE).mpr q), rfl⟩)⟩, hFp, M', hM'⟩
        · obtain ⟨x, hx, rfl⟩ := (has_bz hE).mp (bz_n0 hc3)
          have h15 := hE.len
          refine wp_aload_n d_P_box_35 rfl ?_
          refine wp_getA d_P_box_36 fl_P_30 rfl rfl rfl ?_
          refine wp_iload_n d_P_box_39 rfl ?_
          refine wp_iload_n d_P_box_40 rfl ?_
          refine wp_callV2e d_P_box_41 cv_P_149 rfl rfl rfl ⟨Nat.le_of_ble_eq_true rfl, Nat.le_of_ble_eq_true rfl⟩ (Nat.le_of_ble_eq_true rfl) (Nat.le_of_ble_eq_true rfl) (c_B_numberOf _ _ _) ?_
          refine wp_goto (tgt := 48) d_P_box_44 (by decide) ?_
          refine wp_iret d_P_box_48 rfl ?_
          refine ⟨⟨_, rfl, ans _ (Or.inl ⟨x, hx, rfl, ?_⟩)⟩, hFp, M', hM'⟩
          rw [col_nI, rdA_in (by omega) (by decide)]
          exact (hB j (by omega)).2.1 x hx
      · exact absurd hc2 (by decide)
  · refine wp_iconst (v := -1) d_P_box_9 (by decide) ?_
    refine wp_iret d_P_box_10 rfl ?_
    exact ⟨⟨_, rfl, Or.inr ⟨bz_0.mp hc, rfl⟩⟩, Fp.rf, M, hM⟩
theorem un_box {x w z z' : Int32} {a : Sx} (h : aeBx x w a z) (h' : aeBx x w a z') : z = z' := by
  obtain ⟨N, L, lm, s, e⟩ := a
  rcases h with ⟨j, hj, rfl, h⟩ | ⟨h, rfl⟩ <;> rcases h' with ⟨j', hj', e', h'⟩ | ⟨h', rfl⟩
  · obtain rfl : j = j' := (nI_eq (by omega) (by omega)).mp e'
    rcases h with ⟨h, rfl⟩ | ⟨h, b, B, hN, hA⟩ <;> rcases h' with ⟨h', rfl⟩ | ⟨h', b', B', hN', hA'⟩
    · rfl
    · omega
    · omega
    · have hu := (hN.un hN' j (by omega)).1
      have hA2 : Ar (EQ N L lm).length x (fun x => nI (b j x)) z' := by
        rcases hA' with ⟨y, hy, ey, rfl⟩ | hA'
        · exact Or.inl ⟨y, hy, ey, by
            try dsimp only
            rw [hu y hy]⟩
        · exact Or.inr hA'
      exact hA.un h hA2
  · exact absurd (in_nI hj (by decide)) h'
  · rw [e'] at h
    exact absurd (in_nI hj' (by decide)) h
  · rfl
