/-! contracts: reached, alike, least, meaning, taken, as the reference has them -/
def rcS (N L : Nat) (lm : Nat → Nat) (S : Nat) : Nat := it (fun l S => S ||| imN N (lm l) S) L S
theorem rcS_le {N : Nat} {lm : Nat → Nat} {S : Nat} : ∀ l, S ≤ it (fun l S => S ||| imN N (lm l) S) l S
  | 0 => Nat.le_refl _
  | l + 1 => Nat.le_trans (rcS_le l) Nat.left_le_or
theorem rcS_lt {N : Nat} {lm : Nat → Nat} {S : Nat} (hN : 0 < N) (hS : S < 2 ^ N) : ∀ l, it (fun l S => S ||| imN N (lm l) S) l S < 2 ^ N
  | 0 => hS
  | l + 1 => Nat.or_lt_two_pow (rcS_lt hN hS l) (imN_lt hN)
/-- some number of rounds, and then nothing more comes -/
def RcOf (N L : Nat) (lm : Nat → Nat) (s S : Nat) : Prop := S < 2 ^ N ∧ rcS N L lm S = S ∧ ∃ k, S = it (fun _ S => rcS N L lm S) k (2 ^ s)
theorem c_M_reached {s N L : Nat} {lm : Nat → Nat} (σ : Hp) (hB : MB σ N) (hL : LT σ N L lm) (hs : s < N) (h4 : σ.1 56 4 = nI s) : Ct m_M_reached [.ref 56] σ (fun w τ => τ = σ ∧ ∃ S, w = some (.int (nI S)) ∧ RcOf N L lm s S) := by
  have h6 := hB.2.2
  have hp6 := pow6 h6
  have h2 := pow2_le6 h6
  have hL4 := hL.2.1
  show WP m_M_reached 0 [.ref 56, .null, .null, .null] [] σ _
  refine wp_iconst (v := 1) d_M_reached_0 (by decide) ?_
  refine wp_aload_n d_M_reached_1 rfl ?_
  refine wp_getI d_M_reached_2 fl_M_107 rfl rfl (by decide) ?_
  refine wp_ishl d_M_reached_5 ?_
  refine wp_istore1 d_M_reached_6 (by decide) rfl ?_
  refine wp_iconst (v := 0) d_M_reached_7 (by decide) ?_
  refine wp_istore2 d_M_reached_8 (by decide) rfl ?_
  rw [h4, sh_nI (by omega)]
  have hp0 : 0 < 2 ^ s := Nat.two_pow_pos s
  suffices H : ∀ d k S (bf : Nat) (x3 : Value), 2 ^ N - S < d → 0 < S → S < 2 ^ N → S = it (fun _ S => rcS N L lm S) k (2 ^ s) → bf < 2 ^ N → (S = bf → rcS N L lm S = S) → WP m_M_reached 9 [.ref 56, .int (nI S), .int (nI bf), x3] [] σ (fun w τ => τ = σ ∧ ∃ S, w = some (.int (nI S)) ∧ RcOf N L lm s S) from H _ 0 (2 ^ s) 0 _ (Nat.lt_succ_self _) hp0 (pow2_lt hs) rfl (Nat.two_pow_pos N) (fun e => by omega)
  intro d
  induction d with
  | zero => intro k S bf x3 hd; exact absurd hd (Nat.not_lt_zero _)
  | succ d ihd =>
    intro k S bf x3 hd h0 hS hk hbf hcl
    refine wp_iload_n d_M_reached_9 rfl ?_
    refine wp_iload_n d_M_reached_10 rfl ?_
    refine wp_icmp_eq (tgt := 49) d_M_reached_11 (by decide) (fun hc => ?_) (fun hc => ?_)
    · rw [nI_eq (by omega) (by omega)] at hc
      refine wp_iload_n d_M_reached_49 rfl ?_
      refine wp_iret d_M_reached_50 rfl ?_
      exact ⟨rfl, S, rfl, hS, hcl hc, k, hk⟩
    · refine wp_iload_n d_M_reached_14 rfl ?_
      refine wp_istore2 d_M_reached_15 (by decide) rfl ?_
      refine wp_iconst (v := 0) d_M_reached_16 (by decide) ?_
      refine wp_istore3 d_M_reached_17 (by decide) rfl ?_
      suffices H : ∀ l, l ≤ L → WP m_M_reached 18 [.ref 56, .int (nI (it (fun l S => S ||| imN N (lm l) S) l S)), .int (nI S), .int (nI l)] [] σ (fun w τ => τ = σ ∧ ∃ S, w = some (.int (nI S)) ∧ RcOf N L lm s S) from H 0 (Nat.zero_le _)
      refine lp_nat (fun l hl ih => ?_)
      have hlt := rcS_lt (lm := lm) hB.2.1 hS l
      refine wp_iload_n d_M_reached_18 rfl ?_
      refine wp_aload_n d_M_reached_19 rfl ?_
      refine wp_getI d_M_reached_20 fl_M_104 rfl rfl (by decide) ?_
      refine wp_icmp_ge (tgt := 46) d_M_reached_23 (by decide) (fun hc2 => ?_) (fun hc2 => ?_)
      · rw [hL.1] at hc2
        obtain rfl := Nat.le_antisymm hl (nI_ge2 hc2 (by omega) (by omega))
        have hle := rcS_le (N := N) (lm := lm) (S := S) l
        refine wp_goto (tgt := 9) d_M_reached_46 (by decide) ?_
        by_cases q : rcS N l lm S = S
        · rw [show it (fun l S => S ||| imN N (lm l) S) l S = S from q]
          refine wp_iload_n d_M_reached_9 rfl ?_
          refine wp_iload_n d_M_reached_10 rfl ?_
          refine wp_icmp_eq (tgt := 49) d_M_reached_11 (by decide) (fun hc3 => ?_) (fun hc3 => ?_)
          · refine wp_iload_n d_M_reached_49 rfl ?_
            refine wp_iret d_M_reached_50 rfl ?_
            exact ⟨rfl, S, rfl, hS, q, k, hk⟩
          · exact absurd rfl hc3
        · refine ihd (k + 1) _ S _ ?_ (Nat.lt_of_lt_of_le h0 hle) hlt ?_ hS (fun e => absurd e q)
          · have : S ≠ it (fun l S => S ||| imN N (lm l) S) l S := fun e => q e.symm
            omega
          · show rcS N l lm S = rcS N l lm (it (fun _ S => rcS N l lm S) k (2 ^ s))
            rw [← hk]
      · rw [hL.1] at hc2
        have hl2 := nI_nge hc2 (by omega) (by omega)
        obtain ⟨l1, l2⟩ := hL.2.2 l hl2
        refine wp_iload_n d_M_reached_26 rfl ?_
        refine wp_aload_n d_M_reached_27 rfl ?_
        refine wp_iload_n d_M_reached_28 rfl ?_
        refine wp_aload_n d_M_reached_29 rfl ?_
        refine wp_getA d_M_reached_30 fl_M_13 rfl rfl rfl ?_
        refine wp_iload_n d_M_reached_33 rfl ?_
        refine wp_iald d_M_reached_34 rfl ?_ ?_
        · exact vp_in_nI (n := l) (by omega) (by decide)
        rw [nI_clamp (show l < 2 ^ 31 by omega), l1]
        refine wp_callV2e d_M_reached_35 cv_M_186 rfl rfl rfl ⟨Nat.le_of_ble_eq_true rfl, Nat.le_of_ble_eq_true rfl⟩ (Nat.le_of_ble_eq_true rfl) (Nat.le_of_ble_eq_true rfl) (c_M_image (by omega) (by omega) _ hB) ?_
        refine wp_ior d_M_reached_38 ?_
        refine wp_istore1 d_M_reached_39 (by decide) rfl ?_
        refine wp_iinc3 d_M_reached_40 (hn_ii1 _) (by decide) rfl ?_
        refine wp_goto (tgt := 18) d_M_reached_43 (by decide) ?_
        rw [nI_1, or_nI]
        exact ih hl2
def alN (N L : Nat) (lm h : Nat → Nat) (a b : Nat) : Bool := decide (h a = h b) && (List.range L).all (fun l => decide (h (gN N (lm l) a) = h (gN N (lm l) b)))
theorem all_f {L : Nat} {p : Nat → Bool} {l : Nat} (hl : l ≤ L) (h : (List.range l).all p = false) : (List.range L).all p = false := by
  rw [List.all_eq_false] at h ⊢
  obtain ⟨x, hx, hx2⟩ := h
  exact ⟨x, List.mem_range.mpr (Nat.lt_of_lt_of_le (List.mem_range.mp hx) hl), hx2⟩
theorem c_M_isAlike {a b N L : Nat} {lm h : Nat → Nat} (ha : a < N) (hb : b < N) (σ : Hp) (hB : MB σ N) (hL : LT σ N L lm) (hR : HR σ N h) (hlt : ∀ i, i < N → h i < 2 ^ 31) : Ct m_M_isAlike [.ref 56, .int (nI a), .int (nI b)] σ (Rt (.int (bz (alN N L lm h a b = true))) σ) := by
  have h6 := hB.2.2
  have hp6 := pow6 h6
  have h4 := hL.2.1
  have la := hlt a ha
  have lb := hlt b hb
  show WP m_M_isAlike 0 [.ref 56, .int (nI a), .int (nI b), .null, .null] [] σ _
  have lp : ∀ l, l ≤ L → ∀ c : Bool, c = (decide (h a = h b) && (List.range l).all (fun l => decide (h (gN N (lm l) a) = h (gN N (lm l) b)))) → WP m_M_isAlike 24 [.ref 56, .int (nI a), .int (nI b), .int (bz (c = true)), .int (nI l)] [] σ (Rt (.int (bz (alN N L lm h a b = true))) σ) := by
    refine lp_nat (fun l hl ih c hc0 => ?_)
    refine wp_iload d_M_isAlike_24 rfl ?_
    refine wp_aload_n d_M_isAlike_26 rfl ?_
    refine wp_getI d_M_isAlike_27 fl_M_104 rfl rfl (by decide) ?_
    refine wp_icmp_ge (tgt := 86) d_M_isAlike_30 (by decide) (fun h2 => ?_) (fun h2 => ?_)
    · rw [hL.1] at h2
      obtain rfl := Nat.le_antisymm hl (nI_ge2 h2 (by omega) (by omega))
      refine wp_iload_n d_M_isAlike_86 rfl ?_
      refine wp_zret d_M_isAlike_87 rfl ?_ ?_
      · exact bz_nar
      · rw [hc0]; exact ⟨rfl, rfl⟩
    · rw [hL.1] at h2
      have hl2 := nI_nge h2 (by omega) (by omega)
      refine wp_iload_n d_M_isAlike_33 rfl ?_
      refine wp_if_eq (tgt := 86) d_M_isAlike_34 (by decide) (fun h3 => ?_) (fun h3 => ?_)
      · have h3 := bz_0.mp h3
        refine wp_iload_n d_M_isAlike_86 rfl ?_
        refine wp_zret d_M_isAlike_87 rfl ?_ ?_
        · exact bz_nar
        · have hcf : c = false := by cases c with
            | false => rfl
            | true => exact absurd rfl h3
          have : alN N L lm h a b = c := by
            rw [hcf] at hc0 ⊢
            unfold alN
            cases q : decide (h a = h b) with
            | false => rw [Bool.false_and]
            | true =>
              rw [q, Bool.true_and] at hc0
              rw [Bool.true_and]
              exact all_f hl hc0.symm
          rw [this]
          exact ⟨rfl, rfl⟩
      · have h3 := bz_n0 h3
        obtain ⟨l1, l2⟩ := hL.2.2 l hl2
        have g1 := gN_lt (N := N) (m := lm l) (i := a) hB.2.1
        have g2 := gN_lt (N := N) (m := lm l) (i := b) hB.2.1
        have lg1 := hlt _ g1
        have lg2 := hlt _ g2
        have hs : (decide (h a = h b) && (List.range (l + 1)).all (fun l => decide (h (gN N (lm l) a) = h (gN N (lm l) b)))) = decide (h (gN N (lm l) a) = h (gN N (lm l) b)) := by
          rw [List.range_succ, List.all_append, ← Bool.and_assoc, ← hc0, h3]
          simp
        refine wp_aload_n d_M_isAlike_37 rfl ?_
        refine wp_getA d_M_isAlike_38 fl_M_73 rfl rfl rfl ?_
        refine wp_aload_n d_M_isAlike_41 rfl ?_
        refine wp_aload_n d_M_isAlike_42 rfl ?_
        refine wp_getA d_M_isAlike_43 fl_M_13 rfl rfl rfl ?_
        refine wp_iload d_M_isAlike_46 rfl ?_
        refine wp_iald d_M_isAlike_48 rfl ?_ ?_
        · exact vp_in_nI (n := l) (by omega) (by decide)
        rw [nI_clamp (show l < 2 ^ 31 by omega), l1]
        refine wp_iload_n d_M_isAlike_49 rfl ?_
        refine wp_callV2e d_M_isAlike_50 cv_M_96 rfl rfl rfl ⟨Nat.le_of_ble_eq_true rfl, Nat.le_of_ble_eq_true rfl⟩ (Nat.le_of_ble_eq_true rfl) (Nat.le_of_ble_eq_true rfl) (c_M_goes (by omega) (by omega) _ hB) ?_
        refine wp_iald d_M_isAlike_53 rfl ?_ ?_
        · exact vp_in_nI (n := gN N (lm l) a) (by omega) (by decide)
        rw [nI_clamp (show gN N (lm l) a < 2 ^ 31 by omega), hR _ g1]
        refine wp_aload_n d_M_isAlike_54 rfl ?_
        refine wp_getA d_M_isAlike_55 fl_M_73 rfl rfl rfl ?_
        refine wp_aload_n d_M_isAlike_58 rfl ?_
        refine wp_aload_n d_M_isAlike_59 rfl ?_
        refine wp_getA d_M_isAlike_60 fl_M_13 rfl rfl rfl ?_
        refine wp_iload d_M_isAlike_63 rfl ?_
        refine wp_iald d_M_isAlike_65 rfl ?_ ?_
        · exact vp_in_nI (n := l) (by omega) (by decide)
        rw [nI_clamp (show l < 2 ^ 31 by omega), l1]
        refine wp_iload_n d_M_isAlike_66 rfl ?_
        refine wp_callV2e d_M_isAlike_67 cv_M_96 rfl rfl rfl ⟨Nat.le_of_ble_eq_true rfl, Nat.le_of_ble_eq_true rfl⟩ (Nat.le_of_ble_eq_true rfl) (Nat.le_of_ble_eq_true rfl) (c_M_goes (by omega) (by omega) _ hB) ?_
        refine wp_iald d_M_isAlike_70 rfl ?_ ?_
        · exact vp_in_nI (n := gN N (lm l) b) (by omega) (by decide)
        rw [nI_clamp (show gN N (lm l) b < 2 ^ 31 by omega), hR _ g2]
        refine wp_icmp_ne (tgt := 78) d_M_isAlike_71 (by decide) (fun h5 => ?_) (fun h5 => ?_)
        · rw [nI_eq lg1 lg2] at h5
          refine wp_iconst (v := 0) d_M_isAlike_78 (by decide) ?_
          refine wp_istore3 d_M_isAlike_79 (by decide) rfl ?_
          refine wp_iinc4 d_M_isAlike_80 (hn_ii1 _) (by decide) rfl ?_
          refine wp_goto (tgt := 24) d_M_isAlike_83 (by decide) ?_
          rw [nI_1]
          exact ih hl2 false (by rw [hs, decide_eq_false h5])
        · rw [nI_eq lg1 lg2] at h5
          refine wp_iconst (v := 1) d_M_isAlike_74 (by decide) ?_
          refine wp_goto (tgt := 79) d_M_isAlike_75 (by decide) ?_
          refine wp_istore3 d_M_isAlike_79 (by decide) rfl ?_
          refine wp_iinc4 d_M_isAlike_80 (hn_ii1 _) (by decide) rfl ?_
          refine wp_goto (tgt := 24) d_M_isAlike_83 (by decide) ?_
          rw [nI_1]
          exact ih hl2 true (by rw [hs, decide_eq_true h5])
  refine wp_aload_n d_M_isAlike_0 rfl ?_
  refine wp_getA d_M_isAlike_1 fl_M_73 rfl rfl rfl ?_
  refine wp_iload_n d_M_isAlike_4 rfl ?_
  refine wp_iald d_M_isAlike_5 rfl ?_ ?_
  · exact vp_in_nI (n := a) (by omega) (by decide)
  rw [nI_clamp (show a < 2 ^ 31 by omega), hR a ha]
  refine wp_aload_n d_M_isAlike_6 rfl ?_
  refine wp_getA d_M_isAlike_7 fl_M_73 rfl rfl rfl ?_
  refine wp_iload_n d_M_isAlike_10 rfl ?_
  refine wp_iald d_M_isAlike_11 rfl ?_ ?_
  · exact vp_in_nI (n := b) (by omega) (by decide)
  rw [nI_clamp (show b < 2 ^ 31 by omega), hR b hb]
  refine wp_icmp_ne (tgt := 19) d_M_isAlike_12 (by decide) (fun h1 => ?_) (fun h1 => ?_)
  · rw [nI_eq la lb] at h1
    refine wp_iconst (v := 0) d_M_isAlike_19 (by decide) ?_
    refine wp_istore3 d_M_isAlike_20 (by decide) rfl ?_
    refine wp_iconst (v := 0) d_M_isAlike_21 (by decide) ?_
    refine wp_istore4 d_M_isAlike_22 (by decide) rfl ?_
    exact lp 0 (Nat.zero_le _) false (by rw [decide_eq_false h1]; rfl)
  · rw [nI_eq la lb] at h1
    refine wp_iconst (v := 1) d_M_isAlike_15 (by decide) ?_
    refine wp_goto (tgt := 20) d_M_isAlike_16 (by decide) ?_
    refine wp_istore3 d_M_isAlike_20 (by decide) rfl ?_
    refine wp_iconst (v := 0) d_M_isAlike_21 (by decide) ?_
    refine wp_istore4 d_M_isAlike_22 (by decide) rfl ?_
    exact lp 0 (Nat.zero_le _) true (by rw [decide_eq_true h1]; rfl)
/-- one round: those that go alike are named alike, in order -/
def rdS (N L : Nat) (lm h : Nat → Nat) (i : Nat) (q : (Nat → Nat) × Nat) : (Nat → Nat) × Nat :=
  if sr (fun l => alN N L lm h l i = true) i 0 < i then (fun j => if j = i then q.1 (sr (fun l => alN N L lm h l i = true) i 0) else q.1 j, q.2) else (fun j => if j = i then q.2 else q.1 j, q.2 + 1)
def rdQ (N L : Nat) (lm h : Nat → Nat) (i : Nat) : (Nat → Nat) × Nat := it (rdS N L lm h) i (fun _ => 0, 0)
def rdF' (N L : Nat) (lm h : Nat → Nat) : Nat → Nat := (rdQ N L lm h N).1
theorem rdQ_lt {N L : Nat} {lm h : Nat → Nat} : ∀ i, (rdQ N L lm h i).2 ≤ i ∧ ∀ j, j < i → (rdQ N L lm h i).1 j < (rdQ N L lm h i).2
  | 0 => ⟨Nat.le_refl _, fun j hj => absurd hj (Nat.not_lt_zero j)⟩
  | i + 1 => by
    obtain ⟨a1, a2⟩ := rdQ_lt (N := N) (L := L) (lm := lm) (h := h) i
    have e : rdQ N L lm h (i + 1) = rdS N L lm h i (rdQ N L lm h i) := rfl
    rw [e, rdS]
    split
    · rename_i q
      refine ⟨by omega, fun j hj => ?_⟩
      show (if j = i then _ else _) < _
      split
      · exact a2 _ q
      · exact a2 j (by omega)
    · refine ⟨by show _ + 1 ≤ _; omega, fun j hj => ?_⟩
      show (if j = i then _ else _) < _ + 1
      split
      · omega
      · have := a2 j (by omega)
        omega
def enH (e : Nat) : Nat → Nat := fun i => e / 2 ^ i % 2
/-- six rounds, beginning with the ends -/
def alH (N L : Nat) (lm : Nat → Nat) (e : Nat) (k : Nat) : Nat → Nat := it (fun _ h => rdF' N L lm h) k (enH e)
theorem alH_lt {N L : Nat} {lm : Nat → Nat} {e : Nat} : ∀ k i, i < N → alH N L lm e k i < 2 + N
  | 0, i, hi => by
    have := Nat.mod_lt (e / 2 ^ i) (show 0 < 2 by decide)
    show e / 2 ^ i % 2 < _
    omega
  | k + 1, i, hi => by
    obtain ⟨a1, a2⟩ := rdQ_lt (N := N) (L := L) (lm := lm) (h := alH N L lm e k) N
    have := a2 i hi
    show (rdQ N L lm (alH N L lm e k) N).1 i < _
    omega
def hsN (N S : Nat) (h : Nat → Nat) : Nat := it (fun i v => v ||| (if S / 2 ^ i % 2 = 1 then 2 ^ h i else 0)) N 0
/-- 6, so written that it isn't counted out -/
def six (N : Nat) : Nat := 6 + 0 * N
theorem six_eq (N : Nat) : six N = 6 := by rw [six, Nat.zero_mul]
def hS77 : List Nat := [76, 77]
theorem alH_s {N L : Nat} {lm : Nat → Nat} {e k : Nat} : alH N L lm e (k + 1) = rdF' N L lm (alH N L lm e k) := rfl
theorem c_M_alike {S e N L : Nat} {lm : Nat → Nat} (σ : Hp) (hB : MB σ N) (hL : LT σ N L lm) (he : e < 2 ^ N) (h5 : σ.1 56 5 = nI e) (hS : S < 2 ^ N) : Ct m_M_alike [.ref 56, .int (nI S)] σ (fun w τ => w = some (.int (nI (pcN (hsN N S (alH N L lm e (six N)))))) ∧ Fp hS77 σ τ ∧ HR τ N (alH N L lm e (six N))) := by
  have h6 := hB.2.2
  have hp6 := pow6 h6
  have h2 := pow2_le6 h6
  have hL4 := hL.2.1
  show WP m_M_alike 0 [.ref 56, .int (nI S), .null, .null, .null, .null] [] σ _
  -- the last part: the heaps of the set are counted
  have last : ∀ (τ : Hp) (x2 x3 x4 x5 : Value), x2.category = 1 → Fp hS77 σ τ → HR τ N (alH N L lm e (six N)) → WP m_M_alike 158 [.ref 56, .int (nI S), x2, x3, x4, x5] [] τ (fun w τ => w = some (.int (nI (pcN (hsN N S (alH N L lm e (six N)))))) ∧ Fp hS77 σ τ ∧ HR τ N (alH N L lm e (six N))) := by
    intro τ x2 x3 x4 x5 hx2 hF hR
    have hB1 := hF.MB (by decide) hB
    have hlt : ∀ i, i < N → alH N L lm e (six N) i < N := by
      intro i hi
      rw [six_eq]
      obtain ⟨a1, a2⟩ := rdQ_lt (N := N) (L := L) (lm := lm) (h := alH N L lm e 5) N
      have := a2 i hi
      show (rdQ N L lm (alH N L lm e 5) N).1 i < N
      omega
    have hor : ∀ k, k ≤ N → it (fun i v => v ||| (if S / 2 ^ i % 2 = 1 then 2 ^ alH N L lm e (six N) i else 0)) k 0 < 2 ^ N := by
      refine it_or_lt (fun i hi => ?_)
      split
      · exact pow2_lt (hlt i hi)
      · exact Nat.two_pow_pos N
    refine wp_iconst (v := 0) d_M_alike_158 (by decide) ?_
    refine wp_istore2 d_M_alike_159 (by decide) rfl ?_
    refine wp_iconst (v := 0) d_M_alike_160 (by decide) ?_
    refine wp_istore3 d_M_alike_161 (by decide) rfl ?_
    suffices H : ∀ k, k ≤ N → WP m_M_alike 162 [.ref 56, .int (nI S), .int (nI (it (fun i v => v ||| (if S / 2 ^ i % 2 = 1 then 2 ^ alH N L lm e (six N) i else 0)) k 0)), .int (nI k), x4, x5] [] τ (fun w τ => w = some (.int (nI (pcN (hsN N S (alH N L lm e (six N)))))) ∧ Fp hS77 σ τ ∧ HR τ N (alH N L lm e (six N))) from H 0 (Nat.zero_le _)
    refine lp_nat (fun k hk ih => ?_)
    have hv := hor k hk
    refine wp_iload_n d_M_alike_162 rfl ?_
    refine wp_aload_n d_M_alike_163 rfl ?_
    refine wp_getI d_M_alike_164 fl_M_7 rfl rfl (by decide) ?_
    refine wp_icmp_ge (tgt := 200) d_M_alike_167 (by decide) (fun hc => ?_) (fun hc => ?_)
    · rw [hB1.1] at hc
      obtain rfl := Nat.le_antisymm hk (nI_ge2 hc (by omega) (by omega))
      refine wp_iload_n d_M_alike_200 rfl ?_
      refine wp_callS1e d_M_alike_201 cs_M_155 ⟨Nat.le_of_ble_eq_true rfl, Nat.le_of_ble_eq_true rfl⟩ (Nat.le_of_ble_eq_true rfl) (Nat.le_of_ble_eq_true rfl) (c_M_ones (by omega) _) ?_
      refine wp_iret d_M_alike_204 rfl ?_
      exact ⟨rfl, hF, hR⟩
    · rw [hB1.1] at hc
      have hk2 := nI_nge hc (by omega) (by omega)
      have fin : ∀ z, z = (if S / 2 ^ k % 2 = 1 then 2 ^ alH N L lm e (six N) k else 0) → WP m_M_alike 192 [.ref 56, .int (nI S), .int (nI (it (fun i v => v ||| (if S / 2 ^ i % 2 = 1 then 2 ^ alH N L lm e (six N) i else 0)) k 0)), .int (nI k), x4, x5] [.int (nI z), .int (nI (it (fun i v => v ||| (if S / 2 ^ i % 2 = 1 then 2 ^ alH N L lm e (six N) i else 0)) k 0))] τ (fun w τ => w = some (.int (nI (pcN (hsN N S (alH N L lm e (six N)))))) ∧ Fp hS77 σ τ ∧ HR τ N (alH N L lm e (six N))) := by
        intro z hz
        refine wp_ior d_M_alike_192 ?_
        refine wp_istore2 d_M_alike_193 (by decide) rfl ?_
        refine wp_iinc3 d_M_alike_194 (hn_ii1 _) (by decide) rfl ?_
        refine wp_goto (tgt := 162) d_M_alike_197 (by decide) ?_
        rw [nI_1, or_nI, hz]
        exact ih hk2
      refine wp_iload_n d_M_alike_170 rfl ?_
      refine wp_iload_n d_M_alike_171 rfl ?_
      refine wp_iload_n d_M_alike_172 rfl ?_
      refine wp_ishr d_M_alike_173 ?_
      refine wp_iconst (v := 1) d_M_alike_174 (by decide) ?_
      refine wp_iand d_M_alike_175 ?_
      refine wp_iconst (v := 1) d_M_alike_176 (by decide) ?_
      rw [bt_nI (by omega) (by omega)]
      have hm := Nat.mod_lt (S / 2 ^ k) (show 0 < 2 by decide)
      refine wp_icmp_ne (tgt := 191) d_M_alike_177 (by decide) (fun hc2 => ?_) (fun hc2 => ?_)
      · rw [show (1 : Int32) = nI 1 from rfl, nI_eq (by omega) (by omega)] at hc2
        refine wp_iconst (v := 0) d_M_alike_191 (by decide) ?_
        exact fin 0 (by rw [if_neg hc2])
      · rw [show (1 : Int32) = nI 1 from rfl, nI_eq (by omega) (by omega)] at hc2
        have hk3 := hlt k hk2
        refine wp_iconst (v := 1) d_M_alike_180 (by decide) ?_
        refine wp_aload_n d_M_alike_181 rfl ?_
        refine wp_getA d_M_alike_182 fl_M_73 rfl rfl rfl ?_
        refine wp_iload_n d_M_alike_185 rfl ?_
        refine wp_iald d_M_alike_186 rfl ?_ ?_
        · exact vp_in_nI (n := k) (by omega) (by decide)
        rw [nI_clamp (show k < 2 ^ 31 by omega), hR k hk2]
        refine wp_ishl d_M_alike_187 ?_
        rw [sh_nI (by omega)]
        refine wp_goto (tgt := 192) d_M_alike_188 (by decide) ?_
        exact fin _ (by rw [if_pos hc2])
  -- the rounds
  have rounds : ∀ r, r ≤ 6 → ∀ (τ : Hp) (x3 x4 x5 : Value), x3.category = 1 → x4.category = 1 → Fp hS77 σ τ → HR τ N (alH N L lm e r) → WP m_M_alike 32 [.ref 56, .int (nI S), .int (nI r), x3, x4, x5] [] τ (fun w τ => w = some (.int (nI (pcN (hsN N S (alH N L lm e (six N)))))) ∧ Fp hS77 σ τ ∧ HR τ N (alH N L lm e (six N))) := by
    refine lp_nat (fun r hr ihr τ x3 x4 x5 hx3 hx4 hF hR => ?_)
    refine wp_iload_n d_M_alike_32 rfl ?_
    refine wp_bipush (v := 6) d_M_alike_33 (by decide) ?_
    refine wp_icmp_ge (tgt := 158) d_M_alike_35 (by decide) (fun hc => ?_) (fun hc => ?_)
    · obtain rfl := Nat.le_antisymm hr (nI_ge2 (b := 6) hc (by omega) (by omega))
      exact last τ _ _ _ _ rfl hF (by rw [six_eq]; exact hR)
    · have hr2 := nI_nge (b := 6) hc (by omega) (by omega)
      obtain ⟨h, hh⟩ : ∃ h, h = alH N L lm e r := ⟨_, rfl⟩
      have hlt : ∀ i, i < N → h i < 2 ^ 31 := fun i hi => by
        have := alH_lt (N := N) (L := L) (lm := lm) (e := e) r i hi
        rw [hh]
        omega
      rw [← hh] at hR
      refine wp_iconst (v := 0) d_M_alike_38 (by decide) ?_
      refine wp_istore3 d_M_alike_39 (by decide) rfl ?_
      refine wp_iconst (v := 0) d_M_alike_40 (by decide) ?_
      refine wp_istore4 d_M_alike_41 (by decide) rfl ?_
      suffices H : ∀ i, i ≤ N → ∀ (τ : Hp) (x5 : Value), Fp hS77 σ τ → HR τ N h → (∀ j, j < i → τ.1 77 j = nI ((rdQ N L lm h i).1 j)) → WP m_M_alike 43 [.ref 56, .int (nI S), .int (nI r), .int (nI (rdQ N L lm h i).2), .int (nI i), x5] [] τ (fun w τ => w = some (.int (nI (pcN (hsN N S (alH N L lm e (six N)))))) ∧ Fp hS77 σ τ ∧ HR τ N (alH N L lm e (six N))) from H 0 (Nat.zero_le _) τ _ hF hR (fun j hj => absurd hj (Nat.not_lt_zero j))
      clear hF hR τ
      refine lp_nat (fun i hi ihi τ x5 hF hR hn => ?_)
      have hB1 := hF.MB (by decide) hB
      have hL1 := hF.LT (by decide) (by decide) hL
      refine wp_iload d_M_alike_43 rfl ?_
      refine wp_aload_n d_M_alike_45 rfl ?_
      refine wp_getI d_M_alike_46 fl_M_7 rfl rfl (by decide) ?_
      refine wp_icmp_ge (tgt := 120) d_M_alike_49 (by decide) (fun hc2 => ?_) (fun hc2 => ?_)
      · rw [hB1.1] at hc2
        obtain rfl := Nat.le_antisymm hi (nI_ge2 hc2 (by omega) (by omega))
        refine wp_iconst (v := 0) d_M_alike_120 (by decide) ?_
        refine wp_istore4 d_M_alike_121 (by decide) rfl ?_
        suffices H : ∀ k, k ≤ i → ∀ (τ : Hp), Fp hS77 σ τ → (∀ j, j < i → τ.1 77 j = nI (rdF' i L lm h j)) → (∀ j, j < k → τ.1 76 j = nI (rdF' i L lm h j)) → WP m_M_alike 123 [.ref 56, .int (nI S), .int (nI r), .int (nI (rdQ i L lm h i).2), .int (nI k), x5] [] τ (fun w τ => w = some (.int (nI (pcN (hsN i S (alH i L lm e (six i)))))) ∧ Fp hS77 σ τ ∧ HR τ i (alH i L lm e (six i))) from H 0 (Nat.zero_le _) τ hF hn (fun j hj => absurd hj (Nat.not_lt_zero j))
        clear hn hR hF hB1 hL1 τ
        refine lp_nat (fun k hk ihk τ hF h77 h76 => ?_)
        have hB1 := hF.MB (by decide) hB
        refine wp_iload d_M_alike_123 rfl ?_
        refine wp_aload_n d_M_alike_125 rfl ?_
        refine wp_getI d_M_alike_126 fl_M_7 rfl rfl (by decide) ?_
        refine wp_icmp_ge (tgt := 152) d_M_alike_129 (by decide) (fun hc3 => ?_) (fun hc3 => ?_)
        · rw [hB1.1] at hc3
          obtain rfl := Nat.le_antisymm hk (nI_ge2 hc3 (by omega) (by omega))
          refine wp_iinc2 d_M_alike_152 (hn_ii1 _) (by decide) rfl ?_
          refine wp_goto (tgt := 32) d_M_alike_155 (by decide) ?_
          rw [nI_1]
          exact ihr hr2 τ _ _ _ rfl rfl hF (fun j hj => by rw [alH_s, ← hh]; exact h76 j hj)
        · rw [hB1.1] at hc3
          have hk2 := nI_nge hc3 (by omega) (by omega)
          refine wp_aload_n d_M_alike_132 rfl ?_
          refine wp_getA d_M_alike_133 fl_M_73 rfl rfl rfl ?_
          refine wp_iload d_M_alike_136 rfl ?_
          refine wp_aload_n d_M_alike_138 rfl ?_
          refine wp_getA d_M_alike_139 fl_M_76 rfl rfl rfl ?_
          refine wp_iload d_M_alike_142 rfl ?_
          refine wp_iald d_M_alike_144 rfl ?_ ?_
          · exact vp_in_nI (n := k) (by omega) (by decide)
          rw [nI_clamp (show k < 2 ^ 31 by omega), h77 k hk2]
          refine wp_iast d_M_alike_145 rfl ?_ ?_
          · exact vp_in_nI (n := k) (by omega) (by decide)
          rw [nI_clamp (show k < 2 ^ 31 by omega)]
          refine wp_iinc4 d_M_alike_146 (hn_ii1 _) (by decide) rfl ?_
          refine wp_goto (tgt := 123) d_M_alike_149 (by decide) ?_
          rw [nI_1]
          refine ihk hk2 _ (hF.wI (by decide)) (fun j hj => by rw [wI_ne (by decide)]; exact h77 j hj) (fun j hj => ?_)
          rw [wI_eq]
          by_cases q : j = k
          · rw [q, upd_eq]
          · rw [upd_ne q]; exact h76 j (by omega)
      · rw [hB1.1] at hc2
        have hi2 := nI_nge hc2 (by omega) (by omega)
        obtain ⟨qa, qb⟩ := rdQ_lt (N := N) (L := L) (lm := lm) (h := h) i
        have hsr : sr (fun l => alN N L lm h l i = true) i 0 ≤ i := by have := sr_le (fun l => alN N L lm h l i = true) i 0; omega
        have fin : ∀ j, j = sr (fun l => alN N L lm h l i = true) i 0 → WP m_M_alike 79 [.ref 56, .int (nI S), .int (nI r), .int (nI (rdQ N L lm h i).2), .int (nI i), .int (nI j)] [] τ (fun w τ => w = some (.int (nI (pcN (hsN N S (alH N L lm e (six N)))))) ∧ Fp hS77 σ τ ∧ HR τ N (alH N L lm e (six N))) := by
          intro j hj
          have hsr2 : j ≤ i := by omega
          have e1 : rdQ N L lm h (i + 1) = rdS N L lm h i (rdQ N L lm h i) := rfl
          refine wp_iload d_M_alike_79 rfl ?_
          refine wp_iload d_M_alike_81 rfl ?_
          refine wp_icmp_ge (tgt := 103) d_M_alike_83 (by decide) (fun hc3 => ?_) (fun hc3 => ?_)
          · have hc3 := nI_ge2 hc3 (by omega) (by omega)
            have e2 : rdQ N L lm h (i + 1) = (fun j => if j = i then (rdQ N L lm h i).2 else (rdQ N L lm h i).1 j, (rdQ N L lm h i).2 + 1) := by rw [e1, rdS, ← hj, if_neg (by omega)]
            refine wp_aload_n d_M_alike_103 rfl ?_
            refine wp_getA d_M_alike_104 fl_M_76 rfl rfl rfl ?_
            refine wp_iload d_M_alike_107 rfl ?_
            refine wp_iload_n d_M_alike_109 rfl ?_
            refine wp_iast d_M_alike_110 rfl ?_ ?_
            · exact vp_in_nI (n := i) (by omega) (by decide)
            rw [nI_clamp (show i < 2 ^ 31 by omega)]
            refine wp_iinc3 d_M_alike_111 (hn_ii1 _) (by decide) rfl ?_
            refine wp_iinc4 d_M_alike_114 (hn_ii1 _) (by decide) rfl ?_
            refine wp_goto (tgt := 43) d_M_alike_117 (by decide) ?_
            rw [nI_1, nI_1]
            have := ihi hi2 (wI τ 77 i (nI (rdQ N L lm h i).2)) (.int (nI j)) (hF.wI (by decide)) (fun k hk => by rw [wI_ne (by decide)]; exact hR k hk) (fun k hk => by
              rw [wI_eq, e2]
              by_cases q : k = i
              · rw [q, upd_eq]; exact congrArg nI (if_pos rfl).symm
              · rw [upd_ne q]; exact (hn k (by omega)).trans (congrArg nI (if_neg q).symm))
            rw [show (rdQ N L lm h (i + 1)).2 = (rdQ N L lm h i).2 + 1 by rw [e2]] at this
            exact this
          · have hc3 := nI_nge hc3 (by omega) (by omega)
            have e2 : rdQ N L lm h (i + 1) = (fun k => if k = i then (rdQ N L lm h i).1 j else (rdQ N L lm h i).1 k, (rdQ N L lm h i).2) := by rw [e1, rdS, ← hj, if_pos hc3]
            refine wp_aload_n d_M_alike_86 rfl ?_
            refine wp_getA d_M_alike_87 fl_M_76 rfl rfl rfl ?_
            refine wp_iload d_M_alike_90 rfl ?_
            refine wp_aload_n d_M_alike_92 rfl ?_
            refine wp_getA d_M_alike_93 fl_M_76 rfl rfl rfl ?_
            refine wp_iload d_M_alike_96 rfl ?_
            refine wp_iald d_M_alike_98 rfl ?_ ?_
            · exact vp_in_nI (n := j) (by omega) (by decide)
            rw [nI_clamp (show j < 2 ^ 31 by omega), hn j hc3]
            refine wp_iast d_M_alike_99 rfl ?_ ?_
            · exact vp_in_nI (n := i) (by omega) (by decide)
            rw [nI_clamp (show i < 2 ^ 31 by omega)]
            refine wp_goto (tgt := 114) d_M_alike_100 (by decide) ?_
            refine wp_iinc4 d_M_alike_114 (hn_ii1 _) (by decide) rfl ?_
            refine wp_goto (tgt := 43) d_M_alike_117 (by decide) ?_
            rw [nI_1]
            have := ihi hi2 (wI τ 77 i (nI ((rdQ N L lm h i).1 j))) (.int (nI j)) (hF.wI (by decide)) (fun k hk => by rw [wI_ne (by decide)]; exact hR k hk) (fun k hk => by
              rw [wI_eq, e2]
              by_cases q : k = i
              · rw [q, upd_eq]; exact congrArg nI (if_pos rfl).symm
              · rw [upd_ne q]; exact (hn k (by omega)).trans (congrArg nI (if_neg q).symm))
            rw [show (rdQ N L lm h (i + 1)).2 = (rdQ N L lm h i).2 by rw [e2]] at this
            exact this
        refine wp_iconst (v := 0) d_M_alike_52 (by decide) ?_
        refine wp_istore5 d_M_alike_53 (by decide) rfl ?_
        suffices H : ∀ j, j ≤ i → sr (fun l => alN N L lm h l i = true) (i - j) j = sr (fun l => alN N L lm h l i = true) i 0 → WP m_M_alike 55 [.ref 56, .int (nI S), .int (nI r), .int (nI (rdQ N L lm h i).2), .int (nI i), .int (nI j)] [] τ (fun w τ => w = some (.int (nI (pcN (hsN N S (alH N L lm e (six N)))))) ∧ Fp hS77 σ τ ∧ HR τ N (alH N L lm e (six N))) from H 0 (Nat.zero_le _) rfl
        refine lp_nat (fun j hj ihj hs => ?_)
        refine wp_iload d_M_alike_55 rfl ?_
        refine wp_iload d_M_alike_57 rfl ?_
        refine wp_icmp_ge (tgt := 79) d_M_alike_59 (by decide) (fun hc3 => ?_) (fun hc3 => ?_)
        · obtain rfl := Nat.le_antisymm hj (nI_ge2 hc3 (by omega) (by omega))
          rw [Nat.sub_self, sr] at hs
          exact fin j hs
        · have hj2 := nI_nge hc3 (by omega) (by omega)
          obtain ⟨d, hd⟩ : ∃ d, i - j = d + 1 := ⟨i - j - 1, by omega⟩
          rw [hd, sr] at hs
          refine wp_aload_n d_M_alike_62 rfl ?_
          refine wp_iload d_M_alike_63 rfl ?_
          refine wp_iload d_M_alike_65 rfl ?_
          refine wp_callV2e d_M_alike_67 cv_M_216 rfl rfl rfl ⟨Nat.le_of_ble_eq_true rfl, Nat.le_of_ble_eq_true rfl⟩ (Nat.le_of_ble_eq_true rfl) (Nat.le_of_ble_eq_true rfl) (c_M_isAlike (by omega) (by omega) _ hB1 hL1 hR hlt) ?_
          refine wp_if_ne (tgt := 79) d_M_alike_70 (by decide) (fun hc5 => ?_) (fun hc5 => ?_)
          · have hc5 := bz_n0 hc5
            rw [if_pos hc5] at hs
            exact fin j hs
          · rw [bz_0] at hc5
            rw [if_neg hc5] at hs
            refine wp_iinc5 d_M_alike_73 (hn_ii1 _) (by decide) rfl ?_
            refine wp_goto (tgt := 55) d_M_alike_76 (by decide) ?_
            rw [nI_1]
            exact ihj hj2 (by rw [show i - (j + 1) = d by omega]; exact hs)
  refine wp_iconst (v := 0) d_M_alike_0 (by decide) ?_
  refine wp_istore2 d_M_alike_1 (by decide) rfl ?_
  suffices H : ∀ k, k ≤ N → ∀ τ, Fp hS77 σ τ → (∀ j, j < k → τ.1 76 j = nI (enH e j)) → WP m_M_alike 2 [.ref 56, .int (nI S), .int (nI k), .null, .null, .null] [] τ (fun w τ => w = some (.int (nI (pcN (hsN N S (alH N L lm e (six N)))))) ∧ Fp hS77 σ τ ∧ HR τ N (alH N L lm e (six N))) from H 0 (Nat.zero_le _) _ Fp.rf (fun j hj => absurd hj (Nat.not_lt_zero j))
  refine lp_nat (fun k hk ih τ hF hv => ?_)
  have hB1 := hF.MB (by decide) hB
  refine wp_iload_n d_M_alike_2 rfl ?_
  refine wp_aload_n d_M_alike_3 rfl ?_
  refine wp_getI d_M_alike_4 fl_M_7 rfl rfl (by decide) ?_
  refine wp_icmp_ge (tgt := 30) d_M_alike_7 (by decide) (fun hc => ?_) (fun hc => ?_)
  · rw [hB1.1] at hc
    obtain rfl := Nat.le_antisymm hk (nI_ge2 hc (by omega) (by omega))
    refine wp_iconst (v := 0) d_M_alike_30 (by decide) ?_
    refine wp_istore2 d_M_alike_31 (by decide) rfl ?_
    exact rounds 0 (Nat.zero_le _) τ _ _ _ rfl rfl hF hv
  · rw [hB1.1] at hc
    have hk2 := nI_nge hc (by omega) (by omega)
    refine wp_aload_n d_M_alike_10 rfl ?_
    refine wp_getA d_M_alike_11 fl_M_73 rfl rfl rfl ?_
    refine wp_iload_n d_M_alike_14 rfl ?_
    refine wp_aload_n d_M_alike_15 rfl ?_
    refine wp_getI d_M_alike_16 fl_M_110 rfl rfl (by decide) ?_
    refine wp_iload_n d_M_alike_19 rfl ?_
    refine wp_ishr d_M_alike_20 ?_
    refine wp_iconst (v := 1) d_M_alike_21 (by decide) ?_
    refine wp_iand d_M_alike_22 ?_
    rw [show τ.1 56 5 = nI e by rw [(hF 56 (by decide)).1]; exact h5, bt_nI (by omega) (by omega)]
    refine wp_iast d_M_alike_23 rfl ?_ ?_
    · exact vp_in_nI (n := k) (by omega) (by decide)
    rw [nI_clamp (show k < 2 ^ 31 by omega)]
    refine wp_iinc2 d_M_alike_24 (hn_ii1 _) (by decide) rfl ?_
    refine wp_goto (tgt := 2) d_M_alike_27 (by decide) ?_
    rw [nI_1]
    refine ih hk2 _ (hF.wI (by decide)) (fun j hj => ?_)
    rw [wI_eq]
    by_cases q : j = k
    · rw [q, upd_eq]; rfl
    · rw [upd_ne q]; exact hv j (by omega)
theorem c_M_least {s e N L : Nat} {lm : Nat → Nat} (σ : Hp) (hB : MB σ N) (hL : LT σ N L lm) (hs : s < N) (h4 : σ.1 56 4 = nI s) (he : e < 2 ^ N) (h5 : σ.1 56 5 = nI e) : Ct m_M_least [.ref 56] σ (fun w τ => ∃ S, RcOf N L lm s S ∧ w = some (.int (nI (pcN (hsN N S (alH N L lm e (six N)))))) ∧ Fp hS77 (Th σ) τ) := by
  have hB := hB.th
  have hL := hL.th
  have h4 : (Th σ).1 56 4 = nI s := (Th_0 (by decide)).trans h4
  have h5 : (Th σ).1 56 5 = nI e := (Th_0 (by decide)).trans h5
  show WP m_M_least 0 [.ref 56] [] σ _
  refine wp_aload_n d_M_least_0 rfl ?_
  refine wp_iconst (v := 0) d_M_least_1 (by decide) ?_
  refine wp_putI d_M_least_2 fp_M_89 rfl rfl (by decide) rfl rfl ?_
  show WP m_M_least 5 _ _ (Th σ) _
  refine wp_aload_n d_M_least_5 rfl ?_
  refine wp_aload_n d_M_least_6 rfl ?_
  refine wp_callV0 d_M_least_7 cv_M_220 rfl rfl rfl ⟨Nat.le_of_ble_eq_true rfl, Nat.le_of_ble_eq_true rfl⟩ (Nat.le_of_ble_eq_true rfl) (Nat.le_of_ble_eq_true rfl) (c_M_reached _ hB hL hs h4) (fun v τ hv => ?_)
  obtain ⟨rfl, S, rfl, hS⟩ := hv
  show WP m_M_least 10 _ [.int _, .ref 56] (Th σ) _
  refine wp_callV1 d_M_least_10 cv_M_223 rfl rfl rfl ⟨Nat.le_of_ble_eq_true rfl, Nat.le_of_ble_eq_true rfl⟩ (Nat.le_of_ble_eq_true rfl) (Nat.le_of_ble_eq_true rfl) (c_M_alike _ hB hL he h5 hS.1) (fun v τ hv => ?_)
  obtain ⟨rfl, hF, hR⟩ := hv
  show WP m_M_least 13 _ [.int _] τ _
  refine wp_iret d_M_least_13 rfl ?_
  exact ⟨S, hS, rfl, hF⟩
