/-! elements: how they come (pure); one step -/
def stE (N : Nat) (lm : Nat → Nat) (k x : Nat) : Nat := bN N x (lm k)
/-- 1500, so written that it isn't counted out -/
def n15 (N : Nat) : Nat := 1500 + 0 * N
theorem n15_eq (N : Nat) : n15 N = 1500 := by rw [n15, Nat.zero_mul]
def EQ (N L : Nat) (lm : Nat → Nat) : BQ := bfQ (stE N lm) L (idN N) (n15 N)
theorem EQ_BI {N L : Nat} {lm : Nat → Nat} : BI (stE N lm) L (idN N) (EQ N L lm) := BI.Q _
theorem stE_lt {N : Nat} {lm : Nat → Nat} (hN : 0 < N) (k x : Nat) : stE N lm k x < N ^ N := bN_lt hN
theorem sr_ex {p : Nat → Prop} [DecidablePred p] : ∀ (f k : Nat), (∃ j, k ≤ j ∧ j < k + f ∧ p j) → sr p f k < k + f
  | 0, k, ⟨j, h1, h2, _⟩ => by omega
  | f + 1, k, ⟨j, h1, h2, h3⟩ => by
    rw [sr]
    split
    · omega
    · rename_i q
      have : sr p f (k + 1) < k + 1 + f := sr_ex f (k + 1) ⟨j, by
        rcases Nat.lt_or_ge k j with a | a
        · exact a
        · exact absurd h3 (by rw [show j = k by omega]; exact q), by omega, h3⟩
      omega
/-- where x stands -/
def psN (Q : BQ) (x : Nat) : Nat := sr (fun j => itm Q j = x) Q.length 0
theorem psN_has {Q : BQ} {x : Nat} (h : hasB Q x = true) : psN Q x < Q.length ∧ itm Q (psN Q x) = x := by
  obtain ⟨j, hj, e⟩ := hasB_iff.mp h
  have h1 : psN Q x < 0 + Q.length := sr_ex _ _ ⟨j, Nat.zero_le _, by omega, e⟩
  exact ⟨by omega, sr_at (p := fun j => itm Q j = x) _ _ h1⟩
theorem BI.ps {st : Nat → Nat → Nat} {L s : Nat} {Q : BQ} (h : BI st L s Q) {j x : Nat} (hj : j < Q.length) (e : itm Q j = x) : psN Q x = j := by
  obtain ⟨a1, a2⟩ := psN_has (hasB_iff.mpr ⟨j, hj, e⟩)
  exact h.2.2.1 _ _ a1 hj (a2.trans e.symm)
/-- all that comes has come -/
theorem EQ_cl {N L : Nat} {lm : Nat → Nat} (h : (EQ N L lm).length ≤ 1500) : BC (stE N lm) L (EQ N L lm) (EQ N L lm).length := by
  have h2 := bfQ_stop (st := stE N lm) (L := L) (s := idN N) (n := (EQ N L lm).length)
  -- the list stood still before
  have key : ∀ n, n ≤ 1500 → (bfQ (stE N lm) L (idN N) n).length ≤ n → EQ N L lm = bfQ (stE N lm) L (idN N) n := by
    intro n hn hl
    have := bfQ_stop hl (1500 - n)
    rw [show n + (1500 - n) = 1500 by omega] at this
    rw [EQ, n15_eq]
    exact this
  obtain ⟨n, hn1, hn2⟩ := pk_least (fun n => (bfQ (stE N lm) L (idN N) n).length ≤ n) ⟨n15 N, by
    have : (bfQ (stE N lm) L (idN N) (n15 N)).length ≤ 1500 := h
    rw [n15_eq] at this ⊢
    exact this⟩
  have hn : n ≤ 1500 := by
    rcases Nat.lt_or_ge 1500 n with q | q
    · have : (bfQ (stE N lm) L (idN N) (n15 N)).length ≤ 1500 := h
      rw [n15_eq] at this
      exact absurd this (hn2 1500 q)
    · exact q
  rw [key n hn hn1]
  have h0 : n ≤ (bfQ (stE N lm) L (idN N) n).length := by
    rcases Nat.eq_zero_or_pos n with rfl | q
    · exact Nat.zero_le _
    · have a1 := hn2 (n - 1) (by omega)
      have a2 := (bfQ_pre (st := stE N lm) (L := L) (s := idN N) (n - 1) 1).1
      rw [show n - 1 + 1 = n by omega] at a2
      omega
  have e : (bfQ (stE N lm) L (idN N) n).length = n := by omega
  have := bfQ_BC (st := stE N lm) (L := L) (s := idN N) n h0
  rw [e]
  exact this
/-- from n on the list grows no more, or is beyond n -/
theorem EQ_at {N L : Nat} {lm : Nat → Nat} {n : Nat} (hn : n ≤ 1500) (hl : (bfQ (stE N lm) L (idN N) n).length ≤ n) : EQ N L lm = bfQ (stE N lm) L (idN N) n := by
  have := bfQ_stop hl (1500 - n)
  rw [show n + (1500 - n) = 1500 by omega] at this
  rw [EQ, n15_eq]
  exact this
theorem EQ_pre {N L : Nat} {lm : Nat → Nat} {n : Nat} (hn : n ≤ 1500) : Pre (bfQ (stE N lm) L (idN N) n) (EQ N L lm) := by
  have := bfQ_pre (st := stE N lm) (L := L) (s := idN N) n (1500 - n)
  rw [show n + (1500 - n) = 1500 by omega] at this
  rw [EQ, n15_eq]
  exact this
theorem EQ_lt {N L : Nat} {lm : Nat → Nat} (hN : 0 < N) : ∀ j, j < (EQ N L lm).length → itm (EQ N L lm) j < N ^ N := EQ_BI.bd idN_lt (fun k x _ _ => stE_lt hN k x)
/-- what comes, with a letter ahead, comes -/
theorem EQ_ah {N L : Nat} {lm : Nat → Nat} (hN : 0 < N) (hlm : ∀ l, l < L → lm l < N ^ N) (h : (EQ N L lm).length ≤ 1500) {l : Nat} (hl : l < L) : ∀ j, j < (EQ N L lm).length → hasB (EQ N L lm) (bN N (lm l) (itm (EQ N L lm) j)) = true := by
  have hc := EQ_cl h
  have hI := EQ_BI (N := N) (L := L) (lm := lm)
  intro j
  induction j using Nat.strongRecOn with
  | _ j ih =>
    intro hj
    rcases Nat.eq_zero_or_pos j with rfl | h0
    · have := hc 0 l hj hl
      rw [hI.2.1.1] at this ⊢
      rw [bN_id2 hN (hlm l hl)]
      rw [stE, bN_id hN (hlm l hl)] at this
      exact this
    · obtain ⟨a1, a2, a3⟩ := hI.2.2.2 j h0 hj
      obtain ⟨i, hi, e⟩ := hasB_iff.mp (ih _ a1 (by omega))
      have := hc i (ltr (EQ N L lm) j) hi a2
      rw [a3, stE, ← bN_assoc hN, ← e]
      exact this
theorem EQ_mul {N L : Nat} {lm : Nat → Nat} (hN : 0 < N) (h : (EQ N L lm).length ≤ 1500) {a : Nat} (ha : a < (EQ N L lm).length) : ∀ j, j < (EQ N L lm).length → hasB (EQ N L lm) (bN N (itm (EQ N L lm) a) (itm (EQ N L lm) j)) = true := by
  have hc := EQ_cl h
  have hI := EQ_BI (N := N) (L := L) (lm := lm)
  intro j
  induction j using Nat.strongRecOn with
  | _ j ih =>
    intro hj
    rcases Nat.eq_zero_or_pos j with rfl | h0
    · rw [hI.2.1.1, bN_id2 hN (EQ_lt hN a ha)]
      exact hasB_iff.mpr ⟨a, ha, rfl⟩
    · obtain ⟨a1, a2, a3⟩ := hI.2.2.2 j h0 hj
      obtain ⟨i, hi, e⟩ := hasB_iff.mp (ih _ a1 (by omega))
      have := hc i (ltr (EQ N L lm) j) hi a2
      rw [a3, stE, ← bN_assoc hN, ← e]
      exact this
/-- the steps of a kind: letters behind, letters ahead -/
def toP (N : Nat) (lm : Nat → Nat) (Q : BQ) (e l : Nat) : Nat := psN Q (bN N (itm Q e) (lm l))
def ahP (N : Nat) (lm : Nat → Nat) (Q : BQ) (e l : Nat) : Nat := psN Q (bN N (lm l) (itm Q e))
def TA (τ : Hp) (N L : Nat) (lm : Nat → Nat) (Q : BQ) : Prop := ∀ e l, e < Q.length → l < L → (τ.1 60 (4 * e + l) = nI (toP N lm Q e l) ∧ toP N lm Q e l < Q.length) ∧ τ.1 61 (4 * e + l) = nI (ahP N lm Q e l) ∧ ahP N lm Q e l < Q.length
def spN (L kind : Nat) : Nat := if kind = 0 then 2 * L else L
def spP (N L : Nat) (lm : Nat → Nat) (Q : BQ) (kind e k : Nat) : Nat := if kind = 1 ∨ (kind = 0 ∧ k < L) then toP N lm Q e k else ahP N lm Q e (if kind = 2 then k else k - L)
theorem spP_lt {τ : Hp} {N L kind e k : Nat} {lm : Nat → Nat} {Q : BQ} (h : TA τ N L lm Q) (hk : kind ≤ 2) (he : e < Q.length) (hs : k < spN L kind) : spP N L lm Q kind e k < Q.length := by
  unfold spP
  unfold spN at hs
  split
  · refine (h e k he ?_).1.2
    rename_i q
    rcases q with q | q
    · rw [q] at hs; simpa using hs
    · exact q.2
  · rename_i q
    refine (h e _ he ?_).2.2
    rcases (show kind = 0 ∨ kind = 1 ∨ kind = 2 by omega) with r | r | r
    · rw [r] at q hs ⊢
      simp at q hs ⊢
      omega
    · exact absurd (Or.inl r) q
    · rw [r] at hs ⊢
      simp at hs ⊢
      exact hs
theorem four_nI (e k : Nat) : (4 : Int32) * nI e + nI k = nI (4 * e + k) := by
  rw [show (4 : Int32) = nI 4 from rfl, pk_mul, nI_add]
theorem c_M_step {N L kind e k : Nat} {lm : Nat → Nat} {Q : BQ} (σ : Hp) (hL : σ.1 56 2 = nI L) (hL4 : L ≤ 4) (hT : TA σ N L lm Q) (hl : Q.length ≤ 1500) (hk : kind ≤ 2) (he : e < Q.length) (hs : k < spN L kind) : Ct m_M_step [.ref 56, .int (nI kind), .int (nI e), .int (nI k)] σ (Rt (.int (nI (spP N L lm Q kind e k))) σ) := by
  have hs8 : k < 8 := by unfold spN at hs; split at hs <;> omega
  show WP m_M_step 0 [.ref 56, .int (nI kind), .int (nI e), .int (nI k)] [] σ _
  have too : k < L → spP N L lm Q kind e k = toP N lm Q e k → WP m_M_step 17 [.ref 56, .int (nI kind), .int (nI e), .int (nI k)] [] σ (Rt (.int (nI (spP N L lm Q kind e k))) σ) := by
    intro hkL hq
    obtain ⟨⟨t1, t2⟩, -⟩ := hT e k he hkL
    refine wp_aload_n d_M_step_17 rfl ?_
    refine wp_getA d_M_step_18 fl_M_24 rfl rfl rfl ?_
    refine wp_iconst (v := 4) d_M_step_21 (by decide) ?_
    refine wp_iload_n d_M_step_22 rfl ?_
    refine wp_imul d_M_step_23 ?_
    refine wp_iload_n d_M_step_24 rfl ?_
    refine wp_iadd d_M_step_25 ?_
    rw [four_nI]
    refine wp_iald d_M_step_26 rfl ?_ ?_
    · exact vp_in_nI (n := 4 * e + k) (by omega) (by decide)
    rw [nI_clamp (show 4 * e + k < 2 ^ 31 by omega), t1]
    refine wp_goto (tgt := 54) d_M_step_27 (by decide) ?_
    refine wp_iret d_M_step_54 rfl ?_
    rw [hq]
    exact ⟨rfl, rfl⟩
  have ahd : ∀ l, l < L → l = (if kind = 2 then k else k - L) → spP N L lm Q kind e k = ahP N lm Q e l → WP m_M_step 52 [.ref 56, .int (nI kind), .int (nI e), .int (nI k)] [.int (nI l), .int ((4 : Int32) * nI e), .ref 61] σ (Rt (.int (nI (spP N L lm Q kind e k))) σ) := by
    intro l hlL hl2 hq
    obtain ⟨-, t1, t2⟩ := hT e l he hlL
    refine wp_iadd d_M_step_52 ?_
    rw [four_nI]
    refine wp_iald d_M_step_53 rfl ?_ ?_
    · exact vp_in_nI (n := 4 * e + l) (by omega) (by decide)
    rw [nI_clamp (show 4 * e + l < 2 ^ 31 by omega), t1]
    refine wp_iret d_M_step_54 rfl ?_
    rw [hq]
    exact ⟨rfl, rfl⟩
  have late : ¬ (kind = 1 ∨ (kind = 0 ∧ k < L)) → WP m_M_step 30 [.ref 56, .int (nI kind), .int (nI e), .int (nI k)] [] σ (Rt (.int (nI (spP N L lm Q kind e k))) σ) := by
    intro q
    have e0 : spP N L lm Q kind e k = ahP N lm Q e (if kind = 2 then k else k - L) := by rw [spP, if_neg q]
    refine wp_aload_n d_M_step_30 rfl ?_
    refine wp_getA d_M_step_31 fl_M_27 rfl rfl rfl ?_
    refine wp_iconst (v := 4) d_M_step_34 (by decide) ?_
    refine wp_iload_n d_M_step_35 rfl ?_
    refine wp_imul d_M_step_36 ?_
    refine wp_iload_n d_M_step_37 rfl ?_
    refine wp_iconst (v := 2) d_M_step_38 (by decide) ?_
    refine wp_icmp_ne (tgt := 46) d_M_step_39 (by decide) (fun h1 => ?_) (fun h1 => ?_)
    · rw [show (2 : Int32) = nI 2 from rfl, nI_eq (by omega) (by omega)] at h1
      have hk0 : kind = 0 := by omega
      rw [hk0] at q hs
      simp at q
      rw [spN, if_pos rfl] at hs
      refine wp_iload_n d_M_step_46 rfl ?_
      refine wp_aload_n d_M_step_47 rfl ?_
      refine wp_getI d_M_step_48 fl_M_104 rfl rfl (by decide) ?_
      refine wp_isub d_M_step_51 ?_
      rw [hL, pk_sub q]
      refine ahd (k - L) (by omega) ?_ ?_
      · rw [if_neg h1]
      · rw [e0, if_neg h1]
    · rw [show (2 : Int32) = nI 2 from rfl, nI_eq (by omega) (by omega)] at h1
      rw [spN, if_neg (by omega)] at hs
      refine wp_iload_n d_M_step_42 rfl ?_
      refine wp_goto (tgt := 52) d_M_step_43 (by decide) ?_
      refine ahd k hs ?_ ?_
      · rw [if_pos h1]
      · rw [e0, if_pos h1]
  refine wp_iload_n d_M_step_0 rfl ?_
  refine wp_iconst (v := 1) d_M_step_1 (by decide) ?_
  refine wp_icmp_eq (tgt := 17) d_M_step_2 (by decide) (fun h1 => ?_) (fun h1 => ?_)
  · rw [show (1 : Int32) = nI 1 from rfl, nI_eq (by omega) (by omega)] at h1
    rw [spN, if_neg (by omega)] at hs
    exact too hs (by rw [spP, if_pos (Or.inl h1)])
  · rw [show (1 : Int32) = nI 1 from rfl, nI_eq (by omega) (by omega)] at h1
    refine wp_iload_n d_M_step_5 rfl ?_
    refine wp_if_ne (tgt := 30) d_M_step_6 (by decide) (fun h2 => ?_) (fun h2 => ?_)
    · rw [show (0 : Int32) = nI 0 from rfl, nI_eq (by omega) (by omega)] at h2
      exact late (fun q => q.elim h1 (fun q => h2 q.1))
    · rw [show (0 : Int32) = nI 0 from rfl, nI_eq (by omega) (by omega)] at h2
      refine wp_iload_n d_M_step_9 rfl ?_
      refine wp_aload_n d_M_step_10 rfl ?_
      refine wp_getI d_M_step_11 fl_M_104 rfl rfl (by decide) ?_
      refine wp_icmp_ge (tgt := 30) d_M_step_14 (by decide) (fun h3 => ?_) (fun h3 => ?_)
      · rw [hL, nI_leN (by omega) (by omega)] at h3
        exact late (fun q => q.elim h1 (fun q => by omega))
      · rw [hL, nI_leN (by omega) (by omega)] at h3
        exact too (by omega) (by rw [spP, if_pos (Or.inr ⟨h2, by omega⟩)])
