/-! boxes: the box that nothing leads out of is the one of which the least comes (pure) -/
/-- all steps from all that has come have come -/
theorem bfQ_all {st : Nat → Nat → Nat} {L s n : Nat} (h : (bfQ st L s n).length ≤ n) : BC st L (bfQ st L s n) (bfQ st L s n).length := by
  obtain ⟨m, hm1, hm2⟩ := pk_least (fun m => (bfQ st L s m).length ≤ m) ⟨n, h⟩
  have hm : m ≤ n := by
    rcases Nat.lt_or_ge n m with q | q
    · exact absurd h (hm2 n q)
    · exact q
  have e0 := bfQ_stop hm1 (n - m)
  rw [show m + (n - m) = n by omega] at e0
  rw [e0]
  have h0 : m ≤ (bfQ st L s m).length := by
    rcases Nat.eq_zero_or_pos m with rfl | q
    · exact Nat.zero_le _
    · have a1 := hm2 (m - 1) (by omega)
      have a2 := (bfQ_pre (st := st) (L := L) (s := s) (m - 1) 1).1
      rw [show m - 1 + 1 = m by omega] at a2
      omega
  have e : (bfQ st L s m).length = m := by omega
  have := bfQ_BC (st := st) (L := L) (s := s) m h0
  rw [e]
  exact this
/-- as many as stand in it -/
theorem BI_sm {st : Nat → Nat → Nat} {L s M : Nat} {Q : BQ} (h : BI st L s Q) (hb : ∀ j, j < Q.length → itm Q j < M) : sm (fun e => if hasB Q e = true then 1 else 0) M = Q.length := by
  have key : ∀ n, n ≤ Q.length → sm (fun e => if (List.range n).any (fun j => decide (itm Q j = e)) = true then 1 else 0) M = n := by
    intro n
    induction n with
    | zero => exact fun _ => sm_0 M
    | succ n ih =>
      intro hn
      have := sm_upd (F := fun e => if (List.range n).any (fun j => decide (itm Q j = e)) = true then 1 else 0) (G := fun e => if (List.range (n + 1)).any (fun j => decide (itm Q j = e)) = true then 1 else 0) (c := itm Q n) M (hb n (by omega)) (fun e _ hne => by
        try dsimp only
        rw [any_s, decide_eq_false (fun z => hne z.symm), Bool.or_false])
      try dsimp only at this
      rw [any_s, decide_eq_true rfl, Bool.or_true, if_pos rfl, if_neg (fun z => by
        rw [List.any_eq_true] at z
        obtain ⟨j, hj, e⟩ := z
        have hj := List.mem_range.mp hj
        have := h.2.2.1 j n (by omega) (by omega) (of_decide_eq_true e)
        omega), ih (by omega)] at this
      omega
  rw [← key Q.length (Nat.le_refl _)]
  refine sm_cg (fun e _ => ?_)
  have e3 : hasB Q e = true ↔ (List.range Q.length).any (fun j => decide (itm Q j = e)) = true := by
    rw [hasB_iff, List.any_eq_true]
    exact ⟨fun ⟨j, hj, q⟩ => ⟨j, List.mem_range.mpr hj, decide_eq_true q⟩, fun ⟨j, hj, q⟩ => ⟨j, List.mem_range.mp hj, of_decide_eq_true q⟩⟩
  by_cases q : hasB Q e = true
  · rw [if_pos q, if_pos (e3.mp q)]
  · rw [if_neg q, if_neg (fun z => q (e3.mpr z))]
section OB
variable {N L : Nat} {lm : Nat → Nat}
/-- an ideal is all that comes -/
theorem CQ_iff (h15 : (EQ N L lm).length ≤ 1500) (hst : ∀ k x, k < 2 * L → x < (EQ N L lm).length → spS N L lm k x < (EQ N L lm).length) {e x : Nat} (he : e < (EQ N L lm).length) : hasB (CQ N L lm e) x = true ↔ RQ (spP N L lm (EQ N L lm) 0) (2 * L) e x := by
  have hI : BI (spS N L lm) (2 * L) e (CQ N L lm e) := BI.Q _
  have hlen := hI.len (hI.bd he hst)
  have hC : BC (spS N L lm) (2 * L) (CQ N L lm e) (CQ N L lm e).length := bfQ_all (by
    show (CQ N L lm e).length ≤ n15 N
    rw [n15_eq]
    omega)
  constructor
  · rw [hasB_iff]
    rintro ⟨j, hj, rfl⟩
    induction j using Nat.strongRecOn with
    | _ j ih =>
      rcases Nat.eq_zero_or_pos j with rfl | q
      · rw [hI.2.1.1]; exact RQ.rf
      · obtain ⟨a1, a2, a3⟩ := hI.2.2.2 j q hj
        rw [a3]
        exact (ih _ a1 (by omega)).tr (RQ.one (sp := spP N L lm (EQ N L lm) 0) a2)
  · intro h
    refine h.cl (X := fun y => hasB (CQ N L lm e) y = true) (fun y hy l hl => ?_) (hasB_iff.mpr ⟨0, hI.1, hI.2.1.1⟩)
    obtain ⟨j, hj, rfl⟩ := hasB_iff.mp hy
    exact hC j l hj hl
theorem CQ_len (hst : ∀ k x, k < 2 * L → x < (EQ N L lm).length → spS N L lm k x < (EQ N L lm).length) {e : Nat} (he : e < (EQ N L lm).length) : sm (fun x => if hasB (CQ N L lm e) x = true then 1 else 0) (EQ N L lm).length = (CQ N L lm e).length := by
  have hI : BI (spS N L lm) (2 * L) e (CQ N L lm e) := BI.Q _
  exact BI_sm hI (hI.bd he hst)
/-- one ideal in another is no greater; if it is no less, it is the other -/
theorem CQ_sub (hst : ∀ k x, k < 2 * L → x < (EQ N L lm).length → spS N L lm k x < (EQ N L lm).length) {x y : Nat} (hx : x < (EQ N L lm).length) (hy : y < (EQ N L lm).length) (h : ∀ z, hasB (CQ N L lm y) z = true → hasB (CQ N L lm x) z = true) : (CQ N L lm y).length ≤ (CQ N L lm x).length ∧ ((CQ N L lm x).length ≤ (CQ N L lm y).length → hasB (CQ N L lm y) x = true) := by
  have ex := CQ_len (N := N) (L := L) (lm := lm) hst hx
  have ey := CQ_len (N := N) (L := L) (lm := lm) hst hy
  have le : ∀ k, k < (EQ N L lm).length → (if hasB (CQ N L lm y) k = true then 1 else 0) ≤ (if hasB (CQ N L lm x) k = true then 1 else 0) := fun k _ => by
    by_cases q : hasB (CQ N L lm y) k = true
    · rw [if_pos q, if_pos (h k q)]
      exact Nat.le_refl _
    · rw [if_neg q]
      exact Nat.zero_le _
  have h1 := sm_lq le
  rw [ex, ey] at h1
  refine ⟨h1, fun h2 => ?_⟩
  cases q : hasB (CQ N L lm y) x with
  | true => rfl
  | false =>
    have hI : BI (spS N L lm) (2 * L) x (CQ N L lm x) := BI.Q _
    have hxx : hasB (CQ N L lm x) x = true := hasB_iff.mpr ⟨0, hI.1, hI.2.1.1⟩
    have := sm_lu le hx (by
      try dsimp only
      rw [q, hxx, if_neg (by decide), if_pos rfl]
      decide)
    rw [ex, ey] at this
    omega
variable {b : Nat → Nat → Nat} {B : Nat → Nat}
theorem NM.iff0 (h : NM N L lm b B) {e e' : Nat} (he : e < (EQ N L lm).length) (he' : e' < (EQ N L lm).length) : b 0 e = b 0 e' ↔ RQ (spP N L lm (EQ N L lm) 0) (2 * L) e e' ∧ RQ (spP N L lm (EQ N L lm) 0) (2 * L) e' e := h.2.1 0 (by decide) e e' he he'
theorem NM.rg0 (h : NM N L lm b B) : ∃ a, RG (EQ N L lm).length a (b 0) (B 0) := ⟨_, h.1.choose_spec 0 (by decide)⟩
/-- nothing leads out of the box of some element -/
theorem NM.someOut (h15 : (EQ N L lm).length ≤ 1500) (hst : ∀ k x, k < 2 * L → x < (EQ N L lm).length → spS N L lm k x < (EQ N L lm).length) (h : NM N L lm b B) : ∀ n x, x < (EQ N L lm).length → (CQ N L lm x).length ≤ n → ∃ y, y < (EQ N L lm).length ∧ ∀ e, e < (EQ N L lm).length → b 0 e = b 0 y → soB L (spP N L lm (EQ N L lm) 0) (b 0) e = false := by
  intro n
  induction n with
  | zero =>
    intro x hx hn
    have hI : BI (spS N L lm) (2 * L) x (CQ N L lm x) := BI.Q _
    have := hI.1
    omega
  | succ n ih =>
    intro x hx hn
    by_cases q : ∃ e, e < (EQ N L lm).length ∧ b 0 e = b 0 x ∧ soB L (spP N L lm (EQ N L lm) 0) (b 0) e = true
    · obtain ⟨e, he, eb, so⟩ := q
      obtain ⟨l, hl, hne⟩ := soB_iff.mp so
      have hy : spP N L lm (EQ N L lm) 0 e l < (EQ N L lm).length := hst l e hl he
      have r1 : RQ (spP N L lm (EQ N L lm) 0) (2 * L) x (spP N L lm (EQ N L lm) 0 e l) := ((h.iff0 hx he).mp eb.symm).1.tr (RQ.one hl)
      have hs := CQ_sub hst hx hy (fun z hz => (CQ_iff h15 hst hx).mpr (r1.tr ((CQ_iff h15 hst hy).mp hz)))
      refine ih _ hy ?_
      rcases Nat.lt_or_ge (CQ N L lm (spP N L lm (EQ N L lm) 0 e l)).length (CQ N L lm x).length with w | w
      · omega
      · exact absurd (((h.iff0 hy hx).mpr ⟨(CQ_iff h15 hst hy).mp (hs.2 w), r1⟩).trans eb.symm) hne
    · refine ⟨x, hx, fun e he eb => ?_⟩
      cases so : soB L (spP N L lm (EQ N L lm) 0) (b 0) e with
      | false => rfl
      | true => exact absurd ⟨e, he, eb, so⟩ q
/-- every element leads to a box that nothing leads out of -/
theorem NM.leads (h0 : 0 < N) (hlm : ∀ l, l < L → lm l < N ^ N) (h15 : (EQ N L lm).length ≤ 1500) (hst : ∀ k x, k < 2 * L → x < (EQ N L lm).length → spS N L lm k x < (EQ N L lm).length) (h : NM N L lm b B) {m x : Nat} (hm : m < (EQ N L lm).length) (hx : x < (EQ N L lm).length) (out : ∀ e, e < (EQ N L lm).length → b 0 e = b 0 m → soB L (spP N L lm (EQ N L lm) 0) (b 0) e = false) : (∀ y, RQ (spP N L lm (EQ N L lm) 0) (2 * L) m y → y < (EQ N L lm).length ∧ b 0 y = b 0 m) ∧ RQ (spP N L lm (EQ N L lm) 0) (2 * L) x m := by
  have hc := EQ_cl h15
  have hI := EQ_BI (N := N) (L := L) (lm := lm)
  have cl : ∀ y, RQ (spP N L lm (EQ N L lm) 0) (2 * L) m y → y < (EQ N L lm).length ∧ b 0 y = b 0 m := fun y hy => by
    refine hy.cl (X := fun y => y < (EQ N L lm).length ∧ b 0 y = b 0 m) (fun e he l hl => ⟨hst l e hl he.1, ?_⟩) ⟨hm, rfl⟩
    have := out e he.1 he.2
    by_cases q : b 0 (spP N L lm (EQ N L lm) 0 e l) = b 0 e
    · rw [q, he.2]
    · rw [soB_iff.mpr ⟨l, hl, q⟩] at this
      cases this
  -- to the product from the right
  have r1 : ∀ m, m < (EQ N L lm).length → RQ (spP N L lm (EQ N L lm) 0) (2 * L) x (psN (EQ N L lm) (bN N (itm (EQ N L lm) x) (itm (EQ N L lm) m))) := by
    intro m
    induction m using Nat.strongRecOn with
    | _ m ih =>
      intro hm
      rcases Nat.eq_zero_or_pos m with rfl | q
      · rw [hI.2.1.1, bN_id2 h0 (EQ_lt h0 x hx), hI.ps hx rfl]
        exact RQ.rf
      · obtain ⟨a1, a2, a3⟩ := hI.2.2.2 m q hm
        have hp := psN_has (EQ_mul h0 h15 hx _ (show par (EQ N L lm) m < (EQ N L lm).length by omega))
        have es : spP N L lm (EQ N L lm) 0 (psN (EQ N L lm) (bN N (itm (EQ N L lm) x) (itm (EQ N L lm) (par (EQ N L lm) m)))) (ltr (EQ N L lm) m) = psN (EQ N L lm) (bN N (itm (EQ N L lm) x) (itm (EQ N L lm) m)) := by
          unfold spP
          rw [if_pos (Or.inr ⟨rfl, a2⟩), toP, hp.2, bN_assoc h0]
          have a4 : itm (EQ N L lm) m = bN N (itm (EQ N L lm) (par (EQ N L lm) m)) (lm (ltr (EQ N L lm) m)) := a3
          rw [← a4]
        rw [← es]
        exact (ih _ a1 (by omega)).tr (RQ.one (by omega))
  -- to the product from the left
  have r2 : ∀ x, x < (EQ N L lm).length → ∀ m, m < (EQ N L lm).length → RQ (spP N L lm (EQ N L lm) 0) (2 * L) m (psN (EQ N L lm) (bN N (itm (EQ N L lm) x) (itm (EQ N L lm) m))) := by
    intro x
    induction x using Nat.strongRecOn with
    | _ x ih =>
      intro hx m hm
      rcases Nat.eq_zero_or_pos x with rfl | q
      · rw [hI.2.1.1, bN_id h0 (EQ_lt h0 m hm), hI.ps hm rfl]
        exact RQ.rf
      · obtain ⟨a1, a2, a3⟩ := hI.2.2.2 x q hx
        have hp := psN_has (EQ_ah h0 hlm h15 a2 m hm)
        have es : spP N L lm (EQ N L lm) 0 m (L + ltr (EQ N L lm) x) = psN (EQ N L lm) (bN N (lm (ltr (EQ N L lm) x)) (itm (EQ N L lm) m)) := by
          rw [← sp_2]
          unfold spP
          rw [if_neg (show ¬ (2 = 1 ∨ (2 = 0 ∧ ltr (EQ N L lm) x < L)) by omega), if_pos (show 2 = 2 from rfl)]
          rfl
        have st : RQ (spP N L lm (EQ N L lm) 0) (2 * L) m (psN (EQ N L lm) (bN N (lm (ltr (EQ N L lm) x)) (itm (EQ N L lm) m))) := by
          rw [← es]
          exact RQ.one (by omega)
        have r := ih _ a1 (by omega) _ hp.1
        rw [hp.2, ← bN_assoc h0] at r
        have a4 : itm (EQ N L lm) x = bN N (itm (EQ N L lm) (par (EQ N L lm) x)) (lm (ltr (EQ N L lm) x)) := a3
        rw [← a4] at r
        exact st.tr r
  refine ⟨cl, ?_⟩
  obtain ⟨y1, y2⟩ := cl _ (r2 x hx m hm)
  exact (r1 m hm).tr ((h.iff0 y1 hm).mp y2).1
/-- what the least of the asked is -/
theorem lbF_le {M B : Nat} {b : Nat → Nat} : ∀ K, (lbF N L lm b M K).2 = (CQ N L lm (lbF N L lm b M K).1).length ∧ ∀ i, i < K → (lbF N L lm b M K).2 ≤ (CQ N L lm (loF b M i)).length
  | 0 => ⟨rfl, fun i hi => absurd hi (Nat.not_lt_zero i)⟩
  | K + 1 => by
    obtain ⟨h1, h2⟩ := lbF_le (M := M) (B := B) (b := b) K
    have e : lbF N L lm b M (K + 1) = if (CQ N L lm (loF b M K)).length < (lbF N L lm b M K).2 then (loF b M K, (CQ N L lm (loF b M K)).length) else lbF N L lm b M K := rfl
    rw [e]
    split
    · rename_i q
      refine ⟨rfl, fun i hi => ?_⟩
      rcases Nat.lt_or_ge i K with w | w
      · have := h2 i w
        show (CQ N L lm (loF b M K)).length ≤ _
        omega
      · obtain rfl : i = K := by omega
        exact Nat.le_refl _
    · rename_i q
      refine ⟨h1, fun i hi => ?_⟩
      rcases Nat.lt_or_ge i K with w | w
      · exact h2 i w
      · obtain rfl : i = K := by omega
        omega
/-- both tell one box -/
theorem NM.least (h0 : 0 < N) (hlm : ∀ l, l < L → lm l < N ^ N) (h15 : (EQ N L lm).length ≤ 1500) (hst : ∀ k x, k < 2 * L → x < (EQ N L lm).length → spS N L lm k x < (EQ N L lm).length) (h : NM N L lm b B) {z : Nat} (hz : (z < B 0 ∧ (∀ x, x < (EQ N L lm).length → b 0 x = z → soB L (spP N L lm (EQ N L lm) 0) (b 0) x = false) ∧ ∀ j, j < z → ∃ x, x < (EQ N L lm).length ∧ b 0 x = j ∧ soB L (spP N L lm (EQ N L lm) 0) (b 0) x = true) ∨ (z = 0 ∧ ∀ j, j < B 0 → ∃ x, x < (EQ N L lm).length ∧ b 0 x = j ∧ soB L (spP N L lm (EQ N L lm) 0) (b 0) x = true)) : b 0 (lbF N L lm (b 0) (EQ N L lm).length (B 0)).1 = z ∧ z < B 0 := by
  obtain ⟨a, hR⟩ := h.rg0
  have pos : 0 < (EQ N L lm).length := EQ_BI.1
  rcases hz with ⟨z1, z2, -⟩ | ⟨-, z2⟩
  · refine ⟨?_, z1⟩
    obtain ⟨e0, he0, hb0⟩ := hR.2.1 z z1
    have lo1 : loF (b 0) (EQ N L lm).length z < 0 + (EQ N L lm).length := sr_ex _ _ ⟨e0, Nat.zero_le _, by omega, hb0⟩
    have lo2 := sr_at (p := fun e => b 0 e = z) _ _ lo1
    have lo2 : b 0 (loF (b 0) (EQ N L lm).length z) = z := lo2
    rw [Nat.zero_add] at lo1
    have lt := lbF_lt (N := N) (L := L) (lm := lm) hR pos (B 0) (Nat.le_refl _)
    obtain ⟨k1, k2⟩ := lbF_le (N := N) (L := L) (lm := lm) (M := (EQ N L lm).length) (B := B 0) (b := b 0) (B 0)
    have k3 := k2 z z1
    rw [k1] at k3
    generalize (lbF N L lm (b 0) (EQ N L lm).length (B 0)).1 = x at lt k3 ⊢
    generalize loF (b 0) (EQ N L lm).length z = m at lo1 lo2 k3
    obtain ⟨l1, l2⟩ := h.leads h0 hlm h15 hst lo1 lt (fun e he q => z2 e he (q.trans lo2))
    have hs := CQ_sub hst lt lo1 (fun w hw => (CQ_iff h15 hst lt).mpr (l2.tr ((CQ_iff h15 hst lo1).mp hw)))
    exact (l1 x ((CQ_iff h15 hst lo1).mp (hs.2 k3))).2.trans lo2
  · obtain ⟨y, hy, q⟩ := h.someOut h15 hst _ 0 pos (Nat.le_refl _)
    obtain ⟨x, hx, e1, e2⟩ := z2 (b 0 y) (hR.1 y hy)
    rw [q x hx e1] at e2
    cases e2
end OB
