/-! what comes of one by steps, in order: each with whence and by which step (pure) -/
abbrev BQ : Type := List (Nat × Nat × Nat)
def itm (Q : BQ) (j : Nat) : Nat := (Q.getD j (0, 0, 0)).1
def par (Q : BQ) (j : Nat) : Nat := (Q.getD j (0, 0, 0)).2.1
def ltr (Q : BQ) (j : Nat) : Nat := (Q.getD j (0, 0, 0)).2.2
def hasB (Q : BQ) (w : Nat) : Bool := Q.any fun e => e.1 == w
theorem getD_lt {Q : BQ} {j : Nat} (h : j < Q.length) : Q.getD j (0, 0, 0) = Q[j] := by
  rw [List.getD_eq_getElem?_getD, List.getElem?_eq_getElem h]; rfl
theorem hasB_iff {Q : BQ} {w : Nat} : hasB Q w = true ↔ ∃ j, j < Q.length ∧ itm Q j = w := by
  rw [hasB, List.any_eq_true]
  constructor
  · rintro ⟨e, he, h⟩
    obtain ⟨j, hj, rfl⟩ := List.getElem_of_mem he
    exact ⟨j, hj, by rw [itm, getD_lt hj]; exact beq_iff_eq.mp h⟩
  · rintro ⟨j, hj, h⟩
    exact ⟨Q[j], List.getElem_mem hj, by rw [itm, getD_lt hj] at h; exact beq_iff_eq.mpr h⟩
theorem hasB_f {Q : BQ} {w : Nat} (h : ∀ j, j < Q.length → itm Q j ≠ w) : hasB Q w = false := by
  cases q : hasB Q w with
  | false => rfl
  | true =>
    obtain ⟨j, hj, e⟩ := hasB_iff.mp q
    exact absurd e (h j hj)
theorem app_lt {Q : BQ} {e : Nat × Nat × Nat} {j : Nat} (h : j < Q.length) : (Q ++ [e]).getD j (0, 0, 0) = Q.getD j (0, 0, 0) := by
  rw [List.getD_eq_getElem?_getD, List.getD_eq_getElem?_getD, List.getElem?_append_left h]
theorem app_eq {Q : BQ} {e : Nat × Nat × Nat} : (Q ++ [e]).getD Q.length (0, 0, 0) = e := by
  rw [List.getD_eq_getElem?_getD, List.getElem?_append_right (Nat.le_refl _), Nat.sub_self]; rfl
/-- Q is the beginning of P -/
def Pre (Q P : BQ) : Prop := Q.length ≤ P.length ∧ ∀ j, j < Q.length → P.getD j (0, 0, 0) = Q.getD j (0, 0, 0)
theorem Pre.rf {Q : BQ} : Pre Q Q := ⟨Nat.le_refl _, fun _ _ => rfl⟩
theorem Pre.tr {P Q R : BQ} (h : Pre P Q) (h2 : Pre Q R) : Pre P R := ⟨Nat.le_trans h.1 h2.1, fun j hj => (h2.2 j (Nat.lt_of_lt_of_le hj h.1)).trans (h.2 j hj)⟩
theorem Pre.app {Q : BQ} {e : Nat × Nat × Nat} : Pre Q (Q ++ [e]) := ⟨by simp, fun _ hj => app_lt hj⟩
theorem Pre.itm {P Q : BQ} (h : Pre P Q) {j : Nat} (hj : j < P.length) : itm Q j = itm P j := by
  show (Q.getD j (0, 0, 0)).1 = (P.getD j (0, 0, 0)).1
  rw [h.2 j hj]
theorem Pre.has {P Q : BQ} (h : Pre P Q) {w : Nat} (hw : hasB P w = true) : hasB Q w = true := by
  obtain ⟨j, hj, e⟩ := hasB_iff.mp hw
  exact hasB_iff.mpr ⟨j, Nat.lt_of_lt_of_le hj h.1, (h.itm hj).trans e⟩
def bfA (st : Nat → Nat → Nat) (i k : Nat) (Q : BQ) : BQ := if hasB Q (st k (itm Q i)) = true then Q else Q ++ [(st k (itm Q i), i, k)]
def bfE (st : Nat → Nat → Nat) (L i : Nat) (Q : BQ) : BQ := it (fun k Q => bfA st i k Q) L Q
def bfQ (st : Nat → Nat → Nat) (L s n : Nat) : BQ := it (fun i Q => if i < Q.length then bfE st L i Q else Q) n [(s, 0, 0)]
theorem bfA_pre {st : Nat → Nat → Nat} {i k : Nat} {Q : BQ} : Pre Q (bfA st i k Q) := by
  unfold bfA
  split
  · exact Pre.rf
  · exact Pre.app
theorem bfK_pre {st : Nat → Nat → Nat} {i : Nat} {Q : BQ} : ∀ k, Pre Q (it (fun k Q => bfA st i k Q) k Q)
  | 0 => Pre.rf
  | k + 1 => (bfK_pre k).tr bfA_pre
theorem bfQ_pre {st : Nat → Nat → Nat} {L s : Nat} (n : Nat) : ∀ d, Pre (bfQ st L s n) (bfQ st L s (n + d))
  | 0 => Pre.rf
  | d + 1 => by
    refine (bfQ_pre n d).tr ?_
    show Pre _ (if n + d < (bfQ st L s (n + d)).length then bfE st L (n + d) (bfQ st L s (n + d)) else bfQ st L s (n + d))
    split
    · exact bfK_pre L
    · exact Pre.rf
theorem bfQ_stop {st : Nat → Nat → Nat} {L s n : Nat} (h : (bfQ st L s n).length ≤ n) : ∀ d, bfQ st L s (n + d) = bfQ st L s n
  | 0 => rfl
  | d + 1 => by
    have ih := bfQ_stop h d
    show (if n + d < (bfQ st L s (n + d)).length then bfE st L (n + d) (bfQ st L s (n + d)) else bfQ st L s (n + d)) = _
    rw [ih, if_neg (by omega)]
theorem bfQ_s {st : Nat → Nat → Nat} {L s n : Nat} (h : n < (bfQ st L s n).length) : bfQ st L s (n + 1) = bfE st L n (bfQ st L s n) := by
  show (if n < (bfQ st L s n).length then bfE st L n (bfQ st L s n) else bfQ st L s n) = _
  rw [if_pos h]
/-- what holds of all that has come so far -/
def BI (st : Nat → Nat → Nat) (L s : Nat) (Q : BQ) : Prop := 0 < Q.length ∧ (itm Q 0 = s ∧ par Q 0 = 0) ∧ (∀ i j, i < Q.length → j < Q.length → itm Q i = itm Q j → i = j) ∧ ∀ j, 0 < j → j < Q.length → par Q j < j ∧ ltr Q j < L ∧ itm Q j = st (ltr Q j) (itm Q (par Q j))
theorem BI.first {st : Nat → Nat → Nat} {L s : Nat} : BI st L s [(s, 0, 0)] := ⟨Nat.zero_lt_one, ⟨rfl, rfl⟩, fun i j hi hj _ => by simp at hi hj; omega, fun j h1 h2 => by simp at h2; omega⟩
theorem BI.add {st : Nat → Nat → Nat} {L s : Nat} {Q : BQ} (h : BI st L s Q) {i k : Nat} (hi : i < Q.length) (hk : k < L) (hn : hasB Q (st k (itm Q i)) = false) : BI st L s (Q ++ [(st k (itm Q i), i, k)]) := by
  obtain ⟨h1, h2, h3, h4⟩ := h
  have old : ∀ j, j < Q.length → itm (Q ++ [(st k (itm Q i), i, k)]) j = itm Q j := fun j hj => by unfold itm; rw [app_lt hj]
  have new : itm (Q ++ [(st k (itm Q i), i, k)]) Q.length = st k (itm Q i) := by
    show ((Q ++ [(st k (itm Q i), i, k)]).getD Q.length (0, 0, 0)).1 = _
    rw [app_eq]
  have nn : ∀ j, j < Q.length → itm Q j ≠ st k (itm Q i) := fun j hj e => by
    rw [hasB_iff.mpr ⟨j, hj, e⟩] at hn
    cases hn
  refine ⟨by simp, ⟨by rw [old 0 h1, h2.1], by
    show ((Q ++ [(st k (itm Q i), i, k)]).getD 0 (0, 0, 0)).2.1 = 0
    rw [app_lt h1]; exact h2.2⟩, fun a b ha hb e => ?_, fun j hj hjl => ?_⟩
  · simp only [List.length_append, List.length_cons, List.length_nil] at ha hb
    rcases Nat.lt_or_ge a Q.length with qa | qa <;> rcases Nat.lt_or_ge b Q.length with qb | qb
    · rw [old a qa, old b qb] at e; exact h3 a b qa qb e
    · obtain rfl : b = Q.length := by omega
      rw [old a qa, new] at e
      exact absurd e (nn a qa)
    · obtain rfl : a = Q.length := by omega
      rw [old b qb, new] at e
      exact absurd e.symm (nn b qb)
    · omega
  · simp only [List.length_append, List.length_cons, List.length_nil] at hjl
    rcases Nat.lt_or_ge j Q.length with q | q
    · obtain ⟨a1, a2, a3⟩ := h4 j hj q
      have e1 : par (Q ++ [(st k (itm Q i), i, k)]) j = par Q j := by unfold par; rw [app_lt q]
      have e2 : ltr (Q ++ [(st k (itm Q i), i, k)]) j = ltr Q j := by unfold ltr; rw [app_lt q]
      rw [e1, e2, old j q, old _ (by omega)]
      exact ⟨a1, a2, a3⟩
    · obtain rfl : j = Q.length := by omega
      have e1 : par (Q ++ [(st k (itm Q i), i, k)]) Q.length = i := by unfold par; rw [app_eq]
      have e2 : ltr (Q ++ [(st k (itm Q i), i, k)]) Q.length = k := by unfold ltr; rw [app_eq]
      rw [e1, e2, new, old i hi]
      exact ⟨hi, hk, rfl⟩
theorem BI.A {st : Nat → Nat → Nat} {L s : Nat} {Q : BQ} (h : BI st L s Q) {i k : Nat} (hi : i < Q.length) (hk : k < L) : BI st L s (bfA st i k Q) := by
  unfold bfA
  split
  · exact h
  · rename_i q
    exact h.add hi hk (by simpa using q)
theorem BI.K {st : Nat → Nat → Nat} {L s : Nat} {Q : BQ} (h : BI st L s Q) {i : Nat} (hi : i < Q.length) : ∀ k, k ≤ L → BI st L s (it (fun k Q => bfA st i k Q) k Q)
  | 0, _ => h
  | k + 1, hk => (h.K hi k (by omega)).A (Nat.lt_of_lt_of_le hi (bfK_pre k).1) (by omega)
theorem BI.Q {st : Nat → Nat → Nat} {L s : Nat} : ∀ n, BI st L s (bfQ st L s n)
  | 0 => BI.first
  | n + 1 => by
    show BI st L s (if n < (bfQ st L s n).length then bfE st L n (bfQ st L s n) else bfQ st L s n)
    split
    · rename_i q
      exact (BI.Q n).K q L (Nat.le_refl _)
    · exact BI.Q n
/-- items below a bound: no more than that -/
theorem BI.len {st : Nat → Nat → Nat} {L s : Nat} {Q : BQ} (h : BI st L s Q) {B : Nat} (hb : ∀ j, j < Q.length → itm Q j < B) : Q.length ≤ B :=
  fb_holes B Q.length (itm Q) hb (fun i j hij hj e => by have := h.2.2.1 i j (by omega) hj e; omega)
theorem BI.bd {st : Nat → Nat → Nat} {L s : Nat} {Q : BQ} (h : BI st L s Q) {B : Nat} (hs : s < B) (hst : ∀ k x, k < L → x < B → st k x < B) : ∀ j, j < Q.length → itm Q j < B := by
  intro j
  induction j using Nat.strongRecOn with
  | _ j ih =>
    intro hj
    rcases Nat.eq_zero_or_pos j with rfl | h0
    · rw [h.2.1.1]; exact hs
    · obtain ⟨a1, a2, a3⟩ := h.2.2.2 j h0 hj
      rw [a3]
      exact hst _ _ a2 (ih _ a1 (by omega))
/-- all steps from those before i have come -/
def BC (st : Nat → Nat → Nat) (L : Nat) (Q : BQ) (i : Nat) : Prop := ∀ j k, j < i → k < L → hasB Q (st k (itm Q j)) = true
theorem bfA_has {st : Nat → Nat → Nat} {i k : Nat} {Q : BQ} (hi : i < Q.length) : hasB (bfA st i k Q) (st k (itm Q i)) = true := by
  unfold bfA
  split
  · assumption
  · refine hasB_iff.mpr ⟨Q.length, by simp, ?_⟩
    unfold itm
    rw [app_eq]
theorem bfK_has {st : Nat → Nat → Nat} {i : Nat} {Q : BQ} (hi : i < Q.length) : ∀ k, ∀ j, j < k → hasB (it (fun k Q => bfA st i k Q) k Q) (st j (itm Q i)) = true
  | 0, j, hj => absurd hj (Nat.not_lt_zero j)
  | k + 1, j, hj => by
    have hp := bfK_pre (st := st) (i := i) (Q := Q) k
    rcases Nat.lt_or_ge j k with q | q
    · exact bfA_pre.has (bfK_has hi k j q)
    · obtain rfl : j = k := by omega
      have := bfA_has (st := st) (i := i) (k := j) (Q := it (fun k Q => bfA st i k Q) j Q) (Nat.lt_of_lt_of_le hi hp.1)
      rw [hp.itm hi] at this
      exact this
theorem bfQ_BC {st : Nat → Nat → Nat} {L s : Nat} : ∀ n, n ≤ (bfQ st L s n).length → BC st L (bfQ st L s n) n
  | 0, _ => fun j k hj _ => absurd hj (Nat.not_lt_zero j)
  | n + 1, hn => by
    by_cases q : n < (bfQ st L s n).length
    · have ih := bfQ_BC (st := st) (L := L) (s := s) n (Nat.le_of_lt q)
      rw [bfQ_s q]
      have hp := bfK_pre (st := st) (i := n) (Q := bfQ st L s n) L
      intro j k hj hk
      rcases Nat.lt_or_ge j n with q2 | q2
      · have e : itm (bfE st L n (bfQ st L s n)) j = itm (bfQ st L s n) j := hp.itm (by omega)
        rw [e]
        exact hp.has (ih j k q2 hk)
      · obtain rfl : j = n := by omega
        have e : itm (bfE st L j (bfQ st L s j)) j = itm (bfQ st L s j) j := hp.itm q
        rw [e]
        exact bfK_has q L k hk
    · exfalso
      have : bfQ st L s (n + 1) = bfQ st L s n := by
        show (if n < (bfQ st L s n).length then bfE st L n (bfQ st L s n) else bfQ st L s n) = _
        rw [if_neg q]
      rw [this] at hn
      omega
/-- how many steps lead to the j-th -/
def dpF (Q : BQ) : Nat → Nat → Nat
  | 0, _ => 0
  | f + 1, j => if j = 0 then 0 else dpF Q f (par Q j) + 1
theorem dpF_st {st : Nat → Nat → Nat} {L s : Nat} {Q : BQ} (h : BI st L s Q) : ∀ f j, j < Q.length → j ≤ f → ∀ d, dpF Q (f + d) j = dpF Q f j
  | 0, j, hj, hf, d => by
    obtain rfl : j = 0 := by omega
    cases d with
    | zero => rfl
    | succ d => show (if (0 : Nat) = 0 then 0 else _) = 0; rw [if_pos rfl]
  | f + 1, j, hj, hf, d => by
    rw [show f + 1 + d = f + d + 1 by omega]
    show (if j = 0 then 0 else dpF Q (f + d) (par Q j) + 1) = (if j = 0 then 0 else dpF Q f (par Q j) + 1)
    by_cases hz : j = 0
    · rw [if_pos hz, if_pos hz]
    · obtain ⟨a1, -, -⟩ := h.2.2.2 j (by omega) hj
      rw [if_neg hz, if_neg hz, dpF_st h f (par Q j) (by omega) (by omega) d]
def dep (Q : BQ) (j : Nat) : Nat := dpF Q j j
theorem dep_0 {Q : BQ} : dep Q 0 = 0 := rfl
theorem dep_s {st : Nat → Nat → Nat} {L s : Nat} {Q : BQ} (h : BI st L s Q) {j : Nat} (h0 : 0 < j) (hj : j < Q.length) : dep Q j = dep Q (par Q j) + 1 := by
  obtain ⟨a1, -, -⟩ := h.2.2.2 j h0 hj
  obtain ⟨f, rfl⟩ : ∃ f, j = f + 1 := ⟨j - 1, by omega⟩
  show (if f + 1 = 0 then 0 else dpF Q f (par Q (f + 1)) + 1) = _
  rw [if_neg (by omega)]
  have := dpF_st h (par Q (f + 1)) (par Q (f + 1)) (by omega) (Nat.le_refl _) (f - par Q (f + 1))
  rw [show par Q (f + 1) + (f - par Q (f + 1)) = f by omega] at this
  rw [this]
  rfl
theorem dep_le {st : Nat → Nat → Nat} {L s : Nat} {Q : BQ} (h : BI st L s Q) : ∀ j, j < Q.length → dep Q j ≤ j := by
  intro j
  induction j using Nat.strongRecOn with
  | _ j ih =>
    intro hj
    rcases Nat.eq_zero_or_pos j with rfl | h0
    · exact Nat.le_refl _
    · obtain ⟨a1, -, -⟩ := h.2.2.2 j h0 hj
      have := ih _ a1 (by omega)
      rw [dep_s h h0 hj]
      omega
theorem Pre.par {P Q : BQ} (h : Pre P Q) {j : Nat} (hj : j < P.length) : par Q j = par P j := by
  show (Q.getD j (0, 0, 0)).2.1 = (P.getD j (0, 0, 0)).2.1
  rw [h.2 j hj]
theorem Pre.ltr {P Q : BQ} (h : Pre P Q) {j : Nat} (hj : j < P.length) : ltr Q j = ltr P j := by
  show (Q.getD j (0, 0, 0)).2.2 = (P.getD j (0, 0, 0)).2.2
  rw [h.2 j hj]
/-- t steps back -/
def bkF (Q : BQ) (t j : Nat) : Nat := it (fun _ p => par Q p) t j
theorem bkF_dep {st : Nat → Nat → Nat} {L s : Nat} {Q : BQ} (h : BI st L s Q) {j : Nat} (hj : j < Q.length) : ∀ t, t ≤ dep Q j → bkF Q t j < Q.length ∧ dep Q (bkF Q t j) = dep Q j - t
  | 0, _ => ⟨hj, rfl⟩
  | t + 1, ht => by
    obtain ⟨i1, i2⟩ := bkF_dep h hj t (by omega)
    have hp : 0 < bkF Q t j := by
      rcases Nat.eq_zero_or_pos (bkF Q t j) with q | q
      · rw [q, dep_0] at i2; omega
      · exact q
    obtain ⟨a1, -, -⟩ := h.2.2.2 _ hp i1
    have e := dep_s h hp i1
    show par Q (bkF Q t j) < Q.length ∧ dep Q (par Q (bkF Q t j)) = _
    exact ⟨by omega, by omega⟩
theorem dep_pos {st : Nat → Nat → Nat} {L s : Nat} {Q : BQ} (h : BI st L s Q) {j : Nat} (hj : j < Q.length) (hd : 0 < dep Q j) : 0 < j := by
  rcases Nat.eq_zero_or_pos j with q | q
  · rw [q, dep_0] at hd; omega
  · exact q
theorem dep_z {st : Nat → Nat → Nat} {L s : Nat} {Q : BQ} (h : BI st L s Q) {j : Nat} (hj : j < Q.length) (hd : dep Q j = 0) : j = 0 := by
  rcases Nat.eq_zero_or_pos j with q | q
  · exact q
  · rw [dep_s h q hj] at hd; omega
