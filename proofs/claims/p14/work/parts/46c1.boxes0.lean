/-! the class's boxes: what stands in their cells (pure) -/
/-- some way leads out of the box -/
def soB (L : Nat) (sp : Nat → Nat → Nat) (b : Nat → Nat) (e : Nat) : Bool := (List.range (2 * L)).any fun l => decide (b (sp e l) ≠ b e)
/-- sums over the first e -/
def SU (τ : Hp) (L : Nat) (sp : Nat → Nat → Nat) (b : Nat → Nat) (st : Nat → Bool) (e : Nat) : Prop := ∀ i, i < 1500 → τ.1 30 i = nI (sm (fun x => if b x = i then 1 else 0) e) ∧ τ.1 31 i = nI (sm (fun x => if b x = i ∧ st x = true then 1 else 0) e) ∧ τ.1 32 i = bz ((List.range e).any (fun x => decide (b x = i) && soB L sp b x) = true)
/-- one kind's numbers -/
def NB (σ : Hp) (K M : Nat) (a b : Nat → Nat) (B : Nat) (l : Nat → Nat) : Prop := RG M a b B ∧ (∀ e, e < M → σ.1 27 (1500 * K + e) = nI (b e)) ∧ (∀ j, j < B → σ.1 28 (1500 * K + j) = nI (l j) ∧ l j < M ∧ b (l j) = j ∧ ∀ e', e' < l j → b e' ≠ j) ∧ σ.1 29 K = nI B
theorem NB.mv {σ τ : Hp} {K M B : Nat} {a b l : Nat → Nat} (h : NB σ K M a b B l) (e7 : τ.1 27 = σ.1 27) (e8 : τ.1 28 = σ.1 28) (e9 : τ.1 29 = σ.1 29) : NB τ K M a b B l := by
  obtain ⟨h1, h2, h3, h4⟩ := h
  exact ⟨h1, by rw [e7]; exact h2, by rw [e8]; exact h3, by rw [e9]; exact h4⟩
/-- the steps are drawn -/
def DR (τ : Hp) (N L : Nat) (lm : Nat → Nat) : Prop := ∀ e l, e < (EQ N L lm).length → l < L → τ.1 17 (8 * e + l) = nI (toP N lm (EQ N L lm) e l) ∧ τ.1 17 (8 * e + (L + l)) = nI (ahP N lm (EQ N L lm) e l)
/-- the boxes are made -/
def BV (σ : Hp) (N L : Nat) (lm : Nat → Nat) : Prop := DR σ N L lm ∧ ∃ (a b : Nat → Nat → Nat) (B : Nat → Nat) (l : Nat → Nat → Nat), (∀ k, k < 4 → NB σ k (EQ N L lm).length (a k) (b k) (B k) (l k)) ∧ SB N L lm (EQ N L lm).length 3 b ∧ (∀ e e', e < (EQ N L lm).length → e' < (EQ N L lm).length → (b 3 e = b 3 e' ↔ b 1 e = b 1 e' ∧ b 2 e = b 2 e')) ∧ SU σ L (spP N L lm (EQ N L lm) 0) (b 0) (fun e => stN N (itm (EQ N L lm) e)) (EQ N L lm).length
/-- the boxes' cells -/
def eB : List Nat := [17, 27, 28, 29, 30, 31, 32]
theorem BV.cg {σ τ : Hp} {N L : Nat} {lm : Nat → Nat} (h : BV σ N L lm) (e : ∀ q, q ∈ eB → τ.1 q = σ.1 q) : BV τ N L lm := by
  obtain ⟨h1, a, b, B, l, h2, h3, h4, h5⟩ := h
  refine ⟨fun x k hx hk => by rw [e 17 (by decide)]; exact h1 x k hx hk, a, b, B, l, fun k hk => (h2 k hk).mv (e 27 (by decide)) (e 28 (by decide)) (e 29 (by decide)), h3, h4, fun i hi => by rw [e 30 (by decide), e 31 (by decide), e 32 (by decide)]; exact h5 i hi⟩
