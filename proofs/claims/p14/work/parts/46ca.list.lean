/-! the class's list of elements (pure) -/
/-- a map's number, as the class holds the map -/
def mpN (N x : Nat) : Nat := oN N (gN N x)
theorem mpN_lt {N x : Nat} (h0 : 0 < N) (h6 : N ≤ 6) : mpN N x < 262144 := oN_31 h6 (gN8 h0 h6)
theorem mpN_inj {N x y : Nat} (h0 : 0 < N) (h6 : N ≤ 6) (hx : x < N ^ N) (hy : y < N ^ N) (h : mpN N x = mpN N y) : x = y := gN_ext h0 hx hy (oN_inj (gN8 h0 h6) (gN8 h0 h6) h)
theorem ah_mp {N a b : Nat} (h0 : 0 < N) (h6 : N ≤ 6) : ahF (nI (mpN N a)) (nI (mpN N b)) N = nI (mpN N (bN N a b)) := by
  show ahF (Oc N (gN N a)) (Oc N (gN N b)) N = Oc N (gN N (bN N a b))
  rw [ahF_Oc h6 (fun i _ => gN_lt h0) (gN8 h0 h6)]
  exact Oc_ext (fun i hi => (bN_dig hi).symm)
theorem no_mp {N : Nat} (h6 : N ≤ 6) : noF N = nI (mpN N (idN N)) := by
  rw [noF_Oc h6]
  exact Oc_ext (fun i hi => (idN_dig hi).symm)
theorem on_mp {N m : Nat} (h0 : 0 < N) (h6 : N ≤ 6) : onF m N = nI (mpN N m) := onF_Oc h0 h6
theorem mp_eq {N a b : Nat} (h0 : 0 < N) (h6 : N ≤ 6) (ha : a < N ^ N) (hb : b < N ^ N) : nI (mpN N a) = nI (mpN N b) ↔ a = b := by
  have h1 := mpN_lt (N := N) (x := a) h0 h6
  have h2 := mpN_lt (N := N) (x := b) h0 h6
  rw [nI_eq (by omega) (by omega)]
  exact ⟨mpN_inj h0 h6 ha hb, fun h => by rw [h]⟩
/-- so many are listed: maps, words, numbers -/
def EK (σ : Hp) (N : Nat) (Q : BQ) : Prop := σ.1 3 6 = nI Q.length ∧ Q.length ≤ 1500 ∧ (∀ j, j < Q.length → σ.1 4 j = nI (mpN N (itm Q j)) ∧ σ.1 14 j = nI (dep Q j) ∧ (0 < j → σ.1 12 j = nI (par Q j) ∧ σ.1 13 j = nI (ltr Q j))) ∧ FS (σ.1 7) (σ.1 8) (fun j => mpN N (itm Q j)) Q.length
/-- what comes with a letter behind: all before i, and of i the first k -/
def BH (σ : Hp) (N L : Nat) (lm : Nat → Nat) (Q : BQ) (i k : Nat) : Prop := ∀ e l, (e < i ∨ (e = i ∧ l < k)) → l < L → e < Q.length → σ.1 5 (4 * e + l) = nI (toP N lm Q e l) ∧ toP N lm Q e l < Q.length
def LL (σ : Hp) (N L : Nat) (lm : Nat → Nat) : Prop := ∀ k, k < L → σ.1 2 k = onF (lm k) N ∧ lm k < N ^ N
/-- there are too many; or they are listed -/
def ES (σ : Hp) (N L : Nat) (lm : Nat → Nat) : Prop := σ.1 3 7 = 1 ∧ 1500 < (EQ N L lm).length ∧ σ.1 3 6 = nI 1500
def EL (σ : Hp) (N L : Nat) (lm : Nat → Nat) : Prop := σ.1 3 7 = 0 ∧ EK σ N (EQ N L lm) ∧ BH σ N L lm (EQ N L lm) (EQ N L lm).length 0
/-- known of an earlier c, or never -/
def Old (c : Nat) (x : Int32) : Prop := x = -1 ∨ ∃ d, d < c ∧ x = nI d
/-- what is known is old; or it is so -/
def EC (σ : Hp) : Prop := ∃ N L lm c, KI σ N L ∧ LL σ N L lm ∧ c < 2 ^ 31 ∧ σ.1 1 3 = nI c ∧ ((Old c (σ.1 3 8) ∧ Old c (σ.1 15 13)) ∨ (σ.1 3 8 = nI c ∧ ((ES σ N L lm ∧ Old c (σ.1 15 13)) ∨ (EL σ N L lm ∧ (Old c (σ.1 15 13) ∨ (σ.1 15 13 = nI c ∧ BV σ N L lm))))))
def EM (σ : Hp) (M : Nat) : Prop := σ.1 3 6 = nI M ∧ M ≤ 1500 ∧ EC σ
theorem EM.m {σ : Hp} {M : Nat} (h : EM σ M) : σ.1 3 6 = nI M := h.1
theorem EM.le {σ : Hp} {M : Nat} (h : EM σ M) : M ≤ 1500 := h.2.1
theorem EM.ca {σ : Hp} {M : Nat} (h : EM σ M) : EC σ := h.2.2
/-- the cells that tell it -/
def eC : List Nat := [1, 2, 3, 4, 5, 7, 8, 12, 13, 14]
theorem EL.cg {σ τ : Hp} {N L : Nat} {lm : Nat → Nat} (h : EL σ N L lm) (e : ∀ q, q ∈ eC → q ≠ 1 → q ≠ 2 → τ.1 q = σ.1 q) : EL τ N L lm := by
  have e3 := e 3 (by decide) (by decide) (by decide)
  have e4 := e 4 (by decide) (by decide) (by decide)
  have e5 := e 5 (by decide) (by decide) (by decide)
  have e7 := e 7 (by decide) (by decide) (by decide)
  have e8 := e 8 (by decide) (by decide) (by decide)
  have e12 := e 12 (by decide) (by decide) (by decide)
  have e13 := e 13 (by decide) (by decide) (by decide)
  have e14 := e 14 (by decide) (by decide) (by decide)
  obtain ⟨h1, ⟨h2, h3, h4, h5⟩, h6⟩ := h
  refine ⟨by rw [e3]; exact h1, ⟨by rw [e3]; exact h2, h3, fun j hj => by rw [e4, e12, e13, e14]; exact h4 j hj, by rw [e7, e8]; exact h5⟩, fun x l hx hl hl2 => by rw [e5]; exact h6 x l hx hl hl2⟩
theorem ES.cg {σ τ : Hp} {N L : Nat} {lm : Nat → Nat} (h : ES σ N L lm) (e : τ.1 3 = σ.1 3) : ES τ N L lm := ⟨by rw [e]; exact h.1, h.2.1, by rw [e]; exact h.2.2⟩
theorem LL.cg {σ τ : Hp} {N L : Nat} {lm : Nat → Nat} (h : LL σ N L lm) (e : τ.1 2 = σ.1 2) : LL τ N L lm := fun k hk => by rw [e]; exact h k hk
theorem EC.cg {σ τ : Hp} (h : EC σ) (e : ∀ q, q ∈ eC → τ.1 q = σ.1 q) (eb : ∀ q, q ∈ eB → τ.1 q = σ.1 q) (e15 : τ.1 15 13 = σ.1 15 13) : EC τ := by
  have e1 := e 1 (by decide)
  have e3 := e 3 (by decide)
  obtain ⟨N, L, lm, c, h1, h2, h3, h4, h5⟩ := h
  refine ⟨N, L, lm, c, h1.mv e1, h2.cg (e 2 (by decide)), h3, by rw [e1]; exact h4, ?_⟩
  rcases h5 with h5 | ⟨h5, h6⟩
  · exact Or.inl (by rw [e3, e15]; exact h5)
  · refine Or.inr ⟨by rw [e3]; exact h5, h6.imp (fun z => ⟨z.1.cg e3, by rw [e15]; exact z.2⟩) (fun z => ⟨z.1.cg (fun q hq _ _ => e q hq), z.2.imp (fun y => by rw [e15]; exact y) (fun y => ⟨by rw [e15]; exact y.1, y.2.cg eb⟩)⟩)⟩
theorem EM.cg {σ τ : Hp} {M : Nat} (h : EM σ M) (e : ∀ q, q ∈ eC → τ.1 q = σ.1 q) (eb : ∀ q, q ∈ eB → τ.1 q = σ.1 q) (e15 : τ.1 15 13 = σ.1 15 13) : EM τ M := ⟨by rw [e 3 (by decide)]; exact h.m, h.le, h.ca.cg e eb e15⟩
theorem Old.up {c : Nat} {x : Int32} (h : Old c x) : Old (c + 1) x := h.imp id (fun ⟨d, a, b⟩ => ⟨d, by omega, b⟩)
theorem Old.at {c : Nat} {x : Int32} (h : x = nI c) : Old (c + 1) x := Or.inr ⟨c, by omega, h⟩
/-- points or letters have changed: what is known is old -/
theorem EM.old {σ τ : Hp} {M c N L : Nat} {lm : Nat → Nat} (h : EM σ M) (hc : σ.1 1 3 = nI c) (hc2 : c + 1 < 2 ^ 31) (h1 : KI τ N L) (h2 : LL τ N L lm) (h3 : τ.1 1 3 = σ.1 1 3 + 1) (h4 : τ.1 3 = σ.1 3) (h5 : τ.1 15 = σ.1 15) : EM τ M := by
  obtain ⟨N', L', lm', c', -, -, g3, g4, g5⟩ := h.ca
  have : c = c' := (nI_eq (by omega) (by omega)).mp (hc.symm.trans g4)
  subst this
  refine ⟨by rw [h4]; exact h.m, h.le, N, L, lm, c + 1, h1, h2, hc2, by rw [h3, hc, nI_1], Or.inl ?_⟩
  rw [h4, h5]
  rcases g5 with ⟨g5, g6⟩ | ⟨g5, ⟨-, g6⟩ | ⟨-, g6 | ⟨g6, -⟩⟩⟩
  · exact ⟨g5.up, g6.up⟩
  · exact ⟨Old.at g5, g6.up⟩
  · exact ⟨Old.at g5, g6.up⟩
  · exact ⟨Old.at g5, Old.at g6⟩
/-- only the letters count -/
theorem EQ_cg {N L : Nat} {lm lm' : Nat → Nat} (h : ∀ k, k < L → lm k = lm' k) : EQ N L lm = EQ N L lm' := by
  unfold EQ
  have inner : ∀ i (Q : BQ) k, k ≤ L → it (fun k Q => bfA (stE N lm) i k Q) k Q = it (fun k Q => bfA (stE N lm') i k Q) k Q := by
    intro i Q k
    induction k with
    | zero => exact fun _ => rfl
    | succ k ih =>
      intro hk
      show bfA (stE N lm) i k (it (fun k Q => bfA (stE N lm) i k Q) k Q) = bfA (stE N lm') i k (it (fun k Q => bfA (stE N lm') i k Q) k Q)
      rw [ih (by omega)]
      unfold bfA stE
      rw [h k (by omega)]
  generalize n15 N = n
  induction n with
  | zero => rfl
  | succ n ih =>
    show (if n < (bfQ (stE N lm) L (idN N) n).length then bfE (stE N lm) L n (bfQ (stE N lm) L (idN N) n) else bfQ (stE N lm) L (idN N) n) = (if n < (bfQ (stE N lm') L (idN N) n).length then bfE (stE N lm') L n (bfQ (stE N lm') L (idN N) n) else bfQ (stE N lm') L (idN N) n)
    rw [ih]
    have : bfE (stE N lm) L n (bfQ (stE N lm') L (idN N) n) = bfE (stE N lm') L n (bfQ (stE N lm') L (idN N) n) := inner n _ L (Nat.le_refl _)
    rw [this]
theorem LL.un {σ : Hp} {N L : Nat} {lm lm' : Nat → Nat} (h0 : 0 < N) (h6 : N ≤ 6) (h : LL σ N L lm) (h' : LL σ N L lm') : ∀ k, k < L → lm k = lm' k := fun k hk => by
  have e := (h k hk).1.symm.trans (h' k hk).1
  rw [on_mp h0 h6, on_mp h0 h6] at e
  exact (mp_eq h0 h6 (h k hk).2 (h' k hk).2).mp e
theorem KI.un {σ : Hp} {N L N' L' : Nat} (h : KI σ N L) (h' : KI σ N' L') : N = N' ∧ L = L' := ⟨(nI_eq (by have := h.2.2.1; omega) (by have := h'.2.2.1; omega)).mp (h.1.symm.trans h'.1), (nI_eq (by have := h.2.2.2.2; omega) (by have := h'.2.2.2.2; omega)).mp (h.2.2.2.1.symm.trans h'.2.2.2.1)⟩
theorem ES.un {σ : Hp} {N L : Nat} {lm lm' : Nat → Nat} (h : ES σ N L lm) (e : ∀ k, k < L → lm k = lm' k) : ES σ N L lm' := ⟨h.1, by rw [← EQ_cg e]; exact h.2.1, h.2.2⟩
theorem EL.un {σ : Hp} {N L : Nat} {lm lm' : Nat → Nat} (h : EL σ N L lm) (e : ∀ k, k < L → lm k = lm' k) : EL σ N L lm' := by
  obtain ⟨h1, h2, h3⟩ := h
  rw [EQ_cg e] at h2 h3
  refine ⟨h1, h2, fun x l hx hl hl2 => ?_⟩
  have := h3 x l hx hl hl2
  unfold toP at this ⊢
  rw [e l hl] at this
  exact this
/-- a place in the list stays -/
theorem toP_pre {N L e l : Nat} {lm : Nat → Nat} {P Q : BQ} {s : Nat} (hP : BI (stE N lm) L s P) (hQ : BI (stE N lm) L s Q) (h : Pre P Q) (he : e < P.length) (hl : toP N lm P e l < P.length) (hh : hasB P (bN N (itm P e) (lm l)) = true) : toP N lm Q e l = toP N lm P e l := by
  obtain ⟨j, j1, j2⟩ := hasB_iff.mp hh
  have e1 : toP N lm P e l = j := hP.ps j1 j2
  have e2 : toP N lm Q e l = j := hQ.ps (Nat.lt_of_lt_of_le j1 h.1) (by rw [h.itm j1, j2, h.itm he])
  rw [e1, e2]
