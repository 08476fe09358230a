/-! the search, and what comes of one another (pure) -/
def runS (sp : Nat → Nat → Nat) : List Nat → Nat → Nat
  | [], a => a
  | k :: w, a => runS sp w (sp a k)
theorem runS_app {sp : Nat → Nat → Nat} : ∀ (v w : List Nat) (a : Nat), runS sp (v ++ w) a = runS sp w (runS sp v a)
  | [], _, _ => rfl
  | k :: v, w, a => runS_app v w (sp a k)
/-- b comes of a by steps -/
def RQ (sp : Nat → Nat → Nat) (T a b : Nat) : Prop := ∃ w : List Nat, (∀ k, k ∈ w → k < T) ∧ runS sp w a = b
theorem RQ.rf {sp : Nat → Nat → Nat} {T a : Nat} : RQ sp T a a := ⟨[], (fun k hk => by cases hk), rfl⟩
theorem RQ.tr {sp : Nat → Nat → Nat} {T a b c : Nat} (h : RQ sp T a b) (h' : RQ sp T b c) : RQ sp T a c := by
  obtain ⟨v, hv, e⟩ := h
  obtain ⟨w, hw, e'⟩ := h'
  exact ⟨v ++ w, fun k hk => (List.mem_append.mp hk).elim (hv k) (hw k), by rw [runS_app, e, e']⟩
theorem RQ.one {sp : Nat → Nat → Nat} {T a l : Nat} (hl : l < T) : RQ sp T a (sp a l) := ⟨[l], fun k hk => by rw [List.mem_singleton.mp hk]; exact hl, rfl⟩
/-- what is closed under steps is not left -/
theorem RQ.cl {sp : Nat → Nat → Nat} {T a b : Nat} {X : Nat → Prop} (h : RQ sp T a b) (hX : ∀ e, X e → ∀ l, l < T → X (sp e l)) (ha : X a) : X b := by
  obtain ⟨w, hw, e⟩ := h
  have key : ∀ (w : List Nat) a, (∀ k, k ∈ w → k < T) → X a → X (runS sp w a) := by
    intro w
    induction w with
    | nil => exact fun _ _ h => h
    | cons k w ih => exact fun a hw h => ih (sp a k) (fun j hj => hw j (List.mem_cons_of_mem _ hj)) (hX a h k (hw k List.mem_cons_self))
  rw [← e]
  exact key w a hw ha
def onO (o : Nat → Nat) (held e : Nat) : Prop := ∃ j, j < held ∧ o j = e
/-- what the search holds of what comes of what -/
def TS (M T : Nat) (sp : Nat → Nat → Nat) (u : Nat → Bool) (f w g p o : Nat → Nat) (held high hb : Nat) (act : Nat → Nat) : Prop :=
  (∀ i, i + 1 < high → RQ sp T (p i) (p (i + 1))) ∧
  (∀ i, i < hb → ∀ y, onO o held y → f (p i) ≤ f y → RQ sp T (p i) y) ∧
  (∀ i, i < hb → ∀ y, onO o held y → (i + 1 < hb → f y < f (p (i + 1))) → RQ sp T y (p i)) ∧
  (∀ i, i < hb → ∃ y, onO o held y ∧ f y = w (p i) ∧ RQ sp T (p i) y) ∧
  (∀ i, i < hb → ∀ y, onO o held y → f (p i) ≤ f y → (i + 1 < hb → f y < f (p (i + 1))) → ∀ l, l < g y → onO o held (sp y l) → w (p i) ≤ f (sp y l)) ∧
  (∀ e, e < M → u e = true → ∀ l, l < g e → u (sp e l) = true ∨ (hb + 1 = high ∧ sp e l = p hb)) ∧
  (∀ e, e < M → u e = true → g e < T → ∃ i, i < hb ∧ p i = e) ∧
  (∀ e, e < M → u e = true → ¬ onO o held e → (∀ l, l < T → u (sp e l) = true ∧ ¬ onO o held (sp e l)) ∧ act e < M ∧ u (act e) = true ∧ ¬ onO o held (act e)) ∧
  (∀ e e', e < M → e' < M → u e = true → u e' = true → ¬ onO o held e → ¬ onO o held e' → (act e = act e' ↔ RQ sp T e e' ∧ RQ sp T e' e))
theorem TS.P {M T : Nat} {sp : Nat → Nat → Nat} {u : Nat → Bool} {f w g p o act : Nat → Nat} {held high hb : Nat} (h : TS M T sp u f w g p o held high hb act) : ∀ i, i + 1 < high → RQ sp T (p i) (p (i + 1)) := h.1
theorem TS.A {M T : Nat} {sp : Nat → Nat → Nat} {u : Nat → Bool} {f w g p o act : Nat → Nat} {held high hb : Nat} (h : TS M T sp u f w g p o held high hb act) : ∀ i, i < hb → ∀ y, onO o held y → f (p i) ≤ f y → RQ sp T (p i) y := h.2.1
theorem TS.B {M T : Nat} {sp : Nat → Nat → Nat} {u : Nat → Bool} {f w g p o act : Nat → Nat} {held high hb : Nat} (h : TS M T sp u f w g p o held high hb act) : ∀ i, i < hb → ∀ y, onO o held y → (i + 1 < hb → f y < f (p (i + 1))) → RQ sp T y (p i) := h.2.2.1
theorem TS.W {M T : Nat} {sp : Nat → Nat → Nat} {u : Nat → Bool} {f w g p o act : Nat → Nat} {held high hb : Nat} (h : TS M T sp u f w g p o held high hb act) : ∀ i, i < hb → ∃ y, onO o held y ∧ f y = w (p i) ∧ RQ sp T (p i) y := h.2.2.2.1
theorem TS.L {M T : Nat} {sp : Nat → Nat → Nat} {u : Nat → Bool} {f w g p o act : Nat → Nat} {held high hb : Nat} (h : TS M T sp u f w g p o held high hb act) : ∀ i, i < hb → ∀ y, onO o held y → f (p i) ≤ f y → (i + 1 < hb → f y < f (p (i + 1))) → ∀ l, l < g y → onO o held (sp y l) → w (p i) ≤ f (sp y l) := h.2.2.2.2.1
theorem TS.S {M T : Nat} {sp : Nat → Nat → Nat} {u : Nat → Bool} {f w g p o act : Nat → Nat} {held high hb : Nat} (h : TS M T sp u f w g p o held high hb act) : ∀ e, e < M → u e = true → ∀ l, l < g e → u (sp e l) = true ∨ (hb + 1 = high ∧ sp e l = p hb) := h.2.2.2.2.2.1
theorem TS.G {M T : Nat} {sp : Nat → Nat → Nat} {u : Nat → Bool} {f w g p o act : Nat → Nat} {held high hb : Nat} (h : TS M T sp u f w g p o held high hb act) : ∀ e, e < M → u e = true → g e < T → ∃ i, i < hb ∧ p i = e := h.2.2.2.2.2.2.1
theorem TS.C {M T : Nat} {sp : Nat → Nat → Nat} {u : Nat → Bool} {f w g p o act : Nat → Nat} {held high hb : Nat} (h : TS M T sp u f w g p o held high hb act) : ∀ e, e < M → u e = true → ¬ onO o held e → (∀ l, l < T → u (sp e l) = true ∧ ¬ onO o held (sp e l)) ∧ act e < M ∧ u (act e) = true ∧ ¬ onO o held (act e) := h.2.2.2.2.2.2.2.1
theorem TS.K {M T : Nat} {sp : Nat → Nat → Nat} {u : Nat → Bool} {f w g p o act : Nat → Nat} {held high hb : Nat} (h : TS M T sp u f w g p o held high hb act) : ∀ e e', e < M → e' < M → u e = true → u e' = true → ¬ onO o held e → ¬ onO o held e' → (act e = act e' ↔ RQ sp T e e' ∧ RQ sp T e' e) := h.2.2.2.2.2.2.2.2
section TS
variable {M T : Nat} {sp : Nat → Nat → Nat} {u : Nat → Bool} {f w g p o act : Nat → Nat} {met held high hb : Nat}
theorem TS.none (hu : ∀ e, e < M → u e = false) : TS M T sp u f w g p o 0 0 0 act := by
  have no : ∀ e, e < M → ¬ u e = true := fun e he q => by rw [hu e he] at q; cases q
  exact ⟨fun i hi => absurd hi (Nat.not_lt_zero _), fun i hi => absurd hi (Nat.not_lt_zero _), fun i hi => absurd hi (Nat.not_lt_zero _), fun i hi => absurd hi (Nat.not_lt_zero _), fun i hi => absurd hi (Nat.not_lt_zero _), fun e he h => absurd h (no e he), fun e he h => absurd h (no e he), fun e he h => absurd h (no e he), fun e _ he _ h => absurd h (no e he)⟩
theorem TS.start (h : TS M T sp u f w g p o 0 0 0 act) (v : Nat) : TS M T sp u f w g (fu p 0 v) o 0 1 0 act :=
  ⟨fun i hi => by omega, fun i hi => absurd hi (Nat.not_lt_zero _), fun i hi => absurd hi (Nat.not_lt_zero _), fun i hi => absurd hi (Nat.not_lt_zero _), fun i hi => absurd hi (Nat.not_lt_zero _), fun e he hu l hl => (h.S e he hu l hl).elim Or.inl (fun q => by omega), fun e he hu hg => (h.G e he hu hg).elim (fun i q => absurd q.1 (Nat.not_lt_zero _)), h.C, h.K⟩
theorem onO_u (hP : TP M T u f w g p o met held high hb) {y : Nat} (hy : onO o held y) : y < M ∧ u y = true := by
  obtain ⟨j, hj, rfl⟩ := hy
  exact hP.2.1 j hj
/-- a step to one that isn't met: it is put on the path -/
theorem TS.down {k l : Nat} (h : TS M T sp u f w g p o held (k + 1) (k + 1) act) (hP : TP M T u f w g p o met held (k + 1) (k + 1)) (hl : g (p k) < T) (hx : u (sp (p k) (g (p k))) = false) : TS M T sp u f w (fu g (p k) (g (p k) + 1)) (fu p (k + 1) (sp (p k) (g (p k)))) o held (k + 2) (k + 1) act := by
  have hp : ∀ i, i < k + 1 → fu p (k + 1) (sp (p k) (g (p k))) i = p i := fun i hi => fu_ne (by omega)
  refine ⟨fun i hi => ?_, fun i hi y hy hf => ?_, fun i hi y hy hf => ?_, fun i hi => ?_, fun i hi y hy hf hf2 l hl2 hon => ?_, fun e he hu l hl2 => ?_, fun e he hu hg => ?_, h.C, h.K⟩
  · rw [hp i (by omega)]
    by_cases q : i = k
    · rw [q, fu_eq]
      exact RQ.one hl
    · rw [hp (i + 1) (by omega)]
      exact h.P i (by omega)
  · rw [hp i hi] at hf ⊢
    exact h.A i hi y hy hf
  · rw [hp i hi]
    exact h.B i hi y hy (fun q => by have := hf q; rwa [hp (i + 1) q] at this)
  · rw [hp i hi]
    exact h.W i hi
  · rw [hp i hi] at hf ⊢
    have hc : i + 1 < k + 1 → f y < f (p (i + 1)) := fun q => by have := hf2 q; rwa [hp (i + 1) q] at this
    by_cases q : y = p k
    · rw [q, fu_eq] at hl2
      by_cases q2 : l = g (p k)
      · rw [q, q2] at hon
        have := (onO_u hP hon).2
        rw [hx] at this
        cases this
      · exact h.L i hi y hy hf hc l (by rw [q]; omega) hon
    · rw [fu_ne q] at hl2
      exact h.L i hi y hy hf hc l hl2 hon
  · by_cases q : e = p k
    · rw [q, fu_eq] at hl2
      by_cases q2 : l = g (p k)
      · exact Or.inr ⟨rfl, by rw [q, q2, fu_eq]⟩
      · exact (h.S e he hu l (by rw [q]; omega)).elim Or.inl (fun z => by omega)
    · rw [fu_ne q] at hl2
      exact (h.S e he hu l hl2).elim Or.inl (fun z => by omega)
  · by_cases q : e = p k
    · exact ⟨k, by omega, by rw [hp k (by omega), q]⟩
    · rw [fu_ne q] at hg
      obtain ⟨i, hi, ei⟩ := h.G e he hu hg
      exact ⟨i, hi, by rw [hp i hi]; exact ei⟩
theorem TS.chain (h : TS M T sp u f w g p o held high hb act) {i : Nat} : ∀ d, i + d < high → RQ sp T (p i) (p (i + d))
  | 0, _ => RQ.rf
  | d + 1, hd => (h.chain d (by omega)).tr (h.P (i + d) hd)
/-- the path's last is numbered -/
theorem TS.opn (h : TS M T sp u f w g p o held (hb + 1) hb act) (hP : TP M T u f w g p o met held (hb + 1) hb) (hu : u (p hb) = false) : TS M T sp (fu u (p hb) true) (fu f (p hb) met) (fu w (p hb) met) (fu g (p hb) 0) p (fu o held (p hb)) (held + 1) (hb + 1) (hb + 1) act := by
  obtain ⟨v, hv⟩ : ∃ v, v = p hb := ⟨_, rfl⟩
  have hch := fun i (hi : i < hb) => (h.chain (i := i) (hb - i) (by omega))
  have hch : ∀ i, i < hb → RQ sp T (p i) v := fun i hi => by
    have := hch i hi
    rwa [show i + (hb - i) = hb by omega, ← hv] at this
  rw [← hv] at hu ⊢
  have nP : ∀ i, i < hb → p i ≠ v := fun i hi e => by
    have := hP.2.2.1 i hi
    rw [e, hu] at this
    cases this
  have nO : ∀ y, onO o held y → y ≠ v := fun y hy e => by
    have := (onO_u hP hy).2
    rw [e, hu] at this
    cases this
  have fl : ∀ y, onO o held y → f y < met := fun y hy => (hP.2.2.2.2.2.2.1 y (onO_u hP hy).1 (onO_u hP hy).2).1
  have fp : ∀ i, i < hb → f (p i) < met := fun i hi => (hP.2.2.2.2.2.2.1 _ (hP.1 i (by omega)) (hP.2.2.1 i hi)).1
  have on' : ∀ y, onO (fu o held v) (held + 1) y ↔ onO o held y ∨ y = v := fun y => by
    constructor
    · rintro ⟨j, hj, e⟩
      by_cases q : j = held
      · rw [q, fu_eq] at e
        exact Or.inr e.symm
      · rw [fu_ne q] at e
        exact Or.inl ⟨j, by omega, e⟩
    · rintro (⟨j, hj, e⟩ | e)
      · exact ⟨j, by omega, by rw [fu_ne (by omega)]; exact e⟩
      · exact ⟨held, by omega, by rw [fu_eq, e]⟩
  refine ⟨h.P, fun i hi y hy hf => ?_, fun i hi y hy hf => ?_, fun i hi => ?_, fun i hi y hy hf hf2 l hl hon => ?_, fun e he hue l hl => ?_, fun e he hue hg => ?_, fun e he hue hno => ?_, fun e e' he he' hue hue' hno hno' => ?_⟩
  · by_cases q : i = hb
    · rw [q, ← hv, fu_eq] at hf
      rcases (on' y).mp hy with z | z
      · rw [fu_ne (nO y z)] at hf
        have := fl y z
        omega
      · rw [q, z, ← hv]
        exact RQ.rf
    · rw [fu_ne (nP i (by omega))] at hf
      rcases (on' y).mp hy with z | z
      · rw [fu_ne (nO y z)] at hf
        exact h.A i (by omega) y z hf
      · rw [z]
        exact hch i (by omega)
  · by_cases q : i = hb
    · rw [q, ← hv]
      rcases (on' y).mp hy with z | z
      · have h0 : 0 < hb := by
          rcases Nat.eq_zero_or_pos hb with q2 | q2
          · obtain ⟨j, hj, -⟩ := z
            have := hP.2.2.2.2.2.2.2.2.2.1 q2
            omega
          · exact q2
        exact (h.B (hb - 1) (by omega) y z (fun q2 => by omega)).tr (hch (hb - 1) (by omega))
      · rw [z]
        exact RQ.rf
    · rcases (on' y).mp hy with z | z
      · refine h.B i (by omega) y z (fun q2 => ?_)
        have := hf (by omega)
        rwa [fu_ne (nO y z), fu_ne (nP (i + 1) q2)] at this
      · exfalso
        have := hf (by omega)
        rw [z, fu_eq] at this
        by_cases q2 : i + 1 = hb
        · rw [q2, ← hv, fu_eq] at this
          omega
        · rw [fu_ne (nP (i + 1) (by omega))] at this
          have := fp (i + 1) (by omega)
          omega
  · by_cases q : i = hb
    · exact ⟨v, (on' v).mpr (Or.inr rfl), by rw [q, ← hv, fu_eq, fu_eq], by rw [q, ← hv]; exact RQ.rf⟩
    · obtain ⟨y, y1, y2, y3⟩ := h.W i (by omega)
      exact ⟨y, (on' y).mpr (Or.inl y1), by rw [fu_ne (nO y y1), fu_ne (nP i (by omega))]; exact y2, y3⟩
  · rcases (on' y).mp hy with z | z
    · rw [fu_ne (nO y z)] at hl hf
      by_cases q : i = hb
      · rw [q, ← hv, fu_eq] at hf
        have := fl y z
        omega
      · rw [fu_ne (nP i (by omega))] at hf ⊢
        rcases (on' (sp y l)).mp hon with z2 | z2
        · rw [fu_ne (nO _ z2)]
          refine h.L i (by omega) y z hf (fun q2 => ?_) l hl z2
          have := hf2 (by omega)
          rwa [fu_ne (nO y z), fu_ne (nP (i + 1) q2)] at this
        · rw [z2, fu_eq]
          have h1 := (hP.2.2.2.2.2.2.2.1 i (by omega)).2
          have h2 := fp i (by omega)
          omega
    · rw [z, fu_eq] at hl
      exact absurd hl (Nat.not_lt_zero _)
  · by_cases q : e = v
    · rw [q, fu_eq] at hl
      exact absurd hl (Nat.not_lt_zero _)
    · rw [fu_ne q] at hue hl
      refine Or.inl ?_
      rcases h.S e he hue l hl with z | ⟨-, z⟩
      · by_cases q2 : sp e l = v
        · rw [q2, fu_eq]
        · rw [fu_ne q2]
          exact z
      · rw [z, ← hv, fu_eq]
  · by_cases q : e = v
    · exact ⟨hb, by omega, by rw [q, hv]⟩
    · rw [fu_ne q] at hue hg
      obtain ⟨i, hi, ei⟩ := h.G e he hue hg
      exact ⟨i, by omega, ei⟩
  · have q : e ≠ v := fun z => hno ((on' e).mpr (Or.inr z))
    rw [fu_ne q] at hue
    obtain ⟨c1, c2, c3, c4⟩ := h.C e he hue (fun z => hno ((on' e).mpr (Or.inl z)))
    have nv : ∀ y, u y = true → y ≠ v := fun y hy z => by rw [z, hu] at hy; cases hy
    refine ⟨fun l hl => ?_, c2, by rw [fu_ne (nv _ c3)]; exact c3, fun z => ((on' _).mp z).elim c4 (nv _ c3)⟩
    obtain ⟨d1, d2⟩ := c1 l hl
    exact ⟨by rw [fu_ne (nv _ d1)]; exact d1, fun z => ((on' _).mp z).elim d2 (nv _ d1)⟩
  · have q : e ≠ v := fun z => hno ((on' e).mpr (Or.inr z))
    have q' : e' ≠ v := fun z => hno' ((on' e').mpr (Or.inr z))
    rw [fu_ne q] at hue
    rw [fu_ne q'] at hue'
    exact h.K e e' he he' hue hue' (fun z => hno ((on' e).mpr (Or.inl z))) (fun z => hno' ((on' e').mpr (Or.inl z)))
theorem TP.f_le {k : Nat} (hP : TP M T u f w g p o met held high (k + 1)) {i : Nat} (hi : i ≤ k) : f (p i) ≤ f (p k) := by
  rcases Nat.lt_or_ge i k with q | q
  · exact Nat.le_of_lt (hP.2.2.2.1 i k q (by omega))
  · rw [show i = k by omega]
    exact Nat.le_refl _
/-- a step to one that is met; the low may be lowered -/
theorem TS.side {k : Nat} {w' : Nat → Nat} (h : TS M T sp u f w g p o held (k + 1) (k + 1) act) (hP : TP M T u f w g p o met held (k + 1) (k + 1)) (hx : u (sp (p k) (g (p k))) = true) (hw : ∀ e, e ≠ p k → w' e = w e) (h1 : w' (p k) ≤ w (p k)) (h2 : onO o held (sp (p k) (g (p k))) → w' (p k) ≤ f (sp (p k) (g (p k)))) (h3 : ∃ y, onO o held y ∧ f y = w' (p k) ∧ RQ sp T (p k) y) : TS M T sp u f w' (fu g (p k) (g (p k) + 1)) p o held (k + 1) (k + 1) act := by
  have wle : ∀ i, w' (p i) ≤ w (p i) := fun i => by
    by_cases q : p i = p k
    · rw [q]; exact h1
    · rw [hw _ q]; exact Nat.le_refl _
  refine ⟨h.P, h.A, h.B, fun i hi => ?_, fun i hi y hy hf hf2 l hl hon => ?_, fun e he hu l hl => ?_, fun e he hu hg => ?_, h.C, h.K⟩
  · by_cases q : p i = p k
    · rw [q]; exact h3
    · rw [hw _ q]; exact h.W i hi
  · by_cases q : y = p k ∧ l = g (p k)
    · obtain ⟨rfl, rfl⟩ := q
      have ik : i = k := by
        rcases Nat.lt_or_ge i k with z | z
        · have a1 := hf2 (by omega)
          have a2 := hP.f_le (i := i + 1) (by omega)
          omega
        · omega
      rw [ik]
      exact h2 hon
    · have hl2 : l < g y := by
        by_cases q2 : y = p k
        · rw [q2, fu_eq] at hl
          rw [q2]
          have : l ≠ g (p k) := fun z => q ⟨q2, z⟩
          omega
        · rwa [fu_ne q2] at hl
      exact Nat.le_trans (wle i) (h.L i hi y hy hf hf2 l hl2 hon)
  · by_cases q : e = p k ∧ l = g (p k)
    · obtain ⟨rfl, rfl⟩ := q
      exact Or.inl hx
    · have hl2 : l < g e := by
        by_cases q2 : e = p k
        · rw [q2, fu_eq] at hl
          rw [q2]
          have : l ≠ g (p k) := fun z => q ⟨q2, z⟩
          omega
        · rwa [fu_ne q2] at hl
      exact h.S e he hu l hl2
  · by_cases q : e = p k
    · exact ⟨k, by omega, q.symm⟩
    · rw [fu_ne q] at hg
      exact h.G e he hu hg
/-- a low of the path is lowered to that of the next one -/
theorem TS.lower {k : Nat} {w' : Nat → Nat} (h : TS M T sp u f w g p o held (k + 2) (k + 2) act) (hw : ∀ e, e ≠ p k → w' e = w e) (h1 : w' (p k) = w (p (k + 1))) (h2 : w' (p k) ≤ w (p k)) : TS M T sp u f w' g p o held (k + 2) (k + 2) act := by
  have wle : ∀ i, w' (p i) ≤ w (p i) := fun i => by
    by_cases q : p i = p k
    · rw [q]; exact h2
    · rw [hw _ q]; exact Nat.le_refl _
  refine ⟨h.P, h.A, h.B, fun i hi => ?_, fun i hi y hy hf hf2 l hl hon => Nat.le_trans (wle i) (h.L i hi y hy hf hf2 l hl hon), h.S, h.G, h.C, h.K⟩
  by_cases q : p i = p k
  · obtain ⟨y, y1, y2, y3⟩ := h.W (k + 1) (by omega)
    exact ⟨y, y1, by rw [q, h1]; exact y2, by rw [q]; exact (h.P k (by omega)).tr y3⟩
  · rw [hw _ q]; exact h.W i hi
/-- the path's last is left, and stays in the order -/
theorem TS.leave {k : Nat} (h : TS M T sp u f w g p o held (k + 2) (k + 2) act) (hg : ¬ g (p (k + 1)) < T) (h1 : w (p k) ≤ w (p (k + 1))) (h2 : w (p (k + 1)) < f (p (k + 1))) : TS M T sp u f w g p o held (k + 1) (k + 1) act := by
  refine ⟨fun i hi => h.P i (by omega), fun i hi => h.A i (by omega), fun i hi y hy hf => ?_, fun i hi => h.W i (by omega), fun i hi y hy hf hf2 l hl hon => ?_, fun e he hu l hl => (h.S e he hu l hl).elim Or.inl (fun z => by omega), fun e he hu hg2 => ?_, h.C, h.K⟩
  · by_cases q : i = k
    · rw [q]
      rcases Nat.lt_or_ge (f y) (f (p (k + 1))) with z | z
      · exact h.B k (by omega) y hy (fun _ => z)
      · obtain ⟨x, x1, x2, x3⟩ := h.W (k + 1) (by omega)
        exact (h.B (k + 1) (by omega) y hy (fun z => by omega)).tr (x3.tr (h.B k (by omega) x x1 (fun _ => by rw [x2]; exact h2)))
    · exact h.B i (by omega) y hy (fun _ => hf (by omega))
  · by_cases q : i = k
    · rw [q] at hf ⊢
      rcases Nat.lt_or_ge (f y) (f (p (k + 1))) with z | z
      · exact h.L k (by omega) y hy hf (fun _ => z) l hl hon
      · exact Nat.le_trans h1 (h.L (k + 1) (by omega) y hy z (fun z => by omega) l hl hon)
    · exact h.L i (by omega) y hy hf (fun _ => hf2 (by omega)) l hl hon
  · obtain ⟨i, hi, ei⟩ := h.G e he hu hg2
    refine ⟨i, ?_, ei⟩
    rcases Nat.lt_or_ge i (k + 1) with q | q
    · exact q
    · rw [show i = k + 1 by omega] at ei
      rw [ei] at hg
      exact absurd hg2 hg
/-- the path's last is left, and the order down to it: these are alike -/
theorem TS.close {k j0 : Nat} {act' : Nat → Nat} (hsp : ∀ e l, e < M → l < T → sp e l < M) (h : TS M T sp u f w g p o held (k + 1) (k + 1) act) (hP : TP M T u f w g p o met held (k + 1) (k + 1)) (hg : ¬ g (p k) < T) (hw : w (p k) = f (p k)) (hj : j0 < held) (ej : o j0 = p k) (ha1 : ∀ j, j0 ≤ j → j < held → act' (o j) = p k) (ha2 : ∀ e, (∀ j, j0 ≤ j → j < held → o j ≠ e) → act' e = act e) : TS M T sp u f w g p o j0 k k act' := by
  have hcM := hP.1 k (by omega)
  have hcu := hP.2.2.1 k (by omega)
  have hcon : onO o held (p k) := ⟨j0, hj, ej⟩
  have sub : ∀ y, onO o j0 y → onO o held y ∧ f y < f (p k) := by
    rintro y ⟨j, hj2, rfl⟩
    exact ⟨⟨j, by omega, rfl⟩, by rw [← ej]; exact hP.2.2.2.2.1 j j0 hj2 hj⟩
  have sup : ∀ y, onO o held y → f y < f (p k) → onO o j0 y := by
    rintro y ⟨j, hj2, rfl⟩ hf
    refine ⟨j, ?_, rfl⟩
    rcases Nat.lt_trichotomy j j0 with q | q | q
    · exact q
    · rw [q, ej] at hf
      omega
    · have := hP.2.2.2.2.1 j0 j q hj2
      rw [ej] at this
      omega
  -- those that are alike
  have dc : ∀ y, onO o held y → ¬ onO o j0 y → f (p k) ≤ f y := fun y hy hn => by
    rcases Nat.lt_or_ge (f y) (f (p k)) with q | q
    · exact absurd (sup y hy q) hn
    · exact q
  have dact : ∀ y, onO o held y → ¬ onO o j0 y → act' y = p k := by
    rintro y ⟨j, hj2, rfl⟩ hn
    refine ha1 j ?_ hj2
    rcases Nat.lt_or_ge j j0 with q | q
    · exact absurd ⟨j, q, rfl⟩ hn
    · exact q
  have oact : ∀ y, ¬ onO o held y → act' y = act y := fun y hn => ha2 y (fun j _ hj2 e => hn ⟨j, hj2, e⟩)
  have dg : ∀ y, onO o held y → f (p k) ≤ f y → ∀ l, l < T → l < g y := fun y hy hf l hl => by
    rcases Nat.lt_or_ge (g y) T with q | q
    · exfalso
      obtain ⟨i, hi, ei⟩ := h.G y (onO_u hP hy).1 (onO_u hP hy).2 q
      rcases Nat.lt_or_ge i k with z | z
      · have := hP.2.2.2.1 i k z (by omega)
        rw [ei] at this
        omega
      · rw [show i = k by omega] at ei
        rw [ei] at hg
        exact hg q
    · omega
  have ds : ∀ y, onO o held y → ¬ onO o j0 y → ∀ l, l < T → u (sp y l) = true ∧ ¬ onO o j0 (sp y l) := fun y hy hn l hl => by
    have hf := dc y hy hn
    have hlg := dg y hy hf l hl
    refine ⟨(h.S y (onO_u hP hy).1 (onO_u hP hy).2 l hlg).elim id (fun z => by omega), fun z => ?_⟩
    obtain ⟨z1, z2⟩ := sub _ z
    have := h.L k (by omega) y hy hf (fun z => by omega) l hlg z1
    omega
  have cl : ∀ e e', e < M → u e = true → ¬ onO o held e → RQ sp T e e' → ¬ onO o held e' := fun e e' he hu hn hr => by
    have := hr.cl (X := fun e => e < M ∧ u e = true ∧ ¬ onO o held e) (fun x hx l hl => by
      obtain ⟨c1, c2⟩ := (h.C x hx.1 hx.2.1 hx.2.2).1 l hl
      exact ⟨hsp x l hx.1 hl, c1, c2⟩) ⟨he, hu, hn⟩
    exact this.2.2
  refine ⟨fun i hi => h.P i (by omega), fun i hi y hy hf => h.A i (by omega) y (sub y hy).1 hf, fun i hi y hy hf => ?_, fun i hi => ?_, fun i hi y hy hf hf2 l hl hon => ?_, fun e he hu l hl => (h.S e he hu l hl).elim Or.inl (fun z => by omega), fun e he hu hg2 => ?_, fun e he hu hno => ?_, fun e e' he he' hu hu' hno hno' => ?_⟩
  · refine h.B i (by omega) y (sub y hy).1 (fun q => ?_)
    by_cases q2 : i + 1 = k
    · rw [q2]
      exact (sub y hy).2
    · exact hf (by omega)
  · obtain ⟨y, y1, y2, y3⟩ := h.W i (by omega)
    refine ⟨y, sup y y1 ?_, y2, y3⟩
    rw [y2]
    have a1 := (hP.2.2.2.2.2.2.2.1 i (by omega)).2
    have a2 := hP.2.2.2.1 i k hi (by omega)
    omega
  · refine h.L i (by omega) y (sub y hy).1 hf (fun q => ?_) l hl (sub _ hon).1
    by_cases q2 : i + 1 = k
    · rw [q2]
      exact (sub y hy).2
    · exact hf2 (by omega)
  · obtain ⟨i, hi, ei⟩ := h.G e he hu hg2
    refine ⟨i, ?_, ei⟩
    rcases Nat.lt_or_ge i k with q | q
    · exact q
    · rw [show i = k by omega] at ei
      rw [ei] at hg
      exact absurd hg2 hg
  · by_cases q : onO o held e
    · rw [dact e q hno]
      exact ⟨ds e q hno, hcM, hcu, fun z => by have := (sub _ z).2; omega⟩
    · obtain ⟨c1, c2, c3, c4⟩ := h.C e he hu q
      rw [oact e q]
      exact ⟨fun l hl => ⟨(c1 l hl).1, fun z => (c1 l hl).2 (sub _ z).1⟩, c2, c3, fun z => c4 (sub _ z).1⟩
  · by_cases q : onO o held e <;> by_cases q' : onO o held e'
    · rw [dact e q hno, dact e' q' hno']
      have r1 := h.A k (by omega) e q (dc e q hno)
      have r2 := h.B k (by omega) e q (fun z => by omega)
      have r3 := h.A k (by omega) e' q' (dc e' q' hno')
      have r4 := h.B k (by omega) e' q' (fun z => by omega)
      exact ⟨fun _ => ⟨r2.tr r3, r4.tr r1⟩, fun _ => rfl⟩
    · rw [dact e q hno, oact e' q']
      constructor
      · intro z
        have := (h.C e' he' hu' q').2.2.2
        rw [← z] at this
        exact absurd hcon this
      · rintro ⟨-, z⟩
        exact absurd q (cl e' e he' hu' q' z)
    · rw [oact e q, dact e' q' hno']
      constructor
      · intro z
        have := (h.C e he hu q).2.2.2
        rw [z] at this
        exact absurd hcon this
      · rintro ⟨z, -⟩
        exact absurd q' (cl e e' he hu q z)
    · rw [oact e q, oact e' q']
      exact h.K e e' he he' hu hu' q q'
end TS
