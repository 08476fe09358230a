/-! contracts: heaps found (the reference): it ends, within the rows -/
def sm (F : Nat → Nat) (M : Nat) : Nat := it (fun e s => s + F e) M 0
theorem sm_cong {F G : Nat → Nat} : ∀ M, (∀ e, e < M → F e = G e) → sm F M = sm G M
  | 0, _ => rfl
  | M + 1, h => by
    have := sm_cong M (fun e he => h e (by omega))
    show sm F M + F M = sm G M + G M
    rw [this, h M (by omega)]
theorem sm_upd {F G : Nat → Nat} {c : Nat} : ∀ M, c < M → (∀ e, e < M → e ≠ c → G e = F e) → sm G M + F c = sm F M + G c
  | 0, h, _ => absurd h (Nat.not_lt_zero c)
  | M + 1, h, hg => by
    show sm G M + G M + F c = sm F M + F M + G c
    by_cases q : c = M
    · have := sm_cong (F := G) (G := F) M (fun e he => hg e (by omega) (by omega))
      rw [this, q]
      omega
    · have := sm_upd M (by omega) (fun e he hne => hg e (by omega) hne)
      rw [hg M (by omega) (fun e => q e.symm)]
      omega
theorem sm_le {F : Nat → Nat} : ∀ M, (∀ e, e < M → F e ≤ 1) → sm F M ≤ M
  | 0, _ => Nat.le_refl _
  | M + 1, h => by
    have := sm_le M (fun e he => h e (by omega))
    have := h M (by omega)
    show sm F M + F M ≤ M + 1
    omega
def un1 (u : Nat → Bool) (e : Nat) : Nat := if u e = true then 1 else 0
def wt1 (T : Nat) (u : Nat → Bool) (g : Nat → Nat) (e : Nat) : Nat := if u e = true then 2 * (T - g e) else 2 * T + 3
/-- what the rows hold: numbers, lows, next steps, the path, the order, who is in it, the heads -/
def TR (M : Nat) (τ : Hp) (u : Nat → Bool) (f w g p o : Nat → Nat) (held high : Nat) : Prop :=
  (∀ e, e < M → τ.1 70 e = if u e = true then nI (f e) else -9) ∧ (∀ e, e < M → u e = true → τ.1 71 e = nI (w e)) ∧ (∀ e, e < M → u e = true → τ.1 69 e = nI (g e)) ∧ (∀ i, i < high → τ.1 68 i = nI (p i)) ∧ (∀ j, j < held → τ.1 67 j = nI (o j)) ∧ (∀ e, e < M → (∀ j, j < held → o j ≠ e) → τ.1 72 e = 0) ∧ ∀ e, e < M → u e = true → (∃ j, j < held ∧ o j = e) ∨ ∃ x, x < M ∧ τ.1 78 e = nI x
/-- how they stand to one another: the path's first hb are numbered -/
def TP (M T : Nat) (u : Nat → Bool) (f w g p o : Nat → Nat) (met held high hb : Nat) : Prop :=
  (∀ i, i < high → p i < M) ∧ (∀ j, j < held → o j < M ∧ u (o j) = true) ∧ (∀ i, i < hb → u (p i) = true) ∧ (∀ i j, i < j → j < hb → f (p i) < f (p j)) ∧ (∀ i j, i < j → j < held → f (o i) < f (o j)) ∧ (∀ i, i < hb → ∃ j, j < held ∧ o j = p i) ∧ (∀ e, e < M → u e = true → f e < met ∧ g e ≤ T) ∧ (∀ i, i < hb → f (o 0) ≤ w (p i) ∧ w (p i) ≤ f (p i)) ∧ (0 < hb → o 0 = p 0) ∧ (hb = 0 → held = 0) ∧ sm (un1 u) M = met ∧ hb ≤ high
theorem TP.inP {M T : Nat} {u : Nat → Bool} {f w g p o : Nat → Nat} {met held high hb : Nat} (h : TP M T u f w g p o met held high hb) {i j : Nat} (hi : i < hb) (hj : j < hb) (e : p i = p j) : i = j := by
  obtain ⟨-, -, -, h4, -⟩ := h
  rcases Nat.lt_trichotomy i j with q | q | q
  · have := h4 i j q hj; rw [e] at this; omega
  · exact q
  · have := h4 j i q hi; rw [e] at this; omega
theorem TP.inO {M T : Nat} {u : Nat → Bool} {f w g p o : Nat → Nat} {met held high hb : Nat} (h : TP M T u f w g p o met held high hb) {i j : Nat} (hi : i < held) (hj : j < held) (e : o i = o j) : i = j := by
  obtain ⟨-, -, -, -, h5, -⟩ := h
  rcases Nat.lt_trichotomy i j with q | q | q
  · have := h5 i j q hj; rw [e] at this; omega
  · exact q
  · have := h5 j i q hi; rw [e] at this; omega
theorem TP.metM {M T : Nat} {u : Nat → Bool} {f w g p o : Nat → Nat} {met held high hb : Nat} (h : TP M T u f w g p o met held high hb) : met ≤ M := by
  obtain ⟨-, -, -, -, -, -, -, -, -, -, hm, -⟩ := h
  rw [← hm]
  exact sm_le M (fun e _ => by unfold un1; split <;> omega)
theorem TP.heldM {M T : Nat} {u : Nat → Bool} {f w g p o : Nat → Nat} {met held high hb : Nat} (h : TP M T u f w g p o met held high hb) : held ≤ M :=
  fb_holes M held o (fun j hj => (h.2.1 j hj).1) (fun i j hij hj e => by have := h.inO (by omega) hj e; omega)
theorem TP.heldU {M T : Nat} {u : Nat → Bool} {f w g p o : Nat → Nat} {met held high hb : Nat} (h : TP M T u f w g p o met held high hb) {v : Nat} (hv : v < M) (huv : u v = false) : held + 1 ≤ M := by
  refine fb_holes M (held + 1) (fu o held v) (fun j hj => ?_) (fun i j hij hj e => ?_)
  · by_cases q : j = held
    · rw [q, fu_eq]; exact hv
    · rw [fu_ne q]; exact (h.2.1 j (by omega)).1
  · by_cases q : j = held
    · rw [q, fu_eq, fu_ne (by omega)] at e
      have := (h.2.1 i (by omega)).2
      rw [e, huv] at this
      cases this
    · rw [fu_ne q, fu_ne (by omega)] at e
      have := h.inO (by omega) (by omega) e
      omega
theorem TP.highU {M T : Nat} {u : Nat → Bool} {f w g p o : Nat → Nat} {met held high : Nat} (h : TP M T u f w g p o met held high high) {v : Nat} (hv : v < M) (huv : u v = false) : high + 1 ≤ M := by
  refine fb_holes M (high + 1) (fu p high v) (fun j hj => ?_) (fun i j hij hj e => ?_)
  · by_cases q : j = high
    · rw [q, fu_eq]; exact hv
    · rw [fu_ne q]; exact h.1 j (by omega)
  · by_cases q : j = high
    · rw [q, fu_eq, fu_ne (by omega)] at e
      have := h.2.2.1 i (by omega)
      rw [e, huv] at this
      cases this
    · rw [fu_ne q, fu_ne (by omega)] at e
      have := h.inP (by omega) (by omega) e
      omega
/-- one that isn't numbered is put on the path -/
theorem TP.push {M T : Nat} {u : Nat → Bool} {f w g p o : Nat → Nat} {met held high : Nat} (h : TP M T u f w g p o met held high high) {v : Nat} (hv : v < M) : TP M T u f w g (fu p high v) o met held (high + 1) high := by
  obtain ⟨h1, h2, h3, h4, h5, h6, h7, h8, h9, h10, h11, h12⟩ := h
  refine ⟨fun i hi => ?_, h2, fun i hi => ?_, fun i j hij hj => ?_, h5, fun i hi => ?_, h7, fun i hi => ?_, fun hh => ?_, h10, h11, by omega⟩
  · by_cases q : i = high
    · rw [q, fu_eq]; exact hv
    · rw [fu_ne q]; exact h1 i (by omega)
  · rw [fu_ne (by omega)]; exact h3 i hi
  · rw [fu_ne (by omega), fu_ne (by omega)]; exact h4 i j hij hj
  · rw [fu_ne (by omega)]; exact h6 i hi
  · rw [fu_ne (by omega)]; exact h8 i hi
  · rw [fu_ne (by omega)]; exact h9 hh
/-- the path's last is numbered -/
theorem TP.opn {M T : Nat} {u : Nat → Bool} {f w g p o : Nat → Nat} {met held hb : Nat} (h : TP M T u f w g p o met held (hb + 1) hb) (hu : u (p hb) = false) : TP M T (fu u (p hb) true) (fu f (p hb) met) (fu w (p hb) met) (fu g (p hb) 0) p (fu o held (p hb)) (met + 1) (held + 1) (hb + 1) (hb + 1) := by
  obtain ⟨h1, h2, h3, h4, h5, h6, h7, h8, h9, h10, h11, h12⟩ := h
  have hpM := h1 hb (by omega)
  have nP : ∀ i, i < hb → p i ≠ p hb := fun i hi e => by
    have := h3 i hi
    rw [e, hu] at this
    cases this
  have nO : ∀ j, j < held → o j ≠ p hb := fun j hj e => by
    have := (h2 j hj).2
    rw [e, hu] at this
    cases this
  have fP : ∀ i, i < hb → f (p i) < met := fun i hi => (h7 _ (h1 i (by omega)) (h3 i hi)).1
  have fO : ∀ j, j < held → f (o j) < met := fun j hj => (h7 _ (h2 j hj).1 (h2 j hj).2).1
  refine ⟨h1, fun j hj => ?_, fun i hi => ?_, fun i j hij hj => ?_, fun i j hij hj => ?_, fun i hi => ?_, fun e he hue => ?_, fun i hi => ?_, fun _ => ?_, fun q => by omega, ?_, Nat.le_refl _⟩
  · by_cases q : j = held
    · rw [q, fu_eq, fu_eq]; exact ⟨hpM, rfl⟩
    · rw [fu_ne q, fu_ne (nO j (by omega))]; exact h2 j (by omega)
  · by_cases q : i = hb
    · rw [q, fu_eq]
    · rw [fu_ne (nP i (by omega))]; exact h3 i (by omega)
  · rw [fu_ne (nP i (by omega))]
    by_cases q : j = hb
    · rw [q, fu_eq]; exact fP i (by omega)
    · rw [fu_ne (nP j (by omega))]; exact h4 i j hij (by omega)
  · rw [fu_ne (show i ≠ held by omega), fu_ne (nO i (by omega))]
    by_cases q : j = held
    · rw [q, fu_eq, fu_eq]; exact fO i (by omega)
    · rw [fu_ne q, fu_ne (nO j (by omega))]; exact h5 i j hij (by omega)
  · by_cases q : i = hb
    · exact ⟨held, by omega, by rw [q, fu_eq]⟩
    · obtain ⟨j, a1, a2⟩ := h6 i (by omega)
      exact ⟨j, by omega, by rw [fu_ne (by omega)]; exact a2⟩
  · by_cases q : e = p hb
    · rw [q, fu_eq, fu_eq]; exact ⟨by omega, Nat.zero_le _⟩
    · rw [fu_ne q] at hue
      rw [fu_ne q, fu_ne q]
      have := h7 e he hue
      exact ⟨by omega, this.2⟩
  · by_cases q : i = hb
    · rw [q, fu_eq, fu_eq]
      refine ⟨?_, Nat.le_refl _⟩
      by_cases q2 : held = 0
      · rw [q2, fu_eq, fu_eq]; exact Nat.le_refl _
      · rw [fu_ne (show (0 : Nat) ≠ held by omega), fu_ne (nO 0 (by omega))]
        exact Nat.le_of_lt (fO 0 (by omega))
    · have hh : 0 < held := by
        obtain ⟨j, a1, -⟩ := h6 i (by omega)
        omega
      rw [fu_ne (show (0 : Nat) ≠ held by omega), fu_ne (nO 0 hh), fu_ne (nP i (by omega)), fu_ne (nP i (by omega))]
      exact h8 i (by omega)
  · by_cases q : hb = 0
    · have := h10 q
      rw [this, q, fu_eq]
    · have hh : 0 < held := by
        obtain ⟨j, a1, -⟩ := h6 0 (by omega)
        omega
      rw [fu_ne (by omega)]
      exact h9 (by omega)
  · have := sm_upd (F := un1 u) (G := un1 (fu u (p hb) true)) M hpM (fun e he hne => by unfold un1; rw [fu_ne hne])
    have e1 : un1 u (p hb) = 0 := by unfold un1; rw [hu]; rfl
    have e2 : un1 (fu u (p hb) true) (p hb) = 1 := by unfold un1; rw [fu_eq]; rfl
    omega
/-- one step is taken -/
theorem TP.step {M T : Nat} {u : Nat → Bool} {f w g p o : Nat → Nat} {met held high hb a : Nat} (h : TP M T u f w g p o met held high hb) (ha : g a < T) : TP M T u f w (fu g a (g a + 1)) p o met held high hb := by
  obtain ⟨h1, h2, h3, h4, h5, h6, h7, h8, h9, h10, h11, h12⟩ := h
  refine ⟨h1, h2, h3, h4, h5, h6, fun e he hu => ?_, h8, h9, h10, h11, h12⟩
  have := h7 e he hu
  by_cases q : e = a
  · rw [q, fu_eq]
    rw [q] at this
    exact ⟨this.1, by omega⟩
  · rw [fu_ne q]; exact this
/-- a low is lowered -/
theorem TP.lower {M T : Nat} {u : Nat → Bool} {f w g p o : Nat → Nat} {met held high hb a x : Nat} (h : TP M T u f w g p o met held high hb) (h0 : f (o 0) ≤ x) (hx : x ≤ w a) : TP M T u f (fu w a x) g p o met held high hb := by
  obtain ⟨h1, h2, h3, h4, h5, h6, h7, h8, h9, h10, h11, h12⟩ := h
  refine ⟨h1, h2, h3, h4, h5, h6, h7, fun i hi => ?_, h9, h10, h11, h12⟩
  have := h8 i hi
  by_cases q : p i = a
  · rw [q, fu_eq]
    rw [q] at this
    exact ⟨h0, by omega⟩
  · rw [fu_ne q]; exact this
theorem TP.o_le {M T : Nat} {u : Nat → Bool} {f w g p o : Nat → Nat} {met held high hb : Nat} (h : TP M T u f w g p o met held high hb) {j : Nat} (hj : j < held) : f (o 0) ≤ f (o j) := by
  rcases Nat.eq_zero_or_pos j with rfl | q
  · exact Nat.le_refl _
  · exact Nat.le_of_lt (h.2.2.2.2.1 0 j q hj)
/-- the path's last is left, and stays in the order -/
theorem TP.leave {M T : Nat} {u : Nat → Bool} {f w g p o : Nat → Nat} {met held hb : Nat} (h : TP M T u f w g p o met held (hb + 1) (hb + 1)) (hn : w (p hb) ≠ f (p hb)) : 0 < hb ∧ TP M T u f w g p o met held hb hb := by
  obtain ⟨h1, h2, h3, h4, h5, h6, h7, h8, h9, h10, h11, h12⟩ := h
  have h0 : 0 < hb := by
    rcases Nat.eq_zero_or_pos hb with rfl | q
    · have a1 := h8 0 (by omega)
      rw [h9 (by omega)] at a1
      omega
    · exact q
  exact ⟨h0, fun i hi => h1 i (by omega), h2, fun i hi => h3 i (by omega), fun i j hij hj => h4 i j hij (by omega), h5, fun i hi => h6 i (by omega), h7, fun i hi => h8 i (by omega), fun _ => h9 (by omega), fun q => by omega, h11, Nat.le_refl _⟩
/-- the path's last is left, and the order down to it -/
theorem TP.close {M T : Nat} {u : Nat → Bool} {f w g p o : Nat → Nat} {met held hb j0 : Nat} (h : TP M T u f w g p o met held (hb + 1) (hb + 1)) (hj : j0 < held) (e : o j0 = p hb) : TP M T u f w g p o met j0 hb hb := by
  have hi := h
  obtain ⟨h1, h2, h3, h4, h5, h6, h7, h8, h9, h10, h11, h12⟩ := h
  refine ⟨fun i hi => h1 i (by omega), fun j hj2 => h2 j (by omega), fun i hi => h3 i (by omega), fun i j hij hj => h4 i j hij (by omega), fun i j hij hj2 => h5 i j hij (by omega), fun i hi2 => ?_, h7, fun i hi => h8 i (by omega), fun _ => h9 (by omega), fun q => ?_, h11, Nat.le_refl _⟩
  · obtain ⟨j, a1, a2⟩ := h6 i (by omega)
    refine ⟨j, ?_, a2⟩
    have b1 := h4 i hb hi2 (by omega)
    rw [← a2, ← e] at b1
    rcases Nat.lt_trichotomy j j0 with q | q | q
    · exact q
    · rw [q] at b1; omega
    · have := h5 j0 j q a1; omega
  · have := h9 (by omega)
    rw [← q] at this
    rw [q] at e
    have e0 : o j0 = o 0 := by rw [e, h9 (by omega)]
    have := hi.inO hj (by omega) e0
    omega
