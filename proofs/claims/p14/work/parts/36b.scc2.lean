/-! the search over the reference's cells, with what comes of what -/
def TZ (M T : Nat) (sp : Nat → Nat → Nat) (τ : Hp) (u : Nat → Bool) (f w g p o : Nat → Nat) (held high hb : Nat) : Prop := ∃ act, TS M T sp u f w g p o held high hb act ∧ (∀ e, e < M → u e = true → ¬ onO o held e → τ.1 78 e = nI (act e)) ∧ ∀ j, j < held → ¬ τ.1 72 (o j) = 0
section TZ
variable {M T : Nat} {sp : Nat → Nat → Nat} {τ τ' : Hp} {u : Nat → Bool} {f w g p o : Nat → Nat} {met held high hb : Nat}
theorem TZ.mv (h : TZ M T sp τ u f w g p o held high hb) (e1 : τ'.1 78 = τ.1 78) (e2 : τ'.1 72 = τ.1 72) : TZ M T sp τ' u f w g p o held high hb := by
  obtain ⟨act, h1, h2, h3⟩ := h
  exact ⟨act, h1, by rw [e1]; exact h2, by rw [e2]; exact h3⟩
theorem TZ.start (h : TZ M T sp τ u f w g p o 0 0 0) (v : Nat) : TZ M T sp τ u f w g (fu p 0 v) o 0 1 0 := by
  obtain ⟨act, h1, h2⟩ := h
  exact ⟨act, h1.start v, h2⟩
theorem TZ.down {k : Nat} (h : TZ M T sp τ u f w g p o held (k + 1) (k + 1)) (hP : TP M T u f w g p o met held (k + 1) (k + 1)) (hl : g (p k) < T) (hx : u (sp (p k) (g (p k))) = false) : TZ M T sp τ u f w (fu g (p k) (g (p k) + 1)) (fu p (k + 1) (sp (p k) (g (p k)))) o held (k + 2) (k + 1) := by
  obtain ⟨act, h1, h2⟩ := h
  exact ⟨act, h1.down (l := 0) hP hl hx, h2⟩
theorem TZ.side {k : Nat} {w' : Nat → Nat} (h : TZ M T sp τ u f w g p o held (k + 1) (k + 1)) (hP : TP M T u f w g p o met held (k + 1) (k + 1)) (hl : g (p k) < T) (hx : u (sp (p k) (g (p k))) = true) (hw : ∀ e, e ≠ p k → w' e = w e) (h1 : w' (p k) ≤ w (p k)) (h2 : onO o held (sp (p k) (g (p k))) → w' (p k) ≤ f (sp (p k) (g (p k)))) (h3 : w' (p k) = w (p k) ∨ (onO o held (sp (p k) (g (p k))) ∧ w' (p k) = f (sp (p k) (g (p k))))) : TZ M T sp τ u f w' (fu g (p k) (g (p k) + 1)) p o held (k + 1) (k + 1) := by
  obtain ⟨act, hS, h5⟩ := h
  refine ⟨act, hS.side hP hx hw h1 h2 ?_, h5⟩
  rcases h3 with q | ⟨q1, q2⟩
  · rw [q]; exact hS.W k (by omega)
  · exact ⟨_, q1, q2.symm, RQ.one hl⟩
theorem TZ.lower {k : Nat} {w' : Nat → Nat} (h : TZ M T sp τ u f w g p o held (k + 2) (k + 2)) (hw : ∀ e, e ≠ p k → w' e = w e) (h1 : w' (p k) = w (p (k + 1))) (h2 : w' (p k) ≤ w (p k)) : TZ M T sp τ u f w' g p o held (k + 2) (k + 2) := by
  obtain ⟨act, hS, h5⟩ := h
  exact ⟨act, hS.lower hw h1 h2, h5⟩
theorem TZ.leave {k : Nat} (h : TZ M T sp τ u f w g p o held (k + 2) (k + 2)) (hg : ¬ g (p (k + 1)) < T) (h1 : w (p k) ≤ w (p (k + 1))) (h2 : w (p (k + 1)) < f (p (k + 1))) : TZ M T sp τ u f w g p o held (k + 1) (k + 1) := by
  obtain ⟨act, hS, h5⟩ := h
  exact ⟨act, hS.leave hg h1 h2, h5⟩
theorem TZ.opn (h : TZ M T sp τ u f w g p o held (hb + 1) hb) (hP : TP M T u f w g p o met held (hb + 1) hb) (hu : u (p hb) = false) (e1 : τ'.1 78 = τ.1 78) (e2 : τ'.1 72 = upd (τ.1 72) (p hb) 1) : TZ M T sp τ' (fu u (p hb) true) (fu f (p hb) met) (fu w (p hb) met) (fu g (p hb) 0) p (fu o held (p hb)) (held + 1) (hb + 1) (hb + 1) := by
  obtain ⟨act, hS, h5, h6⟩ := h
  refine ⟨act, hS.opn hP hu, fun e he hue hno => ?_, fun j hj => ?_⟩
  · have q : e ≠ p hb := fun z => hno ⟨held, by omega, by rw [fu_eq, z]⟩
    rw [fu_ne q] at hue
    rw [e1]
    refine h5 e he hue (fun ⟨j, hj, ej⟩ => hno ⟨j, by omega, by rw [fu_ne (by omega)]; exact ej⟩)
  · rw [e2]
    by_cases q : j = held
    · rw [q, fu_eq, upd_eq]
      decide
    · rw [fu_ne q]
      have := (hP.2.1 j (by omega)).2
      rw [upd_ne (fun z => by rw [z, hu] at this; cases this)]
      exact h6 j (by omega)
theorem TZ.close {k j0 : Nat} (hsp : ∀ e l, e < M → l < T → sp e l < M) (h : TZ M T sp τ u f w g p o held (k + 1) (k + 1)) (hP : TP M T u f w g p o met held (k + 1) (k + 1)) (hg : ¬ g (p k) < T) (hw : w (p k) = f (p k)) (hj : j0 < held) (ej : o j0 = p k) (a1 : ∀ j, j0 ≤ j → j < held → τ'.1 78 (o j) = nI (p k)) (a2 : ∀ e, (∀ j, j0 ≤ j → j < held → o j ≠ e) → τ'.1 78 e = τ.1 78 e) (a3 : ∀ j, j < j0 → τ'.1 72 (o j) = τ.1 72 (o j)) : TZ M T sp τ' u f w g p o j0 k k := by
  obtain ⟨act, hS, h5, h6⟩ := h
  have hx : ∀ e, ∃ x, ((∃ j, j0 ≤ j ∧ j < held ∧ o j = e) → x = p k) ∧ ((∀ j, j0 ≤ j → j < held → o j ≠ e) → x = act e) := fun e => by
    by_cases q : ∃ j, j0 ≤ j ∧ j < held ∧ o j = e
    · exact ⟨p k, fun _ => rfl, fun z => by
        obtain ⟨j, j1, j2, j3⟩ := q
        exact absurd j3 (z j j1 j2)⟩
    · exact ⟨act e, fun z => absurd z q, fun _ => rfl⟩
  have ha1 : ∀ j, j0 ≤ j → j < held → (fun e => Classical.choose (hx e)) (o j) = p k := fun j j1 j2 => (Classical.choose_spec (hx (o j))).1 ⟨j, j1, j2, rfl⟩
  have ha2 : ∀ e, (∀ j, j0 ≤ j → j < held → o j ≠ e) → (fun e => Classical.choose (hx e)) e = act e := fun e z => (Classical.choose_spec (hx e)).2 z
  refine ⟨fun e => Classical.choose (hx e), hS.close hsp hP hg hw hj ej ha1 ha2, fun e he hu hno => ?_, fun j hj2 => by rw [a3 j hj2]; exact h6 j (by omega)⟩
  by_cases q : ∃ j, j0 ≤ j ∧ j < held ∧ o j = e
  · obtain ⟨j, j1, j2, rfl⟩ := q
    rw [a1 j j1 j2]
    exact congrArg nI (ha1 j j1 j2).symm
  · have q2 : ∀ j, j0 ≤ j → j < held → o j ≠ e := fun j j1 j2 j3 => q ⟨j, j1, j2, j3⟩
    rw [a2 e q2]
    refine (h5 e he hu ?_).trans (congrArg nI (ha2 e q2).symm)
    rintro ⟨j, j1, j2⟩
    rcases Nat.lt_or_ge j j0 with z | z
    · exact hno ⟨j, z, j2⟩
    · exact q ⟨j, z, j1, j2⟩
end TZ
