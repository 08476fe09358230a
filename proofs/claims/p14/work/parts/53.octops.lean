/-! letters as told by what they do; answers of the class's calls -/
theorem XS.lt {σ : Hp} {N L : Nat} {lm : Nat → Nat} {s e : Nat} (h : XS σ (N, L, lm, s, e)) {k : Nat} (hk : k < L) : σ.1 2 k = Oc N (gN N (lm k)) := by
  rw [(h.2.1 k hk).1, onF_Oc (by have := h.1.2.1; omega) h.1.2.2.1]
/-- the answer is so, and letters, start, ends stay -/
def Rq (σ : Hp) (F : Int32 → Prop) : Option Value → Hp → Prop := fun w τ => (∃ z : Int32, w = some (.int z) ∧ F z) ∧ Fp pS σ τ ∧ ∃ M, EM τ M
theorem Rq.yx {σ : Hp} {a : Sx} {F G : Int32 → Prop} {w : Option Value} {τ : Hp} (h : XS σ a) (hr : Rq σ F w τ) (k : ∀ z, F z → G z) : YX σ a G w τ := by
  obtain ⟨⟨z, hz, hf⟩, hF, M, hM⟩ := hr
  exact ⟨⟨z, hz, k z hf⟩, h.fp hF hM (by decide) (by decide) (by decide) (by rw [(hF 36 (by decide)).1]) (by rw [(hF 42 (by decide)).1]), XF.of hF (by decide)⟩
