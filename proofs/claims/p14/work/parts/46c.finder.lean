/-! the finder: keys at their places (pure) -/
/-- the place from which a key is looked for -/
def hhF (key : Int32) : Nat := ((key * (-1640531535)).toUInt32 >>> ((20 : Int32).toUInt32 &&& Int32.toUInt32 31)).toNat
theorem hhF_lt (key : Int32) : hhF key < 4096 := by
  unfold hhF
  generalize (key * (-1640531535)).toUInt32 = u
  have e : ((20 : Int32).toUInt32 &&& Int32.toUInt32 31).toNat % 32 = 20 := by decide
  have h := u.toNat_lt
  rw [UInt32.toNat_shiftRight, e, Nat.shiftRight_eq_div_pow]
  omega
theorem hh_nI (key : Int32) : ((key * (-1640531535)).toUInt32 >>> ((20 : Int32).toUInt32 &&& Int32.toUInt32 31)).toInt32 = nI (hhF key) := by
  unfold hhF
  generalize (key * (-1640531535)).toUInt32 >>> ((20 : Int32).toUInt32 &&& Int32.toUInt32 31) = u
  apply Int32.toBitVec_inj.mp
  apply BitVec.eq_of_toNat_eq
  show u.toNat = (BitVec.ofNat 32 u.toNat).toNat
  rw [BitVec.toNat_ofNat, Nat.mod_eq_of_lt u.toNat_lt]
theorem nx_nI {x : Nat} (hx : x < 4096) : nI x + 1 - (nI x + 1) / 4096 * 4096 = nI ((x + 1) % 4096) := by
  rw [nI_1]
  show nI (x + 1) - nI (x + 1) / nI 4096 * nI 4096 = _
  rw [pk_div (by omega) (by decide) (by decide), pk_mul, pk_sub (by have := Nat.div_mul_le_self (x + 1) 4096; omega)]
  congr 1
  have := Nat.div_add_mod (x + 1) 4096
  omega
theorem slG_at {σ : Hp} {a : Nat} {key : Int32} : ∀ T f x, x < 4096 → T < f → (∀ t, t < T → ¬ (σ.1 a ((x + t) % 4096) = 0 ∨ σ.1 a ((x + t) % 4096) = key + 1)) → (σ.1 a ((x + T) % 4096) = 0 ∨ σ.1 a ((x + T) % 4096) = key + 1) → slG σ a key f (nI x) = nI ((x + T) % 4096)
  | _, 0, _, _, hf, _, _ => absurd hf (Nat.not_lt_zero _)
  | 0, f + 1, x, hx, _, _, h => by
    have e : (x + 0) % 4096 = x := Nat.mod_eq_of_lt hx
    rw [e] at h ⊢
    show (if rdA σ a 4096 (nI x) = 0 ∨ rdA σ a 4096 (nI x) = key + 1 then nI x else _) = _
    rw [rdA_in hx (by decide), if_pos h]
  | T + 1, f + 1, x, hx, hf, hp, h => by
    have h0 := hp 0 (Nat.zero_lt_succ _)
    rw [show (x + 0) % 4096 = x from Nat.mod_eq_of_lt hx] at h0
    have m : ∀ t, ((x + 1) % 4096 + t) % 4096 = (x + (t + 1)) % 4096 := fun t => by omega
    show (if rdA σ a 4096 (nI x) = 0 ∨ rdA σ a 4096 (nI x) = key + 1 then nI x else slG σ a key f (nI x + 1 - (nI x + 1) / 4096 * 4096)) = _
    rw [rdA_in hx (by decide), if_neg h0, nx_nI hx, slG_at T f ((x + 1) % 4096) (Nat.mod_lt _ (by decide)) (by omega) (fun t ht => by rw [m]; exact hp (t + 1) (by omega)) (by rw [m]; exact h), m]
/-- M keys are kept, each with a number -/
def FSv (r n : Nat → Int32) (κ ν : Nat → Nat) (M : Nat) : Prop := ∃ T : Nat → Nat, (∀ j, j < M → T j < 4096 ∧ r ((hhF (nI (κ j)) + T j) % 4096) = nI (κ j + 1) ∧ n ((hhF (nI (κ j)) + T j) % 4096) = nI (ν j) ∧ ∀ t, t < T j → ¬ (r ((hhF (nI (κ j)) + t) % 4096) = 0 ∨ r ((hhF (nI (κ j)) + t) % 4096) = nI (κ j + 1))) ∧ ∀ s, s < 4096 → r s = 0 ∨ ∃ j, j < M ∧ s = (hhF (nI (κ j)) + T j) % 4096
theorem FSv.nil {r n : Nat → Int32} {κ ν : Nat → Nat} (h : ∀ s, s < 4096 → r s = 0) : FSv r n κ ν 0 := ⟨fun _ => 0, fun j hj => absurd hj (Nat.not_lt_zero j), fun s hs => Or.inl (h s hs)⟩
theorem FSv.cg {r n : Nat → Int32} {κ κ' ν ν' : Nat → Nat} {M : Nat} (h : FSv r n κ ν M) (e : ∀ j, j < M → κ j = κ' j) (e' : ∀ j, j < M → ν j = ν' j) : FSv r n κ' ν' M := by
  obtain ⟨T, h1, h2⟩ := h
  exact ⟨T, fun j hj => by rw [← e j hj, ← e' j hj]; exact h1 j hj, fun s hs => (h2 s hs).imp id (fun ⟨j, hj, e2⟩ => ⟨j, hj, by rw [← e j hj]; exact e2⟩)⟩
theorem FSv.look {σ : Hp} {a b : Nat} {κ ν : Nat → Nat} {M : Nat} (h : FSv (σ.1 a) (σ.1 b) κ ν M) {j : Nat} (hj : j < M) : lkF σ a b (nI (κ j)) = nI (ν j) := by
  obtain ⟨T, h1, h2⟩ := h
  obtain ⟨t1, t2, t3, t4⟩ := h1 j hj
  have hs : slF σ a (nI (κ j)) = nI ((hhF (nI (κ j)) + T j) % 4096) := by
    unfold slF
    rw [hh_nI]
    exact slG_at (T j) 4096 _ (hhF_lt _) t1 (fun t ht => by rw [nI_1]; exact t4 t ht) (Or.inr (by rw [nI_1]; exact t2))
  have hm : (hhF (nI (κ j)) + T j) % 4096 < 4096 := Nat.mod_lt _ (by decide)
  rw [lkF, hs, rdA_in hm (by decide), rdA_in hm (by decide), if_pos (by rw [nI_1]; exact t2), t3]
/-- where a new key finds a free place -/
theorem FSv.free {r n : Nat → Int32} {κ ν : Nat → Nat} {M k : Nat} (h : FSv r n κ ν M) (hM : M < 4096) (hκ : ∀ j, j < M → κ j + 1 < 2 ^ 31) (hk : k + 1 < 2 ^ 31) (hn : ∀ j, j < M → κ j ≠ k) : ∃ T, T < 4096 ∧ (∀ t, t < T → ¬ (r ((hhF (nI k) + t) % 4096) = 0 ∨ r ((hhF (nI k) + t) % 4096) = nI (k + 1))) ∧ r ((hhF (nI k) + T) % 4096) = 0 := by
  obtain ⟨T, h1, h2⟩ := h
  have hz : ∃ s, s < 4096 ∧ r s = 0 := by
    refine Classical.byContradiction fun q => ?_
    have f : ∀ s, ∃ j, s < 4096 → j < M ∧ s = (hhF (nI (κ j)) + T j) % 4096 := fun s => by
      by_cases hs : s < 4096
      · rcases h2 s hs with z | ⟨j, hj, e⟩
        · exact absurd ⟨s, hs, z⟩ q
        · exact ⟨j, fun _ => ⟨hj, e⟩⟩
      · exact ⟨0, fun z => absurd z hs⟩
    have := fb_holes M 4096 (fun s => Classical.choose (f s)) (fun s hs => (Classical.choose_spec (f s) hs).1) (fun s s' h3 h4 e => by
      have e1 := (Classical.choose_spec (f s) (by omega)).2
      have e2 := (Classical.choose_spec (f s') h4).2
      have e : Classical.choose (f s) = Classical.choose (f s') := e
      rw [e, ← e2] at e1
      omega)
    omega
  obtain ⟨s, hs, zs⟩ := hz
  have hh := hhF_lt (nI k)
  obtain ⟨m, m1, m2⟩ := pk_least (fun t => r ((hhF (nI k) + t) % 4096) = 0) ⟨(s + 4096 - hhF (nI k)) % 4096, by
    show r ((hhF (nI k) + (s + 4096 - hhF (nI k)) % 4096) % 4096) = 0
    rw [show (hhF (nI k) + (s + 4096 - hhF (nI k)) % 4096) % 4096 = s by omega]
    exact zs⟩
  have hm : m < 4096 := by
    rcases Nat.lt_or_ge m 4096 with q | q
    · exact q
    · refine absurd ?_ (m2 ((s + 4096 - hhF (nI k)) % 4096) (by have := Nat.mod_lt (s + 4096 - hhF (nI k)) (show 0 < 4096 by decide); omega))
      show r ((hhF (nI k) + (s + 4096 - hhF (nI k)) % 4096) % 4096) = 0
      rw [show (hhF (nI k) + (s + 4096 - hhF (nI k)) % 4096) % 4096 = s by omega]
      exact zs
  refine ⟨m, hm, fun t ht z => ?_, m1⟩
  rcases z with z | z
  · exact m2 t ht z
  · rcases h2 ((hhF (nI k) + t) % 4096) (Nat.mod_lt _ (by decide)) with y | ⟨j, hj, e⟩
    · exact m2 t ht y
    · rw [e, (h1 j hj).2.1, nI_eq (by have := hκ j hj; omega) (by omega)] at z
      exact hn j hj (by omega)
theorem FSv.no {σ : Hp} {a b : Nat} {κ ν : Nat → Nat} {M k : Nat} (h : FSv (σ.1 a) (σ.1 b) κ ν M) (hM : M < 4096) (hκ : ∀ j, j < M → κ j + 1 < 2 ^ 31) (hk : k + 1 < 2 ^ 31) (hn : ∀ j, j < M → κ j ≠ k) : lkF σ a b (nI k) = -9 := by
  obtain ⟨T, t1, t2, t3⟩ := h.free hM hκ hk hn
  have hs : slF σ a (nI k) = nI ((hhF (nI k) + T) % 4096) := by
    unfold slF
    rw [hh_nI]
    exact slG_at T 4096 _ (hhF_lt _) t1 (fun t ht => by rw [nI_1]; exact t2 t ht) (Or.inl t3)
  rw [lkF, hs, rdA_in (Nat.mod_lt _ (by decide)) (by decide), if_neg (by
    rw [t3, nI_1]
    exact fun z => absurd ((nI_eq (a := 0) (b := k + 1) (by decide) (by omega)).mp z) (by omega))]
theorem FSv.keep {σ : Hp} {a b : Nat} {κ ν : Nat → Nat} {M k v : Nat} (hab : a ≠ b) (h : FSv (σ.1 a) (σ.1 b) κ ν M) (hM : M < 4096) (hκ : ∀ j, j < M → κ j + 1 < 2 ^ 31) (hk : k + 1 < 2 ^ 31) (hn : ∀ j, j < M → κ j ≠ k) : FSv ((kpW σ a b (nI k) (nI v)).1 a) ((kpW σ a b (nI k) (nI v)).1 b) (fun j => if j = M then k else κ j) (fun j => if j = M then v else ν j) (M + 1) := by
  obtain ⟨T, t1, t2, t3⟩ := h.free hM hκ hk hn
  obtain ⟨U, h1, h2⟩ := h
  have hs : slF σ a (nI k) = nI ((hhF (nI k) + T) % 4096) := by
    unfold slF
    rw [hh_nI]
    exact slG_at T 4096 _ (hhF_lt _) t1 (fun t ht => by rw [nI_1]; exact t2 t ht) (Or.inl t3)
  obtain ⟨s, hse⟩ : ∃ s, s = (hhF (nI k) + T) % 4096 := ⟨_, rfl⟩
  have hs4 : s < 4096 := by rw [hse]; exact Nat.mod_lt _ (by decide)
  rw [← hse] at hs t3
  have ek : kpW σ a b (nI k) (nI v) = wI (wI σ a s (nI (k + 1))) b s (nI v) := by
    rw [kpW, hs, wrA_in hs4 (by decide), wrA_in hs4 (by decide), nI_1]
  have ea : (kpW σ a b (nI k) (nI v)).1 a = upd (σ.1 a) s (nI (k + 1)) := by rw [ek, wI_ne hab, wI_eq]
  have eb : (kpW σ a b (nI k) (nI v)).1 b = upd (σ.1 b) s (nI v) := by rw [ek, wI_eq, wI_ne (Ne.symm hab)]
  rw [ea, eb]
  have ne0 : ∀ q, ¬ σ.1 a q = 0 → q ≠ s := fun q hq e => hq (by rw [e]; exact t3)
  refine ⟨fun j => if j = M then T else U j, fun j hj => ?_, fun q hq => ?_⟩
  · dsimp only
    by_cases q : j = M
    · rw [if_pos q, if_pos q, if_pos q, ← hse, upd_eq, upd_eq]
      refine ⟨t1, rfl, rfl, fun t ht => ?_⟩
      have := t2 t ht
      rw [upd_ne (ne0 _ (fun z => this (Or.inl z)))]
      exact this
    · rw [if_neg q, if_neg q, if_neg q]
      obtain ⟨u1, u2, u3, u4⟩ := h1 j (by omega)
      have nz : ¬ σ.1 a ((hhF (nI (κ j)) + U j) % 4096) = 0 := by
        rw [u2]
        have hk2 := hκ j (by omega)
        exact fun z => absurd ((nI_eq (a := κ j + 1) (b := 0) (by omega) (by decide)).mp z) (by omega)
      rw [upd_ne (ne0 _ nz), upd_ne (ne0 _ nz)]
      refine ⟨u1, u2, u3, fun t ht => ?_⟩
      have := u4 t ht
      rw [upd_ne (ne0 _ (fun z => this (Or.inl z)))]
      exact this
  · by_cases z : q = s
    · refine Or.inr ⟨M, by omega, ?_⟩
      dsimp only
      rw [if_pos rfl, if_pos rfl, ← hse]
      exact z
    · rw [upd_ne z]
      refine (h2 q hq).imp id (fun ⟨j, hj, e⟩ => ⟨j, by omega, ?_⟩)
      dsimp only
      rw [if_neg (by omega), if_neg (by omega)]
      exact e
/-- each key with its place -/
abbrev FS (r n : Nat → Int32) (κ : Nat → Nat) (M : Nat) : Prop := FSv r n κ (fun j => j) M
theorem FS.nil {r n : Nat → Int32} {κ : Nat → Nat} (h : ∀ s, s < 4096 → r s = 0) : FS r n κ 0 := FSv.nil h
theorem FS.cg {r n : Nat → Int32} {κ κ' : Nat → Nat} {M : Nat} (h : FS r n κ M) (e : ∀ j, j < M → κ j = κ' j) : FS r n κ' M := FSv.cg h e (fun _ _ => rfl)
theorem FS.look {σ : Hp} {a b : Nat} {κ : Nat → Nat} {M : Nat} (h : FS (σ.1 a) (σ.1 b) κ M) {j : Nat} (hj : j < M) : lkF σ a b (nI (κ j)) = nI j := FSv.look h hj
theorem FS.no {σ : Hp} {a b : Nat} {κ : Nat → Nat} {M k : Nat} (h : FS (σ.1 a) (σ.1 b) κ M) (hM : M < 4096) (hκ : ∀ j, j < M → κ j + 1 < 2 ^ 31) (hk : k + 1 < 2 ^ 31) (hn : ∀ j, j < M → κ j ≠ k) : lkF σ a b (nI k) = -9 := FSv.no h hM hκ hk hn
theorem FS.keep {σ : Hp} {a b : Nat} {κ : Nat → Nat} {M k : Nat} (hab : a ≠ b) (h : FS (σ.1 a) (σ.1 b) κ M) (hM : M < 4096) (hκ : ∀ j, j < M → κ j + 1 < 2 ^ 31) (hk : k + 1 < 2 ^ 31) (hn : ∀ j, j < M → κ j ≠ k) : FS ((kpW σ a b (nI k) (nI M)).1 a) ((kpW σ a b (nI k) (nI M)).1 b) (fun j => if j = M then k else κ j) (M + 1) :=
  (FSv.keep (v := M) hab h hM hκ hk hn).cg (fun _ _ => rfl) (fun j _ => by
    try dsimp only
    split
    · rename_i q; exact q.symm
    · rfl)
