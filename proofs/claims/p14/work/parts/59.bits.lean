/-! longs as sets; which pairs some word leads into a set of pairs (pure). The first row began as kit/laws/BITS.to-paste.lean.txt -/
theorem lb_bit {w : Int64} {s : UInt64} {j : Nat} (hj : j < 64) (hs : s.toNat = j) : ((w.toUInt64 >>> s).toInt64 &&& 1) = 0 ↔ w.toBitVec.getLsbD j = false := by
  have e : (w.toUInt64 >>> s).toInt64.toBitVec = w.toBitVec >>> j := by
    apply BitVec.eq_of_toNat_eq
    show (w.toUInt64 >>> s).toNat = _
    rw [UInt64.toNat_shiftRight, hs, Nat.mod_eq_of_lt hj, BitVec.toNat_ushiftRight]
    rfl
  rw [← Int64.toBitVec_inj, Int64.toBitVec_and, e]
  show w.toBitVec >>> j &&& 1#64 = 0#64 ↔ _
  constructor
  · intro h
    have t := congrArg (fun x => x.getLsbD 0) h
    simpa using t
  · intro h
    apply BitVec.eq_of_getLsbD_eq
    intro i hi
    cases i with
    | zero => simp [h]
    | succ i => simp
theorem lb_01 (y : Int64) : y &&& 1 = 0 ∨ y &&& 1 = 1 := by
  rw [← Int64.toBitVec_inj, ← Int64.toBitVec_inj, Int64.toBitVec_and]
  show y.toBitVec &&& 1#64 = 0#64 ∨ y.toBitVec &&& 1#64 = 1#64
  cases q : y.toBitVec.getLsbD 0 with
  | false =>
    refine Or.inl (BitVec.eq_of_getLsbD_eq fun i hi => ?_)
    cases i with
    | zero => simpa using q
    | succ i => simp
  | true =>
    refine Or.inr (BitVec.eq_of_getLsbD_eq fun i hi => ?_)
    cases i with
    | zero => simp [q]
    | succ i => simp
def bl (m : Int64) (x : Nat) : Bool := m.toBitVec.getLsbD x
theorem cu_nI : ∀ k, k < 64 → ((nI k).toInt64.toUInt64 &&& Int64.toUInt64 63).toNat = k := by decide +kernel
theorem bZ_bl {m : Int64} {x : Nat} (hx : x < 64) : btZ m (nI x) = !bl m x := by
  have h := lb_bit (w := m) hx (cu_nI x hx)
  unfold btZ usL bl
  cases q : m.toBitVec.getLsbD x with
  | false => exact decide_eq_true ((lg_cmp_0 _ _).mpr (h.mpr q))
  | true => exact decide_eq_false (fun z => by rw [h.mp ((lg_cmp_0 _ _).mp z)] at q; cases q)
theorem bL_bl {m : Int64} {x : Nat} (hx : x < 64) : btL m (nI x) = bl m x := by
  have h := lb_bit (w := m) hx (cu_nI x hx)
  unfold btL usL bl
  cases q : m.toBitVec.getLsbD x with
  | false => exact decide_eq_false (fun z => by rw [h.mpr q, lg_cmp_0] at z; exact absurd z (by decide))
  | true =>
    refine decide_eq_true ((lg_cmp_0 _ _).mpr ?_)
    rcases lb_01 (m.toUInt64 >>> ((nI x).toInt64.toUInt64 &&& Int64.toUInt64 63)).toInt64 with z | z
    · rw [h.mp z] at q; cases q
    · exact z
theorem sh64 : ∀ l, l < 64 → ((1 : Int64) <<< ((nI l).toInt64 &&& 63)).toBitVec = BitVec.twoPow 64 l := by decide +kernel
theorem bl_stL {m : Int64} {x y : Nat} (hy : y < 64) (hx : x < 64) : bl (stL m (nI y)) x = (bl m x || decide (y = x)) := by
  unfold bl stL
  rw [Int64.toBitVec_or, BitVec.getLsbD_or, sh64 y hy, BitVec.getLsbD_twoPow, decide_eq_true hy, Bool.true_and]
theorem bl_ext {m n : Int64} (h : ∀ x, x < 64 → bl m x = bl n x) : m = n := Int64.toBitVec_inj.mp (BitVec.eq_of_getLsbD_eq (fun i hi => h i hi))
theorem bl_0 (x : Nat) : bl 0 x = false := by
  show (0#64).getLsbD x = false
  simp
/-- where a word takes a point -/
def runW (N : Nat) (lm : Nat → Nat) : List Nat → Nat → Nat
  | [], i => i
  | k :: w, i => runW N lm w (gN N (lm k) i)
def okW (L : Nat) (w : List Nat) : Prop := ∀ k, k ∈ w → k < L
theorem runW_lt {N : Nat} {lm : Nat → Nat} (h0 : 0 < N) : ∀ (w : List Nat) (i : Nat), i < N → runW N lm w i < N
  | [], _, hi => hi
  | _ :: w, _, _ => runW_lt h0 w _ (gN_lt h0)
theorem okW.cons {L k : Nat} {w : List Nat} (hk : k < L) (h : okW L w) : okW L (k :: w) := fun j hj => by
  rcases List.mem_cons.mp hj with rfl | hj
  · exact hk
  · exact h j hj
theorem okW.tail {L k : Nat} {w : List Nat} (h : okW L (k :: w)) : k < L ∧ okW L w := ⟨h k List.mem_cons_self, fun j hj => h j (List.mem_cons_of_mem _ hj)⟩
theorem sll_iff {σ : Hp} {N L : Nat} {lm : Nat → Nat} {s e : Nat} (h : XS σ (N, L, lm, s, e)) {m : Int64} {a b : Nat} (ha : a < N) (hb : b < N) : sllF σ L (prF (nI a) (nI b)) m = true ↔ ∃ k, k < L ∧ bl m (8 * gN N (lm k) a + gN N (lm k) b) = true := by
  have h0 : 0 < N := by have := h.1.2.1; omega
  have h6 := h.1.2.2.1
  have ep : prF (nI a) (nI b) = nI (8 * a + b) := by
    rw [prF]
    show nI a * nI 8 + nI b = _
    rw [pk_mul, nI_add, Nat.mul_comm]
  rw [sllF, List.any_eq_true, ep]
  constructor
  · rintro ⟨k, hk, hb2⟩
    have hk := List.mem_range.mp hk
    have g1 := gN_lt (N := N) (m := lm k) (i := a) h0
    have g2 := gN_lt (N := N) (m := lm k) (i := b) h0
    rw [h.lt hk, opF_Oc h6 (gN8 h0 h6) ha hb, bL_bl (by omega)] at hb2
    exact ⟨k, hk, hb2⟩
  · rintro ⟨k, hk, hb2⟩
    have g1 := gN_lt (N := N) (m := lm k) (i := a) h0
    have g2 := gN_lt (N := N) (m := lm k) (i := b) h0
    exact ⟨k, List.mem_range.mpr hk, by rw [h.lt hk, opF_Oc h6 (gN8 h0 h6) ha hb, bL_bl (by omega)]; exact hb2⟩
theorem pr_nI (a b : Nat) : prF (nI a) (nI b) = nI (8 * a + b) := by
  rw [prF]
  show nI a * nI 8 + nI b = _
  rw [pk_mul, nI_add, Nat.mul_comm]
/-- one letter more ahead -/
theorem wo_bl {σ : Hp} {N L : Nat} {lm : Nat → Nat} {s e : Nat} (h : XS σ (N, L, lm, s, e)) (m : Int64) {x : Nat} (hx : x < 64) : bl (woF σ N L m) x = true ↔ bl m x = true ∨ ∃ a b k, a < N ∧ b < N ∧ k < L ∧ x = 8 * a + b ∧ bl m (8 * gN N (lm k) a + gN N (lm k) b) = true := by
  have h6 := h.1.2.2.1
  have inner : ∀ a, a < N → ∀ (r : Int64) K, K ≤ N → (bl (it (woS σ L m a) K r) x = true ↔ bl r x = true ∨ ∃ b k, b < K ∧ k < L ∧ x = 8 * a + b ∧ bl m (8 * gN N (lm k) a + gN N (lm k) b) = true) := by
    intro a ha r K
    induction K with
    | zero =>
      intro _
      refine ⟨Or.inl, fun z => ?_⟩
      rcases z with z | ⟨b, k, hb, _⟩
      · exact z
      · exact absurd hb (Nat.not_lt_zero b)
    | succ K ih =>
      intro hK
      have ih := ih (by omega)
      have hs := sll_iff h (m := m) ha (show K < N by omega)
      show bl (if sllF σ L (prF (nI a) (nI K)) m = true then stL (it (woS σ L m a) K r) (prF (nI a) (nI K)) else it (woS σ L m a) K r) x = true ↔ _
      by_cases q : sllF σ L (prF (nI a) (nI K)) m = true
      · rw [if_pos q, pr_nI, bl_stL (by omega) hx, Bool.or_eq_true, decide_eq_true_eq, ih]
        obtain ⟨k0, hk0, hb0⟩ := hs.mp q
        constructor
        · rintro ((z | ⟨b, k, hb, z⟩) | z)
          · exact Or.inl z
          · exact Or.inr ⟨b, k, by omega, z⟩
          · exact Or.inr ⟨K, k0, by omega, hk0, z.symm, hb0⟩
        · rintro (z | ⟨b, k, hb, hk, z1, z2⟩)
          · exact Or.inl (Or.inl z)
          · rcases Nat.lt_or_ge b K with q2 | q2
            · exact Or.inl (Or.inr ⟨b, k, q2, hk, z1, z2⟩)
            · exact Or.inr (by rw [z1, show b = K by omega])
      · rw [if_neg q, ih]
        constructor
        · rintro (z | ⟨b, k, hb, z⟩)
          · exact Or.inl z
          · exact Or.inr ⟨b, k, by omega, z⟩
        · rintro (z | ⟨b, k, hb, hk, z1, z2⟩)
          · exact Or.inl z
          · rcases Nat.lt_or_ge b K with q2 | q2
            · exact Or.inr ⟨b, k, q2, hk, z1, z2⟩
            · rw [show b = K by omega] at z2
              exact absurd (hs.mpr ⟨k, hk, z2⟩) q
  have outer : ∀ K, K ≤ N → (bl (it (fun a r => it (woS σ L m a) N r) K m) x = true ↔ bl m x = true ∨ ∃ a b k, a < K ∧ b < N ∧ k < L ∧ x = 8 * a + b ∧ bl m (8 * gN N (lm k) a + gN N (lm k) b) = true) := by
    intro K
    induction K with
    | zero =>
      intro _
      refine ⟨Or.inl, fun z => ?_⟩
      rcases z with z | ⟨a, b, k, ha, _⟩
      · exact z
      · exact absurd ha (Nat.not_lt_zero a)
    | succ K ih =>
      intro hK
      show bl (it (woS σ L m K) N (it (fun a r => it (woS σ L m a) N r) K m)) x = true ↔ _
      rw [inner K (by omega) _ N (Nat.le_refl _), ih (by omega)]
      constructor
      · rintro ((z | ⟨a, b, k, ha, z⟩) | ⟨b, k, z⟩)
        · exact Or.inl z
        · exact Or.inr ⟨a, b, k, by omega, z⟩
        · exact Or.inr ⟨K, b, k, by omega, z⟩
      · rintro (z | ⟨a, b, k, ha, z⟩)
        · exact Or.inl (Or.inl z)
        · rcases Nat.lt_or_ge a K with q | q
          · exact Or.inl (Or.inr ⟨a, b, k, q, z⟩)
          · rw [show a = K by omega] at z
            exact Or.inr ⟨b, k, z⟩
  exact outer N (Nat.le_refl _)
def cb (m : Int64) : Nat := sm (fun x => if bl m x = true then 1 else 0) 64
theorem sm_1 : ∀ n, sm (fun _ => 1) n = n
  | 0 => rfl
  | n + 1 => by show sm (fun _ => 1) n + 1 = n + 1; rw [sm_1 n]
theorem cb_le (m : Int64) : cb m ≤ 64 := by
  have := sm_lq (F := fun x => if bl m x = true then 1 else 0) (G := fun _ => 1) (n := 64) (fun k _ => by split <;> decide)
  rw [sm_1] at this
  exact this
theorem cb_lt {m n : Int64} (h : ∀ x, x < 64 → bl m x = true → bl n x = true) (ne : m ≠ n) : cb m < cb n := by
  obtain ⟨x, hx, h1⟩ : ∃ x, x < 64 ∧ bl m x ≠ bl n x := Classical.byContradiction fun q => ne (bl_ext (fun x hx => Classical.byContradiction fun q2 => q ⟨x, hx, q2⟩))
  have hm : bl m x = false := by
    cases q : bl m x with
    | false => rfl
    | true => rw [q, h x hx q] at h1; exact absurd rfl h1
  have hn : bl n x = true := by
    cases q : bl n x with
    | true => rfl
    | false => rw [q, hm] at h1; exact absurd rfl h1
  refine sm_lu (j := x) (fun k hk => ?_) hx (by rw [hm, hn]; decide)
  by_cases q : bl m k = true
  · rw [if_pos q, if_pos (h k hk q)]
    exact Nat.le_refl _
  · rw [if_neg q]
    exact Nat.zero_le _
/-- the rounds end -/
theorem ld_fix {σ : Hp} {N L : Nat} {lm : Nat → Nat} {s e : Nat} (h : XS σ (N, L, lm, s, e)) (m : Int64) : woF σ N L (ldF σ N L m) = ldF σ N L m := by
  have key : ∀ t, woF σ N L (it (fun _ => woF σ N L) t m) = it (fun _ => woF σ N L) t m ∨ t ≤ cb (it (fun _ => woF σ N L) t m) := by
    intro t
    induction t with
    | zero => exact Or.inr (Nat.zero_le _)
    | succ t ih =>
      show woF σ N L (woF σ N L (it (fun _ => woF σ N L) t m)) = woF σ N L (it (fun _ => woF σ N L) t m) ∨ t + 1 ≤ cb (woF σ N L (it (fun _ => woF σ N L) t m))
      generalize it (fun _ => woF σ N L) t m = n at ih ⊢
      by_cases q : woF σ N L n = n
      · exact Or.inl (by rw [q, q])
      · rcases ih with ih | ih
        · exact absurd ih q
        · have := cb_lt (m := n) (n := woF σ N L n) (fun x hx z => (wo_bl h n hx).mpr (Or.inl z)) (fun z => q z.symm)
          exact Or.inr (by omega)
  rcases key 64 with k | k
  · exact k
  · exact Classical.byContradiction fun q => by
      have := cb_lt (m := ldF σ N L m) (n := woF σ N L (ldF σ N L m)) (fun x hx z => (wo_bl h _ hx).mpr (Or.inl z)) (fun z => q z.symm)
      have h2 := cb_le (woF σ N L (ldF σ N L m))
      have h3 : 64 ≤ cb (ldF σ N L m) := k
      omega
/-- the pairs that some word leads into m -/
theorem ld_bl {σ : Hp} {N L : Nat} {lm : Nat → Nat} {s e : Nat} (h : XS σ (N, L, lm, s, e)) (m : Int64) {a b : Nat} (ha : a < N) (hb : b < N) : bl (ldF σ N L m) (8 * a + b) = true ↔ ∃ w, okW L w ∧ bl m (8 * runW N lm w a + runW N lm w b) = true := by
  have h0 : 0 < N := by have := h.1.2.1; omega
  have h6 := h.1.2.2.1
  constructor
  · have key : ∀ t, ∀ a b, a < N → b < N → bl (it (fun _ => woF σ N L) t m) (8 * a + b) = true → ∃ w, okW L w ∧ bl m (8 * runW N lm w a + runW N lm w b) = true := by
      intro t
      induction t with
      | zero => exact fun a b _ _ z => ⟨[], (fun k hk => by cases hk), z⟩
      | succ t ih =>
        intro a b ha hb z
        rcases (wo_bl h (it (fun _ => woF σ N L) t m) (show 8 * a + b < 64 by omega)).mp z with z | ⟨a', b', k, ha', hb', hk, he, z⟩
        · exact ih a b ha hb z
        · obtain rfl : a = a' := by omega
          obtain rfl : b = b' := by omega
          obtain ⟨w, hw, z2⟩ := ih _ _ (gN_lt h0) (gN_lt h0) z
          exact ⟨k :: w, hw.cons hk, z2⟩
    exact key 64 a b ha hb
  · have sub : ∀ t x, x < 64 → bl m x = true → bl (it (fun _ => woF σ N L) t m) x = true := by
      intro t
      induction t with
      | zero => exact fun _ _ z => z
      | succ t ih => exact fun x hx z => (wo_bl h _ hx).mpr (Or.inl (ih x hx z))
    rintro ⟨w, hw, z⟩
    have key : ∀ (w : List Nat) a b, a < N → b < N → okW L w → bl m (8 * runW N lm w a + runW N lm w b) = true → bl (ldF σ N L m) (8 * a + b) = true := by
      intro w
      induction w with
      | nil => exact fun a b ha hb _ z => sub 64 _ (by omega) z
      | cons k w ih =>
        intro a b ha hb hw z
        have z2 := ih _ _ (gN_lt h0) (gN_lt h0) hw.tail.2 z
        have := (wo_bl h (ldF σ N L m) (show 8 * a + b < 64 by omega)).mpr (Or.inr ⟨a, b, k, ha, hb, hw.tail.1, rfl, z2⟩)
        rw [ld_fix h] at this
        exact this
    exact key w a b ha hb hw z
/-- no others come in -/
theorem ld_out {σ : Hp} {N L : Nat} {lm : Nat → Nat} {s e : Nat} (h : XS σ (N, L, lm, s, e)) (m : Int64) {x : Nat} (hx : x < 64) (hn : ¬ ∃ a b, a < N ∧ b < N ∧ x = 8 * a + b) : bl (ldF σ N L m) x = bl m x := by
  have key : ∀ t, bl (it (fun _ => woF σ N L) t m) x = true ↔ bl m x = true := by
    intro t
    induction t with
    | zero => exact Iff.rfl
    | succ t ih =>
      refine (wo_bl h (it (fun _ => woF σ N L) t m) hx).trans ?_
      rw [ih]
      refine ⟨fun z => ?_, Or.inl⟩
      rcases z with z | ⟨a, b, k, ha, hb, _, he, _⟩
      · exact z
      · exact absurd ⟨a, b, ha, hb, he⟩ hn
  have := key 64
  cases q : bl m x with
  | true => exact this.mpr q
  | false =>
    cases q2 : bl (ldF σ N L m) x with
    | false => rfl
    | true => rw [this.mp q2] at q; cases q
