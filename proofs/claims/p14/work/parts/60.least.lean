/-! least: the class's answer -/
theorem v_P_least {N L M : Nat} (σ : Hp) (hI : KI σ N L) (hM : EM σ M) : Ct m_P_least [.ref 0] σ (Rq σ (fun z => z = it (hpC (lmF σ N L)) N 0)) := by
  show WP m_P_least 0 [.ref 0] [] σ _
  refine wp_aload_n d_P_least_0 rfl ?_
  refine wp_getA d_P_least_1 fl_P_58 rfl rfl rfl ?_
  refine wp_callV0e d_P_least_4 cv_P_212 rfl rfl rfl ⟨Nat.le_of_ble_eq_true rfl, Nat.le_of_ble_eq_true rfl⟩ (Nat.le_of_ble_eq_true rfl) (Nat.le_of_ble_eq_true rfl) (c_A_heaps _ hI) ?_
  refine wp_iret d_P_least_7 rfl ?_
  exact ⟨⟨_, rfl, rfl⟩, Fp.rf, M, hM⟩
def eb (e i : Nat) : Nat := e / 2 ^ i % 2
theorem eb_01 (e i : Nat) : eb e i = 0 ∨ eb e i = 1 := by
  have := Nat.mod_lt (e / 2 ^ i) (show 0 < 2 by decide)
  unfold eb
  omega
theorem iB_eb {e i : Nat} (he : e < 2 ^ 31) (hi : i ≤ 6) : iB (nI e) (nI i) = decide (eb e i = 1) := by
  have hb := bt_nI (S := e) (i := i) he hi
  have h1 := eb_01 e i
  unfold iB
  rw [hb]
  show decide (nI (eb e i) = nI 1) = _
  rw [decide_eq_decide, nI_eq (by omega) (by decide)]
/-- the same words lead both into the ends -/
def EqM (N L : Nat) (lm : Nat → Nat) (e i j : Nat) : Prop := ∀ w, okW L w → eb e (runW N lm w i) = eb e (runW N lm w j)
theorem ue_bl {e N : Nat} (h6 : N ≤ 6) (he : e < 2 ^ N) {x : Nat} (hx : x < 64) : bl (ueF (nI e) N) x = true ↔ ∃ a b, a < N ∧ b < N ∧ x = 8 * a + b ∧ eb e a ≠ eb e b := by
  have h26 := pow2_le6 h6
  have cond : ∀ a b, a < N → b < N → (iB (nI e) (nI a) = iB (nI e) (nI b) ↔ eb e a = eb e b) := fun a b ha hb => by
    rw [iB_eb (by omega) (by omega), iB_eb (by omega) (by omega), decide_eq_decide]
    have := eb_01 e a
    have := eb_01 e b
    omega
  have inner : ∀ a, a < N → ∀ (r : Int64) K, K ≤ N → (bl (it (ueS (nI e) a) K r) x = true ↔ bl r x = true ∨ ∃ b, b < K ∧ x = 8 * a + b ∧ eb e a ≠ eb e b) := by
    intro a ha r K
    induction K with
    | zero =>
      intro _
      refine ⟨Or.inl, fun z => ?_⟩
      rcases z with z | ⟨b, hb, _⟩
      · exact z
      · exact absurd hb (Nat.not_lt_zero b)
    | succ K ih =>
      intro hK
      have ih := ih (by omega)
      have hc := cond a K ha (by omega)
      show bl (if iB (nI e) (nI a) = iB (nI e) (nI K) then it (ueS (nI e) a) K r else stL (it (ueS (nI e) a) K r) (prF (nI a) (nI K))) x = true ↔ _
      by_cases q : eb e a = eb e K
      · rw [if_pos (hc.mpr q), ih]
        constructor
        · rintro (z | ⟨b, hb, z⟩)
          · exact Or.inl z
          · exact Or.inr ⟨b, by omega, z⟩
        · rintro (z | ⟨b, hb, z1, z2⟩)
          · exact Or.inl z
          · rcases Nat.lt_or_ge b K with q2 | q2
            · exact Or.inr ⟨b, q2, z1, z2⟩
            · rw [show b = K by omega] at z2
              exact absurd q z2
      · rw [if_neg (fun z => q (hc.mp z)), pr_nI, bl_stL (by omega) hx, Bool.or_eq_true, decide_eq_true_eq, ih]
        constructor
        · rintro ((z | ⟨b, hb, z⟩) | z)
          · exact Or.inl z
          · exact Or.inr ⟨b, by omega, z⟩
          · exact Or.inr ⟨K, by omega, z.symm, q⟩
        · rintro (z | ⟨b, hb, z1, z2⟩)
          · exact Or.inl (Or.inl z)
          · rcases Nat.lt_or_ge b K with q2 | q2
            · exact Or.inl (Or.inr ⟨b, q2, z1, z2⟩)
            · exact Or.inr (by rw [z1, show b = K by omega])
  have outer : ∀ K, K ≤ N → (bl (it (fun a m => it (ueS (nI e) a) N m) K 0) x = true ↔ ∃ a b, a < K ∧ b < N ∧ x = 8 * a + b ∧ eb e a ≠ eb e b) := by
    intro K
    induction K with
    | zero =>
      intro _
      refine ⟨fun z => ?_, fun ⟨a, b, ha, _⟩ => absurd ha (Nat.not_lt_zero a)⟩
      have z : bl 0 x = true := z
      rw [bl_0] at z
      cases z
    | succ K ih =>
      intro hK
      show bl (it (ueS (nI e) K) N (it (fun a m => it (ueS (nI e) a) N m) K 0)) x = true ↔ _
      rw [inner K (by omega) _ N (Nat.le_refl _), ih (by omega)]
      constructor
      · rintro (⟨a, b, ha, z⟩ | ⟨b, z⟩)
        · exact ⟨a, b, by omega, z⟩
        · exact ⟨K, b, by omega, z⟩
      · rintro ⟨a, b, ha, z⟩
        rcases Nat.lt_or_ge a K with q | q
        · exact Or.inl ⟨a, b, q, z⟩
        · rw [show a = K by omega] at z
          exact Or.inr ⟨b, z⟩
  exact outer N (Nat.le_refl _)
/-- the pairs that the class holds for unlike -/
theorem pt_EqM {σ : Hp} {N L : Nat} {lm : Nat → Nat} {s e : Nat} (h : XS σ (N, L, lm, s, e)) {a b : Nat} (ha : a < N) (hb : b < N) : bl (ldF σ N L (ueF (nI e) N)) (8 * a + b) = true ↔ ¬ EqM N L lm e a b := by
  have h0 : 0 < N := by have := h.1.2.1; omega
  have h6 := h.1.2.2.1
  rw [ld_bl h _ ha hb]
  constructor
  · rintro ⟨w, hw, z⟩ q
    have r1 := runW_lt (lm := lm) h0 w a ha
    have r2 := runW_lt (lm := lm) h0 w b hb
    obtain ⟨a', b', ha', hb', he, z⟩ := (ue_bl h6 h.2.2.2.1.1 (by omega)).mp z
    obtain rfl : runW N lm w a = a' := by omega
    obtain rfl : runW N lm w b = b' := by omega
    exact z (q w hw)
  · intro q
    refine Classical.byContradiction fun q2 => q (fun w hw => Classical.byContradiction fun q3 => q2 ⟨w, hw, ?_⟩)
    have r1 := runW_lt (lm := lm) h0 w a ha
    have r2 := runW_lt (lm := lm) h0 w b hb
    exact (ue_bl h6 h.2.2.2.1.1 (by omega)).mpr ⟨_, _, r1, r2, rfl, q3⟩
/-! the reference's rounds: parted by words of so many letters -/
theorem al_iff {N L : Nat} {lm h : Nat → Nat} {a b : Nat} : alN N L lm h a b = true ↔ h a = h b ∧ ∀ l, l < L → h (gN N (lm l) a) = h (gN N (lm l) b) := by
  rw [alN, Bool.and_eq_true, decide_eq_true_eq, List.all_eq_true]
  constructor
  · rintro ⟨x, y⟩
    exact ⟨x, fun l hl => of_decide_eq_true (y l (List.mem_range.mpr hl))⟩
  · rintro ⟨x, y⟩
    exact ⟨x, fun l hl => decide_eq_true (y l (List.mem_range.mp hl))⟩
theorem rd_eq {N L : Nat} {lm h : Nat → Nat} : ∀ K i j, i < K → j < K → ((rdQ N L lm h K).1 i = (rdQ N L lm h K).1 j ↔ alN N L lm h i j = true)
  | 0, i, _, hi, _ => absurd hi (Nat.not_lt_zero i)
  | K + 1, i, j, hi, hj => by
    have sy : ∀ a b, alN N L lm h a b = true ↔ alN N L lm h b a = true := fun a b => by
      rw [al_iff, al_iff]
      exact ⟨fun z => ⟨z.1.symm, fun l hl => (z.2 l hl).symm⟩, fun z => ⟨z.1.symm, fun l hl => (z.2 l hl).symm⟩⟩
    have tr : ∀ a b c, alN N L lm h a b = true → alN N L lm h b c = true → alN N L lm h a c = true := fun a b c x y => by
      rw [al_iff] at x y ⊢
      exact ⟨x.1.trans y.1, fun l hl => (x.2 l hl).trans (y.2 l hl)⟩
    have rf : ∀ a, alN N L lm h a a = true := fun a => al_iff.mpr ⟨rfl, fun _ _ => rfl⟩
    have ih := rd_eq (N := N) (L := L) (lm := lm) (h := h) K
    obtain ⟨-, lt⟩ := rdQ_lt (N := N) (L := L) (lm := lm) (h := h) K
    have e : rdQ N L lm h (K + 1) = rdS N L lm h K (rdQ N L lm h K) := rfl
    rw [e]
    generalize rdQ N L lm h K = q at ih lt ⊢
    unfold rdS
    by_cases c : sr (fun l => alN N L lm h l K = true) K 0 < K
    · rw [if_pos c]
      have hl := sr_at (p := fun l => alN N L lm h l K = true) K 0 (by omega)
      generalize sr (fun l => alN N L lm h l K = true) K 0 = k at c hl ⊢
      have hl : alN N L lm h k K = true := hl
      show (if i = K then q.1 k else q.1 i) = (if j = K then q.1 k else q.1 j) ↔ _
      by_cases q1 : i = K
      · by_cases q2 : j = K
        · rw [if_pos q1, if_pos q2, q1, q2]
          exact ⟨fun _ => rf K, fun _ => rfl⟩
        · rw [if_pos q1, if_neg q2, ih k j c (by omega), q1]
          exact ⟨fun z => tr _ _ _ ((sy _ _).mp hl) z, fun z => tr _ _ _ hl z⟩
      · by_cases q2 : j = K
        · rw [if_neg q1, if_pos q2, ih i k (by omega) c, q2]
          exact ⟨fun z => tr _ _ _ z hl, fun z => tr _ _ _ z ((sy _ _).mp hl)⟩
        · rw [if_neg q1, if_neg q2]
          exact ih i j (by omega) (by omega)
    · rw [if_neg c]
      have hn : ∀ l, l < K → ¬ alN N L lm h l K = true := fun l hl z => c (by
        have := sr_ex (p := fun l => alN N L lm h l K = true) K 0 ⟨l, Nat.zero_le _, by omega, z⟩
        omega)
      show (if i = K then q.2 else q.1 i) = (if j = K then q.2 else q.1 j) ↔ _
      by_cases q1 : i = K
      · by_cases q2 : j = K
        · rw [if_pos q1, if_pos q2, q1, q2]
          exact ⟨fun _ => rf K, fun _ => rfl⟩
        · rw [if_pos q1, if_neg q2, q1]
          have := lt j (by omega)
          exact ⟨fun z => absurd z (by omega), fun z => absurd ((sy _ _).mp z) (hn j (by omega))⟩
      · by_cases q2 : j = K
        · rw [if_neg q1, if_pos q2, q2]
          have := lt i (by omega)
          exact ⟨fun z => absurd z (by omega), fun z => absurd z (hn i (by omega))⟩
        · rw [if_neg q1, if_neg q2]
          exact ih i j (by omega) (by omega)
theorem aH_s {N L : Nat} {lm : Nat → Nat} {e k i j : Nat} (hi : i < N) (hj : j < N) : alH N L lm e (k + 1) i = alH N L lm e (k + 1) j ↔ alH N L lm e k i = alH N L lm e k j ∧ ∀ l, l < L → alH N L lm e k (gN N (lm l) i) = alH N L lm e k (gN N (lm l) j) := by
  rw [alH_s]
  exact (rd_eq N i j hi hj).trans al_iff
theorem aH_w {N L : Nat} {lm : Nat → Nat} {e : Nat} (h0 : 0 < N) : ∀ k i j, i < N → j < N → (alH N L lm e k i = alH N L lm e k j ↔ ∀ w, okW L w → w.length ≤ k → eb e (runW N lm w i) = eb e (runW N lm w j))
  | 0, i, j, _, _ => by
    show eb e i = eb e j ↔ _
    constructor
    · intro z w _ hw
      match w, hw with
      | [], _ => exact z
      | _ :: _, hw => simp at hw
    · exact fun z => z [] (fun k hk => by cases hk) (Nat.le_refl _)
  | k + 1, i, j, hi, hj => by
    rw [aH_s hi hj, aH_w h0 k i j hi hj]
    constructor
    · rintro ⟨z1, z2⟩ w hw hl
      match w, hw, hl with
      | [], hw, _ => exact z1 [] hw (Nat.zero_le _)
      | l :: w, hw, hl =>
        have hl2 : w.length ≤ k := by simpa using hl
        exact (aH_w h0 k _ _ (gN_lt h0) (gN_lt h0)).mp (z2 l hw.tail.1) w hw.tail.2 hl2
    · intro z
      exact ⟨fun w hw hl => z w hw (by omega), fun l hl => (aH_w h0 k _ _ (gN_lt h0) (gN_lt h0)).mpr (fun w hw hl2 => z (l :: w) (hw.cons hl) (by simpa using hl2))⟩
def cls (N L : Nat) (lm : Nat → Nat) (e k : Nat) : Nat := sm (fun i => if ∀ j, j < i → ¬ alH N L lm e k j = alH N L lm e k i then 1 else 0) N
/-- nothing is parted by the next letter -/
def stP' (N L : Nat) (lm : Nat → Nat) (e k : Nat) : Prop := ∀ i j, i < N → j < N → alH N L lm e k i = alH N L lm e k j → alH N L lm e (k + 1) i = alH N L lm e (k + 1) j
theorem stP_s {N L : Nat} {lm : Nat → Nat} {e k : Nat} (h0 : 0 < N) (h : stP' N L lm e k) : stP' N L lm e (k + 1) := fun i j hi hj z => by
  have z2 := (aH_s hi hj).mp z
  exact (aH_s hi hj).mpr ⟨z, fun l hl => h _ _ (gN_lt h0) (gN_lt h0) (z2.2 l hl)⟩
theorem cls_lt {N L : Nat} {lm : Nat → Nat} {e k : Nat} (h : ¬ stP' N L lm e k) : cls N L lm e k < cls N L lm e (k + 1) := by
  obtain ⟨i, j, hi, hj, z1, z2⟩ : ∃ i j, i < N ∧ j < N ∧ alH N L lm e k i = alH N L lm e k j ∧ ¬ alH N L lm e (k + 1) i = alH N L lm e (k + 1) j :=
    Classical.byContradiction fun q => h (fun i j hi hj z => Classical.byContradiction fun q2 => q ⟨i, j, hi, hj, z, q2⟩)
  have sub : ∀ x y, x < N → y < N → alH N L lm e (k + 1) x = alH N L lm e (k + 1) y → alH N L lm e k x = alH N L lm e k y := fun x y hx hy z => ((aH_s hx hy).mp z).1
  have hle : ∀ x, x < N → (if ∀ y, y < x → ¬ alH N L lm e k y = alH N L lm e k x then 1 else 0) ≤ (if ∀ y, y < x → ¬ alH N L lm e (k + 1) y = alH N L lm e (k + 1) x then 1 else 0) := fun x hx => by
    by_cases q : ∀ y, y < x → ¬ alH N L lm e k y = alH N L lm e k x
    · rw [if_pos q, if_pos (fun y hy z => q y hy (sub y x (by omega) hx z))]
      exact Nat.le_refl _
    · rw [if_neg q]
      exact Nat.zero_le _
  -- the least of the heap of i and j before; one of them is parted from it
  have fst : ∀ (p : Nat → Prop) [DecidablePred p] (n : Nat), n < N → p n → ∃ a, a ≤ n ∧ p a ∧ ∀ y, y < a → ¬ p y := fun p _ n hn hp => by
    refine ⟨sr p (n + 1) 0, ?_, ?_, fun y hy hpy => ?_⟩
    · have := sr_ex (p := p) (n + 1) 0 ⟨n, Nat.zero_le _, by omega, hp⟩
      omega
    · exact sr_at (p := p) (n + 1) 0 (sr_ex (p := p) (n + 1) 0 ⟨n, Nat.zero_le _, by omega, hp⟩)
    · have hlt := sr_ex (p := p) (n + 1) 0 ⟨n, Nat.zero_le _, by omega, hp⟩
      have := sr_ex (p := p) (y + 1) 0 ⟨y, Nat.zero_le _, by omega, hpy⟩
      have : sr p (y + 1) 0 = sr p (n + 1) 0 := by
        have hm : ∀ f g k, sr p f k < k + f → f ≤ g → sr p g k = sr p f k := by
          intro f
          induction f with
          | zero => exact fun g k h _ => absurd h (by show ¬ k < k + 0; omega)
          | succ f ih =>
            intro g k h hfg
            match g, hfg with
            | g + 1, hfg =>
              show (if p k then k else sr p g (k + 1)) = (if p k then k else sr p f (k + 1))
              by_cases c : p k
              · rw [if_pos c, if_pos c]
              · rw [if_neg c, if_neg c]
                refine ih g (k + 1) ?_ (by omega)
                have h : (if p k then k else sr p f (k + 1)) < k + (f + 1) := h
                rw [if_neg c] at h
                omega
        exact (hm (y + 1) (n + 1) 0 (sr_ex (p := p) (y + 1) 0 ⟨y, Nat.zero_le _, by omega, hpy⟩) (by omega)).symm
      omega
  obtain ⟨a, ha, pa, na⟩ := fst (fun x => alH N L lm e k x = alH N L lm e k i) i hi rfl
  have main : ∀ x, x < N → alH N L lm e k x = alH N L lm e k i → ¬ alH N L lm e (k + 1) x = alH N L lm e (k + 1) a → cls N L lm e k < cls N L lm e (k + 1) := by
    intro x hx zx nx
    obtain ⟨b, hb, pb, nb⟩ := fst (fun y => alH N L lm e (k + 1) y = alH N L lm e (k + 1) x) x hx rfl
    have hbk : alH N L lm e k b = alH N L lm e k i := (sub b x (by omega) hx pb).trans zx
    have hab : a < b := by
      rcases Nat.lt_trichotomy a b with q | q | q
      · exact q
      · subst q
        exact absurd pb.symm nx
      · exact absurd hbk (na b q)
    refine sm_lu (j := b) hle (by omega) ?_
    rw [if_neg (fun q => q a hab (pa.trans hbk.symm)), if_pos (fun y hy z => nb y hy (z.trans pb))]
    decide
  by_cases q : alH N L lm e (k + 1) i = alH N L lm e (k + 1) a
  · exact main j hj z1.symm (fun z => z2 (q.trans z.symm))
  · exact main i hi rfl q
theorem stP_6 {N L : Nat} {lm : Nat → Nat} {e : Nat} (h0 : 0 < N) (h6 : N ≤ 6) : stP' N L lm e 6 := by
  have key : ∀ k, stP' N L lm e k ∨ k + 1 ≤ cls N L lm e k := by
    intro k
    induction k with
    | zero =>
      refine Or.inr ?_
      have := sm_lu (F := fun _ => 0) (G := fun i => if ∀ j, j < i → ¬ alH N L lm e 0 j = alH N L lm e 0 i then 1 else 0) (n := N) (j := 0) (fun _ _ => Nat.zero_le _) h0 (by rw [if_pos (fun j hj => absurd hj (Nat.not_lt_zero j))]; decide)
      rw [sm_0] at this
      exact this
    | succ k ih =>
      by_cases q : stP' N L lm e k
      · exact Or.inl (stP_s h0 q)
      · rcases ih with ih | ih
        · exact absurd ih q
        · have := cls_lt q
          exact Or.inr (by omega)
  rcases key 6 with k | k
  · exact k
  · exfalso
    have h1 := sm_lq (F := fun i => if ∀ j, j < i → ¬ alH N L lm e 6 j = alH N L lm e 6 i then 1 else 0) (G := fun _ => 1) (n := N) (fun k _ => by split <;> decide)
    rw [sm_1] at h1
    have : 6 + 1 ≤ sm (fun i => if ∀ j, j < i → ¬ alH N L lm e 6 j = alH N L lm e 6 i then 1 else 0) N := k
    omega
theorem aH_6 {N L : Nat} {lm : Nat → Nat} {e i j : Nat} (h0 : 0 < N) (h6 : N ≤ 6) (hi : i < N) (hj : j < N) : alH N L lm e 6 i = alH N L lm e 6 j ↔ EqM N L lm e i j := by
  constructor
  · intro z w hw
    have all : ∀ d, stP' N L lm e (6 + d) := fun d => by
      induction d with
      | zero => exact stP_6 h0 h6
      | succ d ih => exact stP_s h0 ih
    have z2 : ∀ d, alH N L lm e (6 + d) i = alH N L lm e (6 + d) j := fun d => by
      induction d with
      | zero => exact z
      | succ d ih => exact all d i j hi hj ih
    exact (aH_w h0 (6 + w.length) i j hi hj).mp (z2 w.length) w hw (by omega)
  · exact fun z => (aH_w h0 6 i j hi hj).mpr (fun w hw _ => z w hw)
/-! the states that can be come to -/
theorem tb_eb {S i : Nat} : S.testBit i = true ↔ eb S i = 1 := by
  rw [Nat.testBit_eq_decide_div_mod_eq, decide_eq_true_eq]
  rfl
theorem or_eb {S T i : Nat} : eb (S ||| T) i = 1 ↔ eb S i = 1 ∨ eb T i = 1 := by
  rw [← tb_eb, ← tb_eb, ← tb_eb, Nat.testBit_or, Bool.or_eq_true]
theorem eb_ext {N S T : Nat} (hS : S < 2 ^ N) (hT : T < 2 ^ N) (h : ∀ i, i < N → (eb S i = 1 ↔ eb T i = 1)) : S = T := by
  apply Nat.eq_of_testBit_eq
  intro i
  rcases Nat.lt_or_ge i N with q | q
  · have := h i q
    rw [← tb_eb, ← tb_eb] at this
    cases a : S.testBit i <;> cases b : T.testBit i
    · rfl
    · rw [a, b] at this; exact absurd (this.mpr rfl) (by decide)
    · rw [a, b] at this; exact absurd (this.mp rfl) (by decide)
    · rfl
  · rw [Nat.testBit_lt_two_pow (Nat.lt_of_lt_of_le hS (Nat.pow_le_pow_right (by decide) q)), Nat.testBit_lt_two_pow (Nat.lt_of_lt_of_le hT (Nat.pow_le_pow_right (by decide) q))]
def cbN (N S : Nat) : Nat := sm (fun i => if eb S i = 1 then 1 else 0) N
theorem cbN_lt {N S T : Nat} (hS : S < 2 ^ N) (hT : T < 2 ^ N) (h : ∀ i, i < N → eb S i = 1 → eb T i = 1) (ne : S ≠ T) : cbN N S < cbN N T := by
  obtain ⟨i, hi, h1, h2⟩ : ∃ i, i < N ∧ eb T i = 1 ∧ ¬ eb S i = 1 := Classical.byContradiction fun q => ne (eb_ext hS hT (fun i hi => ⟨h i hi, fun z => Classical.byContradiction fun q2 => q ⟨i, hi, z, q2⟩⟩))
  refine sm_lu (j := i) (fun k hk => ?_) hi (by rw [if_pos h1, if_neg h2]; decide)
  by_cases q : eb S k = 1
  · rw [if_pos q, if_pos (h k hk q)]
    exact Nat.le_refl _
  · rw [if_neg q]
    exact Nat.zero_le _
theorem rc_sub {N : Nat} {lm : Nat → Nat} {S : Nat} : ∀ l i, eb S i = 1 → eb (it (fun l S => S ||| imN N (lm l) S) l S) i = 1
  | 0, _, h => h
  | l + 1, i, h => or_eb.mpr (Or.inl (rc_sub l i h))
theorem rcit_lt {N L : Nat} {lm : Nat → Nat} {S : Nat} (h0 : 0 < N) (hS : S < 2 ^ N) : ∀ k, it (fun _ S => rcS N L lm S) k S < 2 ^ N
  | 0 => hS
  | k + 1 => rcS_lt h0 (rcit_lt h0 hS k) L
theorem rc_fix {N L s : Nat} {lm : Nat → Nat} (h0 : 0 < N) (hs : s < N) : rcS N L lm (it (fun _ S => rcS N L lm S) N (2 ^ s)) = it (fun _ S => rcS N L lm S) N (2 ^ s) := by
  have h2 : 2 ^ s < 2 ^ N := pow2_lt hs
  have key : ∀ k, rcS N L lm (it (fun _ S => rcS N L lm S) k (2 ^ s)) = it (fun _ S => rcS N L lm S) k (2 ^ s) ∨ k + 1 ≤ cbN N (it (fun _ S => rcS N L lm S) k (2 ^ s)) := by
    intro k
    induction k with
    | zero =>
      refine Or.inr ?_
      have h1 : eb (2 ^ s) s = 1 := by rw [← tb_eb]; exact Nat.testBit_two_pow_self
      have := sm_lu (F := fun _ => 0) (G := fun i => if eb (2 ^ s) i = 1 then 1 else 0) (n := N) (j := s) (fun _ _ => Nat.zero_le _) hs (by rw [if_pos h1]; decide)
      rw [sm_0] at this
      exact this
    | succ k ih =>
      have hlt := rcit_lt (L := L) (lm := lm) h0 h2 k
      show rcS N L lm (rcS N L lm (it (fun _ S => rcS N L lm S) k (2 ^ s))) = rcS N L lm (it (fun _ S => rcS N L lm S) k (2 ^ s)) ∨ k + 1 + 1 ≤ cbN N (rcS N L lm (it (fun _ S => rcS N L lm S) k (2 ^ s)))
      generalize it (fun _ S => rcS N L lm S) k (2 ^ s) = S at ih hlt ⊢
      by_cases q : rcS N L lm S = S
      · exact Or.inl (by rw [q, q])
      · rcases ih with ih | ih
        · exact absurd ih q
        · have := cbN_lt hlt (rcS_lt h0 hlt L) (fun i _ z => rc_sub L i z) (fun z => q z.symm)
          exact Or.inr (by
            have : cbN N S < cbN N (rcS N L lm S) := this
            omega)
  rcases key N with k | k
  · exact k
  · exfalso
    have h1 := sm_lq (F := fun i => if eb (it (fun _ S => rcS N L lm S) N (2 ^ s)) i = 1 then 1 else 0) (G := fun _ => 1) (n := N) (fun k _ => by split <;> decide)
    rw [sm_1] at h1
    have : N + 1 ≤ sm (fun i => if eb (it (fun _ S => rcS N L lm S) N (2 ^ s)) i = 1 then 1 else 0) N := k
    omega
theorem rc_un {N L s S : Nat} {lm : Nat → Nat} (h0 : 0 < N) (hs : s < N) (h : RcOf N L lm s S) : S = it (fun _ S => rcS N L lm S) N (2 ^ s) := by
  obtain ⟨h1, h2, k, rfl⟩ := h
  have a := it_stop (rcS N L lm) (x := 2 ^ s) (k := k) h2 N
  have b := it_stop (rcS N L lm) (x := 2 ^ s) (k := N) (rc_fix h0 hs) k
  rw [← a, ← b, Nat.add_comm]
theorem sf_nI {σ : Hp} {N L : Nat} {lm : Nat → Nat} {s e : Nat} (h : XS σ (N, L, lm, s, e)) : sfF σ N L = nI (it (fun _ S => rcS N L lm S) N (2 ^ s)) := by
  have h0 : 0 < N := by have := h.1.2.1; omega
  have h6 := h.1.2.2.1
  have hs := h.2.2.1.1
  have inner : ∀ K, K ≤ L → ∀ S, S < 2 ^ N → it (fun k r => r ||| osF (σ.1 2 k) r) K (nI S) = nI (it (fun l S => S ||| imN N (lm l) S) K S) := by
    intro K
    induction K with
    | zero => exact fun _ _ _ => rfl
    | succ K ih =>
      intro hK S hS
      show it (fun k r => r ||| osF (σ.1 2 k) r) K (nI S) ||| osF (σ.1 2 K) (it (fun k r => r ||| osF (σ.1 2 k) r) K (nI S)) = _
      rw [ih (by omega) S hS, h.lt (by omega), osF_Oc h0 h6 (rcS_lt h0 hS K), or_nI]
      rfl
  have outer : ∀ K, it (fun _ r => it (fun k r => r ||| osF (σ.1 2 k) r) L r) K (1 <<< (σ.1 48 7 &&& 31)) = nI (it (fun _ S => rcS N L lm S) K (2 ^ s)) := by
    intro K
    induction K with
    | zero => show (1 : Int32) <<< (σ.1 48 7 &&& 31) = nI (2 ^ s); rw [h.2.2.1.2, sh_nI (by omega)]
    | succ K ih =>
      show it (fun k r => r ||| osF (σ.1 2 k) r) L (it (fun _ r => it (fun k r => r ||| osF (σ.1 2 k) r) L r) K (1 <<< (σ.1 48 7 &&& 31))) = _
      rw [ih, inner L (Nat.le_refl _) _ (rcit_lt h0 (pow2_lt hs) K)]
      rfl
  exact outer N
/-! the heaps are counted -/
/-- reachable, and none alike ahead -/
def fsP (N L : Nat) (lm : Nat → Nat) (e T s : Nat) : Prop := eb T s = 1 ∧ ∀ l, l < s → eb T l = 1 → ¬ EqM N L lm e l s
theorem lm_Oc {σ : Hp} {N L : Nat} {lm : Nat → Nat} {s e T : Nat} (h : XS σ (N, L, lm, s, e)) (hT : T < 2 ^ N) : ∀ K, K ≤ N → ∃ H, D8 K H ∧ it (lmS (nI T) (ldF σ N L (ueF (nI e) N))) K 0 = Oc K H ∧ ∀ i, i < K → (H i = i ↔ fsP N L lm e T i)
  | 0, _ => ⟨fun _ => 0, fun i hi => absurd hi (Nat.not_lt_zero i), rfl, fun i hi => absurd hi (Nat.not_lt_zero i)⟩
  | K + 1, hK => by
    have h6 := h.1.2.2.1
    have h26 := pow2_le6 h6
    obtain ⟨H, h8, e1, hH⟩ := lm_Oc h hT K (by omega)
    have hb := bt_nI (S := T) (i := K) (by omega) (by omega)
    have al : ∀ l, l < K → (alB (nI l) (nI K) (nI T) (ldF σ N L (ueF (nI e) N)) = true ↔ eb T l = 1 ∧ EqM N L lm e l K) := fun l hl => by
      rw [alB, Bool.and_eq_true, iB_eb (by omega) (by omega), decide_eq_true_eq, pr_nI, bZ_bl (by omega)]
      have := pt_EqM h (show l < N by omega) (show K < N by omega)
      cases q : bl (ldF σ N L (ueF (nI e) N)) (8 * l + K) with
      | true => rw [q] at this; exact ⟨fun z => by simp at z, fun z => absurd z.2 (this.mp rfl)⟩
      | false =>
        rw [q] at this
        refine ⟨fun z => ⟨z.1, Classical.byContradiction fun q2 => ?_⟩, fun z => ⟨z.1, rfl⟩⟩
        exact absurd (this.mpr q2) (by decide)
    obtain ⟨v, hv8, ev, hv⟩ : ∃ v, v < 8 ∧ hoF K (nI T) (ldF σ N L (ueF (nI e) N)) = nI v ∧ (v = K ↔ fsP N L lm e T K) := by
      unfold hoF
      rw [hb]
      have h01 := eb_01 T K
      by_cases q : eb T K = 1
      · rw [if_neg (fun z => by
          have z : nI (eb T K) = nI 0 := z
          rw [nI_eq (by omega) (by decide)] at z
          omega)]
        refine ⟨_, ?_, rfl, ?_⟩
        · have := sr_le (fun l => alB (nI l) (nI K) (nI T) (ldF σ N L (ueF (nI e) N)) = true) K 0
          omega
        · constructor
          · intro z
            refine ⟨q, fun l hl hT2 hE => ?_⟩
            have := sr_ex (p := fun l => alB (nI l) (nI K) (nI T) (ldF σ N L (ueF (nI e) N)) = true) K 0 ⟨l, Nat.zero_le _, by omega, (al l hl).mpr ⟨hT2, hE⟩⟩
            omega
          · intro z
            exact sr_none (fun j hj z2 => z.2 j hj ((al j hj).mp z2).1 ((al j hj).mp z2).2)
      · have q0 : eb T K = 0 := by omega
        rw [if_pos (show nI (T / 2 ^ K % 2) = 0 by rw [show T / 2 ^ K % 2 = 0 from q0]; rfl)]
        exact ⟨7, by decide, rfl, fun z => by omega, fun z => absurd z.1 q⟩
    refine ⟨fun i => if i = K then v else H i, fun i hi => ?_, ?_, fun i hi => ?_⟩
    · show (if i = K then v else H i) < 8
      split
      · exact hv8
      · exact h8 i (by omega)
    · show uF (it (lmS (nI T) (ldF σ N L (ueF (nI e) N))) K 0) (nI K) (hoF K (nI T) (ldF σ N L (ueF (nI e) N))) = _
      rw [e1, ev, uF_add (by omega) h8 hv8]
    · show (if i = K then v else H i) = i ↔ _
      by_cases q : i = K
      · rw [if_pos q, q]
        exact hv
      · rw [if_neg q]
        exact hH i (by omega)
theorem lc_cnt {σ : Hp} {N L : Nat} {lm : Nat → Nat} {s e : Nat} (h : XS σ (N, L, lm, s, e)) : ∃ H, D8 N H ∧ lmF σ N L = Oc N H ∧ (∀ i, i < N → (H i = i ↔ fsP N L lm e (it (fun _ S => rcS N L lm S) N (2 ^ s)) i)) := by
  have h0 : 0 < N := by have := h.1.2.1; omega
  rw [lmF, sf_nI h, h.2.2.2.1.2]
  exact lm_Oc h (rcit_lt h0 (pow2_lt h.2.2.1.1) N) N (Nat.le_refl _)
theorem hpC_cnt {N : Nat} {H : Nat → Nat} (h6 : N ≤ 6) (h8 : D8 N H) : ∀ K, K ≤ N → it (hpC (Oc N H)) K 0 = nI (sm (fun i => if H i = i then 1 else 0) K)
  | 0, _ => rfl
  | K + 1, hK => by
    have hk := h8 K (by omega)
    show it (hpC (Oc N H)) K 0 + bz (gF (Oc N H) (nI K) = nI K) = nI (sm (fun i => if H i = i then 1 else 0) K + (if H K = K then 1 else 0))
    rw [hpC_cnt h6 h8 K (by omega), ← nI_add]
    congr 1
    have : gF (Oc N H) (nI K) = nI K ↔ H K = K := by rw [gF_at h6 h8 (by omega), nI_eq (by omega) (by omega)]
    unfold bz
    by_cases q : H K = K
    · rw [if_pos (this.mpr q), if_pos q]; rfl
    · rw [if_neg (fun z => q (this.mp z)), if_neg q]; rfl
/-- as many heaps as first ones -/
theorem hs_cnt {N S : Nat} {h : Nat → Nat} (hh : ∀ i, i < N → h i < 6) : ∀ K, K ≤ N → it (fun i v => v ||| (if S / 2 ^ i % 2 = 1 then 2 ^ h i else 0)) K 0 < 64 ∧ (∀ g, g < 6 → (eb (it (fun i v => v ||| (if S / 2 ^ i % 2 = 1 then 2 ^ h i else 0)) K 0) g = 1 ↔ ∃ i, i < K ∧ eb S i = 1 ∧ h i = g)) ∧ pcN (it (fun i v => v ||| (if S / 2 ^ i % 2 = 1 then 2 ^ h i else 0)) K 0) = sm (fun i => if eb S i = 1 ∧ ∀ l, l < i → eb S l = 1 → ¬ h l = h i then 1 else 0) K
  | 0, _ => ⟨by show 0 < 64; decide, fun g _ => ⟨fun z => by
      have z : 0 / 2 ^ g % 2 = 1 := z
      rw [Nat.zero_div] at z
      exact absurd z (by decide), fun ⟨i, hi, _⟩ => absurd hi (Nat.not_lt_zero i)⟩, by show pcN 0 = 0; decide⟩
  | K + 1, hK => by
    obtain ⟨i1, i2, i3⟩ := hs_cnt (S := S) hh K (by omega)
    have hg := hh K (by omega)
    show it (fun i v => v ||| (if S / 2 ^ i % 2 = 1 then 2 ^ h i else 0)) K 0 ||| (if S / 2 ^ K % 2 = 1 then 2 ^ h K else 0) < 64 ∧ (∀ g, g < 6 → (eb (it (fun i v => v ||| (if S / 2 ^ i % 2 = 1 then 2 ^ h i else 0)) K 0 ||| (if S / 2 ^ K % 2 = 1 then 2 ^ h K else 0)) g = 1 ↔ ∃ i, i < K + 1 ∧ eb S i = 1 ∧ h i = g)) ∧ pcN (it (fun i v => v ||| (if S / 2 ^ i % 2 = 1 then 2 ^ h i else 0)) K 0 ||| (if S / 2 ^ K % 2 = 1 then 2 ^ h K else 0)) = sm (fun i => if eb S i = 1 ∧ ∀ l, l < i → eb S l = 1 → ¬ h l = h i then 1 else 0) K + (if eb S K = 1 ∧ ∀ l, l < K → eb S l = 1 → ¬ h l = h K then 1 else 0)
    generalize it (fun i v => v ||| (if S / 2 ^ i % 2 = 1 then 2 ^ h i else 0)) K 0 = V at i1 i2 i3 ⊢
    by_cases q : eb S K = 1
    · rw [if_pos (show S / 2 ^ K % 2 = 1 from q)]
      have st : ∀ S, S < 64 → ∀ a, a < 6 → S ||| 2 ^ a < 64 ∧ ∀ g, g < 6 → ((S ||| 2 ^ a) / 2 ^ g % 2 = 1 ↔ S / 2 ^ g % 2 = 1 ∨ g = a) := by decide +kernel
      obtain ⟨s1, s2⟩ := st V i1 (h K) hg
      refine ⟨s1, fun g hg6 => ?_, ?_⟩
      · refine (s2 g hg6).trans ?_
        have := i2 g hg6
        constructor
        · rintro (z | z)
          · obtain ⟨i, a, b, c⟩ := this.mp z
            exact ⟨i, by omega, b, c⟩
          · exact ⟨K, by omega, q, z.symm⟩
        · rintro ⟨i, a, b, c⟩
          rcases Nat.lt_or_ge i K with q2 | q2
          · exact Or.inl (this.mpr ⟨i, q2, b, c⟩)
          · rw [show i = K by omega] at c
            exact Or.inr c.symm
      · rw [pc_or V i1 (h K) hg, i3]
        congr 1
        have := i2 (h K) hg
        by_cases q2 : eb V (h K) = 1
        · obtain ⟨i, a, b, c⟩ := this.mp q2
          rw [if_pos (show V / 2 ^ h K % 2 = 1 from q2), if_neg (fun z => z.2 i a b c)]
        · rw [if_neg (show ¬ V / 2 ^ h K % 2 = 1 from q2), if_pos ⟨q, fun l hl b c => q2 (this.mpr ⟨l, hl, b, c⟩)⟩]
    · rw [if_neg (show ¬ S / 2 ^ K % 2 = 1 from q), Nat.or_zero, if_neg (fun z => q z.1), Nat.add_zero]
      refine ⟨i1, fun g hg6 => ?_, i3⟩
      rw [i2 g hg6]
      constructor
      · rintro ⟨i, a, b⟩
        exact ⟨i, by omega, b⟩
      · rintro ⟨i, a, b, c⟩
        rcases Nat.lt_or_ge i K with q2 | q2
        · exact ⟨i, q2, b, c⟩
        · rw [show i = K by omega] at b
          exact absurd b q
theorem le_eq {σ : Hp} {N L : Nat} {lm : Nat → Nat} {s e : Nat} (h : XS σ (N, L, lm, s, e)) : it (hpC (lmF σ N L)) N 0 = nI (pcN (hsN N (it (fun _ S => rcS N L lm S) N (2 ^ s)) (alH N L lm e (six N)))) := by
  have h0 : 0 < N := by have := h.1.2.1; omega
  have h6 := h.1.2.2.1
  obtain ⟨H, h8, e1, hH⟩ := lc_cnt h
  have hl : ∀ i, i < N → alH N L lm e (six N) i < 6 := fun i hi => by have := alH6_lt (N := N) (L := L) (e := e) (lm := lm) i hi; omega
  rw [e1, hpC_cnt h6 h8 N (Nat.le_refl _), hsN, (hs_cnt (S := it (fun _ S => rcS N L lm S) N (2 ^ s)) hl N (Nat.le_refl _)).2.2]
  congr 1
  refine sm_cg (fun i hi => ?_)
  have key : (eb (it (fun _ S => rcS N L lm S) N (2 ^ s)) i = 1 ∧ ∀ l, l < i → eb (it (fun _ S => rcS N L lm S) N (2 ^ s)) l = 1 → ¬ alH N L lm e (six N) l = alH N L lm e (six N) i) ↔ H i = i := by
    rw [hH i hi, six_eq]
    constructor
    · rintro ⟨a, b⟩
      exact ⟨a, fun l hl2 c d => b l hl2 c ((aH_6 h0 h6 (by omega) hi).mpr d)⟩
    · rintro ⟨a, b⟩
      exact ⟨a, fun l hl2 c d => b l hl2 c ((aH_6 h0 h6 (by omega) hi).mp d)⟩
  by_cases q : H i = i
  · rw [if_pos q, if_pos (key.mpr q)]
  · rw [if_neg q, if_neg (fun z => q (key.mp z))]
theorem xv_least {σ : Hp} {a : Sx} (h : XS σ a) : Ct m_P_least [.ref 0] σ (YX σ a (aeLe a)) := by
  obtain ⟨N, L, lm, s, e⟩ := a
  obtain ⟨M, hM, -⟩ := h.2.2.2.2
  have h0 : 0 < N := by have := h.1.2.1; omega
  have hs := h.2.2.1.1
  refine (v_P_least σ h.1 hM).im (fun w τ hr => hr.yx h (fun z hz => ⟨it (fun _ S => rcS N L lm S) N (2 ^ s), ⟨rcit_lt h0 (pow2_lt hs) N, rc_fix h0 hs, N, rfl⟩, ?_⟩))
  rw [hz, le_eq h]
theorem un_least {z z' : Int32} {σ : Hp} {a : Sx} (hX : XS σ a) (h : aeLe a z) (h' : aeLe a z') : z = z' := by
  obtain ⟨N, L, lm, s, e⟩ := a
  have h0 : 0 < N := by have := hX.1.2.1; omega
  obtain ⟨S, hS, rfl⟩ := h
  obtain ⟨S', hS', rfl⟩ := h'
  rw [rc_un h0 hX.2.2.1.1 hS, rc_un h0 hX.2.2.1.1 hS']
