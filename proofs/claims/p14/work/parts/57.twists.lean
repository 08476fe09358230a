/-! twists: the class's answer -/
theorem v_P_twists {N L M : Nat} (σ : Hp) (hI : KI σ N L) (hM : EM σ M) : Ct m_P_twists [.ref 0] σ (Rq σ (fun z => z = it (fun c r => r + bz (∀ k, k < L → ahF (twF N c) (σ.1 2 k) N = ahF (σ.1 2 k) (twF N c) N)) (chF N) 0)) := by
  show WP m_P_twists 0 [.ref 0] [] σ _
  refine wp_aload_n d_P_twists_0 rfl ?_
  refine wp_getA d_P_twists_1 fl_P_37 rfl rfl rfl ?_
  refine wp_callV0e d_P_twists_4 cv_P_206 rfl rfl rfl ⟨Nat.le_of_ble_eq_true rfl, Nat.le_of_ble_eq_true rfl⟩ (Nat.le_of_ble_eq_true rfl) (Nat.le_of_ble_eq_true rfl) (c_S_allTwists _ hI) ?_
  refine wp_iret d_P_twists_7 rfl ?_
  exact ⟨⟨_, rfl, rfl⟩, Fp.rf, M, hM⟩
/-- the way to exchange the first K points that choice c tells -/
def tw (c : Nat) : Nat → Nat → Nat
  | 0, _ => 0
  | K + 1, i => if i = mr c K then K else if i = K then tw c K (mr c K) else tw c K i
theorem tw_lt {c : Nat} : ∀ {K i : Nat}, i < K → tw c K i < K
  | K + 1, i, hi => by
    have hm := mr_le c K
    show (if i = mr c K then K else if i = K then tw c K (mr c K) else tw c K i) < K + 1
    split
    · omega
    · split
      · have := tw_lt (c := c) (K := K) (i := mr c K) (by omega)
        omega
      · have := tw_lt (c := c) (K := K) (i := i) (by omega)
        omega
theorem tw_it {c : Nat} : ∀ K, K ≤ 6 → it twS K (0, c) = (Oc K (tw c K), c / fc K)
  | 0, _ => by show ((0 : Int32), c) = (Oc 0 _, c / 1); rw [Nat.div_one]; rfl
  | K + 1, hK => by
    have hm := mr_le c K
    have h8 : D8 K (tw c K) := fun i hi => by have := tw_lt (c := c) hi; omega
    show (uF (uF (it twS K (0, c)).1 (nI K) (gF (it twS K (0, c)).1 (nI ((it twS K (0, c)).2 % (K + 1))))) (nI ((it twS K (0, c)).2 % (K + 1))) (nI K), (it twS K (0, c)).2 / (K + 1)) = _
    rw [tw_it K (by omega)]
    try dsimp only
    rw [show c / fc K % (K + 1) = mr c K from rfl, gF_Oc (by omega) h8 (by omega), div_fc]
    have ht : (if mr c K < K then tw c K (mr c K) else 0) < 8 := by
      split
      · rename_i q; exact h8 _ q
      · decide
    have hg : D8 (K + 1) (fun i => if i = K then (if mr c K < K then tw c K (mr c K) else 0) else tw c K i) := fun i hi => by
      try dsimp only
      split
      · exact ht
      · exact h8 i (by omega)
    rw [uF_add (by omega) h8 ht, uF_Oc (by omega) hg (by omega) (by omega)]
    congr 1
    refine Oc_ext (fun i hi => ?_)
    show (if i = mr c K then K else if i = K then (if mr c K < K then tw c K (mr c K) else 0) else tw c K i) = if i = mr c K then K else if i = K then tw c K (mr c K) else tw c K i
    by_cases q : i = mr c K
    · rw [if_pos q, if_pos q]
    · rw [if_neg q, if_neg q]
      by_cases q2 : i = K
      · rw [if_pos q2, if_pos q2, if_pos (by omega)]
      · rw [if_neg q2, if_neg q2]
theorem tw_F {N c : Nat} (h6 : N ≤ 6) : twF N c = Oc N (tw c N) := by rw [twF, tw_it N h6]
/-- all apart -/
def Inj (K : Nat) (f : Nat → Nat) : Prop := ∀ i j, i < K → j < K → f i = f j → i = j
theorem Inj.hit {K : Nat} {f : Nat → Nat} (h : Inj (K + 1) f) (hf : ∀ i, i < K + 1 → f i < K + 1) : ∃ o, o ≤ K ∧ f o = K := by
  refine Classical.byContradiction fun hx => ?_
  obtain ⟨i, j, hij, hj, he⟩ := fb_twice (m := K) (n := K + 1) (f := f) (fun i hi => by
    have := hf i hi
    have h2 : f i ≠ K := fun e => hx ⟨i, by omega, e⟩
    omega) (by omega)
  exact absurd (h i j (by omega) hj he) (by omega)
theorem tw_inj {c : Nat} : ∀ {K : Nat}, Inj K (tw c K)
  | 0 => fun i _ hi _ _ => absurd hi (Nat.not_lt_zero i)
  | K + 1 => by
    have ih := tw_inj (c := c) (K := K)
    have hm := mr_le c K
    have lt : ∀ i, i < K → tw c K i < K := fun i hi => tw_lt hi
    intro i j hi hj he
    have he : (if i = mr c K then K else if i = K then tw c K (mr c K) else tw c K i) = (if j = mr c K then K else if j = K then tw c K (mr c K) else tw c K j) := he
    by_cases q1 : i = mr c K
    · by_cases q2 : j = mr c K
      · omega
      · rw [if_pos q1, if_neg q2] at he
        by_cases q3 : j = K
        · rw [if_pos q3] at he
          have := lt (mr c K) (by omega)
          omega
        · rw [if_neg q3] at he
          have := lt j (by omega)
          omega
    · rw [if_neg q1] at he
      by_cases q2 : j = mr c K
      · rw [if_pos q2] at he
        by_cases q3 : i = K
        · rw [if_pos q3] at he
          have := lt (mr c K) (by omega)
          omega
        · rw [if_neg q3] at he
          have := lt i (by omega)
          omega
      · rw [if_neg q2] at he
        by_cases q3 : i = K
        · by_cases q4 : j = K
          · omega
          · rw [if_pos q3, if_neg q4] at he
            exact absurd (ih _ _ (by omega) (by omega) he).symm q2
        · rw [if_neg q3] at he
          by_cases q4 : j = K
          · rw [if_pos q4] at he
            exact absurd (ih _ _ (by omega) (by omega) he) q1
          · rw [if_neg q4] at he
            exact ih _ _ (by omega) (by omega) he
theorem tw_low {K : Nat} : ∀ {J : Nat}, J ≤ K → ∀ (a o i : Nat), i < J → tw (a + fc K * o) J i = tw a J i
  | J + 1, hJ, a, o, i, hi => by
    have hm := mr_le a J
    show (if i = mr (a + fc K * o) J then J else if i = J then tw (a + fc K * o) J (mr (a + fc K * o) J) else tw (a + fc K * o) J i) = (if i = mr a J then J else if i = J then tw a J (mr a J) else tw a J i)
    rw [mr_add (by omega)]
    by_cases q : i = mr a J
    · rw [if_pos q, if_pos q]
    · rw [if_neg q, if_neg q]
      by_cases q2 : i = J
      · rw [if_pos q2, if_pos q2, tw_low (by omega) a o _ (by omega)]
      · rw [if_neg q2, if_neg q2, tw_low (by omega) a o _ (by omega)]
theorem tw_ex : ∀ (K : Nat) (f : Nat → Nat), Inj K f → (∀ i, i < K → f i < K) → ∃ c, c < fc K ∧ ∀ i, i < K → tw c K i = f i
  | 0, _, _, _ => ⟨0, by decide, fun i hi => absurd hi (Nat.not_lt_zero i)⟩
  | K + 1, f, hI, hf => by
    obtain ⟨o, ho, hfo⟩ := hI.hit hf
    have ne : ∀ i, i < K + 1 → i ≠ o → f i < K := fun i hi hio => by
      have h1 := hf i hi
      have h2 : f i ≠ K := fun e => hio (hI i o hi (by omega) (e.trans hfo.symm))
      omega
    obtain ⟨a, ha, hm⟩ := tw_ex K (fun i => if i = o then f K else f i) (fun i j hi hj he => by
      try dsimp only at he
      by_cases q1 : i = o
      · by_cases q2 : j = o
        · omega
        · rw [if_pos q1, if_neg q2] at he
          have := hI K j (by omega) (by omega) he
          omega
      · rw [if_neg q1] at he
        by_cases q2 : j = o
        · rw [if_pos q2] at he
          have := hI i K (by omega) (by omega) he
          omega
        · rw [if_neg q2] at he
          exact hI i j (by omega) (by omega) he) (fun i hi => by
      try dsimp only
      by_cases q1 : i = o
      · rw [if_pos q1]
        exact ne K (by omega) (by omega)
      · rw [if_neg q1]
        exact ne i (by omega) q1)
    refine ⟨a + fc K * o, ?_, fun i hi => ?_⟩
    · show a + fc K * o < fc K * (K + 1)
      have := Nat.mul_le_mul_left (fc K) ho
      rw [Nat.mul_add, Nat.mul_one]
      omega
    · show (if i = mr (a + fc K * o) K then K else if i = K then tw (a + fc K * o) K (mr (a + fc K * o) K) else tw (a + fc K * o) K i) = f i
      rw [mr_top ha ho]
      by_cases q1 : i = o
      · rw [if_pos q1, q1, hfo]
      · rw [if_neg q1]
        by_cases q2 : i = K
        · have := hm o (by omega)
          try dsimp only at this
          rw [if_pos q2, tw_low (Nat.le_refl _) a o o (by omega), this, if_pos rfl, q2]
        · have := hm i (by omega)
          try dsimp only at this
          rw [if_neg q2, tw_low (Nat.le_refl _) a o i (by omega), this, if_neg q1]
theorem tw_un : ∀ {K c d : Nat}, c < fc K → d < fc K → (∀ i, i < K → tw c K i = tw d K i) → c = d
  | 0, c, d, hc, hd, _ => by
    have : fc 0 = 1 := rfl
    omega
  | K + 1, c, d, hc, hd, h => by
    obtain ⟨c1, c2⟩ := mr_split hc
    obtain ⟨d1, d2⟩ := mr_split hd
    have hmc := mr_le c K
    have hmd := mr_le d K
    have top : ∀ c, tw c (K + 1) (mr c K) = K := fun c => if_pos rfl
    have eo : mr c K = mr d K := tw_inj (c := c) (K := K + 1) _ _ (by omega) (by omega) ((top c).trans ((top d).symm.trans (h (mr d K) (by omega)).symm))
    have es : ∀ c i, i ≠ mr c K → tw c (K + 1) i = if i = K then tw c K (mr c K) else tw c K i := fun c i hi => if_neg hi
    have key : ∀ i, i < K → tw c K i = tw d K i := fun i hi => by
      by_cases q : i = mr c K
      · have a := h K (by omega)
        rw [es c K (by omega), es d K (by omega), if_pos rfl, if_pos rfl, ← eo] at a
        rw [q]
        exact a
      · have a := h i (by omega)
        rw [es c i q, es d i (by omega), if_neg (by omega), if_neg (by omega)] at a
        exact a
    have e := tw_un c2 d2 (fun i hi => by
      have a := key i hi
      rw [c1, d1, tw_low (Nat.le_refl _) _ _ _ hi, tw_low (Nat.le_refl _) _ _ _ hi] at a
      exact a)
    rw [c1, d1, e, eo]
/-! ranks: a row of points is all apart just if its rank is its length -/
theorem pc_or : ∀ S, S < 64 → ∀ g, g < 6 → pcN (S ||| 2 ^ g) = pcN S + (if S / 2 ^ g % 2 = 1 then 0 else 1) := by decide +kernel
theorem rs_bit {N m : Nat} (h6 : N ≤ 6) (h0 : 0 < N) : ∀ K, K ≤ N → it (fun i s => s ||| 2 ^ gN N m i) K 0 < 64 ∧ ∀ g, g < 6 → ((it (fun i s => s ||| 2 ^ gN N m i) K 0) / 2 ^ g % 2 = 1 ↔ ∃ i, i < K ∧ gN N m i = g)
  | 0, _ => ⟨by show 0 < 64; decide, fun g _ => ⟨fun h => by
      exfalso
      have h : 0 / 2 ^ g % 2 = 1 := h
      rw [Nat.zero_div] at h
      exact absurd h (by decide), fun ⟨i, hi, _⟩ => absurd hi (Nat.not_lt_zero i)⟩⟩
  | K + 1, hK => by
    obtain ⟨h1, h2⟩ := rs_bit (m := m) h6 h0 K (by omega)
    have hg := gN_lt (N := N) (m := m) (i := K) h0
    have st : ∀ S, S < 64 → ∀ a, a < 6 → S ||| 2 ^ a < 64 ∧ ∀ g, g < 6 → ((S ||| 2 ^ a) / 2 ^ g % 2 = 1 ↔ S / 2 ^ g % 2 = 1 ∨ g = a) := by decide +kernel
    obtain ⟨s1, s2⟩ := st _ h1 (gN N m K) (by omega)
    refine ⟨s1, fun g hg6 => (s2 g hg6).trans ?_⟩
    rw [h2 g hg6]
    constructor
    · rintro (⟨i, hi, e⟩ | e)
      · exact ⟨i, by omega, e⟩
      · exact ⟨K, by omega, e.symm⟩
    · rintro ⟨i, hi, e⟩
      rcases Nat.lt_or_ge i K with q | q
      · exact Or.inl ⟨i, q, e⟩
      · rw [show i = K by omega] at e
        exact Or.inr e.symm
theorem rk_inj {N m : Nat} (h6 : N ≤ 6) (h0 : 0 < N) : pcN (rsN N m) = N ↔ Inj N (gN N m) := by
  have key : ∀ K, K ≤ N → pcN (it (fun i s => s ||| 2 ^ gN N m i) K 0) ≤ K ∧ (pcN (it (fun i s => s ||| 2 ^ gN N m i) K 0) = K ↔ Inj K (gN N m)) := by
    intro K
    induction K with
    | zero => exact fun _ => ⟨by show pcN 0 ≤ 0; decide, ⟨fun _ i _ hi _ _ => absurd hi (Nat.not_lt_zero i), fun _ => by show pcN 0 = 0; decide⟩⟩
    | succ K ih =>
      intro hK
      obtain ⟨i1, i2⟩ := ih (by omega)
      obtain ⟨h1, h2⟩ := rs_bit (m := m) h6 h0 K (by omega)
      have hg := gN_lt (N := N) (m := m) (i := K) h0
      have e : pcN (it (fun i s => s ||| 2 ^ gN N m i) (K + 1) 0) = pcN (it (fun i s => s ||| 2 ^ gN N m i) K 0) + (if (it (fun i s => s ||| 2 ^ gN N m i) K 0) / 2 ^ gN N m K % 2 = 1 then 0 else 1) := pc_or _ h1 _ (by omega)
      have hb := h2 (gN N m K) (by omega)
      by_cases q : (it (fun i s => s ||| 2 ^ gN N m i) K 0) / 2 ^ gN N m K % 2 = 1
      · rw [if_pos q] at e
        refine ⟨by omega, ⟨fun h => absurd h (by omega), fun h => ?_⟩⟩
        obtain ⟨i, hi, ei⟩ := hb.mp q
        exact absurd (h i K (by omega) (by omega) ei) (by omega)
      · rw [if_neg q] at e
        refine ⟨by omega, ⟨fun h => ?_, fun h => ?_⟩⟩
        · have hi := i2.mp (by omega)
          intro i j hi2 hj2 he
          rcases Nat.lt_or_ge i K with a | a <;> rcases Nat.lt_or_ge j K with b | b
          · exact hi i j a b he
          · exact absurd (hb.mpr ⟨i, a, by rw [he, show j = K by omega]⟩) q
          · exact absurd (hb.mpr ⟨j, b, by rw [← he, show i = K by omega]⟩) q
          · omega
        · have := i2.mpr (fun i j hi hj he => h i j (by omega) (by omega) he)
          omega
  exact (key N (Nat.le_refl _)).2
theorem tw_eq {σ : Hp} {N L : Nat} {lm : Nat → Nat} {s e : Nat} (h : XS σ (N, L, lm, s, e)) : it (fun c r => r + bz (∀ k, k < L → ahF (twF N c) (σ.1 2 k) N = ahF (σ.1 2 k) (twF N c) N)) (chF N) (0 : Int32) = nI (twC N L lm (N ^ N)) := by
  have h0 := h.1.2.1
  have h6 := h.1.2.2.1
  have hg : ∀ k i, gN N (lm k) i < N := fun k i => gN_lt (by omega)
  have hlt : ∀ c i, i < N → tw c N i < N := fun c i hi => tw_lt hi
  have hd : ∀ c i, i < N → gN N (hzN N (tw c N)) i = tw c N i := fun c i hi => hzN_dig (hlt c) hi
  have com : ∀ c, (∀ k, k < L → ahF (twF N c) (σ.1 2 k) N = ahF (σ.1 2 k) (twF N c) N) ↔ ∀ l, l < L → bN N (hzN N (tw c N)) (lm l) = bN N (lm l) (hzN N (tw c N)) := by
    intro c
    have h8 := nI_8 h6 (hlt c)
    have key : ∀ k, k < L → (ahF (twF N c) (σ.1 2 k) N = ahF (σ.1 2 k) (twF N c) N ↔ bN N (hzN N (tw c N)) (lm k) = bN N (lm k) (hzN N (tw c N))) := fun k hk => by
      rw [tw_F h6, h.lt hk, ahF_Oc h6 (hlt c) (gN8 (by omega) h6), ahF_Oc h6 (fun i _ => hg k i) h8]
      refine (Oc_inj h6 (fun i _ => gN8 (by omega) h6 _ (hlt c i ‹_›)) (fun i _ => h8 _ (hg k i))).trans ⟨fun z => gN_ext (by omega) (bN_lt (by omega)) (bN_lt (by omega)) (fun i hi => ?_), fun z i hi => ?_⟩
      · rw [bN_dig hi, bN_dig hi, hd c i hi, hd c _ (hg k i), z i hi]
      · have := congrArg (fun x => gN N x i) z
        try dsimp only at this
        rw [bN_dig hi, bN_dig hi, hd c i hi, hd c _ (hg k i)] at this
        exact this
    exact ⟨fun z k hk => (key k hk).mp (z k hk), fun z k hk => (key k hk).mpr (z k hk)⟩
  have twp : ∀ k, twP N L lm k = true ↔ Inj N (gN N k) ∧ ∀ l, l < L → bN N k (lm l) = bN N (lm l) k := by
    intro k
    rw [twP, Bool.and_eq_true, decide_eq_true_eq, rk_inj h6 (by omega), List.all_eq_true]
    constructor
    · rintro ⟨a, b⟩
      exact ⟨a, fun l hl => of_decide_eq_true (b l (List.mem_range.mpr hl))⟩
    · rintro ⟨a, b⟩
      exact ⟨a, fun l hl => decide_eq_true (b l (List.mem_range.mp hl))⟩
  rw [cnt_nI, chF_fc N h0 h6]
  congr 1
  refine (cnt_bij (n := N ^ N) (p := fun k => twP N L lm k = true) (num := fun c => hzN N (tw c N)) (fun c hc hq => ⟨hzN_lt (hlt c), (twp _).mpr ⟨fun i j hi hj he => ?_, (com c).mp hq⟩⟩) (fun k hk hp => ?_) (fun c d hc hd2 _ _ he => ?_)).symm.trans ?_
  · rw [hd c i hi, hd c j hj] at he
    exact tw_inj i j hi hj he
  · obtain ⟨hi, hb⟩ := (twp k).mp hp
    obtain ⟨c, hc, hm⟩ := tw_ex N (gN N k) hi (fun i _ => gN_lt (by omega))
    have e : hzN N (tw c N) = k := by
      refine gN_ext (by omega) (hzN_lt (hlt c)) hk (fun i hi => ?_)
      rw [hd c i hi, hm i hi]
    exact ⟨c, hc, (com c).mpr (by rw [e]; exact hb), e⟩
  · refine tw_un hc hd2 (fun i hi => ?_)
    have := congrArg (fun x => gN N x i) he
    try dsimp only at this
    rwa [hd c i hi, hd d i hi] at this
  · rfl
theorem xv_twists {σ : Hp} {a : Sx} (h : XS σ a) : Ct m_P_twists [.ref 0] σ (YX σ a (aeTw a)) := by
  obtain ⟨N, L, lm, s, e⟩ := a
  obtain ⟨M, hM, -⟩ := h.2.2.2.2
  exact (v_P_twists σ h.1 hM).im (fun w τ hr => hr.yx h (fun z hz => hz.trans (tw_eq h)))
theorem un_twists {z z' : Int32} {a : Sx} (h : aeTw a z) (h' : aeTw a z') : z = z' := h.trans h'.symm
