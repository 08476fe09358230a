/-! apart: the class's answer -/
theorem v_P_apart {N L M : Nat} (σ : Hp) (hI : KI σ N L) (hM : EM σ M) : Ct m_P_apart [.ref 0] σ (Rq σ (fun z => z = (nI (N * N) - bcL (ldF σ N L (dgF N))) / 2)) := by
  show WP m_P_apart 0 [.ref 0] [] σ _
  refine wp_aload_n d_P_apart_0 rfl ?_
  refine wp_getA d_P_apart_1 fl_P_37 rfl rfl rfl ?_
  refine wp_callV0e d_P_apart_4 cv_P_191 rfl rfl rfl ⟨Nat.le_of_ble_eq_true rfl, Nat.le_of_ble_eq_true rfl⟩ (Nat.le_of_ble_eq_true rfl) (Nat.le_of_ble_eq_true rfl) (c_S_apartPairs _ hI) ?_
  refine wp_iret d_P_apart_7 rfl ?_
  exact ⟨⟨_, rfl, rfl⟩, Fp.rf, M, hM⟩
theorem dg_bl {N : Nat} (h6 : N ≤ 6) {x : Nat} (hx : x < 64) : ∀ K, K ≤ N → (bl (it (fun k m => stL m (prF (nI k) (nI k))) K 0) x = true ↔ ∃ a, a < K ∧ x = 8 * a + a)
  | 0, _ => ⟨(fun z => by
      have z : bl 0 x = true := z
      rw [bl_0] at z
      cases z), fun ⟨a, ha, _⟩ => absurd ha (Nat.not_lt_zero a)⟩
  | K + 1, hK => by
    have ih := dg_bl h6 hx K (by omega)
    show bl (stL (it (fun k m => stL m (prF (nI k) (nI k))) K 0) (prF (nI K) (nI K))) x = true ↔ _
    rw [pr_nI, bl_stL (by omega) hx, Bool.or_eq_true, decide_eq_true_eq, ih]
    constructor
    · rintro (⟨a, ha, z⟩ | z)
      · exact ⟨a, by omega, z⟩
      · exact ⟨K, by omega, z.symm⟩
    · rintro ⟨a, ha, z⟩
      rcases Nat.lt_or_ge a K with q | q
      · exact Or.inl ⟨a, q, z⟩
      · exact Or.inr (by rw [z, show a = K by omega])
/-- some word brings both to one -/
def MgW (N L : Nat) (lm : Nat → Nat) (a b : Nat) : Prop := ∃ w, okW L w ∧ runW N lm w a = runW N lm w b
theorem mg_bl {σ : Hp} {N L : Nat} {lm : Nat → Nat} {s e : Nat} (h : XS σ (N, L, lm, s, e)) {a b : Nat} (ha : a < N) (hb : b < N) : bl (ldF σ N L (dgF N)) (8 * a + b) = true ↔ MgW N L lm a b := by
  have h0 : 0 < N := by have := h.1.2.1; omega
  have h6 := h.1.2.2.1
  rw [ld_bl h _ ha hb]
  have key : ∀ w, bl (dgF N) (8 * runW N lm w a + runW N lm w b) = true ↔ runW N lm w a = runW N lm w b := fun w => by
    have r1 := runW_lt (lm := lm) h0 w a ha
    have r2 := runW_lt (lm := lm) h0 w b hb
    refine (dg_bl h6 (show 8 * runW N lm w a + runW N lm w b < 64 by omega) N (Nat.le_refl _)).trans ⟨fun ⟨c, hc, z⟩ => by omega, fun z => ⟨runW N lm w a, r1, by omega⟩⟩
  exact ⟨fun ⟨w, hw, z⟩ => ⟨w, hw, (key w).mp z⟩, fun ⟨w, hw, z⟩ => ⟨w, hw, (key w).mpr z⟩⟩
/-- the marks are counted -/
theorem row_sum {n : Nat} : ∀ K, K ≤ 6 → ∀ R, R < 64 → (∀ b, b < 6 → (R.testBit b = true → b < K)) → pcN R = sm (fun b => if R.testBit b = true then 1 else 0) K := by
  have key : ∀ R, R < 64 → ∀ K, K < 7 → (∀ b, b < 6 → (R.testBit b = true → b < K)) → pcN R = sm (fun b => if R.testBit b = true then 1 else 0) K := by decide +kernel
  exact fun K hK R hR h => key R hR K (by omega) h
theorem mk_sum {m : Int64} {N : Nat} (h6 : N ≤ 6) (h : ∀ x, x < 64 → bl m x = true → ∃ a b, a < N ∧ b < N ∧ x = 8 * a + b) : bcL m = nI (sm (fun a => sm (fun b => if bl m (8 * a + b) = true then 1 else 0) N) N) := by
  obtain ⟨n, hn, rfl⟩ := wc_of m
  have tb : ∀ x, bl (lN n) x = n.testBit x := fun x => by
    unfold bl
    rw [wc_tb, BitVec.getLsbD_ofNat]
    by_cases q : x < 64
    · rw [decide_eq_true q, Bool.true_and]
    · rw [decide_eq_false q, Bool.false_and]
      exact (Nat.testBit_lt_two_pow (Nat.lt_of_lt_of_le hn (Nat.pow_le_pow_right (by decide) (by omega)))).symm
  obtain ⟨r, hr⟩ : ∃ r : Nat → Nat, r = fun i => n / 256 ^ i % 256 := ⟨_, rfl⟩
  have rb : ∀ i b, b < 8 → (r i).testBit b = n.testBit (8 * i + b) := fun i b hb => by
    rw [hr]
    show (n / 256 ^ i % 256).testBit b = _
    rw [show (256 : Nat) ^ i = 2 ^ (8 * i) by rw [show (256 : Nat) = 2 ^ 8 from rfl, ← Nat.pow_mul], show (256 : Nat) = 2 ^ 8 from rfl, Nat.testBit_mod_two_pow, Nat.testBit_div_two_pow, decide_eq_true hb, Bool.true_and, Nat.add_comm]
  have r256 : ∀ i, r i < 256 := fun i => by rw [hr]; exact Nat.mod_lt _ (by decide)
  have rin : ∀ i b, i < 8 → b < 8 → (r i).testBit b = true → i < N ∧ b < N := fun i b hi hb z => by
    rw [rb i b hb, ← tb] at z
    obtain ⟨a, c, ha, hc, e⟩ := h (8 * i + b) (by omega) z
    omega
  have r64 : ∀ i, i < 8 → r i < 64 := fun i hi => by
    have key : ∀ R, R < 256 → R.testBit 6 = false → R.testBit 7 = false → R < 64 := by decide +kernel
    refine key (r i) (r256 i) ?_ ?_
    · cases q : (r i).testBit 6 with
      | false => rfl
      | true => have := (rin i 6 hi (by decide) q).2; omega
    · cases q : (r i).testBit 7 with
      | false => rfl
      | true => have := (rin i 7 hi (by decide) q).2; omega
  have r0 : ∀ i, i < 8 → N ≤ i → r i = 0 := fun i hi hN => by
    apply Nat.eq_of_testBit_eq
    intro b
    rw [Nat.zero_testBit]
    rcases Nat.lt_or_ge b 8 with q | q
    · cases q2 : (r i).testBit b with
      | false => rfl
      | true => have := (rin i b hi q q2).1; omega
    · exact Nat.testBit_lt_two_pow (Nat.lt_of_lt_of_le (r256 i) (Nat.pow_le_pow_right (n := 2) (by decide) q))
  have ev : n = vB r 8 := by
    rw [hr]
    show n = n / 256 ^ 0 % 256 + 256 * (n / 256 ^ 1 % 256 + 256 * (n / 256 ^ 2 % 256 + 256 * (n / 256 ^ 3 % 256 + 256 * (n / 256 ^ 4 % 256 + 256 * (n / 256 ^ 5 % 256 + 256 * (n / 256 ^ 6 % 256 + 256 * (n / 256 ^ 7 % 256 + 256 * 0)))))))
    omega
  have rs : ∀ i, i < 8 → pcN (r i) = sm (fun b => if bl (lN n) (8 * i + b) = true then 1 else 0) N := fun i hi => by
    rw [row_sum (n := 0) N h6 (r i) (r64 i hi) (fun b hb z => (rin i b hi (by omega) z).2)]
    refine sm_cg (fun b hb => ?_)
    rw [rb i b (by omega), tb]
  have e1 : bcL (lN n) = nI (pcN (r 0) + pcN (r 1) + pcN (r 2) + pcN (r 3) + pcN (r 4) + pcN (r 5)) := by
    conv => lhs; rw [ev]
    exact bc_val r64 (r0 6 (by decide) h6) (r0 7 (by decide) (by omega))
  have z0 : ∀ i, i < 8 → N ≤ i → pcN (r i) = 0 := fun i hi hN => by rw [r0 i hi hN]; decide
  have e2 : sm (fun a => sm (fun b => if bl (lN n) (8 * a + b) = true then 1 else 0) N) N = sm (fun a => pcN (r a)) N := sm_cg (fun a ha => (rs a (by omega)).symm)
  rw [e1, e2]
  congr 1
  have s6 : sm (fun a => pcN (r a)) 6 = pcN (r 0) + pcN (r 1) + pcN (r 2) + pcN (r 3) + pcN (r 4) + pcN (r 5) := by
    show 0 + pcN (r 0) + pcN (r 1) + pcN (r 2) + pcN (r 3) + pcN (r 4) + pcN (r 5) = _
    omega
  rw [← s6]
  have up : ∀ d, N + d ≤ 6 → sm (fun a => pcN (r a)) (N + d) = sm (fun a => pcN (r a)) N := by
    intro d
    induction d with
    | zero => exact fun _ => rfl
    | succ d ih =>
      intro hd
      show sm (fun a => pcN (r a)) (N + d) + pcN (r (N + d)) = _
      rw [ih (by omega), z0 (N + d) (by omega) (by omega), Nat.add_zero]
  have := up (6 - N) (by omega)
  rwa [show N + (6 - N) = 6 by omega] at this
/-- each pair once from both sides -/
theorem sm_two {u : Nat → Nat → Nat} (hs : ∀ a b, u a b = u b a) (h0 : ∀ a, u a a = 0) : ∀ N, sm (fun a => sm (u a) N) N = 2 * sm (fun a => sm (u a) a) N
  | 0 => rfl
  | N + 1 => by
    have ih := sm_two hs h0 N
    have e1 : sm (fun a => sm (u a) (N + 1)) N = sm (fun a => sm (u a) N) N + sm (u N) N := by
      have := sm_add (fun a => sm (u a) N) (fun a => u a N) N
      rw [sm_cg (F := u N) (G := fun a => u a N) (fun a _ => hs N a), ← this]
      exact sm_cg (fun a _ => rfl)
    show sm (fun a => sm (u a) (N + 1)) N + (sm (u N) N + u N N) = 2 * (sm (fun a => sm (u a) a) N + sm (u N) N)
    rw [e1, h0, ih]
    omega
theorem ap_cls {σ : Hp} {N L : Nat} {lm : Nat → Nat} {s e : Nat} (h : XS σ (N, L, lm, s, e)) : (nI (N * N) - bcL (ldF σ N L (dgF N))) / 2 = nI (sm (fun a => sm (fun b => if bl (ldF σ N L (dgF N)) (8 * a + b) = true then 0 else 1) a) N) := by
  have h0 : 0 < N := by have := h.1.2.1; omega
  have h6 := h.1.2.2.1
  have hin : ∀ x, x < 64 → bl (ldF σ N L (dgF N)) x = true → ∃ a b, a < N ∧ b < N ∧ x = 8 * a + b := fun x hx z => by
    refine Classical.byContradiction fun q => ?_
    rw [ld_out h _ hx q] at z
    obtain ⟨a, ha, e⟩ := (dg_bl h6 hx N (Nat.le_refl _)).mp z
    exact q ⟨a, a, ha, ha, e⟩
  rw [mk_sum h6 hin]
  generalize hm : ldF σ N L (dgF N) = m at *
  obtain ⟨u, hu⟩ : ∃ u : Nat → Nat → Nat, u = fun a b => if a < N ∧ b < N then (if bl m (8 * a + b) = true then 0 else 1) else 0 := ⟨_, rfl⟩
  have sy : ∀ a b, a < N → b < N → (bl m (8 * a + b) = true ↔ bl m (8 * b + a) = true) := fun a b ha hb => by
    rw [← hm, mg_bl h ha hb, mg_bl h hb ha]
    exact ⟨fun ⟨w, hw, z⟩ => ⟨w, hw, z.symm⟩, fun ⟨w, hw, z⟩ => ⟨w, hw, z.symm⟩⟩
  have us : ∀ a b, u a b = u b a := fun a b => by
    rw [hu]
    show (if a < N ∧ b < N then (if bl m (8 * a + b) = true then 0 else 1) else 0) = (if b < N ∧ a < N then (if bl m (8 * b + a) = true then 0 else 1) else 0)
    by_cases q : a < N ∧ b < N
    · rw [if_pos q, if_pos (show b < N ∧ a < N from ⟨q.2, q.1⟩)]
      have := sy a b q.1 q.2
      by_cases q2 : bl m (8 * a + b) = true
      · rw [if_pos q2, if_pos (this.mp q2)]
      · rw [if_neg q2, if_neg (fun z => q2 (this.mpr z))]
    · rw [if_neg q, if_neg (show ¬ (b < N ∧ a < N) from fun z => q ⟨z.2, z.1⟩)]
  have u0 : ∀ a, u a a = 0 := fun a => by
    rw [hu]
    show (if a < N ∧ a < N then (if bl m (8 * a + a) = true then 0 else 1) else 0) = 0
    by_cases q : a < N
    · rw [if_pos (show a < N ∧ a < N from ⟨q, q⟩), if_pos]
      rw [← hm, mg_bl h q q]
      exact ⟨[], (fun k hk => by cases hk), rfl⟩
    · rw [if_neg (show ¬ (a < N ∧ a < N) from fun z => q z.1)]
  have e1 : sm (fun a => sm (fun b => if bl m (8 * a + b) = true then 1 else 0) N) N + sm (fun a => sm (u a) N) N = N * N := by
    rw [← sm_add]
    have : ∀ a, a < N → sm (fun b => if bl m (8 * a + b) = true then 1 else 0) N + sm (u a) N = N := fun a ha => by
      rw [← sm_add]
      refine (sm_cg (G := fun _ => 1) (fun b hb => ?_)).trans (sm_1 N)
      rw [hu]
      show (if bl m (8 * a + b) = true then 1 else 0) + (if a < N ∧ b < N then (if bl m (8 * a + b) = true then 0 else 1) else 0) = 1
      rw [if_pos (show a < N ∧ b < N from ⟨ha, hb⟩)]
      split <;> rfl
    rw [sm_cg this]
    have : ∀ n c, sm (fun _ => c) n = n * c := fun n c => by
      induction n with
      | zero => rw [Nat.zero_mul]; rfl
      | succ n ih => show sm (fun _ => c) n + c = (n + 1) * c; rw [ih, Nat.add_mul, Nat.one_mul]
    exact this N N
  have e2 := sm_two us u0 N
  have e3 : sm (fun a => sm (u a) a) N = sm (fun a => sm (fun b => if bl m (8 * a + b) = true then 0 else 1) a) N := sm_cg (fun a ha => sm_cg (fun b hb => by rw [hu]; show (if a < N ∧ b < N then _ else 0) = _; rw [if_pos (show a < N ∧ b < N from ⟨ha, by omega⟩)]))
  have hNN : N * N ≤ 36 := Nat.mul_le_mul h6 h6
  rw [pk_sub (by omega)]
  show nI _ / nI 2 = _
  rw [pk_div (by omega) (by decide) (by decide), ← e3]
  congr 1
  omega
/-! as the reference has it -/
theorem bf_cl {st : Nat → Nat → Nat} {L s n : Nat} (h : (bfQ st L s n).length ≤ n) : BC st L (bfQ st L s n) (bfQ st L s n).length := by
  obtain ⟨m, hm1, hm2⟩ := pk_least (fun m => (bfQ st L s m).length ≤ m) ⟨n, h⟩
  have hmn : m ≤ n := by
    rcases Nat.lt_or_ge n m with q | q
    · exact absurd h (hm2 n q)
    · exact q
  have e : bfQ st L s n = bfQ st L s m := by
    have := bfQ_stop hm1 (n - m)
    rwa [show m + (n - m) = n by omega] at this
  have h0 : m ≤ (bfQ st L s m).length := by
    rcases Nat.eq_zero_or_pos m with rfl | q
    · exact Nat.zero_le _
    · have a1 := hm2 (m - 1) (by omega)
      have a2 := (bfQ_pre (st := st) (L := L) (s := s) (m - 1) 1).1
      rw [show m - 1 + 1 = m by omega] at a2
      omega
  have e2 : (bfQ st L s m).length = m := by omega
  have := bfQ_BC (st := st) (L := L) (s := s) m h0
  rw [e, e2]
  exact this
theorem QS_cl {N L S : Nat} {lm : Nat → Nat} (hN : 0 < N) (h6 : N ≤ 6) (hS : S < 2 ^ N) : BC (stS N lm) L (QS N L lm S) (QS N L lm S).length := by
  have := QS_len (L := L) (lm := lm) hN h6 hS
  refine bf_cl (n := nx64 N) ?_
  have e : (bfQ (stS N lm) L S (nx64 N)).length ≤ 64 := this
  rw [nx64_eq] at e ⊢
  exact e
theorem im_eb {N m S : Nat} : ∀ K g, eb (it (fun i v => v ||| (if S / 2 ^ i % 2 = 1 then 2 ^ gN N m i else 0)) K 0) g = 1 ↔ ∃ i, i < K ∧ eb S i = 1 ∧ gN N m i = g
  | 0, g => ⟨fun z => by
      have z : 0 / 2 ^ g % 2 = 1 := z
      rw [Nat.zero_div] at z
      exact absurd z (by decide), fun ⟨i, hi, _⟩ => absurd hi (Nat.not_lt_zero i)⟩
  | K + 1, g => by
    have ih := im_eb (N := N) (m := m) (S := S) K g
    show eb (it (fun i v => v ||| (if S / 2 ^ i % 2 = 1 then 2 ^ gN N m i else 0)) K 0 ||| (if S / 2 ^ K % 2 = 1 then 2 ^ gN N m K else 0)) g = 1 ↔ _
    rw [or_eb, ih]
    have e2 : ∀ d, eb (2 ^ d) g = 1 ↔ d = g := fun d => by
      rw [← tb_eb, Nat.testBit_two_pow, decide_eq_true_eq]
    by_cases q : eb S K = 1
    · rw [if_pos (show S / 2 ^ K % 2 = 1 from q), e2]
      constructor
      · rintro (⟨i, a, b⟩ | z)
        · exact ⟨i, by omega, b⟩
        · exact ⟨K, by omega, q, z⟩
      · rintro ⟨i, a, b, c⟩
        rcases Nat.lt_or_ge i K with q2 | q2
        · exact Or.inl ⟨i, q2, b, c⟩
        · rw [show i = K by omega] at c
          exact Or.inr c
    · rw [if_neg (show ¬ S / 2 ^ K % 2 = 1 from q)]
      constructor
      · rintro (⟨i, a, b⟩ | z)
        · exact ⟨i, by omega, b⟩
        · have z : 0 / 2 ^ g % 2 = 1 := z
          rw [Nat.zero_div] at z
          exact absurd z (by decide)
      · rintro ⟨i, a, b, c⟩
        rcases Nat.lt_or_ge i K with q2 | q2
        · exact Or.inl ⟨i, q2, b, c⟩
        · rw [show i = K by omega] at b
          exact absurd b q
theorem im_two {N m a b : Nat} (h0 : 0 < N) (ha : a < N) (hb : b < N) : imN N m (2 ^ a ||| 2 ^ b) = 2 ^ gN N m a ||| 2 ^ gN N m b := by
  have p : ∀ i, i < N → 2 ^ i < 2 ^ N := fun i hi => pow2_lt hi
  have e2 : ∀ d g, eb (2 ^ d) g = 1 ↔ d = g := fun d g => by
    rw [← tb_eb, Nat.testBit_two_pow, decide_eq_true_eq]
  refine eb_ext (imN_lt h0) (Nat.or_lt_two_pow (p _ (gN_lt h0)) (p _ (gN_lt h0))) (fun g hg => ?_)
  rw [imN, im_eb, or_eb, e2, e2]
  constructor
  · rintro ⟨i, hi, z1, z2⟩
    rw [or_eb, e2, e2] at z1
    rcases z1 with rfl | rfl
    · exact Or.inl z2
    · exact Or.inr z2
  · rintro (z | z)
    · exact ⟨a, ha, or_eb.mpr (Or.inl ((e2 a a).mpr rfl)), z⟩
    · exact ⟨b, hb, or_eb.mpr (Or.inr ((e2 b b).mpr rfl)), z⟩
theorem QS_in {N L a b : Nat} {lm : Nat → Nat} (h0 : 0 < N) (h6 : N ≤ 6) (ha : a < N) (hb : b < N) : (∀ w, okW L w → hasB (QS N L lm (2 ^ a ||| 2 ^ b)) (2 ^ runW N lm w a ||| 2 ^ runW N lm w b) = true) ∧ ∀ j, j < (QS N L lm (2 ^ a ||| 2 ^ b)).length → ∃ w, okW L w ∧ itm (QS N L lm (2 ^ a ||| 2 ^ b)) j = 2 ^ runW N lm w a ||| 2 ^ runW N lm w b := by
  have hS : 2 ^ a ||| 2 ^ b < 2 ^ N := Nat.or_lt_two_pow (pow2_lt ha) (pow2_lt hb)
  have hB := QS_BI (N := N) (L := L) (lm := lm) (S := 2 ^ a ||| 2 ^ b)
  have hC := QS_cl (L := L) (lm := lm) h0 h6 hS
  have app : ∀ (w : List Nat) k i, runW N lm (w ++ [k]) i = gN N (lm k) (runW N lm w i) := by
    intro w k
    induction w with
    | nil => exact fun _ => rfl
    | cons l w ih => exact fun i => ih _
  constructor
  · have key : ∀ (w : List Nat) x y, x < N → y < N → okW L w → hasB (QS N L lm (2 ^ a ||| 2 ^ b)) (2 ^ x ||| 2 ^ y) = true → hasB (QS N L lm (2 ^ a ||| 2 ^ b)) (2 ^ runW N lm w x ||| 2 ^ runW N lm w y) = true := by
      intro w
      induction w with
      | nil => exact fun _ _ _ _ _ z => z
      | cons k w ih =>
        intro x y hx hy hw z
        obtain ⟨j, hj, e⟩ := hasB_iff.mp z
        have z2 := hC j k hj hw.tail.1
        rw [e] at z2
        have e3 : stS N lm k (2 ^ x ||| 2 ^ y) = 2 ^ gN N (lm k) x ||| 2 ^ gN N (lm k) y := im_two h0 hx hy
        rw [e3] at z2
        exact ih _ _ (gN_lt h0) (gN_lt h0) hw.tail.2 z2
    exact fun w hw => key w a b ha hb hw (hasB_iff.mpr ⟨0, hB.1, hB.2.1.1⟩)
  · have key : ∀ n j, j < n → j < (QS N L lm (2 ^ a ||| 2 ^ b)).length → ∃ w, okW L w ∧ itm (QS N L lm (2 ^ a ||| 2 ^ b)) j = 2 ^ runW N lm w a ||| 2 ^ runW N lm w b := by
      intro n
      induction n with
      | zero => exact fun j hj _ => absurd hj (Nat.not_lt_zero j)
      | succ n ih =>
        intro j hjn hj
        rcases Nat.eq_zero_or_pos j with rfl | q
        · exact ⟨[], (fun k hk => by cases hk), hB.2.1.1⟩
        · obtain ⟨p1, p2, p3⟩ := hB.2.2.2 j q hj
          obtain ⟨w, hw, e⟩ := ih (par (QS N L lm (2 ^ a ||| 2 ^ b)) j) (by omega) (by omega)
          refine ⟨w ++ [ltr (QS N L lm (2 ^ a ||| 2 ^ b)) j], fun k hk => ?_, ?_⟩
          · rcases List.mem_append.mp hk with hk | hk
            · exact hw k hk
            · rw [List.mem_singleton.mp hk]
              exact p2
          · rw [p3, e, app, app]
            exact im_two h0 (runW_lt h0 w a ha) (runW_lt h0 w b hb)
    exact fun j hj => key (j + 1) j (by omega) hj
theorem pc_two : ∀ x, x < 6 → ∀ y, y < 6 → pcN (2 ^ x ||| 2 ^ y) = if x = y then 1 else 2 := by decide +kernel
theorem lw_two {N L a b : Nat} {lm : Nat → Nat} (h0 : 0 < N) (h6 : N ≤ 6) (ha : a < N) (hb : b < N) : lwN (QS N L lm (2 ^ a ||| 2 ^ b)) = 2 ↔ ¬ MgW N L lm a b := by
  obtain ⟨q1, q2⟩ := QS_in (L := L) (lm := lm) h0 h6 ha hb
  have hB := QS_BI (N := N) (L := L) (lm := lm) (S := 2 ^ a ||| 2 ^ b)
  have hr : ∀ w i, i < N → runW N lm w i < 6 := fun w i hi => by have := runW_lt (lm := lm) h0 w i hi; omega
  generalize QS N L lm (2 ^ a ||| 2 ^ b) = Q at *
  have low : ∀ K, (∀ j, j < K → it (fun k r => if pcN (itm Q k) < r then pcN (itm Q k) else r) K 6 ≤ pcN (itm Q j)) ∧ (it (fun k r => if pcN (itm Q k) < r then pcN (itm Q k) else r) K 6 = 6 ∨ ∃ j, j < K ∧ it (fun k r => if pcN (itm Q k) < r then pcN (itm Q k) else r) K 6 = pcN (itm Q j)) := by
    intro K
    induction K with
    | zero => exact ⟨fun j hj => absurd hj (Nat.not_lt_zero j), Or.inl rfl⟩
    | succ K ih =>
      obtain ⟨i1, i2⟩ := ih
      show (∀ j, j < K + 1 → (if pcN (itm Q K) < it (fun k r => if pcN (itm Q k) < r then pcN (itm Q k) else r) K 6 then pcN (itm Q K) else it (fun k r => if pcN (itm Q k) < r then pcN (itm Q k) else r) K 6) ≤ pcN (itm Q j)) ∧ ((if pcN (itm Q K) < it (fun k r => if pcN (itm Q k) < r then pcN (itm Q k) else r) K 6 then pcN (itm Q K) else it (fun k r => if pcN (itm Q k) < r then pcN (itm Q k) else r) K 6) = 6 ∨ ∃ j, j < K + 1 ∧ (if pcN (itm Q K) < it (fun k r => if pcN (itm Q k) < r then pcN (itm Q k) else r) K 6 then pcN (itm Q K) else it (fun k r => if pcN (itm Q k) < r then pcN (itm Q k) else r) K 6) = pcN (itm Q j))
      generalize it (fun k r => if pcN (itm Q k) < r then pcN (itm Q k) else r) K 6 = v at i1 i2 ⊢
      by_cases c : pcN (itm Q K) < v
      · rw [if_pos c]
        refine ⟨fun j hj => ?_, Or.inr ⟨K, by omega, rfl⟩⟩
        rcases Nat.lt_or_ge j K with q | q
        · have := i1 j q
          omega
        · rw [show j = K by omega]
          exact Nat.le_refl _
      · rw [if_neg c]
        refine ⟨fun j hj => ?_, i2.imp id (fun ⟨j, hj, e⟩ => ⟨j, by omega, e⟩)⟩
        rcases Nat.lt_or_ge j K with q | q
        · exact i1 j q
        · rw [show j = K by omega]
          omega
  obtain ⟨l1, l2⟩ := low Q.length
  have hlw : lwN Q = it (fun k r => if pcN (itm Q k) < r then pcN (itm Q k) else r) Q.length 6 := rfl
  rw [← hlw] at l1 l2
  have v12 : ∀ j, j < Q.length → pcN (itm Q j) = 1 ∨ pcN (itm Q j) = 2 := fun j hj => by
    obtain ⟨w, hw, e⟩ := q2 j hj
    rw [e, pc_two _ (hr w a ha) _ (hr w b hb)]
    split
    · exact Or.inl rfl
    · exact Or.inr rfl
  constructor
  · rintro z ⟨w, hw, e⟩
    obtain ⟨j, hj, ej⟩ := hasB_iff.mp (q1 w hw)
    have := l1 j hj
    rw [ej, pc_two _ (hr w a ha) _ (hr w b hb), if_pos e] at this
    omega
  · intro z
    rcases l2 with l2 | ⟨j, hj, l2⟩
    · have := l1 0 hB.1
      have := v12 0 hB.1
      omega
    · rw [l2]
      rcases v12 j hj with v | v
      · exfalso
        obtain ⟨w, hw, e⟩ := q2 j hj
        rw [e, pc_two _ (hr w a ha) _ (hr w b hb)] at v
        by_cases q : runW N lm w a = runW N lm w b
        · exact z ⟨w, hw, q⟩
        · rw [if_neg q] at v
          omega
      · exact v
theorem ap_ref {N L : Nat} {lm : Nat → Nat} : apN N L lm = sm (fun a => sm (fun b => if lwN (QS N L lm (2 ^ a ||| 2 ^ b)) = 2 then 1 else 0) a) N := by
  have inner : ∀ a v K, it (apS N L lm a) K v = v + sm (fun b => if lwN (QS N L lm (2 ^ a ||| 2 ^ b)) = 2 then 1 else 0) K := by
    intro a v K
    induction K with
    | zero => rfl
    | succ K ih =>
      show it (apS N L lm a) K v + (if lwN (QS N L lm (2 ^ a ||| 2 ^ K)) = 2 then 1 else 0) = v + (sm (fun b => if lwN (QS N L lm (2 ^ a ||| 2 ^ b)) = 2 then 1 else 0) K + (if lwN (QS N L lm (2 ^ a ||| 2 ^ K)) = 2 then 1 else 0))
      rw [ih, Nat.add_assoc]
  have outer : ∀ K, it (fun a v => it (apS N L lm a) a v) K 0 = sm (fun a => sm (fun b => if lwN (QS N L lm (2 ^ a ||| 2 ^ b)) = 2 then 1 else 0) a) K := by
    intro K
    induction K with
    | zero => rfl
    | succ K ih =>
      show it (apS N L lm K) K (it (fun a v => it (apS N L lm a) a v) K 0) = _
      rw [inner, ih]
      rfl
  exact outer N
theorem xv_apart {σ : Hp} {a : Sx} (h : XS σ a) : Ct m_P_apart [.ref 0] σ (YX σ a (aeAp a)) := by
  obtain ⟨N, L, lm, s, e⟩ := a
  obtain ⟨M, hM, -⟩ := h.2.2.2.2
  have h0 : 0 < N := by have := h.1.2.1; omega
  have h6 := h.1.2.2.1
  refine (v_P_apart σ h.1 hM).im (fun w τ hr => hr.yx h (fun z hz => hz.trans ?_))
  rw [ap_cls h, ap_ref]
  congr 1
  refine sm_cg (fun a ha => sm_cg (fun b hb => ?_))
  have k1 := mg_bl h ha (show b < N by omega)
  have k2 := lw_two (L := L) (lm := lm) h0 h6 ha (show b < N by omega)
  by_cases q : MgW N L lm a b
  · rw [if_pos (k1.mpr q), if_neg (fun z => k2.mp z q)]
  · rw [if_neg (fun z => q (k1.mp z)), if_pos (k2.mpr q)]
theorem un_apart {z z' : Int32} {a : Sx} (h : aeAp a z) (h' : aeAp a z') : z = z' := h.trans h'.symm
