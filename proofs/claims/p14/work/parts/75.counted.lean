/-! boxes, about, sort: what one counts is what the other counts (pure) -/
section BP
variable {N L : Nat} {lm : Nat → Nat}
theorem sp_1 {Q : BQ} {e l : Nat} (hl : l < L) : spP N L lm Q 1 e l = spP N L lm Q 0 e l := by
  unfold spP
  rw [if_pos (Or.inl rfl), if_pos (Or.inr ⟨rfl, hl⟩)]
theorem sp_2 {Q : BQ} {e l : Nat} : spP N L lm Q 2 e l = spP N L lm Q 0 e (L + l) := by
  unfold spP
  rw [if_neg (show ¬ (2 = 1 ∨ (2 = 0 ∧ l < L)) by omega), if_neg (show ¬ (0 = 1 ∨ (0 = 0 ∧ L + l < L)) by omega), if_pos (show 2 = 2 from rfl), if_neg (show ¬ 0 = 2 by decide), Nat.add_sub_cancel_left]
theorem RQ.to0 {Q : BQ} {kind a b : Nat} (hk : kind = 1 ∨ kind = 2) (h : RQ (spP N L lm Q kind) L a b) : RQ (spP N L lm Q 0) (2 * L) a b := by
  refine h.cl (X := fun x => RQ (spP N L lm Q 0) (2 * L) a x) (fun e he l hl => he.tr ?_) RQ.rf
  rcases hk with rfl | rfl
  · rw [sp_1 hl]; exact RQ.one (by omega)
  · rw [sp_2]; exact RQ.one (by omega)
/-- a right one, a left one and a cell lie in one box -/
theorem NM.b0 {b : Nat → Nat → Nat} {B : Nat → Nat} (h : NM N L lm b B) {j e e' : Nat} (hj : j < 4) (he : e < (EQ N L lm).length) (he' : e' < (EQ N L lm).length) (q : b j e = b j e') : b 0 e = b 0 e' := by
  obtain ⟨-, h2, h3⟩ := h
  have one : b 1 e = b 1 e' → b 0 e = b 0 e' := fun q => by
    obtain ⟨q1, q2⟩ := (h2 1 (by decide) e e' he he').mp q
    exact (h2 0 (by decide) e e' he he').mpr ⟨RQ.to0 (Or.inl rfl) q1, RQ.to0 (Or.inl rfl) q2⟩
  rcases (show j = 0 ∨ j = 1 ∨ j = 2 ∨ j = 3 by omega) with rfl | rfl | rfl | rfl
  · exact q
  · exact one q
  · obtain ⟨q1, q2⟩ := (h2 2 (by decide) e e' he he').mp q
    exact (h2 0 (by decide) e e' he he').mpr ⟨RQ.to0 (Or.inr rfl) q1, RQ.to0 (Or.inr rfl) q2⟩
  · exact one ((h3 e e' he he').mp q).1
/-- a cell has one still one at most -/
theorem NM.one {b : Nat → Nat → Nat} {B : Nat → Nat} (h0 : 0 < N) (hlm : ∀ l, l < L → lm l < N ^ N) (h15 : (EQ N L lm).length ≤ 1500) (h : NM N L lm b B) {e f : Nat} (he : e < (EQ N L lm).length) (hf : f < (EQ N L lm).length) (se : stN N (itm (EQ N L lm) e) = true) (sf : stN N (itm (EQ N L lm) f) = true) (q : b 3 e = b 3 f) : e = f := by
  obtain ⟨-, h2, h3⟩ := h
  obtain ⟨q1, q2⟩ := (h3 e f he hf).mp q
  have r : RQ (spP N L lm (EQ N L lm) 1) L e f := ((h2 1 (by decide) e f he hf).mp q1).1
  have l : RQ (spP N L lm (EQ N L lm) 2) L f e := ((h2 2 (by decide) e f he hf).mp q2).2
  have hc := EQ_cl h15
  have r2 := r.cl (X := fun y => y < (EQ N L lm).length ∧ bN N (itm (EQ N L lm) e) (itm (EQ N L lm) y) = itm (EQ N L lm) y) (fun y hy l hl => by
    have hp := psN_has (hc y l hy.1 hl)
    rw [sp_1 hl]
    have es : spP N L lm (EQ N L lm) 0 y l = psN (EQ N L lm) (stE N lm l (itm (EQ N L lm) y)) := by
      unfold spP
      rw [if_pos (Or.inr ⟨rfl, hl⟩)]
      rfl
    rw [es]
    refine ⟨hp.1, ?_⟩
    rw [hp.2, stE, ← bN_assoc h0, hy.2]) ⟨he, of_decide_eq_true se⟩
  have l2 := l.cl (X := fun y => y < (EQ N L lm).length ∧ bN N (itm (EQ N L lm) y) (itm (EQ N L lm) f) = itm (EQ N L lm) y) (fun y hy l hl => by
    have hp := psN_has (EQ_ah h0 hlm h15 hl y hy.1)
    have es : spP N L lm (EQ N L lm) 2 y l = psN (EQ N L lm) (bN N (lm l) (itm (EQ N L lm) y)) := by
      unfold spP
      rw [if_neg (show ¬ (2 = 1 ∨ (2 = 0 ∧ l < L)) by omega), if_pos (show 2 = 2 from rfl)]
      rfl
    rw [es]
    refine ⟨hp.1, ?_⟩
    rw [hp.2, bN_assoc h0, hy.2]) ⟨hf, of_decide_eq_true sf⟩
  exact EQ_BI.2.2.1 e f he hf (l2.2.symm.trans r2.2)
theorem sm_pos {p : Nat → Prop} [DecidablePred p] : ∀ M, 0 < sm (fun x => if p x then 1 else 0) M ↔ ∃ x, x < M ∧ p x
  | 0 => ⟨fun h => absurd h (Nat.lt_irrefl 0), fun ⟨x, hx, _⟩ => absurd hx (Nat.not_lt_zero x)⟩
  | M + 1 => by
    show 0 < sm (fun x => if p x then 1 else 0) M + (if p M then 1 else 0) ↔ _
    have ih := sm_pos (p := p) M
    by_cases q : p M
    · rw [if_pos q]
      exact ⟨fun _ => ⟨M, Nat.lt_succ_self M, q⟩, fun _ => by omega⟩
    · rw [if_neg q, Nat.add_zero, ih]
      exact ⟨fun ⟨x, hx, h⟩ => ⟨x, by omega, h⟩, fun ⟨x, hx, h⟩ => by
        rcases Nat.lt_or_ge x M with z | z
        · exact ⟨x, z, h⟩
        · obtain rfl : x = M := by omega
          exact absurd h q⟩
theorem sm_all {p : Nat → Prop} [DecidablePred p] : ∀ M, sm (fun x => if p x then 1 else 0) M = M ↔ ∀ x, x < M → p x
  | 0 => ⟨fun _ x hx => absurd hx (Nat.not_lt_zero x), fun _ => rfl⟩
  | M + 1 => by
    show sm (fun x => if p x then 1 else 0) M + (if p M then 1 else 0) = M + 1 ↔ _
    have ih := sm_all (p := p) M
    have hl := sm_le1 (p := p) M
    by_cases q : p M
    · rw [if_pos q]
      constructor
      · intro h x hx
        rcases Nat.lt_or_ge x M with z | z
        · exact ih.mp (by omega) x z
        · obtain rfl : x = M := by omega
          exact q
      · intro h
        rw [ih.mpr (fun x hx => h x (by omega))]
    · rw [if_neg q]
      exact ⟨fun h => by omega, fun h => absurd (h M (Nat.lt_succ_self M)) q⟩
/-- what the reference's names hold -/
theorem inF_1 {Q : BQ} {b bk : Nat → Nat} {i : Option Nat} {s : Bool} : ∀ K x, (inF N Q b bk i s K).1 x = true ↔ ∃ e, e < K ∧ ((i = none ∨ i = some (b e)) ∧ (s = true → stN N (itm Q e) = true)) ∧ bk e = x
  | 0, x => ⟨fun h => absurd h (by show ¬ false = true; decide), fun ⟨e, he, _⟩ => absurd he (Nat.not_lt_zero e)⟩
  | K + 1, x => by
    have ih := inF_1 (Q := Q) (b := b) (bk := bk) (i := i) (s := s) K
    show (inS N Q b bk i s K (inF N Q b bk i s K)).1 x = true ↔ _
    have old : (∃ e, e < K ∧ ((i = none ∨ i = some (b e)) ∧ (s = true → stN N (itm Q e) = true)) ∧ bk e = x) → ∃ e, e < K + 1 ∧ ((i = none ∨ i = some (b e)) ∧ (s = true → stN N (itm Q e) = true)) ∧ bk e = x := fun ⟨e, he, h⟩ => ⟨e, by omega, h⟩
    unfold inS
    split
    · rename_i q
      show fu (inF N Q b bk i s K).1 (bk K) true x = true ↔ _
      by_cases z : x = bk K
      · rw [z, fu_eq]
        exact ⟨fun _ => ⟨K, Nat.lt_succ_self K, q.1, rfl⟩, fun _ => rfl⟩
      · rw [fu_ne z]
        refine (ih x).trans ⟨old, fun ⟨e, he, h⟩ => ?_⟩
        rcases Nat.lt_or_ge e K with y | y
        · exact ⟨e, y, h⟩
        · obtain rfl : e = K := by omega
          exact absurd h.2.symm z
    · rename_i q
      refine (ih x).trans ⟨old, fun ⟨e, he, h⟩ => ?_⟩
      rcases Nat.lt_or_ge e K with y | y
      · exact ⟨e, y, h⟩
      · obtain rfl : e = K := by omega
        cases w : (inF N Q b bk i s e).1 (bk e) with
        | true =>
          rw [h.2] at w
          exact (ih x).mp w
        | false => exact absurd ⟨h.1, w⟩ q
/-- how many they are -/
theorem inF_2 {Q : BQ} {b bk : Nat → Nat} {i : Option Nat} {s : Bool} {B : Nat} : ∀ K, (∀ e, e < K → bk e < B) → (inF N Q b bk i s K).2 = sm (fun x => if (inF N Q b bk i s K).1 x = true then 1 else 0) B
  | 0, _ => (sm_0 B).symm
  | K + 1, hb => by
    have ih := inF_2 (Q := Q) (b := b) (bk := bk) (i := i) (s := s) K (fun e he => hb e (by omega))
    show (inS N Q b bk i s K (inF N Q b bk i s K)).2 = sm (fun x => if (inS N Q b bk i s K (inF N Q b bk i s K)).1 x = true then 1 else 0) B
    unfold inS
    split
    · rename_i q
      show (inF N Q b bk i s K).2 + 1 = sm (fun x => if fu (inF N Q b bk i s K).1 (bk K) true x = true then 1 else 0) B
      have := sm_upd (F := fun x => if (inF N Q b bk i s K).1 x = true then 1 else 0) (G := fun x => if fu (inF N Q b bk i s K).1 (bk K) true x = true then 1 else 0) (c := bk K) B (hb K (Nat.lt_succ_self K)) (fun e _ hne => by
        try dsimp only
        rw [fu_ne hne])
      try dsimp only at this
      rw [fu_eq, q.2, if_pos rfl, if_neg (by decide)] at this
      omega
    · exact ih
/-- how many they are, if no two have one name -/
theorem inF_3 {Q : BQ} {b bk : Nat → Nat} {i : Option Nat} {s : Bool} : ∀ K, (∀ e f, e < K → f < K → ((i = none ∨ i = some (b e)) ∧ (s = true → stN N (itm Q e) = true)) → ((i = none ∨ i = some (b f)) ∧ (s = true → stN N (itm Q f) = true)) → bk e = bk f → e = f) → (inF N Q b bk i s K).2 = sm (fun e => if (i = none ∨ i = some (b e)) ∧ (s = true → stN N (itm Q e) = true) then 1 else 0) K
  | 0, _ => rfl
  | K + 1, hb => by
    have ih := inF_3 (Q := Q) (b := b) (bk := bk) (i := i) (s := s) K (fun e f he hf => hb e f (by omega) (by omega))
    show (inS N Q b bk i s K (inF N Q b bk i s K)).2 = sm (fun e => if (i = none ∨ i = some (b e)) ∧ (s = true → stN N (itm Q e) = true) then 1 else 0) K + (if (i = none ∨ i = some (b K)) ∧ (s = true → stN N (itm Q K) = true) then 1 else 0)
    unfold inS
    split
    · rename_i q
      rw [if_pos q.1, ← ih]
    · rename_i q
      have : ¬ ((i = none ∨ i = some (b K)) ∧ (s = true → stN N (itm Q K) = true)) := fun c => by
        cases w : (inF N Q b bk i s K).1 (bk K) with
        | true =>
          obtain ⟨e, he, h1, h2⟩ := (inF_1 K _).mp w
          have := hb e K (by omega) (by omega) h1 c h2
          omega
        | false => exact q ⟨c, w⟩
      rw [if_neg this, ← ih]
      rfl
/-- boxes with a still one -/
theorem inF_reg {b : Nat → Nat} {B M : Nat} (hb : ∀ e, e < M → b e < B) {Q : BQ} : (inF N Q b b none true M).2 = sm (fun i => if 0 < stI b (fun e => stN N (itm Q e)) M i then 1 else 0) B := by
  rw [inF_2 M hb]
  refine sm_cg (fun x hx => ?_)
  have e1 := inF_1 (N := N) (Q := Q) (b := b) (bk := b) (i := none) (s := true) M x
  have e2 := sm_pos (p := fun e => b e = x ∧ stN N (itm Q e) = true) M
  have e3 : (inF N Q b b none true M).1 x = true ↔ 0 < stI b (fun e => stN N (itm Q e)) M x :=
    e1.trans (Iff.trans ⟨fun ⟨e, he, h1, h2⟩ => ⟨e, he, h2, h1.2 rfl⟩, fun ⟨e, he, h1, h2⟩ => ⟨e, he, ⟨Or.inl rfl, fun _ => h2⟩, h1⟩⟩ e2.symm)
  by_cases q : 0 < stI b (fun e => stN N (itm Q e)) M x
  · rw [if_pos q, if_pos (e3.mpr q)]
  · rw [if_neg q, if_neg (fun z => q (e3.mp z))]
/-- right ones, left ones, cells of a box, each told by its least -/
theorem inF_in {b b0 l : Nat → Nat} {B M i : Nat} {Q : BQ} (hb : ∀ e, e < M → b e < B) (h0 : ∀ e e', e < M → e' < M → b e = b e' → b0 e = b0 e') (hl : ∀ x, x < B → l x < M ∧ b (l x) = x) : (inF N Q b0 b (some i) false M).2 = sm (fun j => if b0 (l j) = i then 1 else 0) B := by
  rw [inF_2 M hb]
  refine sm_cg (fun x hx => ?_)
  have e1 := inF_1 (N := N) (Q := Q) (b := b0) (bk := b) (i := some i) (s := false) M x
  have e3 : (inF N Q b0 b (some i) false M).1 x = true ↔ b0 (l x) = i := e1.trans ⟨fun ⟨e, he, h1, h2⟩ => by
    obtain ⟨l1, l2⟩ := hl x hx
    have := h0 e (l x) he l1 (h2.trans l2.symm)
    rcases h1.1 with z | z
    · cases z
    · rw [← this]
      exact (Option.some.inj z).symm, fun h => ⟨l x, (hl x hx).1, ⟨Or.inr (by rw [h]), fun z => by cases z⟩, (hl x hx).2⟩⟩
  by_cases q : b0 (l x) = i
  · rw [if_pos q, if_pos (e3.mpr q)]
  · rw [if_neg q, if_neg (fun z => q (e3.mp z))]
/-- groups of a box: as many as still ones -/
theorem NM.five {b : Nat → Nat → Nat} {B : Nat → Nat} (h0 : 0 < N) (hlm : ∀ l, l < L → lm l < N ^ N) (h15 : (EQ N L lm).length ≤ 1500) (h : NM N L lm b B) (i : Nat) : (inF N (EQ N L lm) (b 0) (b 3) (some i) true (EQ N L lm).length).2 = stI (b 0) (fun e => stN N (itm (EQ N L lm) e)) (EQ N L lm).length i := by
  rw [inF_3 _ (fun e f he hf ce cf q => h.one h0 hlm h15 he hf (ce.2 rfl) (cf.2 rfl) q)]
  unfold stI
  refine sm_cg (fun e he => ?_)
  by_cases q : b 0 e = i ∧ stN N (itm (EQ N L lm) e) = true
  · rw [if_pos q, if_pos ⟨Or.inr (by rw [q.1]), fun _ => q.2⟩]
  · rw [if_neg q, if_neg (fun z => q ⟨by
      rcases z.1 with y | y
      · cases y
      · exact (Option.some.inj y).symm, z.2 rfl⟩)]
theorem NM.all5 {b : Nat → Nat → Nat} {B : Nat → Nat} (h0 : 0 < N) (hlm : ∀ l, l < L → lm l < N ^ N) (h15 : (EQ N L lm).length ≤ 1500) (h : NM N L lm b B) : (inF N (EQ N L lm) (b 0) (b 3) none true (EQ N L lm).length).2 = elN N L lm 1 (EQ N L lm).length := by
  rw [inF_3 _ (fun e f he hf ce cf q => h.one h0 hlm h15 he hf (ce.2 rfl) (cf.2 rfl) q), elN_sm (by decide)]
  refine sm_cg (fun e he => ?_)
  by_cases q : stN N (itm (EQ N L lm) e) = true
  · rw [if_pos ⟨Or.inl rfl, fun _ => q⟩, if_pos (Or.inr (Or.inl ⟨rfl, q⟩))]
  · rw [if_neg (fun z => q (z.2 rfl)), if_neg (fun z => by
      rcases z with z | z | z
      · exact absurd z (by decide)
      · exact q z.2
      · exact absurd z.1 (by decide))]
theorem rg_st {b : Nat → Nat} {M i : Nat} {Q : BQ} : rgF N Q b i M = true ↔ 0 < stI b (fun e => stN N (itm Q e)) M i := by
  rw [rgF, List.any_eq_true]
  refine Iff.trans ⟨fun ⟨e, he, h⟩ => ?_, fun ⟨e, he, h⟩ => ?_⟩ (sm_pos (p := fun e => b e = i ∧ stN N (itm Q e) = true) M).symm
  · rw [Bool.and_eq_true, decide_eq_true_eq] at h
    exact ⟨e, List.mem_range.mp he, h⟩
  · exact ⟨e, List.mem_range.mpr he, by rw [Bool.and_eq_true, decide_eq_true_eq]; exact h⟩
/-- letters go together: all elements are central -/
theorem all_ce (h0 : 0 < N) (hlm : ∀ l, l < L → lm l < N ^ N) (h15 : (EQ N L lm).length ≤ 1500) : elN N L lm 2 (EQ N L lm).length = (EQ N L lm).length ↔ (List.range L).all (fun a => slB N lm a) = true := by
  have hc := EQ_cl h15
  have hI := EQ_BI (N := N) (L := L) (lm := lm)
  have ce : ∀ e, e < (EQ N L lm).length → (ceN N L lm (EQ N L lm) e = true ↔ ∀ l, l < L → bN N (itm (EQ N L lm) e) (lm l) = bN N (lm l) (itm (EQ N L lm) e)) := fun e he => by
    rw [ceN, List.all_eq_true]
    constructor
    · exact fun h l hl => (psN_eq (hc e l he hl) (EQ_ah h0 hlm h15 hl e he)).mp (of_decide_eq_true (h l (List.mem_range.mpr hl)))
    · exact fun h l hl => decide_eq_true ((psN_eq (hc e l he (List.mem_range.mp hl)) (EQ_ah h0 hlm h15 (List.mem_range.mp hl) e he)).mpr (h l (List.mem_range.mp hl)))
  have es : elN N L lm 2 (EQ N L lm).length = sm (fun e => if ceN N L lm (EQ N L lm) e = true then 1 else 0) (EQ N L lm).length := by
    rw [elN_sm (by decide)]
    refine sm_cg (fun e he => ?_)
    by_cases q : ceN N L lm (EQ N L lm) e = true
    · rw [if_pos q, if_pos (Or.inr (Or.inr ⟨rfl, q⟩))]
    · rw [if_neg q, if_neg (fun z => by
        rcases z with z | z | z
        · exact absurd z (by decide)
        · exact absurd z.1 (by decide)
        · exact q z.2)]
  rw [es, sm_all (p := fun e => ceN N L lm (EQ N L lm) e = true), List.all_eq_true]
  constructor
  · intro h a ha
    rw [slB, List.all_eq_true]
    intro c hcr
    have ha := List.mem_range.mp ha
    have hca := List.mem_range.mp hcr
    have hp := psN_has (hc 0 a hI.1 ha)
    have ep : stE N lm a (itm (EQ N L lm) 0) = lm a := by
      rw [hI.2.1.1, stE, bN_id h0 (hlm a ha)]
    have := (ce _ hp.1).mp (h _ hp.1) c (by omega)
    rw [hp.2, ep] at this
    exact decide_eq_true this
  · intro h
    have cm : ∀ a c, a < L → c < L → bN N (lm a) (lm c) = bN N (lm c) (lm a) := by
      have one : ∀ a c, a < L → c < a → bN N (lm a) (lm c) = bN N (lm c) (lm a) := fun a c ha hca => by
        have := h a (List.mem_range.mpr ha)
        rw [slB, List.all_eq_true] at this
        exact of_decide_eq_true (this c (List.mem_range.mpr hca))
      intro a c ha hcc
      rcases (show c < a ∨ c = a ∨ a < c by omega) with q | q | q
      · exact one a c ha q
      · rw [q]
      · exact (one c a hcc q).symm
    intro e
    induction e using Nat.strongRecOn with
    | _ e ih =>
      intro he
      rw [ce e he]
      intro l hl
      rcases Nat.eq_zero_or_pos e with rfl | q
      · rw [hI.2.1.1, bN_id h0 (hlm l hl), bN_id2 h0 (hlm l hl)]
      · obtain ⟨a1, a2, a3⟩ := hI.2.2.2 e q he
        have ip := (ce _ (by omega)).mp (ih _ a1 (by omega)) l hl
        rw [a3, stE, bN_assoc h0, cm _ _ a2 hl, ← bN_assoc h0, ip, bN_assoc h0]
theorem EL.sc {σ : Hp} (h0 : 0 < N) (h6 : N ≤ 6) (hE : EL σ N L lm) : scB σ N (EQ N L lm).length = (List.range (EQ N L lm).length).all (fun a => scN N (EQ N L lm) a) := by
  rw [Bool.eq_iff_iff, scB_iff, List.all_eq_true]
  have cm : ∀ e f, e < (EQ N L lm).length → f < (EQ N L lm).length → (ahF (σ.1 4 e) (σ.1 4 f) N = ahF (σ.1 4 f) (σ.1 4 e) N ↔ cmB N (itm (EQ N L lm) e) (itm (EQ N L lm) f) = true) := fun e f he hf => by
    rw [hE.at he, hE.at hf, ah_mp h0 h6, ah_mp h0 h6, mp_eq h0 h6 (bN_lt h0) (bN_lt h0), cmB, decide_eq_true_iff]
  constructor
  · intro h a ha
    have ha := List.mem_range.mp ha
    unfold scN
    cases sa : stN N (itm (EQ N L lm) a) with
    | false => rfl
    | true =>
      rw [Bool.not_true, Bool.false_or, List.all_eq_true]
      intro c hc
      have hc := List.mem_range.mp hc
      unfold coB
      cases sc : stN N (itm (EQ N L lm) c) with
      | false => rfl
      | true =>
        rw [Bool.not_true, Bool.false_or]
        exact (cm a c ha (by omega)).mp (cwB_iff.mp (h a ha ((hE.st h0 h6 ha).mpr sa)) c hc ((hE.st h0 h6 (by omega)).mpr sc))
  · intro h e he se
    have := h e (List.mem_range.mpr he)
    rw [scN, (hE.st h0 h6 he).mp se, Bool.not_true, Bool.false_or, List.all_eq_true] at this
    refine cwB_iff.mpr (fun f hf sf => ?_)
    have := this f (List.mem_range.mpr hf)
    rw [coB, (hE.st h0 h6 (by omega)).mp sf, Bool.not_true, Bool.false_or] at this
    exact (cm e f he (by omega)).mpr this
end BP
