/-! what an element does with the heaps of the least machine (pure) -/
theorem runW_app {N : Nat} {lm : Nat → Nat} : ∀ (v w : List Nat) (i : Nat), runW N lm (v ++ w) i = runW N lm w (runW N lm v i)
  | [], _, _ => rfl
  | k :: v, w, i => runW_app v w (gN N (lm k) i)
theorem okW.app {L : Nat} {v w : List Nat} (h : okW L v) (h' : okW L w) : okW L (v ++ w) := fun k hk => (List.mem_append.mp hk).elim (h k) (h' k)
theorem EqM.rf {N L e i : Nat} {lm : Nat → Nat} : EqM N L lm e i i := fun _ _ => rfl
theorem EqM.sy {N L e i j : Nat} {lm : Nat → Nat} (h : EqM N L lm e i j) : EqM N L lm e j i := fun w hw => (h w hw).symm
theorem EqM.tr {N L e i j k : Nat} {lm : Nat → Nat} (h : EqM N L lm e i j) (h' : EqM N L lm e j k) : EqM N L lm e i k := fun w hw => (h w hw).trans (h' w hw)
theorem EqM.run {N L e i j : Nat} {lm : Nat → Nat} (h : EqM N L lm e i j) {w : List Nat} (hw : okW L w) : EqM N L lm e (runW N lm w i) (runW N lm w j) := fun v hv => by
  rw [← runW_app, ← runW_app]
  exact h _ (hw.app hv)
/-- a map that some word is -/
def Wd (N L : Nat) (lm : Nat → Nat) (x : Nat) : Prop := ∃ w, okW L w ∧ ∀ i, i < N → gN N x i = runW N lm w i
theorem EQ_Wd {N L : Nat} {lm : Nat → Nat} (h0 : 0 < N) : ∀ j, j < (EQ N L lm).length → Wd N L lm (itm (EQ N L lm) j) := by
  have hI := EQ_BI (N := N) (L := L) (lm := lm)
  intro j
  induction j using Nat.strongRecOn with
  | _ j ih =>
    intro hj
    rcases Nat.eq_zero_or_pos j with rfl | q
    · exact ⟨[], (fun k hk => by cases hk), fun i hi => by rw [hI.2.1.1]; exact idN_dig hi⟩
    · obtain ⟨a1, a2, a3⟩ := hI.2.2.2 j q hj
      obtain ⟨w, hw, e⟩ := ih _ a1 (by omega)
      refine ⟨w ++ [ltr (EQ N L lm) j], hw.app (fun k hk => by rw [List.mem_singleton.mp hk]; exact a2), fun i hi => ?_⟩
      rw [a3, stE, bN_dig hi, e i hi, runW_app]
      rfl
/-- the states that come are closed -/
def CTs (N L : Nat) (lm : Nat → Nat) (T : Nat) : Prop := ∀ i k, i < N → k < L → eb T i = 1 → eb T (gN N (lm k) i) = 1
theorem rc_CT {N L s : Nat} {lm : Nat → Nat} (h0 : 0 < N) (hs : s < N) : CTs N L lm (it (fun _ S => rcS N L lm S) N (2 ^ s)) := by
  have hf := rc_fix (L := L) (lm := lm) h0 hs
  generalize it (fun _ S => rcS N L lm S) N (2 ^ s) = T at hf ⊢
  intro i k hi hk hb
  have e1 : eb (it (fun l S => S ||| imN N (lm l) S) (k + 1) T) (gN N (lm k) i) = 1 := by
    show eb (it (fun l S => S ||| imN N (lm l) S) k T ||| imN N (lm k) (it (fun l S => S ||| imN N (lm l) S) k T)) (gN N (lm k) i) = 1
    refine or_eb.mpr (Or.inr ?_)
    exact (im_eb N _).mpr ⟨i, hi, rc_sub k i hb, rfl⟩
  have e2 : ∀ d, eb (it (fun l S => S ||| imN N (lm l) S) (k + 1 + d) T) (gN N (lm k) i) = 1 := by
    intro d
    induction d with
    | zero => exact e1
    | succ d ih => exact or_eb.mpr (Or.inl ih)
  have e3 := e2 (L - (k + 1))
  rw [show k + 1 + (L - (k + 1)) = L by omega] at e3
  have e4 : it (fun l S => S ||| imN N (lm l) S) L T = T := hf
  rwa [e4] at e3
theorem CTs.run {N L T : Nat} {lm : Nat → Nat} (h0 : 0 < N) (h : CTs N L lm T) : ∀ (w : List Nat) (i : Nat), okW L w → i < N → eb T i = 1 → eb T (runW N lm w i) = 1
  | [], _, _, _, hb => hb
  | k :: w, i, hw, hi, hb => h.run h0 w _ hw.tail.2 (gN_lt h0) (h i k hi hw.tail.1 hb)
/-- the least state alike; 7, where none comes -/
def HFn (T : Nat) (m : Int64) (i : Nat) : Nat := if eb T i = 1 then sr (fun l => alB (nI l) (nI i) (nI T) m = true) i 0 else 7
theorem HFn_8 {T N : Nat} {m : Int64} (h6 : N ≤ 6) : D8 N (HFn T m) := fun i hi => by
  unfold HFn
  have := sr_le (fun l => alB (nI l) (nI i) (nI T) m = true) i 0
  split <;> omega
theorem lm_HF {T N : Nat} {m : Int64} (h6 : N ≤ 6) (hT : T < 2 ^ N) : ∀ K, K ≤ N → it (lmS (nI T) m) K 0 = Oc K (HFn T m)
  | 0, _ => rfl
  | K + 1, hK => by
    have h26 := pow2_le6 h6
    have hb := bt_nI (S := T) (i := K) (by omega) (by omega)
    have h01 := eb_01 T K
    have e1 : hoF K (nI T) m = nI (HFn T m K) := by
      unfold hoF HFn
      rw [hb]
      by_cases q : eb T K = 1
      · rw [if_pos q, if_neg (fun z => by
          have z : nI (eb T K) = nI 0 := z
          rw [nI_eq (by omega) (by decide)] at z
          omega)]
      · have q0 : T / 2 ^ K % 2 = 0 := (show eb T K = 0 by omega)
        rw [if_neg q, if_pos (by rw [q0]; rfl)]
        rfl
    show uF (it (lmS (nI T) m) K 0) (nI K) (hoF K (nI T) m) = _
    rw [lm_HF h6 hT K (by omega), e1, uF_add (by omega) (fun i hi => HFn_8 h6 i (by omega)) (HFn_8 h6 K (by omega))]
    exact Oc_ext (fun i hi => by
      try dsimp only
      split
      · rename_i q; rw [q]
      · rfl)
section HF
variable {σ : Hp} {N L s e T : Nat} {lm : Nat → Nat}
theorem al_EqM (h : XS σ (N, L, lm, s, e)) (hT : T < 2 ^ N) {l i : Nat} (hl : l < N) (hi : i < N) : alB (nI l) (nI i) (nI T) (ldF σ N L (ueF (nI e) N)) = true ↔ eb T l = 1 ∧ EqM N L lm e l i := by
  have h6 := h.1.2.2.1
  have h26 := pow2_le6 h6
  rw [alB, Bool.and_eq_true, iB_eb (by omega) (by omega), decide_eq_true_eq, pr_nI, bZ_bl (by omega)]
  have := pt_EqM h hl hi
  cases q : bl (ldF σ N L (ueF (nI e) N)) (8 * l + i) with
  | true => rw [q] at this; exact ⟨fun z => by simp at z, fun z => absurd z.2 (this.mp rfl)⟩
  | false =>
    rw [q] at this
    refine ⟨fun z => ⟨z.1, Classical.byContradiction fun q2 => ?_⟩, fun z => ⟨z.1, rfl⟩⟩
    exact absurd (this.mpr q2) (by decide)
/-- the heaps' least states -/
def HX (σ : Hp) (N L e T : Nat) : Nat → Nat := HFn T (ldF σ N L (ueF (nI e) N))
theorem HX_in (h : XS σ (N, L, lm, s, e)) (hT : T < 2 ^ N) {i : Nat} (hi : i < N) (hb : eb T i = 1) : HX σ N L e T i < N ∧ eb T (HX σ N L e T i) = 1 ∧ EqM N L lm e (HX σ N L e T i) i ∧ ∀ l, l < HX σ N L e T i → ¬ (eb T l = 1 ∧ EqM N L lm e l i) := by
  have hle := sr_le (fun l => alB (nI l) (nI i) (nI T) (ldF σ N L (ueF (nI e) N)) = true) i 0
  have hd : HX σ N L e T i = sr (fun l => alB (nI l) (nI i) (nI T) (ldF σ N L (ueF (nI e) N)) = true) i 0 := if_pos hb
  rw [hd]
  refine ⟨by omega, ?_⟩
  have least : ∀ l, l < sr (fun l => alB (nI l) (nI i) (nI T) (ldF σ N L (ueF (nI e) N)) = true) i 0 → ¬ (eb T l = 1 ∧ EqM N L lm e l i) := fun l hl q => by
    obtain ⟨c, c1, c2⟩ := pk_least (fun l => alB (nI l) (nI i) (nI T) (ldF σ N L (ueF (nI e) N)) = true) ⟨l, (al_EqM h hT (by omega) hi).mpr q⟩
    have hcl : c ≤ l := by
      rcases Nat.lt_or_ge l c with y | y
      · exact absurd ((al_EqM h hT (by omega) hi).mpr q) (c2 l y)
      · exact y
    have := sr_first (p := fun l => alB (nI l) (nI i) (nI T) (ldF σ N L (ueF (nI e) N)) = true) (n := i) (fun j hj => c2 j hj) c1 (by omega)
    omega
  rcases Nat.lt_or_ge (sr (fun l => alB (nI l) (nI i) (nI T) (ldF σ N L (ueF (nI e) N)) = true) i 0) i with q | q
  · have := (al_EqM h hT (by omega) hi).mp (sr_at (p := fun l => alB (nI l) (nI i) (nI T) (ldF σ N L (ueF (nI e) N)) = true) i 0 (by omega))
    exact ⟨this.1, this.2, least⟩
  · have : sr (fun l => alB (nI l) (nI i) (nI T) (ldF σ N L (ueF (nI e) N)) = true) i 0 = i := by omega
    rw [this] at least ⊢
    exact ⟨hb, EqM.rf, least⟩
theorem HX_eq (h : XS σ (N, L, lm, s, e)) (hT : T < 2 ^ N) {i j : Nat} (hi : i < N) (hj : j < N) (bi : eb T i = 1) (bj : eb T j = 1) : HX σ N L e T i = HX σ N L e T j ↔ EqM N L lm e i j := by
  obtain ⟨i1, i2, i3, i4⟩ := HX_in h hT hi bi
  obtain ⟨j1, j2, j3, j4⟩ := HX_in h hT hj bj
  constructor
  · intro z
    rw [← z] at j3
    exact i3.sy.tr j3
  · intro z
    rcases Nat.lt_trichotomy (HX σ N L e T i) (HX σ N L e T j) with q | q | q
    · exact absurd ⟨i2, i3.tr z⟩ (j4 _ q)
    · exact q
    · exact absurd ⟨j2, j3.tr z.sy⟩ (i4 _ q)
theorem HX_fs (h : XS σ (N, L, lm, s, e)) (hT : T < 2 ^ N) {i : Nat} (hi : i < N) : HX σ N L e T i = i ↔ fsP N L lm e T i := by
  constructor
  · intro z
    have hb : eb T i = 1 := Classical.byContradiction fun q => by
      have : HX σ N L e T i = 7 := if_neg q
      have := h.1.2.2.1
      omega
    obtain ⟨-, -, -, i4⟩ := HX_in h hT hi hb
    exact ⟨hb, fun l hl c d => i4 l (by omega) ⟨c, d⟩⟩
  · rintro ⟨hb, hn⟩
    obtain ⟨i1, i2, i3, i4⟩ := HX_in h hT hi hb
    rcases Nat.lt_trichotomy (HX σ N L e T i) i with q | q | q
    · exact absurd i3 (hn _ q i2)
    · exact q
    · exact absurd ⟨hb, EqM.rf⟩ (i4 _ q)
/-- what a map does with the heaps, as a map -/
def Gf (N : Nat) (H : Nat → Nat) (x i : Nat) : Nat := if H i = i then H (gN N x i) else i
def Gn (N : Nat) (H : Nat → Nat) (x : Nat) : Nat := hzN N (Gf N H x)
/-- heaps are led to heaps -/
def HGo (N : Nat) (H : Nat → Nat) (x : Nat) : Prop := ∀ i, i < N → H i = i → H (gN N x i) < N
theorem Gf_lt {H : Nat → Nat} {x : Nat} (h : HGo N H x) : ∀ i, i < N → Gf N H x i < N := fun i hi => by
  unfold Gf
  by_cases q : H i = i
  · rw [if_pos q]
    exact h i hi q
  · rw [if_neg q]
    exact hi
theorem Gn_lt {H : Nat → Nat} {x : Nat} (h : HGo N H x) : Gn N H x < N ^ N := hzN_lt (Gf_lt h)
theorem Gn_dig {H : Nat → Nat} {x i : Nat} (h : HGo N H x) (hi : i < N) : gN N (Gn N H x) i = Gf N H x i := hzN_dig (Gf_lt h) hi
theorem mg_mp {H : Nat → Nat} {x : Nat} (h0 : 0 < N) (h6 : N ≤ 6) (h8 : D8 N H) (h : HGo N H x) : mgF (nI (mpN N x)) (Oc N H) N = nI (mpN N (Gn N H x)) := by
  have key : ∀ K, K ≤ N → it (mgS (nI (mpN N x)) (Oc N H)) K (noF N) = Oc N (fun i => if i < K then Gf N H x i else i) := by
    intro K
    induction K with
    | zero =>
      intro _
      show noF N = _
      rw [noF_Oc h6]
      exact Oc_ext (fun i hi => (if_neg (Nat.not_lt_zero i)).symm)
    | succ K ih =>
      intro hK
      have hg : gF (nI (mpN N x)) (nI K) = nI (gN N x K) := gF_at (f := gN N x) h6 (gN8 h0 h6) (by omega)
      have hk := h8 K (by omega)
      have hgl := gN_lt (N := N) (m := x) (i := K) h0
      have hD : D8 N (fun i => if i < K then Gf N H x i else i) := fun i hi => by
        have := Gf_lt h i hi
        try dsimp only
        split <;> omega
      have cond : gF (Oc N H) (nI K) = nI K ↔ H K = K := by rw [gF_at h6 h8 (by omega), nI_eq (by omega) (by omega)]
      show mgS (nI (mpN N x)) (Oc N H) K (it (mgS (nI (mpN N x)) (Oc N H)) K (noF N)) = _
      rw [ih (by omega), mgS]
      by_cases q : H K = K
      · rw [if_pos (cond.mpr q), hg, gF_at h6 h8 hgl, uF_Oc h6 hD (by omega) (h8 _ hgl)]
        refine Oc_ext (fun i hi => ?_)
        try dsimp only
        by_cases q2 : i = K
        · rw [if_pos q2, if_pos (by omega), q2, Gf, if_pos q]
        · rw [if_neg q2]
          by_cases q3 : i < K
          · rw [if_pos q3, if_pos (by omega)]
          · rw [if_neg q3, if_neg (by omega)]
      · rw [if_neg (fun z => q (cond.mp z))]
        refine Oc_ext (fun i hi => ?_)
        try dsimp only
        by_cases q2 : i = K
        · rw [q2, if_neg (Nat.lt_irrefl K), if_pos (Nat.lt_succ_self K), Gf, if_neg q]
        · by_cases q3 : i < K
          · rw [if_pos q3, if_pos (by omega)]
          · rw [if_neg q3, if_neg (by omega)]
  rw [mgF, key N (Nat.le_refl _)]
  exact Oc_ext (fun i hi => by
    try dsimp only
    rw [if_pos hi]
    exact (Gn_dig h hi).symm)
theorem base6 {d d' : Nat → Nat} : ∀ K, (∀ i, i < K → d i < 6 ∧ d' i < 6) → (it (fun i v => 6 * v + d i) K 0 = it (fun i v => 6 * v + d' i) K 0 ↔ ∀ i, i < K → d i = d' i)
  | 0, _ => ⟨fun _ i hi => absurd hi (Nat.not_lt_zero i), fun _ => rfl⟩
  | K + 1, h => by
    have ih := base6 K (fun i hi => h i (by omega))
    have hk := h K (by omega)
    show 6 * it (fun i v => 6 * v + d i) K 0 + d K = 6 * it (fun i v => 6 * v + d' i) K 0 + d' K ↔ _
    constructor
    · intro z i hi
      rcases Nat.lt_or_ge i K with q | q
      · exact ih.mp (by omega) i q
      · rw [show i = K by omega]
        omega
    · intro z
      rw [ih.mpr (fun i hi => z i (by omega)), z K (by omega)]
theorem fi_fs (h0 : 0 < N) (h6 : N ≤ 6) {i : Nat} (hi : i < N) : fiP T (alH N L lm e (six N)) i = true ↔ fsP N L lm e T i := by
  rw [fiP, Bool.and_eq_true, decide_eq_true_eq, List.all_eq_true, six_eq]
  constructor
  · rintro ⟨a, b⟩
    refine ⟨a, fun l hl c d => ?_⟩
    have := of_decide_eq_true (b l (List.mem_range.mpr hl))
    have c : T / 2 ^ l % 2 = 1 := c
    rcases this with z | z
    · omega
    · exact z ((aH_6 h0 h6 (by omega) hi).mpr d)
  · rintro ⟨a, b⟩
    refine ⟨a, fun l hl => decide_eq_true ?_⟩
    have hl := List.mem_range.mp hl
    by_cases q : eb T l = 1
    · exact Or.inr (fun z => b l hl q ((aH_6 h0 h6 (by omega) hi).mp z))
    · have := eb_01 T l
      exact Or.inl (show eb T l = 0 by omega)
/-- an element leads heaps to heaps -/
theorem HX_go (h : XS σ (N, L, lm, s, e)) (hT : T < 2 ^ N) (hC : CTs N L lm T) {x : Nat} (hx : Wd N L lm x) : HGo N (HX σ N L e T) x := fun i hi hH => by
  have h0 : 0 < N := by omega
  obtain ⟨w, hw, e1⟩ := hx
  have hb := ((HX_fs h hT hi).mp hH).1
  have hb2 := hC.run h0 w i hw hi hb
  rw [e1 i hi]
  exact (HX_in h hT (runW_lt h0 w i hi) hb2).1
/-- two elements do the same with the heaps -/
theorem Gn_mg (h : XS σ (N, L, lm, s, e)) (hT : T < 2 ^ N) (hC : CTs N L lm T) {x y : Nat} (hx : Wd N L lm x) (hy : Wd N L lm y) : Gn N (HX σ N L e T) x = Gn N (HX σ N L e T) y ↔ mgN N T (alH N L lm e (six N)) x = mgN N T (alH N L lm e (six N)) y := by
  have h0 : 0 < N := by have := h.1.2.1; omega
  have h6 := h.1.2.2.1
  have gx := HX_go h hT hC hx
  have gy := HX_go h hT hC hy
  have hl : ∀ i, i < N → alH N L lm e (six N) i < 6 := fun i hi => by have := alH6_lt (N := N) (L := L) (e := e) (lm := lm) i hi; omega
  have dl : ∀ (x i : Nat), (if fiP T (alH N L lm e (six N)) i = true then alH N L lm e (six N) (gN N x i) else 0) < 6 := fun x i => by
    have := hl _ (gN_lt (N := N) (m := x) (i := i) h0)
    split <;> omega
  have at_ : ∀ i, i < N → fsP N L lm e T i → (HX σ N L e T (gN N x i) = HX σ N L e T (gN N y i) ↔ alH N L lm e (six N) (gN N x i) = alH N L lm e (six N) (gN N y i)) := fun i hi hf => by
    obtain ⟨w, hw, e1⟩ := hx
    obtain ⟨v, hv, e2⟩ := hy
    rw [six_eq, aH_6 h0 h6 (gN_lt h0) (gN_lt h0), e1 i hi, e2 i hi]
    exact HX_eq h hT (runW_lt h0 w i hi) (runW_lt h0 v i hi) (hC.run h0 w i hw hi hf.1) (hC.run h0 v i hv hi hf.1)
  unfold mgN
  rw [base6 N (fun i _ => ⟨dl x i, dl y i⟩)]
  constructor
  · intro z i hi
    by_cases q : fsP N L lm e T i
    · rw [if_pos ((fi_fs h0 h6 hi).mpr q), if_pos ((fi_fs h0 h6 hi).mpr q)]
      have := Gn_dig gx hi
      rw [z, Gn_dig gy hi, Gf, Gf, if_pos ((HX_fs h hT hi).mpr q), if_pos ((HX_fs h hT hi).mpr q)] at this
      exact (at_ i hi q).mp this.symm
    · rw [if_neg (fun z => q ((fi_fs h0 h6 hi).mp z)), if_neg (fun z => q ((fi_fs h0 h6 hi).mp z))]
  · intro z
    refine gN_ext h0 (Gn_lt gx) (Gn_lt gy) (fun i hi => ?_)
    rw [Gn_dig gx hi, Gn_dig gy hi, Gf, Gf]
    by_cases q : HX σ N L e T i = i
    · have qf := (HX_fs h hT hi).mp q
      have := z i hi
      rw [if_pos ((fi_fs h0 h6 hi).mpr qf), if_pos ((fi_fs h0 h6 hi).mpr qf)] at this
      rw [if_pos q, if_pos q]
      exact (at_ i hi qf).mpr this
    · rw [if_neg q, if_neg q]
theorem Wd.pw (h0 : 0 < N) {x : Nat} (hx : Wd N L lm x) : ∀ k, Wd N L lm (pwN N x k)
  | 0 => hx
  | k + 1 => by
    obtain ⟨w, hw, e1⟩ := hx
    obtain ⟨v, hv, e2⟩ := Wd.pw h0 ⟨w, hw, e1⟩ k
    refine ⟨v ++ w, hv.app hw, fun i hi => ?_⟩
    rw [pwN_s, bN_dig hi, e2 i hi, e1 _ (runW_lt h0 v i hi), runW_app]
/-- powers of what an element does -/
theorem Gn_pw (h : XS σ (N, L, lm, s, e)) (hT : T < 2 ^ N) (hC : CTs N L lm T) {x : Nat} (hx : Wd N L lm x) : ∀ k, pwN N (Gn N (HX σ N L e T) x) k = Gn N (HX σ N L e T) (pwN N x k)
  | 0 => rfl
  | k + 1 => by
    have h0 : 0 < N := by have := h.1.2.1; omega
    have gx := HX_go h hT hC hx
    have gk := HX_go h hT hC (hx.pw h0 k)
    have gk1 := HX_go h hT hC (hx.pw h0 (k + 1))
    obtain ⟨w, hw, e1⟩ := hx
    obtain ⟨v, hv, e2⟩ := Wd.pw h0 ⟨w, hw, e1⟩ k
    refine gN_ext h0 (bN_lt h0) (Gn_lt gk1) (fun i hi => ?_)
    show gN N (bN N (pwN N (Gn N (HX σ N L e T) x) k) (Gn N (HX σ N L e T) x)) i = _
    rw [bN_dig hi, Gn_pw h hT hC ⟨w, hw, e1⟩ k, Gn_dig gk hi, Gn_dig gk1 hi, Gn_dig gx (Gf_lt gk i hi)]
    by_cases q : HX σ N L e T i = i
    · have hb := ((HX_fs h hT hi).mp q).1
      have r1 := runW_lt (lm := lm) h0 v i hi
      have b1 := hC.run h0 v i hv hi hb
      obtain ⟨u1, u2, u3, u4⟩ := HX_in h hT r1 b1
      have f1 : Gf N (HX σ N L e T) (pwN N x k) i = HX σ N L e T (runW N lm v i) := by rw [Gf, if_pos q, e2 i hi]
      have f2 : HX σ N L e T (HX σ N L e T (runW N lm v i)) = HX σ N L e T (runW N lm v i) := (HX_eq h hT u1 r1 u2 b1).mpr u3
      rw [f1, Gf, if_pos f2, Gf, if_pos q, pwN_s, bN_dig hi, e2 i hi, e1 _ u1, e1 _ r1]
      exact (HX_eq h hT (runW_lt h0 w _ u1) (runW_lt h0 w _ r1) (hC.run h0 w _ hw u1 u2) (hC.run h0 w _ hw r1 b1)).mpr (u3.run hw)
    · have f1 : Gf N (HX σ N L e T) (pwN N x k) i = i := by rw [Gf, if_neg q]
      rw [f1, Gf, if_neg q, Gf, if_neg q]
theorem rg_1 {m : Nat} : rgN N m ≤ 1 ↔ pwN N m 13 = pwN N m 12 := by
  have e : rgN N m = sr (fun r => pwN N m (12 + (r + 1)) = pwN N m 12) 60 0 + 1 := by rw [rgN, n60_eq]
  rw [e]
  constructor
  · intro z
    have z : sr (fun r => pwN N m (12 + (r + 1)) = pwN N m 12) 60 0 = 0 := by omega
    have := sr_at (p := fun r => pwN N m (12 + (r + 1)) = pwN N m 12) 60 0 (by rw [z]; decide)
    rw [z] at this
    exact this
  · intro z
    rw [sr_first (k := 0) (fun j hj => absurd hj (Nat.not_lt_zero j)) z (by decide)]
    decide
end HF
