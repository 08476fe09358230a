/-! what stands between the calls; each call, as the law makes it -/
/-- points, letters, their maps (as numbers), start, ends -/
abbrev Sx : Type := Nat × Nat × (Nat → Nat) × Nat × Nat
/-- the class has counted so many changes of points and letters, or fewer -/
def CB (σ : Hp) (t : Nat) : Prop := ∃ c, c ≤ t ∧ σ.1 1 3 = nI c
/-- the class holds it -/
def XS (σ : Hp) : Sx → Prop := fun (N, L, lm, s, e) => KI σ N L ∧ (∀ k, k < L → σ.1 2 k = onF (lm k) N ∧ lm k < N ^ N) ∧ (s < N ∧ σ.1 48 7 = nI s) ∧ (e < 2 ^ N ∧ σ.1 48 8 = nI e) ∧ ∃ M, EM σ M ∧ σ.1 36 1 = 0 ∧ σ.1 42 1 = 1
/-- the reference holds it -/
def MS (σ : Hp) : Sx → Prop := fun (N, L, lm, s, e) => MB σ N ∧ LT σ N L lm ∧ (s < N ∧ σ.1 56 4 = nI s) ∧ (e < 2 ^ N ∧ σ.1 56 5 = nI e) ∧ LD σ N L lm
def XF (σ τ : Hp) : Prop := (∀ q, 56 ≤ q → τ.1 q = σ.1 q ∧ τ.2 q = σ.2 q) ∧ (τ.1 1 3 = σ.1 1 3 ∨ τ.1 1 3 = σ.1 1 3 + 1)
def MF (σ τ : Hp) : Prop := ∀ q, q < 56 → τ.1 q = σ.1 q ∧ τ.2 q = σ.2 q
/-- a call of the class: its answer is so, it holds this then, the reference's cells stay -/
def YX (σ : Hp) (a : Sx) (P : Int32 → Prop) : Option Value → Hp → Prop := fun w τ => (∃ z, w = some (.int z) ∧ P z) ∧ XS τ a ∧ XF σ τ
def YM (σ : Hp) (a : Sx) (P : Int32 → Prop) : Option Value → Hp → Prop := fun w τ => (∃ z, w = some (.int z) ∧ P z) ∧ MS τ a ∧ MF σ τ
theorem XF.of {S : List Nat} {σ τ : Hp} (h : Fp S σ τ) (hs : ∀ q, q ∈ S → q < 56) (h1 : 1 ∉ S := by decide) : XF σ τ := ⟨fun q hq => h q (fun z => by have := hs q z; omega), Or.inl (by rw [(h 1 h1).1])⟩
theorem XF.of1 {S : List Nat} {σ τ : Hp} (h : Fp S σ τ) (hs : ∀ q, q ∈ S → q < 56) (h1 : τ.1 1 3 = σ.1 1 3 + 1) : XF σ τ := ⟨fun q hq => h q (fun z => by have := hs q z; omega), Or.inr h1⟩
theorem XF.rf {σ : Hp} : XF σ σ := ⟨fun _ _ => ⟨rfl, rfl⟩, Or.inl rfl⟩
theorem XF.cb {σ τ : Hp} {t : Nat} (h : XF σ τ) (hc : CB σ t) : CB τ (t + 1) := by
  obtain ⟨c, h1, h2⟩ := hc
  rcases h.2 with q | q
  · exact ⟨c, by omega, q.trans h2⟩
  · exact ⟨c + 1, by omega, by rw [q, h2, nI_1]⟩
theorem CB.up {σ : Hp} {t u : Nat} (h : CB σ t) (hu : t ≤ u) : CB σ u := by
  obtain ⟨c, h1, h2⟩ := h
  exact ⟨c, by omega, h2⟩
theorem eC_lt : ∀ q, q ∈ eC → q < 56 := by decide
theorem eB_lt : ∀ q, q ∈ eB → q < 56 := by decide
theorem CB.mv {σ τ : Hp} {t : Nat} (h : CB σ t) (hF : MF σ τ) : CB τ t := by
  obtain ⟨c, h1, h2⟩ := h
  exact ⟨c, h1, by rw [(hF 1 (by decide)).1]; exact h2⟩
theorem MF.of {S : List Nat} {σ τ : Hp} (h : Fp S (Th σ) τ) (hs : ∀ q, q ∈ S → 56 ≤ q) : MF σ τ := fun q hq => by
  have h1 := h q (fun z => by have := hs q z; omega)
  exact ⟨h1.1.trans (Th_ne (by omega)), h1.2⟩
theorem LD.mv {σ τ : Hp} {N L : Nat} {lm : Nat → Nat} {S : List Nat} (h : LD σ N L lm) (hF : Fp S σ τ) (hs : ∀ q, q ∈ [56, 58, 59, 60, 61, 62, 63, 64, 65, 66] → q ∉ S) : LD τ N L lm := by
  have f : τ.1 56 = σ.1 56 := (hF 56 (hs 56 (by decide))).1
  rcases h with h | h | ⟨M, h⟩
  · exact Or.inl (by rw [f]; exact h)
  · exact Or.inr (Or.inl ⟨by rw [f]; exact h.1, by rw [f]; exact h.2.1, h.2.2⟩)
  · exact Or.inr (Or.inr ⟨M, h.mv hF hs⟩)
theorem XS.mv {σ τ : Hp} {a : Sx} (h : XS σ a) (hF : MF σ τ) : XS τ a := by
  obtain ⟨N, L, lm, s, e⟩ := a
  obtain ⟨hI, h2, h3, h4, M, h5, h6, h7⟩ := h
  exact ⟨hI.mv (hF 1 (by decide)).1, fun k hk => by rw [(hF 2 (by decide)).1]; exact h2 k hk, ⟨h3.1, by rw [(hF 48 (by decide)).1]; exact h3.2⟩, ⟨h4.1, by rw [(hF 48 (by decide)).1]; exact h4.2⟩, M, h5.cg (fun q hq => (hF q (eC_lt q hq)).1) (fun q hq => (hF q (eB_lt q hq)).1) (by rw [(hF 15 (by decide)).1]), by rw [(hF 36 (by decide)).1]; exact h6, by rw [(hF 42 (by decide)).1]; exact h7⟩
theorem MS.mv {σ τ : Hp} {a : Sx} (h : MS σ a) (hF : XF σ τ) : MS τ a := by
  obtain ⟨N, L, lm, s, e⟩ := a
  obtain ⟨hB, hL, h3, h4, hD⟩ := h
  have f := (hF.1 56 (by decide)).1
  have g : ∀ q, 56 ≤ q → τ.1 q = σ.1 q := fun q hq => (hF.1 q hq).1
  have hFp : Fp (List.range 56) σ τ := fun q hq => hF.1 q (by rw [List.mem_range] at hq; omega)
  exact ⟨hB.mv (by rw [f]), hL.mv (by rw [f]) (g 57 (by decide)), ⟨h3.1, by rw [f]; exact h3.2⟩, ⟨h4.1, by rw [f]; exact h4.2⟩, hD.mv hFp (by decide)⟩
theorem XS.fp {S : List Nat} {σ τ : Hp} {a : Sx} {M : Nat} (h : XS σ a) (hF : Fp S σ τ) (hM : EM τ M) (h1 : 1 ∉ S) (h2 : 2 ∉ S) (h48 : 48 ∉ S) (h36 : τ.1 36 1 = σ.1 36 1) (h42 : τ.1 42 1 = σ.1 42 1) : XS τ a := by
  obtain ⟨N, L, lm, s, e⟩ := a
  obtain ⟨hI, g2, g3, g4, -, -, g5, g6⟩ := h
  exact ⟨hI.mv (hF 1 h1).1, fun k hk => by rw [(hF 2 h2).1]; exact g2 k hk, ⟨g3.1, by rw [(hF 48 h48).1]; exact g3.2⟩, ⟨g4.1, by rw [(hF 48 h48).1]; exact g4.2⟩, M, hM, h36.trans g5, h42.trans g6⟩
theorem MS.fm {σ τ : Hp} {N L : Nat} {lm : Nat → Nat} {s e : Nat} (h : MS σ (N, L, lm, s, e)) (hF : FM (Th σ) τ) (hD : LD τ N L lm) : MS τ (N, L, lm, s, e) ∧ MF σ τ := by
  obtain ⟨hB, hL, h3, h4, -⟩ := h
  exact ⟨⟨hF.MB hB.th, hF.LT hL.th, ⟨h3.1, (hF.2 4 (by decide) (by decide)).trans ((Th_0 (by decide)).trans h3.2)⟩, ⟨h4.1, (hF.2 5 (by decide) (by decide)).trans ((Th_0 (by decide)).trans h4.2)⟩, hD⟩, MF.of hF.1 (by decide)⟩
theorem MS.fp {S : List Nat} {σ τ : Hp} {N L : Nat} {lm : Nat → Nat} {s e : Nat} (h : MS σ (N, L, lm, s, e)) (hF : Fp S (Th σ) τ) (hs : ∀ q, q ∈ [56, 58, 59, 60, 61, 62, 63, 64, 65, 66] → q ∉ S) (hm : ∀ q, q ∈ S → q ∈ mS) : MS τ (N, L, lm, s, e) ∧ MF σ τ :=
  h.fm (FM.of hF hm (hs 56 (by decide))) (h.2.2.2.2.th.mv hF hs)
theorem MS.th {σ : Hp} {N L : Nat} {lm : Nat → Nat} {s e : Nat} (h : MS σ (N, L, lm, s, e)) : MS (Th σ) (N, L, lm, s, e) ∧ MF σ (Th σ) := h.fm FM.rf h.2.2.2.2.th
/-- what the answers of the list's calls are -/
def LR (N L : Nat) (lm : Nat → Nat) (A : Nat → Int32 → Prop) (z : Int32) : Prop := (1500 < (EQ N L lm).length ∧ z = -5) ∨ ((EQ N L lm).length ≤ 1500 ∧ A (EQ N L lm).length z)
theorem Rp.yx {σ : Hp} {a : Sx} {w : Option Value} {τ : Hp} (h : XS σ a) (hr : Rp σ w τ) : YX σ a (fun _ => True) w τ := by
  obtain ⟨⟨z, hz⟩, hF, M, hM⟩ := hr
  exact ⟨⟨z, hz, trivial⟩, h.fp hF hM (by decide) (by decide) (by decide) (by rw [(hF 36 (by decide)).1]) (by rw [(hF 42 (by decide)).1]), XF.of hF (by decide)⟩
theorem Lp.ym {σ : Hp} {N L : Nat} {lm : Nat → Nat} {s e : Nat} {A : Nat → Int32 → Prop} {w : Option Value} {τ : Hp} (h : MS σ (N, L, lm, s, e)) (hr : Lp N L lm σ A w τ) : YM σ (N, L, lm, s, e) (LR N L lm A) w τ := by
  obtain ⟨hF, ⟨rfl, hD⟩ | ⟨z, M, rfl, hT, hA⟩⟩ := hr
  · exact ⟨⟨-5, rfl, Or.inl ⟨hD.2.2, rfl⟩⟩, h.fm hF (Or.inr (Or.inl hD))⟩
  · have hM : (EQ N L lm).length = M := hT.1.2.2.1
    exact ⟨⟨z, rfl, Or.inr ⟨by rw [hM]; exact hT.1.2.2.2.1, by rw [hM]; exact hA⟩⟩, h.fm hF (Or.inr (Or.inr ⟨M, hT⟩))⟩
theorem Lb.ym {σ : Hp} {N L : Nat} {lm : Nat → Nat} {s e : Nat} {A : Nat → (Nat → Nat → Nat) → (Nat → Nat) → Int32 → Prop} {w : Option Value} {τ : Hp} (h : MS σ (N, L, lm, s, e)) (hr : Lb N L lm σ A w τ) : YM σ (N, L, lm, s, e) (fun _ => True) w τ := by
  obtain ⟨hF, ⟨rfl, hD⟩ | ⟨z, M, a, b, B, rfl, hT, hA⟩⟩ := hr
  · exact ⟨⟨-5, rfl, trivial⟩, h.fm hF (Or.inr (Or.inl hD))⟩
  · exact ⟨⟨z, rfl, trivial⟩, h.fm hF (Or.inr (Or.inr ⟨M, hT.tb⟩))⟩
theorem Ct.im {y : Mth} {as : List Value} {σ : Hp} {Q Q' : Option Value → Hp → Prop} (k : Ct y as σ Q) (h : ∀ v τ, Q v τ → Q' v τ) : Ct y as σ Q' := k.mono h
/-- points -/
def trP (v : Int32) : Sx → Sx := fun (N, L, lm, s, e) => if 1 ≤ v ∧ v ≤ 6 then (v.toNatClampNeg, 0, lm, 0, 0) else (N, L, lm, s, e)
def anP (v : Int32) : Sx → Int32 := fun (N, _, _, _, _) => if 1 ≤ v ∧ v ≤ 6 then nI N else -1
theorem six_nI {v : Int32} (h : 1 ≤ v ∧ v ≤ 6) : ∃ n, 1 ≤ n ∧ n ≤ 6 ∧ v = nI n := by
  obtain ⟨n, hn, rfl⟩ := wi_nI (w := v) (m := 6) (by decide) ⟨Int32.le_trans (by decide) h.1, h.2⟩
  refine ⟨n, ?_, hn, rfl⟩
  rcases Nat.eq_zero_or_pos n with rfl | q
  · exact absurd h.1 (by decide)
  · exact q
theorem x_points (v : Int32) {σ : Hp} {a : Sx} (h : XS σ a) (hB : CB σ 2560) : Ct m_P_points [.ref 0, .int v] σ (YX σ (trP v a) (fun z => z = anP v a)) := by
  obtain ⟨N, L, lm, s, e⟩ := a
  by_cases hv : 1 ≤ v ∧ v ≤ 6
  · refine (c_P_points v σ hv).im ?_
    rintro w τ ⟨rfl, rfl⟩
    have hF : Fp [1, 48] σ (ptW σ v) := ((((Fp.rf.wI (by decide)).wI (by decide)).wI (by decide)).wI (by decide)).wI (by decide)
    obtain ⟨M, hM, hf1, hf2⟩ := h.2.2.2.2
    obtain ⟨n, h1, h6, rfl⟩ := six_nI hv
    have e13 : (ptW σ (nI n)).1 1 3 = σ.1 1 3 + 1 := by simp [ptW, wI, upd]
    obtain ⟨c, hc1, hc2⟩ := hB
    refine ⟨⟨_, rfl, by rw [anP, if_pos hv]; exact h.1.1⟩, ?_, XF.of1 hF (by decide) e13⟩
    rw [trP, if_pos hv, nI_clamp (by omega)]
    have kI : KI (ptW σ (nI n)) n 0 := ⟨by simp [ptW, wI, upd], h1, h6, by simp [ptW, wI, upd]; rfl, by omega⟩
    refine ⟨kI, fun k hk => absurd hk (Nat.not_lt_zero k), ⟨by omega, by simp [ptW, wI, upd]; rfl⟩, ⟨Nat.pow_pos (by decide), by simp [ptW, wI, upd]; rfl⟩, M, hM.old hc2 (by omega) kI (lm := lm) (fun k hk => absurd hk (Nat.not_lt_zero k)) e13 (hF 3 (by decide)).1 (hF 15 (by decide)).1, by rw [(hF 36 (by decide)).1]; exact hf1, by rw [(hF 42 (by decide)).1]; exact hf2⟩
  · refine (c_P_points_no v σ hv).im ?_
    rintro w τ ⟨rfl, rfl⟩
    exact ⟨⟨_, rfl, by rw [anP, if_neg hv]⟩, by rw [trP, if_neg hv]; exact h, XF.rf⟩
theorem m_points (v : Int32) {σ : Hp} {a : Sx} (h : MS σ a) : Ct m_M_points [.ref 56, .int v] σ (YM σ (trP v a) (fun z => z = anP v a)) := by
  obtain ⟨N, L, lm, s, e⟩ := a
  by_cases hv : 1 ≤ v ∧ v ≤ 6
  · refine (c_M_points v σ hv).im ?_
    rintro w τ ⟨rfl, rfl⟩
    have hF : Fp [56] (Th σ) (mpW σ v) := ((((Fp.rf.wI (by decide)).wI (by decide)).wI (by decide)).wI (by decide)).wI (by decide)
    obtain ⟨n, h1, h6, rfl⟩ := six_nI hv
    refine ⟨⟨_, rfl, by rw [anP, if_pos hv]; exact h.1.1⟩, ?_, MF.of hF (by decide)⟩
    rw [trP, if_pos hv, nI_clamp (by omega)]
    refine ⟨⟨by simp [mpW, wI, upd], h1, h6⟩, ⟨by simp [mpW, wI, upd]; rfl, by omega, fun l hl => absurd hl (Nat.not_lt_zero l)⟩, ⟨by omega, by simp [mpW, wI, upd]; rfl⟩, ⟨Nat.pow_pos (by decide), by simp [mpW, wI, upd]; rfl⟩, Or.inl (by simp [mpW, wI, upd])⟩
  · refine (c_M_points_no v σ hv).im ?_
    rintro w τ ⟨rfl, rfl⟩
    exact ⟨⟨_, rfl, by rw [anP, if_neg hv]⟩, by rw [trP, if_neg hv]; exact h.th⟩
/-- letter -/
def trL (m : Int32) : Sx → Sx := fun (N, L, lm, s, e) => if (0 ≤ m ∧ m ≤ nI (N ^ N - 1)) ∧ ¬ L = 4 then (N, L + 1, fun l => if l = L then m.toNatClampNeg else lm l, s, e) else (N, L, lm, s, e)
def anL (m : Int32) : Sx → Int32 := fun (N, L, _, _, _) => if 0 ≤ m ∧ m ≤ nI (N ^ N - 1) then (if L = 4 then -3 else nI L) else -1
theorem x_letter (v : Int32) {σ : Hp} {a : Sx} (h : XS σ a) (hB : CB σ 2560) : Ct m_P_letter [.ref 0, .int v] σ (YX σ (trL v a) (fun z => z = anL v a)) := by
  obtain ⟨N, L, lm, s, e⟩ := a
  by_cases hv : 0 ≤ v ∧ v ≤ nI (N ^ N - 1)
  · by_cases h4 : L = 4
    · refine (c_P_letter_full v σ h.1 hv h4).im ?_
      rintro w τ ⟨rfl, rfl⟩
      exact ⟨⟨_, rfl, by rw [anL, if_pos hv, if_pos h4]⟩, by rw [trL, if_neg (fun q => q.2 h4)]; exact h, XF.rf⟩
    · have hp := pow_lt h.1.2.2.1
      have hp0 := pow_pos' h.1.2.1
      have hL4 := h.1.2.2.2.2
      obtain ⟨m, hm, rfl⟩ := wi_nI (by omega) hv
      refine (c_P_letter σ h.1 (m := m) (by omega) (by omega)).im ?_
      rintro w τ ⟨rfl, rfl⟩
      have hF : Fp [1, 2] σ (leW σ N L m) := ((Fp.rf.wI (by decide)).wI (by decide)).wI (by decide)
      obtain ⟨M, hM, hf1, hf2⟩ := h.2.2.2.2
      have e13 : (leW σ N L m).1 1 3 = σ.1 1 3 + 1 := by simp [leW, wI, upd]
      obtain ⟨c, hc1, hc2⟩ := hB
      refine ⟨⟨_, rfl, by rw [anL, if_pos hv, if_neg h4]⟩, ?_, XF.of1 hF (by decide) e13⟩
      rw [trL, if_pos ⟨hv, h4⟩, nI_clamp (by omega)]
      have kI : KI (leW σ N L m) N (L + 1) := ⟨by simp [leW, wI, upd]; exact h.1.1, h.1.2.1, h.1.2.2.1, by simp [leW, wI, upd], by omega⟩
      have lL : LL (leW σ N L m) N (L + 1) (fun l => if l = L then m else lm l) := fun k hk => ?_
      · exact ⟨kI, lL, ⟨h.2.2.1.1, by rw [(hF 48 (by decide)).1]; exact h.2.2.1.2⟩, ⟨h.2.2.2.1.1, by rw [(hF 48 (by decide)).1]; exact h.2.2.2.1.2⟩, M, hM.old hc2 (by omega) kI lL e13 (hF 3 (by decide)).1 (hF 15 (by decide)).1, by rw [(hF 36 (by decide)).1]; exact hf1, by rw [(hF 42 (by decide)).1]; exact hf2⟩
      have e2 : (leW σ N L m).1 2 k = if k = L then onF m N else σ.1 2 k := by simp [leW, wI, upd]
      rw [e2]
      dsimp only
      by_cases q : k = L
      · rw [if_pos q, if_pos q]
        exact ⟨rfl, by omega⟩
      · rw [if_neg q, if_neg q]
        exact h.2.1 k (by omega)
  · refine (c_P_letter_no v σ h.1 hv).im ?_
    rintro w τ ⟨rfl, rfl⟩
    exact ⟨⟨_, rfl, by rw [anL, if_neg hv]⟩, by rw [trL, if_neg (fun q => hv q.1)]; exact h, XF.rf⟩
theorem m_letter (v : Int32) {σ : Hp} {a : Sx} (h : MS σ a) : Ct m_M_letter [.ref 56, .int v] σ (YM σ (trL v a) (fun z => z = anL v a)) := by
  obtain ⟨N, L, lm, s, e⟩ := a
  have hL := h.2.1
  by_cases hv : 0 ≤ v ∧ v ≤ nI (N ^ N - 1)
  · by_cases h4 : L = 4
    · refine (c_M_letter_full v σ h.1 hv (by rw [hL.1, h4]; rfl)).im ?_
      rintro w τ ⟨rfl, rfl⟩
      exact ⟨⟨_, rfl, by rw [anL, if_pos hv, if_pos h4]⟩, by rw [trL, if_neg (fun q => q.2 h4)]; exact h.th⟩
    · have hp := pow_lt h.1.2.2
      have hp0 := pow_pos' h.1.2.1
      have hL4 := hL.2.1
      obtain ⟨m, hm, rfl⟩ := wi_nI (by omega) hv
      refine (c_M_letter σ h.1 (m := m) (by omega) hL.1 (by omega)).im ?_
      rintro w τ ⟨rfl, rfl⟩
      have hF : Fp [56, 57] (Th σ) (mlW σ L m) := ((Fp.rf.wI (by decide)).wI (by decide)).wI (by decide)
      refine ⟨⟨_, rfl, by rw [anL, if_pos hv, if_neg h4]⟩, ?_, MF.of hF (by decide)⟩
      rw [trL, if_pos ⟨hv, h4⟩, nI_clamp (by omega)]
      have g : ∀ j, j ≠ 0 → j ≠ 2 → j ≠ 6 → (mlW σ L m).1 56 j = σ.1 56 j := fun j a b c => by
        rw [mlW, wI_eq, upd_ne c, wI_eq, upd_ne b, wI_ne (by decide)]
        exact Th_0 a
      refine ⟨⟨(g 1 (by decide) (by decide) (by decide)).trans h.1.1, h.1.2.1, h.1.2.2⟩, ⟨by simp [mlW, wI, upd], by omega, fun l hl => ?_⟩, ⟨h.2.2.1.1, (g 4 (by decide) (by decide) (by decide)).trans h.2.2.1.2⟩, ⟨h.2.2.2.1.1, (g 5 (by decide) (by decide) (by decide)).trans h.2.2.2.1.2⟩, Or.inl (by simp [mlW, wI, upd])⟩
      have e2 : (mlW σ L m).1 57 l = if l = L then nI m else σ.1 57 l := by simp [mlW, wI, upd, Th]
      rw [e2]
      dsimp only
      by_cases q : l = L
      · rw [if_pos q, if_pos q]
        exact ⟨rfl, by omega⟩
      · rw [if_neg q, if_neg q]
        exact hL.2.2 l (by omega)
  · refine (c_M_letter_no v σ h.1 hv).im ?_
    rintro w τ ⟨rfl, rfl⟩
    exact ⟨⟨_, rfl, by rw [anL, if_neg hv]⟩, by rw [trL, if_neg (fun q => hv q.1)]; exact h.th⟩
/-- drop -/
def trD : Sx → Sx := fun (N, L, lm, s, e) => (N, L - 1, lm, s, e)
def anD : Sx → Int32 := fun (_, L, _, _, _) => if L = 0 then -1 else nI (L - 1)
theorem x_drop {σ : Hp} {a : Sx} (h : XS σ a) (hB : CB σ 2560) : Ct m_P_drop [.ref 0] σ (YX σ (trD a) (fun z => z = anD a)) := by
  obtain ⟨N, L, lm, s, e⟩ := a
  match L, h with
  | 0, h =>
    refine (c_P_drop_no σ h.1).im ?_
    rintro w τ ⟨rfl, rfl⟩
    exact ⟨⟨_, rfl, rfl⟩, h, XF.rf⟩
  | L + 1, h =>
    refine (c_P_drop σ h.1).im ?_
    rintro w τ ⟨rfl, rfl⟩
    have hF : Fp [1] σ (drW σ L) := (Fp.rf.wI (by decide)).wI (by decide)
    obtain ⟨M, hM, hf1, hf2⟩ := h.2.2.2.2
    have e13 : (drW σ L).1 1 3 = σ.1 1 3 + 1 := by simp [drW, wI, upd]
    obtain ⟨c, hc1, hc2⟩ := hB
    refine ⟨⟨_, rfl, rfl⟩, ?_, XF.of1 hF (by decide) e13⟩
    have kI : KI (drW σ L) N L := ⟨by simp [drW, wI, upd]; exact h.1.1, h.1.2.1, h.1.2.2.1, by simp [drW, wI, upd], by have := h.1.2.2.2.2; omega⟩
    have lL : LL (drW σ L) N L lm := fun k hk => by rw [(hF 2 (by decide)).1]; exact h.2.1 k (by omega)
    refine ⟨kI, lL, ⟨h.2.2.1.1, by rw [(hF 48 (by decide)).1]; exact h.2.2.1.2⟩, ⟨h.2.2.2.1.1, by rw [(hF 48 (by decide)).1]; exact h.2.2.2.1.2⟩, M, hM.old hc2 (by omega) kI lL e13 (hF 3 (by decide)).1 (hF 15 (by decide)).1, by rw [(hF 36 (by decide)).1]; exact hf1, by rw [(hF 42 (by decide)).1]; exact hf2⟩
theorem m_drop {σ : Hp} {a : Sx} (h : MS σ a) : Ct m_M_drop [.ref 56] σ (YM σ (trD a) (fun z => z = anD a)) := by
  obtain ⟨N, L, lm, s, e⟩ := a
  match L, h with
  | 0, h =>
    refine (c_M_drop_no σ h.2.1.1).im ?_
    rintro w τ ⟨rfl, rfl⟩
    exact ⟨⟨_, rfl, rfl⟩, h.th⟩
  | L + 1, h =>
    have hL := h.2.1
    refine (c_M_drop σ hL.1 (by have := hL.2.1; omega)).im ?_
    rintro w τ ⟨rfl, rfl⟩
    have hF : Fp [56] (Th σ) (mdW σ L) := (Fp.rf.wI (by decide)).wI (by decide)
    have g : ∀ j, j ≠ 0 → j ≠ 2 → j ≠ 6 → (mdW σ L).1 56 j = σ.1 56 j := fun j a b c => by
      rw [mdW, wI_eq, upd_ne c, wI_eq, upd_ne b]
      exact Th_0 a
    refine ⟨⟨_, rfl, rfl⟩, ?_, MF.of hF (by decide)⟩
    refine ⟨⟨(g 1 (by decide) (by decide) (by decide)).trans h.1.1, h.1.2.1, h.1.2.2⟩, ⟨by simp [mdW, wI, upd], by have := hL.2.1; omega, fun l hl => by rw [(hF 57 (by decide)).1]; exact hL.2.2 l (by omega)⟩, ⟨h.2.2.1.1, (g 4 (by decide) (by decide) (by decide)).trans h.2.2.1.2⟩, ⟨h.2.2.2.1.1, (g 5 (by decide) (by decide) (by decide)).trans h.2.2.2.1.2⟩, Or.inl (by simp [mdW, wI, upd])⟩
/-- set -/
def trS (w v : Int32) : Sx → Sx := fun (N, L, lm, s, e) => if w = 0 ∧ 0 ≤ v ∧ v ≤ nI (N - 1) then (N, L, lm, v.toNatClampNeg, e) else if w = 1 ∧ 0 ≤ v ∧ v ≤ nI (2 ^ N - 1) then (N, L, lm, s, v.toNatClampNeg) else (N, L, lm, s, e)
def anS (w v : Int32) : Sx → Int32 := fun (N, _, _, s, e) => if w = 0 ∧ 0 ≤ v ∧ v ≤ nI (N - 1) then nI s else if w = 1 ∧ 0 ≤ v ∧ v ≤ nI (2 ^ N - 1) then nI e else -1
theorem x_set (w v : Int32) {σ : Hp} {a : Sx} (h : XS σ a) : Ct m_P_set [.ref 0, .int w, .int v] σ (YX σ (trS w v a) (fun z => z = anS w v a)) := by
  obtain ⟨N, L, lm, s, e⟩ := a
  have hN := h.1.2.1
  have hN6 := h.1.2.2.1
  have h26 := pow2_le6 hN6
  obtain ⟨M, hM, hf1, hf2⟩ := h.2.2.2.2
  have hF7 : ∀ j x, Fp [48] σ (wI σ 48 j x) := fun j x => Fp.rf.wI (by decide)
  have h2p : 0 < 2 ^ N := Nat.pow_pos (by decide)
  by_cases h0 : w = 0 ∧ 0 ≤ v ∧ v ≤ nI (N - 1)
  · obtain ⟨rfl, hv⟩ := id h0
    refine (c_P_set0 v σ h.1 hv).im ?_
    rintro w τ ⟨rfl, rfl⟩
    refine ⟨⟨_, rfl, by rw [anS, if_pos h0]; exact h.2.2.1.2⟩, ?_, XF.of (hF7 7 v) (by decide)⟩
    obtain ⟨k, hk, rfl⟩ := wi_nI (by omega) hv
    rw [trS, if_pos h0, nI_clamp (by omega)]
    refine ⟨h.1.mv (wI_ne (by decide)), fun k hk => by rw [wI_ne (by decide)]; exact h.2.1 k hk, ⟨by omega, by simp [wI, upd]⟩, ⟨h.2.2.2.1.1, by simp [wI, upd]; exact h.2.2.2.1.2⟩, M, (hF7 7 _).EM (by decide) hM, by rw [wI_ne (by decide)]; exact hf1, by rw [wI_ne (by decide)]; exact hf2⟩
  · by_cases h1 : w = 1 ∧ 0 ≤ v ∧ v ≤ nI (2 ^ N - 1)
    · obtain ⟨rfl, hv⟩ := id h1
      refine (c_P_set1 v σ h.1 hv).im ?_
      rintro w τ ⟨rfl, rfl⟩
      refine ⟨⟨_, rfl, by rw [anS, if_neg h0, if_pos h1]; exact h.2.2.2.1.2⟩, ?_, XF.of (hF7 8 v) (by decide)⟩
      obtain ⟨k, hk, rfl⟩ := wi_nI (by omega) hv
      rw [trS, if_neg h0, if_pos h1, nI_clamp (by omega)]
      refine ⟨h.1.mv (wI_ne (by decide)), fun k hk => by rw [wI_ne (by decide)]; exact h.2.1 k hk, ⟨h.2.2.1.1, by simp [wI, upd]; exact h.2.2.1.2⟩, ⟨by omega, by simp [wI, upd]⟩, M, (hF7 8 _).EM (by decide) hM, by rw [wI_ne (by decide)]; exact hf1, by rw [wI_ne (by decide)]; exact hf2⟩
    · refine (c_P_set_no w v σ h.1 (fun q => q.elim h0 h1)).im ?_
      rintro w τ ⟨rfl, rfl⟩
      exact ⟨⟨_, rfl, by rw [anS, if_neg h0, if_neg h1]⟩, by rw [trS, if_neg h0, if_neg h1]; exact h, XF.rf⟩
theorem m_set (w v : Int32) {σ : Hp} {a : Sx} (h : MS σ a) : Ct m_M_set [.ref 56, .int w, .int v] σ (YM σ (trS w v a) (fun z => z = anS w v a)) := by
  obtain ⟨N, L, lm, s, e⟩ := a
  have hN := h.1.2.1
  have hN6 := h.1.2.2
  have h26 := pow2_le6 hN6
  have h2p : 0 < 2 ^ N := Nat.pow_pos (by decide)
  have key : ∀ x y : Int32, Fp [56] (Th σ) (wI (wI (Th σ) 56 4 x) 56 5 y) := fun x y => (Fp.rf.wI (by decide)).wI (by decide)
  have g : ∀ x y j, j ≠ 0 → j ≠ 4 → j ≠ 5 → (wI (wI (Th σ) 56 4 x) 56 5 y).1 56 j = σ.1 56 j := fun x y j a b c => by
    rw [wI_eq, upd_ne c, wI_eq, upd_ne b]
    exact Th_0 a
  have f : ∀ x y q, q ≠ 56 → (wI (wI (Th σ) 56 4 x) 56 5 y).1 q = σ.1 q := fun x y q hq => by rw [wI_ne hq, wI_ne hq, Th_ne hq]
  have hD : ∀ x y, LD (wI (wI (Th σ) 56 4 x) 56 5 y) N L lm := fun x y => by
    rcases h.2.2.2.2 with d | ⟨d1, d2, d3⟩ | ⟨M, d1, d2, a, b, B, d3, d4⟩
    · exact Or.inl ((g x y 6 (by decide) (by decide) (by decide)).trans d)
    · exact Or.inr (Or.inl ⟨(g x y 6 (by decide) (by decide) (by decide)).trans d1, (g x y 7 (by decide) (by decide) (by decide)).trans d2, d3⟩)
    · exact Or.inr (Or.inr ⟨M, d1.mv (g x y 6 (by decide) (by decide) (by decide)) (g x y 7 (by decide) (by decide) (by decide)) (f x y 58 (by decide)) (f x y 59 (by decide)) (f x y 62 (by decide)) (f x y 63 (by decide)) (f x y 64 (by decide)), fun x1 l hx hl => by rw [f x y 60 (by decide), f x y 61 (by decide)]; exact d2 x1 l hx hl, a, b, B, fun k hk => by rw [f x y 65 (by decide), f x y 66 (by decide)]; exact d3 k hk, d4⟩)
  have all : ∀ s2 e2, s2 < N → e2 < 2 ^ N → MS (wI (wI (Th σ) 56 4 (nI s2)) 56 5 (nI e2)) (N, L, lm, s2, e2) := fun s2 e2 hs he =>
    ⟨h.1.mv (g _ _ 1 (by decide) (by decide) (by decide)), h.2.1.mv (g _ _ 2 (by decide) (by decide) (by decide)) (f _ _ 57 (by decide)), ⟨hs, by simp [wI, upd]⟩, ⟨he, by simp [wI, upd]⟩, hD _ _⟩
  by_cases h0 : w = 0 ∧ 0 ≤ v ∧ v ≤ nI (N - 1)
  · obtain ⟨rfl, hv⟩ := id h0
    refine (c_M_set0 v σ h.1 hv).im ?_
    rintro w τ ⟨rfl, rfl⟩
    refine ⟨⟨_, rfl, by rw [anS, if_pos h0]; exact h.2.2.1.2⟩, ?_, MF.of (key _ _) (by decide)⟩
    obtain ⟨k, hk, rfl⟩ := wi_nI (by omega) hv
    rw [trS, if_pos h0, nI_clamp (by omega), h.2.2.2.1.2]
    exact all k e (by omega) h.2.2.2.1.1
  · by_cases h1 : w = 1 ∧ 0 ≤ v ∧ v ≤ nI (2 ^ N - 1)
    · obtain ⟨rfl, hv⟩ := id h1
      refine (c_M_set1 v σ h.1 hv).im ?_
      rintro w τ ⟨rfl, rfl⟩
      refine ⟨⟨_, rfl, by rw [anS, if_neg h0, if_pos h1]; exact h.2.2.2.1.2⟩, ?_, MF.of (key _ _) (by decide)⟩
      obtain ⟨k, hk, rfl⟩ := wi_nI (by omega) hv
      rw [trS, if_neg h0, if_pos h1, nI_clamp (by omega), h.2.2.1.2]
      exact all s k h.2.2.1.1 (by omega)
    · refine (c_M_set_no w v σ h.1 (fun q => q.elim h0 h1)).im ?_
      rintro w τ ⟨rfl, rfl⟩
      exact ⟨⟨_, rfl, by rw [anS, if_neg h0, if_neg h1]⟩, by rw [trS, if_neg h0, if_neg h1]; exact h.th⟩
/-- count -/
def anC (w : Int32) : Sx → Int32 := fun (N, L, _, s, e) => if w = 0 then nI N else if w = 1 then nI L else if w = 2 then nI s else if w = 3 then nI e else -1
theorem x_count (w : Int32) {σ : Hp} {a : Sx} (h : XS σ a) : Ct m_P_count [.ref 0, .int w] σ (YX σ a (fun z => z = anC w a)) := by
  obtain ⟨N, L, lm, s, e⟩ := a
  refine (c_P_count w σ).im ?_
  rintro v τ ⟨rfl, rfl⟩
  exact ⟨⟨_, rfl, by rw [cnF, anC, h.1.1, h.1.2.2.2.1, h.2.2.1.2, h.2.2.2.1.2]⟩, h, XF.rf⟩
theorem m_count (w : Int32) {σ : Hp} {a : Sx} (h : MS σ a) : Ct m_M_count [.ref 56, .int w] σ (YM σ a (fun z => z = anC w a)) := by
  obtain ⟨N, L, lm, s, e⟩ := a
  refine (c_M_count w σ).im ?_
  rintro v τ ⟨rfl, rfl⟩
  exact ⟨⟨_, rfl, by rw [mcF, anC, h.1.1, h.2.1.1, h.2.2.1.2, h.2.2.2.1.2]⟩, h.th⟩
