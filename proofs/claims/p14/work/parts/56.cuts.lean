/-! cuts: the class's answer -/
theorem v_P_cuts {N L M : Nat} (σ : Hp) (hI : KI σ N L) (hM : EM σ M) : Ct m_P_cuts [.ref 0] σ (Rq σ (fun z => z = it (fun c r => r + bz (ctP σ N L c = true)) (chF N) 0)) := by
  show WP m_P_cuts 0 [.ref 0] [] σ _
  refine wp_aload_n d_P_cuts_0 rfl ?_
  refine wp_getA d_P_cuts_1 fl_P_37 rfl rfl rfl ?_
  refine wp_callV0e d_P_cuts_4 cv_P_203 rfl rfl rfl ⟨Nat.le_of_ble_eq_true rfl, Nat.le_of_ble_eq_true rfl⟩ (Nat.le_of_ble_eq_true rfl) (Nat.le_of_ble_eq_true rfl) (c_S_allCuts _ hI) ?_
  refine wp_iret d_P_cuts_7 rfl ?_
  exact ⟨⟨_, rfl, rfl⟩, Fp.rf, M, hM⟩
theorem ch_it {c : Nat} : ∀ K, K ≤ 6 → it chS K (0, c) = (Oc K (mr c), c / fc K)
  | 0, _ => by show ((0 : Int32), c) = (Oc 0 (mr c), c / 1); rw [Nat.div_one]; rfl
  | K + 1, hK => by
    show (uF (it chS K (0, c)).1 (nI K) (nI ((it chS K (0, c)).2 % (K + 1))), (it chS K (0, c)).2 / (K + 1)) = _
    rw [ch_it K (by omega)]
    have h := mr_le c K
    rw [uF_add (t := c / fc K % (K + 1)) (by omega) (fun i hi => by have := mr_le c i; omega) (by have := Nat.mod_lt (c / fc K) (show 0 < K + 1 by omega); omega), div_fc]
    congr 1
    exact Oc_ext (fun i hi => by
      try dsimp only
      split
      · rename_i q; rw [q]; rfl
      · rfl)
theorem hp_mr {N c : Nat} (h6 : N ≤ 6) : hpF N c = Oc N (mr c) := by rw [hpF, ch_it N h6]
theorem ct_iff {σ : Hp} {N L : Nat} {lm : Nat → Nat} {s e : Nat} (h : XS σ (N, L, lm, s, e)) {c : Nat} : ctP σ N L c = true ↔ ctN N L lm (hzN N (mr c)) := by
  have h0 := h.1.2.1
  have h6 := h.1.2.2.1
  have hlt : ∀ i, i < N → mr c i < N := fun i hi => by have := mr_le c i; omega
  have hd : ∀ i, i < N → gN N (hzN N (mr c)) i = mr c i := fun i hi => hzN_dig hlt hi
  have h8 := nI_8 h6 hlt
  have hg : ∀ k i, i < N → gN N (lm k) i < N := fun k i _ => gN_lt (by omega)
  have e1 : ahF (hpF N c) (hpF N c) N = hpF N c ↔ ∀ i, i < N → mr c (mr c i) = mr c i := by
    rw [hp_mr h6, ahF_Oc h6 hlt h8]
    exact Oc_inj h6 (fun i hi => h8 _ (hlt i hi)) h8
  have e2 : ∀ k, k < L → (ahF (hpF N c) (ahF (σ.1 2 k) (hpF N c) N) N = ahF (σ.1 2 k) (hpF N c) N ↔ ∀ i, i < N → mr c (gN N (lm k) (mr c i)) = mr c (gN N (lm k) i)) := fun k hk => by
    rw [hp_mr h6, h.lt hk, ahF_Oc h6 (hg k) h8, ahF_Oc h6 hlt (fun i hi => h8 _ (hg k i hi))]
    exact Oc_inj h6 (fun i hi => h8 _ (hg k _ (hlt i hi))) (fun i hi => h8 _ (hg k i hi))
  rw [ctP, Bool.and_eq_true, decide_eq_true_eq, lkB_iff, e1]
  constructor
  · rintro ⟨a, b⟩
    refine ⟨fun i hi => ?_, fun l i j hl hi hj hij => ?_⟩
    · rw [hd i hi, hd _ (hlt i hi)]
      exact ⟨mr_le c i, a i hi⟩
    · rw [hd i hi, hd j (by omega)] at hij
      have b' := (e2 l hl).mp (b l hl)
      rw [hd _ (hg l i hi), hd _ (hg l j (by omega)), ← b' i hi, ← b' j (by omega), hij]
  · rintro ⟨a, b⟩
    have a' : ∀ i, i < N → mr c (mr c i) = mr c i := fun i hi => by
      have := (a i hi).2
      rw [hd i hi, hd _ (hlt i hi)] at this
      exact this
    refine ⟨a', fun k hk => (e2 k hk).mpr (fun i hi => ?_)⟩
    rcases Nat.lt_or_ge (mr c i) i with q | q
    · have := b k i (mr c i) hk hi q (by rw [hd i hi, hd _ (hlt i hi), a' i hi])
      rw [hd _ (hg k i hi), hd _ (hg k _ (hlt i hi))] at this
      exact this.symm
    · have := mr_le c i
      rw [show mr c i = i by omega]
theorem cs_eq {σ : Hp} {N L : Nat} {lm : Nat → Nat} {s e : Nat} (h : XS σ (N, L, lm, s, e)) : it (fun c r => r + bz (ctP σ N L c = true)) (chF N) (0 : Int32) = nI (ctC N L lm (N ^ N)) := by
  have h0 := h.1.2.1
  have h6 := h.1.2.2.1
  have hlt : ∀ c i, i < N → mr c i < N := fun c i hi => by have := mr_le c i; omega
  rw [cnt_nI, chF_fc N h0 h6]
  congr 1
  refine (@cnt_bij (N ^ N) (fc N) (ctN N L lm) (fun c => ctP σ N L c = true) (fun _ => Classical.propDecidable _) _ (fun c => hzN N (mr c)) (fun c hc hq => ⟨hzN_lt (hlt c), (ct_iff h).mp hq⟩) (fun k hk hp => ?_) (fun c d hc hd _ _ he => ?_)).symm.trans ?_
  · obtain ⟨c, hc, hm⟩ := mr_ex N (gN N k) (fun i hi => (hp.1 i hi).1)
    have e : hzN N (mr c) = k := by
      refine gN_ext (by omega) (hzN_lt (hlt c)) hk (fun i hi => ?_)
      rw [hzN_dig (hlt c) hi, hm i hi]
    exact ⟨c, hc, (ct_iff h).mpr (by rw [e]; exact hp), e⟩
  · refine mr_un hc hd (fun i hi => ?_)
    have := congrArg (fun x => gN N x i) he
    try dsimp only at this
    rwa [hzN_dig (hlt c) hi, hzN_dig (hlt d) hi] at this
  · rfl
theorem xv_cuts {σ : Hp} {a : Sx} (h : XS σ a) : Ct m_P_cuts [.ref 0] σ (YX σ a (aeCs a)) := by
  obtain ⟨N, L, lm, s, e⟩ := a
  obtain ⟨M, hM, -⟩ := h.2.2.2.2
  exact (v_P_cuts σ h.1 hM).im (fun w τ hr => hr.yx h (fun z hz => hz.trans (cs_eq h)))
theorem un_cuts {z z' : Int32} {a : Sx} (h : aeCs a z) (h' : aeCs a z') : z = z' := h.trans h'.symm
