/-! this law: its loop, its start (by program) -/
set_option maxHeartbeats 1000000 in
theorem law_loop {L : Nat} {xs : Nat → Int32} (hL : L ≤ 2560) : ∀ n i, i ≤ L → L < i + n → ∀ (σ : Hp) (a : Sx), XS σ a → MS σ a → CB σ i → LW L xs 18 [.ref 81, .ref 0, .ref 56, .int (nI i)] [] σ
  | 0, i, h1, h2, _, _, _, _, _ => absurd h2 (by omega)
  | n + 1, i, hiL, hn, σ, a, hX, hM, hB => by
    refine lp_iload_n d_Law_18 rfl ?_
    refine lp_aload_n d_Law_19 rfl ?_
    refine lp_slen d_Law_20 ?_
    refine lp_iconst (v := 5) d_Law_21 (by decide) ?_
    refine lp_isub d_Law_22 ?_
    refine lp_icmp_gt (tgt := 873) d_Law_23 (by decide) (fun _ => ?_) (fun h5 => ?_)
    · refine lp_iconst (v := 1) d_Law_873 (by decide) ?_
      exact lp_end d_Law_874
    have hi := law_ge hL hiL h5
    have K : ∀ τ a', XS τ a' → MS τ a' → CB τ (i + 1) → LW L xs 867 [.ref 81, .ref 0, .ref 56, .int (nI i)] [] τ := fun τ a' h1 h2 h3 => by
      refine lp_iinc (v := nI (i + 5)) d_Law_867 (by rw [← nI_add]; rfl) rfl ?_
      exact lp_goto d_Law_870 (by decide) (law_loop hL n (i + 5) hi (by omega) τ a' h1 h2 (h3.up (by omega)))
    refine lp_aload_n d_Law_26 rfl ?_
    refine lp_iload_n d_Law_27 rfl ?_
    refine lp_sld d_Law_28 (law_in0 hL hi) ?_
    refine lp_bipush (v := 31) d_Law_29 (by decide) ?_
    refine lp_iand d_Law_31 ?_
    obtain ⟨k, hk, hk2⟩ := and31 (xs (nI i).toNatClampNeg)
    rw [hk2]
    match k, hk with
    | 0, _ => exact lp_tabIn (tgt := 156) (off := 124) d_Law_32 (by decide) (by decide) (by decide) (by decide) (law_c0 hL hi hX hM hB K)
    | 1, _ => exact lp_tabIn (tgt := 179) (off := 147) d_Law_32 (by decide) (by decide) (by decide) (by decide) (law_c1 hL hi hX hM hB K)
    | 2, _ => exact lp_tabIn (tgt := 202) (off := 170) d_Law_32 (by decide) (by decide) (by decide) (by decide) (law_c2 hL hi hX hM hB K)
    | 3, _ => exact lp_tabIn (tgt := 215) (off := 183) d_Law_32 (by decide) (by decide) (by decide) (by decide) (law_c3 hL hi hX hM hB K)
    | 4, _ => exact lp_tabIn (tgt := 238) (off := 206) d_Law_32 (by decide) (by decide) (by decide) (by decide) (law_c4 hL hi hX hM hB K)
    | 5, _ => exact lp_tabIn (tgt := 271) (off := 239) d_Law_32 (by decide) (by decide) (by decide) (by decide) (law_c5 hL hi hX hM hB K)
    | 6, _ => exact lp_tabIn (tgt := 304) (off := 272) d_Law_32 (by decide) (by decide) (by decide) (by decide) (law_c6 hL hi hX hM hB K)
    | 7, _ => exact lp_tabIn (tgt := 327) (off := 295) d_Law_32 (by decide) (by decide) (by decide) (by decide) (law_c7 hL hi hX hM hB K)
    | 8, _ => exact lp_tabIn (tgt := 360) (off := 328) d_Law_32 (by decide) (by decide) (by decide) (by decide) (law_c8 hL hi hX hM hB K)
    | 9, _ => exact lp_tabIn (tgt := 383) (off := 351) d_Law_32 (by decide) (by decide) (by decide) (by decide) (law_c9 hL hi hX hM hB K)
    | 10, _ => exact lp_tabIn (tgt := 416) (off := 384) d_Law_32 (by decide) (by decide) (by decide) (by decide) (law_c10 hL hi hX hM hB K)
    | 11, _ => exact lp_tabIn (tgt := 449) (off := 417) d_Law_32 (by decide) (by decide) (by decide) (by decide) (law_c11 hL hi hX hM hB K)
    | 12, _ => exact lp_tabIn (tgt := 482) (off := 450) d_Law_32 (by decide) (by decide) (by decide) (by decide) (law_c12 hL hi hX hM hB K)
    | 13, _ => exact lp_tabIn (tgt := 505) (off := 473) d_Law_32 (by decide) (by decide) (by decide) (by decide) (law_c13 hL hi hX hM hB K)
    | 14, _ => exact lp_tabIn (tgt := 528) (off := 496) d_Law_32 (by decide) (by decide) (by decide) (by decide) (law_c14 hL hi hX hM hB K)
    | 15, _ => exact lp_tabIn (tgt := 581) (off := 549) d_Law_32 (by decide) (by decide) (by decide) (by decide) (law_c15 hL hi hX hM hB K)
    | 16, _ => exact lp_tabIn (tgt := 614) (off := 582) d_Law_32 (by decide) (by decide) (by decide) (by decide) (law_c16 hL hi hX hM hB K)
    | 17, _ => exact lp_tabIn (tgt := 637) (off := 605) d_Law_32 (by decide) (by decide) (by decide) (by decide) (law_c17 hL hi hX hM hB K)
    | 18, _ => exact lp_tabIn (tgt := 650) (off := 618) d_Law_32 (by decide) (by decide) (by decide) (by decide) (law_c18 hL hi hX hM hB K)
    | 19, _ => exact lp_tabIn (tgt := 683) (off := 651) d_Law_32 (by decide) (by decide) (by decide) (by decide) (law_c19 hL hi hX hM hB K)
    | 20, _ => exact lp_tabIn (tgt := 696) (off := 664) d_Law_32 (by decide) (by decide) (by decide) (by decide) (law_c20 hL hi hX hM hB K)
    | 21, _ => exact lp_tabIn (tgt := 709) (off := 677) d_Law_32 (by decide) (by decide) (by decide) (by decide) (law_c21 hL hi hX hM hB K)
    | 22, _ => exact lp_tabIn (tgt := 742) (off := 710) d_Law_32 (by decide) (by decide) (by decide) (by decide) (law_c22 hL hi hX hM hB K)
    | 23, _ => exact lp_tabIn (tgt := 765) (off := 733) d_Law_32 (by decide) (by decide) (by decide) (by decide) (law_c23 hL hi hX hM hB K)
    | 24, _ => exact lp_tabIn (tgt := 778) (off := 746) d_Law_32 (by decide) (by decide) (by decide) (by decide) (law_c24 hL hi hX hM hB K)
    | 25, _ => exact lp_tabIn (tgt := 821) (off := 789) d_Law_32 (by decide) (by decide) (by decide) (by decide) (law_c25 hL hi hX hM hB K)
    | 26, _ => exact lp_tabIn (tgt := 844) (off := 812) d_Law_32 (by decide) (by decide) (by decide) (by decide) (law_c26 hL hi hX hM hB K)
    | 27, _ => exact lp_tabOut (tgt := 867) d_Law_32 (by decide) (by decide) (K σ a hX hM (hB.up (by omega)))
    | 28, _ => exact lp_tabOut (tgt := 867) d_Law_32 (by decide) (by decide) (K σ a hX hM (hB.up (by omega)))
    | 29, _ => exact lp_tabOut (tgt := 867) d_Law_32 (by decide) (by decide) (K σ a hX hM (hB.up (by omega)))
    | 30, _ => exact lp_tabOut (tgt := 867) d_Law_32 (by decide) (by decide) (K σ a hX hM (hB.up (by omega)))
    | 31, _ => exact lp_tabOut (tgt := 867) d_Law_32 (by decide) (by decide) (K σ a hX hM (hB.up (by omega)))
    | k + 32, h => exact absurd h (by omega)
/-- where it all begins -/
theorem made_K : KI hp_made 3 0 := ⟨by decide +kernel, by decide, by decide, by decide +kernel, by decide⟩
theorem made_B : CB hp_made 0 := ⟨0, Nat.le_refl _, by decide +kernel⟩
theorem made_X : XS hp_made (3, 0, (fun _ => 0), 0, 0) := ⟨made_K, fun k hk => absurd hk (Nat.not_lt_zero k), ⟨by decide, by decide +kernel⟩, ⟨by decide, by decide +kernel⟩, 0, ⟨by decide +kernel, by decide, 3, 0, (fun _ => 0), 0, made_K, fun k hk => absurd hk (Nat.not_lt_zero k), by decide, by decide +kernel, Or.inl ⟨Or.inl (by decide +kernel), Or.inl (by decide +kernel)⟩⟩, by decide +kernel, by decide +kernel⟩
theorem made_M : MS hp_made (3, 0, (fun _ => 0), 0, 0) := ⟨⟨by decide +kernel, by decide, by decide⟩, ⟨by decide +kernel, by decide, fun k hk => absurd hk (Nat.not_lt_zero k)⟩, ⟨by decide, by decide +kernel⟩, ⟨by decide, by decide +kernel⟩, Or.inl (by decide +kernel)⟩
theorem knowns {s : State} {args : Array Value} (htb : ∀ w ∈ lw_big, w.before args s = true) : ∀ ci : Nat, ∃ (cC : ClassId) (iS : Nat → Nat), ∀ q, classes[ci]? = some q → u_Kn s q.1 q.2.1 q.2.2 cC iS := by
  intro ci
  match ci with
  | 0 => obtain ⟨x, y, h⟩ := u_known (C := R_P) (T := F_P) (N := 7) (n := 7) htb i_P (htb _ (tb_1 20 rfl rfl)); exact ⟨x, y, fun q hq => by cases hq; exact h⟩
  | 1 => obtain ⟨x, y, h⟩ := u_known (C := R_B) (T := F_B) (N := 14) (n := 14) htb i_B (htb _ (tb_1 146 rfl rfl)); exact ⟨x, y, fun q hq => by cases hq; exact h⟩
  | 2 => obtain ⟨x, y, h⟩ := u_known (C := R_E) (T := F_E) (N := 9) (n := 9) htb i_E (htb _ (tb_1 60 rfl rfl)); exact ⟨x, y, fun q hq => by cases hq; exact h⟩
  | 3 => obtain ⟨x, y, h⟩ := u_known (C := R_F) (T := F_F) (N := 2) (n := 2) htb i_F (htb _ (tb_1 66 rfl rfl)); exact ⟨x, y, fun q hq => by cases hq; exact h⟩
  | 4 => obtain ⟨x, y, h⟩ := u_known (C := R_L) (T := F_L) (N := 4) (n := 4) htb i_L (htb _ (tb_1 28 rfl rfl)); exact ⟨x, y, fun q hq => by cases hq; exact h⟩
  | 5 => obtain ⟨x, y, h⟩ := u_known (C := R_A) (T := F_A) (N := 9) (n := 9) htb i_A (htb _ (tb_2 31 rfl rfl)); exact ⟨x, y, fun q hq => by cases hq; exact h⟩
  | 6 => obtain ⟨x, y, h⟩ := u_known (C := R_S) (T := F_S) (N := 1) (n := 1) htb i_S (htb _ (tb_1 234 rfl rfl)); exact ⟨x, y, fun q hq => by cases hq; exact h⟩
  | 7 => obtain ⟨x, y, h⟩ := u_known (C := R_O) (T := F_O) (N := 3) (n := 3) htb i_O (htb _ (tb_1 79 rfl rfl)); exact ⟨x, y, fun q hq => by cases hq; exact h⟩
  | 8 => obtain ⟨x, y, h⟩ := u_known (C := R_T) (T := F_T) (N := 10) (n := 10) htb i_T (htb _ (tb_1 152 rfl rfl)); exact ⟨x, y, fun q hq => by cases hq; exact h⟩
  | 9 => obtain ⟨x, y, h⟩ := u_known (C := R_R) (T := F_R) (N := 3) (n := 3) htb i_R (htb _ (tb_1 95 rfl rfl)); exact ⟨x, y, fun q hq => by cases hq; exact h⟩
  | 10 => obtain ⟨x, y, h⟩ := u_known (C := R_K) (T := F_K) (N := 6) (n := 6) htb i_K (htb _ (tb_2 4 rfl rfl)); exact ⟨x, y, fun q hq => by cases hq; exact h⟩
  | 11 => obtain ⟨x, y, h⟩ := u_known (C := R_M) (T := F_M) (N := 31) (n := 31) htb i_M (htb _ (tb_5 67 rfl rfl)); exact ⟨x, y, fun q hq => by cases hq; exact h⟩
  | k + 12 => exact ⟨Classical.choice ⟨(0 : Nat)⟩, fun _ => 0, fun q hq => by simp [classes] at hq⟩
theorem arrs {s : State} {args : Array Value} (htb : ∀ w ∈ lw_big, w.before args s = true) (ty : FieldType) (ht : ty = .int ∨ ty = .boolean ∨ ty = .long) : ∃ cA : ClassId, ArrOfT s cA ty ∧ va_RA s cA ty := by
  have h : (Cond.arrayClass ty).before args s = true := by
    rcases ht with rfl | rfl | rfl
    · exact htb _ (tb_1 58 rfl rfl)
    · exact htb _ (tb_5 167 rfl rfl)
    · exact htb _ (tb_5 168 rfl rfl)
  obtain ⟨cA, kA, comp, h1, h2, h3⟩ := Cond.arrayClass_spec h
  refine ⟨cA, fun n z => ⟨fun k h => (by cases h), kA, h2, comp, h3⟩, ?_⟩
  rcases ht with rfl | rfl | rfl <;> exact h1
set_option maxHeartbeats 4000000 in
set_option maxRecDepth 100000 in
theorem whole_start {p : Program} {e : Env} {s : State} {m : MethodId} {below : List Frame} {meth : Method} {c : Code} (l : Launch) (hflags : l.flags = flags0) {b L : Nat} {xs : Nat → Int32} (hL : L ≤ 2560) (C0 : lw_At p s m meth c b L xs) : W p l e room_1 s m #[Value.ref b] below meth c s.heap [] 0 0 (lw_Z below #[Value.ref b] s) (entryFrame m ([Value.ref b] : List Value).toArray 4) := by
  obtain ⟨hx, hb, hr, hml, hown, hts, hX, hbl, hlocks, hgv⟩ := id C0
  have htb : ∀ w ∈ lw_big, w.before #[Value.ref b] s = true := fun w hw => hts w (List.mem_filter.mp hw).1
  have hN : ∀ w ∈ lw_nst, va_Nw w s := fun w hw => by
    have h2 := (List.mem_filter.mp hw).2
    have h3 := hts w (List.mem_filter.mp hw).1
    cases w <;> first | exact va_Nw.of rfl h3 | (simp [lw_isN] at h2; done)
  obtain ⟨cI, hcI⟩ := arrs htb .int (Or.inl rfl)
  obtain ⟨cZ, hcZ⟩ := arrs htb .boolean (Or.inr (Or.inl rfl))
  obtain ⟨cJ, hcJ⟩ := arrs htb .long (Or.inr (Or.inr rfl))
  obtain ⟨D, hD0⟩ : ∃ D : va_G, ∀ ci q, classes[ci]? = some q → u_Kn s q.1 q.2.1 q.2.2 (D.1 ci) (D.2 ci) :=
    ⟨(fun ci => Classical.choose (knowns htb ci), fun ci => Classical.choose (Classical.choose_spec (knowns htb ci))), fun ci q hq => Classical.choose_spec (Classical.choose_spec (knowns htb ci)) q hq⟩
  obtain ⟨cA, hcA⟩ : ∃ cA : Nat → ClassId, ∀ k, ArrOfT s (cA k) (hn_ty k) ∧ va_RA s (cA k) (hn_ty k) := by
    refine ⟨fun k => if hn_ty k = .boolean then cZ else if hn_ty k = .long then cJ else cI, fun k => ?_⟩
    have h3 : hn_ty k = .boolean ∨ hn_ty k = .long ∨ hn_ty k = .int := by
      unfold hn_ty
      split
      · exact Or.inl rfl
      · exact Or.inr (Or.inl rfl)
      · exact Or.inr (Or.inr rfl)
    dsimp only
    rcases h3 with h3 | h3 | h3
    · rw [h3, if_pos rfl]; exact hcZ
    · rw [h3, if_neg (by decide), if_pos rfl]; exact hcJ
    · rw [h3, if_neg (by decide), if_neg (by decide)]; exact hcI
  have hK : va_K D classes (hn_tys cA) s := ⟨hD0, fun k q hq => by
    have hk : k < 81 := by have := (List.getElem?_eq_some_iff.mp hq).1; simpa [hn_tys] using this
    rw [hn_tyget hk] at hq
    cases hq
    exact hcA k⟩
  obtain ⟨ad, had, had81⟩ : ∃ ad : Nat → Nat, (∀ k, k < 81 → ad k = s.heap.size + k) ∧ ad 81 = b := ⟨fun k => if k < 81 then s.heap.size + k else b, fun k hk => if_pos hk, if_neg (by decide)⟩
  have hl : hn_L ad 4 [.ref 81, .null, .null, .null] (lg_sl ([.ref b]) ++ List.replicate (4 - (lg_sl ([.ref b])).length) Slot.unset).toArray := by
    refine ⟨rfl, _, lv_entry ([.ref b]) (n := 4) (Nat.le_of_ble_eq_true rfl), fun i v hi hv => ?_⟩
    match i, hi with
    | 0, hi => cases hi; rw [show hn_tr ad (.ref 81) = .ref b by rw [← had81]; rfl]; exact List.mem_cons_self
    | 1, hi => cases hi; exact absurd rfl hv
    | 2, hi => cases hi; exact absurd rfl hv
    | 3, hi => cases hi; exact absurd rfl hv
    | i + 4, hi => simp at hi
  rw [lg_entry_eq]
  have hP0 : va_P D classes (cn_wd 0 cA ad hp0) s.heap := fun k q h => by simp [cn_wd] at h
  have hS0 : va_S (fun q => s.heap.size ≤ q) s.heap s.heap [] := va_S.rf
  refine W.newcK hx hb hown (htb _ lz_P.1) (htb _ lz_P.2.1) (htb _ lz_P.2.2.1) rfl d_Law_0.1 (Nat.le_of_ble_eq_true rfl) (Nat.le_of_ble_eq_true rfl) (hK.1 0 _ rfl).2.1 rfl fun H1 kC hkC e1 z1 o1 => ?_
  have hP1 := cn_born (n := 0) (b := s.heap.size) htb i_P ty_P rfl rfl df_P z_hp0 had rfl hP0 hK hkC e1 o1
  have hS1 : va_S (fun q => s.heap.size ≤ q) s.heap H1 [] := ⟨by omega, fun x h1 h2 => o1 x h1, hS0.2.2⟩
  refine lv_dup hx hb d_Law_3.1 rfl ?_
  have hM0 := cn_met (k_0 hp0 (z_hp0.up (by decide))) li_Law_9.2.2.2.1 rfl (by decide) l D s.heap.size ad cA had
  refine cn_after (rest := [.ref s.heap.size]) (va_runI (rest := [.ref s.heap.size]) (nL := 4) (b := s.heap.size) (As := []) ⟨hx, hb, hml, hown, htb⟩ hM0 ⟨callB_of 0 htb (hn_good li_Law_9.2.2.1) rfl rfl rfl (htb _ li_Law_9.2.1) (htb _ li_Law_9.1) li_Law_9.2.2.2.2 ⟨Nat.le_of_ble_eq_true rfl, Nat.le_of_ble_eq_true rfl⟩, rfl, htb _ lz_P.2.2.2⟩ (by have h := cn_pre (as := [.ref 0]) (b := s.heap.size) hK hN z1 hP1; rw [List.map_cons, show hn_tr ad (.ref 0) = .ref s.heap.size by rw [show s.heap.size = ad 0 from (had 0 (by decide)).symm]; rfl] at h; exact h) rfl rfl hl.size rfl (lv_room (Nat.le_of_ble_eq_true rfl)) d_Law_4.1 ⟨Nat.le_of_ble_eq_true rfl, Nat.le_of_ble_eq_true rfl⟩) (Nat.le_refl _) hS1 (fun H2 locs2 z2 hP2 hS2 => ?_)
  obtain ⟨hlen1, l1, hll1, hin1⟩ := hl
  refine lv_astore_n hx hb d_Law_7.1 rfl hll1 (by decide) rfl (fun ls2 hl2 => ?_)
  have hl2' : hn_L ad 4 [.ref 81, .ref 0, .null, .null] ls2 := hn_stL (i := 1) (v := .ref 0) hlen1 (by show Value.ref s.heap.size = .ref (ad 0); rw [had 0 (by decide)]; rfl) hin1 (by decide) (hn_ho (i := 0) rfl rfl) hl2
  refine W.newcK hx hb hown (htb _ lz_M.1) (htb _ lz_M.2.1) (htb _ lz_M.2.2.1) rfl d_Law_8.1 (Nat.le_of_ble_eq_true rfl) (Nat.le_of_ble_eq_true rfl) (hK.1 11 _ rfl).2.1 z2 fun H3 kC3 hkC3 e3 z3 o3 => ?_
  have hz56 : Z0 56 (sg_0 hp0) := zz_0 (z_hp0.up (by decide))
  have hP3 := cn_born (n := 56) (b := s.heap.size) htb i_M ty_M rfl rfl df_M hz56 had z2 hP2 hK hkC3 e3 o3
  have hS3 : va_S (fun q => s.heap.size ≤ q) s.heap H3 locs2 := ⟨by have := hS2.1; omega, fun x h1 h2 => (o3 x (by have := hS2.1; omega)).trans (hS2.2.1 x h1 h2), hS2.2.2⟩
  refine lv_dup hx hb d_Law_11.1 rfl ?_
  have hM56 := cn_met (k_56 (sg_0 hp0) (hz56.up (by decide))) li_Law_12.2.2.2.1 rfl (by decide) l D s.heap.size ad cA had
  refine cn_after (rest := [.ref (s.heap.size + 56)]) (va_runI (rest := [.ref (s.heap.size + 56)]) (nL := 4) (b := s.heap.size + 56) (As := []) ⟨hx, hb, hml, hown, htb⟩ hM56 ⟨callB_of 0 htb (hn_good li_Law_12.2.2.1) rfl rfl rfl (htb _ li_Law_12.2.1) (htb _ li_Law_12.1) li_Law_12.2.2.2.2 ⟨Nat.le_of_ble_eq_true rfl, Nat.le_of_ble_eq_true rfl⟩, rfl, htb _ lz_M.2.2.2⟩ (by have h := cn_pre (as := [.ref 56]) (b := s.heap.size) hK hN z3 hP3; rw [List.map_cons, show hn_tr ad (.ref 56) = .ref (s.heap.size + 56) by rw [show s.heap.size + 56 = ad 56 from (had 56 (by decide)).symm]; rfl] at h; exact h) rfl rfl hl2'.size rfl (lv_room (Nat.le_of_ble_eq_true rfl)) d_Law_12.1 ⟨Nat.le_of_ble_eq_true rfl, Nat.le_of_ble_eq_true rfl⟩) (Nat.le_refl _) hS3 (fun H4 locs4 z4 hP4 hS4 => ?_)
  obtain ⟨hlen2, l2, hll2, hin2⟩ := hl2'
  refine lv_astore_n hx hb d_Law_15.1 rfl hll2 (by decide) rfl (fun ls3 hl3 => ?_)
  have hl3' : hn_L ad 4 [.ref 81, .ref 0, .ref 56, .null] ls3 := hn_stL (i := 2) (v := .ref 56) hlen2 (by show Value.ref (s.heap.size + 56) = .ref (ad 56); rw [had 56 (by decide)]) hin2 (by decide) (hn_ho (i := 1) rfl rfl) hl3
  refine lv_iconst (v := 0) hx hb d_Law_16.1 (by decide) ?_
  obtain ⟨hlen3, l3, hll3, hin3⟩ := hl3'
  refine lv_istore_n hx hb d_Law_17.1 rfl hll3 (by decide) rfl (fun ls4 hl4 => ?_)
  have hl4' : hn_L ad 4 [.ref 81, .ref 0, .ref 56, .int (nI 0)] ls4 := hn_stL (i := 3) (v := .int (nI 0)) hlen3 rfl hin3 (by decide) (hn_ho (i := 2) rfl rfl) hl4
  have hP5 : va_P D classes (hn_wd cA ad hp_made) H4 := by rw [← cn_full hp_made_all]; exact hP4
  have hD5 : va_D (fun q => s.heap.size ≤ q) (hn_wd cA ad hp_made) := by rw [← cn_full hp_made_all]; exact cn_D had (by decide)
  exact law_loop hL (L + 1) 0 (Nat.zero_le _) (by omega) hp_made _ made_X made_M made_B l p e s m below meth c b D ad cA C0 hK ⟨had81, had⟩ H4 locs4 ls4 hP5 hD5 hS4 hl4'

