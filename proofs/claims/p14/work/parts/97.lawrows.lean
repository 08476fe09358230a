/-! the law's own walk: cells 0 .. 80 are the class's and the reference's, 81 is the script -/
def LW (L : Nat) (xs : Nat → Int32) (pc : Nat) (ls st : List Value) (σ : Hp) : Prop :=
  ∀ (l : Launch) (p : Program) (e : Env) (s : State) (m : MethodId) (below : List Frame) (meth : Method) (c : Code) (b : Nat) (D : va_G) (ad : Nat → Nat) (cA : Nat → ClassId), lw_At p s m meth c b L xs → va_K D classes (hn_tys cA) s → (ad 81 = b ∧ ∀ k, k < 81 → ad k = s.heap.size + k) →
  ∀ (H : Heap) (locs : List Loc) (lsA : Array Slot), va_P D classes (hn_wd cA ad σ) H → va_D (fun q => s.heap.size ≤ q) (hn_wd cA ad σ) → va_S (fun q => s.heap.size ≤ q) s.heap H locs → hn_L ad 4 ls lsA →
  W p l e room_1 s m #[Value.ref b] below meth c H locs 81 160574 (lw_Z below #[Value.ref b] s) (F0 m pc lsA (st.map (hn_tr ad)))
section LWR
variable {L pc pc' idx : Nat} {xs : Nat → Int32} {ls st st0 as : List Value} {σ : Hp}
theorem lp_aload_n {k0 : Fin 4} {x : Nat} (hd : Dc code pc (.aload_n k0) 1 pc') (hl : ls[(k0 : Nat)]? = some (.ref x)) (k : LW L xs pc' ls (.ref x :: st) σ) : LW L xs pc ls st σ := by
  intro l p e s m below meth c b D ad cA hC hK hA H locs lsA hP hD hS hL
  obtain ⟨hx, hb, hr, hml, hown, hts, hX, hbl, hlocks, hgv⟩ := id hC
  obtain ⟨hd, rfl⟩ := hd
  exact lv_aload_n hx hb hd rfl (hL.at hl (by intro h; cases h)) (k l p e s m below meth c b D ad cA hC hK hA H locs lsA hP hD hS hL)
theorem lp_iload_n {k0 : Fin 4} {x : Int32} (hd : Dc code pc (.iload_n k0) 1 pc') (hl : ls[(k0 : Nat)]? = some (.int x)) (k : LW L xs pc' ls (.int x :: st) σ) : LW L xs pc ls st σ := by
  intro l p e s m below meth c b D ad cA hC hK hA H locs lsA hP hD hS hL
  obtain ⟨hx, hb, hr, hml, hown, hts, hX, hbl, hlocks, hgv⟩ := id hC
  obtain ⟨hd, rfl⟩ := hd
  exact lv_iload_n hx hb hd rfl (hL.at hl (by intro h; cases h)) (k l p e s m below meth c b D ad cA hC hK hA H locs lsA hP hD hS hL)
theorem lp_iconst {n : Int} {v : Int32} (hd : Dc code pc (.iconst n) 1 pc') (hv : Int32.ofInt n = v) (k : LW L xs pc' ls (.int v :: st) σ) : LW L xs pc ls st σ := by
  intro l p e s m below meth c b D ad cA hC hK hA H locs lsA hP hD hS hL
  obtain ⟨hx, hb, hr, hml, hown, hts, hX, hbl, hlocks, hgv⟩ := id hC
  obtain ⟨hd, rfl⟩ := hd
  exact lv_iconst hx hb hd hv (k l p e s m below meth c b D ad cA hC hK hA H locs lsA hP hD hS hL)
theorem lp_bipush {n : Int} {v : Int32} (hd : Dc code pc (.bipush n) 2 pc') (hv : (Int8.ofInt n).toInt32 = v) (k : LW L xs pc' ls (.int v :: st) σ) : LW L xs pc ls st σ := by
  intro l p e s m below meth c b D ad cA hC hK hA H locs lsA hP hD hS hL
  obtain ⟨hx, hb, hr, hml, hown, hts, hX, hbl, hlocks, hgv⟩ := id hC
  obtain ⟨hd, rfl⟩ := hd
  exact lv_bipush hx hb hd hv (k l p e s m below meth c b D ad cA hC hK hA H locs lsA hP hD hS hL)
theorem lp_iadd {x z : Int32} (hd : Dc code pc (.iadd) 1 pc') (k : LW L xs pc' ls (.int (x + z) :: st) σ) : LW L xs pc ls (.int z :: .int x :: st) σ := by
  intro l p e s m below meth c b D ad cA hC hK hA H locs lsA hP hD hS hL
  obtain ⟨hx, hb, hr, hml, hown, hts, hX, hbl, hlocks, hgv⟩ := id hC
  obtain ⟨hd, rfl⟩ := hd
  exact lv_iadd hx hb hd (k l p e s m below meth c b D ad cA hC hK hA H locs lsA hP hD hS hL)
theorem lp_isub {x z : Int32} (hd : Dc code pc (.isub) 1 pc') (k : LW L xs pc' ls (.int (x - z) :: st) σ) : LW L xs pc ls (.int z :: .int x :: st) σ := by
  intro l p e s m below meth c b D ad cA hC hK hA H locs lsA hP hD hS hL
  obtain ⟨hx, hb, hr, hml, hown, hts, hX, hbl, hlocks, hgv⟩ := id hC
  obtain ⟨hd, rfl⟩ := hd
  exact lv_isub hx hb hd (k l p e s m below meth c b D ad cA hC hK hA H locs lsA hP hD hS hL)
theorem lp_iand {x z : Int32} (hd : Dc code pc (.iand) 1 pc') (k : LW L xs pc' ls (.int (x &&& z) :: st) σ) : LW L xs pc ls (.int z :: .int x :: st) σ := by
  intro l p e s m below meth c b D ad cA hC hK hA H locs lsA hP hD hS hL
  obtain ⟨hx, hb, hr, hml, hown, hts, hX, hbl, hlocks, hgv⟩ := id hC
  obtain ⟨hd, rfl⟩ := hd
  exact lv_iand hx hb hd (k l p e s m below meth c b D ad cA hC hK hA H locs lsA hP hD hS hL)
theorem lp_pop {v : Value} (hd : Dc code pc (.pop) 1 pc') (hv : v.category = 1) (k : LW L xs pc' ls st σ) : LW L xs pc ls (v :: st) σ := by
  intro l p e s m below meth c b D ad cA hC hK hA H locs lsA hP hD hS hL
  obtain ⟨hx, hb, hr, hml, hown, hts, hX, hbl, hlocks, hgv⟩ := id hC
  obtain ⟨hd, rfl⟩ := hd
  exact lv_pop hx hb hd (by rw [hn_tr_cat]; exact hv) (k l p e s m below meth c b D ad cA hC hK hA H locs lsA hP hD hS hL)
theorem lp_goto {off : Int} {tgt : Nat} (hd : Dc code pc (.goto off) 3 pc') (ht : (pc : Int) + off = (tgt : Int)) (k : LW L xs tgt ls st σ) : LW L xs pc ls st σ := by
  intro l p e s m below meth c b D ad cA hC hK hA H locs lsA hP hD hS hL
  obtain ⟨hx, hb, hr, hml, hown, hts, hX, hbl, hlocks, hgv⟩ := id hC
  obtain ⟨hd, rfl⟩ := hd
  exact lv_goto hx hb hd ht (k l p e s m below meth c b D ad cA hC hK hA H locs lsA hP hD hS hL)
theorem lp_icmp_eq {x z : Int32} {off : Int} {tgt : Nat} (hd : Dc code pc (.if_icmp .eq off) 3 pc') (ht : (pc : Int) + off = (tgt : Int)) (kt : x = z → LW L xs tgt ls st σ) (kf : ¬ x = z → LW L xs pc' ls st σ) : LW L xs pc ls (.int z :: .int x :: st) σ := by
  intro l p e s m below meth c b D ad cA hC hK hA H locs lsA hP hD hS hL
  obtain ⟨hx, hb, hr, hml, hown, hts, hX, hbl, hlocks, hgv⟩ := id hC
  obtain ⟨hd, rfl⟩ := hd
  exact lv_icmp_eq hx hb hd ht (fun h => kt h l p e s m below meth c b D ad cA hC hK hA H locs lsA hP hD hS hL) (fun h => kf h l p e s m below meth c b D ad cA hC hK hA H locs lsA hP hD hS hL)
theorem lp_icmp_gt {x z : Int32} {off : Int} {tgt : Nat} (hd : Dc code pc (.if_icmp .gt off) 3 pc') (ht : (pc : Int) + off = (tgt : Int)) (kt : z < x → LW L xs tgt ls st σ) (kf : ¬ z < x → LW L xs pc' ls st σ) : LW L xs pc ls (.int z :: .int x :: st) σ := by
  intro l p e s m below meth c b D ad cA hC hK hA H locs lsA hP hD hS hL
  obtain ⟨hx, hb, hr, hml, hown, hts, hX, hbl, hlocks, hgv⟩ := id hC
  obtain ⟨hd, rfl⟩ := hd
  exact lv_icmp_gt hx hb hd ht (fun h => kt h l p e s m below meth c b D ad cA hC hK hA H locs lsA hP hD hS hL) (fun h => kf h l p e s m below meth c b D ad cA hC hK hA H locs lsA hP hD hS hL)
theorem lp_tabIn {dflt lo hi : Int} {offs : Array Int} {n tgt : Nat} {x : Int32} {off : Int} (hd : Dc code pc (.tableswitch dflt lo hi offs) n pc') (h1 : ¬ x.toInt < lo) (h2 : ¬ hi < x.toInt) (ho : offs[(x.toInt - lo).toNat]? = some off) (ht : (pc : Int) + off = (tgt : Int)) (k : LW L xs tgt ls st σ) : LW L xs pc ls (.int x :: st) σ := by
  intro l p e s m below meth c b D ad cA hC hK hA H locs lsA hP hD hS hL
  obtain ⟨hx, hb, hr, hml, hown, hts, hX, hbl, hlocks, hgv⟩ := id hC
  obtain ⟨hd, rfl⟩ := hd
  exact lv_tableIn hx hb hd h1 h2 ho ht (k l p e s m below meth c b D ad cA hC hK hA H locs lsA hP hD hS hL)
theorem lp_tabOut {dflt lo hi : Int} {offs : Array Int} {n tgt : Nat} {x : Int32} (hd : Dc code pc (.tableswitch dflt lo hi offs) n pc') (h : x.toInt < lo ∨ hi < x.toInt) (ht : (pc : Int) + dflt = (tgt : Int)) (k : LW L xs tgt ls st σ) : LW L xs pc ls (.int x :: st) σ := by
  intro l p e s m below meth c b D ad cA hC hK hA H locs lsA hP hD hS hL
  obtain ⟨hx, hb, hr, hml, hown, hts, hX, hbl, hlocks, hgv⟩ := id hC
  obtain ⟨hd, rfl⟩ := hd
  exact lv_tableOut hx hb hd h ht (k l p e s m below meth c b D ad cA hC hK hA H locs lsA hP hD hS hL)
theorem lp_iinc {n : Int} {x v : Int32} {a0 a1 a2 : Value} (hd : Dc code pc (.iinc 3 n) 3 pc') (hv : x + Int32.ofInt n = v) (hc : a2.category = 1) (k : LW L xs pc' [a0, a1, a2, .int v] st σ) : LW L xs pc [a0, a1, a2, .int x] st σ := by
  intro l p e s m below meth c b D ad cA hC hK hA H locs lsA hP hD hS hL
  obtain ⟨hx, hb, hr, hml, hown, hts, hX, hbl, hlocks, hgv⟩ := id hC
  obtain ⟨hd, rfl⟩ := hd
  obtain ⟨hlen, l0, hl, hin⟩ := hL
  obtain ⟨q, hq⟩ := List.getElem?_of_mem (hin 3 (.int x) rfl (by intro h; cases h))
  exact lv_iinc hx hb hd hl hq hv (by decide) rfl (fun ls2 hl2 => k l p e s m below meth c b D ad cA hC hK hA H locs ls2 hP hD hS (hn_stL (i := 3) (v := .int v) hlen rfl hin (by decide) (hn_ho (i := 2) rfl hc) hl2))
/-- the script's length, one of its ints -/
theorem lp_slen (hd : Dc code pc .arraylength 1 pc') (k : LW L xs pc' ls (.int (nI L) :: st) σ) : LW L xs pc ls (.ref 81 :: st) σ := by
  intro l p e s m below meth c b D ad cA hC hK hA H locs lsA hP hD hS hL
  obtain ⟨hx, hb, hr, hml, hown, hts, hX, hbl, hlocks, hgv⟩ := id hC
  obtain ⟨hd, rfl⟩ := hd
  rw [List.map_cons, show hn_tr ad (.ref 81) = .ref b by rw [← hA.1]; rfl]
  exact va_slen hx hb hX hbl (Nat.not_le.mpr hbl) hS hd (k l p e s m below meth c b D ad cA hC hK hA H locs lsA hP hD hS hL)
theorem lp_sld {i : Int32} (hd : Dc code pc .iaload 1 pc') (hi : vp_in i L) (k : LW L xs pc' ls (.int (xs i.toNatClampNeg) :: st) σ) : LW L xs pc ls (.int i :: .ref 81 :: st) σ := by
  intro l p e s m below meth c b D ad cA hC hK hA H locs lsA hP hD hS hL
  obtain ⟨hx, hb, hr, hml, hown, hts, hX, hbl, hlocks, hgv⟩ := id hC
  obtain ⟨hd, rfl⟩ := hd
  rw [List.map_cons, List.map_cons, show hn_tr ad (.ref 81) = .ref b by rw [← hA.1]; rfl]
  exact va_sld hx hb hX hbl (Nat.not_le.mpr hbl) hS hi hd (k l p e s m below meth c b D ad cA hC hK hA H locs lsA hP hD hS hL)
theorem lp_call {y' : Mth} {P : Option Value → Hp → Prop} {r ci n : Nat} {fs : List (Nat × Nat)} {C : String} {T : u_T} {N : Nat} (hd : Dc code pc (.invokevirtual idx) 3 pc') (hl0 : hn_LV R_law idx y' as.length) (hr0 : kdl[r]? = some (ci + 3, n, fs)) (hcl : classes[ci]? = some (C, T, N)) (hCn : C = (hn_nm y').cls) (hfit : hn_fit room_1 y') (hlen : ((Value.ref r :: as).flatMap fun v => if v.category = 2 then [v, Value.null] else [v]).length ≤ hn_ml y') (h8 : (st.map fun v => v.category).sum ≤ 8) (hM : Ct y' (.ref r :: as) σ P) (hst : st0 = as.reverse ++ .ref r :: st) (k : ∀ (v : Option Value) (τ : Hp), P v τ → LW L xs pc' ls (v.toList ++ st) τ) : LW L xs pc ls st0 σ := by
  intro l p e s m below meth c b D ad cA hC hK hA H locs lsA hP hD hS hL
  obtain ⟨hx, hb, hr, hml, hown, hts, hX, hbl, hlocks, hgv⟩ := id hC
  obtain ⟨hd, rfl⟩ := hd
  subst hst
  subst hCn
  have htb : ∀ w ∈ lw_big, w.before #[Value.ref b] s = true := fun w hw => hts w (List.mem_filter.mp hw).1
  have hN : ∀ w ∈ lw_nst, va_Nw w s := fun w hw => by
    have h2 := (List.mem_filter.mp hw).2
    have h3 := hts w (List.mem_filter.mp hw).1
    cases w <;> first | exact va_Nw.of rfl h3 | (simp [lw_isN] at h2; done)
  obtain ⟨hB, hst1, hst2⟩ := hl0
  have hpl : plainFor (hn_nm y') = true := hB.2.2.2.1
  have hpre := hn_pre (as := .ref r :: as) hP hD hK hN
  refine hn_after (rest := st.map (hn_tr ad)) (va_runV (nL := 4) (C := (hn_nm y').cls) (b := ad r) (As := as.map (hn_tr ad)) ⟨hx, hb, hml, hown, htb⟩ (hn_met (as := .ref r :: as) hM hpl hlen l D ad cA H.size) ⟨hn_callB htb hB hfit, htb _ hst1, htb _ hst2⟩ ⟨hpre.1, va_recv hK hP hcl (hn_at3 hr0), hpre.2⟩ rfl (by simp) hL.size (by simp [hn_tr]) (lv_room (by rw [hn_cats]; exact h8)) hd ⟨Nat.le_of_ble_eq_true rfl, Nat.le_of_ble_eq_true rfl⟩) hD hS (fun _ h => h) (fun v τ H1 locs1 hq hP1 hD1 hS1 => by rw [← hn_push]; exact k v τ hq l p e s m below meth c b D ad cA hC hK hA H1 locs1 lsA hP1 hD1 hS1 hL)
theorem lp_end (hd : Dc code pc .ireturn 1 pc') : LW L xs pc ls [.int 1] σ := by
  intro l p e s m below meth c b D ad cA hC hK hA H locs lsA hP hD hS hL
  obtain ⟨hx, hb, hr, hml, hown, hts, hX, hbl, hlocks, hgv⟩ := id hC
  refine va_forget hS.2.2 ?_
  refine W.widen (k := 600000) (n := 7302250) (Nat.le_of_ble_eq_true rfl) (Nat.le_of_ble_eq_true rfl) ?_
  exact lw_ret hx hb hr hlocks hd.1
end LWR
theorem and31 (x : Int32) : ∃ k, k < 32 ∧ x &&& 31 = nI k := by
  refine ⟨x.toBitVec.toNat &&& 31, ?_, ?_⟩
  · have := Nat.and_le_right (n := x.toBitVec.toNat) (m := 31)
    omega
  · apply Int32.toBitVec_inj.mp
    apply BitVec.eq_of_toNat_eq
    have h := Nat.and_le_right (n := x.toBitVec.toNat) (m := 31)
    rw [Int32.toBitVec_and, BitVec.toNat_and]
    show x.toBitVec.toNat &&& 31 = (BitVec.ofNat 32 _).toNat
    rw [BitVec.toNat_ofNat, Nat.mod_eq_of_lt (by omega)]
theorem law_ge {L i : Nat} (hL : L ≤ 2560) (hi : i ≤ L) (h : ¬ nI L - 5 < nI i) : i + 5 ≤ L := by
  rcases Nat.lt_or_ge L 5 with q | q
  · exfalso
    rcases (show L = 0 ∨ L = 1 ∨ L = 2 ∨ L = 3 ∨ L = 4 by omega) with rfl | rfl | rfl | rfl | rfl
    · obtain rfl : i = 0 := by omega
      exact h (by decide)
    · rcases (show i = 0 ∨ i = 1 by omega) with rfl | rfl <;> exact h (by decide)
    · rcases (show i = 0 ∨ i = 1 ∨ i = 2 by omega) with rfl | rfl | rfl <;> exact h (by decide)
    · rcases (show i = 0 ∨ i = 1 ∨ i = 2 ∨ i = 3 by omega) with rfl | rfl | rfl | rfl <;> exact h (by decide)
    · rcases (show i = 0 ∨ i = 1 ∨ i = 2 ∨ i = 3 ∨ i = 4 by omega) with rfl | rfl | rfl | rfl | rfl <;> exact h (by decide)
  · have e : nI L - 5 = nI (L - 5) := by
      have : nI L = nI (L - 5) + 5 := by
        show nI L = nI (L - 5) + nI 5
        rw [nI_add]
        congr 1
        omega
      rw [this]
      show nI (L - 5) + 5 - 5 = nI (L - 5)
      exact Int32.add_sub_cancel _ _
    rw [e] at h
    rcases Nat.lt_or_ge (L - 5) i with q2 | q2
    · exact absurd (nI_lt q2 (by omega)) h
    · omega
theorem law_in {L i j : Nat} (hL : L ≤ 2560) (h : i + 5 ≤ L) (hj : j < 5) : vp_in (nI i + nI j) L := by
  rw [nI_add]
  exact vp_in_nI (by omega) (by omega)
theorem law_in0 {L i : Nat} (hL : L ≤ 2560) (h : i + 5 ≤ L) : vp_in (nI i) L := vp_in_nI (by omega) (by omega)
