/-! making: the first n cells stand; a reference that isn't written yet is null (1 in its place among the ints says that it is written) -/
def cn_fv (ad : Nat → Nat) (σ : Hp) (k j : Nat) (q : Nat × Nat) : Value := if q.1 = 1 then .long (σ.2 k j) else if q.1 = 2 then (if σ.1 k j = 1 then .ref (ad q.2) else .null) else .int (σ.1 k j)
def cn_cell (cA : Nat → ClassId) (ad : Nat → Nat) (σ : Hp) (k : Nat) : va_E := match hn_kd k with
  | (0, n, _) => .inl (cA k, n, .inl (σ.1 k))
  | (1, n, _) => .inl (cA k, n, .inl (σ.1 k))
  | (2, n, _) => .inl (cA k, n, .inr (.inl (σ.2 k)))
  | (t + 3, _, fs) => .inr (t, fs.mapIdx (cn_fv ad σ k))
def cn_wd (n : Nat) (cA : Nat → ClassId) (ad : Nat → Nat) (σ : Hp) : va_W := (List.range n).map fun k => (ad k, cn_cell cA ad σ k)
/-- all from n on are as they are made -/
def Z0 (n : Nat) (σ : Hp) : Prop := ∀ k, n ≤ k → σ.1 k = (fun _ => 0) ∧ σ.2 k = (fun _ => 0)
theorem Z0.w {n r j : Nat} {x : Int32} {σ : Hp} (h : Z0 n σ) (hr : r < n) : Z0 n (wI σ r j x) := fun k hk => ⟨(wI_ne (by omega)).trans (h k hk).1, (h k hk).2⟩
theorem Z0.up {n m : Nat} {σ : Hp} (h : Z0 n σ) (hm : n ≤ m) : Z0 m σ := fun k hk => h k (Nat.le_trans hm hk)
theorem cn_get {n k : Nat} {cA : Nat → ClassId} {ad : Nat → Nat} {σ : Hp} (h : k < n) : (cn_wd n cA ad σ)[k]? = some (ad k, cn_cell cA ad σ k) := by
  simp [cn_wd, h]
theorem cn_at3 {n : Nat} {cA : Nat → ClassId} {ad : Nat → Nat} {σ : Hp} {k t m : Nat} {fs : List (Nat × Nat)} (hn : k < n) (h : kdl[k]? = some (t + 3, m, fs)) : (cn_wd n cA ad σ)[k]? = some (ad k, .inr (t, fs.mapIdx (cn_fv ad σ k))) := by
  rw [cn_get hn, cn_cell, hn_kd_of h]
theorem cn_push (n : Nat) (cA : Nat → ClassId) (ad : Nat → Nat) (σ : Hp) : cn_wd (n + 1) cA ad σ = cn_wd n cA ad σ ++ [(ad n, cn_cell cA ad σ n)] := by
  rw [cn_wd, cn_wd, List.range_succ, List.map_append]
  rfl
theorem cn_cell_ne {cA : Nat → ClassId} {ad : Nat → Nat} {σ τ : Hp} {k : Nat} (h1 : σ.1 k = τ.1 k) (h2 : σ.2 k = τ.2 k) : cn_cell cA ad σ k = cn_cell cA ad τ k := by
  unfold cn_cell
  rw [h1, h2]
  split <;> try rfl
  congr 2
  unfold cn_fv
  rw [h1, h2]
theorem cn_setF {n : Nat} {cA : Nat → ClassId} {ad : Nat → Nat} {σ : Hp} {k t m j : Nat} {v : Value} {x : Int32} {fs : List (Nat × Nat)} {q : Nat × Nat} (hn : k < n) (h : kdl[k]? = some (t + 3, m, fs)) (hq : fs[j]? = some q) (hv : v = cn_fv ad (wI σ k j x) k j q) :
    (cn_wd n cA ad σ).set k (ad k, .inr (t, (fs.mapIdx (cn_fv ad σ k)).set j v)) = cn_wd n cA ad (wI σ k j x) := by
  apply List.ext_getElem?
  intro i
  by_cases hi : i = k
  · subst hi
    rw [List.getElem?_set_self (by simp [cn_wd]; exact hn), cn_get hn, cn_cell, hn_kd_of h]
    refine congrArg (fun z => some (ad i, Sum.inr (t, z))) ?_
    apply List.ext_getElem?
    intro i2
    by_cases hi2 : i2 = j
    · subst hi2
      rw [List.getElem?_set_self (by simp; exact (List.getElem?_eq_some_iff.mp hq).1), List.getElem?_mapIdx, hq, hv]
      rfl
    · rw [List.getElem?_set_ne (Ne.symm hi2), List.getElem?_mapIdx, List.getElem?_mapIdx]
      congr 1
      funext q
      unfold cn_fv
      rw [show (wI σ i j x).1 i i2 = σ.1 i i2 by simp [wI, upd, hi2], show (wI σ i j x).2 i i2 = σ.2 i i2 from rfl]
  · rw [List.getElem?_set_ne (Ne.symm hi)]
    by_cases hl : i < n
    · rw [cn_get hl, cn_get hl, cn_cell_ne (wI_ne hi).symm rfl]
    · rw [List.getElem?_eq_none (by simp [cn_wd]; omega), List.getElem?_eq_none (by simp [cn_wd]; omega)]
/-- the whole, when all references are written -/
def cn_all (σ : Hp) : Bool := (List.range 81).all fun k => match hn_kd k with
  | (_ + 3, _, fs) => (List.range fs.length).all fun j => (fs.getD j (0, 0)).1 != 2 || σ.1 k j == 1
  | _ => true
theorem cn_full {cA : Nat → ClassId} {ad : Nat → Nat} {σ : Hp} (h : cn_all σ = true) : cn_wd 81 cA ad σ = hn_wd cA ad σ := by
  rw [cn_wd, hn_wd]
  refine List.map_congr_left fun k hk => ?_
  have h1 := List.all_eq_true.mp h k hk
  rw [cn_cell, hn_cell]
  revert h1
  rcases hn_kd k with ⟨t, m, fs⟩
  match t with
  | 0 => exact fun _ => rfl
  | 1 => exact fun _ => rfl
  | 2 => exact fun _ => rfl
  | t + 3 =>
    intro h1
    dsimp only at h1 ⊢
    congr 3
    apply List.ext_getElem?
    intro j
    rw [List.getElem?_mapIdx, List.getElem?_mapIdx]
    cases hq : fs[j]? with
    | none => rfl
    | some q =>
      have hj := (List.getElem?_eq_some_iff.mp hq).1
      have h2 := List.all_eq_true.mp h1 j (List.mem_range.mpr hj)
      rw [List.getD_eq_getElem?_getD, hq] at h2
      simp only [Option.getD_some, Bool.or_eq_true, bne_iff_ne, ne_eq, beq_iff_eq] at h2
      simp only [Option.map_some]
      congr 1
      unfold cn_fv hn_fv
      split
      · rfl
      · split
        · rename_i h3
          rcases h2 with h2 | h2
          · exact absurd h3 h2
          · rw [if_pos h2]
        · rfl
def cn_rm (y : Mth) (mc ms : Nat) : Room := { frames := y.2.2.2.2.1, cells := mc, slots := ms, locals := y.2.2.2.2.2 }
def cn_Q (cA : Nat → ClassId) (ad : Nat → Nat) (D : va_G) (b n : Nat) (σ : Hp) : Array Value → State → Outcome → State → Prop := fun _ st oc t =>
  (oc = .returned none ∧ t.heap.size = b + n ∧ va_P D classes (cn_wd n cA ad σ) t.heap) ∧ va_F (fun q => b ≤ q) st t
def cn_P (cA : Nat → ClassId) (ad : Nat → Nat) (D : va_G) (b n : Nat) (as : List Value) (σ : Hp) : Array Value → State → Prop :=
  va_Pc (as.map (hn_tr ad)) (fun U => U.heap.size = b + n ∧ va_P D classes (cn_wd n cA ad σ) U.heap ∧ va_K D classes (hn_tys cA) U ∧ ∀ w ∈ lw_nst, va_Nw w U)
def cn_Cx (p : Program) (s : State) (m : MethodId) (args : Array Value) (meth : Method) (c : Code) (y : Mth) (D : va_G) (b : Nat) (ad : Nat → Nat) (cA : Nat → ClassId) : Prop :=
  p.tables.exec = Jvm.exec ∧ c.code = hn_by y ∧ meth.sig.returnType = hn_rt y ∧ meth.locks = false ∧ c.maxLocals = hn_ml y ∧ s.vm.findClass (hn_nm y).cls = some m.cls ∧ (∀ w ∈ lw_big, w.before args s = true) ∧ (∀ w ∈ lw_nst, va_Nw w s) ∧ va_K D classes (hn_tys cA) s ∧ b ≤ s.heap.size ∧ meth.name = "<init>" ∧ ∀ k, k < 81 → ad k = b + k
def CW (y : Mth) (mc ms : Nat) (pc : Nat) (ls st : List Value) (n : Nat) (σ : Hp) (cells slots n2 : Nat) (σ2 : Hp) : Prop :=
  ∀ (l : Launch) (p : Program) (e : Env) (s : State) (m : MethodId) (args : Array Value) (below : List Frame) (meth : Method) (c : Code) (D : va_G) (b : Nat) (ad : Nat → Nat) (cA : Nat → ClassId), cn_Cx p s m args meth c y D b ad cA →
  ∀ (H : Heap) (locs : List Loc) (lsA : Array Slot), H.size = b + n → va_P D classes (cn_wd n cA ad σ) H → va_S (fun q => b ≤ q) s.heap H locs → hn_L ad (hn_ml y) ls lsA →
  W p l e (cn_rm y mc ms) s m args below meth c H locs cells slots (MQ below (cn_Q cA ad D b n2 σ2) args s mc ms (fun q => b ≤ q)) (F0 m pc lsA (st.map (hn_tr ad)))
/-- a constructor's contract -/
def CM (y : Mth) (mc ms n : Nat) (as : List Value) (σ : Hp) (n2 : Nat) (σ2 : Hp) : Prop := CW y mc ms 0 (hn_ent (hn_ml y) as) [] n σ 0 0 n2 σ2
theorem cn_frame_blind (cA : Nat → ClassId) (ad : Nat → Nat) (D : va_G) (b n : Nat) (as : List Value) (σ : Hp) : FrameBlind (cn_P cA ad D b n as σ) :=
  fun a U g mk q => by
    obtain ⟨q0, q1, qP, qK, qN⟩ := q
    exact ⟨q0, q1, qP, va_K.moved (u := U) (U := U.calling g mk a) (Vm.Alike.refl U.vm) qK, fun w hw => by
      have h2 := (List.mem_filter.mp hw).2
      have h3 := qN w hw
      cases w <;> first | exact va_Nw.same rfl (u := U) rfl h3 | (simp [lw_isN] at h2; done)⟩
set_option maxHeartbeats 1000000 in
theorem cn_met {y : Mth} {mc ms n n2 : Nat} {as : List Value} {σ σ2 : Hp} (h : CM y mc ms n as σ n2 σ2) (hy : plainFor (hn_nm y) = true) (hi : (hn_nm y).name = "<init>") (hlen : (as.flatMap fun v => if v.category = 2 then [v, Value.null] else [v]).length ≤ hn_ml y) (l : Launch) (D : va_G) (b : Nat) (ad : Nat → Nat) (cA : Nat → ClassId) (had : ∀ k, k < 81 → ad k = b + k) :
    Met l (hn_nm y) (hn_ws y) (cn_rm y mc ms) (cn_P cA ad D b n as σ) (cn_Q cA ad D b n2 σ2) mc ms (fun q => b ≤ q) := by
  refine hn_ofW (cc := hn_by y) (maxL := hn_ml y) (ret := hn_rt y) hy rfl ?_
  intro p e s m args below meth c s₁ B hml hv
  obtain ⟨rfl, hsz, hP, hK, hN⟩ := hv
  have hts := atoms_spec (ws := hn_ws y) B.pre
  have hown : s.vm.findClass (hn_nm y).cls = some m.cls := findClass_of_methodNamed B.named
  have hin : meth.name = "<init>" := (name_of_methodNamed B.named B.method).1.trans hi
  have hl := lv_entry (as.map (hn_tr ad)) (n := hn_ml y) (by rw [hn_slen]; exact hlen)
  rw [lg_entry_eq]
  refine h l p e s m _ below meth c D b ad cA ⟨B.exec, B.bytes, B.returns, B.notSynchronized, hml, hown, fun w hw => hts w (List.mem_cons_of_mem _ hw), hN, hK, by omega, hin, had⟩ s.heap [] _ hsz hP va_S.rf ⟨?_, _, hl, fun i v hi hv => ?_⟩
  · simp only [hn_ent, List.length_append, List.length_replicate]
    omega
  · have := hn_ent_in ad as 0 i v _ hi hv
    rwa [Nat.zero_add] at this
section CWR
variable {y y' : Mth} {mc ms mc' ms' pc pc' idx n n2 n3 cells slots : Nat} {ls st st0 as : List Value} {σ σ2 σ3 : Hp}
theorem cn_D {n : Nat} {cA : Nat → ClassId} {ad : Nat → Nat} {σ : Hp} {b : Nat} (had : ∀ k, k < 81 → ad k = b + k) (hn : n ≤ 81) : va_D (fun q => b ≤ q) (cn_wd n cA ad σ) := by
  have key : ∀ (i : Nat) (p : Nat × va_E), (cn_wd n cA ad σ)[i]? = some p → i < n ∧ p.1 = b + i := by
    intro i p h
    have hi : i < n := by have := (List.getElem?_eq_some_iff.mp h).1; simpa [cn_wd] using this
    rw [cn_get hi] at h
    cases h
    exact ⟨hi, had i (by omega)⟩
  refine ⟨fun i j p q h1 h2 e => ?_, fun k q h => ?_⟩
  · have := (key i p h1).2
    have := (key j q h2).2
    omega
  · have := (key k q h).2
    show b ≤ q.1
    omega
theorem cw_aload_n {k0 : Fin 4} {x : Nat} (hd : Dc (hn_by y) pc (.aload_n k0) 1 pc') (hl : ls[(k0 : Nat)]? = some (.ref x)) (k : CW y mc ms pc' ls (.ref x :: st) n σ cells slots n2 σ2) : CW y mc ms pc ls st n σ cells slots n2 σ2 := by
  intro l p e s m args below meth c D b ad cA hC H locs lsA hz hP hS hL
  obtain ⟨hx, hb, hr, hlk, hml, hown, hts, hN, hK, hb0, hnm, had⟩ := id hC
  obtain ⟨hd, rfl⟩ := hd
  exact lv_aload_n hx hb hd rfl (hL.at hl (by intro h; cases h)) (k l p e s m args below meth c D b ad cA hC H locs lsA hz hP hS hL)
theorem cw_iload_n {k0 : Fin 4} {x : Int32} (hd : Dc (hn_by y) pc (.iload_n k0) 1 pc') (hl : ls[(k0 : Nat)]? = some (.int x)) (k : CW y mc ms pc' ls (.int x :: st) n σ cells slots n2 σ2) : CW y mc ms pc ls st n σ cells slots n2 σ2 := by
  intro l p e s m args below meth c D b ad cA hC H locs lsA hz hP hS hL
  obtain ⟨hx, hb, hr, hlk, hml, hown, hts, hN, hK, hb0, hnm, had⟩ := id hC
  obtain ⟨hd, rfl⟩ := hd
  exact lv_iload_n hx hb hd rfl (hL.at hl (by intro h; cases h)) (k l p e s m args below meth c D b ad cA hC H locs lsA hz hP hS hL)
theorem cw_iconst {i : Int} {v : Int32} (hd : Dc (hn_by y) pc (.iconst i) 1 pc') (hv : Int32.ofInt i = v) (k : CW y mc ms pc' ls (.int v :: st) n σ cells slots n2 σ2) : CW y mc ms pc ls st n σ cells slots n2 σ2 := by
  intro l p e s m args below meth c D b ad cA hC H locs lsA hz hP hS hL
  obtain ⟨hx, hb, hr, hlk, hml, hown, hts, hN, hK, hb0, hnm, had⟩ := id hC
  obtain ⟨hd, rfl⟩ := hd
  exact lv_iconst hx hb hd hv (k l p e s m args below meth c D b ad cA hC H locs lsA hz hP hS hL)
theorem cw_bipush {i : Int} {v : Int32} (hd : Dc (hn_by y) pc (.bipush i) 2 pc') (hv : (Int8.ofInt i).toInt32 = v) (k : CW y mc ms pc' ls (.int v :: st) n σ cells slots n2 σ2) : CW y mc ms pc ls st n σ cells slots n2 σ2 := by
  intro l p e s m args below meth c D b ad cA hC H locs lsA hz hP hS hL
  obtain ⟨hx, hb, hr, hlk, hml, hown, hts, hN, hK, hb0, hnm, had⟩ := id hC
  obtain ⟨hd, rfl⟩ := hd
  exact lv_bipush hx hb hd hv (k l p e s m args below meth c D b ad cA hC H locs lsA hz hP hS hL)
theorem cw_sipush {i : Int} {v : Int32} (hd : Dc (hn_by y) pc (.sipush i) 3 pc') (hv : (Int16.ofInt i).toInt32 = v) (k : CW y mc ms pc' ls (.int v :: st) n σ cells slots n2 σ2) : CW y mc ms pc ls st n σ cells slots n2 σ2 := by
  intro l p e s m args below meth c D b ad cA hC H locs lsA hz hP hS hL
  obtain ⟨hx, hb, hr, hlk, hml, hown, hts, hN, hK, hb0, hnm, had⟩ := id hC
  obtain ⟨hd, rfl⟩ := hd
  exact lv_sipush hx hb hd hv (k l p e s m args below meth c D b ad cA hC H locs lsA hz hP hS hL)
theorem cw_ldc {v : Int32} (hd : Dc (hn_by y) pc (.ldc idx) 2 pc') (hw : Cond.constant (hn_nm y).cls idx v ∈ lw_big) (k : CW y mc ms pc' ls (.int v :: st) n σ cells slots n2 σ2) : CW y mc ms pc ls st n σ cells slots n2 σ2 := by
  intro l p e s m args below meth c D b ad cA hC H locs lsA hz hP hS hL
  obtain ⟨hx, hb, hr, hlk, hml, hown, hts, hN, hK, hb0, hnm, had⟩ := id hC
  obtain ⟨hd, rfl⟩ := hd
  exact lv_ldc hx hb hown (hts _ hw) hd (k l p e s m args below meth c D b ad cA hC H locs lsA hz hP hS hL)
theorem cw_dup {v : Value} (hd : Dc (hn_by y) pc (.dup) 1 pc') (hv : v.category = 1) (k : CW y mc ms pc' ls (v :: v :: st) n σ cells slots n2 σ2) : CW y mc ms pc ls (v :: st) n σ cells slots n2 σ2 := by
  intro l p e s m args below meth c D b ad cA hC H locs lsA hz hP hS hL
  obtain ⟨hx, hb, hr, hlk, hml, hown, hts, hN, hK, hb0, hnm, had⟩ := id hC
  obtain ⟨hd, rfl⟩ := hd
  exact lv_dup hx hb hd (by rw [hn_tr_cat]; exact hv) (k l p e s m args below meth c D b ad cA hC H locs lsA hz hP hS hL)
theorem cw_obj {r : Nat} (hd : Dc (hn_by y) pc (.invokespecial idx) 3 pc') (h1 : Cond.methodLink (hn_nm y).cls idx objectInit ∈ lw_big) (h2 : Cond.instanceMethod objectInit ∈ lw_big) (h3 : Cond.code objectInit ⟨#[0xb1]⟩ 1 none ∈ lw_big) (hf : 1 ≤ (cn_rm y mc ms).frames) (hlo : (st.map fun v => v.category).sum + 12 ≤ (cn_rm y mc ms).locals) (k : CW y mc ms pc' ls st n σ cells slots n2 σ2) : CW y mc ms pc ls (.ref r :: st) n σ cells slots n2 σ2 := by
  intro l p e s m args below meth c D b ad cA hC H locs lsA hz hP hS hL
  obtain ⟨hx, hb, hr, hlk, hml, hown, hts, hN, hK, hb0, hnm, had⟩ := id hC
  obtain ⟨hd, rfl⟩ := hd
  refine W.objInit hx hb hown (hts _ h1) (hts _ h2) (hts _ h3) rfl (hL.size.trans hml.symm) rfl hd hf ?_ (k l p e s m args below meth c D b ad cA hC H locs lsA hz hP hS hL)
  rw [hn_cats]
  show 2 * 0 + _ + 12 ≤ _
  omega
def cn_df (q : Nat × Nat) : Value := if q.1 = 1 then .long 0 else if q.1 = 2 then .null else .int 0
theorem cn_born {s : State} {args : Array Value} {D : va_G} {b : Nat} {ad : Nat → Nat} {cA : Nat → ClassId} {H H1 : Heap} {kC : Class} {tys : List (ClassId × FieldType)} {ci n0 N : Nat} {C : String} {T : u_T} {ty : Nat → FieldType} {fs : List (Nat × Nat)} (hts : ∀ w ∈ lw_big, w.before args s = true) (hi : ∀ w ∈ u_ws C T N, w ∈ lw_big) (hty : ∀ k, k < N → parseFieldDescriptor (T k).2.2.1 = some (ty k)) (hc : classes[ci]? = some (C, T, N)) (hk : kdl[n]? = some (ci + 3, n0, fs)) (hdf : ∀ j, j < N → defaultValue (ty j) = vp_V (fs.map cn_df) j) (h0 : Z0 n σ) (had : ∀ k, k < 81 → ad k = b + k) (hz : H.size = b + n) (hP : va_P D classes (cn_wd n cA ad σ) H) (hK : va_K D classes tys s) (hkC : s.vm.classes[D.1 ci]? = some kC) (e1 : H1[b + n]? = some (blank (D.1 ci) kC)) (o1 : ∀ q, q < b + n → H1[q]? = H[q]?) : va_P D classes (cn_wd (n + 1) cA ad σ) H1 := by
  have hn81 := hn_lt hk
  rw [cn_push]
  refine (hP.kept (fun k x hx => o1 x.1 (by have := (hP k x hx).lt; omega))).app (fun k x hx => ?_)
  have hz : k < 1 := (List.getElem?_eq_some_iff.mp hx).1
  rw [show k = 0 by omega] at hx
  cases hx
  rw [cn_cell, hn_kd_of hk]
  dsimp only
  rw [had n hn81]
  refine ⟨_, hc, (u_born ty hts hi (hK.1 ci _ hc) hkC e1 hty).to (fun j hj => ?_)⟩
  rw [hdf j hj]
  congr 1
  apply List.ext_getElem?
  intro i
  rw [List.getElem?_map, List.getElem?_mapIdx]
  congr 1
  funext q
  unfold cn_df cn_fv
  rw [(h0 n (Nat.le_refl _)).1, (h0 n (Nat.le_refl _)).2]
  rfl
theorem cw_new {ci n0 N : Nat} {C : String} {T : u_T} {ty : Nat → FieldType} {fs : List (Nat × Nat)} (hd : Dc (hn_by y) pc (.new idx) 3 pc') (hcl : Cond.classLink (hn_nm y).cls idx C ∈ lw_big) (hin : Cond.instantiable C N ∈ lw_big) (hini : Cond.initialized C ∈ lw_big) (hc : classes[ci]? = some (C, T, N)) (hi : ∀ w ∈ u_ws C T N, w ∈ lw_big) (hty : ∀ k, k < N → parseFieldDescriptor (T k).2.2.1 = some (ty k)) (hk : kdl[n]? = some (ci + 3, n0, fs)) (hdf : ∀ j, j < N → defaultValue (ty j) = vp_V (fs.map cn_df) j) (h0 : Z0 n σ) (h1 : cells + 1 ≤ mc) (h2 : slots + N ≤ ms)
    (k : CW y mc ms pc' ls (.ref n :: st) (n + 1) σ (cells + 1) (slots + N) n2 σ2) : CW y mc ms pc ls st n σ cells slots n2 σ2 := by
  intro l p e s m args below meth c D b ad cA hC H locs lsA hz hP hS hL
  obtain ⟨hx, hb, hr, hlk, hml, hown, hts, hN, hK, hb0, hnm, had⟩ := id hC
  obtain ⟨hd, rfl⟩ := hd
  have hKn := hK.1 ci _ hc
  have hn81 := hn_lt hk
  refine W.newcK hx hb hown (hts _ hcl) (hts _ hin) (hts _ hini) rfl hd h1 h2 hKn.2.1 hz fun H1 kC hkC e1 z1 o1 => ?_
  have hP1 := cn_born hts hi hty hc hk hdf h0 had hz hP hK hkC e1 o1
  have hh := k l p e s m args below meth c D b ad cA hC H1 locs lsA (by omega) hP1 ⟨Nat.le_trans hS.1 (by omega), fun x h1 h2 => (o1 x (by have := hS.1; omega)).trans (hS.2.1 x h1 h2), hS.2.2⟩ hL
  rw [List.map_cons, show hn_tr ad (.ref n) = .ref (b + n) by rw [← had n hn81]; rfl] at hh
  exact hh
theorem cw_newI {atype : ArrayType} {x : Int32} {N t : Nat} (hd : Dc (hn_by y) pc (.newarray atype) 2 pc') (hw : Cond.arrayClass (newarray.typeOf atype) ∈ lw_big) (hk : kdl[n]? = some (t, N, [])) (ht : t = 0 ∨ t = 1) (hty : hn_ty n = newarray.typeOf atype) (hra : ∀ U cB, va_RA U cB (newarray.typeOf atype) → U.vm.findClass ("[" ++ (newarray.typeOf atype).toString) = some cB) (hdf : defaultValue (newarray.typeOf atype) = .int 0) (hx0 : ¬ x < 0) (hN : x.toNatClampNeg = N) (hby : N * componentBytes (newarray.typeOf atype) ≤ 536870912) (h0 : Z0 n σ) (h1 : cells + 1 ≤ mc) (h2 : slots + N ≤ ms)
    (k : CW y mc ms pc' ls (.ref n :: st) (n + 1) σ (cells + 1) (slots + N) n2 σ2) : CW y mc ms pc ls (.int x :: st) n σ cells slots n2 σ2 := by
  intro l p e s m args below meth c D b ad cA hC H locs lsA hz hP hS hL
  obtain ⟨hx, hb, hr, hlk, hml, hown, hts, hN2, hK, hb0, hnm, had⟩ := id hC
  obtain ⟨hd, rfl⟩ := hd
  have hn81 := hn_lt hk
  refine va_newaK hx hb (hts _ hw) rfl hd (n := x) (N := N) (rest := st.map (hn_tr ad)) rfl hx0 hN hby h1 h2 hz fun H1 cB e1 z1 o1 hAr hNm => ?_
  have hcB : cB = cA n := by
    have h := (hK.2 n _ (hn_tyget hn81)).2
    dsimp only at h
    rw [hty] at h
    exact Option.some.inj (hNm.symm.trans (hra _ _ h))
  have hP1 : va_P D classes (cn_wd (n + 1) cA ad σ) H1 := by
    rw [cn_push]
    refine (hP.kept (fun k x hx => o1 x.1 (by have := (hP k x hx).lt; omega))).app (fun k x hx => ?_)
    have hz : k < 1 := (List.getElem?_eq_some_iff.mp hx).1
    rw [show k = 0 by omega] at hx
    cases hx
    have he : cn_cell cA ad σ n = .inl (cA n, N, .inl (σ.1 n)) := by
      rw [cn_cell, hn_kd_of hk]
      rcases ht with rfl | rfl <;> rfl
    rw [he, had n hn81, (h0 n (Nat.le_refl _)).1]
    show H1[b + n]? = some (vp_cell _ _)
    rw [e1, hcB, vp_cell_i, hdf]
  have hh := k l p e s m args below meth c D b ad cA hC H1 locs lsA (by omega) hP1 ⟨Nat.le_trans hS.1 (by omega), fun x h1 h2 => (o1 x (by have := hS.1; omega)).trans (hS.2.1 x h1 h2), hS.2.2⟩ hL
  rw [List.map_cons, show hn_tr ad (.ref n) = .ref (b + n) by rw [← had n hn81]; rfl] at hh
  exact hh
theorem cw_newL {x : Int32} {N : Nat} (hd : Dc (hn_by y) pc (.newarray .long) 2 pc') (hw : Cond.arrayClass .long ∈ lw_big) (hk : kdl[n]? = some (2, N, [])) (hx0 : ¬ x < 0) (hN : x.toNatClampNeg = N) (hby : N * 8 ≤ 536870912) (h0 : Z0 n σ) (h1 : cells + 1 ≤ mc) (h2 : slots + N ≤ ms)
    (k : CW y mc ms pc' ls (.ref n :: st) (n + 1) σ (cells + 1) (slots + N) n2 σ2) : CW y mc ms pc ls (.int x :: st) n σ cells slots n2 σ2 := by
  intro l p e s m args below meth c D b ad cA hC H locs lsA hz hP hS hL
  obtain ⟨hx, hb, hr, hlk, hml, hown, hts, hN2, hK, hb0, hnm, had⟩ := id hC
  obtain ⟨hd, rfl⟩ := hd
  have hn81 := hn_lt hk
  refine va_newaK (atype := .long) hx hb (hts _ hw) rfl hd (n := x) (N := N) (rest := st.map (hn_tr ad)) rfl hx0 hN hby h1 h2 hz fun H1 cB e1 z1 o1 hAr hNm => ?_
  have hcB : cB = cA n := by
    have h := (hK.2 n _ (hn_tyget hn81)).2
    dsimp only at h
    rw [show hn_ty n = .long by rw [hn_ty, hn_kd_of hk]; rfl] at h
    exact Option.some.inj (hNm.symm.trans h)
  have hP1 : va_P D classes (cn_wd (n + 1) cA ad σ) H1 := by
    rw [cn_push]
    refine (hP.kept (fun k x hx => o1 x.1 (by have := (hP k x hx).lt; omega))).app (fun k x hx => ?_)
    have hz : k < 1 := (List.getElem?_eq_some_iff.mp hx).1
    rw [show k = 0 by omega] at hx
    cases hx
    have he : cn_cell cA ad σ n = .inl (cA n, N, .inr (.inl (σ.2 n))) := by
      rw [cn_cell, hn_kd_of hk]
    rw [he, had n hn81, (h0 n (Nat.le_refl _)).2]
    show H1[b + n]? = some (vp_cell _ _)
    rw [e1, hcB, vp_cell_l]
    rfl
  have hh := k l p e s m args below meth c D b ad cA hC H1 locs lsA (by omega) hP1 ⟨Nat.le_trans hS.1 (by omega), fun x h1 h2 => (o1 x (by have := hS.1; omega)).trans (hS.2.1 x h1 h2), hS.2.2⟩ hL
  rw [List.map_cons, show hn_tr ad (.ref n) = .ref (b + n) by rw [← had n hn81]; rfl] at hh
  exact hh
/-- a field's link, for writing by a constructor -/
def cn_FF (own : String) (idx ci j : Nat) (ty : FieldType) : Prop := ∃ (C : String) (T : u_T) (N : Nat), classes[ci]? = some (C, T, N) ∧ j < N ∧ (T j).1 = C ∧ C = own ∧ (∀ w ∈ u_ws C T N, w ∈ lw_big) ∧ Cond.fieldLink own idx C (T j).2.1 (T j).2.2.1 ∈ lw_big ∧ (∃ ty0 : Nat → FieldType, ∀ k, k < N → parseFieldDescriptor (T k).2.2.1 = some (ty0 k)) ∧ (∀ a, a < N → ∀ b, b < N → a ≠ b → (T a).2.1 ≠ (T b).2.1) ∧ parseFieldDescriptor (T j).2.2.1 = some ty
theorem cw_put {r ci j m0 : Nat} {x : Int32} {v : Value} {q : Nat × Nat} {ty : FieldType} {fs : List (Nat × Nat)} (hd : Dc (hn_by y) pc (.putfield idx) 3 pc') (hf : cn_FF (hn_nm y).cls idx ci j ty) (hr0 : kdl[r]? = some (ci + 3, m0, fs)) (hrn : r < n) (hn81 : n ≤ 81) (hq : fs[j]? = some q) (hv : ∀ ad, hn_tr ad v = cn_fv ad (wI σ r j x) r j q) (hn : ∀ ad, narrow ty (hn_tr ad v) = hn_tr ad v) (hfit : ∀ ad, fits ty (hn_tr ad v) = true) (k : CW y mc ms pc' ls st n (wI σ r j x) cells slots n2 σ2) : CW y mc ms pc ls (v :: .ref r :: st) n σ cells slots n2 σ2 := by
  intro l p e s m args below meth c D b ad cA hC H locs lsA hz hP hS hL
  obtain ⟨hx, hb, hr, hlk, hml, hown, hts, hN, hK, hb0, hnm, had⟩ := id hC
  obtain ⟨hd, rfl⟩ := hd
  obtain ⟨C, T, N, h1, h2, h3, h33, h4, h5, ⟨ty0, h6⟩, h7, h9⟩ := hf
  have hD := cn_D (cA := cA) (σ := σ) had hn81
  have he := cn_at3 (cA := cA) (ad := ad) (σ := σ) hrn hr0
  have hap := va_apart (own := (hn_nm y).cls) hts h4 ty0 h6 h7 hK h1
  obtain ⟨qr, g1, cell, q1, q2, q3, q4⟩ := hP r _ he
  obtain rfl : qr = (C, T, N) := Option.some.inj (g1.symm.trans h1)
  obtain ⟨hSl, hfc, kC, hkC, hkind⟩ := hK.1 ci _ h1
  obtain ⟨cf, kf, fi, f, hi, hsl⟩ := hSl j h2
  have hlen : j < (fs.mapIdx (cn_fv ad σ r)).length := by rw [List.length_mapIdx]; exact (List.getElem?_eq_some_iff.mp hq).1
  have hlay := hts _ (h4 _ (u_in_lay h2))
  have hst := (u_facts hfc hkC (u_lays hts h4 h2) hi).1
  have hi' : s.fieldFound? C (T j).2.1 (T j).2.2.1 = some (cf, kf, fi, f) := by rw [h3] at hi; exact hi
  have fin : ∀ H' : Heap, H'[ad r]? = some (cell.setSlot (D.2 ci j) (hn_tr ad v)) → H'.size = H.size → (∀ q, q ≠ ad r → H'[q]? = H[q]?) → W p l e (cn_rm y mc ms) s m args below meth c H' (locs ++ [⟨ad r, D.2 ci j⟩]) cells slots (MQ below (cn_Q cA ad D b n2 σ2) args s mc ms (fun q => b ≤ q)) (F0 m (pc + 3) lsA (st.map (hn_tr ad))) := by
    intro H' e1 e2 e3
    have hP1 := hP.set (e := .inr (ci, (fs.mapIdx (cn_fv ad σ r)).set j (hn_tr ad v))) hD he ⟨_, h1, t_OB.to (V := updV (vp_V (fs.mapIdx (cn_fv ad σ r))) j (hn_tr ad v)) ⟨_, e1, q2, q3, t_set q4 hap h2 (hn_tr ad v)⟩ (fun i _ => vp_updV_set hlen (hn_tr ad v) i)⟩ e3
    rw [cn_setF (x := x) hrn hr0 hq (hv ad)] at hP1
    exact k l p e s m args below meth c D b ad cA hC H' _ lsA (e2.trans hz) hP1 (hS.put e2 e3 (hD.2 r _ he)) hL
  unfold u_lay at hlay
  split at hlay
  · have hcf : m.cls = cf := by
      obtain ⟨_, _, c', _, _, _, -, -, hf', -, -, -, hown2, -⟩ := Cond.laysFinal_spec hlay
      have e1 : c' = cf := by have := hi.symm.trans hf'; simp at this; exact this.1.symm
      rw [h3, h33] at hown2
      rw [← e1]
      exact Option.some.inj (hown.symm.trans hown2)
    refine W.putFinK hx hb hown (hts _ h5) hi' hst hcf hnm (by rw [q2]; exact u_fits hfc hkC hkind (Or.inr hlay) hi h9 (hn ad) (hfit ad)) q1 q3 (by rw [hsl]; exact k2_hasslot (q4 j h2)) rfl rfl hd fun H' e1 e2 e3 => ?_
    rw [hsl] at e1 ⊢
    exact fin H' e1 e2 e3
  · refine W.putK hx hb (f := f) ⟨hown, hts _ h5, ⟨_, _, _, hi'⟩, hst⟩ (by rw [q2]; exact u_store hfc hkC hkind hlay hi h9 (hn ad) (hfit ad)) q1 q3 (by rw [hsl]; exact k2_hasslot (q4 j h2)) rfl rfl hd fun H' e1 e2 e3 => ?_
    rw [hsl] at e1 ⊢
    exact fin H' e1 e2 e3
theorem cw_putR {r ci j m0 z : Nat} {ty : FieldType} {fs : List (Nat × Nat)} (hd : Dc (hn_by y) pc (.putfield idx) 3 pc') (hf : cn_FF (hn_nm y).cls idx ci j ty) (hr0 : kdl[r]? = some (ci + 3, m0, fs)) (hrn : r < n) (hn81 : n ≤ 81) (hq : fs[j]? = some (2, z)) (hn : ∀ a, narrow ty (.ref a) = .ref a) (hfit : ∀ a, fits ty (.ref a) = true) (k : CW y mc ms pc' ls st n (wI σ r j 1) cells slots n2 σ2) : CW y mc ms pc ls (.ref z :: .ref r :: st) n σ cells slots n2 σ2 :=
  cw_put hd hf hr0 hrn hn81 hq (fun ad => by simp [cn_fv, wI, upd, hn_tr]) (fun ad => hn _) (fun ad => hfit _) k
theorem cw_putI {r ci j m0 t z : Nat} {x : Int32} {ty : FieldType} {fs : List (Nat × Nat)} (hd : Dc (hn_by y) pc (.putfield idx) 3 pc') (hf : cn_FF (hn_nm y).cls idx ci j ty) (hr0 : kdl[r]? = some (ci + 3, m0, fs)) (hrn : r < n) (hn81 : n ≤ 81) (hq : fs[j]? = some (t, z)) (ht : ¬ t = 1 ∧ ¬ t = 2) (hn : narrow ty (.int x) = .int x) (hfit : fits ty (.int x) = true) (k : CW y mc ms pc' ls st n (wI σ r j x) cells slots n2 σ2) : CW y mc ms pc ls (.int x :: .ref r :: st) n σ cells slots n2 σ2 :=
  cw_put hd hf hr0 hrn hn81 hq (fun ad => by simp [cn_fv, wI, upd, hn_tr, ht]) (fun ad => hn) (fun ad => hfit) k
theorem cw_getR {r ci j m0 z : Nat} {fs : List (Nat × Nat)} (hd : Dc (hn_by y) pc (.getfield idx) 3 pc') (hf : hn_FL (hn_nm y).cls idx ci j) (hr0 : kdl[r]? = some (ci + 3, m0, fs)) (hrn : r < n) (hq : fs[j]? = some (2, z)) (h1 : σ.1 r j = 1) (k : CW y mc ms pc' ls (.ref z :: st) n σ cells slots n2 σ2) : CW y mc ms pc ls (.ref r :: st) n σ cells slots n2 σ2 := by
  intro l p e s m args below meth c D b ad cA hC H locs lsA hz hP hS hL
  obtain ⟨hx, hb, hr, hlk, hml, hown, hts, hN, hK, hb0, hnm, had⟩ := id hC
  obtain ⟨hd, rfl⟩ := hd
  obtain ⟨C, T, N, g1, g2, g3, g4, g5⟩ := hf
  refine va_get hx hb hts g4 hown hK hP r (cn_at3 hrn hr0) g1 j g2 (hts _ g5) (fun x hx => by rw [g3] at hx; exact hx) (v := hn_tr ad (.ref z)) ?_ hd (k l p e s m args below meth c D b ad cA hC H locs lsA hz hP hS hL)
  rw [List.getElem?_mapIdx, hq]
  simp [cn_fv, hn_tr, h1]
theorem cw_max {a x : Int32} (hd : Dc (hn_by y) pc (.invokestatic idx) 3 pc') (hl : Cond.methodLink (hn_nm y).cls idx Lib.Math.max.name ∈ lw_big) (h2 : Cond.static Lib.Math.max.name ∈ lw_big) (h3 : Cond.initialized "java/lang/Math" ∈ lw_big) (h4 : Cond.code Lib.Math.max.name Lib.Math.max.code 2 (some .int) ∈ lw_big) (hf : 1 ≤ (cn_rm y mc ms).frames) (hlo : (st.map fun v => v.category).sum + 13 ≤ (cn_rm y mc ms).locals) (hc1 : cells ≤ mc) (hs1 : slots ≤ ms) {w : Int32} (hw : (if a < x then x else a) = w) (k : CW y mc ms pc' ls (.int w :: st) n σ cells slots n2 σ2) : CW y mc ms pc ls (.int x :: .int a :: st) n σ cells slots n2 σ2 := by
  intro l p e s m args below meth c D b ad cA hC H locs lsA hz hP hS hL
  obtain ⟨hx, hb, hr, hlk, hml, hown, hts, hN, hK, hb0, hnm, had⟩ := id hC
  obtain ⟨hd, rfl⟩ := hd
  subst hw
  exact va_mmax hx hb (hml.trans hL.size.symm) hown (hts _ hl) (hts _ h2) (hts _ h3) (hts _ h4) hf (by rw [hn_cats]; exact hlo) hc1 hs1 hd (k l p e s m args below meth c D b ad cA hC H locs lsA hz hP hS hL)
theorem cw_ret (hd : Dc (hn_by y) pc (.return_) 1 pc') (hy : hn_rt y = none) : CW y mc ms pc ls [] n σ mc ms n σ := by
  intro l p e s m args below meth c D b ad cA hC H locs lsA hz hP hS hL
  obtain ⟨hx, hb, hr, hlk, hml, hown, hts, hN, hK, hb0, hnm, had⟩ := id hC
  obtain ⟨hd, rfl⟩ := hd
  exact W.vret hx hb (hr.trans hy) (fun t ht hW => ⟨⟨rfl, by rw [ht]; exact hz, by rw [ht]; exact hP⟩, hS.F ht⟩) hS.2.2 hd hlk
theorem cn_pre {s : State} {D : va_G} {b : Nat} {ad : Nat → Nat} {cA : Nat → ClassId} {H : Heap} (hK : va_K D classes (hn_tys cA) s) (hN : ∀ w ∈ lw_nst, va_Nw w s) (hz : H.size = b + n) (hP : va_P D classes (cn_wd n cA ad σ) H) : PreS s H (cn_P cA ad D b n as σ) (as.map (hn_tr ad)) :=
  ⟨cn_frame_blind cA ad D b n as σ, fun U hU hW => ⟨rfl, by rw [hU]; exact hz, by rw [hU]; exact hP, va_K.moved hW.alike hK, nst_warm hW hN⟩⟩
theorem cn_after {l : Launch} {p : Program} {e : Env} {s : State} {m : MethodId} {args : Array Value} {below : List Frame} {meth : Method} {c : Code} {R : Room} {D : va_G} {b : Nat} {ad : Nat → Nat} {cA : Nat → ClassId} {H : Heap} {locs : List Loc} {lsA : Array Slot} {rest st1 : List Value} {a : Array Value} {Z : State → Prop}
    (hr : va_Run p l e R s m args below meth c H locs cells slots mc' ms' (F0 m pc lsA st1) rest (cn_Q cA ad D b n3 σ3 a) (fun q => b ≤ q)) (hb0 : b ≤ s.heap.size) (hS : va_S (fun q => b ≤ q) s.heap H locs)
    (kk : ∀ (H1 : Heap) (locs1 : List Loc), H1.size = b + n3 → va_P D classes (cn_wd n3 cA ad σ3) H1 → va_S (fun q => b ≤ q) s.heap H1 locs1 → W p l e R s m args below meth c H1 locs1 (cells + mc') (slots + ms') Z (F0 m (pc + 3) lsA rest)) : W p l e R s m args below meth c H locs cells slots Z (F0 m pc lsA st1) := by
  intro T hT X
  obtain ⟨v, st₀, t, T', L, h0, X', hL, e1, e2, ⟨⟨hv, hz3, hP3⟩, hz, hk⟩, st⟩ := hr T hT X
  cases hv
  rw [h0] at hz hk
  obtain ⟨t2, a1, b1⟩ := kk T'.heap (locs ++ L) (by rw [e1]; exact hz3) (by rw [e1]; exact hP3)
    ⟨Nat.le_trans hS.1 (by rw [e1]; exact hz), fun q h1 h2 => by rw [e1, hk q (Nat.lt_of_lt_of_le h1 hS.1) h2]; exact hS.2.1 q h1 h2, fun q hq => by
      rcases List.mem_append.mp hq with h | h
      · exact hS.2.2 q h
      · exact hL q h⟩ T' rfl X'
  exact ⟨t2, st t2 a1, b1⟩
theorem cw_call {r : Nat} (hd : Dc (hn_by y) pc (.invokespecial idx) 3 pc') (hl : hn_LB (hn_nm y).cls idx y' as.length) (hin : Cond.instanceMethod (hn_nm y') ∈ lw_big) (hname : (hn_nm y').name = "<init>") (hrt : hn_rt y' = none) (hfit : hn_fit (hn_rm y) y') (hlen : ((Value.ref r :: as).flatMap fun v => if v.category = 2 then [v, Value.null] else [v]).length ≤ hn_ml y') (h8 : (st.map fun v => v.category).sum ≤ 8) (hM : CM y' mc' ms' n (.ref r :: as) σ n3 σ3) (hst : st0 = as.reverse ++ .ref r :: st) (h1 : cells + mc' ≤ mc) (h2 : slots + ms' ≤ ms)
    (k : CW y mc ms pc' ls st n3 σ3 (cells + mc') (slots + ms') n2 σ2) : CW y mc ms pc ls st0 n σ cells slots n2 σ2 := by
  intro l p e s m args below meth c D b ad cA hC H locs lsA hz hP hS hL
  obtain ⟨hx, hb, hr, hlk, hml, hown, hts, hN, hK, hb0, hnm, had⟩ := id hC
  obtain ⟨hd, rfl⟩ := hd
  subst hst
  obtain ⟨g1, g2, g3, g4, g5⟩ := hl
  have hM2 := cn_met hM g4 hname hlen l D b ad cA had
  rw [hn_ws, hn_cd, hrt] at hM2
  refine cn_after (rest := st.map (hn_tr ad)) (va_runI (rest := st.map (hn_tr ad)) (nL := hn_ml y) (b := ad r) (As := as.map (hn_tr ad)) ⟨hx, hb, hml, hown, hts⟩ hM2 ⟨callB_of as.length hts (by have := hn_good g3; rw [hn_ws, hn_cd, hrt] at this; exact this) rfl rfl rfl (hts _ g2) (hts _ g1) g5 hfit, hname, hts _ hin⟩ (cn_pre hK hN hz hP) rfl (by simp) hL.size (by simp [hn_tr]) (lv_room (by rw [hn_cats]; exact h8)) hd ⟨h1, h2⟩) hb0 hS (fun H1 locs1 hz1 hP1 hS1 => k l p e s m args below meth c D b ad cA hC H1 locs1 lsA hz1 hP1 hS1 hL)
theorem cw_callN {r : Nat} {host : String} (hd : Dc (hn_by y) pc (.invokespecial idx) 3 pc') (hl : hn_LN (hn_nm y).cls idx y' as.length host) (hin : Cond.instanceMethod (hn_nm y') ∈ lw_big) (hname : (hn_nm y').name = "<init>") (hrt : hn_rt y' = none) (hfit : hn_fit (hn_rm y) y') (hlen : ((Value.ref r :: as).flatMap fun v => if v.category = 2 then [v, Value.null] else [v]).length ≤ hn_ml y') (h8 : (st.map fun v => v.category).sum ≤ 8) (hM : CM y' mc' ms' n (.ref r :: as) σ n3 σ3) (hst : st0 = as.reverse ++ .ref r :: st) (h1 : cells + mc' ≤ mc) (h2 : slots + ms' ≤ ms)
    (k : CW y mc ms pc' ls st n3 σ3 (cells + mc') (slots + ms') n2 σ2) : CW y mc ms pc ls st0 n σ cells slots n2 σ2 := by
  intro l p e s m args below meth c D b ad cA hC H locs lsA hz hP hS hL
  obtain ⟨hx, hb, hr, hlk, hml, hown, hts, hN, hK, hb0, hnm, had⟩ := id hC
  obtain ⟨hd, rfl⟩ := hd
  subst hst
  obtain ⟨g1, g2, g3, g4, g5⟩ := hl
  have hM2 := cn_met hM g4 hname hlen l D b ad cA had
  rw [hn_ws, hn_cd, hrt] at hM2
  refine cn_after (rest := st.map (hn_tr ad)) (va_runIN (rest := st.map (hn_tr ad)) (nL := hn_ml y) (b := ad r) (As := as.map (hn_tr ad)) ⟨hx, hb, hml, hown, hts⟩ hM2 ⟨va_cnB as.length hts (by have := hn_good g3; rw [hn_ws, hn_cd, hrt] at this; exact this) rfl rfl rfl (hN _ g1) (hts _ g2) g5 hfit, hname, hts _ hin⟩ (cn_pre hK hN hz hP) rfl (by simp) hL.size (by simp [hn_tr]) (lv_room (by rw [hn_cats]; exact h8)) hd ⟨h1, h2⟩) hb0 hS (fun H1 locs1 hz1 hP1 hS1 => k l p e s m args below meth c D b ad cA hC H1 locs1 lsA hz1 hP1 hS1 hL)
end CWR
