/-! the machine seen from one method: its cells by number (kdl), what they hold by two functions (ints, longs), a weakest precondition at an instruction (WP), a method's contract (Ct) -/
abbrev Hp : Type := (Nat → Nat → Int32) × (Nat → Nat → Int64)
abbrev Mth : Type := MethodName × ByteArray × Nat × Option FieldType × Nat × Nat
abbrev hn_nm (y : Mth) : MethodName := y.1
abbrev hn_by (y : Mth) : ByteArray := y.2.1
abbrev hn_ml (y : Mth) : Nat := y.2.2.1
abbrev hn_rt (y : Mth) : Option FieldType := y.2.2.2.1
abbrev hn_rm (y : Mth) : Room := { frames := y.2.2.2.2.1, cells := 0, slots := 0, locals := y.2.2.2.2.2 }
abbrev hn_cd (y : Mth) : Cond := .code (hn_nm y) (hn_by y) (hn_ml y) (hn_rt y)
abbrev hn_ws (y : Mth) : List Cond := hn_cd y :: lw_big
def hn_tr (ad : Nat → Nat) : Value → Value := fun v => match v with
  | .ref k => .ref (ad k)
  | w => w
def hn_fv (ad : Nat → Nat) (σ : Hp) (k j : Nat) (q : Nat × Nat) : Value := if q.1 = 1 then .long (σ.2 k j) else if q.1 = 2 then .ref (ad q.2) else .int (σ.1 k j)
def hn_kd (k : Nat) : Nat × Nat × List (Nat × Nat) := kdl.getD k (0, 0, [])
def hn_cell (cA : Nat → ClassId) (ad : Nat → Nat) (σ : Hp) (k : Nat) : va_E := match hn_kd k with
  | (0, n, _) => .inl (cA k, n, .inl (σ.1 k))
  | (1, n, _) => .inl (cA k, n, .inl (σ.1 k))
  | (2, n, _) => .inl (cA k, n, .inr (.inl (σ.2 k)))
  | (t + 3, _, fs) => .inr (t, fs.mapIdx (hn_fv ad σ k))
def hn_ty (k : Nat) : FieldType := match hn_kd k with
  | (1, _, _) => .boolean
  | (2, _, _) => .long
  | _ => .int
def hn_wd (cA : Nat → ClassId) (ad : Nat → Nat) (σ : Hp) : va_W := (List.range 81).map fun k => (ad k, hn_cell cA ad σ k)
def hn_tys (cA : Nat → ClassId) : List (ClassId × FieldType) := (List.range 81).map fun k => (cA k, hn_ty k)
theorem hn_len : kdl.length = 81 := by decide +kernel
theorem hn_lt {k : Nat} {q : Nat × Nat × List (Nat × Nat)} (h : kdl[k]? = some q) : k < 81 := hn_len ▸ (List.getElem?_eq_some_iff.mp h).1
theorem hn_kd_of {k : Nat} {q : Nat × Nat × List (Nat × Nat)} (h : kdl[k]? = some q) : hn_kd k = q := by
  rw [hn_kd, List.getD_eq_getElem?_getD, h]; rfl
theorem hn_get {cA : Nat → ClassId} {ad : Nat → Nat} {σ : Hp} {k : Nat} (h : k < 81) : (hn_wd cA ad σ)[k]? = some (ad k, hn_cell cA ad σ k) := by
  simp [hn_wd, h]
theorem hn_tyget {cA : Nat → ClassId} {k : Nat} (h : k < 81) : (hn_tys cA)[k]? = some (cA k, hn_ty k) := by
  simp [hn_tys, h]
theorem hn_at0 {cA : Nat → ClassId} {ad : Nat → Nat} {σ : Hp} {k n : Nat} {fs : List (Nat × Nat)} (h : kdl[k]? = some (0, n, fs)) : (hn_wd cA ad σ)[k]? = some (ad k, .inl (cA k, n, .inl (σ.1 k))) := by
  rw [hn_get (hn_lt h), hn_cell, hn_kd_of h]
theorem hn_at1 {cA : Nat → ClassId} {ad : Nat → Nat} {σ : Hp} {k n : Nat} {fs : List (Nat × Nat)} (h : kdl[k]? = some (1, n, fs)) : (hn_wd cA ad σ)[k]? = some (ad k, .inl (cA k, n, .inl (σ.1 k))) := by
  rw [hn_get (hn_lt h), hn_cell, hn_kd_of h]
theorem hn_at2 {cA : Nat → ClassId} {ad : Nat → Nat} {σ : Hp} {k n : Nat} {fs : List (Nat × Nat)} (h : kdl[k]? = some (2, n, fs)) : (hn_wd cA ad σ)[k]? = some (ad k, .inl (cA k, n, .inr (.inl (σ.2 k)))) := by
  rw [hn_get (hn_lt h), hn_cell, hn_kd_of h]
theorem hn_at3 {cA : Nat → ClassId} {ad : Nat → Nat} {σ : Hp} {k t n : Nat} {fs : List (Nat × Nat)} (h : kdl[k]? = some (t + 3, n, fs)) : (hn_wd cA ad σ)[k]? = some (ad k, .inr (t, fs.mapIdx (hn_fv ad σ k))) := by
  rw [hn_get (hn_lt h), hn_cell, hn_kd_of h]
theorem hn_ty0 {cA : Nat → ClassId} {k n : Nat} {fs : List (Nat × Nat)} (h : kdl[k]? = some (0, n, fs)) : (hn_tys cA)[k]? = some (cA k, .int) := by
  rw [hn_tyget (hn_lt h), hn_ty, hn_kd_of h]; rfl
theorem hn_ty1 {cA : Nat → ClassId} {k n : Nat} {fs : List (Nat × Nat)} (h : kdl[k]? = some (1, n, fs)) : (hn_tys cA)[k]? = some (cA k, .boolean) := by
  rw [hn_tyget (hn_lt h), hn_ty, hn_kd_of h]; rfl
theorem hn_ty2 {cA : Nat → ClassId} {k n : Nat} {fs : List (Nat × Nat)} (h : kdl[k]? = some (2, n, fs)) : (hn_tys cA)[k]? = some (cA k, .long) := by
  rw [hn_tyget (hn_lt h), hn_ty, hn_kd_of h]; rfl
/-- an int, or a boolean, is written: a field of an object, a place of an array -/
def wI (σ : Hp) (k j : Nat) (x : Int32) : Hp := (fun q => if q = k then upd (σ.1 q) j x else σ.1 q, σ.2)
def wL (σ : Hp) (k j : Nat) (x : Int64) : Hp := (σ.1, fun q => if q = k then vp_updL (σ.2 q) j x else σ.2 q)
theorem hn_cell_ne {cA : Nat → ClassId} {ad : Nat → Nat} {σ τ : Hp} {k : Nat} (h1 : σ.1 k = τ.1 k) (h2 : σ.2 k = τ.2 k) : hn_cell cA ad σ k = hn_cell cA ad τ k := by
  unfold hn_cell
  rw [h1, h2]
  split <;> try rfl
  congr 2
  unfold hn_fv
  rw [h1, h2]
theorem hn_set {cA : Nat → ClassId} {ad : Nat → Nat} {σ τ : Hp} {k : Nat} {e : va_E} (hk : k < 81) (he : e = hn_cell cA ad τ k) (h : ∀ q, q ≠ k → σ.1 q = τ.1 q ∧ σ.2 q = τ.2 q) : (hn_wd cA ad σ).set k (ad k, e) = hn_wd cA ad τ := by
  apply List.ext_getElem?
  intro i
  by_cases hi : i = k
  · subst hi
    rw [List.getElem?_set_self (by simp [hn_wd]; exact hk), hn_get hk, he]
  · rw [List.getElem?_set_ne (Ne.symm hi)]
    by_cases hl : i < 81
    · rw [hn_get hl, hn_get hl, hn_cell_ne (h i hi).1 (h i hi).2]
    · rw [List.getElem?_eq_none (by simp [hn_wd]; omega), List.getElem?_eq_none (by simp [hn_wd]; omega)]
theorem wI_ne {σ : Hp} {k j q : Nat} {x : Int32} (h : q ≠ k) : (wI σ k j x).1 q = σ.1 q := by simp [wI, h]
theorem wI_eq {σ : Hp} {k j : Nat} {x : Int32} : (wI σ k j x).1 k = upd (σ.1 k) j x := by simp [wI]
theorem wL_ne {σ : Hp} {k j q : Nat} {x : Int64} (h : q ≠ k) : (wL σ k j x).2 q = σ.2 q := by simp [wL, h]
theorem wL_eq {σ : Hp} {k j : Nat} {x : Int64} : (wL σ k j x).2 k = vp_updL (σ.2 k) j x := by simp [wL]
theorem hn_set0 {cA : Nat → ClassId} {ad : Nat → Nat} {σ : Hp} {k n j : Nat} {x : Int32} {fs : List (Nat × Nat)} (h : kdl[k]? = some (0, n, fs)) : (hn_wd cA ad σ).set k (ad k, .inl (cA k, n, .inl (upd (σ.1 k) j x))) = hn_wd cA ad (wI σ k j x) := by
  refine hn_set (hn_lt h) ?_ (fun q hq => ⟨(wI_ne hq).symm, rfl⟩)
  rw [hn_cell, hn_kd_of h, wI_eq]
theorem hn_set1 {cA : Nat → ClassId} {ad : Nat → Nat} {σ : Hp} {k n j : Nat} {x : Int32} {fs : List (Nat × Nat)} (h : kdl[k]? = some (1, n, fs)) : (hn_wd cA ad σ).set k (ad k, .inl (cA k, n, .inl (upd (σ.1 k) j x))) = hn_wd cA ad (wI σ k j x) := by
  refine hn_set (hn_lt h) ?_ (fun q hq => ⟨(wI_ne hq).symm, rfl⟩)
  rw [hn_cell, hn_kd_of h, wI_eq]
theorem hn_set2 {cA : Nat → ClassId} {ad : Nat → Nat} {σ : Hp} {k n j : Nat} {x : Int64} {fs : List (Nat × Nat)} (h : kdl[k]? = some (2, n, fs)) : (hn_wd cA ad σ).set k (ad k, .inl (cA k, n, .inr (.inl (vp_updL (σ.2 k) j x)))) = hn_wd cA ad (wL σ k j x) := by
  refine hn_set (hn_lt h) ?_ (fun q hq => ⟨rfl, (wL_ne hq).symm⟩)
  rw [hn_cell, hn_kd_of h, wL_eq]
theorem hn_setF {cA : Nat → ClassId} {ad : Nat → Nat} {σ τ : Hp} {k t n j : Nat} {v : Value} {fs : List (Nat × Nat)} {q : Nat × Nat} (h : kdl[k]? = some (t + 3, n, fs)) (hq : fs[j]? = some q) (hv : v = hn_fv ad τ k j q) (hne : ∀ i, i ≠ j → σ.1 k i = τ.1 k i ∧ σ.2 k i = τ.2 k i) (ho : ∀ i, i ≠ k → σ.1 i = τ.1 i ∧ σ.2 i = τ.2 i) :
    (hn_wd cA ad σ).set k (ad k, .inr (t, (fs.mapIdx (hn_fv ad σ k)).set j v)) = hn_wd cA ad τ := by
  refine hn_set (hn_lt h) ?_ ho
  rw [hn_cell, hn_kd_of h]
  dsimp only
  congr 2
  apply List.ext_getElem?
  intro i
  by_cases hi : i = j
  · subst hi
    rw [List.getElem?_set_self (by simp; exact (List.getElem?_eq_some_iff.mp hq).1), List.getElem?_mapIdx, hq, hv]
    rfl
  · rw [List.getElem?_set_ne (Ne.symm hi), List.getElem?_mapIdx, List.getElem?_mapIdx]
    congr 1
    funext q
    unfold hn_fv
    rw [(hne i hi).1, (hne i hi).2]
/-- the locals, by a list: null stands where nothing is known -/
def hn_L (ad : Nat → Nat) (nL : Nat) (ls : List Value) (lsA : Array Slot) : Prop := ls.length = nL ∧ ∃ l, lv_has lsA nL l ∧ ∀ (i : Nat) (v : Value), ls[i]? = some v → v ≠ .null → (i, hn_tr ad v) ∈ l
theorem hn_L.size {ad : Nat → Nat} {nL : Nat} {ls : List Value} {lsA : Array Slot} (h : hn_L ad nL ls lsA) : lsA.size = nL := by
  obtain ⟨-, l, h, -⟩ := h
  exact h.1
theorem hn_L.at {ad : Nat → Nat} {nL : Nat} {ls : List Value} {lsA : Array Slot} (h : hn_L ad nL ls lsA) {i : Nat} {v : Value} (hi : ls[i]? = some v) (hv : v ≠ .null) : lsA[i]? = some (.val (hn_tr ad v)) := by
  obtain ⟨-, l, h, h2⟩ := h
  exact h.2.2 _ (h2 i v hi hv)
def hn_Q (cA : Nat → ClassId) (ad : Nat → Nat) (D : va_G) (A : Nat → Prop) (Q : Option Value → Hp → Prop) : Array Value → State → Outcome → State → Prop := fun _ st oc t =>
  (∃ (v : Option Value) (τ : Hp), oc = .returned (v.map (hn_tr ad)) ∧ Q v τ ∧ va_P D classes (hn_wd cA ad τ) t.heap ∧ va_D A (hn_wd cA ad τ)) ∧ va_F A st t
def hn_P (cA : Nat → ClassId) (ad : Nat → Nat) (D : va_G) (sz : Nat) (as : List Value) (σ : Hp) : Array Value → State → Prop :=
  va_Pc (as.map (hn_tr ad)) (fun U => U.heap.size = sz ∧ va_P D classes (hn_wd cA ad σ) U.heap ∧ va_K D classes (hn_tys cA) U ∧ va_D (fun _ => True) (hn_wd cA ad σ) ∧ ∀ w ∈ lw_nst, va_Nw w U)
/-- what stands fast while a method runs -/
def hn_Cx (p : Program) (s : State) (m : MethodId) (args : Array Value) (meth : Method) (c : Code) (y : Mth) (A : Nat → Prop) (D : va_G) (cA : Nat → ClassId) : Prop :=
  p.tables.exec = Jvm.exec ∧ c.code = hn_by y ∧ meth.sig.returnType = hn_rt y ∧ meth.locks = false ∧ c.maxLocals = hn_ml y ∧ s.vm.findClass (hn_nm y).cls = some m.cls ∧ (∀ w ∈ lw_big, w.before args s = true) ∧ (∀ w ∈ lw_nst, va_Nw w s) ∧ va_K D classes (hn_tys cA) s ∧ (∀ q, s.heap.size ≤ q → A q)
def WP (y : Mth) (pc : Nat) (ls st : List Value) (σ : Hp) (Q : Option Value → Hp → Prop) : Prop :=
  ∀ (l : Launch) (p : Program) (e : Env) (s : State) (m : MethodId) (args : Array Value) (below : List Frame) (meth : Method) (c : Code) (A : Nat → Prop) (D : va_G) (ad : Nat → Nat) (cA : Nat → ClassId), hn_Cx p s m args meth c y A D cA →
  ∀ (H : Heap) (locs : List Loc) (lsA : Array Slot), va_P D classes (hn_wd cA ad σ) H → va_D A (hn_wd cA ad σ) → va_S A s.heap H locs → hn_L ad (hn_ml y) ls lsA →
  W p l e (hn_rm y) s m args below meth c H locs 0 0 (MQ below (hn_Q cA ad D A Q) args s 0 0 A) (F0 m pc lsA (st.map (hn_tr ad)))
def hn_ent (nL : Nat) (as : List Value) : List Value := (as.flatMap fun v => if v.category = 2 then [v, .null] else [v]) ++ List.replicate (nL - (as.flatMap fun v => if v.category = 2 then [v, Value.null] else [v]).length) .null
/-- a method's contract at these arguments and this heap -/
def Ct (y : Mth) (as : List Value) (σ : Hp) (Q : Option Value → Hp → Prop) : Prop := WP y 0 (hn_ent (hn_ml y) as) [] σ Q
def Rt (v : Value) (σ : Hp) : Option Value → Hp → Prop := fun w τ => w = some v ∧ τ = σ
def Rv (σ : Hp) : Option Value → Hp → Prop := fun w τ => w = none ∧ τ = σ
theorem hn_tr_cat (ad : Nat → Nat) (v : Value) : (hn_tr ad v).category = v.category := by cases v <;> rfl
theorem hn_cats (ad : Nat → Nat) (st : List Value) : ((st.map (hn_tr ad)).map fun v => v.category) = st.map fun v => v.category := by
  rw [List.map_map]
  exact List.map_congr_left (fun v _ => hn_tr_cat ad v)
theorem W.mono {p : Program} {l : Launch} {e : Env} {R : Room} {s : State} {m : MethodId} {args : Array Value} {below : List Frame} {meth : Method} {c : Code} {H : Heap} {locs : List Loc} {cells slots : Nat} {Z Z' : State → Prop} {g : JFrame} (h : ∀ t, Z t → Z' t) (k : W p l e R s m args below meth c H locs cells slots Z g) : W p l e R s m args below meth c H locs cells slots Z' g := by
  intro T hT X
  obtain ⟨t, a, b⟩ := k T hT X
  exact ⟨t, a, h t b⟩
theorem hn_Q.mono {cA : Nat → ClassId} {ad : Nat → Nat} {D : va_G} {A : Nat → Prop} {Q Q' : Option Value → Hp → Prop} (h : ∀ v τ, Q v τ → Q' v τ) {a : Array Value} {st : State} {oc : Outcome} {t : State} (hq : hn_Q cA ad D A Q a st oc t) : hn_Q cA ad D A Q' a st oc t := by
  obtain ⟨⟨v, τ, h1, h2, h3⟩, h4⟩ := hq
  exact ⟨⟨v, τ, h1, h v τ h2, h3⟩, h4⟩
theorem WP.mono {y : Mth} {pc : Nat} {ls st : List Value} {σ : Hp} {Q Q' : Option Value → Hp → Prop} (k : WP y pc ls st σ Q) (h : ∀ v τ, Q v τ → Q' v τ) : WP y pc ls st σ Q' := by
  intro l p e s m args below meth c A D ad cA hC H locs lsA hP hD hS hL
  refine W.mono (fun t ht => ?_) (k l p e s m args below meth c A D ad cA hC H locs lsA hP hD hS hL)
  obtain ⟨o, h1, h2, h3, h4⟩ := ht
  exact ⟨o, h1, h2, h3.mono h, h4⟩
theorem Ct.mono {y : Mth} {as : List Value} {σ : Hp} {Q Q' : Option Value → Hp → Prop} (k : Ct y as σ Q) (h : ∀ v τ, Q v τ → Q' v τ) : Ct y as σ Q' := WP.mono k h
theorem hn_ent_in (ad : Nat → Nat) : ∀ (as : List Value) (i0 i : Nat) (v : Value) (n : Nat), ((as.flatMap fun v => if v.category = 2 then [v, Value.null] else [v]) ++ List.replicate n .null)[i]? = some v → v ≠ .null → (i0 + i, hn_tr ad v) ∈ lv_args i0 (as.map (hn_tr ad))
  | [], i0, i, v, n, h, hv => by
    simp only [List.flatMap_nil, List.nil_append, List.getElem?_replicate] at h
    split at h
    · exact absurd (Option.some.inj h).symm hv
    · cases h
  | a :: as, i0, i, v, n, h, hv => by
    rw [List.map_cons, lv_args, hn_tr_cat]
    by_cases hc : a.category = 2
    · rw [if_pos hc]
      simp only [List.flatMap_cons, if_pos hc, List.cons_append, List.nil_append] at h
      match i, h with
      | 0, h => cases h; exact List.mem_cons_self
      | 1, h => cases h; exact absurd rfl hv
      | i + 2, h =>
        have := hn_ent_in ad as (i0 + 2) i v n (by simpa using h) hv
        rw [show i0 + (i + 2) = i0 + 2 + i by omega]
        exact List.mem_cons_of_mem _ this
    · rw [if_neg hc]
      simp only [List.flatMap_cons, if_neg hc, List.cons_append, List.nil_append] at h
      match i, h with
      | 0, h => cases h; exact List.mem_cons_self
      | i + 1, h =>
        have := hn_ent_in ad as (i0 + 1) i v n (by simpa using h) hv
        rw [show i0 + (i + 1) = i0 + 1 + i by omega]
        exact List.mem_cons_of_mem _ this
theorem hn_slen (ad : Nat → Nat) : ∀ as : List Value, (lg_sl (as.map (hn_tr ad))).length = (as.flatMap fun v => if v.category = 2 then [v, Value.null] else [v]).length
  | [] => rfl
  | a :: as => by
    have := hn_slen ad as
    simp only [lg_sl, List.map_cons, List.flatMap_cons, List.length_append, hn_tr_cat] at this ⊢
    rw [this]
    split <;> rfl
theorem hn_frame_blind (cA : Nat → ClassId) (ad : Nat → Nat) (D : va_G) (sz : Nat) (as : List Value) (σ : Hp) : FrameBlind (hn_P cA ad D sz as σ) :=
  fun a U g mk q => by
    obtain ⟨q0, q1, qP, qK, qD, qN⟩ := q
    exact ⟨q0, q1, qP, va_K.moved (u := U) (U := U.calling g mk a) (Vm.Alike.refl U.vm) qK, qD, fun w hw => by
      have h2 := (List.mem_filter.mp hw).2
      have h3 := qN w hw
      cases w <;> first | exact va_Nw.same rfl (u := U) rfl h3 | (simp [lw_isN] at h2; done)⟩
theorem hn_ofW {l : Launch} {y : MethodName} {ws ws' : List Cond} {rm : Room} {Pc : Array Value → State → Prop} {Qc : Array Value → State → Outcome → State → Prop} {mc ms : Nat} {free : Addr → Prop} {cc : ByteArray} {maxL : Nat} {ret : Option FieldType}
    (hy : plainFor y = true) (hw : ws = Cond.code y cc maxL ret :: ws')
    (body : ∀ p e s m args below meth c s₁, BodyLoose p l y (headSpec ws rm) cc maxL ret e s m args below meth c s₁ → c.maxLocals = maxL → Pc args s →
      W p l e (headSpec ws rm).room s m args below meth c s.heap [] 0 0 (MQ below Qc args s mc ms free) (entryFrame m args maxL)) : Met l y ws rm Pc Qc mc ms free := by
  refine MetFree.of_bodySF (code := cc) (maxLocals := maxL) (ret := ret) hy ?_ ?_
  · intro args s m h hn
    obtain ⟨meth, c, h1, h2, h3, h4, h5, h6, -, -⟩ := Cond.code_spec hn (atoms_spec (ws := ws) h _ (by rw [hw]; exact List.mem_cons_self))
    exact ⟨meth, c, h1, h2, h3, h4, h5, h6⟩
  · intro p e s m args below meth c s₁ B hml hP _
    have hh0 : s₁.heap = s.heap := by rw [B.state]; rfl
    obtain ⟨t, a1, o, b1, b2, b3⟩ := body p e s m args below meth c s₁ B hml hP s₁ hh0 (Stand.of_body B)
    exact ⟨t, o, a1, b1, b2, ⟨b3.1, b3.2⟩⟩
set_option maxHeartbeats 1000000 in
/-- the machine's contract out of ours -/
theorem hn_met {y : Mth} {as : List Value} {σ : Hp} {Q : Option Value → Hp → Prop} (h : Ct y as σ Q) (hy : plainFor (hn_nm y) = true) (hlen : (as.flatMap fun v => if v.category = 2 then [v, Value.null] else [v]).length ≤ hn_ml y) (l : Launch) (D : va_G) (ad : Nat → Nat) (cA : Nat → ClassId) (sz : Nat) :
    Met l (hn_nm y) (hn_ws y) (hn_rm y) (hn_P cA ad D sz as σ) (hn_Q cA ad D (va_A (hn_wd cA ad σ) sz) Q) 0 0 (va_A (hn_wd cA ad σ) sz) := by
  refine hn_ofW (cc := hn_by y) (maxL := hn_ml y) (ret := hn_rt y) hy rfl ?_
  intro p e s m args below meth c s₁ B hml hv
  obtain ⟨rfl, hsz, hP, hK, hD0, hN⟩ := hv
  have hts := atoms_spec (ws := hn_ws y) B.pre
  have hown : s.vm.findClass (hn_nm y).cls = some m.cls := findClass_of_methodNamed B.named
  subst hsz
  have hD := hD0.self (sz := s.heap.size)
  have hl := lv_entry (as.map (hn_tr ad)) (n := hn_ml y) (by rw [hn_slen]; exact hlen)
  rw [lg_entry_eq]
  refine h l p e s m _ below meth c _ D ad cA ⟨B.exec, B.bytes, B.returns, B.notSynchronized, hml, hown, fun w hw => hts w (List.mem_cons_of_mem _ hw), hN, hK, fun q hq => Or.inr hq⟩ s.heap [] _ hP hD va_S.rf ⟨?_, _, hl, fun i v hi hv => ?_⟩
  · simp only [hn_ent, List.length_append, List.length_replicate]
    omega
  · have := hn_ent_in ad as 0 i v _ hi hv
    rwa [Nat.zero_add] at this
/-- what is said of a call by the tables -/
def hn_LB (own : String) (idx : Nat) (y : Mth) (n : Nat) : Prop := Cond.methodLink own idx (hn_nm y) ∈ lw_big ∧ Cond.initialized (hn_nm y).cls ∈ lw_big ∧ hn_cd y ∈ lw_big ∧ plainFor (hn_nm y) = true ∧ ((hn_nm y).cls ≠ "java/lang/invoke/MethodHandle" ∧ (hn_nm y).cls ≠ "java/lang/invoke/VarHandle" ∧ (parseMethodDescriptor (hn_nm y).desc).map (fun d => d.parameters.length) = some n)
def hn_LS (own : String) (idx : Nat) (y : Mth) (n : Nat) : Prop := hn_LB own idx y n ∧ Cond.static (hn_nm y) ∈ lw_big
def hn_LV (own : String) (idx : Nat) (y : Mth) (n : Nat) : Prop := hn_LB own idx y n ∧ Cond.instanceMethod (hn_nm y) ∈ lw_big ∧ Cond.selects (hn_nm y).cls (hn_nm y) (hn_nm y) ∈ lw_big
def hn_LN (own : String) (idx : Nat) (y : Mth) (n : Nat) (host : String) : Prop := Cond.methodLinkNest own idx (hn_nm y) host ∈ lw_nst ∧ Cond.initialized (hn_nm y).cls ∈ lw_big ∧ hn_cd y ∈ lw_big ∧ plainFor (hn_nm y) = true ∧ ((hn_nm y).cls ≠ "java/lang/invoke/MethodHandle" ∧ (hn_nm y).cls ≠ "java/lang/invoke/VarHandle" ∧ (parseMethodDescriptor (hn_nm y).desc).map (fun d => d.parameters.length) = some n)
def hn_LNS (own : String) (idx : Nat) (y : Mth) (n : Nat) : Prop := ∃ host, hn_LN own idx y n host ∧ Cond.static (hn_nm y) ∈ lw_big
def hn_LNV (own : String) (idx : Nat) (y : Mth) (n : Nat) : Prop := ∃ host, hn_LN own idx y n host ∧ Cond.instanceMethod (hn_nm y) ∈ lw_big ∧ Cond.selects (hn_nm y).cls (hn_nm y) (hn_nm y) ∈ lw_big
abbrev hn_fit (R : Room) (y : Mth) : Prop := (hn_rm y).frames + 1 ≤ R.frames ∧ 8 + (hn_ml y + 11) + (hn_rm y).locals ≤ R.locals
theorem hn_good {y : Mth} (h : hn_cd y ∈ lw_big) : GoodIn lw_big (hn_ws y) := by
  intro w hw
  rcases List.mem_cons.mp hw with rfl | hw
  · exact ⟨h, good_of_word (big_good _ h)⟩
  · exact ⟨hw, good_of_word (big_good _ hw)⟩
section HNC
variable {p : Program} {l : Launch} {e : Env} {R : Room} {s : State} {m : MethodId} {args : Array Value} {below : List Frame} {meth : Method} {c : Code} {H : Heap} {locs : List Loc} {cells slots : Nat} {Z : State → Prop}
variable {cc : ByteArray} {pc nL idx : Nat} {ls : Array Slot} {own : String} {A : Nat → Prop} {D : va_G} {ad : Nat → Nat} {cA : Nat → ClassId} {y : Mth} {as : List Value} {rest st0 : List Value} {σ : Hp} {Q : Option Value → Hp → Prop}
theorem hn_pre (hP : va_P D classes (hn_wd cA ad σ) H) (hD : va_D A (hn_wd cA ad σ)) (hK : va_K D classes (hn_tys cA) s) (hN : ∀ w ∈ lw_nst, va_Nw w s) : PreS s H (hn_P cA ad D H.size as σ) (as.map (hn_tr ad)) :=
  ⟨hn_frame_blind cA ad D _ as σ, fun U hU hW => ⟨rfl, by rw [hU], by rw [hU]; exact hP, va_K.moved hW.alike hK, hD.weaken (fun _ _ _ _ => trivial), nst_warm hW hN⟩⟩
/-- behind any call -/
theorem hn_after {a : Array Value} (hr : va_Run p l e R s m args below meth c H locs cells slots 0 0 (F0 m pc ls st0) rest (hn_Q cA ad D (va_A (hn_wd cA ad σ) H.size) Q a) (va_A (hn_wd cA ad σ) H.size)) (hD : va_D A (hn_wd cA ad σ)) (hS : va_S A s.heap H locs) (hA : ∀ q, s.heap.size ≤ q → A q)
    (kk : ∀ (v : Option Value) (τ : Hp) (H1 : Heap) (locs1 : List Loc), Q v τ → va_P D classes (hn_wd cA ad τ) H1 → va_D A (hn_wd cA ad τ) → va_S A s.heap H1 locs1 → W p l e R s m args below meth c H1 locs1 cells slots Z (F0 m (pc + 3) ls ((v.map (hn_tr ad)).toList ++ rest))) :
    W p l e R s m args below meth c H locs cells slots Z (F0 m pc ls st0) := by
  have hF : ∀ q, va_A (hn_wd cA ad σ) H.size q → A q := by
    intro q hq
    rcases hq with ⟨k, x, hk⟩ | hq
    · exact hD.2 k _ hk
    · exact hA q (Nat.le_trans hS.1 hq)
  intro T hT X
  obtain ⟨v, st₀, t, T', L, h0, X', hL, e1, e2, ⟨⟨w, τ, hv, hq, hP1, hD1⟩, hz, hk⟩, st⟩ := hr T hT X
  cases hv
  rw [h0] at hz hk
  obtain ⟨t2, a1, b1⟩ := kk w τ T'.heap (locs ++ L) hq (by rw [e1]; exact hP1) (hD1.weaken (fun _ _ _ h => hF _ h))
    ⟨Nat.le_trans hS.1 (by rw [e1]; exact hz), fun q h1 h2 => by rw [e1, hk q (Nat.lt_of_lt_of_le h1 hS.1) (fun z => h2 (hF q z))]; exact hS.2.1 q h1 h2, fun q hq => by
      rcases List.mem_append.mp hq with h | h
      · exact hS.2.2 q h
      · exact hF _ (hL q h)⟩ T' rfl X'
  exact ⟨t2, st t2 a1, b1⟩
variable (hx : p.tables.exec = Jvm.exec) (hb : c.code = cc) (hml : c.maxLocals = nL) (hown : s.vm.findClass own = some m.cls) (hts : ∀ w ∈ lw_big, w.before args s = true)
theorem hn_callB (hts : ∀ w ∈ lw_big, w.before args s = true) {n : Nat} (h : hn_LB own idx y n) (hf : hn_fit R y) : CallB R s args own idx (hn_nm y) (hn_by y) (hn_ml y) (hn_rt y) (hn_ws y) (hn_rm y) 0 0 n := by
  obtain ⟨h1, h2, h3, h4, h5⟩ := h
  exact callB_of n hts (hn_good h3) rfl rfl rfl (hts _ h2) (hts _ h1) h5 hf
theorem hn_callN (hts : ∀ w ∈ lw_big, w.before args s = true) (hN : ∀ w ∈ lw_nst, va_Nw w s) {n : Nat} {host : String} (h : hn_LN own idx y n host) (hf : hn_fit R y) : va_CN R s args own idx (hn_nm y) host (hn_by y) (hn_ml y) (hn_rt y) (hn_ws y) (hn_rm y) 0 0 n := by
  obtain ⟨h1, h2, h3, h4, h5⟩ := h
  exact va_cnB n hts (hn_good h3) rfl rfl rfl (hN _ h1) (hts _ h2) h5 hf
end HNC
