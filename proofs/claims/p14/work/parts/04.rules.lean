def Dc (b : ByteArray) (pc : Nat) (i : Instr) (n pc' : Nat) : Prop := decode b pc = .ok (i, n) ∧ pc + n = pc'
theorem wp_iconst {y : Mth} {pc pc' : Nat} {ls st : List Value} {σ : Hp} {Q : Option Value → Hp → Prop} {n : Int} {v : Int32} (hd : Dc (hn_by y) pc (.iconst n) 1 pc') (hv : Int32.ofInt n = v) (k : WP y pc' ls (.int v :: st) σ Q) : WP y pc ls (st) σ Q := by
  intro l p e s m args below meth c A D ad cA hC H locs lsA hP hD hS hL
  obtain ⟨hx, hb, hr, hlk, hml, hown, hts, hN, hK, hA⟩ := id hC
  obtain ⟨hd, rfl⟩ := hd
  exact lv_iconst hx hb hd hv (k l p e s m args below meth c A D ad cA hC H locs lsA hP hD hS hL)
theorem wp_bipush {y : Mth} {pc pc' : Nat} {ls st : List Value} {σ : Hp} {Q : Option Value → Hp → Prop} {n : Int} {v : Int32} (hd : Dc (hn_by y) pc (.bipush n) 2 pc') (hv : (Int8.ofInt n).toInt32 = v) (k : WP y pc' ls (.int v :: st) σ Q) : WP y pc ls (st) σ Q := by
  intro l p e s m args below meth c A D ad cA hC H locs lsA hP hD hS hL
  obtain ⟨hx, hb, hr, hlk, hml, hown, hts, hN, hK, hA⟩ := id hC
  obtain ⟨hd, rfl⟩ := hd
  exact lv_bipush hx hb hd hv (k l p e s m args below meth c A D ad cA hC H locs lsA hP hD hS hL)
theorem wp_sipush {y : Mth} {pc pc' : Nat} {ls st : List Value} {σ : Hp} {Q : Option Value → Hp → Prop} {n : Int} {v : Int32} (hd : Dc (hn_by y) pc (.sipush n) 3 pc') (hv : (Int16.ofInt n).toInt32 = v) (k : WP y pc' ls (.int v :: st) σ Q) : WP y pc ls (st) σ Q := by
  intro l p e s m args below meth c A D ad cA hC H locs lsA hP hD hS hL
  obtain ⟨hx, hb, hr, hlk, hml, hown, hts, hN, hK, hA⟩ := id hC
  obtain ⟨hd, rfl⟩ := hd
  exact lv_sipush hx hb hd hv (k l p e s m args below meth c A D ad cA hC H locs lsA hP hD hS hL)
theorem wp_lconst {y : Mth} {pc pc' : Nat} {ls st : List Value} {σ : Hp} {Q : Option Value → Hp → Prop} {n : Fin 2} {v : Int64} (hd : Dc (hn_by y) pc (.lconst n) 1 pc') (hv : Int64.ofNat (n : Nat) = v) (k : WP y pc' ls (.long v :: st) σ Q) : WP y pc ls (st) σ Q := by
  intro l p e s m args below meth c A D ad cA hC H locs lsA hP hD hS hL
  obtain ⟨hx, hb, hr, hlk, hml, hown, hts, hN, hK, hA⟩ := id hC
  obtain ⟨hd, rfl⟩ := hd
  exact lv_lconst hx hb hd hv (k l p e s m args below meth c A D ad cA hC H locs lsA hP hD hS hL)
theorem wp_ldc {y : Mth} {pc pc' : Nat} {ls st : List Value} {σ : Hp} {Q : Option Value → Hp → Prop} {idx : Nat} {v : Int32} (hd : Dc (hn_by y) pc (.ldc idx) 2 pc') (hw : Cond.constant (hn_nm y).cls idx v ∈ lw_big) (k : WP y pc' ls (.int v :: st) σ Q) : WP y pc ls (st) σ Q := by
  intro l p e s m args below meth c A D ad cA hC H locs lsA hP hD hS hL
  obtain ⟨hx, hb, hr, hlk, hml, hown, hts, hN, hK, hA⟩ := id hC
  obtain ⟨hd, rfl⟩ := hd
  exact lv_ldc hx hb hown (hts _ hw) hd (k l p e s m args below meth c A D ad cA hC H locs lsA hP hD hS hL)
theorem wp_ldcw {y : Mth} {pc pc' : Nat} {ls st : List Value} {σ : Hp} {Q : Option Value → Hp → Prop} {idx : Nat} {v : Int32} (hd : Dc (hn_by y) pc (.ldc_w idx) 3 pc') (hw : Cond.constant (hn_nm y).cls idx v ∈ lw_big) (k : WP y pc' ls (.int v :: st) σ Q) : WP y pc ls (st) σ Q := by
  intro l p e s m args below meth c A D ad cA hC H locs lsA hP hD hS hL
  obtain ⟨hx, hb, hr, hlk, hml, hown, hts, hN, hK, hA⟩ := id hC
  obtain ⟨hd, rfl⟩ := hd
  exact lv_ldcw hx hb hown (hts _ hw) hd (k l p e s m args below meth c A D ad cA hC H locs lsA hP hD hS hL)
theorem wp_ldc2 {y : Mth} {pc pc' : Nat} {ls st : List Value} {σ : Hp} {Q : Option Value → Hp → Prop} {idx : Nat} {v : Int64} (hd : Dc (hn_by y) pc (.ldc2_w idx) 3 pc') (hw : Cond.constantLong (hn_nm y).cls idx v ∈ lw_big) (k : WP y pc' ls (.long v :: st) σ Q) : WP y pc ls (st) σ Q := by
  intro l p e s m args below meth c A D ad cA hC H locs lsA hP hD hS hL
  obtain ⟨hx, hb, hr, hlk, hml, hown, hts, hN, hK, hA⟩ := id hC
  obtain ⟨hd, rfl⟩ := hd
  exact lv_ldc2 hx hb hown (hts _ hw) hd (k l p e s m args below meth c A D ad cA hC H locs lsA hP hD hS hL)
theorem wp_iload_n {y : Mth} {pc pc' : Nat} {ls st : List Value} {σ : Hp} {Q : Option Value → Hp → Prop} {k0 : Fin 4} {x : Int32} (hd : Dc (hn_by y) pc (.iload_n k0) 1 pc') (hl : ls[(k0 : Nat)]? = some (.int x)) (k : WP y pc' ls (.int x :: st) σ Q) : WP y pc ls (st) σ Q := by
  intro l p e s m args below meth c A D ad cA hC H locs lsA hP hD hS hL
  obtain ⟨hx, hb, hr, hlk, hml, hown, hts, hN, hK, hA⟩ := id hC
  obtain ⟨hd, rfl⟩ := hd
  exact lv_iload_n hx hb hd rfl (hL.at hl (by intro h; cases h)) (k l p e s m args below meth c A D ad cA hC H locs lsA hP hD hS hL)
theorem wp_iload {y : Mth} {pc pc' : Nat} {ls st : List Value} {σ : Hp} {Q : Option Value → Hp → Prop} {i : Nat} {x : Int32} (hd : Dc (hn_by y) pc (.iload i) 2 pc') (hl : ls[i]? = some (.int x)) (k : WP y pc' ls (.int x :: st) σ Q) : WP y pc ls (st) σ Q := by
  intro l p e s m args below meth c A D ad cA hC H locs lsA hP hD hS hL
  obtain ⟨hx, hb, hr, hlk, hml, hown, hts, hN, hK, hA⟩ := id hC
  obtain ⟨hd, rfl⟩ := hd
  exact lv_iload hx hb hd (hL.at hl (by intro h; cases h)) (k l p e s m args below meth c A D ad cA hC H locs lsA hP hD hS hL)
theorem wp_lload_n {y : Mth} {pc pc' : Nat} {ls st : List Value} {σ : Hp} {Q : Option Value → Hp → Prop} {k0 : Fin 4} {x : Int64} (hd : Dc (hn_by y) pc (.lload_n k0) 1 pc') (hl : ls[(k0 : Nat)]? = some (.long x)) (k : WP y pc' ls (.long x :: st) σ Q) : WP y pc ls (st) σ Q := by
  intro l p e s m args below meth c A D ad cA hC H locs lsA hP hD hS hL
  obtain ⟨hx, hb, hr, hlk, hml, hown, hts, hN, hK, hA⟩ := id hC
  obtain ⟨hd, rfl⟩ := hd
  exact lv_lload_n hx hb hd rfl (hL.at hl (by intro h; cases h)) (k l p e s m args below meth c A D ad cA hC H locs lsA hP hD hS hL)
theorem wp_lload {y : Mth} {pc pc' : Nat} {ls st : List Value} {σ : Hp} {Q : Option Value → Hp → Prop} {i : Nat} {x : Int64} (hd : Dc (hn_by y) pc (.lload i) 2 pc') (hl : ls[i]? = some (.long x)) (k : WP y pc' ls (.long x :: st) σ Q) : WP y pc ls (st) σ Q := by
  intro l p e s m args below meth c A D ad cA hC H locs lsA hP hD hS hL
  obtain ⟨hx, hb, hr, hlk, hml, hown, hts, hN, hK, hA⟩ := id hC
  obtain ⟨hd, rfl⟩ := hd
  exact lv_lload hx hb hd (hL.at hl (by intro h; cases h)) (k l p e s m args below meth c A D ad cA hC H locs lsA hP hD hS hL)
theorem wp_aload_n {y : Mth} {pc pc' : Nat} {ls st : List Value} {σ : Hp} {Q : Option Value → Hp → Prop} {k0 : Fin 4} {x : Nat} (hd : Dc (hn_by y) pc (.aload_n k0) 1 pc') (hl : ls[(k0 : Nat)]? = some (.ref x)) (k : WP y pc' ls (.ref x :: st) σ Q) : WP y pc ls (st) σ Q := by
  intro l p e s m args below meth c A D ad cA hC H locs lsA hP hD hS hL
  obtain ⟨hx, hb, hr, hlk, hml, hown, hts, hN, hK, hA⟩ := id hC
  obtain ⟨hd, rfl⟩ := hd
  exact lv_aload_n hx hb hd rfl (hL.at hl (by intro h; cases h)) (k l p e s m args below meth c A D ad cA hC H locs lsA hP hD hS hL)
theorem wp_aload {y : Mth} {pc pc' : Nat} {ls st : List Value} {σ : Hp} {Q : Option Value → Hp → Prop} {i : Nat} {x : Nat} (hd : Dc (hn_by y) pc (.aload i) 2 pc') (hl : ls[i]? = some (.ref x)) (k : WP y pc' ls (.ref x :: st) σ Q) : WP y pc ls (st) σ Q := by
  intro l p e s m args below meth c A D ad cA hC H locs lsA hP hD hS hL
  obtain ⟨hx, hb, hr, hlk, hml, hown, hts, hN, hK, hA⟩ := id hC
  obtain ⟨hd, rfl⟩ := hd
  exact lv_aload hx hb hd (hL.at hl (by intro h; cases h)) (k l p e s m args below meth c A D ad cA hC H locs lsA hP hD hS hL)
theorem wp_iadd {y : Mth} {pc pc' : Nat} {ls st : List Value} {σ : Hp} {Q : Option Value → Hp → Prop} {x z : Int32} (hd : Dc (hn_by y) pc (.iadd) 1 pc')  (k : WP y pc' ls (.int (x + z) :: st) σ Q) : WP y pc ls (.int z :: .int x :: st) σ Q := by
  intro l p e s m args below meth c A D ad cA hC H locs lsA hP hD hS hL
  obtain ⟨hx, hb, hr, hlk, hml, hown, hts, hN, hK, hA⟩ := id hC
  obtain ⟨hd, rfl⟩ := hd
  exact lv_iadd hx hb hd (k l p e s m args below meth c A D ad cA hC H locs lsA hP hD hS hL)
theorem wp_isub {y : Mth} {pc pc' : Nat} {ls st : List Value} {σ : Hp} {Q : Option Value → Hp → Prop} {x z : Int32} (hd : Dc (hn_by y) pc (.isub) 1 pc')  (k : WP y pc' ls (.int (x - z) :: st) σ Q) : WP y pc ls (.int z :: .int x :: st) σ Q := by
  intro l p e s m args below meth c A D ad cA hC H locs lsA hP hD hS hL
  obtain ⟨hx, hb, hr, hlk, hml, hown, hts, hN, hK, hA⟩ := id hC
  obtain ⟨hd, rfl⟩ := hd
  exact lv_isub hx hb hd (k l p e s m args below meth c A D ad cA hC H locs lsA hP hD hS hL)
theorem wp_imul {y : Mth} {pc pc' : Nat} {ls st : List Value} {σ : Hp} {Q : Option Value → Hp → Prop} {x z : Int32} (hd : Dc (hn_by y) pc (.imul) 1 pc')  (k : WP y pc' ls (.int (x * z) :: st) σ Q) : WP y pc ls (.int z :: .int x :: st) σ Q := by
  intro l p e s m args below meth c A D ad cA hC H locs lsA hP hD hS hL
  obtain ⟨hx, hb, hr, hlk, hml, hown, hts, hN, hK, hA⟩ := id hC
  obtain ⟨hd, rfl⟩ := hd
  exact lv_imul hx hb hd (k l p e s m args below meth c A D ad cA hC H locs lsA hP hD hS hL)
theorem wp_iand {y : Mth} {pc pc' : Nat} {ls st : List Value} {σ : Hp} {Q : Option Value → Hp → Prop} {x z : Int32} (hd : Dc (hn_by y) pc (.iand) 1 pc')  (k : WP y pc' ls (.int (x &&& z) :: st) σ Q) : WP y pc ls (.int z :: .int x :: st) σ Q := by
  intro l p e s m args below meth c A D ad cA hC H locs lsA hP hD hS hL
  obtain ⟨hx, hb, hr, hlk, hml, hown, hts, hN, hK, hA⟩ := id hC
  obtain ⟨hd, rfl⟩ := hd
  exact lv_iand hx hb hd (k l p e s m args below meth c A D ad cA hC H locs lsA hP hD hS hL)
theorem wp_ior {y : Mth} {pc pc' : Nat} {ls st : List Value} {σ : Hp} {Q : Option Value → Hp → Prop} {x z : Int32} (hd : Dc (hn_by y) pc (.ior) 1 pc')  (k : WP y pc' ls (.int (x ||| z) :: st) σ Q) : WP y pc ls (.int z :: .int x :: st) σ Q := by
  intro l p e s m args below meth c A D ad cA hC H locs lsA hP hD hS hL
  obtain ⟨hx, hb, hr, hlk, hml, hown, hts, hN, hK, hA⟩ := id hC
  obtain ⟨hd, rfl⟩ := hd
  exact lv_ior hx hb hd (k l p e s m args below meth c A D ad cA hC H locs lsA hP hD hS hL)
theorem wp_ixor {y : Mth} {pc pc' : Nat} {ls st : List Value} {σ : Hp} {Q : Option Value → Hp → Prop} {x z : Int32} (hd : Dc (hn_by y) pc (.ixor) 1 pc')  (k : WP y pc' ls (.int (x ^^^ z) :: st) σ Q) : WP y pc ls (.int z :: .int x :: st) σ Q := by
  intro l p e s m args below meth c A D ad cA hC H locs lsA hP hD hS hL
  obtain ⟨hx, hb, hr, hlk, hml, hown, hts, hN, hK, hA⟩ := id hC
  obtain ⟨hd, rfl⟩ := hd
  exact lv_ixor hx hb hd (k l p e s m args below meth c A D ad cA hC H locs lsA hP hD hS hL)
theorem wp_ishl {y : Mth} {pc pc' : Nat} {ls st : List Value} {σ : Hp} {Q : Option Value → Hp → Prop} {x z : Int32} (hd : Dc (hn_by y) pc (.ishl) 1 pc')  (k : WP y pc' ls (.int (x <<< (z &&& 31)) :: st) σ Q) : WP y pc ls (.int z :: .int x :: st) σ Q := by
  intro l p e s m args below meth c A D ad cA hC H locs lsA hP hD hS hL
  obtain ⟨hx, hb, hr, hlk, hml, hown, hts, hN, hK, hA⟩ := id hC
  obtain ⟨hd, rfl⟩ := hd
  exact lv_ishl hx hb hd (k l p e s m args below meth c A D ad cA hC H locs lsA hP hD hS hL)
theorem wp_ishr {y : Mth} {pc pc' : Nat} {ls st : List Value} {σ : Hp} {Q : Option Value → Hp → Prop} {x z : Int32} (hd : Dc (hn_by y) pc (.ishr) 1 pc')  (k : WP y pc' ls (.int (x >>> (z &&& 31)) :: st) σ Q) : WP y pc ls (.int z :: .int x :: st) σ Q := by
  intro l p e s m args below meth c A D ad cA hC H locs lsA hP hD hS hL
  obtain ⟨hx, hb, hr, hlk, hml, hown, hts, hN, hK, hA⟩ := id hC
  obtain ⟨hd, rfl⟩ := hd
  exact lv_ishr hx hb hd (k l p e s m args below meth c A D ad cA hC H locs lsA hP hD hS hL)
theorem wp_idiv {y : Mth} {pc pc' : Nat} {ls st : List Value} {σ : Hp} {Q : Option Value → Hp → Prop} {x z : Int32} (hd : Dc (hn_by y) pc (.idiv) 1 pc') (hz : ¬ z = 0) (k : WP y pc' ls (.int (x / z) :: st) σ Q) : WP y pc ls (.int z :: .int x :: st) σ Q := by
  intro l p e s m args below meth c A D ad cA hC H locs lsA hP hD hS hL
  obtain ⟨hx, hb, hr, hlk, hml, hown, hts, hN, hK, hA⟩ := id hC
  obtain ⟨hd, rfl⟩ := hd
  exact lv_idiv hx hb hd hz (k l p e s m args below meth c A D ad cA hC H locs lsA hP hD hS hL)
theorem wp_irem {y : Mth} {pc pc' : Nat} {ls st : List Value} {σ : Hp} {Q : Option Value → Hp → Prop} {x z : Int32} (hd : Dc (hn_by y) pc (.irem) 1 pc') (hz : ¬ z = 0) (k : WP y pc' ls (.int (x - x / z * z) :: st) σ Q) : WP y pc ls (.int z :: .int x :: st) σ Q := by
  intro l p e s m args below meth c A D ad cA hC H locs lsA hP hD hS hL
  obtain ⟨hx, hb, hr, hlk, hml, hown, hts, hN, hK, hA⟩ := id hC
  obtain ⟨hd, rfl⟩ := hd
  exact lv_irem hx hb hd hz (k l p e s m args below meth c A D ad cA hC H locs lsA hP hD hS hL)
theorem wp_iushr {y : Mth} {pc pc' : Nat} {ls st : List Value} {σ : Hp} {Q : Option Value → Hp → Prop} {x z : Int32} (hd : Dc (hn_by y) pc (.iushr) 1 pc')  (k : WP y pc' ls (.int ((x.toUInt32 >>> (z.toUInt32 &&& Int32.toUInt32 31)).toInt32) :: st) σ Q) : WP y pc ls (.int z :: .int x :: st) σ Q := by
  intro l p e s m args below meth c A D ad cA hC H locs lsA hP hD hS hL
  obtain ⟨hx, hb, hr, hlk, hml, hown, hts, hN, hK, hA⟩ := id hC
  obtain ⟨hd, rfl⟩ := hd
  exact lv_iushr hx hb hd rfl (k l p e s m args below meth c A D ad cA hC H locs lsA hP hD hS hL)
theorem wp_ladd {y : Mth} {pc pc' : Nat} {ls st : List Value} {σ : Hp} {Q : Option Value → Hp → Prop} {x z : Int64} (hd : Dc (hn_by y) pc (.ladd) 1 pc')  (k : WP y pc' ls (.long (x + z) :: st) σ Q) : WP y pc ls (.long z :: .long x :: st) σ Q := by
  intro l p e s m args below meth c A D ad cA hC H locs lsA hP hD hS hL
  obtain ⟨hx, hb, hr, hlk, hml, hown, hts, hN, hK, hA⟩ := id hC
  obtain ⟨hd, rfl⟩ := hd
  exact lv_ladd hx hb hd (k l p e s m args below meth c A D ad cA hC H locs lsA hP hD hS hL)
theorem wp_lsub {y : Mth} {pc pc' : Nat} {ls st : List Value} {σ : Hp} {Q : Option Value → Hp → Prop} {x z : Int64} (hd : Dc (hn_by y) pc (.lsub) 1 pc')  (k : WP y pc' ls (.long (x - z) :: st) σ Q) : WP y pc ls (.long z :: .long x :: st) σ Q := by
  intro l p e s m args below meth c A D ad cA hC H locs lsA hP hD hS hL
  obtain ⟨hx, hb, hr, hlk, hml, hown, hts, hN, hK, hA⟩ := id hC
  obtain ⟨hd, rfl⟩ := hd
  exact lv_lsub hx hb hd (k l p e s m args below meth c A D ad cA hC H locs lsA hP hD hS hL)
theorem wp_land {y : Mth} {pc pc' : Nat} {ls st : List Value} {σ : Hp} {Q : Option Value → Hp → Prop} {x z : Int64} (hd : Dc (hn_by y) pc (.land) 1 pc')  (k : WP y pc' ls (.long (x &&& z) :: st) σ Q) : WP y pc ls (.long z :: .long x :: st) σ Q := by
  intro l p e s m args below meth c A D ad cA hC H locs lsA hP hD hS hL
  obtain ⟨hx, hb, hr, hlk, hml, hown, hts, hN, hK, hA⟩ := id hC
  obtain ⟨hd, rfl⟩ := hd
  exact lv_land hx hb hd (k l p e s m args below meth c A D ad cA hC H locs lsA hP hD hS hL)
theorem wp_lor {y : Mth} {pc pc' : Nat} {ls st : List Value} {σ : Hp} {Q : Option Value → Hp → Prop} {x z : Int64} (hd : Dc (hn_by y) pc (.lor) 1 pc')  (k : WP y pc' ls (.long (x ||| z) :: st) σ Q) : WP y pc ls (.long z :: .long x :: st) σ Q := by
  intro l p e s m args below meth c A D ad cA hC H locs lsA hP hD hS hL
  obtain ⟨hx, hb, hr, hlk, hml, hown, hts, hN, hK, hA⟩ := id hC
  obtain ⟨hd, rfl⟩ := hd
  exact lv_lor hx hb hd (k l p e s m args below meth c A D ad cA hC H locs lsA hP hD hS hL)
theorem wp_lrem {y : Mth} {pc pc' : Nat} {ls st : List Value} {σ : Hp} {Q : Option Value → Hp → Prop} {x z : Int64} (hd : Dc (hn_by y) pc (.lrem) 1 pc') (hz : ¬ z = 0) (k : WP y pc' ls (.long (x - x / z * z) :: st) σ Q) : WP y pc ls (.long z :: .long x :: st) σ Q := by
  intro l p e s m args below meth c A D ad cA hC H locs lsA hP hD hS hL
  obtain ⟨hx, hb, hr, hlk, hml, hown, hts, hN, hK, hA⟩ := id hC
  obtain ⟨hd, rfl⟩ := hd
  exact lv_lrem hx hb hd hz (k l p e s m args below meth c A D ad cA hC H locs lsA hP hD hS hL)
theorem wp_lshl {y : Mth} {pc pc' : Nat} {ls st : List Value} {σ : Hp} {Q : Option Value → Hp → Prop} {x : Int64} {z : Int32} (hd : Dc (hn_by y) pc (.lshl) 1 pc')  (k : WP y pc' ls (.long (x <<< (z.toInt64 &&& 63)) :: st) σ Q) : WP y pc ls (.int z :: .long x :: st) σ Q := by
  intro l p e s m args below meth c A D ad cA hC H locs lsA hP hD hS hL
  obtain ⟨hx, hb, hr, hlk, hml, hown, hts, hN, hK, hA⟩ := id hC
  obtain ⟨hd, rfl⟩ := hd
  exact lv_lshl hx hb hd rfl (k l p e s m args below meth c A D ad cA hC H locs lsA hP hD hS hL)
theorem wp_lushr {y : Mth} {pc pc' : Nat} {ls st : List Value} {σ : Hp} {Q : Option Value → Hp → Prop} {x : Int64} {z : Int32} (hd : Dc (hn_by y) pc (.lushr) 1 pc')  (k : WP y pc' ls (.long ((x.toUInt64 >>> (z.toInt64.toUInt64 &&& Int64.toUInt64 63)).toInt64) :: st) σ Q) : WP y pc ls (.int z :: .long x :: st) σ Q := by
  intro l p e s m args below meth c A D ad cA hC H locs lsA hP hD hS hL
  obtain ⟨hx, hb, hr, hlk, hml, hown, hts, hN, hK, hA⟩ := id hC
  obtain ⟨hd, rfl⟩ := hd
  exact lv_lushr hx hb hd rfl (k l p e s m args below meth c A D ad cA hC H locs lsA hP hD hS hL)
theorem wp_i2l {y : Mth} {pc pc' : Nat} {ls st : List Value} {σ : Hp} {Q : Option Value → Hp → Prop} {x : Int32} (hd : Dc (hn_by y) pc (.i2l) 1 pc')  (k : WP y pc' ls (.long x.toInt64 :: st) σ Q) : WP y pc ls (.int x :: st) σ Q := by
  intro l p e s m args below meth c A D ad cA hC H locs lsA hP hD hS hL
  obtain ⟨hx, hb, hr, hlk, hml, hown, hts, hN, hK, hA⟩ := id hC
  obtain ⟨hd, rfl⟩ := hd
  exact lv_i2l hx hb hd rfl (k l p e s m args below meth c A D ad cA hC H locs lsA hP hD hS hL)
theorem wp_l2i {y : Mth} {pc pc' : Nat} {ls st : List Value} {σ : Hp} {Q : Option Value → Hp → Prop} {x : Int64} (hd : Dc (hn_by y) pc (.l2i) 1 pc')  (k : WP y pc' ls (.int x.toInt32 :: st) σ Q) : WP y pc ls (.long x :: st) σ Q := by
  intro l p e s m args below meth c A D ad cA hC H locs lsA hP hD hS hL
  obtain ⟨hx, hb, hr, hlk, hml, hown, hts, hN, hK, hA⟩ := id hC
  obtain ⟨hd, rfl⟩ := hd
  exact lv_l2i hx hb hd rfl (k l p e s m args below meth c A D ad cA hC H locs lsA hP hD hS hL)
theorem wp_lcmp {y : Mth} {pc pc' : Nat} {ls st : List Value} {σ : Hp} {Q : Option Value → Hp → Prop} {x z : Int64} (hd : Dc (hn_by y) pc (.lcmp) 1 pc')  (k : WP y pc' ls (.int (lg_cmp x z) :: st) σ Q) : WP y pc ls (.long z :: .long x :: st) σ Q := by
  intro l p e s m args below meth c A D ad cA hC H locs lsA hP hD hS hL
  obtain ⟨hx, hb, hr, hlk, hml, hown, hts, hN, hK, hA⟩ := id hC
  obtain ⟨hd, rfl⟩ := hd
  exact W.lcmp hx hb hd (k l p e s m args below meth c A D ad cA hC H locs lsA hP hD hS hL)
theorem wp_dup {y : Mth} {pc pc' : Nat} {ls st : List Value} {σ : Hp} {Q : Option Value → Hp → Prop} {v : Value} (hd : Dc (hn_by y) pc (.dup) 1 pc') (hv : v.category = 1) (k : WP y pc' ls (v :: v :: st) σ Q) : WP y pc ls (v :: st) σ Q := by
  intro l p e s m args below meth c A D ad cA hC H locs lsA hP hD hS hL
  obtain ⟨hx, hb, hr, hlk, hml, hown, hts, hN, hK, hA⟩ := id hC
  obtain ⟨hd, rfl⟩ := hd
  exact lv_dup hx hb hd (by rw [hn_tr_cat]; exact hv) (k l p e s m args below meth c A D ad cA hC H locs lsA hP hD hS hL)
theorem wp_pop {y : Mth} {pc pc' : Nat} {ls st : List Value} {σ : Hp} {Q : Option Value → Hp → Prop} {v : Value} (hd : Dc (hn_by y) pc (.pop) 1 pc') (hv : v.category = 1) (k : WP y pc' ls (st) σ Q) : WP y pc ls (v :: st) σ Q := by
  intro l p e s m args below meth c A D ad cA hC H locs lsA hP hD hS hL
  obtain ⟨hx, hb, hr, hlk, hml, hown, hts, hN, hK, hA⟩ := id hC
  obtain ⟨hd, rfl⟩ := hd
  exact lv_pop hx hb hd (by rw [hn_tr_cat]; exact hv) (k l p e s m args below meth c A D ad cA hC H locs lsA hP hD hS hL)
theorem wp_dup2 {y : Mth} {pc pc' : Nat} {ls st : List Value} {σ : Hp} {Q : Option Value → Hp → Prop} {v w : Value} (hd : Dc (hn_by y) pc (.dup2) 1 pc') (hv : v.category = 1) (hw : w.category = 1) (k : WP y pc' ls (v :: w :: v :: w :: st) σ Q) : WP y pc ls (v :: w :: st) σ Q := by
  intro l p e s m args below meth c A D ad cA hC H locs lsA hP hD hS hL
  obtain ⟨hx, hb, hr, hlk, hml, hown, hts, hN, hK, hA⟩ := id hC
  obtain ⟨hd, rfl⟩ := hd
  exact lv_dup2_11 hx hb hd (by rw [hn_tr_cat]; exact hv) (by rw [hn_tr_cat]; exact hw) (k l p e s m args below meth c A D ad cA hC H locs lsA hP hD hS hL)
theorem wp_if_eq {y : Mth} {pc pc' : Nat} {ls st : List Value} {σ : Hp} {Q : Option Value → Hp → Prop} {x : Int32} {off : Int} {tgt : Nat} (hd : Dc (hn_by y) pc (.ifCond .eq off) 3 pc') (ht : (pc : Int) + off = (tgt : Int)) (kt : x = 0 → WP y tgt ls st σ Q) (kf : ¬ x = 0 → WP y pc' ls st σ Q) : WP y pc ls (.int x :: st) σ Q := by
  intro l p e s m args below meth c A D ad cA hC H locs lsA hP hD hS hL
  obtain ⟨hx, hb, hr, hlk, hml, hown, hts, hN, hK, hA⟩ := id hC
  obtain ⟨hd, rfl⟩ := hd
  exact lv_if_eq hx hb hd ht (fun h => kt h l p e s m args below meth c A D ad cA hC H locs lsA hP hD hS hL) (fun h => kf h l p e s m args below meth c A D ad cA hC H locs lsA hP hD hS hL)
theorem wp_icmp_eq {y : Mth} {pc pc' : Nat} {ls st : List Value} {σ : Hp} {Q : Option Value → Hp → Prop} {x z : Int32} {off : Int} {tgt : Nat} (hd : Dc (hn_by y) pc (.if_icmp .eq off) 3 pc') (ht : (pc : Int) + off = (tgt : Int)) (kt : x = z → WP y tgt ls st σ Q) (kf : ¬ x = z → WP y pc' ls st σ Q) : WP y pc ls (.int z :: .int x :: st) σ Q := by
  intro l p e s m args below meth c A D ad cA hC H locs lsA hP hD hS hL
  obtain ⟨hx, hb, hr, hlk, hml, hown, hts, hN, hK, hA⟩ := id hC
  obtain ⟨hd, rfl⟩ := hd
  exact lv_icmp_eq hx hb hd ht (fun h => kt h l p e s m args below meth c A D ad cA hC H locs lsA hP hD hS hL) (fun h => kf h l p e s m args below meth c A D ad cA hC H locs lsA hP hD hS hL)
theorem wp_if_ne {y : Mth} {pc pc' : Nat} {ls st : List Value} {σ : Hp} {Q : Option Value → Hp → Prop} {x : Int32} {off : Int} {tgt : Nat} (hd : Dc (hn_by y) pc (.ifCond .ne off) 3 pc') (ht : (pc : Int) + off = (tgt : Int)) (kt : ¬ x = 0 → WP y tgt ls st σ Q) (kf : x = 0 → WP y pc' ls st σ Q) : WP y pc ls (.int x :: st) σ Q := by
  intro l p e s m args below meth c A D ad cA hC H locs lsA hP hD hS hL
  obtain ⟨hx, hb, hr, hlk, hml, hown, hts, hN, hK, hA⟩ := id hC
  obtain ⟨hd, rfl⟩ := hd
  exact lv_if_ne hx hb hd ht (fun h => kt h l p e s m args below meth c A D ad cA hC H locs lsA hP hD hS hL) (fun h => kf h l p e s m args below meth c A D ad cA hC H locs lsA hP hD hS hL)
theorem wp_icmp_ne {y : Mth} {pc pc' : Nat} {ls st : List Value} {σ : Hp} {Q : Option Value → Hp → Prop} {x z : Int32} {off : Int} {tgt : Nat} (hd : Dc (hn_by y) pc (.if_icmp .ne off) 3 pc') (ht : (pc : Int) + off = (tgt : Int)) (kt : ¬ x = z → WP y tgt ls st σ Q) (kf : x = z → WP y pc' ls st σ Q) : WP y pc ls (.int z :: .int x :: st) σ Q := by
  intro l p e s m args below meth c A D ad cA hC H locs lsA hP hD hS hL
  obtain ⟨hx, hb, hr, hlk, hml, hown, hts, hN, hK, hA⟩ := id hC
  obtain ⟨hd, rfl⟩ := hd
  exact lv_icmp_ne hx hb hd ht (fun h => kt h l p e s m args below meth c A D ad cA hC H locs lsA hP hD hS hL) (fun h => kf h l p e s m args below meth c A D ad cA hC H locs lsA hP hD hS hL)
theorem wp_if_lt {y : Mth} {pc pc' : Nat} {ls st : List Value} {σ : Hp} {Q : Option Value → Hp → Prop} {x : Int32} {off : Int} {tgt : Nat} (hd : Dc (hn_by y) pc (.ifCond .lt off) 3 pc') (ht : (pc : Int) + off = (tgt : Int)) (kt : x < 0 → WP y tgt ls st σ Q) (kf : ¬ x < 0 → WP y pc' ls st σ Q) : WP y pc ls (.int x :: st) σ Q := by
  intro l p e s m args below meth c A D ad cA hC H locs lsA hP hD hS hL
  obtain ⟨hx, hb, hr, hlk, hml, hown, hts, hN, hK, hA⟩ := id hC
  obtain ⟨hd, rfl⟩ := hd
  exact lv_if_lt hx hb hd ht (fun h => kt h l p e s m args below meth c A D ad cA hC H locs lsA hP hD hS hL) (fun h => kf h l p e s m args below meth c A D ad cA hC H locs lsA hP hD hS hL)
theorem wp_icmp_lt {y : Mth} {pc pc' : Nat} {ls st : List Value} {σ : Hp} {Q : Option Value → Hp → Prop} {x z : Int32} {off : Int} {tgt : Nat} (hd : Dc (hn_by y) pc (.if_icmp .lt off) 3 pc') (ht : (pc : Int) + off = (tgt : Int)) (kt : x < z → WP y tgt ls st σ Q) (kf : ¬ x < z → WP y pc' ls st σ Q) : WP y pc ls (.int z :: .int x :: st) σ Q := by
  intro l p e s m args below meth c A D ad cA hC H locs lsA hP hD hS hL
  obtain ⟨hx, hb, hr, hlk, hml, hown, hts, hN, hK, hA⟩ := id hC
  obtain ⟨hd, rfl⟩ := hd
  exact lv_icmp_lt hx hb hd ht (fun h => kt h l p e s m args below meth c A D ad cA hC H locs lsA hP hD hS hL) (fun h => kf h l p e s m args below meth c A D ad cA hC H locs lsA hP hD hS hL)
theorem wp_if_ge {y : Mth} {pc pc' : Nat} {ls st : List Value} {σ : Hp} {Q : Option Value → Hp → Prop} {x : Int32} {off : Int} {tgt : Nat} (hd : Dc (hn_by y) pc (.ifCond .ge off) 3 pc') (ht : (pc : Int) + off = (tgt : Int)) (kt : 0 ≤ x → WP y tgt ls st σ Q) (kf : ¬ 0 ≤ x → WP y pc' ls st σ Q) : WP y pc ls (.int x :: st) σ Q := by
  intro l p e s m args below meth c A D ad cA hC H locs lsA hP hD hS hL
  obtain ⟨hx, hb, hr, hlk, hml, hown, hts, hN, hK, hA⟩ := id hC
  obtain ⟨hd, rfl⟩ := hd
  exact lv_if_ge hx hb hd ht (fun h => kt h l p e s m args below meth c A D ad cA hC H locs lsA hP hD hS hL) (fun h => kf h l p e s m args below meth c A D ad cA hC H locs lsA hP hD hS hL)
theorem wp_icmp_ge {y : Mth} {pc pc' : Nat} {ls st : List Value} {σ : Hp} {Q : Option Value → Hp → Prop} {x z : Int32} {off : Int} {tgt : Nat} (hd : Dc (hn_by y) pc (.if_icmp .ge off) 3 pc') (ht : (pc : Int) + off = (tgt : Int)) (kt : z ≤ x → WP y tgt ls st σ Q) (kf : ¬ z ≤ x → WP y pc' ls st σ Q) : WP y pc ls (.int z :: .int x :: st) σ Q := by
  intro l p e s m args below meth c A D ad cA hC H locs lsA hP hD hS hL
  obtain ⟨hx, hb, hr, hlk, hml, hown, hts, hN, hK, hA⟩ := id hC
  obtain ⟨hd, rfl⟩ := hd
  exact lv_icmp_ge hx hb hd ht (fun h => kt h l p e s m args below meth c A D ad cA hC H locs lsA hP hD hS hL) (fun h => kf h l p e s m args below meth c A D ad cA hC H locs lsA hP hD hS hL)
theorem wp_if_gt {y : Mth} {pc pc' : Nat} {ls st : List Value} {σ : Hp} {Q : Option Value → Hp → Prop} {x : Int32} {off : Int} {tgt : Nat} (hd : Dc (hn_by y) pc (.ifCond .gt off) 3 pc') (ht : (pc : Int) + off = (tgt : Int)) (kt : 0 < x → WP y tgt ls st σ Q) (kf : ¬ 0 < x → WP y pc' ls st σ Q) : WP y pc ls (.int x :: st) σ Q := by
  intro l p e s m args below meth c A D ad cA hC H locs lsA hP hD hS hL
  obtain ⟨hx, hb, hr, hlk, hml, hown, hts, hN, hK, hA⟩ := id hC
  obtain ⟨hd, rfl⟩ := hd
  exact lv_if_gt hx hb hd ht (fun h => kt h l p e s m args below meth c A D ad cA hC H locs lsA hP hD hS hL) (fun h => kf h l p e s m args below meth c A D ad cA hC H locs lsA hP hD hS hL)
theorem wp_icmp_gt {y : Mth} {pc pc' : Nat} {ls st : List Value} {σ : Hp} {Q : Option Value → Hp → Prop} {x z : Int32} {off : Int} {tgt : Nat} (hd : Dc (hn_by y) pc (.if_icmp .gt off) 3 pc') (ht : (pc : Int) + off = (tgt : Int)) (kt : z < x → WP y tgt ls st σ Q) (kf : ¬ z < x → WP y pc' ls st σ Q) : WP y pc ls (.int z :: .int x :: st) σ Q := by
  intro l p e s m args below meth c A D ad cA hC H locs lsA hP hD hS hL
  obtain ⟨hx, hb, hr, hlk, hml, hown, hts, hN, hK, hA⟩ := id hC
  obtain ⟨hd, rfl⟩ := hd
  exact lv_icmp_gt hx hb hd ht (fun h => kt h l p e s m args below meth c A D ad cA hC H locs lsA hP hD hS hL) (fun h => kf h l p e s m args below meth c A D ad cA hC H locs lsA hP hD hS hL)
theorem wp_if_le {y : Mth} {pc pc' : Nat} {ls st : List Value} {σ : Hp} {Q : Option Value → Hp → Prop} {x : Int32} {off : Int} {tgt : Nat} (hd : Dc (hn_by y) pc (.ifCond .le off) 3 pc') (ht : (pc : Int) + off = (tgt : Int)) (kt : x ≤ 0 → WP y tgt ls st σ Q) (kf : ¬ x ≤ 0 → WP y pc' ls st σ Q) : WP y pc ls (.int x :: st) σ Q := by
  intro l p e s m args below meth c A D ad cA hC H locs lsA hP hD hS hL
  obtain ⟨hx, hb, hr, hlk, hml, hown, hts, hN, hK, hA⟩ := id hC
  obtain ⟨hd, rfl⟩ := hd
  exact lv_if_le hx hb hd ht (fun h => kt h l p e s m args below meth c A D ad cA hC H locs lsA hP hD hS hL) (fun h => kf h l p e s m args below meth c A D ad cA hC H locs lsA hP hD hS hL)
theorem wp_icmp_le {y : Mth} {pc pc' : Nat} {ls st : List Value} {σ : Hp} {Q : Option Value → Hp → Prop} {x z : Int32} {off : Int} {tgt : Nat} (hd : Dc (hn_by y) pc (.if_icmp .le off) 3 pc') (ht : (pc : Int) + off = (tgt : Int)) (kt : x ≤ z → WP y tgt ls st σ Q) (kf : ¬ x ≤ z → WP y pc' ls st σ Q) : WP y pc ls (.int z :: .int x :: st) σ Q := by
  intro l p e s m args below meth c A D ad cA hC H locs lsA hP hD hS hL
  obtain ⟨hx, hb, hr, hlk, hml, hown, hts, hN, hK, hA⟩ := id hC
  obtain ⟨hd, rfl⟩ := hd
  exact lv_icmp_le hx hb hd ht (fun h => kt h l p e s m args below meth c A D ad cA hC H locs lsA hP hD hS hL) (fun h => kf h l p e s m args below meth c A D ad cA hC H locs lsA hP hD hS hL)
theorem wp_goto {y : Mth} {pc pc' : Nat} {ls st : List Value} {σ : Hp} {Q : Option Value → Hp → Prop} {off : Int} {tgt : Nat} (hd : Dc (hn_by y) pc (.goto off) 3 pc') (ht : (pc : Int) + off = (tgt : Int)) (k : WP y tgt ls st σ Q) : WP y pc ls st σ Q := by
  intro l p e s m args below meth c A D ad cA hC H locs lsA hP hD hS hL
  obtain ⟨hx, hb, hr, hlk, hml, hown, hts, hN, hK, hA⟩ := id hC
  obtain ⟨hd, rfl⟩ := hd
  exact lv_goto hx hb hd ht (k l p e s m args below meth c A D ad cA hC H locs lsA hP hD hS hL)
theorem wp_tabIn {y : Mth} {pc pc' : Nat} {ls st : List Value} {σ : Hp} {Q : Option Value → Hp → Prop} {dflt lo hi : Int} {offs : Array Int} {n tgt : Nat} {x : Int32} {off : Int} (hd : Dc (hn_by y) pc (.tableswitch dflt lo hi offs) n pc') (h1 : ¬ x.toInt < lo) (h2 : ¬ hi < x.toInt) (ho : offs[(x.toInt - lo).toNat]? = some off) (ht : (pc : Int) + off = (tgt : Int)) (k : WP y tgt ls st σ Q) : WP y pc ls (.int x :: st) σ Q := by
  intro l p e s m args below meth c A D ad cA hC H locs lsA hP hD hS hL
  obtain ⟨hx, hb, hr, hlk, hml, hown, hts, hN, hK, hA⟩ := id hC
  obtain ⟨hd, rfl⟩ := hd
  exact lv_tableIn hx hb hd h1 h2 ho ht (k l p e s m args below meth c A D ad cA hC H locs lsA hP hD hS hL)
theorem wp_tabOut {y : Mth} {pc pc' : Nat} {ls st : List Value} {σ : Hp} {Q : Option Value → Hp → Prop} {dflt lo hi : Int} {offs : Array Int} {n tgt : Nat} {x : Int32} (hd : Dc (hn_by y) pc (.tableswitch dflt lo hi offs) n pc') (h : x.toInt < lo ∨ hi < x.toInt) (ht : (pc : Int) + dflt = (tgt : Int)) (k : WP y tgt ls st σ Q) : WP y pc ls (.int x :: st) σ Q := by
  intro l p e s m args below meth c A D ad cA hC H locs lsA hP hD hS hL
  obtain ⟨hx, hb, hr, hlk, hml, hown, hts, hN, hK, hA⟩ := id hC
  obtain ⟨hd, rfl⟩ := hd
  exact lv_tableOut hx hb hd h ht (k l p e s m args below meth c A D ad cA hC H locs lsA hP hD hS hL)
theorem hn_stL {ad : Nat → Nat} {nL : Nat} {ls : List Value} {l : List (Nat × Value)} {lsB : Array Slot} {i : Nat} {v w : Value} (hlen : ls.length = nL) (hw : w = hn_tr ad v) (hin : ∀ (j : Nat) (v : Value), ls[j]? = some v → v ≠ .null → (j, hn_tr ad v) ∈ l) (hi : i < nL) (ho : ∀ (j : Nat) (u : Value), j + 1 = i → ls[j]? = some u → u.category = 1)
    (h : lv_has lsB nL ((i, w) :: l.filter (fun q => !(q.1 == i) && !(q.1 + 1 == i && q.2.category == 2)))) : hn_L ad nL (ls.set i v) lsB := by
  refine ⟨by simp [hlen], _, h, fun j u hj hu => ?_⟩
  by_cases hji : j = i
  · subst hji
    rw [List.getElem?_set_self (by omega)] at hj
    cases hj
    rw [hw]
    exact List.mem_cons_self
  · rw [List.getElem?_set_ne (Ne.symm hji)] at hj
    refine List.mem_cons_of_mem _ (List.mem_filter.mpr ⟨hin j u hj hu, ?_⟩)
    have h1 : (j == i) = false := by simpa using hji
    dsimp only
    rw [h1, hn_tr_cat]
    by_cases h2 : j + 1 = i
    · simp [ho j u h2 hj]
    · simp [h2]
theorem hn_stL2 {ad : Nat → Nat} {nL : Nat} {ls : List Value} {l : List (Nat × Value)} {lsB : Array Slot} {i : Nat} {v w : Value} (hlen : ls.length = nL) (hw : w = hn_tr ad v) (hin : ∀ (j : Nat) (v : Value), ls[j]? = some v → v ≠ .null → (j, hn_tr ad v) ∈ l) (hi : i + 1 < nL) (ho : ∀ (j : Nat) (u : Value), j + 1 = i → ls[j]? = some u → u.category = 1)
    (h : lv_has lsB nL ((i, w) :: l.filter (fun q => !(q.1 == i) && (!(q.1 == i + 1) && !(q.1 + 1 == i && q.2.category == 2))))) : hn_L ad nL ((ls.set i v).set (i + 1) .null) lsB := by
  refine ⟨by simp [hlen], _, h, fun j u hj hu => ?_⟩
  by_cases hj1 : j = i + 1
  · subst hj1
    rw [List.getElem?_set_self (by simp; omega)] at hj
    cases hj
    exact absurd rfl hu
  rw [List.getElem?_set_ne (Ne.symm hj1)] at hj
  by_cases hji : j = i
  · subst hji
    rw [List.getElem?_set_self (by omega)] at hj
    cases hj
    rw [hw]
    exact List.mem_cons_self
  · rw [List.getElem?_set_ne (Ne.symm hji)] at hj
    refine List.mem_cons_of_mem _ (List.mem_filter.mpr ⟨hin j u hj hu, ?_⟩)
    have h1 : (j == i) = false := by simpa using hji
    have h3 : (j == i + 1) = false := by simpa using hj1
    dsimp only
    rw [h1, h3, hn_tr_cat]
    by_cases h2 : j + 1 = i
    · simp [ho j u h2 hj]
    · simp [h2]
theorem wpg_istore_n {y : Mth} {pc pc' : Nat} {ls st : List Value} {σ : Hp} {Q : Option Value → Hp → Prop} {k0 : Fin 4} {i : Nat} {x : Int32} (hd : Dc (hn_by y) pc (.istore_n k0) 1 pc') (hk : (k0 : Nat) = i) (hi : i < hn_ml y) (ho : ∀ (j : Nat) (u : Value), j + 1 = i → ls[j]? = some u → u.category = 1) (k : WP y pc' (ls.set i (.int x)) st σ Q) : WP y pc ls (.int x :: st) σ Q := by
  intro l p e s m args below meth c A D ad cA hC H locs lsA hP hD hS hL
  obtain ⟨hx, hb, hr, hlk, hml, hown, hts, hN, hK, hA⟩ := id hC
  obtain ⟨hd, rfl⟩ := hd
  obtain ⟨hlen, l2, hl, hin⟩ := hL
  exact lv_istore_n hx hb hd hk hl hi rfl (fun ls2 hl2 => k l p e s m args below meth c A D ad cA hC H locs ls2 hP hD hS (hn_stL hlen rfl hin hi ho hl2))
theorem wpg_istore {y : Mth} {pc pc' : Nat} {ls st : List Value} {σ : Hp} {Q : Option Value → Hp → Prop} {i : Nat} {x : Int32} (hd : Dc (hn_by y) pc (.istore i) 2 pc') (hi : i < hn_ml y) (ho : ∀ (j : Nat) (u : Value), j + 1 = i → ls[j]? = some u → u.category = 1) (k : WP y pc' (ls.set i (.int x)) st σ Q) : WP y pc ls (.int x :: st) σ Q := by
  intro l p e s m args below meth c A D ad cA hC H locs lsA hP hD hS hL
  obtain ⟨hx, hb, hr, hlk, hml, hown, hts, hN, hK, hA⟩ := id hC
  obtain ⟨hd, rfl⟩ := hd
  obtain ⟨hlen, l2, hl, hin⟩ := hL
  exact lv_istore hx hb hd hl hi rfl (fun ls2 hl2 => k l p e s m args below meth c A D ad cA hC H locs ls2 hP hD hS (hn_stL hlen rfl hin hi ho hl2))
theorem wpg_lstore_n {y : Mth} {pc pc' : Nat} {ls st : List Value} {σ : Hp} {Q : Option Value → Hp → Prop} {k0 : Fin 4} {i : Nat} {x : Int64} (hd : Dc (hn_by y) pc (.lstore_n k0) 1 pc') (hk : (k0 : Nat) = i) (hi : i + 1 < hn_ml y) (ho : ∀ (j : Nat) (u : Value), j + 1 = i → ls[j]? = some u → u.category = 1) (k : WP y pc' ((ls.set i (.long x)).set (i + 1) .null) st σ Q) : WP y pc ls (.long x :: st) σ Q := by
  intro l p e s m args below meth c A D ad cA hC H locs lsA hP hD hS hL
  obtain ⟨hx, hb, hr, hlk, hml, hown, hts, hN, hK, hA⟩ := id hC
  obtain ⟨hd, rfl⟩ := hd
  obtain ⟨hlen, l2, hl, hin⟩ := hL
  exact lv_lstore_n hx hb hd hk hl hi rfl (fun ls2 hl2 => k l p e s m args below meth c A D ad cA hC H locs ls2 hP hD hS (hn_stL2 hlen rfl hin hi ho hl2))
theorem wpg_lstore {y : Mth} {pc pc' : Nat} {ls st : List Value} {σ : Hp} {Q : Option Value → Hp → Prop} {i : Nat} {x : Int64} (hd : Dc (hn_by y) pc (.lstore i) 2 pc') (hi : i + 1 < hn_ml y) (ho : ∀ (j : Nat) (u : Value), j + 1 = i → ls[j]? = some u → u.category = 1) (k : WP y pc' ((ls.set i (.long x)).set (i + 1) .null) st σ Q) : WP y pc ls (.long x :: st) σ Q := by
  intro l p e s m args below meth c A D ad cA hC H locs lsA hP hD hS hL
  obtain ⟨hx, hb, hr, hlk, hml, hown, hts, hN, hK, hA⟩ := id hC
  obtain ⟨hd, rfl⟩ := hd
  obtain ⟨hlen, l2, hl, hin⟩ := hL
  exact lv_lstore hx hb hd hl hi rfl (fun ls2 hl2 => k l p e s m args below meth c A D ad cA hC H locs ls2 hP hD hS (hn_stL2 hlen rfl hin hi ho hl2))
theorem wpg_iinc {y : Mth} {pc pc' : Nat} {ls st : List Value} {σ : Hp} {Q : Option Value → Hp → Prop} {i : Nat} {n : Int} {x v : Int32} (hd : Dc (hn_by y) pc (.iinc i n) 3 pc') (hl0 : ls[i]? = some (.int x)) (hv : x + Int32.ofInt n = v) (hi : i < hn_ml y) (ho : ∀ (j : Nat) (u : Value), j + 1 = i → ls[j]? = some u → u.category = 1) (k : WP y pc' (ls.set i (.int v)) st σ Q) : WP y pc ls st σ Q := by
  intro l p e s m args below meth c A D ad cA hC H locs lsA hP hD hS hL
  obtain ⟨hx, hb, hr, hlk, hml, hown, hts, hN, hK, hA⟩ := id hC
  obtain ⟨hd, rfl⟩ := hd
  obtain ⟨hlen, l2, hl, hin⟩ := hL
  obtain ⟨q, hq⟩ := List.getElem?_of_mem (hin i _ hl0 (by intro h; cases h))
  exact lv_iinc hx hb hd hl hq hv hi rfl (fun ls2 hl2 => k l p e s m args below meth c A D ad cA hC H locs ls2 hP hD hS (hn_stL hlen rfl hin hi ho hl2))
theorem hn_ho0 {ls : List Value} : ∀ (j : Nat) (u : Value), j + 1 = 0 → ls[j]? = some u → u.category = 1 := fun j u h _ => absurd h (Nat.succ_ne_zero j)
theorem hn_ho {ls : List Value} {i : Nat} {a : Value} (h : ls[i]? = some a) (hc : a.category = 1) : ∀ (j : Nat) (u : Value), j + 1 = i + 1 → ls[j]? = some u → u.category = 1 := by
  intro j u hj hu
  obtain rfl : j = i := by omega
  rw [h] at hu
  cases hu
  exact hc
theorem wp_istore0 {y : Mth} {pc pc' : Nat} {st : List Value} {σ : Hp} {Q : Option Value → Hp → Prop} {a0 : Value} {r : List Value} {x : Int32} (hd : Dc (hn_by y) pc (.istore_n 0) 1 pc') (hi : 0 < hn_ml y) (k : WP y pc' (.int x :: r) st σ Q) : WP y pc (a0 :: r) (.int x :: st) σ Q :=
  wpg_istore_n (i := 0) hd rfl hi hn_ho0 k
theorem wp_lstore0 {y : Mth} {pc pc' : Nat} {st : List Value} {σ : Hp} {Q : Option Value → Hp → Prop} {a0 b : Value} {r : List Value} {x : Int64} (hd : Dc (hn_by y) pc (.lstore_n 0) 1 pc') (hi : 1 < hn_ml y) (k : WP y pc' (.long x :: .null :: r) st σ Q) : WP y pc (a0 :: b :: r) (.long x :: st) σ Q :=
  wpg_lstore_n (i := 0) hd rfl hi hn_ho0 k
theorem wp_iinc0 {y : Mth} {pc pc' : Nat} {st : List Value} {σ : Hp} {Q : Option Value → Hp → Prop} {r : List Value} {n : Int} {x v : Int32} (hd : Dc (hn_by y) pc (.iinc 0 n) 3 pc') (hv : x + Int32.ofInt n = v) (hi : 0 < hn_ml y) (k : WP y pc' (.int v :: r) st σ Q) : WP y pc (.int x :: r) st σ Q :=
  wpg_iinc (i := 0) hd rfl hv hi hn_ho0 k
theorem wp_istore1 {y : Mth} {pc pc' : Nat} {st : List Value} {σ : Hp} {Q : Option Value → Hp → Prop} {a0 a1 : Value} {r : List Value} {x : Int32} (hd : Dc (hn_by y) pc (.istore_n 1) 1 pc') (hi : 1 < hn_ml y) (hc : a0.category = 1) (k : WP y pc' (a0 :: .int x :: r) st σ Q) : WP y pc (a0 :: a1 :: r) (.int x :: st) σ Q :=
  wpg_istore_n (i := 1) hd rfl hi (hn_ho (i := 0) rfl hc) k
theorem wp_lstore1 {y : Mth} {pc pc' : Nat} {st : List Value} {σ : Hp} {Q : Option Value → Hp → Prop} {a0 a1 b : Value} {r : List Value} {x : Int64} (hd : Dc (hn_by y) pc (.lstore_n 1) 1 pc') (hi : 2 < hn_ml y) (hc : a0.category = 1) (k : WP y pc' (a0 :: .long x :: .null :: r) st σ Q) : WP y pc (a0 :: a1 :: b :: r) (.long x :: st) σ Q :=
  wpg_lstore_n (i := 1) hd rfl hi (hn_ho (i := 0) rfl hc) k
theorem wp_iinc1 {y : Mth} {pc pc' : Nat} {st : List Value} {σ : Hp} {Q : Option Value → Hp → Prop} {a0 : Value} {r : List Value} {n : Int} {x v : Int32} (hd : Dc (hn_by y) pc (.iinc 1 n) 3 pc') (hv : x + Int32.ofInt n = v) (hi : 1 < hn_ml y) (hc : a0.category = 1) (k : WP y pc' (a0 :: .int v :: r) st σ Q) : WP y pc (a0 :: .int x :: r) st σ Q :=
  wpg_iinc (i := 1) hd rfl hv hi (hn_ho (i := 0) rfl hc) k
theorem wp_istore2 {y : Mth} {pc pc' : Nat} {st : List Value} {σ : Hp} {Q : Option Value → Hp → Prop} {a0 a1 a2 : Value} {r : List Value} {x : Int32} (hd : Dc (hn_by y) pc (.istore_n 2) 1 pc') (hi : 2 < hn_ml y) (hc : a1.category = 1) (k : WP y pc' (a0 :: a1 :: .int x :: r) st σ Q) : WP y pc (a0 :: a1 :: a2 :: r) (.int x :: st) σ Q :=
  wpg_istore_n (i := 2) hd rfl hi (hn_ho (i := 1) rfl hc) k
theorem wp_lstore2 {y : Mth} {pc pc' : Nat} {st : List Value} {σ : Hp} {Q : Option Value → Hp → Prop} {a0 a1 a2 b : Value} {r : List Value} {x : Int64} (hd : Dc (hn_by y) pc (.lstore_n 2) 1 pc') (hi : 3 < hn_ml y) (hc : a1.category = 1) (k : WP y pc' (a0 :: a1 :: .long x :: .null :: r) st σ Q) : WP y pc (a0 :: a1 :: a2 :: b :: r) (.long x :: st) σ Q :=
  wpg_lstore_n (i := 2) hd rfl hi (hn_ho (i := 1) rfl hc) k
theorem wp_iinc2 {y : Mth} {pc pc' : Nat} {st : List Value} {σ : Hp} {Q : Option Value → Hp → Prop} {a0 a1 : Value} {r : List Value} {n : Int} {x v : Int32} (hd : Dc (hn_by y) pc (.iinc 2 n) 3 pc') (hv : x + Int32.ofInt n = v) (hi : 2 < hn_ml y) (hc : a1.category = 1) (k : WP y pc' (a0 :: a1 :: .int v :: r) st σ Q) : WP y pc (a0 :: a1 :: .int x :: r) st σ Q :=
  wpg_iinc (i := 2) hd rfl hv hi (hn_ho (i := 1) rfl hc) k
theorem wp_istore3 {y : Mth} {pc pc' : Nat} {st : List Value} {σ : Hp} {Q : Option Value → Hp → Prop} {a0 a1 a2 a3 : Value} {r : List Value} {x : Int32} (hd : Dc (hn_by y) pc (.istore_n 3) 1 pc') (hi : 3 < hn_ml y) (hc : a2.category = 1) (k : WP y pc' (a0 :: a1 :: a2 :: .int x :: r) st σ Q) : WP y pc (a0 :: a1 :: a2 :: a3 :: r) (.int x :: st) σ Q :=
  wpg_istore_n (i := 3) hd rfl hi (hn_ho (i := 2) rfl hc) k
theorem wp_lstore3 {y : Mth} {pc pc' : Nat} {st : List Value} {σ : Hp} {Q : Option Value → Hp → Prop} {a0 a1 a2 a3 b : Value} {r : List Value} {x : Int64} (hd : Dc (hn_by y) pc (.lstore_n 3) 1 pc') (hi : 4 < hn_ml y) (hc : a2.category = 1) (k : WP y pc' (a0 :: a1 :: a2 :: .long x :: .null :: r) st σ Q) : WP y pc (a0 :: a1 :: a2 :: a3 :: b :: r) (.long x :: st) σ Q :=
  wpg_lstore_n (i := 3) hd rfl hi (hn_ho (i := 2) rfl hc) k
theorem wp_iinc3 {y : Mth} {pc pc' : Nat} {st : List Value} {σ : Hp} {Q : Option Value → Hp → Prop} {a0 a1 a2 : Value} {r : List Value} {n : Int} {x v : Int32} (hd : Dc (hn_by y) pc (.iinc 3 n) 3 pc') (hv : x + Int32.ofInt n = v) (hi : 3 < hn_ml y) (hc : a2.category = 1) (k : WP y pc' (a0 :: a1 :: a2 :: .int v :: r) st σ Q) : WP y pc (a0 :: a1 :: a2 :: .int x :: r) st σ Q :=
  wpg_iinc (i := 3) hd rfl hv hi (hn_ho (i := 2) rfl hc) k
theorem wp_istore4 {y : Mth} {pc pc' : Nat} {st : List Value} {σ : Hp} {Q : Option Value → Hp → Prop} {a0 a1 a2 a3 a4 : Value} {r : List Value} {x : Int32} (hd : Dc (hn_by y) pc (.istore 4) 2 pc') (hi : 4 < hn_ml y) (hc : a3.category = 1) (k : WP y pc' (a0 :: a1 :: a2 :: a3 :: .int x :: r) st σ Q) : WP y pc (a0 :: a1 :: a2 :: a3 :: a4 :: r) (.int x :: st) σ Q :=
  wpg_istore (i := 4) hd hi (hn_ho (i := 3) rfl hc) k
theorem wp_lstore4 {y : Mth} {pc pc' : Nat} {st : List Value} {σ : Hp} {Q : Option Value → Hp → Prop} {a0 a1 a2 a3 a4 b : Value} {r : List Value} {x : Int64} (hd : Dc (hn_by y) pc (.lstore 4) 2 pc') (hi : 5 < hn_ml y) (hc : a3.category = 1) (k : WP y pc' (a0 :: a1 :: a2 :: a3 :: .long x :: .null :: r) st σ Q) : WP y pc (a0 :: a1 :: a2 :: a3 :: a4 :: b :: r) (.long x :: st) σ Q :=
  wpg_lstore (i := 4) hd hi (hn_ho (i := 3) rfl hc) k
theorem wp_iinc4 {y : Mth} {pc pc' : Nat} {st : List Value} {σ : Hp} {Q : Option Value → Hp → Prop} {a0 a1 a2 a3 : Value} {r : List Value} {n : Int} {x v : Int32} (hd : Dc (hn_by y) pc (.iinc 4 n) 3 pc') (hv : x + Int32.ofInt n = v) (hi : 4 < hn_ml y) (hc : a3.category = 1) (k : WP y pc' (a0 :: a1 :: a2 :: a3 :: .int v :: r) st σ Q) : WP y pc (a0 :: a1 :: a2 :: a3 :: .int x :: r) st σ Q :=
  wpg_iinc (i := 4) hd rfl hv hi (hn_ho (i := 3) rfl hc) k
theorem wp_istore5 {y : Mth} {pc pc' : Nat} {st : List Value} {σ : Hp} {Q : Option Value → Hp → Prop} {a0 a1 a2 a3 a4 a5 : Value} {r : List Value} {x : Int32} (hd : Dc (hn_by y) pc (.istore 5) 2 pc') (hi : 5 < hn_ml y) (hc : a4.category = 1) (k : WP y pc' (a0 :: a1 :: a2 :: a3 :: a4 :: .int x :: r) st σ Q) : WP y pc (a0 :: a1 :: a2 :: a3 :: a4 :: a5 :: r) (.int x :: st) σ Q :=
  wpg_istore (i := 5) hd hi (hn_ho (i := 4) rfl hc) k
theorem wp_lstore5 {y : Mth} {pc pc' : Nat} {st : List Value} {σ : Hp} {Q : Option Value → Hp → Prop} {a0 a1 a2 a3 a4 a5 b : Value} {r : List Value} {x : Int64} (hd : Dc (hn_by y) pc (.lstore 5) 2 pc') (hi : 6 < hn_ml y) (hc : a4.category = 1) (k : WP y pc' (a0 :: a1 :: a2 :: a3 :: a4 :: .long x :: .null :: r) st σ Q) : WP y pc (a0 :: a1 :: a2 :: a3 :: a4 :: a5 :: b :: r) (.long x :: st) σ Q :=
  wpg_lstore (i := 5) hd hi (hn_ho (i := 4) rfl hc) k
theorem wp_iinc5 {y : Mth} {pc pc' : Nat} {st : List Value} {σ : Hp} {Q : Option Value → Hp → Prop} {a0 a1 a2 a3 a4 : Value} {r : List Value} {n : Int} {x v : Int32} (hd : Dc (hn_by y) pc (.iinc 5 n) 3 pc') (hv : x + Int32.ofInt n = v) (hi : 5 < hn_ml y) (hc : a4.category = 1) (k : WP y pc' (a0 :: a1 :: a2 :: a3 :: a4 :: .int v :: r) st σ Q) : WP y pc (a0 :: a1 :: a2 :: a3 :: a4 :: .int x :: r) st σ Q :=
  wpg_iinc (i := 5) hd rfl hv hi (hn_ho (i := 4) rfl hc) k
theorem wp_istore6 {y : Mth} {pc pc' : Nat} {st : List Value} {σ : Hp} {Q : Option Value → Hp → Prop} {a0 a1 a2 a3 a4 a5 a6 : Value} {r : List Value} {x : Int32} (hd : Dc (hn_by y) pc (.istore 6) 2 pc') (hi : 6 < hn_ml y) (hc : a5.category = 1) (k : WP y pc' (a0 :: a1 :: a2 :: a3 :: a4 :: a5 :: .int x :: r) st σ Q) : WP y pc (a0 :: a1 :: a2 :: a3 :: a4 :: a5 :: a6 :: r) (.int x :: st) σ Q :=
  wpg_istore (i := 6) hd hi (hn_ho (i := 5) rfl hc) k
theorem wp_lstore6 {y : Mth} {pc pc' : Nat} {st : List Value} {σ : Hp} {Q : Option Value → Hp → Prop} {a0 a1 a2 a3 a4 a5 a6 b : Value} {r : List Value} {x : Int64} (hd : Dc (hn_by y) pc (.lstore 6) 2 pc') (hi : 7 < hn_ml y) (hc : a5.category = 1) (k : WP y pc' (a0 :: a1 :: a2 :: a3 :: a4 :: a5 :: .long x :: .null :: r) st σ Q) : WP y pc (a0 :: a1 :: a2 :: a3 :: a4 :: a5 :: a6 :: b :: r) (.long x :: st) σ Q :=
  wpg_lstore (i := 6) hd hi (hn_ho (i := 5) rfl hc) k
theorem wp_iinc6 {y : Mth} {pc pc' : Nat} {st : List Value} {σ : Hp} {Q : Option Value → Hp → Prop} {a0 a1 a2 a3 a4 a5 : Value} {r : List Value} {n : Int} {x v : Int32} (hd : Dc (hn_by y) pc (.iinc 6 n) 3 pc') (hv : x + Int32.ofInt n = v) (hi : 6 < hn_ml y) (hc : a5.category = 1) (k : WP y pc' (a0 :: a1 :: a2 :: a3 :: a4 :: a5 :: .int v :: r) st σ Q) : WP y pc (a0 :: a1 :: a2 :: a3 :: a4 :: a5 :: .int x :: r) st σ Q :=
  wpg_iinc (i := 6) hd rfl hv hi (hn_ho (i := 5) rfl hc) k
theorem wp_istore7 {y : Mth} {pc pc' : Nat} {st : List Value} {σ : Hp} {Q : Option Value → Hp → Prop} {a0 a1 a2 a3 a4 a5 a6 a7 : Value} {r : List Value} {x : Int32} (hd : Dc (hn_by y) pc (.istore 7) 2 pc') (hi : 7 < hn_ml y) (hc : a6.category = 1) (k : WP y pc' (a0 :: a1 :: a2 :: a3 :: a4 :: a5 :: a6 :: .int x :: r) st σ Q) : WP y pc (a0 :: a1 :: a2 :: a3 :: a4 :: a5 :: a6 :: a7 :: r) (.int x :: st) σ Q :=
  wpg_istore (i := 7) hd hi (hn_ho (i := 6) rfl hc) k
theorem wp_lstore7 {y : Mth} {pc pc' : Nat} {st : List Value} {σ : Hp} {Q : Option Value → Hp → Prop} {a0 a1 a2 a3 a4 a5 a6 a7 b : Value} {r : List Value} {x : Int64} (hd : Dc (hn_by y) pc (.lstore 7) 2 pc') (hi : 8 < hn_ml y) (hc : a6.category = 1) (k : WP y pc' (a0 :: a1 :: a2 :: a3 :: a4 :: a5 :: a6 :: .long x :: .null :: r) st σ Q) : WP y pc (a0 :: a1 :: a2 :: a3 :: a4 :: a5 :: a6 :: a7 :: b :: r) (.long x :: st) σ Q :=
  wpg_lstore (i := 7) hd hi (hn_ho (i := 6) rfl hc) k
theorem wp_iinc7 {y : Mth} {pc pc' : Nat} {st : List Value} {σ : Hp} {Q : Option Value → Hp → Prop} {a0 a1 a2 a3 a4 a5 a6 : Value} {r : List Value} {n : Int} {x v : Int32} (hd : Dc (hn_by y) pc (.iinc 7 n) 3 pc') (hv : x + Int32.ofInt n = v) (hi : 7 < hn_ml y) (hc : a6.category = 1) (k : WP y pc' (a0 :: a1 :: a2 :: a3 :: a4 :: a5 :: a6 :: .int v :: r) st σ Q) : WP y pc (a0 :: a1 :: a2 :: a3 :: a4 :: a5 :: a6 :: .int x :: r) st σ Q :=
  wpg_iinc (i := 7) hd rfl hv hi (hn_ho (i := 6) rfl hc) k
theorem wp_istore8 {y : Mth} {pc pc' : Nat} {st : List Value} {σ : Hp} {Q : Option Value → Hp → Prop} {a0 a1 a2 a3 a4 a5 a6 a7 a8 : Value} {r : List Value} {x : Int32} (hd : Dc (hn_by y) pc (.istore 8) 2 pc') (hi : 8 < hn_ml y) (hc : a7.category = 1) (k : WP y pc' (a0 :: a1 :: a2 :: a3 :: a4 :: a5 :: a6 :: a7 :: .int x :: r) st σ Q) : WP y pc (a0 :: a1 :: a2 :: a3 :: a4 :: a5 :: a6 :: a7 :: a8 :: r) (.int x :: st) σ Q :=
  wpg_istore (i := 8) hd hi (hn_ho (i := 7) rfl hc) k
theorem wp_lstore8 {y : Mth} {pc pc' : Nat} {st : List Value} {σ : Hp} {Q : Option Value → Hp → Prop} {a0 a1 a2 a3 a4 a5 a6 a7 a8 b : Value} {r : List Value} {x : Int64} (hd : Dc (hn_by y) pc (.lstore 8) 2 pc') (hi : 9 < hn_ml y) (hc : a7.category = 1) (k : WP y pc' (a0 :: a1 :: a2 :: a3 :: a4 :: a5 :: a6 :: a7 :: .long x :: .null :: r) st σ Q) : WP y pc (a0 :: a1 :: a2 :: a3 :: a4 :: a5 :: a6 :: a7 :: a8 :: b :: r) (.long x :: st) σ Q :=
  wpg_lstore (i := 8) hd hi (hn_ho (i := 7) rfl hc) k
theorem wp_iinc8 {y : Mth} {pc pc' : Nat} {st : List Value} {σ : Hp} {Q : Option Value → Hp → Prop} {a0 a1 a2 a3 a4 a5 a6 a7 : Value} {r : List Value} {n : Int} {x v : Int32} (hd : Dc (hn_by y) pc (.iinc 8 n) 3 pc') (hv : x + Int32.ofInt n = v) (hi : 8 < hn_ml y) (hc : a7.category = 1) (k : WP y pc' (a0 :: a1 :: a2 :: a3 :: a4 :: a5 :: a6 :: a7 :: .int v :: r) st σ Q) : WP y pc (a0 :: a1 :: a2 :: a3 :: a4 :: a5 :: a6 :: a7 :: .int x :: r) st σ Q :=
  wpg_iinc (i := 8) hd rfl hv hi (hn_ho (i := 7) rfl hc) k
theorem wp_istore9 {y : Mth} {pc pc' : Nat} {st : List Value} {σ : Hp} {Q : Option Value → Hp → Prop} {a0 a1 a2 a3 a4 a5 a6 a7 a8 a9 : Value} {r : List Value} {x : Int32} (hd : Dc (hn_by y) pc (.istore 9) 2 pc') (hi : 9 < hn_ml y) (hc : a8.category = 1) (k : WP y pc' (a0 :: a1 :: a2 :: a3 :: a4 :: a5 :: a6 :: a7 :: a8 :: .int x :: r) st σ Q) : WP y pc (a0 :: a1 :: a2 :: a3 :: a4 :: a5 :: a6 :: a7 :: a8 :: a9 :: r) (.int x :: st) σ Q :=
  wpg_istore (i := 9) hd hi (hn_ho (i := 8) rfl hc) k
theorem wp_lstore9 {y : Mth} {pc pc' : Nat} {st : List Value} {σ : Hp} {Q : Option Value → Hp → Prop} {a0 a1 a2 a3 a4 a5 a6 a7 a8 a9 b : Value} {r : List Value} {x : Int64} (hd : Dc (hn_by y) pc (.lstore 9) 2 pc') (hi : 10 < hn_ml y) (hc : a8.category = 1) (k : WP y pc' (a0 :: a1 :: a2 :: a3 :: a4 :: a5 :: a6 :: a7 :: a8 :: .long x :: .null :: r) st σ Q) : WP y pc (a0 :: a1 :: a2 :: a3 :: a4 :: a5 :: a6 :: a7 :: a8 :: a9 :: b :: r) (.long x :: st) σ Q :=
  wpg_lstore (i := 9) hd hi (hn_ho (i := 8) rfl hc) k
theorem wp_iinc9 {y : Mth} {pc pc' : Nat} {st : List Value} {σ : Hp} {Q : Option Value → Hp → Prop} {a0 a1 a2 a3 a4 a5 a6 a7 a8 : Value} {r : List Value} {n : Int} {x v : Int32} (hd : Dc (hn_by y) pc (.iinc 9 n) 3 pc') (hv : x + Int32.ofInt n = v) (hi : 9 < hn_ml y) (hc : a8.category = 1) (k : WP y pc' (a0 :: a1 :: a2 :: a3 :: a4 :: a5 :: a6 :: a7 :: a8 :: .int v :: r) st σ Q) : WP y pc (a0 :: a1 :: a2 :: a3 :: a4 :: a5 :: a6 :: a7 :: a8 :: .int x :: r) st σ Q :=
  wpg_iinc (i := 9) hd rfl hv hi (hn_ho (i := 8) rfl hc) k
theorem wp_istore10 {y : Mth} {pc pc' : Nat} {st : List Value} {σ : Hp} {Q : Option Value → Hp → Prop} {a0 a1 a2 a3 a4 a5 a6 a7 a8 a9 a10 : Value} {r : List Value} {x : Int32} (hd : Dc (hn_by y) pc (.istore 10) 2 pc') (hi : 10 < hn_ml y) (hc : a9.category = 1) (k : WP y pc' (a0 :: a1 :: a2 :: a3 :: a4 :: a5 :: a6 :: a7 :: a8 :: a9 :: .int x :: r) st σ Q) : WP y pc (a0 :: a1 :: a2 :: a3 :: a4 :: a5 :: a6 :: a7 :: a8 :: a9 :: a10 :: r) (.int x :: st) σ Q :=
  wpg_istore (i := 10) hd hi (hn_ho (i := 9) rfl hc) k
theorem wp_lstore10 {y : Mth} {pc pc' : Nat} {st : List Value} {σ : Hp} {Q : Option Value → Hp → Prop} {a0 a1 a2 a3 a4 a5 a6 a7 a8 a9 a10 b : Value} {r : List Value} {x : Int64} (hd : Dc (hn_by y) pc (.lstore 10) 2 pc') (hi : 11 < hn_ml y) (hc : a9.category = 1) (k : WP y pc' (a0 :: a1 :: a2 :: a3 :: a4 :: a5 :: a6 :: a7 :: a8 :: a9 :: .long x :: .null :: r) st σ Q) : WP y pc (a0 :: a1 :: a2 :: a3 :: a4 :: a5 :: a6 :: a7 :: a8 :: a9 :: a10 :: b :: r) (.long x :: st) σ Q :=
  wpg_lstore (i := 10) hd hi (hn_ho (i := 9) rfl hc) k
theorem wp_iinc10 {y : Mth} {pc pc' : Nat} {st : List Value} {σ : Hp} {Q : Option Value → Hp → Prop} {a0 a1 a2 a3 a4 a5 a6 a7 a8 a9 : Value} {r : List Value} {n : Int} {x v : Int32} (hd : Dc (hn_by y) pc (.iinc 10 n) 3 pc') (hv : x + Int32.ofInt n = v) (hi : 10 < hn_ml y) (hc : a9.category = 1) (k : WP y pc' (a0 :: a1 :: a2 :: a3 :: a4 :: a5 :: a6 :: a7 :: a8 :: a9 :: .int v :: r) st σ Q) : WP y pc (a0 :: a1 :: a2 :: a3 :: a4 :: a5 :: a6 :: a7 :: a8 :: a9 :: .int x :: r) st σ Q :=
  wpg_iinc (i := 10) hd rfl hv hi (hn_ho (i := 9) rfl hc) k
theorem wp_istore11 {y : Mth} {pc pc' : Nat} {st : List Value} {σ : Hp} {Q : Option Value → Hp → Prop} {a0 a1 a2 a3 a4 a5 a6 a7 a8 a9 a10 a11 : Value} {r : List Value} {x : Int32} (hd : Dc (hn_by y) pc (.istore 11) 2 pc') (hi : 11 < hn_ml y) (hc : a10.category = 1) (k : WP y pc' (a0 :: a1 :: a2 :: a3 :: a4 :: a5 :: a6 :: a7 :: a8 :: a9 :: a10 :: .int x :: r) st σ Q) : WP y pc (a0 :: a1 :: a2 :: a3 :: a4 :: a5 :: a6 :: a7 :: a8 :: a9 :: a10 :: a11 :: r) (.int x :: st) σ Q :=
  wpg_istore (i := 11) hd hi (hn_ho (i := 10) rfl hc) k
theorem wp_lstore11 {y : Mth} {pc pc' : Nat} {st : List Value} {σ : Hp} {Q : Option Value → Hp → Prop} {a0 a1 a2 a3 a4 a5 a6 a7 a8 a9 a10 a11 b : Value} {r : List Value} {x : Int64} (hd : Dc (hn_by y) pc (.lstore 11) 2 pc') (hi : 12 < hn_ml y) (hc : a10.category = 1) (k : WP y pc' (a0 :: a1 :: a2 :: a3 :: a4 :: a5 :: a6 :: a7 :: a8 :: a9 :: a10 :: .long x :: .null :: r) st σ Q) : WP y pc (a0 :: a1 :: a2 :: a3 :: a4 :: a5 :: a6 :: a7 :: a8 :: a9 :: a10 :: a11 :: b :: r) (.long x :: st) σ Q :=
  wpg_lstore (i := 11) hd hi (hn_ho (i := 10) rfl hc) k
theorem wp_iinc11 {y : Mth} {pc pc' : Nat} {st : List Value} {σ : Hp} {Q : Option Value → Hp → Prop} {a0 a1 a2 a3 a4 a5 a6 a7 a8 a9 a10 : Value} {r : List Value} {n : Int} {x v : Int32} (hd : Dc (hn_by y) pc (.iinc 11 n) 3 pc') (hv : x + Int32.ofInt n = v) (hi : 11 < hn_ml y) (hc : a10.category = 1) (k : WP y pc' (a0 :: a1 :: a2 :: a3 :: a4 :: a5 :: a6 :: a7 :: a8 :: a9 :: a10 :: .int v :: r) st σ Q) : WP y pc (a0 :: a1 :: a2 :: a3 :: a4 :: a5 :: a6 :: a7 :: a8 :: a9 :: a10 :: .int x :: r) st σ Q :=
  wpg_iinc (i := 11) hd rfl hv hi (hn_ho (i := 10) rfl hc) k
theorem wp_istore12 {y : Mth} {pc pc' : Nat} {st : List Value} {σ : Hp} {Q : Option Value → Hp → Prop} {a0 a1 a2 a3 a4 a5 a6 a7 a8 a9 a10 a11 a12 : Value} {r : List Value} {x : Int32} (hd : Dc (hn_by y) pc (.istore 12) 2 pc') (hi : 12 < hn_ml y) (hc : a11.category = 1) (k : WP y pc' (a0 :: a1 :: a2 :: a3 :: a4 :: a5 :: a6 :: a7 :: a8 :: a9 :: a10 :: a11 :: .int x :: r) st σ Q) : WP y pc (a0 :: a1 :: a2 :: a3 :: a4 :: a5 :: a6 :: a7 :: a8 :: a9 :: a10 :: a11 :: a12 :: r) (.int x :: st) σ Q :=
  wpg_istore (i := 12) hd hi (hn_ho (i := 11) rfl hc) k
theorem wp_lstore12 {y : Mth} {pc pc' : Nat} {st : List Value} {σ : Hp} {Q : Option Value → Hp → Prop} {a0 a1 a2 a3 a4 a5 a6 a7 a8 a9 a10 a11 a12 b : Value} {r : List Value} {x : Int64} (hd : Dc (hn_by y) pc (.lstore 12) 2 pc') (hi : 13 < hn_ml y) (hc : a11.category = 1) (k : WP y pc' (a0 :: a1 :: a2 :: a3 :: a4 :: a5 :: a6 :: a7 :: a8 :: a9 :: a10 :: a11 :: .long x :: .null :: r) st σ Q) : WP y pc (a0 :: a1 :: a2 :: a3 :: a4 :: a5 :: a6 :: a7 :: a8 :: a9 :: a10 :: a11 :: a12 :: b :: r) (.long x :: st) σ Q :=
  wpg_lstore (i := 12) hd hi (hn_ho (i := 11) rfl hc) k
theorem wp_iinc12 {y : Mth} {pc pc' : Nat} {st : List Value} {σ : Hp} {Q : Option Value → Hp → Prop} {a0 a1 a2 a3 a4 a5 a6 a7 a8 a9 a10 a11 : Value} {r : List Value} {n : Int} {x v : Int32} (hd : Dc (hn_by y) pc (.iinc 12 n) 3 pc') (hv : x + Int32.ofInt n = v) (hi : 12 < hn_ml y) (hc : a11.category = 1) (k : WP y pc' (a0 :: a1 :: a2 :: a3 :: a4 :: a5 :: a6 :: a7 :: a8 :: a9 :: a10 :: a11 :: .int v :: r) st σ Q) : WP y pc (a0 :: a1 :: a2 :: a3 :: a4 :: a5 :: a6 :: a7 :: a8 :: a9 :: a10 :: a11 :: .int x :: r) st σ Q :=
  wpg_iinc (i := 12) hd rfl hv hi (hn_ho (i := 11) rfl hc) k
theorem wp_istore13 {y : Mth} {pc pc' : Nat} {st : List Value} {σ : Hp} {Q : Option Value → Hp → Prop} {a0 a1 a2 a3 a4 a5 a6 a7 a8 a9 a10 a11 a12 a13 : Value} {r : List Value} {x : Int32} (hd : Dc (hn_by y) pc (.istore 13) 2 pc') (hi : 13 < hn_ml y) (hc : a12.category = 1) (k : WP y pc' (a0 :: a1 :: a2 :: a3 :: a4 :: a5 :: a6 :: a7 :: a8 :: a9 :: a10 :: a11 :: a12 :: .int x :: r) st σ Q) : WP y pc (a0 :: a1 :: a2 :: a3 :: a4 :: a5 :: a6 :: a7 :: a8 :: a9 :: a10 :: a11 :: a12 :: a13 :: r) (.int x :: st) σ Q :=
  wpg_istore (i := 13) hd hi (hn_ho (i := 12) rfl hc) k
theorem wp_lstore13 {y : Mth} {pc pc' : Nat} {st : List Value} {σ : Hp} {Q : Option Value → Hp → Prop} {a0 a1 a2 a3 a4 a5 a6 a7 a8 a9 a10 a11 a12 a13 b : Value} {r : List Value} {x : Int64} (hd : Dc (hn_by y) pc (.lstore 13) 2 pc') (hi : 14 < hn_ml y) (hc : a12.category = 1) (k : WP y pc' (a0 :: a1 :: a2 :: a3 :: a4 :: a5 :: a6 :: a7 :: a8 :: a9 :: a10 :: a11 :: a12 :: .long x :: .null :: r) st σ Q) : WP y pc (a0 :: a1 :: a2 :: a3 :: a4 :: a5 :: a6 :: a7 :: a8 :: a9 :: a10 :: a11 :: a12 :: a13 :: b :: r) (.long x :: st) σ Q :=
  wpg_lstore (i := 13) hd hi (hn_ho (i := 12) rfl hc) k
theorem wp_iinc13 {y : Mth} {pc pc' : Nat} {st : List Value} {σ : Hp} {Q : Option Value → Hp → Prop} {a0 a1 a2 a3 a4 a5 a6 a7 a8 a9 a10 a11 a12 : Value} {r : List Value} {n : Int} {x v : Int32} (hd : Dc (hn_by y) pc (.iinc 13 n) 3 pc') (hv : x + Int32.ofInt n = v) (hi : 13 < hn_ml y) (hc : a12.category = 1) (k : WP y pc' (a0 :: a1 :: a2 :: a3 :: a4 :: a5 :: a6 :: a7 :: a8 :: a9 :: a10 :: a11 :: a12 :: .int v :: r) st σ Q) : WP y pc (a0 :: a1 :: a2 :: a3 :: a4 :: a5 :: a6 :: a7 :: a8 :: a9 :: a10 :: a11 :: a12 :: .int x :: r) st σ Q :=
  wpg_iinc (i := 13) hd rfl hv hi (hn_ho (i := 12) rfl hc) k
theorem wp_istore14 {y : Mth} {pc pc' : Nat} {st : List Value} {σ : Hp} {Q : Option Value → Hp → Prop} {a0 a1 a2 a3 a4 a5 a6 a7 a8 a9 a10 a11 a12 a13 a14 : Value} {r : List Value} {x : Int32} (hd : Dc (hn_by y) pc (.istore 14) 2 pc') (hi : 14 < hn_ml y) (hc : a13.category = 1) (k : WP y pc' (a0 :: a1 :: a2 :: a3 :: a4 :: a5 :: a6 :: a7 :: a8 :: a9 :: a10 :: a11 :: a12 :: a13 :: .int x :: r) st σ Q) : WP y pc (a0 :: a1 :: a2 :: a3 :: a4 :: a5 :: a6 :: a7 :: a8 :: a9 :: a10 :: a11 :: a12 :: a13 :: a14 :: r) (.int x :: st) σ Q :=
  wpg_istore (i := 14) hd hi (hn_ho (i := 13) rfl hc) k
theorem wp_lstore14 {y : Mth} {pc pc' : Nat} {st : List Value} {σ : Hp} {Q : Option Value → Hp → Prop} {a0 a1 a2 a3 a4 a5 a6 a7 a8 a9 a10 a11 a12 a13 a14 b : Value} {r : List Value} {x : Int64} (hd : Dc (hn_by y) pc (.lstore 14) 2 pc') (hi : 15 < hn_ml y) (hc : a13.category = 1) (k : WP y pc' (a0 :: a1 :: a2 :: a3 :: a4 :: a5 :: a6 :: a7 :: a8 :: a9 :: a10 :: a11 :: a12 :: a13 :: .long x :: .null :: r) st σ Q) : WP y pc (a0 :: a1 :: a2 :: a3 :: a4 :: a5 :: a6 :: a7 :: a8 :: a9 :: a10 :: a11 :: a12 :: a13 :: a14 :: b :: r) (.long x :: st) σ Q :=
  wpg_lstore (i := 14) hd hi (hn_ho (i := 13) rfl hc) k
theorem wp_iinc14 {y : Mth} {pc pc' : Nat} {st : List Value} {σ : Hp} {Q : Option Value → Hp → Prop} {a0 a1 a2 a3 a4 a5 a6 a7 a8 a9 a10 a11 a12 a13 : Value} {r : List Value} {n : Int} {x v : Int32} (hd : Dc (hn_by y) pc (.iinc 14 n) 3 pc') (hv : x + Int32.ofInt n = v) (hi : 14 < hn_ml y) (hc : a13.category = 1) (k : WP y pc' (a0 :: a1 :: a2 :: a3 :: a4 :: a5 :: a6 :: a7 :: a8 :: a9 :: a10 :: a11 :: a12 :: a13 :: .int v :: r) st σ Q) : WP y pc (a0 :: a1 :: a2 :: a3 :: a4 :: a5 :: a6 :: a7 :: a8 :: a9 :: a10 :: a11 :: a12 :: a13 :: .int x :: r) st σ Q :=
  wpg_iinc (i := 14) hd rfl hv hi (hn_ho (i := 13) rfl hc) k
theorem wp_istore15 {y : Mth} {pc pc' : Nat} {st : List Value} {σ : Hp} {Q : Option Value → Hp → Prop} {a0 a1 a2 a3 a4 a5 a6 a7 a8 a9 a10 a11 a12 a13 a14 a15 : Value} {r : List Value} {x : Int32} (hd : Dc (hn_by y) pc (.istore 15) 2 pc') (hi : 15 < hn_ml y) (hc : a14.category = 1) (k : WP y pc' (a0 :: a1 :: a2 :: a3 :: a4 :: a5 :: a6 :: a7 :: a8 :: a9 :: a10 :: a11 :: a12 :: a13 :: a14 :: .int x :: r) st σ Q) : WP y pc (a0 :: a1 :: a2 :: a3 :: a4 :: a5 :: a6 :: a7 :: a8 :: a9 :: a10 :: a11 :: a12 :: a13 :: a14 :: a15 :: r) (.int x :: st) σ Q :=
  wpg_istore (i := 15) hd hi (hn_ho (i := 14) rfl hc) k
theorem wp_lstore15 {y : Mth} {pc pc' : Nat} {st : List Value} {σ : Hp} {Q : Option Value → Hp → Prop} {a0 a1 a2 a3 a4 a5 a6 a7 a8 a9 a10 a11 a12 a13 a14 a15 b : Value} {r : List Value} {x : Int64} (hd : Dc (hn_by y) pc (.lstore 15) 2 pc') (hi : 16 < hn_ml y) (hc : a14.category = 1) (k : WP y pc' (a0 :: a1 :: a2 :: a3 :: a4 :: a5 :: a6 :: a7 :: a8 :: a9 :: a10 :: a11 :: a12 :: a13 :: a14 :: .long x :: .null :: r) st σ Q) : WP y pc (a0 :: a1 :: a2 :: a3 :: a4 :: a5 :: a6 :: a7 :: a8 :: a9 :: a10 :: a11 :: a12 :: a13 :: a14 :: a15 :: b :: r) (.long x :: st) σ Q :=
  wpg_lstore (i := 15) hd hi (hn_ho (i := 14) rfl hc) k
theorem wp_iinc15 {y : Mth} {pc pc' : Nat} {st : List Value} {σ : Hp} {Q : Option Value → Hp → Prop} {a0 a1 a2 a3 a4 a5 a6 a7 a8 a9 a10 a11 a12 a13 a14 : Value} {r : List Value} {n : Int} {x v : Int32} (hd : Dc (hn_by y) pc (.iinc 15 n) 3 pc') (hv : x + Int32.ofInt n = v) (hi : 15 < hn_ml y) (hc : a14.category = 1) (k : WP y pc' (a0 :: a1 :: a2 :: a3 :: a4 :: a5 :: a6 :: a7 :: a8 :: a9 :: a10 :: a11 :: a12 :: a13 :: a14 :: .int v :: r) st σ Q) : WP y pc (a0 :: a1 :: a2 :: a3 :: a4 :: a5 :: a6 :: a7 :: a8 :: a9 :: a10 :: a11 :: a12 :: a13 :: a14 :: .int x :: r) st σ Q :=
  wpg_iinc (i := 15) hd rfl hv hi (hn_ho (i := 14) rfl hc) k
theorem wp_istore16 {y : Mth} {pc pc' : Nat} {st : List Value} {σ : Hp} {Q : Option Value → Hp → Prop} {a0 a1 a2 a3 a4 a5 a6 a7 a8 a9 a10 a11 a12 a13 a14 a15 a16 : Value} {r : List Value} {x : Int32} (hd : Dc (hn_by y) pc (.istore 16) 2 pc') (hi : 16 < hn_ml y) (hc : a15.category = 1) (k : WP y pc' (a0 :: a1 :: a2 :: a3 :: a4 :: a5 :: a6 :: a7 :: a8 :: a9 :: a10 :: a11 :: a12 :: a13 :: a14 :: a15 :: .int x :: r) st σ Q) : WP y pc (a0 :: a1 :: a2 :: a3 :: a4 :: a5 :: a6 :: a7 :: a8 :: a9 :: a10 :: a11 :: a12 :: a13 :: a14 :: a15 :: a16 :: r) (.int x :: st) σ Q :=
  wpg_istore (i := 16) hd hi (hn_ho (i := 15) rfl hc) k
theorem wp_lstore16 {y : Mth} {pc pc' : Nat} {st : List Value} {σ : Hp} {Q : Option Value → Hp → Prop} {a0 a1 a2 a3 a4 a5 a6 a7 a8 a9 a10 a11 a12 a13 a14 a15 a16 b : Value} {r : List Value} {x : Int64} (hd : Dc (hn_by y) pc (.lstore 16) 2 pc') (hi : 17 < hn_ml y) (hc : a15.category = 1) (k : WP y pc' (a0 :: a1 :: a2 :: a3 :: a4 :: a5 :: a6 :: a7 :: a8 :: a9 :: a10 :: a11 :: a12 :: a13 :: a14 :: a15 :: .long x :: .null :: r) st σ Q) : WP y pc (a0 :: a1 :: a2 :: a3 :: a4 :: a5 :: a6 :: a7 :: a8 :: a9 :: a10 :: a11 :: a12 :: a13 :: a14 :: a15 :: a16 :: b :: r) (.long x :: st) σ Q :=
  wpg_lstore (i := 16) hd hi (hn_ho (i := 15) rfl hc) k
theorem wp_iinc16 {y : Mth} {pc pc' : Nat} {st : List Value} {σ : Hp} {Q : Option Value → Hp → Prop} {a0 a1 a2 a3 a4 a5 a6 a7 a8 a9 a10 a11 a12 a13 a14 a15 : Value} {r : List Value} {n : Int} {x v : Int32} (hd : Dc (hn_by y) pc (.iinc 16 n) 3 pc') (hv : x + Int32.ofInt n = v) (hi : 16 < hn_ml y) (hc : a15.category = 1) (k : WP y pc' (a0 :: a1 :: a2 :: a3 :: a4 :: a5 :: a6 :: a7 :: a8 :: a9 :: a10 :: a11 :: a12 :: a13 :: a14 :: a15 :: .int v :: r) st σ Q) : WP y pc (a0 :: a1 :: a2 :: a3 :: a4 :: a5 :: a6 :: a7 :: a8 :: a9 :: a10 :: a11 :: a12 :: a13 :: a14 :: a15 :: .int x :: r) st σ Q :=
  wpg_iinc (i := 16) hd rfl hv hi (hn_ho (i := 15) rfl hc) k
theorem wp_istore17 {y : Mth} {pc pc' : Nat} {st : List Value} {σ : Hp} {Q : Option Value → Hp → Prop} {a0 a1 a2 a3 a4 a5 a6 a7 a8 a9 a10 a11 a12 a13 a14 a15 a16 a17 : Value} {r : List Value} {x : Int32} (hd : Dc (hn_by y) pc (.istore 17) 2 pc') (hi : 17 < hn_ml y) (hc : a16.category = 1) (k : WP y pc' (a0 :: a1 :: a2 :: a3 :: a4 :: a5 :: a6 :: a7 :: a8 :: a9 :: a10 :: a11 :: a12 :: a13 :: a14 :: a15 :: a16 :: .int x :: r) st σ Q) : WP y pc (a0 :: a1 :: a2 :: a3 :: a4 :: a5 :: a6 :: a7 :: a8 :: a9 :: a10 :: a11 :: a12 :: a13 :: a14 :: a15 :: a16 :: a17 :: r) (.int x :: st) σ Q :=
  wpg_istore (i := 17) hd hi (hn_ho (i := 16) rfl hc) k
theorem wp_lstore17 {y : Mth} {pc pc' : Nat} {st : List Value} {σ : Hp} {Q : Option Value → Hp → Prop} {a0 a1 a2 a3 a4 a5 a6 a7 a8 a9 a10 a11 a12 a13 a14 a15 a16 a17 b : Value} {r : List Value} {x : Int64} (hd : Dc (hn_by y) pc (.lstore 17) 2 pc') (hi : 18 < hn_ml y) (hc : a16.category = 1) (k : WP y pc' (a0 :: a1 :: a2 :: a3 :: a4 :: a5 :: a6 :: a7 :: a8 :: a9 :: a10 :: a11 :: a12 :: a13 :: a14 :: a15 :: a16 :: .long x :: .null :: r) st σ Q) : WP y pc (a0 :: a1 :: a2 :: a3 :: a4 :: a5 :: a6 :: a7 :: a8 :: a9 :: a10 :: a11 :: a12 :: a13 :: a14 :: a15 :: a16 :: a17 :: b :: r) (.long x :: st) σ Q :=
  wpg_lstore (i := 17) hd hi (hn_ho (i := 16) rfl hc) k
theorem wp_iinc17 {y : Mth} {pc pc' : Nat} {st : List Value} {σ : Hp} {Q : Option Value → Hp → Prop} {a0 a1 a2 a3 a4 a5 a6 a7 a8 a9 a10 a11 a12 a13 a14 a15 a16 : Value} {r : List Value} {n : Int} {x v : Int32} (hd : Dc (hn_by y) pc (.iinc 17 n) 3 pc') (hv : x + Int32.ofInt n = v) (hi : 17 < hn_ml y) (hc : a16.category = 1) (k : WP y pc' (a0 :: a1 :: a2 :: a3 :: a4 :: a5 :: a6 :: a7 :: a8 :: a9 :: a10 :: a11 :: a12 :: a13 :: a14 :: a15 :: a16 :: .int v :: r) st σ Q) : WP y pc (a0 :: a1 :: a2 :: a3 :: a4 :: a5 :: a6 :: a7 :: a8 :: a9 :: a10 :: a11 :: a12 :: a13 :: a14 :: a15 :: a16 :: .int x :: r) st σ Q :=
  wpg_iinc (i := 17) hd rfl hv hi (hn_ho (i := 16) rfl hc) k
theorem WP.forget {y : Mth} {pc : Nat} {ls ls' st : List Value} {σ : Hp} {Q : Option Value → Hp → Prop} (hlen : ls.length = ls'.length) (h : ∀ (i : Nat) (v : Value), ls'[i]? = some v → v ≠ .null → ls[i]? = some v) (k : WP y pc ls' st σ Q) : WP y pc ls st σ Q := by
  intro l p e s m args below meth c A D ad cA hC H locs lsA hP hD hS hL
  obtain ⟨h1, l2, h2, h3⟩ := hL
  exact k l p e s m args below meth c A D ad cA hC H locs lsA hP hD hS ⟨hlen ▸ h1, l2, h2, fun i v hi hv => h3 i v (h i v hi hv) hv⟩
def hn_FL (own : String) (idx ci j : Nat) : Prop := ∃ (C : String) (T : u_T) (N : Nat), classes[ci]? = some (C, T, N) ∧ j < N ∧ (T j).1 = C ∧ (∀ w ∈ u_ws C T N, w ∈ lw_big) ∧ Cond.fieldLink own idx C (T j).2.1 (T j).2.2.1 ∈ lw_big
def hn_FP (own : String) (idx ci j : Nat) (ty : FieldType) : Prop := ∃ (C : String) (T : u_T) (N : Nat), classes[ci]? = some (C, T, N) ∧ j < N ∧ (T j).1 = C ∧ (∀ w ∈ u_ws C T N, w ∈ lw_big) ∧ Cond.fieldLink own idx C (T j).2.1 (T j).2.2.1 ∈ lw_big ∧ (∃ ty0 : Nat → FieldType, ∀ k, k < N → parseFieldDescriptor (T k).2.2.1 = some (ty0 k)) ∧ (∀ a, a < N → ∀ b, b < N → a ≠ b → (T a).2.1 ≠ (T b).2.1) ∧ (T j).2.2.2 = false ∧ parseFieldDescriptor (T j).2.2.1 = some ty
theorem wp_getI {y : Mth} {pc pc' : Nat} {ls st : List Value} {σ : Hp} {Q : Option Value → Hp → Prop} {idx r ci j n t z : Nat} {fs : List (Nat × Nat)} (hd : Dc (hn_by y) pc (.getfield idx) 3 pc') (hf : hn_FL (hn_nm y).cls idx ci j) (hr0 : kdl[r]? = some (ci + 3, n, fs)) (hq : fs[j]? = some (t, z)) (ht : ¬ t = 1 ∧ ¬ t = 2) (k : WP y pc' ls (.int (σ.1 r j) :: st) σ Q) : WP y pc ls (.ref r :: st) σ Q := by
  intro l p e s m args below meth c A D ad cA hC H locs lsA hP hD hS hL
  obtain ⟨hx, hb, hr, hlk, hml, hown, hts, hN, hK, hA⟩ := id hC
  obtain ⟨hd, rfl⟩ := hd
  obtain ⟨C, T, N, h1, h2, h3, h4, h5⟩ := hf
  refine va_get hx hb hts h4 hown hK hP r (hn_at3 hr0) h1 j h2 (hts _ h5) (fun x hx => by rw [h3] at hx; exact hx) (v := hn_tr ad (.int (σ.1 r j))) ?_ hd (k l p e s m args below meth c A D ad cA hC H locs lsA hP hD hS hL)
  rw [List.getElem?_mapIdx, hq]
  simp [hn_fv, hn_tr, ht]
theorem wp_getL {y : Mth} {pc pc' : Nat} {ls st : List Value} {σ : Hp} {Q : Option Value → Hp → Prop} {idx r ci j n t z : Nat} {fs : List (Nat × Nat)} (hd : Dc (hn_by y) pc (.getfield idx) 3 pc') (hf : hn_FL (hn_nm y).cls idx ci j) (hr0 : kdl[r]? = some (ci + 3, n, fs)) (hq : fs[j]? = some (t, z)) (ht : t = 1) (k : WP y pc' ls (.long (σ.2 r j) :: st) σ Q) : WP y pc ls (.ref r :: st) σ Q := by
  intro l p e s m args below meth c A D ad cA hC H locs lsA hP hD hS hL
  obtain ⟨hx, hb, hr, hlk, hml, hown, hts, hN, hK, hA⟩ := id hC
  obtain ⟨hd, rfl⟩ := hd
  obtain ⟨C, T, N, h1, h2, h3, h4, h5⟩ := hf
  refine va_get hx hb hts h4 hown hK hP r (hn_at3 hr0) h1 j h2 (hts _ h5) (fun x hx => by rw [h3] at hx; exact hx) (v := hn_tr ad (.long (σ.2 r j))) ?_ hd (k l p e s m args below meth c A D ad cA hC H locs lsA hP hD hS hL)
  rw [List.getElem?_mapIdx, hq]
  simp [hn_fv, hn_tr, ht]
theorem wp_getA {y : Mth} {pc pc' : Nat} {ls st : List Value} {σ : Hp} {Q : Option Value → Hp → Prop} {idx r ci j n t z : Nat} {fs : List (Nat × Nat)} (hd : Dc (hn_by y) pc (.getfield idx) 3 pc') (hf : hn_FL (hn_nm y).cls idx ci j) (hr0 : kdl[r]? = some (ci + 3, n, fs)) (hq : fs[j]? = some (t, z)) (ht : t = 2) (k : WP y pc' ls (.ref z :: st) σ Q) : WP y pc ls (.ref r :: st) σ Q := by
  intro l p e s m args below meth c A D ad cA hC H locs lsA hP hD hS hL
  obtain ⟨hx, hb, hr, hlk, hml, hown, hts, hN, hK, hA⟩ := id hC
  obtain ⟨hd, rfl⟩ := hd
  obtain ⟨C, T, N, h1, h2, h3, h4, h5⟩ := hf
  refine va_get hx hb hts h4 hown hK hP r (hn_at3 hr0) h1 j h2 (hts _ h5) (fun x hx => by rw [h3] at hx; exact hx) (v := hn_tr ad (.ref z)) ?_ hd (k l p e s m args below meth c A D ad cA hC H locs lsA hP hD hS hL)
  rw [List.getElem?_mapIdx, hq]
  simp [hn_fv, hn_tr, ht]
theorem wp_putI {y : Mth} {pc pc' : Nat} {ls st : List Value} {σ : Hp} {Q : Option Value → Hp → Prop} {idx r ci j n t z : Nat} {x : Int32} {ty : FieldType} {fs : List (Nat × Nat)} (hd : Dc (hn_by y) pc (.putfield idx) 3 pc') (hf : hn_FP (hn_nm y).cls idx ci j ty) (hr0 : kdl[r]? = some (ci + 3, n, fs)) (hq : fs[j]? = some (t, z)) (ht : ¬ t = 1 ∧ ¬ t = 2) (hn : narrow ty (.int x) = .int x) (hfit : fits ty (.int x) = true) (k : WP y pc' ls st (wI σ r j x) Q) : WP y pc ls (.int x :: .ref r :: st) σ Q := by
  intro l p e s m args below meth c A D ad cA hC H locs lsA hP hD hS hL
  obtain ⟨hx, hb, hr, hlk, hml, hown, hts, hN, hK, hA⟩ := id hC
  obtain ⟨hd, rfl⟩ := hd
  obtain ⟨C, T, N, h1, h2, h3, h4, h5, ⟨ty0, h6⟩, h7, h8, h9⟩ := hf
  refine va_put (v := Value.int x) hx hb hts h4 ty0 h6 h7 hown hK hP hD hS r (hn_at3 hr0) h1 j h2 (hts _ h5) (fun x hx => by rw [h3] at hx; exact hx) h8 h9 hn hfit (by rw [List.length_mapIdx]; exact (List.getElem?_eq_some_iff.mp hq).1) hd (fun H1 locs1 hP1 hD1 hS1 => ?_)
  have ee := hn_setF (cA := cA) (ad := ad) (σ := σ) (τ := wI σ r j x) (v := .int x) hr0 hq (by simp [hn_fv, ht, wI, upd]) (fun i hi => ⟨by simp [wI, upd, hi], rfl⟩) (fun i hi => ⟨(wI_ne hi).symm, rfl⟩)
  rw [ee] at hP1 hD1
  exact k l p e s m args below meth c A D ad cA hC H1 locs1 lsA hP1 hD1 hS1 hL
theorem wp_putL {y : Mth} {pc pc' : Nat} {ls st : List Value} {σ : Hp} {Q : Option Value → Hp → Prop} {idx r ci j n z : Nat} {x : Int64} {fs : List (Nat × Nat)} (hd : Dc (hn_by y) pc (.putfield idx) 3 pc') (hf : hn_FP (hn_nm y).cls idx ci j .long) (hr0 : kdl[r]? = some (ci + 3, n, fs)) (hq : fs[j]? = some (1, z)) (k : WP y pc' ls st (wL σ r j x) Q) : WP y pc ls (.long x :: .ref r :: st) σ Q := by
  intro l p e s m args below meth c A D ad cA hC H locs lsA hP hD hS hL
  obtain ⟨hx, hb, hr, hlk, hml, hown, hts, hN, hK, hA⟩ := id hC
  obtain ⟨hd, rfl⟩ := hd
  obtain ⟨C, T, N, h1, h2, h3, h4, h5, ⟨ty0, h6⟩, h7, h8, h9⟩ := hf
  refine va_put (v := Value.long x) hx hb hts h4 ty0 h6 h7 hown hK hP hD hS r (hn_at3 hr0) h1 j h2 (hts _ h5) (fun x hx => by rw [h3] at hx; exact hx) h8 h9 rfl rfl (by rw [List.length_mapIdx]; exact (List.getElem?_eq_some_iff.mp hq).1) hd (fun H1 locs1 hP1 hD1 hS1 => ?_)
  have ee := hn_setF (cA := cA) (ad := ad) (σ := σ) (τ := wL σ r j x) (v := .long x) hr0 hq (by simp [hn_fv, wL, vp_updL]) (fun i hi => ⟨rfl, by simp [wL, vp_updL, hi]⟩) (fun i hi => ⟨rfl, (wL_ne hi).symm⟩)
  rw [ee] at hP1 hD1
  exact k l p e s m args below meth c A D ad cA hC H1 locs1 lsA hP1 hD1 hS1 hL
theorem wp_iald {y : Mth} {pc pc' : Nat} {ls st : List Value} {σ : Hp} {Q : Option Value → Hp → Prop} {a n : Nat} {i : Int32} {fs : List (Nat × Nat)} (hd : Dc (hn_by y) pc (.iaload) 1 pc') (ha : kdl[a]? = some (0, n, fs)) (hi : vp_in i n) (k : WP y pc' ls (.int (σ.1 a i.toNatClampNeg) :: st) σ Q) : WP y pc ls (.int i :: .ref a :: st) σ Q := by
  intro l p e s m args below meth c A D ad cA hC H locs lsA hP hD hS hL
  obtain ⟨hx, hb, hr, hlk, hml, hown, hts, hN, hK, hA⟩ := id hC
  obtain ⟨hd, rfl⟩ := hd
  exact va_iald hx hb hK hP a a (hn_at0 ha) (hn_ty0 ha) hi hd (k l p e s m args below meth c A D ad cA hC H locs lsA hP hD hS hL)
theorem wp_bald {y : Mth} {pc pc' : Nat} {ls st : List Value} {σ : Hp} {Q : Option Value → Hp → Prop} {a n : Nat} {i : Int32} {fs : List (Nat × Nat)} (hd : Dc (hn_by y) pc (.baload) 1 pc') (ha : kdl[a]? = some (1, n, fs)) (hi : vp_in i n) (k : WP y pc' ls (.int (σ.1 a i.toNatClampNeg) :: st) σ Q) : WP y pc ls (.int i :: .ref a :: st) σ Q := by
  intro l p e s m args below meth c A D ad cA hC H locs lsA hP hD hS hL
  obtain ⟨hx, hb, hr, hlk, hml, hown, hts, hN, hK, hA⟩ := id hC
  obtain ⟨hd, rfl⟩ := hd
  exact va_zald hx hb hK hP a a (hn_at1 ha) (hn_ty1 ha) hi hd (k l p e s m args below meth c A D ad cA hC H locs lsA hP hD hS hL)
theorem wp_lald {y : Mth} {pc pc' : Nat} {ls st : List Value} {σ : Hp} {Q : Option Value → Hp → Prop} {a n : Nat} {i : Int32} {fs : List (Nat × Nat)} (hd : Dc (hn_by y) pc (.laload) 1 pc') (ha : kdl[a]? = some (2, n, fs)) (hi : vp_in i n) (k : WP y pc' ls (.long (σ.2 a i.toNatClampNeg) :: st) σ Q) : WP y pc ls (.int i :: .ref a :: st) σ Q := by
  intro l p e s m args below meth c A D ad cA hC H locs lsA hP hD hS hL
  obtain ⟨hx, hb, hr, hlk, hml, hown, hts, hN, hK, hA⟩ := id hC
  obtain ⟨hd, rfl⟩ := hd
  exact va_lald hx hb hK hP a a (hn_at2 ha) (hn_ty2 ha) hi hd (k l p e s m args below meth c A D ad cA hC H locs lsA hP hD hS hL)
theorem wp_iast {y : Mth} {pc pc' : Nat} {ls st : List Value} {σ : Hp} {Q : Option Value → Hp → Prop} {a n : Nat} {i : Int32} {x : Int32} {fs : List (Nat × Nat)} (hd : Dc (hn_by y) pc (.iastore) 1 pc') (ha : kdl[a]? = some (0, n, fs)) (hi : vp_in i n) (k : WP y pc' ls st (wI σ a i.toNatClampNeg x) Q) : WP y pc ls (.int x :: .int i :: .ref a :: st) σ Q := by
  intro l p e s m args below meth c A D ad cA hC H locs lsA hP hD hS hL
  obtain ⟨hx, hb, hr, hlk, hml, hown, hts, hN, hK, hA⟩ := id hC
  obtain ⟨hd, rfl⟩ := hd
  refine va_iast hx hb hK hP hD hS a a (hn_at0 ha) (hn_ty0 ha) hi hd (fun H1 locs1 hP1 hD1 hS1 => ?_)
  rw [hn_set0 ha] at hP1 hD1
  exact k l p e s m args below meth c A D ad cA hC H1 locs1 lsA hP1 hD1 hS1 hL
theorem wp_bast {y : Mth} {pc pc' : Nat} {ls st : List Value} {σ : Hp} {Q : Option Value → Hp → Prop} {a n : Nat} {i : Int32} {x : Int32} {fs : List (Nat × Nat)} (hd : Dc (hn_by y) pc (.bastore) 1 pc') (ha : kdl[a]? = some (1, n, fs)) (hi : vp_in i n) (hb0 : vp_nar .boolean x = x) (k : WP y pc' ls st (wI σ a i.toNatClampNeg x) Q) : WP y pc ls (.int x :: .int i :: .ref a :: st) σ Q := by
  intro l p e s m args below meth c A D ad cA hC H locs lsA hP hD hS hL
  obtain ⟨hx, hb, hr, hlk, hml, hown, hts, hN, hK, hA⟩ := id hC
  obtain ⟨hd, rfl⟩ := hd
  refine va_zast hx hb hK hP hD hS a a (hn_at1 ha) (hn_ty1 ha) hi hd (fun H1 locs1 hP1 hD1 hS1 => ?_)
  rw [hb0, hn_set1 ha] at hP1 hD1
  exact k l p e s m args below meth c A D ad cA hC H1 locs1 lsA hP1 hD1 hS1 hL
theorem wp_last {y : Mth} {pc pc' : Nat} {ls st : List Value} {σ : Hp} {Q : Option Value → Hp → Prop} {a n : Nat} {i : Int32} {x : Int64} {fs : List (Nat × Nat)} (hd : Dc (hn_by y) pc (.lastore) 1 pc') (ha : kdl[a]? = some (2, n, fs)) (hi : vp_in i n) (k : WP y pc' ls st (wL σ a i.toNatClampNeg x) Q) : WP y pc ls (.long x :: .int i :: .ref a :: st) σ Q := by
  intro l p e s m args below meth c A D ad cA hC H locs lsA hP hD hS hL
  obtain ⟨hx, hb, hr, hlk, hml, hown, hts, hN, hK, hA⟩ := id hC
  obtain ⟨hd, rfl⟩ := hd
  refine va_last hx hb hK hP hD hS a a (hn_at2 ha) (hn_ty2 ha) hi hd (fun H1 locs1 hP1 hD1 hS1 => ?_)
  rw [hn_set2 ha] at hP1 hD1
  exact k l p e s m args below meth c A D ad cA hC H1 locs1 lsA hP1 hD1 hS1 hL
theorem wp_alen {y : Mth} {pc pc' : Nat} {ls st : List Value} {σ : Hp} {Q : Option Value → Hp → Prop} {a n : Nat} {v : Int32} {fs : List (Nat × Nat)} (hd : Dc (hn_by y) pc (.arraylength) 1 pc') (ha : kdl[a]? = some (0, n, fs)) (hv : Int32.ofNat n = v) (k : WP y pc' ls (.int v :: st) σ Q) : WP y pc ls (.ref a :: st) σ Q := by
  intro l p e s m args below meth c A D ad cA hC H locs lsA hP hD hS hL
  obtain ⟨hx, hb, hr, hlk, hml, hown, hts, hN, hK, hA⟩ := id hC
  obtain ⟨hd, rfl⟩ := hd
  exact va_alen hx hb hK hP a a (hn_at0 ha) (hn_ty0 ha) hv hd (k l p e s m args below meth c A D ad cA hC H locs lsA hP hD hS hL)
theorem wp_iret {y : Mth} {pc pc' : Nat} {ls : List Value} {σ : Hp} {Q : Option Value → Hp → Prop} {x : Int32} (hd : Dc (hn_by y) pc (.ireturn) 1 pc') (hy : hn_rt y = some .int) (hq : Q (some (.int x)) σ) : WP y pc ls [.int x] σ Q := by
  intro l p e s m args below meth c A D ad cA hC H locs lsA hP hD hS hL
  obtain ⟨hx, hb, hr, hlk, hml, hown, hts, hN, hK, hA⟩ := id hC
  obtain ⟨hd, rfl⟩ := hd
  exact W.iret hx hb (hr.trans hy) (fun t ht hW => ⟨⟨some (.int x), σ, rfl, hq, by rw [ht]; exact hP, hD⟩, hS.F ht⟩) hS.2.2 hd hlk
theorem wp_zret {y : Mth} {pc pc' : Nat} {ls : List Value} {σ : Hp} {Q : Option Value → Hp → Prop} {x : Int32} (hd : Dc (hn_by y) pc (.ireturn) 1 pc') (hy : hn_rt y = some .boolean) (hn : narrow .boolean (.int x) = .int x) (hq : Q (some (.int x)) σ) : WP y pc ls [.int x] σ Q := by
  intro l p e s m args below meth c A D ad cA hC H locs lsA hP hD hS hL
  obtain ⟨hx, hb, hr, hlk, hml, hown, hts, hN, hK, hA⟩ := id hC
  obtain ⟨hd, rfl⟩ := hd
  exact W.zret hx hb (hr.trans hy) hn (fun t ht hW => ⟨⟨some (.int x), σ, rfl, hq, by rw [ht]; exact hP, hD⟩, hS.F ht⟩) hS.2.2 hd hlk
theorem wp_lret {y : Mth} {pc pc' : Nat} {ls : List Value} {σ : Hp} {Q : Option Value → Hp → Prop} {x : Int64} (hd : Dc (hn_by y) pc (.lreturn) 1 pc') (hy : hn_rt y = some .long) (hq : Q (some (.long x)) σ) : WP y pc ls [.long x] σ Q := by
  intro l p e s m args below meth c A D ad cA hC H locs lsA hP hD hS hL
  obtain ⟨hx, hb, hr, hlk, hml, hown, hts, hN, hK, hA⟩ := id hC
  obtain ⟨hd, rfl⟩ := hd
  exact W.lret hx hb (hr.trans hy) (fun t ht hW => ⟨⟨some (.long x), σ, rfl, hq, by rw [ht]; exact hP, hD⟩, hS.F ht⟩) hS.2.2 hd hlk
theorem wp_vret {y : Mth} {pc pc' : Nat} {ls : List Value} {σ : Hp} {Q : Option Value → Hp → Prop} (hd : Dc (hn_by y) pc (.return_) 1 pc') (hy : hn_rt y = none) (hq : Q none σ) : WP y pc ls [] σ Q := by
  intro l p e s m args below meth c A D ad cA hC H locs lsA hP hD hS hL
  obtain ⟨hx, hb, hr, hlk, hml, hown, hts, hN, hK, hA⟩ := id hC
  obtain ⟨hd, rfl⟩ := hd
  exact W.vret hx hb (hr.trans hy) (fun t ht hW => ⟨⟨none, σ, rfl, hq, by rw [ht]; exact hP, hD⟩, hS.F ht⟩) hS.2.2 hd hlk
theorem hn_push (ad : Nat → Nat) (v : Option Value) (st : List Value) : (v.toList ++ st).map (hn_tr ad) = (v.map (hn_tr ad)).toList ++ st.map (hn_tr ad) := by
  cases v <;> simp
theorem wpg_callS {y y' : Mth} {pc pc' idx : Nat} {ls st st0 as : List Value} {σ : Hp} {P Q : Option Value → Hp → Prop} (hd : Dc (hn_by y) pc (.invokestatic idx) 3 pc') (hl0 : hn_LS (hn_nm y).cls idx y' as.length) (hfit : hn_fit (hn_rm y) y') (hlen : (as.flatMap fun v => if v.category = 2 then [v, Value.null] else [v]).length ≤ hn_ml y') (h8 : (st.map fun v => v.category).sum ≤ 8) (hM : Ct y' as σ P) (hst : st0 = as.reverse ++ st) (k : ∀ (v : Option Value) (τ : Hp), P v τ → WP y pc' ls (v.toList ++ st) τ Q) : WP y pc ls st0 σ Q := by
  intro l p e s m args below meth c A D ad cA hC H locs lsA hP hD hS hL
  obtain ⟨hx, hb, hr, hlk, hml, hown, hts, hN, hK, hA⟩ := id hC
  obtain ⟨hd, rfl⟩ := hd
  subst hst
  obtain ⟨hB, hst⟩ := hl0
  have hpl : plainFor (hn_nm y') = true := hB.2.2.2.1
  refine hn_after (rest := st.map (hn_tr ad)) (va_runS (nL := hn_ml y) (As := as.map (hn_tr ad)) ⟨hx, hb, hml, hown, hts⟩ (hn_met hM hpl hlen l D ad cA H.size) ⟨hn_callB hts hB hfit, hts _ hst⟩ (hn_pre hP hD hK hN) rfl (by simp) hL.size (by simp) (lv_room (by rw [hn_cats]; exact h8)) hd ⟨Nat.zero_le _, Nat.zero_le _⟩) hD hS hA (fun v τ H1 locs1 hq hP1 hD1 hS1 => by rw [← hn_push]; exact k v τ hq l p e s m args below meth c A D ad cA hC H1 locs1 lsA hP1 hD1 hS1 hL)
theorem wpg_callSN {y y' : Mth} {pc pc' idx : Nat} {ls st st0 as : List Value} {σ : Hp} {P Q : Option Value → Hp → Prop} (hd : Dc (hn_by y) pc (.invokestatic idx) 3 pc') (hl0 : hn_LNS (hn_nm y).cls idx y' as.length) (hfit : hn_fit (hn_rm y) y') (hlen : (as.flatMap fun v => if v.category = 2 then [v, Value.null] else [v]).length ≤ hn_ml y') (h8 : (st.map fun v => v.category).sum ≤ 8) (hM : Ct y' as σ P) (hst : st0 = as.reverse ++ st) (k : ∀ (v : Option Value) (τ : Hp), P v τ → WP y pc' ls (v.toList ++ st) τ Q) : WP y pc ls st0 σ Q := by
  intro l p e s m args below meth c A D ad cA hC H locs lsA hP hD hS hL
  obtain ⟨hx, hb, hr, hlk, hml, hown, hts, hN, hK, hA⟩ := id hC
  obtain ⟨hd, rfl⟩ := hd
  subst hst
  obtain ⟨host, hB, hst⟩ := hl0
  have hpl : plainFor (hn_nm y') = true := hB.2.2.2.1
  refine hn_after (rest := st.map (hn_tr ad)) (va_runSN (nL := hn_ml y) (As := as.map (hn_tr ad)) ⟨hx, hb, hml, hown, hts⟩ (hn_met hM hpl hlen l D ad cA H.size) ⟨hn_callN hts hN hB hfit, hts _ hst, trivial⟩ (hn_pre hP hD hK hN) rfl (by simp) hL.size (by simp) (lv_room (by rw [hn_cats]; exact h8)) hd ⟨Nat.zero_le _, Nat.zero_le _⟩) hD hS hA (fun v τ H1 locs1 hq hP1 hD1 hS1 => by rw [← hn_push]; exact k v τ hq l p e s m args below meth c A D ad cA hC H1 locs1 lsA hP1 hD1 hS1 hL)
theorem wpg_callV {y y' : Mth} {pc pc' idx : Nat} {ls st st0 as : List Value} {σ : Hp} {P Q : Option Value → Hp → Prop} {r ci n : Nat} {fs : List (Nat × Nat)} {C : String} {T : u_T} {N : Nat} (hd : Dc (hn_by y) pc (.invokevirtual idx) 3 pc') (hl0 : hn_LV (hn_nm y).cls idx y' as.length) (hr0 : kdl[r]? = some (ci + 3, n, fs)) (hcl : classes[ci]? = some (C, T, N)) (hCn : C = (hn_nm y').cls) (hfit : hn_fit (hn_rm y) y') (hlen : ((Value.ref r :: as).flatMap fun v => if v.category = 2 then [v, Value.null] else [v]).length ≤ hn_ml y') (h8 : (st.map fun v => v.category).sum ≤ 8) (hM : Ct y' (.ref r :: as) σ P) (hst : st0 = as.reverse ++ .ref r :: st) (k : ∀ (v : Option Value) (τ : Hp), P v τ → WP y pc' ls (v.toList ++ st) τ Q) : WP y pc ls st0 σ Q := by
  intro l p e s m args below meth c A D ad cA hC H locs lsA hP hD hS hL
  obtain ⟨hx, hb, hr, hlk, hml, hown, hts, hN, hK, hA⟩ := id hC
  obtain ⟨hd, rfl⟩ := hd
  subst hst
  subst hCn
  obtain ⟨hB, hst1, hst2⟩ := hl0
  have hpl : plainFor (hn_nm y') = true := hB.2.2.2.1
  have hpre := hn_pre (as := .ref r :: as) hP hD hK hN
  refine hn_after (rest := st.map (hn_tr ad)) (va_runV (nL := hn_ml y) (C := (hn_nm y').cls) (b := ad r) (As := as.map (hn_tr ad)) ⟨hx, hb, hml, hown, hts⟩ (hn_met (as := .ref r :: as) hM hpl hlen l D ad cA H.size) ⟨hn_callB hts hB hfit, hts _ hst1, hts _ hst2⟩ ⟨hpre.1, va_recv hK hP hcl (hn_at3 hr0), hpre.2⟩ rfl (by simp) hL.size (by simp [hn_tr]) (lv_room (by rw [hn_cats]; exact h8)) hd ⟨Nat.zero_le _, Nat.zero_le _⟩) hD hS hA (fun v τ H1 locs1 hq hP1 hD1 hS1 => by rw [← hn_push]; exact k v τ hq l p e s m args below meth c A D ad cA hC H1 locs1 lsA hP1 hD1 hS1 hL)
theorem wpg_callVN {y y' : Mth} {pc pc' idx : Nat} {ls st st0 as : List Value} {σ : Hp} {P Q : Option Value → Hp → Prop} {r ci n : Nat} {fs : List (Nat × Nat)} {C : String} {T : u_T} {N : Nat} (hd : Dc (hn_by y) pc (.invokevirtual idx) 3 pc') (hl0 : hn_LNV (hn_nm y).cls idx y' as.length) (hr0 : kdl[r]? = some (ci + 3, n, fs)) (hcl : classes[ci]? = some (C, T, N)) (hCn : C = (hn_nm y').cls) (hfit : hn_fit (hn_rm y) y') (hlen : ((Value.ref r :: as).flatMap fun v => if v.category = 2 then [v, Value.null] else [v]).length ≤ hn_ml y') (h8 : (st.map fun v => v.category).sum ≤ 8) (hM : Ct y' (.ref r :: as) σ P) (hst : st0 = as.reverse ++ .ref r :: st) (k : ∀ (v : Option Value) (τ : Hp), P v τ → WP y pc' ls (v.toList ++ st) τ Q) : WP y pc ls st0 σ Q := by
  intro l p e s m args below meth c A D ad cA hC H locs lsA hP hD hS hL
  obtain ⟨hx, hb, hr, hlk, hml, hown, hts, hN, hK, hA⟩ := id hC
  obtain ⟨hd, rfl⟩ := hd
  subst hst
  subst hCn
  obtain ⟨host, hB, hst1, hst2⟩ := hl0
  have hpl : plainFor (hn_nm y') = true := hB.2.2.2.1
  have hpre := hn_pre (as := .ref r :: as) hP hD hK hN
  refine hn_after (rest := st.map (hn_tr ad)) (va_runVN (nL := hn_ml y) (C := (hn_nm y').cls) (b := ad r) (As := as.map (hn_tr ad)) ⟨hx, hb, hml, hown, hts⟩ (hn_met (as := .ref r :: as) hM hpl hlen l D ad cA H.size) ⟨hn_callN hts hN hB hfit, hts _ hst1, hts _ hst2⟩ ⟨hpre.1, va_recv hK hP hcl (hn_at3 hr0), hpre.2⟩ rfl (by simp) hL.size (by simp [hn_tr]) (lv_room (by rw [hn_cats]; exact h8)) hd ⟨Nat.zero_le _, Nat.zero_le _⟩) hD hS hA (fun v τ H1 locs1 hq hP1 hD1 hS1 => by rw [← hn_push]; exact k v τ hq l p e s m args below meth c A D ad cA hC H1 locs1 lsA hP1 hD1 hS1 hL)
