/-! contracts: sort, meanings, as the reference answers -/
def cmB (N : Nat) (x y : Nat) : Bool := decide (bN N x y = bN N y x)
/-- all letters go together -/
def slB (N : Nat) (lm : Nat → Nat) (a : Nat) : Bool := (List.range a).all (fun b => cmB N (lm a) (lm b))
def coB (N : Nat) (Q : BQ) (a b : Nat) : Bool := !stN N (itm Q b) || cmB N (itm Q a) (itm Q b)
def scN (N : Nat) (Q : BQ) (a : Nat) : Bool := !stN N (itm Q a) || (List.range a).all (fun b => coB N Q a b)
def soF (N L : Nat) (lm : Nat → Nat) (j M : Nat) (b : Nat → Nat → Nat) (B : Nat → Nat) : Bool :=
  if j = 0 then (List.range L).all (fun a => slB N lm a) else if j < 4 then decide (B j = M) else if j = 4 then decide ((inF N (EQ N L lm) (b 0) (b 0) none true M).2 = B 0) else if j = 6 then decide (B 3 = 1) else (List.range M).all (fun a => scN N (EQ N L lm) a)
theorem inF_le {N : Nat} {Q : BQ} {b bk : Nat → Nat} {i : Option Nat} {s : Bool} : ∀ K, (inF N Q b bk i s K).2 ≤ K
  | 0 => Nat.le_refl _
  | K + 1 => by
    have ih := inF_le (N := N) (Q := Q) (b := b) (bk := bk) (i := i) (s := s) K
    show (inS N Q b bk i s K (inF N Q b bk i s K)).2 ≤ _
    unfold inS
    split
    · show _ + 1 ≤ _
      omega
    · omega
theorem c_M_sort_no (w : Int32) (σ : Hp) (h : ¬ (0 ≤ w ∧ w ≤ nI 6)) : Ct m_M_sort [.ref 56, .int w] σ (Rt (.int (-1)) (Th σ)) := by
  show WP m_M_sort 0 [.ref 56, .int w, .null, .null, .null] [] σ _
  refine wp_aload_n d_M_sort_0 rfl ?_
  refine wp_iconst (v := 0) d_M_sort_1 (by decide) ?_
  refine wp_putI d_M_sort_2 fp_M_89 rfl rfl (by decide) rfl rfl ?_
  show WP m_M_sort 5 _ _ (Th σ) _
  refine wp_iload_n d_M_sort_5 rfl ?_
  refine wp_iconst (v := 0) d_M_sort_6 (by decide) ?_
  refine wp_bipush (v := 6) d_M_sort_7 (by decide) ?_
  refine wp_callS3e d_M_sort_9 cs_M_100 ⟨Nat.le_of_ble_eq_true rfl, Nat.le_of_ble_eq_true rfl⟩ (Nat.le_of_ble_eq_true rfl) (Nat.le_of_ble_eq_true rfl) (c_M_in _ _ _ _) ?_
  refine wp_if_ne (tgt := 17) d_M_sort_12 (by decide) (fun hc => ?_) (fun hc => ?_)
  · exact absurd (bz_n0 hc) h
  · refine wp_iconst (v := -1) d_M_sort_15 (by decide) ?_
    refine wp_iret d_M_sort_16 rfl ?_
    exact ⟨rfl, rfl⟩
theorem c_M_sort {j N L : Nat} {lm : Nat → Nat} (hj : j ≤ 6) (σ : Hp) (hB : MB σ N) (hL : LT σ N L lm) (hD : LD σ N L lm) : Ct m_M_sort [.ref 56, .int (nI j)] σ (Lb N L lm σ (fun M b B z => z = bz (soF N L lm j M b B = true))) := by
  have hB := hB.th
  have hL := hL.th
  have hD := hD.th
  have hp6 := pow6 hB.2.2
  have h4 := hL.2.1
  show WP m_M_sort 0 [.ref 56, .int (nI j), .null, .null, .null] [] σ _
  refine wp_aload_n d_M_sort_0 rfl ?_
  refine wp_iconst (v := 0) d_M_sort_1 (by decide) ?_
  refine wp_putI d_M_sort_2 fp_M_89 rfl rfl (by decide) rfl rfl ?_
  show WP m_M_sort 5 _ _ (Th σ) _
  refine wp_iload_n d_M_sort_5 rfl ?_
  refine wp_iconst (v := 0) d_M_sort_6 (by decide) ?_
  refine wp_bipush (v := 6) d_M_sort_7 (by decide) ?_
  refine wp_callS3e d_M_sort_9 cs_M_100 ⟨Nat.le_of_ble_eq_true rfl, Nat.le_of_ble_eq_true rfl⟩ (Nat.le_of_ble_eq_true rfl) (Nat.le_of_ble_eq_true rfl) (c_M_in _ _ _ _) ?_
  refine wp_if_ne (tgt := 17) d_M_sort_12 (by decide) (fun hc => ?_) (fun hc => ?_)
  · refine wp_aload_n d_M_sort_17 rfl ?_
    refine wp_callV0 d_M_sort_18 cv_M_141 rfl rfl rfl ⟨Nat.le_of_ble_eq_true rfl, Nat.le_of_ble_eq_true rfl⟩ (Nat.le_of_ble_eq_true rfl) (Nat.le_of_ble_eq_true rfl) (c_M_loads _ hB hL hD) (fun v τ hv => ?_)
    obtain ⟨hF, hv⟩ := hv
    show WP m_M_sort 21 _ _ τ _
    rcases hv with ⟨rfl, hv⟩ | ⟨rfl, M, hv⟩
    · show WP m_M_sort 21 _ [.int 0] τ _
      refine wp_if_ne (tgt := 27) d_M_sort_21 (by decide) (fun hc2 => ?_) (fun hc2 => ?_)
      · exact absurd rfl hc2
      · refine wp_bipush (v := -5) d_M_sort_24 (by decide) ?_
        refine wp_iret d_M_sort_26 rfl ?_
        exact ⟨hF, Or.inl ⟨rfl, hv⟩⟩
    · show WP m_M_sort 21 _ [.int 1] τ _
      have hB1 := hF.MB hB
      have hL1 := hF.LT hL
      obtain ⟨a, b, B, hx⟩ := hv.tx
      have hq := hx.1
      have h15 := hq.2.2.2.1
      have hlen := hq.2.2.1
      have hBM : ∀ k, k < 4 → B k ≤ M := fun k hk => (hx.2.2.1 k hk).1.le
      have fin : ∀ υ z, Fp cmS τ υ → z = bz (soF N L lm j M b B = true) → Lb N L lm σ (fun M b B z => z = bz (soF N L lm j M b B = true)) (some (.int z)) υ := fun υ z hF2 hz => ⟨hF.cm hF2, Or.inr ⟨z, M, a, b, B, rfl, hx.mv hF2 cm_ne, hz⟩⟩
      refine wp_if_ne (tgt := 27) d_M_sort_21 (by decide) (fun hc2 => ?_) (fun hc2 => ?_)
      · refine wp_iconst (v := 1) d_M_sort_27 (by decide) ?_
        refine wp_istore2 d_M_sort_28 (by decide) rfl ?_
        refine wp_iload_n d_M_sort_29 rfl ?_
        refine wp_if_ne (tgt := 119) d_M_sort_30 (by decide) (fun hc3 => ?_) (fun hc3 => ?_)
        · rw [show (0 : Int32) = nI 0 from rfl, nI_eq (by omega) (by omega)] at hc3
          refine wp_iload_n d_M_sort_119 rfl ?_
          refine wp_iconst (v := 4) d_M_sort_120 (by decide) ?_
          refine wp_icmp_ge (tgt := 143) d_M_sort_121 (by decide) (fun hc5 => ?_) (fun hc5 => ?_)
          · rw [show (4 : Int32) = nI 4 from rfl, nI_leN (by omega) (by omega)] at hc5
            refine wp_iload_n d_M_sort_143 rfl ?_
            refine wp_iconst (v := 4) d_M_sort_144 (by decide) ?_
            refine wp_icmp_ne (tgt := 170) d_M_sort_145 (by decide) (fun hc6 => ?_) (fun hc6 => ?_)
            · rw [show (4 : Int32) = nI 4 from rfl, nI_eq (by omega) (by omega)] at hc6
              refine wp_iload_n d_M_sort_170 rfl ?_
              refine wp_bipush (v := 6) d_M_sort_171 (by decide) ?_
              refine wp_icmp_ne (tgt := 192) d_M_sort_173 (by decide) (fun hc7 => ?_) (fun hc7 => ?_)
              · rw [show (6 : Int32) = nI 6 from rfl, nI_eq (by omega) (by omega)] at hc7
                have ej : soF N L lm j M b B = (List.range M).all (fun a => scN N (EQ N L lm) a) := by rw [soF, if_neg hc3, if_neg (by omega), if_neg hc6, if_neg hc7]
                refine wp_iconst (v := 0) d_M_sort_192 (by decide) ?_
                refine wp_istore3 d_M_sort_193 (by decide) rfl ?_
                suffices H : ∀ x, x ≤ M → ∀ (x4 : Value) (c : Bool), c = (List.range x).all (fun a => scN N (EQ N L lm) a) → WP m_M_sort 194 [.ref 56, .int (nI j), .int (bz (c = true)), .int (nI x), x4] [] τ (Lb N L lm σ (fun M b B z => z = bz (soF N L lm j M b B = true))) by
                  have := H 0 (Nat.zero_le _) .null true rfl
                  rw [bz_t (p := (true = true)) rfl] at this
                  exact this
                refine lp_nat (fun x hxM ih x4 c hcx => ?_)
                refine wp_iload_n d_M_sort_194 rfl ?_
                refine wp_aload_n d_M_sort_195 rfl ?_
                refine wp_getI d_M_sort_196 fl_M_117 rfl rfl (by decide) ?_
                refine wp_icmp_ge (tgt := 287) d_M_sort_199 (by decide) (fun hc8 => ?_) (fun hc8 => ?_)
                · rw [hq.2.1] at hc8
                  obtain rfl := Nat.le_antisymm hxM (nI_ge2 hc8 (by omega) (by omega))
                  rw [← ej] at hcx
                  refine wp_iload_n d_M_sort_287 rfl ?_
                  refine wp_if_eq (tgt := 295) d_M_sort_288 (by decide) (fun hc9 => ?_) (fun hc9 => ?_)
                  · refine wp_iconst (v := 0) d_M_sort_295 (by decide) ?_
                    refine wp_iret d_M_sort_296 rfl ?_
                    exact fin τ 0 Fp.rf (by rw [← hcx, hc9])
                  · have hc9 := bz_n0 hc9
                    refine wp_iconst (v := 1) d_M_sort_291 (by decide) ?_
                    refine wp_goto (tgt := 296) d_M_sort_292 (by decide) ?_
                    refine wp_iret d_M_sort_296 rfl ?_
                    exact fin τ 1 Fp.rf (by rw [← hcx, hc9]; rfl)
                · rw [hq.2.1] at hc8
                  have hx2 := nI_nge hc8 (by omega) (by omega)
                  have hlx := EQ_lt (L := L) (lm := lm) hB.2.1 x (by omega)
                  have hwx := (hq.2.2.2.2.1 x (by omega)).1
                  have nx : ∀ (c' : Bool) (x4 : Value), c' = (c && scN N (EQ N L lm) x) → WP m_M_sort 281 [.ref 56, .int (nI j), .int (bz (c' = true)), .int (nI x), x4] [] τ (Lb N L lm σ (fun M b B z => z = bz (soF N L lm j M b B = true))) := by
                    intro c' x4 hc'
                    refine wp_iinc3 d_M_sort_281 (hn_ii1 _) (by decide) rfl ?_
                    refine wp_goto (tgt := 194) d_M_sort_284 (by decide) ?_
                    rw [nI_1]
                    exact ih hx2 _ c' (by rw [hc', hcx, all_s])
                  refine wp_iconst (v := 0) d_M_sort_202 (by decide) ?_
                  refine wp_istore4 d_M_sort_203 (by decide) rfl ?_
                  suffices H : ∀ y, y ≤ x → ∀ c' : Bool, c' = (c && (List.range y).all (fun b => coB N (EQ N L lm) x b)) → (0 < y → stN N (itm (EQ N L lm) x) = true) → WP m_M_sort 205 [.ref 56, .int (nI j), .int (bz (c' = true)), .int (nI x), .int (nI y)] [] τ (Lb N L lm σ (fun M b B z => z = bz (soF N L lm j M b B = true))) from H 0 (Nat.zero_le _) c (by simp) (fun q => absurd q (Nat.lt_irrefl 0))
                  refine lp_nat (fun y hy ih2 c' hc' hst => ?_)
                  refine wp_iload d_M_sort_205 rfl ?_
                  refine wp_iload_n d_M_sort_207 rfl ?_
                  refine wp_icmp_ge (tgt := 281) d_M_sort_208 (by decide) (fun hc9 => ?_) (fun hc9 => ?_)
                  · obtain rfl := Nat.le_antisymm hy (nI_ge2 hc9 (by omega) (by omega))
                    refine nx c' _ ?_
                    rw [hc', scN]
                    rcases Nat.eq_zero_or_pos y with q | q
                    · subst q; simp
                    · rw [hst q]; simp
                  · have hy2 := nI_nge hc9 (by omega) (by omega)
                    have hly := EQ_lt (L := L) (lm := lm) hB.2.1 y (by omega)
                    have hwy := (hq.2.2.2.2.1 y (by omega)).1
                    have b1 := bN_lt (N := N) (a := itm (EQ N L lm) x) (b := itm (EQ N L lm) y) hB.2.1
                    have b2 := bN_lt (N := N) (a := itm (EQ N L lm) y) (b := itm (EQ N L lm) x) hB.2.1
                    refine wp_iload_n d_M_sort_211 rfl ?_
                    refine wp_if_eq (tgt := 281) d_M_sort_212 (by decide) (fun hc10 => ?_) (fun hc10 => ?_)
                    · rw [bz_0] at hc10
                      have hcf : c' = false := by cases c' with
                        | false => rfl
                        | true => exact absurd rfl hc10
                      refine nx c' _ ?_
                      rw [hcf] at hc' ⊢
                      cases c with
                      | false => rfl
                      | true =>
                        rw [Bool.true_and] at hc' ⊢
                        rw [scN, all_f hy hc'.symm]
                        rcases Nat.eq_zero_or_pos y with q | q
                        · subst q; simp at hc'
                        · rw [hst q]; rfl
                    · have hc10 := bz_n0 hc10
                      refine wp_aload_n d_M_sort_215 rfl ?_
                      refine wp_iload_n d_M_sort_216 rfl ?_
                      refine wp_callV1e d_M_sort_217 cv_M_148 rfl rfl rfl ⟨Nat.le_of_ble_eq_true rfl, Nat.le_of_ble_eq_true rfl⟩ (Nat.le_of_ble_eq_true rfl) (Nat.le_of_ble_eq_true rfl) (c_M_isStill _ hB1 hq hx2) ?_
                      refine wp_if_eq (tgt := 281) d_M_sort_220 (by decide) (fun hc11 => ?_) (fun hc11 => ?_)
                      · rw [bz_0] at hc11
                        refine nx c' _ ?_
                        have h0 : stN N (itm (EQ N L lm) x) = false := by
                          cases r : stN N (itm (EQ N L lm) x) with
                          | false => rfl
                          | true => exact absurd r hc11
                        rcases Nat.eq_zero_or_pos y with q | q
                        · subst q
                          rw [hc', scN, h0]; simp
                        · exact absurd (hst q) hc11
                      · have hc11 := bz_n0 hc11
                        have step : ∀ d : Bool, d = coB N (EQ N L lm) x y → WP m_M_sort 274 [.ref 56, .int (nI j), .int (bz (c' = true)), .int (nI x), .int (nI y)] [.int (bz (d = true))] τ (Lb N L lm σ (fun M b B z => z = bz (soF N L lm j M b B = true))) := by
                          intro d hd
                          refine wp_istore2 d_M_sort_274 (by decide) rfl ?_
                          refine wp_iinc4 d_M_sort_275 (hn_ii1 _) (by decide) rfl ?_
                          refine wp_goto (tgt := 205) d_M_sort_278 (by decide) ?_
                          rw [nI_1]
                          exact ih2 hy2 d (by rw [all_s, ← Bool.and_assoc, ← hc', hc10, hd]; simp) (fun _ => hc11)
                        refine wp_aload_n d_M_sort_223 rfl ?_
                        refine wp_iload d_M_sort_224 rfl ?_
                        refine wp_callV1e d_M_sort_226 cv_M_148 rfl rfl rfl ⟨Nat.le_of_ble_eq_true rfl, Nat.le_of_ble_eq_true rfl⟩ (Nat.le_of_ble_eq_true rfl) (Nat.le_of_ble_eq_true rfl) (c_M_isStill _ hB1 hq (by omega)) ?_
                        refine wp_if_eq (tgt := 269) d_M_sort_229 (by decide) (fun hc12 => ?_) (fun hc12 => ?_)
                        · rw [bz_0] at hc12
                          have h0 : stN N (itm (EQ N L lm) y) = false := by
                            cases r : stN N (itm (EQ N L lm) y) with
                            | false => rfl
                            | true => exact absurd r hc12
                          refine wp_iconst (v := 1) d_M_sort_269 (by decide) ?_
                          refine wp_goto (tgt := 274) d_M_sort_270 (by decide) ?_
                          exact step true (by rw [coB, h0]; rfl)
                        · have hc12 := bz_n0 hc12
                          refine wp_aload_n d_M_sort_232 rfl ?_
                          refine wp_aload_n d_M_sort_233 rfl ?_
                          refine wp_getA d_M_sort_234 fl_M_17 rfl rfl rfl ?_
                          refine wp_iload_n d_M_sort_237 rfl ?_
                          refine wp_iald d_M_sort_238 rfl ?_ ?_
                          · exact vp_in_nI (n := x) (by omega) (by decide)
                          rw [nI_clamp (show x < 2 ^ 31 by omega), hwx]
                          refine wp_aload_n d_M_sort_239 rfl ?_
                          refine wp_getA d_M_sort_240 fl_M_17 rfl rfl rfl ?_
                          refine wp_iload d_M_sort_243 rfl ?_
                          refine wp_iald d_M_sort_245 rfl ?_ ?_
                          · exact vp_in_nI (n := y) (by omega) (by decide)
                          rw [nI_clamp (show y < 2 ^ 31 by omega), hwy]
                          refine wp_callV2e d_M_sort_246 cv_M_124 rfl rfl rfl ⟨Nat.le_of_ble_eq_true rfl, Nat.le_of_ble_eq_true rfl⟩ (Nat.le_of_ble_eq_true rfl) (Nat.le_of_ble_eq_true rfl) (c_M_both (by omega) (by omega) _ hB1) ?_
                          refine wp_aload_n d_M_sort_249 rfl ?_
                          refine wp_aload_n d_M_sort_250 rfl ?_
                          refine wp_getA d_M_sort_251 fl_M_17 rfl rfl rfl ?_
                          refine wp_iload d_M_sort_254 rfl ?_
                          refine wp_iald d_M_sort_256 rfl ?_ ?_
                          · exact vp_in_nI (n := y) (by omega) (by decide)
                          rw [nI_clamp (show y < 2 ^ 31 by omega), hwy]
                          refine wp_aload_n d_M_sort_257 rfl ?_
                          refine wp_getA d_M_sort_258 fl_M_17 rfl rfl rfl ?_
                          refine wp_iload_n d_M_sort_261 rfl ?_
                          refine wp_iald d_M_sort_262 rfl ?_ ?_
                          · exact vp_in_nI (n := x) (by omega) (by decide)
                          rw [nI_clamp (show x < 2 ^ 31 by omega), hwx]
                          refine wp_callV2e d_M_sort_263 cv_M_124 rfl rfl rfl ⟨Nat.le_of_ble_eq_true rfl, Nat.le_of_ble_eq_true rfl⟩ (Nat.le_of_ble_eq_true rfl) (Nat.le_of_ble_eq_true rfl) (c_M_both (by omega) (by omega) _ hB1) ?_
                          refine wp_icmp_ne (tgt := 273) d_M_sort_266 (by decide) (fun hc13 => ?_) (fun hc13 => ?_)
                          · rw [nI_eq (by omega) (by omega)] at hc13
                            refine wp_iconst (v := 0) d_M_sort_273 (by decide) ?_
                            exact step false (by rw [coB, hc12, cmB, decide_eq_false hc13]; rfl)
                          · rw [nI_eq (by omega) (by omega)] at hc13
                            refine wp_iconst (v := 1) d_M_sort_269 (by decide) ?_
                            refine wp_goto (tgt := 274) d_M_sort_270 (by decide) ?_
                            exact step true (by rw [coB, hc12, cmB, decide_eq_true hc13]; rfl)
              · rw [show (6 : Int32) = nI 6 from rfl, nI_eq (by omega) (by omega)] at hc7
                have ej : soF N L lm j M b B = decide (B 3 = 1) := by rw [soF, if_neg hc3, if_neg (by omega), if_neg hc6, if_pos hc7]
                have hb3 := hBM 3 (by decide)
                refine wp_aload_n d_M_sort_176 rfl ?_
                refine wp_getA d_M_sort_177 fl_M_42 rfl rfl rfl ?_
                refine wp_iconst (v := 3) d_M_sort_180 (by decide) ?_
                refine wp_iald d_M_sort_181 rfl ?_ ?_
                · exact vp_in_nI (n := 3) (by decide) (by decide)
                rw [show (3 : Int32).toNatClampNeg = 3 by decide, (hx.2.2.1 3 (by decide)).2.2]
                refine wp_iconst (v := 1) d_M_sort_182 (by decide) ?_
                refine wp_icmp_ne (tgt := 190) d_M_sort_183 (by decide) (fun hc8 => ?_) (fun hc8 => ?_)
                · rw [show (1 : Int32) = nI 1 from rfl, nI_eq (by omega) (by omega)] at hc8
                  refine wp_iconst (v := 0) d_M_sort_190 (by decide) ?_
                  refine wp_iret d_M_sort_191 rfl ?_
                  exact fin τ 0 Fp.rf (by rw [ej, decide_eq_false hc8]; rfl)
                · rw [show (1 : Int32) = nI 1 from rfl, nI_eq (by omega) (by omega)] at hc8
                  refine wp_iconst (v := 1) d_M_sort_186 (by decide) ?_
                  refine wp_goto (tgt := 191) d_M_sort_187 (by decide) ?_
                  refine wp_iret d_M_sort_191 rfl ?_
                  exact fin τ 1 Fp.rf (by rw [ej, decide_eq_true hc8]; rfl)
            · rw [show (4 : Int32) = nI 4 from rfl, nI_eq (by omega) (by omega)] at hc6
              have ej : soF N L lm j M b B = decide ((inF N (EQ N L lm) (b 0) (b 0) none true M).2 = B 0) := by rw [soF, if_neg hc3, if_neg (by omega), if_pos hc6]
              have hb0 := hBM 0 (by decide)
              have hin := inF_le (N := N) (Q := EQ N L lm) (b := b 0) (bk := b 0) (i := none) (s := true) M
              obtain ⟨r0, k0, z0⟩ := hx.2.2.1 0 (by decide)
              have := c_M_inside (k := 0) (b := b 0) (bk := b 0) none (fun x q => by cases q) true τ hB1 hq (by decide) (fun e he => ⟨(hx.b0 (by decide) he).1, (hx.b0 (by decide) he).1⟩) k0 k0
              refine wp_aload_n d_M_sort_148 rfl ?_
              refine wp_iconst (v := -1) d_M_sort_149 (by decide) ?_
              refine wp_iconst (v := 0) d_M_sort_150 (by decide) ?_
              refine wp_iconst (v := 1) d_M_sort_151 (by decide) ?_
              refine wp_callV3 d_M_sort_152 cv_M_173 rfl rfl rfl ⟨Nat.le_of_ble_eq_true rfl, Nat.le_of_ble_eq_true rfl⟩ (Nat.le_of_ble_eq_true rfl) (Nat.le_of_ble_eq_true rfl) (this) (fun v υ hv => ?_)
              obtain ⟨rfl, hF2⟩ := hv
              show WP m_M_sort 155 _ [.int _] υ _
              refine wp_aload_n d_M_sort_155 rfl ?_
              refine wp_getA d_M_sort_156 fl_M_42 rfl rfl rfl ?_
              refine wp_iconst (v := 0) d_M_sort_159 (by decide) ?_
              refine wp_iald d_M_sort_160 rfl ?_ ?_
              · exact vp_in_nI (n := 0) (by decide) (by decide)
              rw [show (0 : Int32).toNatClampNeg = 0 by decide, (hF2 66 (by decide)).1, z0]
              refine wp_icmp_ne (tgt := 168) d_M_sort_161 (by decide) (fun hc8 => ?_) (fun hc8 => ?_)
              · rw [nI_eq (by omega) (by omega)] at hc8
                refine wp_iconst (v := 0) d_M_sort_168 (by decide) ?_
                refine wp_iret d_M_sort_169 rfl ?_
                exact fin υ 0 hF2 (by rw [ej, decide_eq_false hc8]; rfl)
              · rw [nI_eq (by omega) (by omega)] at hc8
                refine wp_iconst (v := 1) d_M_sort_164 (by decide) ?_
                refine wp_goto (tgt := 169) d_M_sort_165 (by decide) ?_
                refine wp_iret d_M_sort_169 rfl ?_
                exact fin υ 1 hF2 (by rw [ej, decide_eq_true hc8]; rfl)
          · rw [show (4 : Int32) = nI 4 from rfl, nI_leN (by omega) (by omega)] at hc5
            have ej : soF N L lm j M b B = decide (B j = M) := by rw [soF, if_neg hc3, if_pos (by omega)]
            have hbj := hBM j (by omega)
            refine wp_aload_n d_M_sort_124 rfl ?_
            refine wp_getA d_M_sort_125 fl_M_42 rfl rfl rfl ?_
            refine wp_iload_n d_M_sort_128 rfl ?_
            refine wp_iald d_M_sort_129 rfl ?_ ?_
            · exact vp_in_nI (n := j) (by omega) (by decide)
            rw [nI_clamp (show j < 2 ^ 31 by omega), (hx.2.2.1 j (by omega)).2.2]
            refine wp_aload_n d_M_sort_130 rfl ?_
            refine wp_getI d_M_sort_131 fl_M_117 rfl rfl (by decide) ?_
            rw [hq.2.1]
            refine wp_icmp_ne (tgt := 141) d_M_sort_134 (by decide) (fun hc8 => ?_) (fun hc8 => ?_)
            · rw [nI_eq (by omega) (by omega)] at hc8
              refine wp_iconst (v := 0) d_M_sort_141 (by decide) ?_
              refine wp_iret d_M_sort_142 rfl ?_
              exact fin τ 0 Fp.rf (by rw [ej, decide_eq_false hc8]; rfl)
            · rw [nI_eq (by omega) (by omega)] at hc8
              refine wp_iconst (v := 1) d_M_sort_137 (by decide) ?_
              refine wp_goto (tgt := 142) d_M_sort_138 (by decide) ?_
              refine wp_iret d_M_sort_142 rfl ?_
              exact fin τ 1 Fp.rf (by rw [ej, decide_eq_true hc8]; rfl)
        · rw [show (0 : Int32) = nI 0 from rfl, nI_eq (by omega) (by omega)] at hc3
          have ej : soF N L lm j M b B = (List.range L).all (fun a => slB N lm a) := by rw [soF, if_pos hc3]
          refine wp_iconst (v := 0) d_M_sort_33 (by decide) ?_
          refine wp_istore3 d_M_sort_34 (by decide) rfl ?_
          suffices H : ∀ x, x ≤ L → ∀ (x4 : Value) (c : Bool), c = (List.range x).all (fun a => slB N lm a) → WP m_M_sort 35 [.ref 56, .int (nI j), .int (bz (c = true)), .int (nI x), x4] [] τ (Lb N L lm σ (fun M b B z => z = bz (soF N L lm j M b B = true))) by
            have := H 0 (Nat.zero_le _) .null true rfl
            rw [bz_t (p := (true = true)) rfl] at this
            exact this
          refine lp_nat (fun x hxL ih x4 c hcx => ?_)
          refine wp_iload_n d_M_sort_35 rfl ?_
          refine wp_aload_n d_M_sort_36 rfl ?_
          refine wp_getI d_M_sort_37 fl_M_104 rfl rfl (by decide) ?_
          refine wp_icmp_ge (tgt := 109) d_M_sort_40 (by decide) (fun hc8 => ?_) (fun hc8 => ?_)
          · rw [hL1.1] at hc8
            obtain rfl := Nat.le_antisymm hxL (nI_ge2 hc8 (by omega) (by omega))
            rw [← ej] at hcx
            refine wp_iload_n d_M_sort_109 rfl ?_
            refine wp_if_eq (tgt := 117) d_M_sort_110 (by decide) (fun hc9 => ?_) (fun hc9 => ?_)
            · refine wp_iconst (v := 0) d_M_sort_117 (by decide) ?_
              refine wp_iret d_M_sort_118 rfl ?_
              exact fin τ 0 Fp.rf (by rw [← hcx, hc9])
            · have hc9 := bz_n0 hc9
              refine wp_iconst (v := 1) d_M_sort_113 (by decide) ?_
              refine wp_goto (tgt := 118) d_M_sort_114 (by decide) ?_
              refine wp_iret d_M_sort_118 rfl ?_
              exact fin τ 1 Fp.rf (by rw [← hcx, hc9]; rfl)
          · rw [hL1.1] at hc8
            have hx2 := nI_nge hc8 (by omega) (by omega)
            obtain ⟨w1, v1⟩ := hL1.2.2 x hx2
            refine wp_iconst (v := 0) d_M_sort_43 (by decide) ?_
            refine wp_istore4 d_M_sort_44 (by decide) rfl ?_
            suffices H : ∀ y, y ≤ x → ∀ c' : Bool, c' = (c && (List.range y).all (fun b => cmB N (lm x) (lm b))) → WP m_M_sort 46 [.ref 56, .int (nI j), .int (bz (c' = true)), .int (nI x), .int (nI y)] [] τ (Lb N L lm σ (fun M b B z => z = bz (soF N L lm j M b B = true))) from H 0 (Nat.zero_le _) c (by simp)
            refine lp_nat (fun y hy ih2 c' hc' => ?_)
            refine wp_iload d_M_sort_46 rfl ?_
            refine wp_iload_n d_M_sort_48 rfl ?_
            refine wp_icmp_ge (tgt := 103) d_M_sort_49 (by decide) (fun hc9 => ?_) (fun hc9 => ?_)
            · obtain rfl := Nat.le_antisymm hy (nI_ge2 hc9 (by omega) (by omega))
              refine wp_iinc3 d_M_sort_103 (hn_ii1 _) (by decide) rfl ?_
              refine wp_goto (tgt := 35) d_M_sort_106 (by decide) ?_
              rw [nI_1]
              exact ih hx2 _ c' (by rw [hc', hcx, all_s, slB])
            · have hy2 := nI_nge hc9 (by omega) (by omega)
              obtain ⟨w2, v2⟩ := hL1.2.2 y (by omega)
              have b1 := bN_lt (N := N) (a := lm x) (b := lm y) hB.2.1
              have b2 := bN_lt (N := N) (a := lm y) (b := lm x) hB.2.1
              refine wp_iload_n d_M_sort_52 rfl ?_
              refine wp_aload_n d_M_sort_53 rfl ?_
              refine wp_aload_n d_M_sort_54 rfl ?_
              refine wp_getA d_M_sort_55 fl_M_13 rfl rfl rfl ?_
              refine wp_iload_n d_M_sort_58 rfl ?_
              refine wp_iald d_M_sort_59 rfl ?_ ?_
              · exact vp_in_nI (n := x) (by omega) (by decide)
              rw [nI_clamp (show x < 2 ^ 31 by omega), w1]
              refine wp_aload_n d_M_sort_60 rfl ?_
              refine wp_getA d_M_sort_61 fl_M_13 rfl rfl rfl ?_
              refine wp_iload d_M_sort_64 rfl ?_
              refine wp_iald d_M_sort_66 rfl ?_ ?_
              · exact vp_in_nI (n := y) (by omega) (by decide)
              rw [nI_clamp (show y < 2 ^ 31 by omega), w2]
              refine wp_callV2e d_M_sort_67 cv_M_124 rfl rfl rfl ⟨Nat.le_of_ble_eq_true rfl, Nat.le_of_ble_eq_true rfl⟩ (Nat.le_of_ble_eq_true rfl) (Nat.le_of_ble_eq_true rfl) (c_M_both (by omega) (by omega) _ hB1) ?_
              refine wp_aload_n d_M_sort_70 rfl ?_
              refine wp_aload_n d_M_sort_71 rfl ?_
              refine wp_getA d_M_sort_72 fl_M_13 rfl rfl rfl ?_
              refine wp_iload d_M_sort_75 rfl ?_
              refine wp_iald d_M_sort_77 rfl ?_ ?_
              · exact vp_in_nI (n := y) (by omega) (by decide)
              rw [nI_clamp (show y < 2 ^ 31 by omega), w2]
              refine wp_aload_n d_M_sort_78 rfl ?_
              refine wp_getA d_M_sort_79 fl_M_13 rfl rfl rfl ?_
              refine wp_iload_n d_M_sort_82 rfl ?_
              refine wp_iald d_M_sort_83 rfl ?_ ?_
              · exact vp_in_nI (n := x) (by omega) (by decide)
              rw [nI_clamp (show x < 2 ^ 31 by omega), w1]
              refine wp_callV2e d_M_sort_84 cv_M_124 rfl rfl rfl ⟨Nat.le_of_ble_eq_true rfl, Nat.le_of_ble_eq_true rfl⟩ (Nat.le_of_ble_eq_true rfl) (Nat.le_of_ble_eq_true rfl) (c_M_both (by omega) (by omega) _ hB1) ?_
              refine wp_icmp_ne (tgt := 94) d_M_sort_87 (by decide) (fun hc13 => ?_) (fun hc13 => ?_)
              · rw [nI_eq (by omega) (by omega)] at hc13
                refine wp_iconst (v := 0) d_M_sort_94 (by decide) ?_
                refine wp_iand d_M_sort_95 ?_
                rw [bz_and0]
                refine wp_istore2 d_M_sort_96 (by decide) rfl ?_
                refine wp_iinc4 d_M_sort_97 (hn_ii1 _) (by decide) rfl ?_
                refine wp_goto (tgt := 46) d_M_sort_100 (by decide) ?_
                rw [nI_1]
                exact ih2 hy2 false (by rw [all_s, cmB, decide_eq_false hc13]; simp)
              · rw [nI_eq (by omega) (by omega)] at hc13
                refine wp_iconst (v := 1) d_M_sort_90 (by decide) ?_
                refine wp_goto (tgt := 95) d_M_sort_91 (by decide) ?_
                refine wp_iand d_M_sort_95 ?_
                rw [bz_and1]
                refine wp_istore2 d_M_sort_96 (by decide) rfl ?_
                refine wp_iinc4 d_M_sort_97 (hn_ii1 _) (by decide) rfl ?_
                refine wp_goto (tgt := 46) d_M_sort_100 (by decide) ?_
                rw [nI_1]
                exact ih2 hy2 c' (by rw [all_s, cmB, decide_eq_true hc13, Bool.and_true, hc'])
      · exact absurd hc2 (by decide)
  · exact absurd ⟨nI_pos' (by omega), nI_le (b := 6) hj (by decide)⟩ (bz_0.mp hc)
