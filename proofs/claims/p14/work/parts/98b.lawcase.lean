/-! this law: its cases (by program) -/
set_option maxHeartbeats 1000000 in
theorem law_c0 {L i : Nat} {xs : Nat → Int32} {σ : Hp} {a : Sx} (hL : L ≤ 2560) (hi : i + 5 ≤ L) (hX : XS σ a) (hM : MS σ a) (hB : CB σ i) (K : ∀ τ b, XS τ b → MS τ b → CB τ (i + 1) → LW L xs 867 [.ref 81, .ref 0, .ref 56, .int (nI i)] [] τ) : LW L xs 156 [.ref 81, .ref 0, .ref 56, .int (nI i)] [] σ := by
  refine lp_aload_n d_Law_156 rfl ?_
  refine lp_aload_n d_Law_157 rfl ?_
  refine lp_iload_n d_Law_158 rfl ?_
  refine lp_iconst (v := nI 1) d_Law_159 (by decide) ?_
  refine lp_iadd d_Law_160 ?_
  refine lp_sld d_Law_161 (law_in hL hi (j := 1) (by decide)) ?_
  refine lp_call (as := [.int (xs (nI i + nI 1).toNatClampNeg)]) (st := []) d_Law_162 cl_13 rfl rfl rfl ⟨Nat.le_of_ble_eq_true rfl, Nat.le_of_ble_eq_true rfl⟩ (Nat.le_of_ble_eq_true rfl) (Nat.le_of_ble_eq_true rfl) (x_points (xs (nI i + nI 1).toNatClampNeg) hX (hB.up (by omega))) rfl (fun v1 τ1 h1 => ?_)
  obtain ⟨⟨z1, rfl, hz1⟩, hX1, hF1⟩ := h1
  have hM1 := hM.mv hF1
  show LW L xs 165 _ [.int z1] _
  refine lp_pop d_Law_165 rfl ?_
  refine lp_aload_n d_Law_166 rfl ?_
  refine lp_aload_n d_Law_167 rfl ?_
  refine lp_iload_n d_Law_168 rfl ?_
  refine lp_iconst (v := nI 1) d_Law_169 (by decide) ?_
  refine lp_iadd d_Law_170 ?_
  refine lp_sld d_Law_171 (law_in hL hi (j := 1) (by decide)) ?_
  refine lp_call (as := [.int (xs (nI i + nI 1).toNatClampNeg)]) (st := []) d_Law_172 cl_17 rfl rfl rfl ⟨Nat.le_of_ble_eq_true rfl, Nat.le_of_ble_eq_true rfl⟩ (Nat.le_of_ble_eq_true rfl) (Nat.le_of_ble_eq_true rfl) (m_points (xs (nI i + nI 1).toNatClampNeg) hM1) rfl (fun v2 τ2 h2 => ?_)
  obtain ⟨⟨z2, rfl, hz2⟩, hM2, hF2⟩ := h2
  show LW L xs 175 _ [.int z2] _
  refine lp_pop d_Law_175 rfl ?_
  exact lp_goto d_Law_176 (by decide) (K _ _ (hX1.mv hF2) hM2 ((hF1.cb hB).mv hF2))
set_option maxHeartbeats 1000000 in
theorem law_c1 {L i : Nat} {xs : Nat → Int32} {σ : Hp} {a : Sx} (hL : L ≤ 2560) (hi : i + 5 ≤ L) (hX : XS σ a) (hM : MS σ a) (hB : CB σ i) (K : ∀ τ b, XS τ b → MS τ b → CB τ (i + 1) → LW L xs 867 [.ref 81, .ref 0, .ref 56, .int (nI i)] [] τ) : LW L xs 179 [.ref 81, .ref 0, .ref 56, .int (nI i)] [] σ := by
  refine lp_aload_n d_Law_179 rfl ?_
  refine lp_aload_n d_Law_180 rfl ?_
  refine lp_iload_n d_Law_181 rfl ?_
  refine lp_iconst (v := nI 1) d_Law_182 (by decide) ?_
  refine lp_iadd d_Law_183 ?_
  refine lp_sld d_Law_184 (law_in hL hi (j := 1) (by decide)) ?_
  refine lp_call (as := [.int (xs (nI i + nI 1).toNatClampNeg)]) (st := []) d_Law_185 cl_18 rfl rfl rfl ⟨Nat.le_of_ble_eq_true rfl, Nat.le_of_ble_eq_true rfl⟩ (Nat.le_of_ble_eq_true rfl) (Nat.le_of_ble_eq_true rfl) (x_letter (xs (nI i + nI 1).toNatClampNeg) hX (hB.up (by omega))) rfl (fun v1 τ1 h1 => ?_)
  obtain ⟨⟨z1, rfl, hz1⟩, hX1, hF1⟩ := h1
  have hM1 := hM.mv hF1
  show LW L xs 188 _ [.int z1] _
  refine lp_pop d_Law_188 rfl ?_
  refine lp_aload_n d_Law_189 rfl ?_
  refine lp_aload_n d_Law_190 rfl ?_
  refine lp_iload_n d_Law_191 rfl ?_
  refine lp_iconst (v := nI 1) d_Law_192 (by decide) ?_
  refine lp_iadd d_Law_193 ?_
  refine lp_sld d_Law_194 (law_in hL hi (j := 1) (by decide)) ?_
  refine lp_call (as := [.int (xs (nI i + nI 1).toNatClampNeg)]) (st := []) d_Law_195 cl_21 rfl rfl rfl ⟨Nat.le_of_ble_eq_true rfl, Nat.le_of_ble_eq_true rfl⟩ (Nat.le_of_ble_eq_true rfl) (Nat.le_of_ble_eq_true rfl) (m_letter (xs (nI i + nI 1).toNatClampNeg) hM1) rfl (fun v2 τ2 h2 => ?_)
  obtain ⟨⟨z2, rfl, hz2⟩, hM2, hF2⟩ := h2
  show LW L xs 198 _ [.int z2] _
  refine lp_pop d_Law_198 rfl ?_
  exact lp_goto d_Law_199 (by decide) (K _ _ (hX1.mv hF2) hM2 ((hF1.cb hB).mv hF2))
set_option maxHeartbeats 1000000 in
theorem law_c2 {L i : Nat} {xs : Nat → Int32} {σ : Hp} {a : Sx} (hL : L ≤ 2560) (hi : i + 5 ≤ L) (hX : XS σ a) (hM : MS σ a) (hB : CB σ i) (K : ∀ τ b, XS τ b → MS τ b → CB τ (i + 1) → LW L xs 867 [.ref 81, .ref 0, .ref 56, .int (nI i)] [] τ) : LW L xs 202 [.ref 81, .ref 0, .ref 56, .int (nI i)] [] σ := by
  refine lp_aload_n d_Law_202 rfl ?_
  refine lp_call (as := []) (st := []) d_Law_203 cl_22 rfl rfl rfl ⟨Nat.le_of_ble_eq_true rfl, Nat.le_of_ble_eq_true rfl⟩ (Nat.le_of_ble_eq_true rfl) (Nat.le_of_ble_eq_true rfl) (x_drop hX (hB.up (by omega))) rfl (fun v1 τ1 h1 => ?_)
  obtain ⟨⟨z1, rfl, hz1⟩, hX1, hF1⟩ := h1
  have hM1 := hM.mv hF1
  show LW L xs 206 _ [.int z1] _
  refine lp_pop d_Law_206 rfl ?_
  refine lp_aload_n d_Law_207 rfl ?_
  refine lp_call (as := []) (st := []) d_Law_208 cl_26 rfl rfl rfl ⟨Nat.le_of_ble_eq_true rfl, Nat.le_of_ble_eq_true rfl⟩ (Nat.le_of_ble_eq_true rfl) (Nat.le_of_ble_eq_true rfl) (m_drop hM1) rfl (fun v2 τ2 h2 => ?_)
  obtain ⟨⟨z2, rfl, hz2⟩, hM2, hF2⟩ := h2
  show LW L xs 211 _ [.int z2] _
  refine lp_pop d_Law_211 rfl ?_
  exact lp_goto d_Law_212 (by decide) (K _ _ (hX1.mv hF2) hM2 ((hF1.cb hB).mv hF2))
set_option maxHeartbeats 1000000 in
theorem law_c3 {L i : Nat} {xs : Nat → Int32} {σ : Hp} {a : Sx} (hL : L ≤ 2560) (hi : i + 5 ≤ L) (hX : XS σ a) (hM : MS σ a) (hB : CB σ i) (K : ∀ τ b, XS τ b → MS τ b → CB τ (i + 1) → LW L xs 867 [.ref 81, .ref 0, .ref 56, .int (nI i)] [] τ) : LW L xs 215 [.ref 81, .ref 0, .ref 56, .int (nI i)] [] σ := by
  refine lp_aload_n d_Law_215 rfl ?_
  refine lp_aload_n d_Law_216 rfl ?_
  refine lp_iload_n d_Law_217 rfl ?_
  refine lp_iconst (v := nI 1) d_Law_218 (by decide) ?_
  refine lp_iadd d_Law_219 ?_
  refine lp_sld d_Law_220 (law_in hL hi (j := 1) (by decide)) ?_
  refine lp_call (as := [.int (xs (nI i + nI 1).toNatClampNeg)]) (st := []) d_Law_221 cl_27 rfl rfl rfl ⟨Nat.le_of_ble_eq_true rfl, Nat.le_of_ble_eq_true rfl⟩ (Nat.le_of_ble_eq_true rfl) (Nat.le_of_ble_eq_true rfl) (xv_elements (xs (nI i + nI 1).toNatClampNeg) hX) rfl (fun v1 τ1 h1 => ?_)
  obtain ⟨⟨z1, rfl, hz1⟩, hX1, hF1⟩ := h1
  have hM1 := hM.mv hF1
  show LW L xs 224 _ [.int z1] _
  refine lp_pop d_Law_224 rfl ?_
  refine lp_aload_n d_Law_225 rfl ?_
  refine lp_aload_n d_Law_226 rfl ?_
  refine lp_iload_n d_Law_227 rfl ?_
  refine lp_iconst (v := nI 1) d_Law_228 (by decide) ?_
  refine lp_iadd d_Law_229 ?_
  refine lp_sld d_Law_230 (law_in hL hi (j := 1) (by decide)) ?_
  refine lp_call (as := [.int (xs (nI i + nI 1).toNatClampNeg)]) (st := []) d_Law_231 cl_30 rfl rfl rfl ⟨Nat.le_of_ble_eq_true rfl, Nat.le_of_ble_eq_true rfl⟩ (Nat.le_of_ble_eq_true rfl) (Nat.le_of_ble_eq_true rfl) (m_elements (xs (nI i + nI 1).toNatClampNeg) hM1) rfl (fun v2 τ2 h2 => ?_)
  obtain ⟨⟨z2, rfl, hz2⟩, hM2, hF2⟩ := h2
  show LW L xs 234 _ [.int z2] _
  refine lp_pop d_Law_234 rfl ?_
  exact lp_goto d_Law_235 (by decide) (K _ _ (hX1.mv hF2) hM2 ((hF1.cb hB).mv hF2))
set_option maxHeartbeats 1000000 in
theorem law_c4 {L i : Nat} {xs : Nat → Int32} {σ : Hp} {a : Sx} (hL : L ≤ 2560) (hi : i + 5 ≤ L) (hX : XS σ a) (hM : MS σ a) (hB : CB σ i) (K : ∀ τ b, XS τ b → MS τ b → CB τ (i + 1) → LW L xs 867 [.ref 81, .ref 0, .ref 56, .int (nI i)] [] τ) : LW L xs 238 [.ref 81, .ref 0, .ref 56, .int (nI i)] [] σ := by
  refine lp_aload_n d_Law_238 rfl ?_
  refine lp_aload_n d_Law_239 rfl ?_
  refine lp_iload_n d_Law_240 rfl ?_
  refine lp_iconst (v := nI 1) d_Law_241 (by decide) ?_
  refine lp_iadd d_Law_242 ?_
  refine lp_sld d_Law_243 (law_in hL hi (j := 1) (by decide)) ?_
  refine lp_aload_n d_Law_244 rfl ?_
  refine lp_iload_n d_Law_245 rfl ?_
  refine lp_iconst (v := nI 2) d_Law_246 (by decide) ?_
  refine lp_iadd d_Law_247 ?_
  refine lp_sld d_Law_248 (law_in hL hi (j := 2) (by decide)) ?_
  refine lp_call (as := [.int (xs (nI i + nI 1).toNatClampNeg), .int (xs (nI i + nI 2).toNatClampNeg)]) (st := []) d_Law_249 cl_31 rfl rfl rfl ⟨Nat.le_of_ble_eq_true rfl, Nat.le_of_ble_eq_true rfl⟩ (Nat.le_of_ble_eq_true rfl) (Nat.le_of_ble_eq_true rfl) (xv_element (xs (nI i + nI 1).toNatClampNeg) (xs (nI i + nI 2).toNatClampNeg) hX) rfl (fun v1 τ1 h1 => ?_)
  obtain ⟨⟨z1, rfl, hz1⟩, hX1, hF1⟩ := h1
  have hM1 := hM.mv hF1
  show LW L xs 252 _ [.int z1] _
  refine lp_pop d_Law_252 rfl ?_
  refine lp_aload_n d_Law_253 rfl ?_
  refine lp_aload_n d_Law_254 rfl ?_
  refine lp_iload_n d_Law_255 rfl ?_
  refine lp_iconst (v := nI 1) d_Law_256 (by decide) ?_
  refine lp_iadd d_Law_257 ?_
  refine lp_sld d_Law_258 (law_in hL hi (j := 1) (by decide)) ?_
  refine lp_aload_n d_Law_259 rfl ?_
  refine lp_iload_n d_Law_260 rfl ?_
  refine lp_iconst (v := nI 2) d_Law_261 (by decide) ?_
  refine lp_iadd d_Law_262 ?_
  refine lp_sld d_Law_263 (law_in hL hi (j := 2) (by decide)) ?_
  refine lp_call (as := [.int (xs (nI i + nI 1).toNatClampNeg), .int (xs (nI i + nI 2).toNatClampNeg)]) (st := []) d_Law_264 cl_35 rfl rfl rfl ⟨Nat.le_of_ble_eq_true rfl, Nat.le_of_ble_eq_true rfl⟩ (Nat.le_of_ble_eq_true rfl) (Nat.le_of_ble_eq_true rfl) (m_element (xs (nI i + nI 1).toNatClampNeg) (xs (nI i + nI 2).toNatClampNeg) hM1) rfl (fun v2 τ2 h2 => ?_)
  obtain ⟨⟨z2, rfl, hz2⟩, hM2, hF2⟩ := h2
  show LW L xs 267 _ [.int z2] _
  refine lp_pop d_Law_267 rfl ?_
  exact lp_goto d_Law_268 (by decide) (K _ _ (hX1.mv hF2) hM2 ((hF1.cb hB).mv hF2))
set_option maxHeartbeats 1000000 in
theorem law_c5 {L i : Nat} {xs : Nat → Int32} {σ : Hp} {a : Sx} (hL : L ≤ 2560) (hi : i + 5 ≤ L) (hX : XS σ a) (hM : MS σ a) (hB : CB σ i) (K : ∀ τ b, XS τ b → MS τ b → CB τ (i + 1) → LW L xs 867 [.ref 81, .ref 0, .ref 56, .int (nI i)] [] τ) : LW L xs 271 [.ref 81, .ref 0, .ref 56, .int (nI i)] [] σ := by
  refine lp_aload_n d_Law_271 rfl ?_
  refine lp_aload_n d_Law_272 rfl ?_
  refine lp_iload_n d_Law_273 rfl ?_
  refine lp_iconst (v := nI 1) d_Law_274 (by decide) ?_
  refine lp_iadd d_Law_275 ?_
  refine lp_sld d_Law_276 (law_in hL hi (j := 1) (by decide)) ?_
  refine lp_aload_n d_Law_277 rfl ?_
  refine lp_iload_n d_Law_278 rfl ?_
  refine lp_iconst (v := nI 2) d_Law_279 (by decide) ?_
  refine lp_iadd d_Law_280 ?_
  refine lp_sld d_Law_281 (law_in hL hi (j := 2) (by decide)) ?_
  refine lp_call (as := [.int (xs (nI i + nI 1).toNatClampNeg), .int (xs (nI i + nI 2).toNatClampNeg)]) (st := []) d_Law_282 cl_36 rfl rfl rfl ⟨Nat.le_of_ble_eq_true rfl, Nat.le_of_ble_eq_true rfl⟩ (Nat.le_of_ble_eq_true rfl) (Nat.le_of_ble_eq_true rfl) (xv_word (xs (nI i + nI 1).toNatClampNeg) (xs (nI i + nI 2).toNatClampNeg) hX) rfl (fun v1 τ1 h1 => ?_)
  obtain ⟨⟨z1, rfl, hz1⟩, hX1, hF1⟩ := h1
  have hM1 := hM.mv hF1
  show LW L xs 285 _ [.int z1] _
  refine lp_pop d_Law_285 rfl ?_
  refine lp_aload_n d_Law_286 rfl ?_
  refine lp_aload_n d_Law_287 rfl ?_
  refine lp_iload_n d_Law_288 rfl ?_
  refine lp_iconst (v := nI 1) d_Law_289 (by decide) ?_
  refine lp_iadd d_Law_290 ?_
  refine lp_sld d_Law_291 (law_in hL hi (j := 1) (by decide)) ?_
  refine lp_aload_n d_Law_292 rfl ?_
  refine lp_iload_n d_Law_293 rfl ?_
  refine lp_iconst (v := nI 2) d_Law_294 (by decide) ?_
  refine lp_iadd d_Law_295 ?_
  refine lp_sld d_Law_296 (law_in hL hi (j := 2) (by decide)) ?_
  refine lp_call (as := [.int (xs (nI i + nI 1).toNatClampNeg), .int (xs (nI i + nI 2).toNatClampNeg)]) (st := []) d_Law_297 cl_39 rfl rfl rfl ⟨Nat.le_of_ble_eq_true rfl, Nat.le_of_ble_eq_true rfl⟩ (Nat.le_of_ble_eq_true rfl) (Nat.le_of_ble_eq_true rfl) (m_word (xs (nI i + nI 1).toNatClampNeg) (xs (nI i + nI 2).toNatClampNeg) hM1) rfl (fun v2 τ2 h2 => ?_)
  obtain ⟨⟨z2, rfl, hz2⟩, hM2, hF2⟩ := h2
  show LW L xs 300 _ [.int z2] _
  refine lp_pop d_Law_300 rfl ?_
  exact lp_goto d_Law_301 (by decide) (K _ _ (hX1.mv hF2) hM2 ((hF1.cb hB).mv hF2))
set_option maxHeartbeats 1000000 in
theorem law_c6 {L i : Nat} {xs : Nat → Int32} {σ : Hp} {a : Sx} (hL : L ≤ 2560) (hi : i + 5 ≤ L) (hX : XS σ a) (hM : MS σ a) (hB : CB σ i) (K : ∀ τ b, XS τ b → MS τ b → CB τ (i + 1) → LW L xs 867 [.ref 81, .ref 0, .ref 56, .int (nI i)] [] τ) : LW L xs 304 [.ref 81, .ref 0, .ref 56, .int (nI i)] [] σ := by
  refine lp_aload_n d_Law_304 rfl ?_
  refine lp_aload_n d_Law_305 rfl ?_
  refine lp_iload_n d_Law_306 rfl ?_
  refine lp_iconst (v := nI 1) d_Law_307 (by decide) ?_
  refine lp_iadd d_Law_308 ?_
  refine lp_sld d_Law_309 (law_in hL hi (j := 1) (by decide)) ?_
  refine lp_call (as := [.int (xs (nI i + nI 1).toNatClampNeg)]) (st := []) d_Law_310 cl_40 rfl rfl rfl ⟨Nat.le_of_ble_eq_true rfl, Nat.le_of_ble_eq_true rfl⟩ (Nat.le_of_ble_eq_true rfl) (Nat.le_of_ble_eq_true rfl) (xv_find (xs (nI i + nI 1).toNatClampNeg) hX) rfl (fun v1 τ1 h1 => ?_)
  obtain ⟨⟨z1, rfl, hz1⟩, hX1, hF1⟩ := h1
  have hM1 := hM.mv hF1
  show LW L xs 313 _ [.int z1] _
  refine lp_pop d_Law_313 rfl ?_
  refine lp_aload_n d_Law_314 rfl ?_
  refine lp_aload_n d_Law_315 rfl ?_
  refine lp_iload_n d_Law_316 rfl ?_
  refine lp_iconst (v := nI 1) d_Law_317 (by decide) ?_
  refine lp_iadd d_Law_318 ?_
  refine lp_sld d_Law_319 (law_in hL hi (j := 1) (by decide)) ?_
  refine lp_call (as := [.int (xs (nI i + nI 1).toNatClampNeg)]) (st := []) d_Law_320 cl_43 rfl rfl rfl ⟨Nat.le_of_ble_eq_true rfl, Nat.le_of_ble_eq_true rfl⟩ (Nat.le_of_ble_eq_true rfl) (Nat.le_of_ble_eq_true rfl) (m_find (xs (nI i + nI 1).toNatClampNeg) hM1) rfl (fun v2 τ2 h2 => ?_)
  obtain ⟨⟨z2, rfl, hz2⟩, hM2, hF2⟩ := h2
  show LW L xs 323 _ [.int z2] _
  refine lp_pop d_Law_323 rfl ?_
  exact lp_goto d_Law_324 (by decide) (K _ _ (hX1.mv hF2) hM2 ((hF1.cb hB).mv hF2))
set_option maxHeartbeats 1000000 in
theorem law_c7 {L i : Nat} {xs : Nat → Int32} {σ : Hp} {a : Sx} (hL : L ≤ 2560) (hi : i + 5 ≤ L) (hX : XS σ a) (hM : MS σ a) (hB : CB σ i) (K : ∀ τ b, XS τ b → MS τ b → CB τ (i + 1) → LW L xs 867 [.ref 81, .ref 0, .ref 56, .int (nI i)] [] τ) : LW L xs 327 [.ref 81, .ref 0, .ref 56, .int (nI i)] [] σ := by
  refine lp_aload_n d_Law_327 rfl ?_
  refine lp_aload_n d_Law_328 rfl ?_
  refine lp_iload_n d_Law_329 rfl ?_
  refine lp_iconst (v := nI 1) d_Law_330 (by decide) ?_
  refine lp_iadd d_Law_331 ?_
  refine lp_sld d_Law_332 (law_in hL hi (j := 1) (by decide)) ?_
  refine lp_aload_n d_Law_333 rfl ?_
  refine lp_iload_n d_Law_334 rfl ?_
  refine lp_iconst (v := nI 2) d_Law_335 (by decide) ?_
  refine lp_iadd d_Law_336 ?_
  refine lp_sld d_Law_337 (law_in hL hi (j := 2) (by decide)) ?_
  refine lp_call (as := [.int (xs (nI i + nI 1).toNatClampNeg), .int (xs (nI i + nI 2).toNatClampNeg)]) (st := []) d_Law_338 cl_44 rfl rfl rfl ⟨Nat.le_of_ble_eq_true rfl, Nat.le_of_ble_eq_true rfl⟩ (Nat.le_of_ble_eq_true rfl) (Nat.le_of_ble_eq_true rfl) (xv_done (xs (nI i + nI 1).toNatClampNeg) (xs (nI i + nI 2).toNatClampNeg) hX) rfl (fun v1 τ1 h1 => ?_)
  obtain ⟨⟨z1, rfl, hz1⟩, hX1, hF1⟩ := h1
  have hM1 := hM.mv hF1
  show LW L xs 341 _ [.int z1] _
  refine lp_pop d_Law_341 rfl ?_
  refine lp_aload_n d_Law_342 rfl ?_
  refine lp_aload_n d_Law_343 rfl ?_
  refine lp_iload_n d_Law_344 rfl ?_
  refine lp_iconst (v := nI 1) d_Law_345 (by decide) ?_
  refine lp_iadd d_Law_346 ?_
  refine lp_sld d_Law_347 (law_in hL hi (j := 1) (by decide)) ?_
  refine lp_aload_n d_Law_348 rfl ?_
  refine lp_iload_n d_Law_349 rfl ?_
  refine lp_iconst (v := nI 2) d_Law_350 (by decide) ?_
  refine lp_iadd d_Law_351 ?_
  refine lp_sld d_Law_352 (law_in hL hi (j := 2) (by decide)) ?_
  refine lp_call (as := [.int (xs (nI i + nI 1).toNatClampNeg), .int (xs (nI i + nI 2).toNatClampNeg)]) (st := []) d_Law_353 cl_47 rfl rfl rfl ⟨Nat.le_of_ble_eq_true rfl, Nat.le_of_ble_eq_true rfl⟩ (Nat.le_of_ble_eq_true rfl) (Nat.le_of_ble_eq_true rfl) (m_done (xs (nI i + nI 1).toNatClampNeg) (xs (nI i + nI 2).toNatClampNeg) hM1) rfl (fun v2 τ2 h2 => ?_)
  obtain ⟨⟨z2, rfl, hz2⟩, hM2, hF2⟩ := h2
  show LW L xs 356 _ [.int z2] _
  refine lp_pop d_Law_356 rfl ?_
  exact lp_goto d_Law_357 (by decide) (K _ _ (hX1.mv hF2) hM2 ((hF1.cb hB).mv hF2))
set_option maxHeartbeats 1000000 in
theorem law_c8 {L i : Nat} {xs : Nat → Int32} {σ : Hp} {a : Sx} (hL : L ≤ 2560) (hi : i + 5 ≤ L) (hX : XS σ a) (hM : MS σ a) (hB : CB σ i) (K : ∀ τ b, XS τ b → MS τ b → CB τ (i + 1) → LW L xs 867 [.ref 81, .ref 0, .ref 56, .int (nI i)] [] τ) : LW L xs 360 [.ref 81, .ref 0, .ref 56, .int (nI i)] [] σ := by
  refine lp_aload_n d_Law_360 rfl ?_
  refine lp_aload_n d_Law_361 rfl ?_
  refine lp_iload_n d_Law_362 rfl ?_
  refine lp_iconst (v := nI 1) d_Law_363 (by decide) ?_
  refine lp_iadd d_Law_364 ?_
  refine lp_sld d_Law_365 (law_in hL hi (j := 1) (by decide)) ?_
  refine lp_call (as := [.int (xs (nI i + nI 1).toNatClampNeg)]) (st := []) d_Law_366 cl_48 rfl rfl rfl ⟨Nat.le_of_ble_eq_true rfl, Nat.le_of_ble_eq_true rfl⟩ (Nat.le_of_ble_eq_true rfl) (Nat.le_of_ble_eq_true rfl) (xv_boxes (xs (nI i + nI 1).toNatClampNeg) hX) rfl (fun v1 τ1 h1 => ?_)
  obtain ⟨⟨z1, rfl, hz1⟩, hX1, hF1⟩ := h1
  have hM1 := hM.mv hF1
  show LW L xs 369 _ [.int z1] _
  refine lp_pop d_Law_369 rfl ?_
  refine lp_aload_n d_Law_370 rfl ?_
  refine lp_aload_n d_Law_371 rfl ?_
  refine lp_iload_n d_Law_372 rfl ?_
  refine lp_iconst (v := nI 1) d_Law_373 (by decide) ?_
  refine lp_iadd d_Law_374 ?_
  refine lp_sld d_Law_375 (law_in hL hi (j := 1) (by decide)) ?_
  refine lp_call (as := [.int (xs (nI i + nI 1).toNatClampNeg)]) (st := []) d_Law_376 cl_51 rfl rfl rfl ⟨Nat.le_of_ble_eq_true rfl, Nat.le_of_ble_eq_true rfl⟩ (Nat.le_of_ble_eq_true rfl) (Nat.le_of_ble_eq_true rfl) (mb_boxes (xs (nI i + nI 1).toNatClampNeg) hM1) rfl (fun v2 τ2 h2 => ?_)
  obtain ⟨⟨z2, rfl, hz2⟩, hM2, hF2⟩ := h2
  show LW L xs 379 _ [.int z2] _
  refine lp_pop d_Law_379 rfl ?_
  exact lp_goto d_Law_380 (by decide) (K _ _ (hX1.mv hF2) hM2 ((hF1.cb hB).mv hF2))
set_option maxHeartbeats 1000000 in
theorem law_c9 {L i : Nat} {xs : Nat → Int32} {σ : Hp} {a : Sx} (hL : L ≤ 2560) (hi : i + 5 ≤ L) (hX : XS σ a) (hM : MS σ a) (hB : CB σ i) (K : ∀ τ b, XS τ b → MS τ b → CB τ (i + 1) → LW L xs 867 [.ref 81, .ref 0, .ref 56, .int (nI i)] [] τ) : LW L xs 383 [.ref 81, .ref 0, .ref 56, .int (nI i)] [] σ := by
  refine lp_aload_n d_Law_383 rfl ?_
  refine lp_aload_n d_Law_384 rfl ?_
  refine lp_iload_n d_Law_385 rfl ?_
  refine lp_iconst (v := nI 1) d_Law_386 (by decide) ?_
  refine lp_iadd d_Law_387 ?_
  refine lp_sld d_Law_388 (law_in hL hi (j := 1) (by decide)) ?_
  refine lp_aload_n d_Law_389 rfl ?_
  refine lp_iload_n d_Law_390 rfl ?_
  refine lp_iconst (v := nI 2) d_Law_391 (by decide) ?_
  refine lp_iadd d_Law_392 ?_
  refine lp_sld d_Law_393 (law_in hL hi (j := 2) (by decide)) ?_
  refine lp_call (as := [.int (xs (nI i + nI 1).toNatClampNeg), .int (xs (nI i + nI 2).toNatClampNeg)]) (st := []) d_Law_394 cl_52 rfl rfl rfl ⟨Nat.le_of_ble_eq_true rfl, Nat.le_of_ble_eq_true rfl⟩ (Nat.le_of_ble_eq_true rfl) (Nat.le_of_ble_eq_true rfl) (xv_box (xs (nI i + nI 1).toNatClampNeg) (xs (nI i + nI 2).toNatClampNeg) hX) rfl (fun v1 τ1 h1 => ?_)
  obtain ⟨⟨z1, rfl, hz1⟩, hX1, hF1⟩ := h1
  have hM1 := hM.mv hF1
  show LW L xs 397 _ [.int z1] _
  refine lp_pop d_Law_397 rfl ?_
  refine lp_aload_n d_Law_398 rfl ?_
  refine lp_aload_n d_Law_399 rfl ?_
  refine lp_iload_n d_Law_400 rfl ?_
  refine lp_iconst (v := nI 1) d_Law_401 (by decide) ?_
  refine lp_iadd d_Law_402 ?_
  refine lp_sld d_Law_403 (law_in hL hi (j := 1) (by decide)) ?_
  refine lp_aload_n d_Law_404 rfl ?_
  refine lp_iload_n d_Law_405 rfl ?_
  refine lp_iconst (v := nI 2) d_Law_406 (by decide) ?_
  refine lp_iadd d_Law_407 ?_
  refine lp_sld d_Law_408 (law_in hL hi (j := 2) (by decide)) ?_
  refine lp_call (as := [.int (xs (nI i + nI 1).toNatClampNeg), .int (xs (nI i + nI 2).toNatClampNeg)]) (st := []) d_Law_409 cl_55 rfl rfl rfl ⟨Nat.le_of_ble_eq_true rfl, Nat.le_of_ble_eq_true rfl⟩ (Nat.le_of_ble_eq_true rfl) (Nat.le_of_ble_eq_true rfl) (mb_box (xs (nI i + nI 1).toNatClampNeg) (xs (nI i + nI 2).toNatClampNeg) hM1) rfl (fun v2 τ2 h2 => ?_)
  obtain ⟨⟨z2, rfl, hz2⟩, hM2, hF2⟩ := h2
  show LW L xs 412 _ [.int z2] _
  refine lp_pop d_Law_412 rfl ?_
  exact lp_goto d_Law_413 (by decide) (K _ _ (hX1.mv hF2) hM2 ((hF1.cb hB).mv hF2))
set_option maxHeartbeats 1000000 in
theorem law_c10 {L i : Nat} {xs : Nat → Int32} {σ : Hp} {a : Sx} (hL : L ≤ 2560) (hi : i + 5 ≤ L) (hX : XS σ a) (hM : MS σ a) (hB : CB σ i) (K : ∀ τ b, XS τ b → MS τ b → CB τ (i + 1) → LW L xs 867 [.ref 81, .ref 0, .ref 56, .int (nI i)] [] τ) : LW L xs 416 [.ref 81, .ref 0, .ref 56, .int (nI i)] [] σ := by
  refine lp_aload_n d_Law_416 rfl ?_
  refine lp_aload_n d_Law_417 rfl ?_
  refine lp_iload_n d_Law_418 rfl ?_
  refine lp_iconst (v := nI 1) d_Law_419 (by decide) ?_
  refine lp_iadd d_Law_420 ?_
  refine lp_sld d_Law_421 (law_in hL hi (j := 1) (by decide)) ?_
  refine lp_aload_n d_Law_422 rfl ?_
  refine lp_iload_n d_Law_423 rfl ?_
  refine lp_iconst (v := nI 2) d_Law_424 (by decide) ?_
  refine lp_iadd d_Law_425 ?_
  refine lp_sld d_Law_426 (law_in hL hi (j := 2) (by decide)) ?_
  refine lp_call (as := [.int (xs (nI i + nI 1).toNatClampNeg), .int (xs (nI i + nI 2).toNatClampNeg)]) (st := []) d_Law_427 cl_56 rfl rfl rfl ⟨Nat.le_of_ble_eq_true rfl, Nat.le_of_ble_eq_true rfl⟩ (Nat.le_of_ble_eq_true rfl) (Nat.le_of_ble_eq_true rfl) (xv_about (xs (nI i + nI 1).toNatClampNeg) (xs (nI i + nI 2).toNatClampNeg) hX) rfl (fun v1 τ1 h1 => ?_)
  obtain ⟨⟨z1, rfl, hz1⟩, hX1, hF1⟩ := h1
  have hM1 := hM.mv hF1
  show LW L xs 430 _ [.int z1] _
  refine lp_pop d_Law_430 rfl ?_
  refine lp_aload_n d_Law_431 rfl ?_
  refine lp_aload_n d_Law_432 rfl ?_
  refine lp_iload_n d_Law_433 rfl ?_
  refine lp_iconst (v := nI 1) d_Law_434 (by decide) ?_
  refine lp_iadd d_Law_435 ?_
  refine lp_sld d_Law_436 (law_in hL hi (j := 1) (by decide)) ?_
  refine lp_aload_n d_Law_437 rfl ?_
  refine lp_iload_n d_Law_438 rfl ?_
  refine lp_iconst (v := nI 2) d_Law_439 (by decide) ?_
  refine lp_iadd d_Law_440 ?_
  refine lp_sld d_Law_441 (law_in hL hi (j := 2) (by decide)) ?_
  refine lp_call (as := [.int (xs (nI i + nI 1).toNatClampNeg), .int (xs (nI i + nI 2).toNatClampNeg)]) (st := []) d_Law_442 cl_59 rfl rfl rfl ⟨Nat.le_of_ble_eq_true rfl, Nat.le_of_ble_eq_true rfl⟩ (Nat.le_of_ble_eq_true rfl) (Nat.le_of_ble_eq_true rfl) (mb_about (xs (nI i + nI 1).toNatClampNeg) (xs (nI i + nI 2).toNatClampNeg) hM1) rfl (fun v2 τ2 h2 => ?_)
  obtain ⟨⟨z2, rfl, hz2⟩, hM2, hF2⟩ := h2
  show LW L xs 445 _ [.int z2] _
  refine lp_pop d_Law_445 rfl ?_
  exact lp_goto d_Law_446 (by decide) (K _ _ (hX1.mv hF2) hM2 ((hF1.cb hB).mv hF2))
set_option maxHeartbeats 1000000 in
theorem law_c11 {L i : Nat} {xs : Nat → Int32} {σ : Hp} {a : Sx} (hL : L ≤ 2560) (hi : i + 5 ≤ L) (hX : XS σ a) (hM : MS σ a) (hB : CB σ i) (K : ∀ τ b, XS τ b → MS τ b → CB τ (i + 1) → LW L xs 867 [.ref 81, .ref 0, .ref 56, .int (nI i)] [] τ) : LW L xs 449 [.ref 81, .ref 0, .ref 56, .int (nI i)] [] σ := by
  refine lp_aload_n d_Law_449 rfl ?_
  refine lp_aload_n d_Law_450 rfl ?_
  refine lp_iload_n d_Law_451 rfl ?_
  refine lp_iconst (v := nI 1) d_Law_452 (by decide) ?_
  refine lp_iadd d_Law_453 ?_
  refine lp_sld d_Law_454 (law_in hL hi (j := 1) (by decide)) ?_
  refine lp_aload_n d_Law_455 rfl ?_
  refine lp_iload_n d_Law_456 rfl ?_
  refine lp_iconst (v := nI 2) d_Law_457 (by decide) ?_
  refine lp_iadd d_Law_458 ?_
  refine lp_sld d_Law_459 (law_in hL hi (j := 2) (by decide)) ?_
  refine lp_call (as := [.int (xs (nI i + nI 1).toNatClampNeg), .int (xs (nI i + nI 2).toNatClampNeg)]) (st := []) d_Law_460 cl_60 rfl rfl rfl ⟨Nat.le_of_ble_eq_true rfl, Nat.le_of_ble_eq_true rfl⟩ (Nat.le_of_ble_eq_true rfl) (Nat.le_of_ble_eq_true rfl) (xv_below (xs (nI i + nI 1).toNatClampNeg) (xs (nI i + nI 2).toNatClampNeg) hX) rfl (fun v1 τ1 h1 => ?_)
  obtain ⟨⟨z1, rfl, hz1⟩, hX1, hF1⟩ := h1
  have hM1 := hM.mv hF1
  show LW L xs 463 _ [.int z1] _
  refine lp_pop d_Law_463 rfl ?_
  refine lp_aload_n d_Law_464 rfl ?_
  refine lp_aload_n d_Law_465 rfl ?_
  refine lp_iload_n d_Law_466 rfl ?_
  refine lp_iconst (v := nI 1) d_Law_467 (by decide) ?_
  refine lp_iadd d_Law_468 ?_
  refine lp_sld d_Law_469 (law_in hL hi (j := 1) (by decide)) ?_
  refine lp_aload_n d_Law_470 rfl ?_
  refine lp_iload_n d_Law_471 rfl ?_
  refine lp_iconst (v := nI 2) d_Law_472 (by decide) ?_
  refine lp_iadd d_Law_473 ?_
  refine lp_sld d_Law_474 (law_in hL hi (j := 2) (by decide)) ?_
  refine lp_call (as := [.int (xs (nI i + nI 1).toNatClampNeg), .int (xs (nI i + nI 2).toNatClampNeg)]) (st := []) d_Law_475 cl_63 rfl rfl rfl ⟨Nat.le_of_ble_eq_true rfl, Nat.le_of_ble_eq_true rfl⟩ (Nat.le_of_ble_eq_true rfl) (Nat.le_of_ble_eq_true rfl) (mb_below (xs (nI i + nI 1).toNatClampNeg) (xs (nI i + nI 2).toNatClampNeg) hM1) rfl (fun v2 τ2 h2 => ?_)
  obtain ⟨⟨z2, rfl, hz2⟩, hM2, hF2⟩ := h2
  show LW L xs 478 _ [.int z2] _
  refine lp_pop d_Law_478 rfl ?_
  exact lp_goto d_Law_479 (by decide) (K _ _ (hX1.mv hF2) hM2 ((hF1.cb hB).mv hF2))
set_option maxHeartbeats 1000000 in
theorem law_c12 {L i : Nat} {xs : Nat → Int32} {σ : Hp} {a : Sx} (hL : L ≤ 2560) (hi : i + 5 ≤ L) (hX : XS σ a) (hM : MS σ a) (hB : CB σ i) (K : ∀ τ b, XS τ b → MS τ b → CB τ (i + 1) → LW L xs 867 [.ref 81, .ref 0, .ref 56, .int (nI i)] [] τ) : LW L xs 482 [.ref 81, .ref 0, .ref 56, .int (nI i)] [] σ := by
  refine lp_aload_n d_Law_482 rfl ?_
  refine lp_aload_n d_Law_483 rfl ?_
  refine lp_iload_n d_Law_484 rfl ?_
  refine lp_iconst (v := nI 1) d_Law_485 (by decide) ?_
  refine lp_iadd d_Law_486 ?_
  refine lp_sld d_Law_487 (law_in hL hi (j := 1) (by decide)) ?_
  refine lp_call (as := [.int (xs (nI i + nI 1).toNatClampNeg)]) (st := []) d_Law_488 cl_64 rfl rfl rfl ⟨Nat.le_of_ble_eq_true rfl, Nat.le_of_ble_eq_true rfl⟩ (Nat.le_of_ble_eq_true rfl) (Nat.le_of_ble_eq_true rfl) (xv_ideal (xs (nI i + nI 1).toNatClampNeg) hX) rfl (fun v1 τ1 h1 => ?_)
  obtain ⟨⟨z1, rfl, hz1⟩, hX1, hF1⟩ := h1
  have hM1 := hM.mv hF1
  show LW L xs 491 _ [.int z1] _
  refine lp_aload_n d_Law_491 rfl ?_
  refine lp_aload_n d_Law_492 rfl ?_
  refine lp_iload_n d_Law_493 rfl ?_
  refine lp_iconst (v := nI 1) d_Law_494 (by decide) ?_
  refine lp_iadd d_Law_495 ?_
  refine lp_sld d_Law_496 (law_in hL hi (j := 1) (by decide)) ?_
  refine lp_call (as := [.int (xs (nI i + nI 1).toNatClampNeg)]) (st := [.int z1]) d_Law_497 cl_67 rfl rfl rfl ⟨Nat.le_of_ble_eq_true rfl, Nat.le_of_ble_eq_true rfl⟩ (Nat.le_of_ble_eq_true rfl) (Nat.le_of_ble_eq_true rfl) (mb_ideal (xs (nI i + nI 1).toNatClampNeg) hM1) rfl (fun v2 τ2 h2 => ?_)
  obtain ⟨⟨z2, rfl, hz2⟩, hM2, hF2⟩ := h2
  show LW L xs 500 _ [.int z2, .int z1] _
  exact lp_icmp_eq d_Law_500 (by decide) (fun _ => K _ _ (hX1.mv hF2) hM2 ((hF1.cb hB).mv hF2)) (fun q => absurd (un_ideal hz1 hz2) q)
set_option maxHeartbeats 1000000 in
theorem law_c13 {L i : Nat} {xs : Nat → Int32} {σ : Hp} {a : Sx} (hL : L ≤ 2560) (hi : i + 5 ≤ L) (hX : XS σ a) (hM : MS σ a) (hB : CB σ i) (K : ∀ τ b, XS τ b → MS τ b → CB τ (i + 1) → LW L xs 867 [.ref 81, .ref 0, .ref 56, .int (nI i)] [] τ) : LW L xs 505 [.ref 81, .ref 0, .ref 56, .int (nI i)] [] σ := by
  refine lp_aload_n d_Law_505 rfl ?_
  refine lp_aload_n d_Law_506 rfl ?_
  refine lp_iload_n d_Law_507 rfl ?_
  refine lp_iconst (v := nI 1) d_Law_508 (by decide) ?_
  refine lp_iadd d_Law_509 ?_
  refine lp_sld d_Law_510 (law_in hL hi (j := 1) (by decide)) ?_
  refine lp_call (as := [.int (xs (nI i + nI 1).toNatClampNeg)]) (st := []) d_Law_511 cl_68 rfl rfl rfl ⟨Nat.le_of_ble_eq_true rfl, Nat.le_of_ble_eq_true rfl⟩ (Nat.le_of_ble_eq_true rfl) (Nat.le_of_ble_eq_true rfl) (xv_sort (xs (nI i + nI 1).toNatClampNeg) hX) rfl (fun v1 τ1 h1 => ?_)
  obtain ⟨⟨z1, rfl, hz1⟩, hX1, hF1⟩ := h1
  have hM1 := hM.mv hF1
  show LW L xs 514 _ [.int z1] _
  refine lp_pop d_Law_514 rfl ?_
  refine lp_aload_n d_Law_515 rfl ?_
  refine lp_aload_n d_Law_516 rfl ?_
  refine lp_iload_n d_Law_517 rfl ?_
  refine lp_iconst (v := nI 1) d_Law_518 (by decide) ?_
  refine lp_iadd d_Law_519 ?_
  refine lp_sld d_Law_520 (law_in hL hi (j := 1) (by decide)) ?_
  refine lp_call (as := [.int (xs (nI i + nI 1).toNatClampNeg)]) (st := []) d_Law_521 cl_71 rfl rfl rfl ⟨Nat.le_of_ble_eq_true rfl, Nat.le_of_ble_eq_true rfl⟩ (Nat.le_of_ble_eq_true rfl) (Nat.le_of_ble_eq_true rfl) (mb_sort (xs (nI i + nI 1).toNatClampNeg) hM1) rfl (fun v2 τ2 h2 => ?_)
  obtain ⟨⟨z2, rfl, hz2⟩, hM2, hF2⟩ := h2
  show LW L xs 524 _ [.int z2] _
  refine lp_pop d_Law_524 rfl ?_
  exact lp_goto d_Law_525 (by decide) (K _ _ (hX1.mv hF2) hM2 ((hF1.cb hB).mv hF2))
set_option maxHeartbeats 1000000 in
theorem law_c14 {L i : Nat} {xs : Nat → Int32} {σ : Hp} {a : Sx} (hL : L ≤ 2560) (hi : i + 5 ≤ L) (hX : XS σ a) (hM : MS σ a) (hB : CB σ i) (K : ∀ τ b, XS τ b → MS τ b → CB τ (i + 1) → LW L xs 867 [.ref 81, .ref 0, .ref 56, .int (nI i)] [] τ) : LW L xs 528 [.ref 81, .ref 0, .ref 56, .int (nI i)] [] σ := by
  refine lp_aload_n d_Law_528 rfl ?_
  refine lp_aload_n d_Law_529 rfl ?_
  refine lp_iload_n d_Law_530 rfl ?_
  refine lp_iconst (v := nI 1) d_Law_531 (by decide) ?_
  refine lp_iadd d_Law_532 ?_
  refine lp_sld d_Law_533 (law_in hL hi (j := 1) (by decide)) ?_
  refine lp_aload_n d_Law_534 rfl ?_
  refine lp_iload_n d_Law_535 rfl ?_
  refine lp_iconst (v := nI 2) d_Law_536 (by decide) ?_
  refine lp_iadd d_Law_537 ?_
  refine lp_sld d_Law_538 (law_in hL hi (j := 2) (by decide)) ?_
  refine lp_aload_n d_Law_539 rfl ?_
  refine lp_iload_n d_Law_540 rfl ?_
  refine lp_iconst (v := nI 3) d_Law_541 (by decide) ?_
  refine lp_iadd d_Law_542 ?_
  refine lp_sld d_Law_543 (law_in hL hi (j := 3) (by decide)) ?_
  refine lp_aload_n d_Law_544 rfl ?_
  refine lp_iload_n d_Law_545 rfl ?_
  refine lp_iconst (v := nI 4) d_Law_546 (by decide) ?_
  refine lp_iadd d_Law_547 ?_
  refine lp_sld d_Law_548 (law_in hL hi (j := 4) (by decide)) ?_
  refine lp_call (as := [.int (xs (nI i + nI 1).toNatClampNeg), .int (xs (nI i + nI 2).toNatClampNeg), .int (xs (nI i + nI 3).toNatClampNeg), .int (xs (nI i + nI 4).toNatClampNeg)]) (st := []) d_Law_549 cl_72 rfl rfl rfl ⟨Nat.le_of_ble_eq_true rfl, Nat.le_of_ble_eq_true rfl⟩ (Nat.le_of_ble_eq_true rfl) (Nat.le_of_ble_eq_true rfl) (xv_solve (xs (nI i + nI 1).toNatClampNeg) (xs (nI i + nI 2).toNatClampNeg) (xs (nI i + nI 3).toNatClampNeg) (xs (nI i + nI 4).toNatClampNeg) hX) rfl (fun v1 τ1 h1 => ?_)
  obtain ⟨⟨z1, rfl, hz1⟩, hX1, hF1⟩ := h1
  have hM1 := hM.mv hF1
  show LW L xs 552 _ [.int z1] _
  refine lp_pop d_Law_552 rfl ?_
  refine lp_aload_n d_Law_553 rfl ?_
  refine lp_aload_n d_Law_554 rfl ?_
  refine lp_iload_n d_Law_555 rfl ?_
  refine lp_iconst (v := nI 1) d_Law_556 (by decide) ?_
  refine lp_iadd d_Law_557 ?_
  refine lp_sld d_Law_558 (law_in hL hi (j := 1) (by decide)) ?_
  refine lp_aload_n d_Law_559 rfl ?_
  refine lp_iload_n d_Law_560 rfl ?_
  refine lp_iconst (v := nI 2) d_Law_561 (by decide) ?_
  refine lp_iadd d_Law_562 ?_
  refine lp_sld d_Law_563 (law_in hL hi (j := 2) (by decide)) ?_
  refine lp_aload_n d_Law_564 rfl ?_
  refine lp_iload_n d_Law_565 rfl ?_
  refine lp_iconst (v := nI 3) d_Law_566 (by decide) ?_
  refine lp_iadd d_Law_567 ?_
  refine lp_sld d_Law_568 (law_in hL hi (j := 3) (by decide)) ?_
  refine lp_aload_n d_Law_569 rfl ?_
  refine lp_iload_n d_Law_570 rfl ?_
  refine lp_iconst (v := nI 4) d_Law_571 (by decide) ?_
  refine lp_iadd d_Law_572 ?_
  refine lp_sld d_Law_573 (law_in hL hi (j := 4) (by decide)) ?_
  refine lp_call (as := [.int (xs (nI i + nI 1).toNatClampNeg), .int (xs (nI i + nI 2).toNatClampNeg), .int (xs (nI i + nI 3).toNatClampNeg), .int (xs (nI i + nI 4).toNatClampNeg)]) (st := []) d_Law_574 cl_76 rfl rfl rfl ⟨Nat.le_of_ble_eq_true rfl, Nat.le_of_ble_eq_true rfl⟩ (Nat.le_of_ble_eq_true rfl) (Nat.le_of_ble_eq_true rfl) (m_solve (xs (nI i + nI 1).toNatClampNeg) (xs (nI i + nI 2).toNatClampNeg) (xs (nI i + nI 3).toNatClampNeg) (xs (nI i + nI 4).toNatClampNeg) hM1) rfl (fun v2 τ2 h2 => ?_)
  obtain ⟨⟨z2, rfl, hz2⟩, hM2, hF2⟩ := h2
  show LW L xs 577 _ [.int z2] _
  refine lp_pop d_Law_577 rfl ?_
  exact lp_goto d_Law_578 (by decide) (K _ _ (hX1.mv hF2) hM2 ((hF1.cb hB).mv hF2))
set_option maxHeartbeats 1000000 in
theorem law_c15 {L i : Nat} {xs : Nat → Int32} {σ : Hp} {a : Sx} (hL : L ≤ 2560) (hi : i + 5 ≤ L) (hX : XS σ a) (hM : MS σ a) (hB : CB σ i) (K : ∀ τ b, XS τ b → MS τ b → CB τ (i + 1) → LW L xs 867 [.ref 81, .ref 0, .ref 56, .int (nI i)] [] τ) : LW L xs 581 [.ref 81, .ref 0, .ref 56, .int (nI i)] [] σ := by
  refine lp_aload_n d_Law_581 rfl ?_
  refine lp_aload_n d_Law_582 rfl ?_
  refine lp_iload_n d_Law_583 rfl ?_
  refine lp_iconst (v := nI 1) d_Law_584 (by decide) ?_
  refine lp_iadd d_Law_585 ?_
  refine lp_sld d_Law_586 (law_in hL hi (j := 1) (by decide)) ?_
  refine lp_aload_n d_Law_587 rfl ?_
  refine lp_iload_n d_Law_588 rfl ?_
  refine lp_iconst (v := nI 2) d_Law_589 (by decide) ?_
  refine lp_iadd d_Law_590 ?_
  refine lp_sld d_Law_591 (law_in hL hi (j := 2) (by decide)) ?_
  refine lp_call (as := [.int (xs (nI i + nI 1).toNatClampNeg), .int (xs (nI i + nI 2).toNatClampNeg)]) (st := []) d_Law_592 cl_77 rfl rfl rfl ⟨Nat.le_of_ble_eq_true rfl, Nat.le_of_ble_eq_true rfl⟩ (Nat.le_of_ble_eq_true rfl) (Nat.le_of_ble_eq_true rfl) (xv_together (xs (nI i + nI 1).toNatClampNeg) (xs (nI i + nI 2).toNatClampNeg) hX) rfl (fun v1 τ1 h1 => ?_)
  obtain ⟨⟨z1, rfl, hz1⟩, hX1, hF1⟩ := h1
  have hM1 := hM.mv hF1
  show LW L xs 595 _ [.int z1] _
  refine lp_pop d_Law_595 rfl ?_
  refine lp_aload_n d_Law_596 rfl ?_
  refine lp_aload_n d_Law_597 rfl ?_
  refine lp_iload_n d_Law_598 rfl ?_
  refine lp_iconst (v := nI 1) d_Law_599 (by decide) ?_
  refine lp_iadd d_Law_600 ?_
  refine lp_sld d_Law_601 (law_in hL hi (j := 1) (by decide)) ?_
  refine lp_aload_n d_Law_602 rfl ?_
  refine lp_iload_n d_Law_603 rfl ?_
  refine lp_iconst (v := nI 2) d_Law_604 (by decide) ?_
  refine lp_iadd d_Law_605 ?_
  refine lp_sld d_Law_606 (law_in hL hi (j := 2) (by decide)) ?_
  refine lp_call (as := [.int (xs (nI i + nI 1).toNatClampNeg), .int (xs (nI i + nI 2).toNatClampNeg)]) (st := []) d_Law_607 cl_80 rfl rfl rfl ⟨Nat.le_of_ble_eq_true rfl, Nat.le_of_ble_eq_true rfl⟩ (Nat.le_of_ble_eq_true rfl) (Nat.le_of_ble_eq_true rfl) (m_together (xs (nI i + nI 1).toNatClampNeg) (xs (nI i + nI 2).toNatClampNeg) hM1) rfl (fun v2 τ2 h2 => ?_)
  obtain ⟨⟨z2, rfl, hz2⟩, hM2, hF2⟩ := h2
  show LW L xs 610 _ [.int z2] _
  refine lp_pop d_Law_610 rfl ?_
  exact lp_goto d_Law_611 (by decide) (K _ _ (hX1.mv hF2) hM2 ((hF1.cb hB).mv hF2))
set_option maxHeartbeats 1000000 in
theorem law_c16 {L i : Nat} {xs : Nat → Int32} {σ : Hp} {a : Sx} (hL : L ≤ 2560) (hi : i + 5 ≤ L) (hX : XS σ a) (hM : MS σ a) (hB : CB σ i) (K : ∀ τ b, XS τ b → MS τ b → CB τ (i + 1) → LW L xs 867 [.ref 81, .ref 0, .ref 56, .int (nI i)] [] τ) : LW L xs 614 [.ref 81, .ref 0, .ref 56, .int (nI i)] [] σ := by
  refine lp_aload_n d_Law_614 rfl ?_
  refine lp_aload_n d_Law_615 rfl ?_
  refine lp_iload_n d_Law_616 rfl ?_
  refine lp_iconst (v := nI 1) d_Law_617 (by decide) ?_
  refine lp_iadd d_Law_618 ?_
  refine lp_sld d_Law_619 (law_in hL hi (j := 1) (by decide)) ?_
  refine lp_call (as := [.int (xs (nI i + nI 1).toNatClampNeg)]) (st := []) d_Law_620 cl_81 rfl rfl rfl ⟨Nat.le_of_ble_eq_true rfl, Nat.le_of_ble_eq_true rfl⟩ (Nat.le_of_ble_eq_true rfl) (Nat.le_of_ble_eq_true rfl) (xv_lowest (xs (nI i + nI 1).toNatClampNeg) hX) rfl (fun v1 τ1 h1 => ?_)
  obtain ⟨⟨z1, rfl, hz1⟩, hX1, hF1⟩ := h1
  have hM1 := hM.mv hF1
  show LW L xs 623 _ [.int z1] _
  refine lp_pop d_Law_623 rfl ?_
  refine lp_aload_n d_Law_624 rfl ?_
  refine lp_aload_n d_Law_625 rfl ?_
  refine lp_iload_n d_Law_626 rfl ?_
  refine lp_iconst (v := nI 1) d_Law_627 (by decide) ?_
  refine lp_iadd d_Law_628 ?_
  refine lp_sld d_Law_629 (law_in hL hi (j := 1) (by decide)) ?_
  refine lp_call (as := [.int (xs (nI i + nI 1).toNatClampNeg)]) (st := []) d_Law_630 cl_84 rfl rfl rfl ⟨Nat.le_of_ble_eq_true rfl, Nat.le_of_ble_eq_true rfl⟩ (Nat.le_of_ble_eq_true rfl) (Nat.le_of_ble_eq_true rfl) (m_lowest (xs (nI i + nI 1).toNatClampNeg) hM1) rfl (fun v2 τ2 h2 => ?_)
  obtain ⟨⟨z2, rfl, hz2⟩, hM2, hF2⟩ := h2
  show LW L xs 633 _ [.int z2] _
  refine lp_pop d_Law_633 rfl ?_
  exact lp_goto d_Law_634 (by decide) (K _ _ (hX1.mv hF2) hM2 ((hF1.cb hB).mv hF2))
set_option maxHeartbeats 1000000 in
theorem law_c17 {L i : Nat} {xs : Nat → Int32} {σ : Hp} {a : Sx} (hL : L ≤ 2560) (hi : i + 5 ≤ L) (hX : XS σ a) (hM : MS σ a) (hB : CB σ i) (K : ∀ τ b, XS τ b → MS τ b → CB τ (i + 1) → LW L xs 867 [.ref 81, .ref 0, .ref 56, .int (nI i)] [] τ) : LW L xs 637 [.ref 81, .ref 0, .ref 56, .int (nI i)] [] σ := by
  refine lp_aload_n d_Law_637 rfl ?_
  refine lp_call (as := []) (st := []) d_Law_638 cl_85 rfl rfl rfl ⟨Nat.le_of_ble_eq_true rfl, Nat.le_of_ble_eq_true rfl⟩ (Nat.le_of_ble_eq_true rfl) (Nat.le_of_ble_eq_true rfl) (xv_apart hX) rfl (fun v1 τ1 h1 => ?_)
  obtain ⟨⟨z1, rfl, hz1⟩, hX1, hF1⟩ := h1
  have hM1 := hM.mv hF1
  show LW L xs 641 _ [.int z1] _
  refine lp_pop d_Law_641 rfl ?_
  refine lp_aload_n d_Law_642 rfl ?_
  refine lp_call (as := []) (st := []) d_Law_643 cl_88 rfl rfl rfl ⟨Nat.le_of_ble_eq_true rfl, Nat.le_of_ble_eq_true rfl⟩ (Nat.le_of_ble_eq_true rfl) (Nat.le_of_ble_eq_true rfl) (m_apart hM1) rfl (fun v2 τ2 h2 => ?_)
  obtain ⟨⟨z2, rfl, hz2⟩, hM2, hF2⟩ := h2
  show LW L xs 646 _ [.int z2] _
  refine lp_pop d_Law_646 rfl ?_
  exact lp_goto d_Law_647 (by decide) (K _ _ (hX1.mv hF2) hM2 ((hF1.cb hB).mv hF2))
set_option maxHeartbeats 1000000 in
theorem law_c18 {L i : Nat} {xs : Nat → Int32} {σ : Hp} {a : Sx} (hL : L ≤ 2560) (hi : i + 5 ≤ L) (hX : XS σ a) (hM : MS σ a) (hB : CB σ i) (K : ∀ τ b, XS τ b → MS τ b → CB τ (i + 1) → LW L xs 867 [.ref 81, .ref 0, .ref 56, .int (nI i)] [] τ) : LW L xs 650 [.ref 81, .ref 0, .ref 56, .int (nI i)] [] σ := by
  refine lp_aload_n d_Law_650 rfl ?_
  refine lp_aload_n d_Law_651 rfl ?_
  refine lp_iload_n d_Law_652 rfl ?_
  refine lp_iconst (v := nI 1) d_Law_653 (by decide) ?_
  refine lp_iadd d_Law_654 ?_
  refine lp_sld d_Law_655 (law_in hL hi (j := 1) (by decide)) ?_
  refine lp_aload_n d_Law_656 rfl ?_
  refine lp_iload_n d_Law_657 rfl ?_
  refine lp_iconst (v := nI 2) d_Law_658 (by decide) ?_
  refine lp_iadd d_Law_659 ?_
  refine lp_sld d_Law_660 (law_in hL hi (j := 2) (by decide)) ?_
  refine lp_call (as := [.int (xs (nI i + nI 1).toNatClampNeg), .int (xs (nI i + nI 2).toNatClampNeg)]) (st := []) d_Law_661 cl_89 rfl rfl rfl ⟨Nat.le_of_ble_eq_true rfl, Nat.le_of_ble_eq_true rfl⟩ (Nat.le_of_ble_eq_true rfl) (Nat.le_of_ble_eq_true rfl) (xv_cut (xs (nI i + nI 1).toNatClampNeg) (xs (nI i + nI 2).toNatClampNeg) hX) rfl (fun v1 τ1 h1 => ?_)
  obtain ⟨⟨z1, rfl, hz1⟩, hX1, hF1⟩ := h1
  have hM1 := hM.mv hF1
  show LW L xs 664 _ [.int z1] _
  refine lp_pop d_Law_664 rfl ?_
  refine lp_aload_n d_Law_665 rfl ?_
  refine lp_aload_n d_Law_666 rfl ?_
  refine lp_iload_n d_Law_667 rfl ?_
  refine lp_iconst (v := nI 1) d_Law_668 (by decide) ?_
  refine lp_iadd d_Law_669 ?_
  refine lp_sld d_Law_670 (law_in hL hi (j := 1) (by decide)) ?_
  refine lp_aload_n d_Law_671 rfl ?_
  refine lp_iload_n d_Law_672 rfl ?_
  refine lp_iconst (v := nI 2) d_Law_673 (by decide) ?_
  refine lp_iadd d_Law_674 ?_
  refine lp_sld d_Law_675 (law_in hL hi (j := 2) (by decide)) ?_
  refine lp_call (as := [.int (xs (nI i + nI 1).toNatClampNeg), .int (xs (nI i + nI 2).toNatClampNeg)]) (st := []) d_Law_676 cl_92 rfl rfl rfl ⟨Nat.le_of_ble_eq_true rfl, Nat.le_of_ble_eq_true rfl⟩ (Nat.le_of_ble_eq_true rfl) (Nat.le_of_ble_eq_true rfl) (m_cut (xs (nI i + nI 1).toNatClampNeg) (xs (nI i + nI 2).toNatClampNeg) hM1) rfl (fun v2 τ2 h2 => ?_)
  obtain ⟨⟨z2, rfl, hz2⟩, hM2, hF2⟩ := h2
  show LW L xs 679 _ [.int z2] _
  refine lp_pop d_Law_679 rfl ?_
  exact lp_goto d_Law_680 (by decide) (K _ _ (hX1.mv hF2) hM2 ((hF1.cb hB).mv hF2))
set_option maxHeartbeats 1000000 in
theorem law_c19 {L i : Nat} {xs : Nat → Int32} {σ : Hp} {a : Sx} (hL : L ≤ 2560) (hi : i + 5 ≤ L) (hX : XS σ a) (hM : MS σ a) (hB : CB σ i) (K : ∀ τ b, XS τ b → MS τ b → CB τ (i + 1) → LW L xs 867 [.ref 81, .ref 0, .ref 56, .int (nI i)] [] τ) : LW L xs 683 [.ref 81, .ref 0, .ref 56, .int (nI i)] [] σ := by
  refine lp_aload_n d_Law_683 rfl ?_
  refine lp_call (as := []) (st := []) d_Law_684 cl_93 rfl rfl rfl ⟨Nat.le_of_ble_eq_true rfl, Nat.le_of_ble_eq_true rfl⟩ (Nat.le_of_ble_eq_true rfl) (Nat.le_of_ble_eq_true rfl) (xv_cuts hX) rfl (fun v1 τ1 h1 => ?_)
  obtain ⟨⟨z1, rfl, hz1⟩, hX1, hF1⟩ := h1
  have hM1 := hM.mv hF1
  show LW L xs 687 _ [.int z1] _
  refine lp_pop d_Law_687 rfl ?_
  refine lp_aload_n d_Law_688 rfl ?_
  refine lp_call (as := []) (st := []) d_Law_689 cl_96 rfl rfl rfl ⟨Nat.le_of_ble_eq_true rfl, Nat.le_of_ble_eq_true rfl⟩ (Nat.le_of_ble_eq_true rfl) (Nat.le_of_ble_eq_true rfl) (m_cuts hM1) rfl (fun v2 τ2 h2 => ?_)
  obtain ⟨⟨z2, rfl, hz2⟩, hM2, hF2⟩ := h2
  show LW L xs 692 _ [.int z2] _
  refine lp_pop d_Law_692 rfl ?_
  exact lp_goto d_Law_693 (by decide) (K _ _ (hX1.mv hF2) hM2 ((hF1.cb hB).mv hF2))
set_option maxHeartbeats 1000000 in
theorem law_c20 {L i : Nat} {xs : Nat → Int32} {σ : Hp} {a : Sx} (hL : L ≤ 2560) (hi : i + 5 ≤ L) (hX : XS σ a) (hM : MS σ a) (hB : CB σ i) (K : ∀ τ b, XS τ b → MS τ b → CB τ (i + 1) → LW L xs 867 [.ref 81, .ref 0, .ref 56, .int (nI i)] [] τ) : LW L xs 696 [.ref 81, .ref 0, .ref 56, .int (nI i)] [] σ := by
  refine lp_aload_n d_Law_696 rfl ?_
  refine lp_call (as := []) (st := []) d_Law_697 cl_97 rfl rfl rfl ⟨Nat.le_of_ble_eq_true rfl, Nat.le_of_ble_eq_true rfl⟩ (Nat.le_of_ble_eq_true rfl) (Nat.le_of_ble_eq_true rfl) (xv_twists hX) rfl (fun v1 τ1 h1 => ?_)
  obtain ⟨⟨z1, rfl, hz1⟩, hX1, hF1⟩ := h1
  have hM1 := hM.mv hF1
  show LW L xs 700 _ [.int z1] _
  refine lp_pop d_Law_700 rfl ?_
  refine lp_aload_n d_Law_701 rfl ?_
  refine lp_call (as := []) (st := []) d_Law_702 cl_100 rfl rfl rfl ⟨Nat.le_of_ble_eq_true rfl, Nat.le_of_ble_eq_true rfl⟩ (Nat.le_of_ble_eq_true rfl) (Nat.le_of_ble_eq_true rfl) (m_twists hM1) rfl (fun v2 τ2 h2 => ?_)
  obtain ⟨⟨z2, rfl, hz2⟩, hM2, hF2⟩ := h2
  show LW L xs 705 _ [.int z2] _
  refine lp_pop d_Law_705 rfl ?_
  exact lp_goto d_Law_706 (by decide) (K _ _ (hX1.mv hF2) hM2 ((hF1.cb hB).mv hF2))
set_option maxHeartbeats 1000000 in
theorem law_c21 {L i : Nat} {xs : Nat → Int32} {σ : Hp} {a : Sx} (hL : L ≤ 2560) (hi : i + 5 ≤ L) (hX : XS σ a) (hM : MS σ a) (hB : CB σ i) (K : ∀ τ b, XS τ b → MS τ b → CB τ (i + 1) → LW L xs 867 [.ref 81, .ref 0, .ref 56, .int (nI i)] [] τ) : LW L xs 709 [.ref 81, .ref 0, .ref 56, .int (nI i)] [] σ := by
  refine lp_aload_n d_Law_709 rfl ?_
  refine lp_aload_n d_Law_710 rfl ?_
  refine lp_iload_n d_Law_711 rfl ?_
  refine lp_iconst (v := nI 1) d_Law_712 (by decide) ?_
  refine lp_iadd d_Law_713 ?_
  refine lp_sld d_Law_714 (law_in hL hi (j := 1) (by decide)) ?_
  refine lp_aload_n d_Law_715 rfl ?_
  refine lp_iload_n d_Law_716 rfl ?_
  refine lp_iconst (v := nI 2) d_Law_717 (by decide) ?_
  refine lp_iadd d_Law_718 ?_
  refine lp_sld d_Law_719 (law_in hL hi (j := 2) (by decide)) ?_
  refine lp_call (as := [.int (xs (nI i + nI 1).toNatClampNeg), .int (xs (nI i + nI 2).toNatClampNeg)]) (st := []) d_Law_720 cl_101 rfl rfl rfl ⟨Nat.le_of_ble_eq_true rfl, Nat.le_of_ble_eq_true rfl⟩ (Nat.le_of_ble_eq_true rfl) (Nat.le_of_ble_eq_true rfl) (x_set (xs (nI i + nI 1).toNatClampNeg) (xs (nI i + nI 2).toNatClampNeg) hX) rfl (fun v1 τ1 h1 => ?_)
  obtain ⟨⟨z1, rfl, hz1⟩, hX1, hF1⟩ := h1
  have hM1 := hM.mv hF1
  show LW L xs 723 _ [.int z1] _
  refine lp_pop d_Law_723 rfl ?_
  refine lp_aload_n d_Law_724 rfl ?_
  refine lp_aload_n d_Law_725 rfl ?_
  refine lp_iload_n d_Law_726 rfl ?_
  refine lp_iconst (v := nI 1) d_Law_727 (by decide) ?_
  refine lp_iadd d_Law_728 ?_
  refine lp_sld d_Law_729 (law_in hL hi (j := 1) (by decide)) ?_
  refine lp_aload_n d_Law_730 rfl ?_
  refine lp_iload_n d_Law_731 rfl ?_
  refine lp_iconst (v := nI 2) d_Law_732 (by decide) ?_
  refine lp_iadd d_Law_733 ?_
  refine lp_sld d_Law_734 (law_in hL hi (j := 2) (by decide)) ?_
  refine lp_call (as := [.int (xs (nI i + nI 1).toNatClampNeg), .int (xs (nI i + nI 2).toNatClampNeg)]) (st := []) d_Law_735 cl_104 rfl rfl rfl ⟨Nat.le_of_ble_eq_true rfl, Nat.le_of_ble_eq_true rfl⟩ (Nat.le_of_ble_eq_true rfl) (Nat.le_of_ble_eq_true rfl) (m_set (xs (nI i + nI 1).toNatClampNeg) (xs (nI i + nI 2).toNatClampNeg) hM1) rfl (fun v2 τ2 h2 => ?_)
  obtain ⟨⟨z2, rfl, hz2⟩, hM2, hF2⟩ := h2
  show LW L xs 738 _ [.int z2] _
  refine lp_pop d_Law_738 rfl ?_
  exact lp_goto d_Law_739 (by decide) (K _ _ (hX1.mv hF2) hM2 ((hF1.cb hB).mv hF2))
set_option maxHeartbeats 1000000 in
theorem law_c22 {L i : Nat} {xs : Nat → Int32} {σ : Hp} {a : Sx} (hL : L ≤ 2560) (hi : i + 5 ≤ L) (hX : XS σ a) (hM : MS σ a) (hB : CB σ i) (K : ∀ τ b, XS τ b → MS τ b → CB τ (i + 1) → LW L xs 867 [.ref 81, .ref 0, .ref 56, .int (nI i)] [] τ) : LW L xs 742 [.ref 81, .ref 0, .ref 56, .int (nI i)] [] σ := by
  refine lp_aload_n d_Law_742 rfl ?_
  refine lp_aload_n d_Law_743 rfl ?_
  refine lp_iload_n d_Law_744 rfl ?_
  refine lp_iconst (v := nI 1) d_Law_745 (by decide) ?_
  refine lp_iadd d_Law_746 ?_
  refine lp_sld d_Law_747 (law_in hL hi (j := 1) (by decide)) ?_
  refine lp_call (as := [.int (xs (nI i + nI 1).toNatClampNeg)]) (st := []) d_Law_748 cl_105 rfl rfl rfl ⟨Nat.le_of_ble_eq_true rfl, Nat.le_of_ble_eq_true rfl⟩ (Nat.le_of_ble_eq_true rfl) (Nat.le_of_ble_eq_true rfl) (xv_taken (xs (nI i + nI 1).toNatClampNeg) hX) rfl (fun v1 τ1 h1 => ?_)
  obtain ⟨⟨z1, rfl, hz1⟩, hX1, hF1⟩ := h1
  have hM1 := hM.mv hF1
  show LW L xs 751 _ [.int z1] _
  refine lp_pop d_Law_751 rfl ?_
  refine lp_aload_n d_Law_752 rfl ?_
  refine lp_aload_n d_Law_753 rfl ?_
  refine lp_iload_n d_Law_754 rfl ?_
  refine lp_iconst (v := nI 1) d_Law_755 (by decide) ?_
  refine lp_iadd d_Law_756 ?_
  refine lp_sld d_Law_757 (law_in hL hi (j := 1) (by decide)) ?_
  refine lp_call (as := [.int (xs (nI i + nI 1).toNatClampNeg)]) (st := []) d_Law_758 cl_108 rfl rfl rfl ⟨Nat.le_of_ble_eq_true rfl, Nat.le_of_ble_eq_true rfl⟩ (Nat.le_of_ble_eq_true rfl) (Nat.le_of_ble_eq_true rfl) (m_taken (xs (nI i + nI 1).toNatClampNeg) hM1) rfl (fun v2 τ2 h2 => ?_)
  obtain ⟨⟨z2, rfl, hz2⟩, hM2, hF2⟩ := h2
  show LW L xs 761 _ [.int z2] _
  refine lp_pop d_Law_761 rfl ?_
  exact lp_goto d_Law_762 (by decide) (K _ _ (hX1.mv hF2) hM2 ((hF1.cb hB).mv hF2))
set_option maxHeartbeats 1000000 in
theorem law_c23 {L i : Nat} {xs : Nat → Int32} {σ : Hp} {a : Sx} (hL : L ≤ 2560) (hi : i + 5 ≤ L) (hX : XS σ a) (hM : MS σ a) (hB : CB σ i) (K : ∀ τ b, XS τ b → MS τ b → CB τ (i + 1) → LW L xs 867 [.ref 81, .ref 0, .ref 56, .int (nI i)] [] τ) : LW L xs 765 [.ref 81, .ref 0, .ref 56, .int (nI i)] [] σ := by
  refine lp_aload_n d_Law_765 rfl ?_
  refine lp_call (as := []) (st := []) d_Law_766 cl_109 rfl rfl rfl ⟨Nat.le_of_ble_eq_true rfl, Nat.le_of_ble_eq_true rfl⟩ (Nat.le_of_ble_eq_true rfl) (Nat.le_of_ble_eq_true rfl) (xv_least hX) rfl (fun v1 τ1 h1 => ?_)
  obtain ⟨⟨z1, rfl, hz1⟩, hX1, hF1⟩ := h1
  have hM1 := hM.mv hF1
  show LW L xs 769 _ [.int z1] _
  refine lp_pop d_Law_769 rfl ?_
  refine lp_aload_n d_Law_770 rfl ?_
  refine lp_call (as := []) (st := []) d_Law_771 cl_112 rfl rfl rfl ⟨Nat.le_of_ble_eq_true rfl, Nat.le_of_ble_eq_true rfl⟩ (Nat.le_of_ble_eq_true rfl) (Nat.le_of_ble_eq_true rfl) (m_least hM1) rfl (fun v2 τ2 h2 => ?_)
  obtain ⟨⟨z2, rfl, hz2⟩, hM2, hF2⟩ := h2
  show LW L xs 774 _ [.int z2] _
  refine lp_pop d_Law_774 rfl ?_
  exact lp_goto d_Law_775 (by decide) (K _ _ (hX1.mv hF2) hM2 ((hF1.cb hB).mv hF2))
set_option maxHeartbeats 1000000 in
theorem law_c24 {L i : Nat} {xs : Nat → Int32} {σ : Hp} {a : Sx} (hL : L ≤ 2560) (hi : i + 5 ≤ L) (hX : XS σ a) (hM : MS σ a) (hB : CB σ i) (K : ∀ τ b, XS τ b → MS τ b → CB τ (i + 1) → LW L xs 867 [.ref 81, .ref 0, .ref 56, .int (nI i)] [] τ) : LW L xs 778 [.ref 81, .ref 0, .ref 56, .int (nI i)] [] σ := by
  refine lp_aload_n d_Law_778 rfl ?_
  refine lp_aload_n d_Law_779 rfl ?_
  refine lp_iload_n d_Law_780 rfl ?_
  refine lp_iconst (v := nI 1) d_Law_781 (by decide) ?_
  refine lp_iadd d_Law_782 ?_
  refine lp_sld d_Law_783 (law_in hL hi (j := 1) (by decide)) ?_
  refine lp_aload_n d_Law_784 rfl ?_
  refine lp_iload_n d_Law_785 rfl ?_
  refine lp_iconst (v := nI 2) d_Law_786 (by decide) ?_
  refine lp_iadd d_Law_787 ?_
  refine lp_sld d_Law_788 (law_in hL hi (j := 2) (by decide)) ?_
  refine lp_aload_n d_Law_789 rfl ?_
  refine lp_iload_n d_Law_790 rfl ?_
  refine lp_iconst (v := nI 3) d_Law_791 (by decide) ?_
  refine lp_iadd d_Law_792 ?_
  refine lp_sld d_Law_793 (law_in hL hi (j := 3) (by decide)) ?_
  refine lp_call (as := [.int (xs (nI i + nI 1).toNatClampNeg), .int (xs (nI i + nI 2).toNatClampNeg), .int (xs (nI i + nI 3).toNatClampNeg)]) (st := []) d_Law_794 cl_113 rfl rfl rfl ⟨Nat.le_of_ble_eq_true rfl, Nat.le_of_ble_eq_true rfl⟩ (Nat.le_of_ble_eq_true rfl) (Nat.le_of_ble_eq_true rfl) (xv_parting (xs (nI i + nI 1).toNatClampNeg) (xs (nI i + nI 2).toNatClampNeg) (xs (nI i + nI 3).toNatClampNeg) hX) rfl (fun v1 τ1 h1 => ?_)
  obtain ⟨⟨z1, rfl, hz1⟩, hX1, hF1⟩ := h1
  have hM1 := hM.mv hF1
  show LW L xs 797 _ [.int z1] _
  refine lp_pop d_Law_797 rfl ?_
  refine lp_aload_n d_Law_798 rfl ?_
  refine lp_aload_n d_Law_799 rfl ?_
  refine lp_iload_n d_Law_800 rfl ?_
  refine lp_iconst (v := nI 1) d_Law_801 (by decide) ?_
  refine lp_iadd d_Law_802 ?_
  refine lp_sld d_Law_803 (law_in hL hi (j := 1) (by decide)) ?_
  refine lp_aload_n d_Law_804 rfl ?_
  refine lp_iload_n d_Law_805 rfl ?_
  refine lp_iconst (v := nI 2) d_Law_806 (by decide) ?_
  refine lp_iadd d_Law_807 ?_
  refine lp_sld d_Law_808 (law_in hL hi (j := 2) (by decide)) ?_
  refine lp_aload_n d_Law_809 rfl ?_
  refine lp_iload_n d_Law_810 rfl ?_
  refine lp_iconst (v := nI 3) d_Law_811 (by decide) ?_
  refine lp_iadd d_Law_812 ?_
  refine lp_sld d_Law_813 (law_in hL hi (j := 3) (by decide)) ?_
  refine lp_call (as := [.int (xs (nI i + nI 1).toNatClampNeg), .int (xs (nI i + nI 2).toNatClampNeg), .int (xs (nI i + nI 3).toNatClampNeg)]) (st := []) d_Law_814 cl_117 rfl rfl rfl ⟨Nat.le_of_ble_eq_true rfl, Nat.le_of_ble_eq_true rfl⟩ (Nat.le_of_ble_eq_true rfl) (Nat.le_of_ble_eq_true rfl) (m_parting (xs (nI i + nI 1).toNatClampNeg) (xs (nI i + nI 2).toNatClampNeg) (xs (nI i + nI 3).toNatClampNeg) hM1) rfl (fun v2 τ2 h2 => ?_)
  obtain ⟨⟨z2, rfl, hz2⟩, hM2, hF2⟩ := h2
  show LW L xs 817 _ [.int z2] _
  refine lp_pop d_Law_817 rfl ?_
  exact lp_goto d_Law_818 (by decide) (K _ _ (hX1.mv hF2) hM2 ((hF1.cb hB).mv hF2))
set_option maxHeartbeats 1000000 in
theorem law_c25 {L i : Nat} {xs : Nat → Int32} {σ : Hp} {a : Sx} (hL : L ≤ 2560) (hi : i + 5 ≤ L) (hX : XS σ a) (hM : MS σ a) (hB : CB σ i) (K : ∀ τ b, XS τ b → MS τ b → CB τ (i + 1) → LW L xs 867 [.ref 81, .ref 0, .ref 56, .int (nI i)] [] τ) : LW L xs 821 [.ref 81, .ref 0, .ref 56, .int (nI i)] [] σ := by
  refine lp_aload_n d_Law_821 rfl ?_
  refine lp_aload_n d_Law_822 rfl ?_
  refine lp_iload_n d_Law_823 rfl ?_
  refine lp_iconst (v := nI 1) d_Law_824 (by decide) ?_
  refine lp_iadd d_Law_825 ?_
  refine lp_sld d_Law_826 (law_in hL hi (j := 1) (by decide)) ?_
  refine lp_call (as := [.int (xs (nI i + nI 1).toNatClampNeg)]) (st := []) d_Law_827 cl_118 rfl rfl rfl ⟨Nat.le_of_ble_eq_true rfl, Nat.le_of_ble_eq_true rfl⟩ (Nat.le_of_ble_eq_true rfl) (Nat.le_of_ble_eq_true rfl) (xv_meanings (xs (nI i + nI 1).toNatClampNeg) hX) rfl (fun v1 τ1 h1 => ?_)
  obtain ⟨⟨z1, rfl, hz1⟩, hX1, hF1⟩ := h1
  have hM1 := hM.mv hF1
  show LW L xs 830 _ [.int z1] _
  refine lp_pop d_Law_830 rfl ?_
  refine lp_aload_n d_Law_831 rfl ?_
  refine lp_aload_n d_Law_832 rfl ?_
  refine lp_iload_n d_Law_833 rfl ?_
  refine lp_iconst (v := nI 1) d_Law_834 (by decide) ?_
  refine lp_iadd d_Law_835 ?_
  refine lp_sld d_Law_836 (law_in hL hi (j := 1) (by decide)) ?_
  refine lp_call (as := [.int (xs (nI i + nI 1).toNatClampNeg)]) (st := []) d_Law_837 cl_121 rfl rfl rfl ⟨Nat.le_of_ble_eq_true rfl, Nat.le_of_ble_eq_true rfl⟩ (Nat.le_of_ble_eq_true rfl) (Nat.le_of_ble_eq_true rfl) (m_meanings (xs (nI i + nI 1).toNatClampNeg) hM1) rfl (fun v2 τ2 h2 => ?_)
  obtain ⟨⟨z2, rfl, hz2⟩, hM2, hF2⟩ := h2
  show LW L xs 840 _ [.int z2] _
  refine lp_pop d_Law_840 rfl ?_
  exact lp_goto d_Law_841 (by decide) (K _ _ (hX1.mv hF2) hM2 ((hF1.cb hB).mv hF2))
set_option maxHeartbeats 1000000 in
theorem law_c26 {L i : Nat} {xs : Nat → Int32} {σ : Hp} {a : Sx} (hL : L ≤ 2560) (hi : i + 5 ≤ L) (hX : XS σ a) (hM : MS σ a) (hB : CB σ i) (K : ∀ τ b, XS τ b → MS τ b → CB τ (i + 1) → LW L xs 867 [.ref 81, .ref 0, .ref 56, .int (nI i)] [] τ) : LW L xs 844 [.ref 81, .ref 0, .ref 56, .int (nI i)] [] σ := by
  refine lp_aload_n d_Law_844 rfl ?_
  refine lp_aload_n d_Law_845 rfl ?_
  refine lp_iload_n d_Law_846 rfl ?_
  refine lp_iconst (v := nI 1) d_Law_847 (by decide) ?_
  refine lp_iadd d_Law_848 ?_
  refine lp_sld d_Law_849 (law_in hL hi (j := 1) (by decide)) ?_
  refine lp_call (as := [.int (xs (nI i + nI 1).toNatClampNeg)]) (st := []) d_Law_850 cl_122 rfl rfl rfl ⟨Nat.le_of_ble_eq_true rfl, Nat.le_of_ble_eq_true rfl⟩ (Nat.le_of_ble_eq_true rfl) (Nat.le_of_ble_eq_true rfl) (x_count (xs (nI i + nI 1).toNatClampNeg) hX) rfl (fun v1 τ1 h1 => ?_)
  obtain ⟨⟨z1, rfl, hz1⟩, hX1, hF1⟩ := h1
  have hM1 := hM.mv hF1
  show LW L xs 853 _ [.int z1] _
  refine lp_pop d_Law_853 rfl ?_
  refine lp_aload_n d_Law_854 rfl ?_
  refine lp_aload_n d_Law_855 rfl ?_
  refine lp_iload_n d_Law_856 rfl ?_
  refine lp_iconst (v := nI 1) d_Law_857 (by decide) ?_
  refine lp_iadd d_Law_858 ?_
  refine lp_sld d_Law_859 (law_in hL hi (j := 1) (by decide)) ?_
  refine lp_call (as := [.int (xs (nI i + nI 1).toNatClampNeg)]) (st := []) d_Law_860 cl_125 rfl rfl rfl ⟨Nat.le_of_ble_eq_true rfl, Nat.le_of_ble_eq_true rfl⟩ (Nat.le_of_ble_eq_true rfl) (Nat.le_of_ble_eq_true rfl) (m_count (xs (nI i + nI 1).toNatClampNeg) hM1) rfl (fun v2 τ2 h2 => ?_)
  obtain ⟨⟨z2, rfl, hz2⟩, hM2, hF2⟩ := h2
  show LW L xs 863 _ [.int z2] _
  refine lp_pop d_Law_863 rfl ?_
  exact lp_goto d_Law_864 (by decide) (K _ _ (hX1.mv hF2) hM2 ((hF1.cb hB).mv hF2))
