/-! the law: its cases -/
def LC (P : PT) (M : MT) (D : va_G) (cs : ClassId × ClassId × ClassId) (ts : Nat × Nat × Nat) (A : Nat → Prop) (b L : Nat) (xs : Nat → Int32) (n z : Nat) : Prop :=
  COk P M D cs A 4 code RL ∧ exL (p_s P) ts ∧ A = Afr (p_s P) ∧ va_X b L xs (p_s P) (p_s P).heap ∧ b < (p_s P).heap.size ∧ L ≤ 384 ∧ p_R P = room_1 ∧ (n ≤ (p_R P).cells ∧ z ≤ (p_R P).slots)
abbrev lvL (b x m t : Nat) : List (Nat × Value) := [(3, .int (nI t)), (2, .ref m), (1, .ref x), (0, .ref b)]
theorem sx1 {t j L : Nat} (h : t + 6 ≤ L) (hj : j < 6) (hL : L ≤ 384) : inB (nI t + nI j) L = true := by rw [nI_add]; exact inB_nI (by omega) (by omega)
theorem sx2 {t j L : Nat} {xs : Nat → Int32} (h : t + 6 ≤ L) (hj : j < 6) (hL : L ≤ 384) : xs (nI t + nI j).toNatClampNeg = xs (t + j) := by rw [nI_add, cl_n (by omega)]
section LCASES
variable {P : PT} {M : MT} {D : va_G} {cs : ClassId × ClassId × ClassId} {A : Nat → Prop} {Q : State → Prop} {n z : Nat} {ad am : Nat → Nat} {ts : Nat × Nat × Nat} {σ μ : Mem} {b L t : Nat} {xs : Nat → Int32}
theorem lc_0 (C : LC P M D cs ts A b L xs n z) (h : Sim σ μ) (ht : t + 6 ≤ L) (K : ∀ σ' μ', Sim σ' μ' → CJ P M D A 4 Q 1260 (lvL b (ad 0) (am 0) t) [] (wPic (xW D cs ad ts) σ' ++ wPic (mW D cs am) μ') n z) : CJ P M D A 4 Q 192 (lvL b (ad 0) (am 0) t) [] (wPic (xW D cs ad ts) σ ++ wPic (mW D cs am) μ) n z := by
  obtain ⟨hX, hE, hAe, hs, hb, hL, hR, hnz⟩ := C
  have hA : ¬ A b := by rw [hAe]; exact Nat.not_le.mpr hb
  obtain ⟨r, σ', μ', c1, c2, h'⟩ := p_row (l := P.2.1) (D := D) (cs := cs) (ad := ad) (am := am) (ts := ts) h (xs (t + 1)) (xs (t + 2)) (xs (t + 3))
  refine j_aload_n 2 1 hX dL_law_192 rfl rfl ?_
  refine j_aload_n 3 0 hX dL_law_193 rfl rfl ?_
  refine j_iload_n 0 3 hX dL_law_194 rfl rfl ?_
  refine j_iconst (nI 1) hX dL_law_195 (by decide) ?_
  refine j_iadd hX dL_law_196 ?_
  refine j_sld hX dL_law_197 hs hb hA (sx1 ht (by omega) hL) (sx2 (xs := xs) ht (by omega) hL) ?_
  refine j_aload_n 3 0 hX dL_law_198 rfl rfl ?_
  refine j_iload_n 0 3 hX dL_law_199 rfl rfl ?_
  refine j_iconst (nI 2) hX dL_law_200 (by decide) ?_
  refine j_iadd hX dL_law_201 ?_
  refine j_sld hX dL_law_202 hs hb hA (sx1 ht (by omega) hL) (sx2 (xs := xs) ht (by omega) hL) ?_
  refine j_aload_n 3 0 hX dL_law_203 rfl rfl ?_
  refine j_iload_n 0 3 hX dL_law_204 rfl rfl ?_
  refine j_iconst (nI 3) hX dL_law_205 (by decide) ?_
  refine j_iadd hX dL_law_206 ?_
  refine j_sld hX dL_law_207 hs hb hA (sx1 ht (by omega) hL) (sx2 (xs := xs) ht (by omega) hL) ?_
  refine j_callX (m := 3) (As := [.int (xs (t + 1)), .int (xs (t + 2)), .int (xs (t + 3))]) (rest := []) hX dL_law_208 c1 rfl rfl hE hAe rfl kw_314 kw_315 mw_57 kw_313 kw_316 (by decide) rfl (by rw [hR]; exact ⟨Nat.le_of_ble_eq_true rfl, Nat.le_of_ble_eq_true rfl⟩) (Nat.le_of_ble_eq_true rfl) hnz ?_
  refine j_aload_n 1 2 hX dL_law_211 rfl rfl ?_
  refine j_aload_n 3 0 hX dL_law_212 rfl rfl ?_
  refine j_iload_n 0 3 hX dL_law_213 rfl rfl ?_
  refine j_iconst (nI 1) hX dL_law_214 (by decide) ?_
  refine j_iadd hX dL_law_215 ?_
  refine j_sld hX dL_law_216 hs hb hA (sx1 ht (by omega) hL) (sx2 (xs := xs) ht (by omega) hL) ?_
  refine j_aload_n 3 0 hX dL_law_217 rfl rfl ?_
  refine j_iload_n 0 3 hX dL_law_218 rfl rfl ?_
  refine j_iconst (nI 2) hX dL_law_219 (by decide) ?_
  refine j_iadd hX dL_law_220 ?_
  refine j_sld hX dL_law_221 hs hb hA (sx1 ht (by omega) hL) (sx2 (xs := xs) ht (by omega) hL) ?_
  refine j_aload_n 3 0 hX dL_law_222 rfl rfl ?_
  refine j_iload_n 0 3 hX dL_law_223 rfl rfl ?_
  refine j_iconst (nI 3) hX dL_law_224 (by decide) ?_
  refine j_iadd hX dL_law_225 ?_
  refine j_sld hX dL_law_226 hs hb hA (sx1 ht (by omega) hL) (sx2 (xs := xs) ht (by omega) hL) ?_
  refine j_callM (m := 3) (As := [.int (xs (t + 1)), .int (xs (t + 2)), .int (xs (t + 3))]) (rest := [.int r]) hX dL_law_227 c2 rfl rfl rfl kw_905 kw_906 mw_64 kw_904 kw_907 (by decide) rfl (by rw [hR]; exact ⟨Nat.le_of_ble_eq_true rfl, Nat.le_of_ble_eq_true rfl⟩) (Nat.le_of_ble_eq_true rfl) hnz ?_
  exact j_icmp_eq 1260 hX dL_law_230 rfl (fun _ => K σ' μ' h') (fun q => absurd rfl q)
theorem lc_1 (C : LC P M D cs ts A b L xs n z) (h : Sim σ μ) (ht : t + 6 ≤ L) (K : ∀ σ' μ', Sim σ' μ' → CJ P M D A 4 Q 1260 (lvL b (ad 0) (am 0) t) [] (wPic (xW D cs ad ts) σ' ++ wPic (mW D cs am) μ') n z) : CJ P M D A 4 Q 235 (lvL b (ad 0) (am 0) t) [] (wPic (xW D cs ad ts) σ ++ wPic (mW D cs am) μ) n z := by
  obtain ⟨hX, hE, hAe, hs, hb, hL, hR, hnz⟩ := C
  have hA : ¬ A b := by rw [hAe]; exact Nat.not_le.mpr hb
  obtain ⟨r, σ', μ', c1, c2, h'⟩ := p_set (l := P.2.1) (D := D) (cs := cs) (ad := ad) (am := am) (ts := ts) h (xs (t + 1)) (xs (t + 2)) (xs (t + 3))
  refine j_aload_n 2 1 hX dL_law_235 rfl rfl ?_
  refine j_aload_n 3 0 hX dL_law_236 rfl rfl ?_
  refine j_iload_n 0 3 hX dL_law_237 rfl rfl ?_
  refine j_iconst (nI 1) hX dL_law_238 (by decide) ?_
  refine j_iadd hX dL_law_239 ?_
  refine j_sld hX dL_law_240 hs hb hA (sx1 ht (by omega) hL) (sx2 (xs := xs) ht (by omega) hL) ?_
  refine j_aload_n 3 0 hX dL_law_241 rfl rfl ?_
  refine j_iload_n 0 3 hX dL_law_242 rfl rfl ?_
  refine j_iconst (nI 2) hX dL_law_243 (by decide) ?_
  refine j_iadd hX dL_law_244 ?_
  refine j_sld hX dL_law_245 hs hb hA (sx1 ht (by omega) hL) (sx2 (xs := xs) ht (by omega) hL) ?_
  refine j_aload_n 3 0 hX dL_law_246 rfl rfl ?_
  refine j_iload_n 0 3 hX dL_law_247 rfl rfl ?_
  refine j_iconst (nI 3) hX dL_law_248 (by decide) ?_
  refine j_iadd hX dL_law_249 ?_
  refine j_sld hX dL_law_250 hs hb hA (sx1 ht (by omega) hL) (sx2 (xs := xs) ht (by omega) hL) ?_
  refine j_callX (m := 3) (As := [.int (xs (t + 1)), .int (xs (t + 2)), .int (xs (t + 3))]) (rest := []) hX dL_law_251 c1 rfl rfl hE hAe rfl kw_341 kw_342 mw_57 kw_340 kw_343 (by decide) rfl (by rw [hR]; exact ⟨Nat.le_of_ble_eq_true rfl, Nat.le_of_ble_eq_true rfl⟩) (Nat.le_of_ble_eq_true rfl) hnz ?_
  refine j_aload_n 1 2 hX dL_law_254 rfl rfl ?_
  refine j_aload_n 3 0 hX dL_law_255 rfl rfl ?_
  refine j_iload_n 0 3 hX dL_law_256 rfl rfl ?_
  refine j_iconst (nI 1) hX dL_law_257 (by decide) ?_
  refine j_iadd hX dL_law_258 ?_
  refine j_sld hX dL_law_259 hs hb hA (sx1 ht (by omega) hL) (sx2 (xs := xs) ht (by omega) hL) ?_
  refine j_aload_n 3 0 hX dL_law_260 rfl rfl ?_
  refine j_iload_n 0 3 hX dL_law_261 rfl rfl ?_
  refine j_iconst (nI 2) hX dL_law_262 (by decide) ?_
  refine j_iadd hX dL_law_263 ?_
  refine j_sld hX dL_law_264 hs hb hA (sx1 ht (by omega) hL) (sx2 (xs := xs) ht (by omega) hL) ?_
  refine j_aload_n 3 0 hX dL_law_265 rfl rfl ?_
  refine j_iload_n 0 3 hX dL_law_266 rfl rfl ?_
  refine j_iconst (nI 3) hX dL_law_267 (by decide) ?_
  refine j_iadd hX dL_law_268 ?_
  refine j_sld hX dL_law_269 hs hb hA (sx1 ht (by omega) hL) (sx2 (xs := xs) ht (by omega) hL) ?_
  refine j_callM (m := 3) (As := [.int (xs (t + 1)), .int (xs (t + 2)), .int (xs (t + 3))]) (rest := [.int r]) hX dL_law_270 c2 rfl rfl rfl kw_927 kw_928 mw_64 kw_926 kw_929 (by decide) rfl (by rw [hR]; exact ⟨Nat.le_of_ble_eq_true rfl, Nat.le_of_ble_eq_true rfl⟩) (Nat.le_of_ble_eq_true rfl) hnz ?_
  exact j_icmp_eq 1260 hX dL_law_273 rfl (fun _ => K σ' μ' h') (fun q => absurd rfl q)
theorem lc_2 (C : LC P M D cs ts A b L xs n z) (h : Sim σ μ) (ht : t + 6 ≤ L) (K : ∀ σ' μ', Sim σ' μ' → CJ P M D A 4 Q 1260 (lvL b (ad 0) (am 0) t) [] (wPic (xW D cs ad ts) σ' ++ wPic (mW D cs am) μ') n z) : CJ P M D A 4 Q 278 (lvL b (ad 0) (am 0) t) [] (wPic (xW D cs ad ts) σ ++ wPic (mW D cs am) μ) n z := by
  obtain ⟨hX, hE, hAe, hs, hb, hL, hR, hnz⟩ := C
  have hA : ¬ A b := by rw [hAe]; exact Nat.not_le.mpr hb
  obtain ⟨r, σ', μ', c1, c2, h'⟩ := p_copy (l := P.2.1) (D := D) (cs := cs) (ad := ad) (am := am) (ts := ts) h (xs (t + 1)) (xs (t + 2)) (xs (t + 3)) (xs (t + 4)) (xs (t + 5))
  refine j_aload_n 2 1 hX dL_law_278 rfl rfl ?_
  refine j_aload_n 3 0 hX dL_law_279 rfl rfl ?_
  refine j_iload_n 0 3 hX dL_law_280 rfl rfl ?_
  refine j_iconst (nI 1) hX dL_law_281 (by decide) ?_
  refine j_iadd hX dL_law_282 ?_
  refine j_sld hX dL_law_283 hs hb hA (sx1 ht (by omega) hL) (sx2 (xs := xs) ht (by omega) hL) ?_
  refine j_aload_n 3 0 hX dL_law_284 rfl rfl ?_
  refine j_iload_n 0 3 hX dL_law_285 rfl rfl ?_
  refine j_iconst (nI 2) hX dL_law_286 (by decide) ?_
  refine j_iadd hX dL_law_287 ?_
  refine j_sld hX dL_law_288 hs hb hA (sx1 ht (by omega) hL) (sx2 (xs := xs) ht (by omega) hL) ?_
  refine j_aload_n 3 0 hX dL_law_289 rfl rfl ?_
  refine j_iload_n 0 3 hX dL_law_290 rfl rfl ?_
  refine j_iconst (nI 3) hX dL_law_291 (by decide) ?_
  refine j_iadd hX dL_law_292 ?_
  refine j_sld hX dL_law_293 hs hb hA (sx1 ht (by omega) hL) (sx2 (xs := xs) ht (by omega) hL) ?_
  refine j_aload_n 3 0 hX dL_law_294 rfl rfl ?_
  refine j_iload_n 0 3 hX dL_law_295 rfl rfl ?_
  refine j_iconst (nI 4) hX dL_law_296 (by decide) ?_
  refine j_iadd hX dL_law_297 ?_
  refine j_sld hX dL_law_298 hs hb hA (sx1 ht (by omega) hL) (sx2 (xs := xs) ht (by omega) hL) ?_
  refine j_aload_n 3 0 hX dL_law_299 rfl rfl ?_
  refine j_iload_n 0 3 hX dL_law_300 rfl rfl ?_
  refine j_iconst (nI 5) hX dL_law_301 (by decide) ?_
  refine j_iadd hX dL_law_302 ?_
  refine j_sld hX dL_law_303 hs hb hA (sx1 ht (by omega) hL) (sx2 (xs := xs) ht (by omega) hL) ?_
  refine j_callX (m := 5) (As := [.int (xs (t + 1)), .int (xs (t + 2)), .int (xs (t + 3)), .int (xs (t + 4)), .int (xs (t + 5))]) (rest := []) hX dL_law_304 c1 rfl rfl hE hAe rfl kw_357 kw_358 mw_57 kw_356 kw_359 (by decide) rfl (by rw [hR]; exact ⟨Nat.le_of_ble_eq_true rfl, Nat.le_of_ble_eq_true rfl⟩) (Nat.le_of_ble_eq_true rfl) hnz ?_
  refine j_aload_n 1 2 hX dL_law_307 rfl rfl ?_
  refine j_aload_n 3 0 hX dL_law_308 rfl rfl ?_
  refine j_iload_n 0 3 hX dL_law_309 rfl rfl ?_
  refine j_iconst (nI 1) hX dL_law_310 (by decide) ?_
  refine j_iadd hX dL_law_311 ?_
  refine j_sld hX dL_law_312 hs hb hA (sx1 ht (by omega) hL) (sx2 (xs := xs) ht (by omega) hL) ?_
  refine j_aload_n 3 0 hX dL_law_313 rfl rfl ?_
  refine j_iload_n 0 3 hX dL_law_314 rfl rfl ?_
  refine j_iconst (nI 2) hX dL_law_315 (by decide) ?_
  refine j_iadd hX dL_law_316 ?_
  refine j_sld hX dL_law_317 hs hb hA (sx1 ht (by omega) hL) (sx2 (xs := xs) ht (by omega) hL) ?_
  refine j_aload_n 3 0 hX dL_law_318 rfl rfl ?_
  refine j_iload_n 0 3 hX dL_law_319 rfl rfl ?_
  refine j_iconst (nI 3) hX dL_law_320 (by decide) ?_
  refine j_iadd hX dL_law_321 ?_
  refine j_sld hX dL_law_322 hs hb hA (sx1 ht (by omega) hL) (sx2 (xs := xs) ht (by omega) hL) ?_
  refine j_aload_n 3 0 hX dL_law_323 rfl rfl ?_
  refine j_iload_n 0 3 hX dL_law_324 rfl rfl ?_
  refine j_iconst (nI 4) hX dL_law_325 (by decide) ?_
  refine j_iadd hX dL_law_326 ?_
  refine j_sld hX dL_law_327 hs hb hA (sx1 ht (by omega) hL) (sx2 (xs := xs) ht (by omega) hL) ?_
  refine j_aload_n 3 0 hX dL_law_328 rfl rfl ?_
  refine j_iload_n 0 3 hX dL_law_329 rfl rfl ?_
  refine j_iconst (nI 5) hX dL_law_330 (by decide) ?_
  refine j_iadd hX dL_law_331 ?_
  refine j_sld hX dL_law_332 hs hb hA (sx1 ht (by omega) hL) (sx2 (xs := xs) ht (by omega) hL) ?_
  refine j_callM (m := 5) (As := [.int (xs (t + 1)), .int (xs (t + 2)), .int (xs (t + 3)), .int (xs (t + 4)), .int (xs (t + 5))]) (rest := [.int r]) hX dL_law_333 c2 rfl rfl rfl kw_931 kw_932 mw_64 kw_930 kw_933 (by decide) rfl (by rw [hR]; exact ⟨Nat.le_of_ble_eq_true rfl, Nat.le_of_ble_eq_true rfl⟩) (Nat.le_of_ble_eq_true rfl) hnz ?_
  exact j_icmp_eq 1260 hX dL_law_336 rfl (fun _ => K σ' μ' h') (fun q => absurd rfl q)
theorem lc_3 (C : LC P M D cs ts A b L xs n z) (h : Sim σ μ) (ht : t + 6 ≤ L) (K : ∀ σ' μ', Sim σ' μ' → CJ P M D A 4 Q 1260 (lvL b (ad 0) (am 0) t) [] (wPic (xW D cs ad ts) σ' ++ wPic (mW D cs am) μ') n z) : CJ P M D A 4 Q 341 (lvL b (ad 0) (am 0) t) [] (wPic (xW D cs ad ts) σ ++ wPic (mW D cs am) μ) n z := by
  obtain ⟨hX, hE, hAe, hs, hb, hL, hR, hnz⟩ := C
  have hA : ¬ A b := by rw [hAe]; exact Nat.not_le.mpr hb
  obtain ⟨r, σ', μ', c1, c2, h'⟩ := p_drop (l := P.2.1) (D := D) (cs := cs) (ad := ad) (am := am) (ts := ts) h (xs (t + 1))
  refine j_aload_n 2 1 hX dL_law_341 rfl rfl ?_
  refine j_aload_n 3 0 hX dL_law_342 rfl rfl ?_
  refine j_iload_n 0 3 hX dL_law_343 rfl rfl ?_
  refine j_iconst (nI 1) hX dL_law_344 (by decide) ?_
  refine j_iadd hX dL_law_345 ?_
  refine j_sld hX dL_law_346 hs hb hA (sx1 ht (by omega) hL) (sx2 (xs := xs) ht (by omega) hL) ?_
  refine j_callX (m := 1) (As := [.int (xs (t + 1))]) (rest := []) hX dL_law_347 c1 rfl rfl hE hAe rfl kw_364 kw_365 mw_57 kw_363 kw_366 (by decide) rfl (by rw [hR]; exact ⟨Nat.le_of_ble_eq_true rfl, Nat.le_of_ble_eq_true rfl⟩) (Nat.le_of_ble_eq_true rfl) hnz ?_
  refine j_aload_n 1 2 hX dL_law_350 rfl rfl ?_
  refine j_aload_n 3 0 hX dL_law_351 rfl rfl ?_
  refine j_iload_n 0 3 hX dL_law_352 rfl rfl ?_
  refine j_iconst (nI 1) hX dL_law_353 (by decide) ?_
  refine j_iadd hX dL_law_354 ?_
  refine j_sld hX dL_law_355 hs hb hA (sx1 ht (by omega) hL) (sx2 (xs := xs) ht (by omega) hL) ?_
  refine j_callM (m := 1) (As := [.int (xs (t + 1))]) (rest := [.int r]) hX dL_law_356 c2 rfl rfl rfl kw_935 kw_936 mw_64 kw_934 kw_937 (by decide) rfl (by rw [hR]; exact ⟨Nat.le_of_ble_eq_true rfl, Nat.le_of_ble_eq_true rfl⟩) (Nat.le_of_ble_eq_true rfl) hnz ?_
  exact j_icmp_eq 1260 hX dL_law_359 rfl (fun _ => K σ' μ' h') (fun q => absurd rfl q)
theorem lc_4 (C : LC P M D cs ts A b L xs n z) (h : Sim σ μ) (ht : t + 6 ≤ L) (K : ∀ σ' μ', Sim σ' μ' → CJ P M D A 4 Q 1260 (lvL b (ad 0) (am 0) t) [] (wPic (xW D cs ad ts) σ' ++ wPic (mW D cs am) μ') n z) : CJ P M D A 4 Q 364 (lvL b (ad 0) (am 0) t) [] (wPic (xW D cs ad ts) σ ++ wPic (mW D cs am) μ) n z := by
  obtain ⟨hX, hE, hAe, hs, hb, hL, hR, hnz⟩ := C
  have hA : ¬ A b := by rw [hAe]; exact Nat.not_le.mpr hb
  obtain ⟨r, σ', μ', c1, c2, h'⟩ := p_feed (l := P.2.1) (D := D) (cs := cs) (ad := ad) (am := am) (ts := ts) h (xs (t + 1))
  refine j_aload_n 2 1 hX dL_law_364 rfl rfl ?_
  refine j_aload_n 3 0 hX dL_law_365 rfl rfl ?_
  refine j_iload_n 0 3 hX dL_law_366 rfl rfl ?_
  refine j_iconst (nI 1) hX dL_law_367 (by decide) ?_
  refine j_iadd hX dL_law_368 ?_
  refine j_sld hX dL_law_369 hs hb hA (sx1 ht (by omega) hL) (sx2 (xs := xs) ht (by omega) hL) ?_
  refine j_callX (m := 1) (As := [.int (xs (t + 1))]) (rest := []) hX dL_law_370 c1 rfl rfl hE hAe rfl kw_368 kw_369 mw_57 kw_367 kw_370 (by decide) rfl (by rw [hR]; exact ⟨Nat.le_of_ble_eq_true rfl, Nat.le_of_ble_eq_true rfl⟩) (Nat.le_of_ble_eq_true rfl) hnz ?_
  refine j_aload_n 1 2 hX dL_law_373 rfl rfl ?_
  refine j_aload_n 3 0 hX dL_law_374 rfl rfl ?_
  refine j_iload_n 0 3 hX dL_law_375 rfl rfl ?_
  refine j_iconst (nI 1) hX dL_law_376 (by decide) ?_
  refine j_iadd hX dL_law_377 ?_
  refine j_sld hX dL_law_378 hs hb hA (sx1 ht (by omega) hL) (sx2 (xs := xs) ht (by omega) hL) ?_
  refine j_callM (m := 1) (As := [.int (xs (t + 1))]) (rest := [.int r]) hX dL_law_379 c2 rfl rfl rfl kw_939 kw_940 mw_64 kw_938 kw_941 (by decide) rfl (by rw [hR]; exact ⟨Nat.le_of_ble_eq_true rfl, Nat.le_of_ble_eq_true rfl⟩) (Nat.le_of_ble_eq_true rfl) hnz ?_
  exact j_icmp_eq 1260 hX dL_law_382 rfl (fun _ => K σ' μ' h') (fun q => absurd rfl q)
theorem lc_5 (C : LC P M D cs ts A b L xs n z) (h : Sim σ μ) (ht : t + 6 ≤ L) (K : ∀ σ' μ', Sim σ' μ' → CJ P M D A 4 Q 1260 (lvL b (ad 0) (am 0) t) [] (wPic (xW D cs ad ts) σ' ++ wPic (mW D cs am) μ') n z) : CJ P M D A 4 Q 387 (lvL b (ad 0) (am 0) t) [] (wPic (xW D cs ad ts) σ ++ wPic (mW D cs am) μ) n z := by
  obtain ⟨hX, hE, hAe, hs, hb, hL, hR, hnz⟩ := C
  have hA : ¬ A b := by rw [hAe]; exact Nat.not_le.mpr hb
  obtain ⟨r, σ', μ', c1, c2, h'⟩ := p_archive (l := P.2.1) (D := D) (cs := cs) (ad := ad) (am := am) (ts := ts) h
  refine j_aload_n 2 1 hX dL_law_387 rfl rfl ?_
  refine j_callX (m := 0) (As := []) (rest := []) hX dL_law_388 c1 rfl rfl hE hAe rfl kw_377 kw_378 mw_57 kw_376 kw_379 (by decide) rfl (by rw [hR]; exact ⟨Nat.le_of_ble_eq_true rfl, Nat.le_of_ble_eq_true rfl⟩) (Nat.le_of_ble_eq_true rfl) hnz ?_
  refine j_aload_n 1 2 hX dL_law_391 rfl rfl ?_
  refine j_callM (m := 0) (As := []) (rest := [.int r]) hX dL_law_392 c2 rfl rfl rfl kw_945 kw_946 mw_64 kw_944 kw_947 (by decide) rfl (by rw [hR]; exact ⟨Nat.le_of_ble_eq_true rfl, Nat.le_of_ble_eq_true rfl⟩) (Nat.le_of_ble_eq_true rfl) hnz ?_
  exact j_icmp_eq 1260 hX dL_law_395 rfl (fun _ => K σ' μ' h') (fun q => absurd rfl q)
theorem lc_6 (C : LC P M D cs ts A b L xs n z) (h : Sim σ μ) (ht : t + 6 ≤ L) (K : ∀ σ' μ', Sim σ' μ' → CJ P M D A 4 Q 1260 (lvL b (ad 0) (am 0) t) [] (wPic (xW D cs ad ts) σ' ++ wPic (mW D cs am) μ') n z) : CJ P M D A 4 Q 400 (lvL b (ad 0) (am 0) t) [] (wPic (xW D cs ad ts) σ ++ wPic (mW D cs am) μ) n z := by
  obtain ⟨hX, hE, hAe, hs, hb, hL, hR, hnz⟩ := C
  have hA : ¬ A b := by rw [hAe]; exact Nat.not_le.mpr hb
  obtain ⟨r, σ', μ', c1, c2, h'⟩ := p_fault (l := P.2.1) (D := D) (cs := cs) (ad := ad) (am := am) (ts := ts) h
  refine j_aload_n 2 1 hX dL_law_400 rfl rfl ?_
  refine j_callX (m := 0) (As := []) (rest := []) hX dL_law_401 c1 rfl rfl hE hAe rfl kw_466 kw_467 mw_57 kw_465 kw_468 (by decide) rfl (by rw [hR]; exact ⟨Nat.le_of_ble_eq_true rfl, Nat.le_of_ble_eq_true rfl⟩) (Nat.le_of_ble_eq_true rfl) hnz ?_
  refine j_aload_n 1 2 hX dL_law_404 rfl rfl ?_
  refine j_callM (m := 0) (As := []) (rest := [.int r]) hX dL_law_405 c2 rfl rfl rfl kw_1007 kw_1008 mw_64 kw_1006 kw_1009 (by decide) rfl (by rw [hR]; exact ⟨Nat.le_of_ble_eq_true rfl, Nat.le_of_ble_eq_true rfl⟩) (Nat.le_of_ble_eq_true rfl) hnz ?_
  exact j_icmp_eq 1260 hX dL_law_408 rfl (fun _ => K σ' μ' h') (fun q => absurd rfl q)
theorem lc_7 (C : LC P M D cs ts A b L xs n z) (h : Sim σ μ) (ht : t + 6 ≤ L) (K : ∀ σ' μ', Sim σ' μ' → CJ P M D A 4 Q 1260 (lvL b (ad 0) (am 0) t) [] (wPic (xW D cs ad ts) σ' ++ wPic (mW D cs am) μ') n z) : CJ P M D A 4 Q 413 (lvL b (ad 0) (am 0) t) [] (wPic (xW D cs ad ts) σ ++ wPic (mW D cs am) μ) n z := by
  obtain ⟨hX, hE, hAe, hs, hb, hL, hR, hnz⟩ := C
  have hA : ¬ A b := by rw [hAe]; exact Nat.not_le.mpr hb
  obtain ⟨r, σ', μ', c1, c2, h'⟩ := p_undo (l := P.2.1) (D := D) (cs := cs) (ad := ad) (am := am) (ts := ts) h
  refine j_aload_n 2 1 hX dL_law_413 rfl rfl ?_
  refine j_callX (m := 0) (As := []) (rest := []) hX dL_law_414 c1 rfl rfl hE hAe rfl kw_470 kw_471 mw_57 kw_469 kw_472 (by decide) rfl (by rw [hR]; exact ⟨Nat.le_of_ble_eq_true rfl, Nat.le_of_ble_eq_true rfl⟩) (Nat.le_of_ble_eq_true rfl) hnz ?_
  refine j_aload_n 1 2 hX dL_law_417 rfl rfl ?_
  refine j_callM (m := 0) (As := []) (rest := [.int r]) hX dL_law_418 c2 rfl rfl rfl kw_1011 kw_1012 mw_64 kw_1010 kw_1013 (by decide) rfl (by rw [hR]; exact ⟨Nat.le_of_ble_eq_true rfl, Nat.le_of_ble_eq_true rfl⟩) (Nat.le_of_ble_eq_true rfl) hnz ?_
  exact j_icmp_eq 1260 hX dL_law_421 rfl (fun _ => K σ' μ' h') (fun q => absurd rfl q)
theorem lc_8 (C : LC P M D cs ts A b L xs n z) (h : Sim σ μ) (ht : t + 6 ≤ L) (K : ∀ σ' μ', Sim σ' μ' → CJ P M D A 4 Q 1260 (lvL b (ad 0) (am 0) t) [] (wPic (xW D cs ad ts) σ' ++ wPic (mW D cs am) μ') n z) : CJ P M D A 4 Q 426 (lvL b (ad 0) (am 0) t) [] (wPic (xW D cs ad ts) σ ++ wPic (mW D cs am) μ) n z := by
  obtain ⟨hX, hE, hAe, hs, hb, hL, hR, hnz⟩ := C
  have hA : ¬ A b := by rw [hAe]; exact Nat.not_le.mpr hb
  obtain ⟨r, σ', μ', c1, c2, h'⟩ := p_write (l := P.2.1) (D := D) (cs := cs) (ad := ad) (am := am) (ts := ts) h (xs (t + 1)) (xs (t + 2)) (xs (t + 3))
  refine j_aload_n 2 1 hX dL_law_426 rfl rfl ?_
  refine j_aload_n 3 0 hX dL_law_427 rfl rfl ?_
  refine j_iload_n 0 3 hX dL_law_428 rfl rfl ?_
  refine j_iconst (nI 1) hX dL_law_429 (by decide) ?_
  refine j_iadd hX dL_law_430 ?_
  refine j_sld hX dL_law_431 hs hb hA (sx1 ht (by omega) hL) (sx2 (xs := xs) ht (by omega) hL) ?_
  refine j_aload_n 3 0 hX dL_law_432 rfl rfl ?_
  refine j_iload_n 0 3 hX dL_law_433 rfl rfl ?_
  refine j_iconst (nI 2) hX dL_law_434 (by decide) ?_
  refine j_iadd hX dL_law_435 ?_
  refine j_sld hX dL_law_436 hs hb hA (sx1 ht (by omega) hL) (sx2 (xs := xs) ht (by omega) hL) ?_
  refine j_aload_n 3 0 hX dL_law_437 rfl rfl ?_
  refine j_iload_n 0 3 hX dL_law_438 rfl rfl ?_
  refine j_iconst (nI 3) hX dL_law_439 (by decide) ?_
  refine j_iadd hX dL_law_440 ?_
  refine j_sld hX dL_law_441 hs hb hA (sx1 ht (by omega) hL) (sx2 (xs := xs) ht (by omega) hL) ?_
  refine j_callX (m := 3) (As := [.int (xs (t + 1)), .int (xs (t + 2)), .int (xs (t + 3))]) (rest := []) hX dL_law_442 c1 rfl rfl hE hAe rfl kw_479 kw_480 mw_57 kw_478 kw_481 (by decide) rfl (by rw [hR]; exact ⟨Nat.le_of_ble_eq_true rfl, Nat.le_of_ble_eq_true rfl⟩) (Nat.le_of_ble_eq_true rfl) hnz ?_
  refine j_aload_n 1 2 hX dL_law_445 rfl rfl ?_
  refine j_aload_n 3 0 hX dL_law_446 rfl rfl ?_
  refine j_iload_n 0 3 hX dL_law_447 rfl rfl ?_
  refine j_iconst (nI 1) hX dL_law_448 (by decide) ?_
  refine j_iadd hX dL_law_449 ?_
  refine j_sld hX dL_law_450 hs hb hA (sx1 ht (by omega) hL) (sx2 (xs := xs) ht (by omega) hL) ?_
  refine j_aload_n 3 0 hX dL_law_451 rfl rfl ?_
  refine j_iload_n 0 3 hX dL_law_452 rfl rfl ?_
  refine j_iconst (nI 2) hX dL_law_453 (by decide) ?_
  refine j_iadd hX dL_law_454 ?_
  refine j_sld hX dL_law_455 hs hb hA (sx1 ht (by omega) hL) (sx2 (xs := xs) ht (by omega) hL) ?_
  refine j_aload_n 3 0 hX dL_law_456 rfl rfl ?_
  refine j_iload_n 0 3 hX dL_law_457 rfl rfl ?_
  refine j_iconst (nI 3) hX dL_law_458 (by decide) ?_
  refine j_iadd hX dL_law_459 ?_
  refine j_sld hX dL_law_460 hs hb hA (sx1 ht (by omega) hL) (sx2 (xs := xs) ht (by omega) hL) ?_
  refine j_callM (m := 3) (As := [.int (xs (t + 1)), .int (xs (t + 2)), .int (xs (t + 3))]) (rest := [.int r]) hX dL_law_461 c2 rfl rfl rfl kw_1016 kw_1017 mw_64 kw_1015 kw_1018 (by decide) rfl (by rw [hR]; exact ⟨Nat.le_of_ble_eq_true rfl, Nat.le_of_ble_eq_true rfl⟩) (Nat.le_of_ble_eq_true rfl) hnz ?_
  exact j_icmp_eq 1260 hX dL_law_464 rfl (fun _ => K σ' μ' h') (fun q => absurd rfl q)
theorem lc_9 (C : LC P M D cs ts A b L xs n z) (h : Sim σ μ) (ht : t + 6 ≤ L) (K : ∀ σ' μ', Sim σ' μ' → CJ P M D A 4 Q 1260 (lvL b (ad 0) (am 0) t) [] (wPic (xW D cs ad ts) σ' ++ wPic (mW D cs am) μ') n z) : CJ P M D A 4 Q 469 (lvL b (ad 0) (am 0) t) [] (wPic (xW D cs ad ts) σ ++ wPic (mW D cs am) μ) n z := by
  obtain ⟨hX, hE, hAe, hs, hb, hL, hR, hnz⟩ := C
  have hA : ¬ A b := by rw [hAe]; exact Nat.not_le.mpr hb
  obtain ⟨r, σ', μ', c1, c2, h'⟩ := p_recall (l := P.2.1) (D := D) (cs := cs) (ad := ad) (am := am) (ts := ts) h (xs (t + 1))
  refine j_aload_n 2 1 hX dL_law_469 rfl rfl ?_
  refine j_aload_n 3 0 hX dL_law_470 rfl rfl ?_
  refine j_iload_n 0 3 hX dL_law_471 rfl rfl ?_
  refine j_iconst (nI 1) hX dL_law_472 (by decide) ?_
  refine j_iadd hX dL_law_473 ?_
  refine j_sld hX dL_law_474 hs hb hA (sx1 ht (by omega) hL) (sx2 (xs := xs) ht (by omega) hL) ?_
  refine j_callX (m := 1) (As := [.int (xs (t + 1))]) (rest := []) hX dL_law_475 c1 rfl rfl hE hAe rfl kw_493 kw_494 mw_57 kw_492 kw_495 (by decide) rfl (by rw [hR]; exact ⟨Nat.le_of_ble_eq_true rfl, Nat.le_of_ble_eq_true rfl⟩) (Nat.le_of_ble_eq_true rfl) hnz ?_
  refine j_aload_n 1 2 hX dL_law_478 rfl rfl ?_
  refine j_aload_n 3 0 hX dL_law_479 rfl rfl ?_
  refine j_iload_n 0 3 hX dL_law_480 rfl rfl ?_
  refine j_iconst (nI 1) hX dL_law_481 (by decide) ?_
  refine j_iadd hX dL_law_482 ?_
  refine j_sld hX dL_law_483 hs hb hA (sx1 ht (by omega) hL) (sx2 (xs := xs) ht (by omega) hL) ?_
  refine j_callM (m := 1) (As := [.int (xs (t + 1))]) (rest := [.int r]) hX dL_law_484 c2 rfl rfl rfl kw_1030 kw_1031 mw_64 kw_1029 kw_1032 (by decide) rfl (by rw [hR]; exact ⟨Nat.le_of_ble_eq_true rfl, Nat.le_of_ble_eq_true rfl⟩) (Nat.le_of_ble_eq_true rfl) hnz ?_
  exact j_icmp_eq 1260 hX dL_law_487 rfl (fun _ => K σ' μ' h') (fun q => absurd rfl q)
theorem lc_10 (C : LC P M D cs ts A b L xs n z) (h : Sim σ μ) (ht : t + 6 ≤ L) (K : ∀ σ' μ', Sim σ' μ' → CJ P M D A 4 Q 1260 (lvL b (ad 0) (am 0) t) [] (wPic (xW D cs ad ts) σ' ++ wPic (mW D cs am) μ') n z) : CJ P M D A 4 Q 492 (lvL b (ad 0) (am 0) t) [] (wPic (xW D cs ad ts) σ ++ wPic (mW D cs am) μ) n z := by
  obtain ⟨hX, hE, hAe, hs, hb, hL, hR, hnz⟩ := C
  have hA : ¬ A b := by rw [hAe]; exact Nat.not_le.mpr hb
  obtain ⟨r, σ', μ', c1, c2, h'⟩ := p_days (l := P.2.1) (D := D) (cs := cs) (ad := ad) (am := am) (ts := ts) h (xs (t + 1))
  refine j_aload_n 2 1 hX dL_law_492 rfl rfl ?_
  refine j_aload_n 3 0 hX dL_law_493 rfl rfl ?_
  refine j_iload_n 0 3 hX dL_law_494 rfl rfl ?_
  refine j_iconst (nI 1) hX dL_law_495 (by decide) ?_
  refine j_iadd hX dL_law_496 ?_
  refine j_sld hX dL_law_497 hs hb hA (sx1 ht (by omega) hL) (sx2 (xs := xs) ht (by omega) hL) ?_
  refine j_callX (m := 1) (As := [.int (xs (t + 1))]) (rest := []) hX dL_law_498 c1 rfl rfl hE hAe rfl kw_525 kw_526 mw_57 kw_524 kw_527 (by decide) rfl (by rw [hR]; exact ⟨Nat.le_of_ble_eq_true rfl, Nat.le_of_ble_eq_true rfl⟩) (Nat.le_of_ble_eq_true rfl) hnz ?_
  refine j_aload_n 1 2 hX dL_law_501 rfl rfl ?_
  refine j_aload_n 3 0 hX dL_law_502 rfl rfl ?_
  refine j_iload_n 0 3 hX dL_law_503 rfl rfl ?_
  refine j_iconst (nI 1) hX dL_law_504 (by decide) ?_
  refine j_iadd hX dL_law_505 ?_
  refine j_sld hX dL_law_506 hs hb hA (sx1 ht (by omega) hL) (sx2 (xs := xs) ht (by omega) hL) ?_
  refine j_callM (m := 1) (As := [.int (xs (t + 1))]) (rest := [.int r]) hX dL_law_507 c2 rfl rfl rfl kw_1047 kw_1048 mw_64 kw_1046 kw_1049 (by decide) rfl (by rw [hR]; exact ⟨Nat.le_of_ble_eq_true rfl, Nat.le_of_ble_eq_true rfl⟩) (Nat.le_of_ble_eq_true rfl) hnz ?_
  exact j_icmp_eq 1260 hX dL_law_510 rfl (fun _ => K σ' μ' h') (fun q => absurd rfl q)
theorem lc_11 (C : LC P M D cs ts A b L xs n z) (h : Sim σ μ) (ht : t + 6 ≤ L) (K : ∀ σ' μ', Sim σ' μ' → CJ P M D A 4 Q 1260 (lvL b (ad 0) (am 0) t) [] (wPic (xW D cs ad ts) σ' ++ wPic (mW D cs am) μ') n z) : CJ P M D A 4 Q 515 (lvL b (ad 0) (am 0) t) [] (wPic (xW D cs ad ts) σ ++ wPic (mW D cs am) μ) n z := by
  obtain ⟨hX, hE, hAe, hs, hb, hL, hR, hnz⟩ := C
  have hA : ¬ A b := by rw [hAe]; exact Nat.not_le.mpr hb
  obtain ⟨r, σ', μ', c1, c2, h'⟩ := p_copyOf (l := P.2.1) (D := D) (cs := cs) (ad := ad) (am := am) (ts := ts) h (xs (t + 1)) (xs (t + 2))
  refine j_aload_n 2 1 hX dL_law_515 rfl rfl ?_
  refine j_aload_n 3 0 hX dL_law_516 rfl rfl ?_
  refine j_iload_n 0 3 hX dL_law_517 rfl rfl ?_
  refine j_iconst (nI 1) hX dL_law_518 (by decide) ?_
  refine j_iadd hX dL_law_519 ?_
  refine j_sld hX dL_law_520 hs hb hA (sx1 ht (by omega) hL) (sx2 (xs := xs) ht (by omega) hL) ?_
  refine j_aload_n 3 0 hX dL_law_521 rfl rfl ?_
  refine j_iload_n 0 3 hX dL_law_522 rfl rfl ?_
  refine j_iconst (nI 2) hX dL_law_523 (by decide) ?_
  refine j_iadd hX dL_law_524 ?_
  refine j_sld hX dL_law_525 hs hb hA (sx1 ht (by omega) hL) (sx2 (xs := xs) ht (by omega) hL) ?_
  refine j_callX (m := 2) (As := [.int (xs (t + 1)), .int (xs (t + 2))]) (rest := []) hX dL_law_526 c1 rfl rfl hE hAe rfl kw_550 kw_551 mw_57 kw_549 kw_552 (by decide) rfl (by rw [hR]; exact ⟨Nat.le_of_ble_eq_true rfl, Nat.le_of_ble_eq_true rfl⟩) (Nat.le_of_ble_eq_true rfl) hnz ?_
  refine j_aload_n 1 2 hX dL_law_529 rfl rfl ?_
  refine j_aload_n 3 0 hX dL_law_530 rfl rfl ?_
  refine j_iload_n 0 3 hX dL_law_531 rfl rfl ?_
  refine j_iconst (nI 1) hX dL_law_532 (by decide) ?_
  refine j_iadd hX dL_law_533 ?_
  refine j_sld hX dL_law_534 hs hb hA (sx1 ht (by omega) hL) (sx2 (xs := xs) ht (by omega) hL) ?_
  refine j_aload_n 3 0 hX dL_law_535 rfl rfl ?_
  refine j_iload_n 0 3 hX dL_law_536 rfl rfl ?_
  refine j_iconst (nI 2) hX dL_law_537 (by decide) ?_
  refine j_iadd hX dL_law_538 ?_
  refine j_sld hX dL_law_539 hs hb hA (sx1 ht (by omega) hL) (sx2 (xs := xs) ht (by omega) hL) ?_
  refine j_callM (m := 2) (As := [.int (xs (t + 1)), .int (xs (t + 2))]) (rest := [.int r]) hX dL_law_540 c2 rfl rfl rfl kw_1061 kw_1062 mw_64 kw_1060 kw_1063 (by decide) rfl (by rw [hR]; exact ⟨Nat.le_of_ble_eq_true rfl, Nat.le_of_ble_eq_true rfl⟩) (Nat.le_of_ble_eq_true rfl) hnz ?_
  exact j_icmp_eq 1260 hX dL_law_543 rfl (fun _ => K σ' μ' h') (fun q => absurd rfl q)
theorem lc_12 (C : LC P M D cs ts A b L xs n z) (h : Sim σ μ) (ht : t + 6 ≤ L) (K : ∀ σ' μ', Sim σ' μ' → CJ P M D A 4 Q 1260 (lvL b (ad 0) (am 0) t) [] (wPic (xW D cs ad ts) σ' ++ wPic (mW D cs am) μ') n z) : CJ P M D A 4 Q 548 (lvL b (ad 0) (am 0) t) [] (wPic (xW D cs ad ts) σ ++ wPic (mW D cs am) μ) n z := by
  obtain ⟨hX, hE, hAe, hs, hb, hL, hR, hnz⟩ := C
  have hA : ¬ A b := by rw [hAe]; exact Nat.not_le.mpr hb
  obtain ⟨r, σ', μ', c1, c2, h'⟩ := p_hand (l := P.2.1) (D := D) (cs := cs) (ad := ad) (am := am) (ts := ts) h (xs (t + 1)) (xs (t + 2))
  refine j_aload_n 2 1 hX dL_law_548 rfl rfl ?_
  refine j_aload_n 3 0 hX dL_law_549 rfl rfl ?_
  refine j_iload_n 0 3 hX dL_law_550 rfl rfl ?_
  refine j_iconst (nI 1) hX dL_law_551 (by decide) ?_
  refine j_iadd hX dL_law_552 ?_
  refine j_sld hX dL_law_553 hs hb hA (sx1 ht (by omega) hL) (sx2 (xs := xs) ht (by omega) hL) ?_
  refine j_aload_n 3 0 hX dL_law_554 rfl rfl ?_
  refine j_iload_n 0 3 hX dL_law_555 rfl rfl ?_
  refine j_iconst (nI 2) hX dL_law_556 (by decide) ?_
  refine j_iadd hX dL_law_557 ?_
  refine j_sld hX dL_law_558 hs hb hA (sx1 ht (by omega) hL) (sx2 (xs := xs) ht (by omega) hL) ?_
  refine j_callX (m := 2) (As := [.int (xs (t + 1)), .int (xs (t + 2))]) (rest := []) hX dL_law_559 c1 rfl rfl hE hAe rfl kw_554 kw_555 mw_57 kw_553 kw_556 (by decide) rfl (by rw [hR]; exact ⟨Nat.le_of_ble_eq_true rfl, Nat.le_of_ble_eq_true rfl⟩) (Nat.le_of_ble_eq_true rfl) hnz ?_
  refine j_aload_n 1 2 hX dL_law_562 rfl rfl ?_
  refine j_aload_n 3 0 hX dL_law_563 rfl rfl ?_
  refine j_iload_n 0 3 hX dL_law_564 rfl rfl ?_
  refine j_iconst (nI 1) hX dL_law_565 (by decide) ?_
  refine j_iadd hX dL_law_566 ?_
  refine j_sld hX dL_law_567 hs hb hA (sx1 ht (by omega) hL) (sx2 (xs := xs) ht (by omega) hL) ?_
  refine j_aload_n 3 0 hX dL_law_568 rfl rfl ?_
  refine j_iload_n 0 3 hX dL_law_569 rfl rfl ?_
  refine j_iconst (nI 2) hX dL_law_570 (by decide) ?_
  refine j_iadd hX dL_law_571 ?_
  refine j_sld hX dL_law_572 hs hb hA (sx1 ht (by omega) hL) (sx2 (xs := xs) ht (by omega) hL) ?_
  refine j_callM (m := 2) (As := [.int (xs (t + 1)), .int (xs (t + 2))]) (rest := [.int r]) hX dL_law_573 c2 rfl rfl rfl kw_1065 kw_1066 mw_64 kw_1064 kw_1067 (by decide) rfl (by rw [hR]; exact ⟨Nat.le_of_ble_eq_true rfl, Nat.le_of_ble_eq_true rfl⟩) (Nat.le_of_ble_eq_true rfl) hnz ?_
  exact j_icmp_eq 1260 hX dL_law_576 rfl (fun _ => K σ' μ' h') (fun q => absurd rfl q)
theorem lc_13 (C : LC P M D cs ts A b L xs n z) (h : Sim σ μ) (ht : t + 6 ≤ L) (K : ∀ σ' μ', Sim σ' μ' → CJ P M D A 4 Q 1260 (lvL b (ad 0) (am 0) t) [] (wPic (xW D cs ad ts) σ' ++ wPic (mW D cs am) μ') n z) : CJ P M D A 4 Q 581 (lvL b (ad 0) (am 0) t) [] (wPic (xW D cs ad ts) σ ++ wPic (mW D cs am) μ) n z := by
  obtain ⟨hX, hE, hAe, hs, hb, hL, hR, hnz⟩ := C
  have hA : ¬ A b := by rw [hAe]; exact Nat.not_le.mpr hb
  obtain ⟨r, σ', μ', c1, c2, h'⟩ := p_deed (l := P.2.1) (D := D) (cs := cs) (ad := ad) (am := am) (ts := ts) h (xs (t + 1)) (xs (t + 2))
  refine j_aload_n 2 1 hX dL_law_581 rfl rfl ?_
  refine j_aload_n 3 0 hX dL_law_582 rfl rfl ?_
  refine j_iload_n 0 3 hX dL_law_583 rfl rfl ?_
  refine j_iconst (nI 1) hX dL_law_584 (by decide) ?_
  refine j_iadd hX dL_law_585 ?_
  refine j_sld hX dL_law_586 hs hb hA (sx1 ht (by omega) hL) (sx2 (xs := xs) ht (by omega) hL) ?_
  refine j_aload_n 3 0 hX dL_law_587 rfl rfl ?_
  refine j_iload_n 0 3 hX dL_law_588 rfl rfl ?_
  refine j_iconst (nI 2) hX dL_law_589 (by decide) ?_
  refine j_iadd hX dL_law_590 ?_
  refine j_sld hX dL_law_591 hs hb hA (sx1 ht (by omega) hL) (sx2 (xs := xs) ht (by omega) hL) ?_
  refine j_callX (m := 2) (As := [.int (xs (t + 1)), .int (xs (t + 2))]) (rest := []) hX dL_law_592 c1 rfl rfl hE hAe rfl kw_563 kw_564 mw_57 kw_562 kw_565 (by decide) rfl (by rw [hR]; exact ⟨Nat.le_of_ble_eq_true rfl, Nat.le_of_ble_eq_true rfl⟩) (Nat.le_of_ble_eq_true rfl) hnz ?_
  refine j_aload_n 1 2 hX dL_law_595 rfl rfl ?_
  refine j_aload_n 3 0 hX dL_law_596 rfl rfl ?_
  refine j_iload_n 0 3 hX dL_law_597 rfl rfl ?_
  refine j_iconst (nI 1) hX dL_law_598 (by decide) ?_
  refine j_iadd hX dL_law_599 ?_
  refine j_sld hX dL_law_600 hs hb hA (sx1 ht (by omega) hL) (sx2 (xs := xs) ht (by omega) hL) ?_
  refine j_aload_n 3 0 hX dL_law_601 rfl rfl ?_
  refine j_iload_n 0 3 hX dL_law_602 rfl rfl ?_
  refine j_iconst (nI 2) hX dL_law_603 (by decide) ?_
  refine j_iadd hX dL_law_604 ?_
  refine j_sld hX dL_law_605 hs hb hA (sx1 ht (by omega) hL) (sx2 (xs := xs) ht (by omega) hL) ?_
  refine j_callM (m := 2) (As := [.int (xs (t + 1)), .int (xs (t + 2))]) (rest := [.int r]) hX dL_law_606 c2 rfl rfl rfl kw_1073 kw_1074 mw_64 kw_1072 kw_1075 (by decide) rfl (by rw [hR]; exact ⟨Nat.le_of_ble_eq_true rfl, Nat.le_of_ble_eq_true rfl⟩) (Nat.le_of_ble_eq_true rfl) hnz ?_
  exact j_icmp_eq 1260 hX dL_law_609 rfl (fun _ => K σ' μ' h') (fun q => absurd rfl q)
theorem lc_14 (C : LC P M D cs ts A b L xs n z) (h : Sim σ μ) (ht : t + 6 ≤ L) (K : ∀ σ' μ', Sim σ' μ' → CJ P M D A 4 Q 1260 (lvL b (ad 0) (am 0) t) [] (wPic (xW D cs ad ts) σ' ++ wPic (mW D cs am) μ') n z) : CJ P M D A 4 Q 614 (lvL b (ad 0) (am 0) t) [] (wPic (xW D cs ad ts) σ ++ wPic (mW D cs am) μ) n z := by
  obtain ⟨hX, hE, hAe, hs, hb, hL, hR, hnz⟩ := C
  have hA : ¬ A b := by rw [hAe]; exact Nat.not_le.mpr hb
  obtain ⟨r, σ', μ', c1, c2, h'⟩ := p_place (l := P.2.1) (D := D) (cs := cs) (ad := ad) (am := am) (ts := ts) h (xs (t + 1)) (xs (t + 2))
  refine j_aload_n 2 1 hX dL_law_614 rfl rfl ?_
  refine j_aload_n 3 0 hX dL_law_615 rfl rfl ?_
  refine j_iload_n 0 3 hX dL_law_616 rfl rfl ?_
  refine j_iconst (nI 1) hX dL_law_617 (by decide) ?_
  refine j_iadd hX dL_law_618 ?_
  refine j_sld hX dL_law_619 hs hb hA (sx1 ht (by omega) hL) (sx2 (xs := xs) ht (by omega) hL) ?_
  refine j_aload_n 3 0 hX dL_law_620 rfl rfl ?_
  refine j_iload_n 0 3 hX dL_law_621 rfl rfl ?_
  refine j_iconst (nI 2) hX dL_law_622 (by decide) ?_
  refine j_iadd hX dL_law_623 ?_
  refine j_sld hX dL_law_624 hs hb hA (sx1 ht (by omega) hL) (sx2 (xs := xs) ht (by omega) hL) ?_
  refine j_callX (m := 2) (As := [.int (xs (t + 1)), .int (xs (t + 2))]) (rest := []) hX dL_law_625 c1 rfl rfl hE hAe rfl kw_572 kw_573 mw_57 kw_571 kw_574 (by decide) rfl (by rw [hR]; exact ⟨Nat.le_of_ble_eq_true rfl, Nat.le_of_ble_eq_true rfl⟩) (Nat.le_of_ble_eq_true rfl) hnz ?_
  refine j_aload_n 1 2 hX dL_law_628 rfl rfl ?_
  refine j_aload_n 3 0 hX dL_law_629 rfl rfl ?_
  refine j_iload_n 0 3 hX dL_law_630 rfl rfl ?_
  refine j_iconst (nI 1) hX dL_law_631 (by decide) ?_
  refine j_iadd hX dL_law_632 ?_
  refine j_sld hX dL_law_633 hs hb hA (sx1 ht (by omega) hL) (sx2 (xs := xs) ht (by omega) hL) ?_
  refine j_aload_n 3 0 hX dL_law_634 rfl rfl ?_
  refine j_iload_n 0 3 hX dL_law_635 rfl rfl ?_
  refine j_iconst (nI 2) hX dL_law_636 (by decide) ?_
  refine j_iadd hX dL_law_637 ?_
  refine j_sld hX dL_law_638 hs hb hA (sx1 ht (by omega) hL) (sx2 (xs := xs) ht (by omega) hL) ?_
  refine j_callM (m := 2) (As := [.int (xs (t + 1)), .int (xs (t + 2))]) (rest := [.int r]) hX dL_law_639 c2 rfl rfl rfl kw_1083 kw_1084 mw_64 kw_1082 kw_1085 (by decide) rfl (by rw [hR]; exact ⟨Nat.le_of_ble_eq_true rfl, Nat.le_of_ble_eq_true rfl⟩) (Nat.le_of_ble_eq_true rfl) hnz ?_
  exact j_icmp_eq 1260 hX dL_law_642 rfl (fun _ => K σ' μ' h') (fun q => absurd rfl q)
theorem lc_15 (C : LC P M D cs ts A b L xs n z) (h : Sim σ μ) (ht : t + 6 ≤ L) (K : ∀ σ' μ', Sim σ' μ' → CJ P M D A 4 Q 1260 (lvL b (ad 0) (am 0) t) [] (wPic (xW D cs ad ts) σ' ++ wPic (mW D cs am) μ') n z) : CJ P M D A 4 Q 647 (lvL b (ad 0) (am 0) t) [] (wPic (xW D cs ad ts) σ ++ wPic (mW D cs am) μ) n z := by
  obtain ⟨hX, hE, hAe, hs, hb, hL, hR, hnz⟩ := C
  have hA : ¬ A b := by rw [hAe]; exact Nat.not_le.mpr hb
  obtain ⟨r, σ', μ', c1, c2, h'⟩ := p_falls (l := P.2.1) (D := D) (cs := cs) (ad := ad) (am := am) (ts := ts) h (xs (t + 1)) (xs (t + 2))
  refine j_aload_n 2 1 hX dL_law_647 rfl rfl ?_
  refine j_aload_n 3 0 hX dL_law_648 rfl rfl ?_
  refine j_iload_n 0 3 hX dL_law_649 rfl rfl ?_
  refine j_iconst (nI 1) hX dL_law_650 (by decide) ?_
  refine j_iadd hX dL_law_651 ?_
  refine j_sld hX dL_law_652 hs hb hA (sx1 ht (by omega) hL) (sx2 (xs := xs) ht (by omega) hL) ?_
  refine j_aload_n 3 0 hX dL_law_653 rfl rfl ?_
  refine j_iload_n 0 3 hX dL_law_654 rfl rfl ?_
  refine j_iconst (nI 2) hX dL_law_655 (by decide) ?_
  refine j_iadd hX dL_law_656 ?_
  refine j_sld hX dL_law_657 hs hb hA (sx1 ht (by omega) hL) (sx2 (xs := xs) ht (by omega) hL) ?_
  refine j_callX (m := 2) (As := [.int (xs (t + 1)), .int (xs (t + 2))]) (rest := []) hX dL_law_658 c1 rfl rfl hE hAe rfl kw_580 kw_581 mw_57 kw_579 kw_582 (by decide) rfl (by rw [hR]; exact ⟨Nat.le_of_ble_eq_true rfl, Nat.le_of_ble_eq_true rfl⟩) (Nat.le_of_ble_eq_true rfl) hnz ?_
  refine j_aload_n 1 2 hX dL_law_661 rfl rfl ?_
  refine j_aload_n 3 0 hX dL_law_662 rfl rfl ?_
  refine j_iload_n 0 3 hX dL_law_663 rfl rfl ?_
  refine j_iconst (nI 1) hX dL_law_664 (by decide) ?_
  refine j_iadd hX dL_law_665 ?_
  refine j_sld hX dL_law_666 hs hb hA (sx1 ht (by omega) hL) (sx2 (xs := xs) ht (by omega) hL) ?_
  refine j_aload_n 3 0 hX dL_law_667 rfl rfl ?_
  refine j_iload_n 0 3 hX dL_law_668 rfl rfl ?_
  refine j_iconst (nI 2) hX dL_law_669 (by decide) ?_
  refine j_iadd hX dL_law_670 ?_
  refine j_sld hX dL_law_671 hs hb hA (sx1 ht (by omega) hL) (sx2 (xs := xs) ht (by omega) hL) ?_
  refine j_callM (m := 2) (As := [.int (xs (t + 1)), .int (xs (t + 2))]) (rest := [.int r]) hX dL_law_672 c2 rfl rfl rfl kw_1090 kw_1091 mw_64 kw_1089 kw_1092 (by decide) rfl (by rw [hR]; exact ⟨Nat.le_of_ble_eq_true rfl, Nat.le_of_ble_eq_true rfl⟩) (Nat.le_of_ble_eq_true rfl) hnz ?_
  exact j_icmp_eq 1260 hX dL_law_675 rfl (fun _ => K σ' μ' h') (fun q => absurd rfl q)
theorem lc_16 (C : LC P M D cs ts A b L xs n z) (h : Sim σ μ) (ht : t + 6 ≤ L) (K : ∀ σ' μ', Sim σ' μ' → CJ P M D A 4 Q 1260 (lvL b (ad 0) (am 0) t) [] (wPic (xW D cs ad ts) σ' ++ wPic (mW D cs am) μ') n z) : CJ P M D A 4 Q 680 (lvL b (ad 0) (am 0) t) [] (wPic (xW D cs ad ts) σ ++ wPic (mW D cs am) μ) n z := by
  obtain ⟨hX, hE, hAe, hs, hb, hL, hR, hnz⟩ := C
  have hA : ¬ A b := by rw [hAe]; exact Nat.not_le.mpr hb
  obtain ⟨r, σ', μ', c1, c2, h'⟩ := p_ransom (l := P.2.1) (D := D) (cs := cs) (ad := ad) (am := am) (ts := ts) h (xs (t + 1))
  refine j_aload_n 2 1 hX dL_law_680 rfl rfl ?_
  refine j_aload_n 3 0 hX dL_law_681 rfl rfl ?_
  refine j_iload_n 0 3 hX dL_law_682 rfl rfl ?_
  refine j_iconst (nI 1) hX dL_law_683 (by decide) ?_
  refine j_iadd hX dL_law_684 ?_
  refine j_sld hX dL_law_685 hs hb hA (sx1 ht (by omega) hL) (sx2 (xs := xs) ht (by omega) hL) ?_
  refine j_callX (m := 1) (As := [.int (xs (t + 1))]) (rest := []) hX dL_law_686 c1 rfl rfl hE hAe rfl kw_607 kw_608 mw_57 kw_606 kw_609 (by decide) rfl (by rw [hR]; exact ⟨Nat.le_of_ble_eq_true rfl, Nat.le_of_ble_eq_true rfl⟩) (Nat.le_of_ble_eq_true rfl) hnz ?_
  refine j_aload_n 1 2 hX dL_law_689 rfl rfl ?_
  refine j_aload_n 3 0 hX dL_law_690 rfl rfl ?_
  refine j_iload_n 0 3 hX dL_law_691 rfl rfl ?_
  refine j_iconst (nI 1) hX dL_law_692 (by decide) ?_
  refine j_iadd hX dL_law_693 ?_
  refine j_sld hX dL_law_694 hs hb hA (sx1 ht (by omega) hL) (sx2 (xs := xs) ht (by omega) hL) ?_
  refine j_callM (m := 1) (As := [.int (xs (t + 1))]) (rest := [.int r]) hX dL_law_695 c2 rfl rfl rfl kw_1113 kw_1114 mw_64 kw_1112 kw_1115 (by decide) rfl (by rw [hR]; exact ⟨Nat.le_of_ble_eq_true rfl, Nat.le_of_ble_eq_true rfl⟩) (Nat.le_of_ble_eq_true rfl) hnz ?_
  exact j_icmp_eq 1260 hX dL_law_698 rfl (fun _ => K σ' μ' h') (fun q => absurd rfl q)
theorem lc_17 (C : LC P M D cs ts A b L xs n z) (h : Sim σ μ) (ht : t + 6 ≤ L) (K : ∀ σ' μ', Sim σ' μ' → CJ P M D A 4 Q 1260 (lvL b (ad 0) (am 0) t) [] (wPic (xW D cs ad ts) σ' ++ wPic (mW D cs am) μ') n z) : CJ P M D A 4 Q 703 (lvL b (ad 0) (am 0) t) [] (wPic (xW D cs ad ts) σ ++ wPic (mW D cs am) μ) n z := by
  obtain ⟨hX, hE, hAe, hs, hb, hL, hR, hnz⟩ := C
  have hA : ¬ A b := by rw [hAe]; exact Nat.not_le.mpr hb
  obtain ⟨r, σ', μ', c1, c2, h'⟩ := p_pair (l := P.2.1) (D := D) (cs := cs) (ad := ad) (am := am) (ts := ts) h (xs (t + 1))
  refine j_aload_n 2 1 hX dL_law_703 rfl rfl ?_
  refine j_aload_n 3 0 hX dL_law_704 rfl rfl ?_
  refine j_iload_n 0 3 hX dL_law_705 rfl rfl ?_
  refine j_iconst (nI 1) hX dL_law_706 (by decide) ?_
  refine j_iadd hX dL_law_707 ?_
  refine j_sld hX dL_law_708 hs hb hA (sx1 ht (by omega) hL) (sx2 (xs := xs) ht (by omega) hL) ?_
  refine j_callX (m := 1) (As := [.int (xs (t + 1))]) (rest := []) hX dL_law_709 c1 rfl rfl hE hAe rfl kw_611 kw_612 mw_57 kw_610 kw_613 (by decide) rfl (by rw [hR]; exact ⟨Nat.le_of_ble_eq_true rfl, Nat.le_of_ble_eq_true rfl⟩) (Nat.le_of_ble_eq_true rfl) hnz ?_
  refine j_aload_n 1 2 hX dL_law_712 rfl rfl ?_
  refine j_aload_n 3 0 hX dL_law_713 rfl rfl ?_
  refine j_iload_n 0 3 hX dL_law_714 rfl rfl ?_
  refine j_iconst (nI 1) hX dL_law_715 (by decide) ?_
  refine j_iadd hX dL_law_716 ?_
  refine j_sld hX dL_law_717 hs hb hA (sx1 ht (by omega) hL) (sx2 (xs := xs) ht (by omega) hL) ?_
  refine j_callM (m := 1) (As := [.int (xs (t + 1))]) (rest := [.int r]) hX dL_law_718 c2 rfl rfl rfl kw_1117 kw_1118 mw_64 kw_1116 kw_1119 (by decide) rfl (by rw [hR]; exact ⟨Nat.le_of_ble_eq_true rfl, Nat.le_of_ble_eq_true rfl⟩) (Nat.le_of_ble_eq_true rfl) hnz ?_
  exact j_icmp_eq 1260 hX dL_law_721 rfl (fun _ => K σ' μ' h') (fun q => absurd rfl q)
theorem lc_18 (C : LC P M D cs ts A b L xs n z) (h : Sim σ μ) (ht : t + 6 ≤ L) (K : ∀ σ' μ', Sim σ' μ' → CJ P M D A 4 Q 1260 (lvL b (ad 0) (am 0) t) [] (wPic (xW D cs ad ts) σ' ++ wPic (mW D cs am) μ') n z) : CJ P M D A 4 Q 726 (lvL b (ad 0) (am 0) t) [] (wPic (xW D cs ad ts) σ ++ wPic (mW D cs am) μ) n z := by
  obtain ⟨hX, hE, hAe, hs, hb, hL, hR, hnz⟩ := C
  have hA : ¬ A b := by rw [hAe]; exact Nat.not_le.mpr hb
  obtain ⟨r, σ', μ', c1, c2, h'⟩ := p_ahead (l := P.2.1) (D := D) (cs := cs) (ad := ad) (am := am) (ts := ts) h (xs (t + 1)) (xs (t + 2))
  refine j_aload_n 2 1 hX dL_law_726 rfl rfl ?_
  refine j_aload_n 3 0 hX dL_law_727 rfl rfl ?_
  refine j_iload_n 0 3 hX dL_law_728 rfl rfl ?_
  refine j_iconst (nI 1) hX dL_law_729 (by decide) ?_
  refine j_iadd hX dL_law_730 ?_
  refine j_sld hX dL_law_731 hs hb hA (sx1 ht (by omega) hL) (sx2 (xs := xs) ht (by omega) hL) ?_
  refine j_aload_n 3 0 hX dL_law_732 rfl rfl ?_
  refine j_iload_n 0 3 hX dL_law_733 rfl rfl ?_
  refine j_iconst (nI 2) hX dL_law_734 (by decide) ?_
  refine j_iadd hX dL_law_735 ?_
  refine j_sld hX dL_law_736 hs hb hA (sx1 ht (by omega) hL) (sx2 (xs := xs) ht (by omega) hL) ?_
  refine j_callX (m := 2) (As := [.int (xs (t + 1)), .int (xs (t + 2))]) (rest := []) hX dL_law_737 c1 rfl rfl hE hAe rfl kw_630 kw_631 mw_57 kw_629 kw_632 (by decide) rfl (by rw [hR]; exact ⟨Nat.le_of_ble_eq_true rfl, Nat.le_of_ble_eq_true rfl⟩) (Nat.le_of_ble_eq_true rfl) hnz ?_
  refine j_aload_n 1 2 hX dL_law_740 rfl rfl ?_
  refine j_aload_n 3 0 hX dL_law_741 rfl rfl ?_
  refine j_iload_n 0 3 hX dL_law_742 rfl rfl ?_
  refine j_iconst (nI 1) hX dL_law_743 (by decide) ?_
  refine j_iadd hX dL_law_744 ?_
  refine j_sld hX dL_law_745 hs hb hA (sx1 ht (by omega) hL) (sx2 (xs := xs) ht (by omega) hL) ?_
  refine j_aload_n 3 0 hX dL_law_746 rfl rfl ?_
  refine j_iload_n 0 3 hX dL_law_747 rfl rfl ?_
  refine j_iconst (nI 2) hX dL_law_748 (by decide) ?_
  refine j_iadd hX dL_law_749 ?_
  refine j_sld hX dL_law_750 hs hb hA (sx1 ht (by omega) hL) (sx2 (xs := xs) ht (by omega) hL) ?_
  refine j_callM (m := 2) (As := [.int (xs (t + 1)), .int (xs (t + 2))]) (rest := [.int r]) hX dL_law_751 c2 rfl rfl rfl kw_1121 kw_1122 mw_64 kw_1120 kw_1123 (by decide) rfl (by rw [hR]; exact ⟨Nat.le_of_ble_eq_true rfl, Nat.le_of_ble_eq_true rfl⟩) (Nat.le_of_ble_eq_true rfl) hnz ?_
  exact j_icmp_eq 1260 hX dL_law_754 rfl (fun _ => K σ' μ' h') (fun q => absurd rfl q)
theorem lc_19 (C : LC P M D cs ts A b L xs n z) (h : Sim σ μ) (ht : t + 6 ≤ L) (K : ∀ σ' μ', Sim σ' μ' → CJ P M D A 4 Q 1260 (lvL b (ad 0) (am 0) t) [] (wPic (xW D cs ad ts) σ' ++ wPic (mW D cs am) μ') n z) : CJ P M D A 4 Q 759 (lvL b (ad 0) (am 0) t) [] (wPic (xW D cs ad ts) σ ++ wPic (mW D cs am) μ) n z := by
  obtain ⟨hX, hE, hAe, hs, hb, hL, hR, hnz⟩ := C
  have hA : ¬ A b := by rw [hAe]; exact Nat.not_le.mpr hb
  obtain ⟨r, σ', μ', c1, c2, h'⟩ := p_first (l := P.2.1) (D := D) (cs := cs) (ad := ad) (am := am) (ts := ts) h (xs (t + 1)) (xs (t + 2))
  refine j_aload_n 2 1 hX dL_law_759 rfl rfl ?_
  refine j_aload_n 3 0 hX dL_law_760 rfl rfl ?_
  refine j_iload_n 0 3 hX dL_law_761 rfl rfl ?_
  refine j_iconst (nI 1) hX dL_law_762 (by decide) ?_
  refine j_iadd hX dL_law_763 ?_
  refine j_sld hX dL_law_764 hs hb hA (sx1 ht (by omega) hL) (sx2 (xs := xs) ht (by omega) hL) ?_
  refine j_aload_n 3 0 hX dL_law_765 rfl rfl ?_
  refine j_iload_n 0 3 hX dL_law_766 rfl rfl ?_
  refine j_iconst (nI 2) hX dL_law_767 (by decide) ?_
  refine j_iadd hX dL_law_768 ?_
  refine j_sld hX dL_law_769 hs hb hA (sx1 ht (by omega) hL) (sx2 (xs := xs) ht (by omega) hL) ?_
  refine j_callX (m := 2) (As := [.int (xs (t + 1)), .int (xs (t + 2))]) (rest := []) hX dL_law_770 c1 rfl rfl hE hAe rfl kw_635 kw_636 mw_57 kw_634 kw_637 (by decide) rfl (by rw [hR]; exact ⟨Nat.le_of_ble_eq_true rfl, Nat.le_of_ble_eq_true rfl⟩) (Nat.le_of_ble_eq_true rfl) hnz ?_
  refine j_aload_n 1 2 hX dL_law_773 rfl rfl ?_
  refine j_aload_n 3 0 hX dL_law_774 rfl rfl ?_
  refine j_iload_n 0 3 hX dL_law_775 rfl rfl ?_
  refine j_iconst (nI 1) hX dL_law_776 (by decide) ?_
  refine j_iadd hX dL_law_777 ?_
  refine j_sld hX dL_law_778 hs hb hA (sx1 ht (by omega) hL) (sx2 (xs := xs) ht (by omega) hL) ?_
  refine j_aload_n 3 0 hX dL_law_779 rfl rfl ?_
  refine j_iload_n 0 3 hX dL_law_780 rfl rfl ?_
  refine j_iconst (nI 2) hX dL_law_781 (by decide) ?_
  refine j_iadd hX dL_law_782 ?_
  refine j_sld hX dL_law_783 hs hb hA (sx1 ht (by omega) hL) (sx2 (xs := xs) ht (by omega) hL) ?_
  refine j_callM (m := 2) (As := [.int (xs (t + 1)), .int (xs (t + 2))]) (rest := [.int r]) hX dL_law_784 c2 rfl rfl rfl kw_1129 kw_1130 mw_64 kw_1128 kw_1131 (by decide) rfl (by rw [hR]; exact ⟨Nat.le_of_ble_eq_true rfl, Nat.le_of_ble_eq_true rfl⟩) (Nat.le_of_ble_eq_true rfl) hnz ?_
  exact j_icmp_eq 1260 hX dL_law_787 rfl (fun _ => K σ' μ' h') (fun q => absurd rfl q)
theorem lc_20 (C : LC P M D cs ts A b L xs n z) (h : Sim σ μ) (ht : t + 6 ≤ L) (K : ∀ σ' μ', Sim σ' μ' → CJ P M D A 4 Q 1260 (lvL b (ad 0) (am 0) t) [] (wPic (xW D cs ad ts) σ' ++ wPic (mW D cs am) μ') n z) : CJ P M D A 4 Q 792 (lvL b (ad 0) (am 0) t) [] (wPic (xW D cs ad ts) σ ++ wPic (mW D cs am) μ) n z := by
  obtain ⟨hX, hE, hAe, hs, hb, hL, hR, hnz⟩ := C
  have hA : ¬ A b := by rw [hAe]; exact Nat.not_le.mpr hb
  obtain ⟨r, σ', μ', c1, c2, h'⟩ := p_safe (l := P.2.1) (D := D) (cs := cs) (ad := ad) (am := am) (ts := ts) h (xs (t + 1))
  refine j_aload_n 2 1 hX dL_law_792 rfl rfl ?_
  refine j_aload_n 3 0 hX dL_law_793 rfl rfl ?_
  refine j_iload_n 0 3 hX dL_law_794 rfl rfl ?_
  refine j_iconst (nI 1) hX dL_law_795 (by decide) ?_
  refine j_iadd hX dL_law_796 ?_
  refine j_sld hX dL_law_797 hs hb hA (sx1 ht (by omega) hL) (sx2 (xs := xs) ht (by omega) hL) ?_
  refine j_callX (m := 1) (As := [.int (xs (t + 1))]) (rest := []) hX dL_law_798 c1 rfl rfl hE hAe rfl kw_644 kw_645 mw_57 kw_643 kw_646 (by decide) rfl (by rw [hR]; exact ⟨Nat.le_of_ble_eq_true rfl, Nat.le_of_ble_eq_true rfl⟩) (Nat.le_of_ble_eq_true rfl) hnz ?_
  refine j_aload_n 1 2 hX dL_law_801 rfl rfl ?_
  refine j_aload_n 3 0 hX dL_law_802 rfl rfl ?_
  refine j_iload_n 0 3 hX dL_law_803 rfl rfl ?_
  refine j_iconst (nI 1) hX dL_law_804 (by decide) ?_
  refine j_iadd hX dL_law_805 ?_
  refine j_sld hX dL_law_806 hs hb hA (sx1 ht (by omega) hL) (sx2 (xs := xs) ht (by omega) hL) ?_
  refine j_callM (m := 1) (As := [.int (xs (t + 1))]) (rest := [.int r]) hX dL_law_807 c2 rfl rfl rfl kw_1133 kw_1134 mw_64 kw_1132 kw_1135 (by decide) rfl (by rw [hR]; exact ⟨Nat.le_of_ble_eq_true rfl, Nat.le_of_ble_eq_true rfl⟩) (Nat.le_of_ble_eq_true rfl) hnz ?_
  exact j_icmp_eq 1260 hX dL_law_810 rfl (fun _ => K σ' μ' h') (fun q => absurd rfl q)
theorem lc_21 (C : LC P M D cs ts A b L xs n z) (h : Sim σ μ) (ht : t + 6 ≤ L) (K : ∀ σ' μ', Sim σ' μ' → CJ P M D A 4 Q 1260 (lvL b (ad 0) (am 0) t) [] (wPic (xW D cs ad ts) σ' ++ wPic (mW D cs am) μ') n z) : CJ P M D A 4 Q 815 (lvL b (ad 0) (am 0) t) [] (wPic (xW D cs ad ts) σ ++ wPic (mW D cs am) μ) n z := by
  obtain ⟨hX, hE, hAe, hs, hb, hL, hR, hnz⟩ := C
  have hA : ¬ A b := by rw [hAe]; exact Nat.not_le.mpr hb
  obtain ⟨r, σ', μ', c1, c2, h'⟩ := p_doubles (l := P.2.1) (D := D) (cs := cs) (ad := ad) (am := am) (ts := ts) h (xs (t + 1)) (xs (t + 2)) (xs (t + 3))
  refine j_aload_n 2 1 hX dL_law_815 rfl rfl ?_
  refine j_aload_n 3 0 hX dL_law_816 rfl rfl ?_
  refine j_iload_n 0 3 hX dL_law_817 rfl rfl ?_
  refine j_iconst (nI 1) hX dL_law_818 (by decide) ?_
  refine j_iadd hX dL_law_819 ?_
  refine j_sld hX dL_law_820 hs hb hA (sx1 ht (by omega) hL) (sx2 (xs := xs) ht (by omega) hL) ?_
  refine j_aload_n 3 0 hX dL_law_821 rfl rfl ?_
  refine j_iload_n 0 3 hX dL_law_822 rfl rfl ?_
  refine j_iconst (nI 2) hX dL_law_823 (by decide) ?_
  refine j_iadd hX dL_law_824 ?_
  refine j_sld hX dL_law_825 hs hb hA (sx1 ht (by omega) hL) (sx2 (xs := xs) ht (by omega) hL) ?_
  refine j_aload_n 3 0 hX dL_law_826 rfl rfl ?_
  refine j_iload_n 0 3 hX dL_law_827 rfl rfl ?_
  refine j_iconst (nI 3) hX dL_law_828 (by decide) ?_
  refine j_iadd hX dL_law_829 ?_
  refine j_sld hX dL_law_830 hs hb hA (sx1 ht (by omega) hL) (sx2 (xs := xs) ht (by omega) hL) ?_
  refine j_callX (m := 3) (As := [.int (xs (t + 1)), .int (xs (t + 2)), .int (xs (t + 3))]) (rest := []) hX dL_law_831 c1 rfl rfl hE hAe rfl kw_657 kw_658 mw_57 kw_656 kw_659 (by decide) rfl (by rw [hR]; exact ⟨Nat.le_of_ble_eq_true rfl, Nat.le_of_ble_eq_true rfl⟩) (Nat.le_of_ble_eq_true rfl) hnz ?_
  refine j_aload_n 1 2 hX dL_law_834 rfl rfl ?_
  refine j_aload_n 3 0 hX dL_law_835 rfl rfl ?_
  refine j_iload_n 0 3 hX dL_law_836 rfl rfl ?_
  refine j_iconst (nI 1) hX dL_law_837 (by decide) ?_
  refine j_iadd hX dL_law_838 ?_
  refine j_sld hX dL_law_839 hs hb hA (sx1 ht (by omega) hL) (sx2 (xs := xs) ht (by omega) hL) ?_
  refine j_aload_n 3 0 hX dL_law_840 rfl rfl ?_
  refine j_iload_n 0 3 hX dL_law_841 rfl rfl ?_
  refine j_iconst (nI 2) hX dL_law_842 (by decide) ?_
  refine j_iadd hX dL_law_843 ?_
  refine j_sld hX dL_law_844 hs hb hA (sx1 ht (by omega) hL) (sx2 (xs := xs) ht (by omega) hL) ?_
  refine j_aload_n 3 0 hX dL_law_845 rfl rfl ?_
  refine j_iload_n 0 3 hX dL_law_846 rfl rfl ?_
  refine j_iconst (nI 3) hX dL_law_847 (by decide) ?_
  refine j_iadd hX dL_law_848 ?_
  refine j_sld hX dL_law_849 hs hb hA (sx1 ht (by omega) hL) (sx2 (xs := xs) ht (by omega) hL) ?_
  refine j_callM (m := 3) (As := [.int (xs (t + 1)), .int (xs (t + 2)), .int (xs (t + 3))]) (rest := [.int r]) hX dL_law_850 c2 rfl rfl rfl kw_1137 kw_1138 mw_64 kw_1136 kw_1139 (by decide) rfl (by rw [hR]; exact ⟨Nat.le_of_ble_eq_true rfl, Nat.le_of_ble_eq_true rfl⟩) (Nat.le_of_ble_eq_true rfl) hnz ?_
  exact j_icmp_eq 1260 hX dL_law_853 rfl (fun _ => K σ' μ' h') (fun q => absurd rfl q)
theorem lc_22 (C : LC P M D cs ts A b L xs n z) (h : Sim σ μ) (ht : t + 6 ≤ L) (K : ∀ σ' μ', Sim σ' μ' → CJ P M D A 4 Q 1260 (lvL b (ad 0) (am 0) t) [] (wPic (xW D cs ad ts) σ' ++ wPic (mW D cs am) μ') n z) : CJ P M D A 4 Q 858 (lvL b (ad 0) (am 0) t) [] (wPic (xW D cs ad ts) σ ++ wPic (mW D cs am) μ) n z := by
  obtain ⟨hX, hE, hAe, hs, hb, hL, hR, hnz⟩ := C
  have hA : ¬ A b := by rw [hAe]; exact Nat.not_le.mpr hb
  obtain ⟨r, σ', μ', c1, c2, h'⟩ := p_law (l := P.2.1) (D := D) (cs := cs) (ad := ad) (am := am) (ts := ts) h (xs (t + 1)) (xs (t + 2))
  refine j_aload_n 2 1 hX dL_law_858 rfl rfl ?_
  refine j_aload_n 3 0 hX dL_law_859 rfl rfl ?_
  refine j_iload_n 0 3 hX dL_law_860 rfl rfl ?_
  refine j_iconst (nI 1) hX dL_law_861 (by decide) ?_
  refine j_iadd hX dL_law_862 ?_
  refine j_sld hX dL_law_863 hs hb hA (sx1 ht (by omega) hL) (sx2 (xs := xs) ht (by omega) hL) ?_
  refine j_aload_n 3 0 hX dL_law_864 rfl rfl ?_
  refine j_iload_n 0 3 hX dL_law_865 rfl rfl ?_
  refine j_iconst (nI 2) hX dL_law_866 (by decide) ?_
  refine j_iadd hX dL_law_867 ?_
  refine j_sld hX dL_law_868 hs hb hA (sx1 ht (by omega) hL) (sx2 (xs := xs) ht (by omega) hL) ?_
  refine j_callX (m := 2) (As := [.int (xs (t + 1)), .int (xs (t + 2))]) (rest := []) hX dL_law_869 c1 rfl rfl hE hAe rfl kw_681 kw_682 mw_57 kw_680 kw_683 (by decide) rfl (by rw [hR]; exact ⟨Nat.le_of_ble_eq_true rfl, Nat.le_of_ble_eq_true rfl⟩) (Nat.le_of_ble_eq_true rfl) hnz ?_
  refine j_aload_n 1 2 hX dL_law_872 rfl rfl ?_
  refine j_aload_n 3 0 hX dL_law_873 rfl rfl ?_
  refine j_iload_n 0 3 hX dL_law_874 rfl rfl ?_
  refine j_iconst (nI 1) hX dL_law_875 (by decide) ?_
  refine j_iadd hX dL_law_876 ?_
  refine j_sld hX dL_law_877 hs hb hA (sx1 ht (by omega) hL) (sx2 (xs := xs) ht (by omega) hL) ?_
  refine j_aload_n 3 0 hX dL_law_878 rfl rfl ?_
  refine j_iload_n 0 3 hX dL_law_879 rfl rfl ?_
  refine j_iconst (nI 2) hX dL_law_880 (by decide) ?_
  refine j_iadd hX dL_law_881 ?_
  refine j_sld hX dL_law_882 hs hb hA (sx1 ht (by omega) hL) (sx2 (xs := xs) ht (by omega) hL) ?_
  refine j_callM (m := 2) (As := [.int (xs (t + 1)), .int (xs (t + 2))]) (rest := [.int r]) hX dL_law_883 c2 rfl rfl rfl kw_1145 kw_1146 mw_64 kw_1144 kw_1147 (by decide) rfl (by rw [hR]; exact ⟨Nat.le_of_ble_eq_true rfl, Nat.le_of_ble_eq_true rfl⟩) (Nat.le_of_ble_eq_true rfl) hnz ?_
  exact j_icmp_eq 1260 hX dL_law_886 rfl (fun _ => K σ' μ' h') (fun q => absurd rfl q)
theorem lc_23 (C : LC P M D cs ts A b L xs n z) (h : Sim σ μ) (ht : t + 6 ≤ L) (K : ∀ σ' μ', Sim σ' μ' → CJ P M D A 4 Q 1260 (lvL b (ad 0) (am 0) t) [] (wPic (xW D cs ad ts) σ' ++ wPic (mW D cs am) μ') n z) : CJ P M D A 4 Q 891 (lvL b (ad 0) (am 0) t) [] (wPic (xW D cs ad ts) σ ++ wPic (mW D cs am) μ) n z := by
  obtain ⟨hX, hE, hAe, hs, hb, hL, hR, hnz⟩ := C
  have hA : ¬ A b := by rw [hAe]; exact Nat.not_le.mpr hb
  obtain ⟨r, σ', μ', c1, c2, h'⟩ := p_order (l := P.2.1) (D := D) (cs := cs) (ad := ad) (am := am) (ts := ts) h (xs (t + 1))
  refine j_aload_n 2 1 hX dL_law_891 rfl rfl ?_
  refine j_aload_n 3 0 hX dL_law_892 rfl rfl ?_
  refine j_iload_n 0 3 hX dL_law_893 rfl rfl ?_
  refine j_iconst (nI 1) hX dL_law_894 (by decide) ?_
  refine j_iadd hX dL_law_895 ?_
  refine j_sld hX dL_law_896 hs hb hA (sx1 ht (by omega) hL) (sx2 (xs := xs) ht (by omega) hL) ?_
  refine j_callX (m := 1) (As := [.int (xs (t + 1))]) (rest := []) hX dL_law_897 c1 rfl rfl hE hAe rfl kw_689 kw_690 mw_57 kw_688 kw_691 (by decide) rfl (by rw [hR]; exact ⟨Nat.le_of_ble_eq_true rfl, Nat.le_of_ble_eq_true rfl⟩) (Nat.le_of_ble_eq_true rfl) hnz ?_
  refine j_aload_n 1 2 hX dL_law_900 rfl rfl ?_
  refine j_aload_n 3 0 hX dL_law_901 rfl rfl ?_
  refine j_iload_n 0 3 hX dL_law_902 rfl rfl ?_
  refine j_iconst (nI 1) hX dL_law_903 (by decide) ?_
  refine j_iadd hX dL_law_904 ?_
  refine j_sld hX dL_law_905 hs hb hA (sx1 ht (by omega) hL) (sx2 (xs := xs) ht (by omega) hL) ?_
  refine j_callM (m := 1) (As := [.int (xs (t + 1))]) (rest := [.int r]) hX dL_law_906 c2 rfl rfl rfl kw_1149 kw_1150 mw_64 kw_1148 kw_1151 (by decide) rfl (by rw [hR]; exact ⟨Nat.le_of_ble_eq_true rfl, Nat.le_of_ble_eq_true rfl⟩) (Nat.le_of_ble_eq_true rfl) hnz ?_
  exact j_icmp_eq 1260 hX dL_law_909 rfl (fun _ => K σ' μ' h') (fun q => absurd rfl q)
theorem lc_24 (C : LC P M D cs ts A b L xs n z) (h : Sim σ μ) (ht : t + 6 ≤ L) (K : ∀ σ' μ', Sim σ' μ' → CJ P M D A 4 Q 1260 (lvL b (ad 0) (am 0) t) [] (wPic (xW D cs ad ts) σ' ++ wPic (mW D cs am) μ') n z) : CJ P M D A 4 Q 914 (lvL b (ad 0) (am 0) t) [] (wPic (xW D cs ad ts) σ ++ wPic (mW D cs am) μ) n z := by
  obtain ⟨hX, hE, hAe, hs, hb, hL, hR, hnz⟩ := C
  have hA : ¬ A b := by rw [hAe]; exact Nat.not_le.mpr hb
  obtain ⟨r, σ', μ', c1, c2, h'⟩ := p_blanks (l := P.2.1) (D := D) (cs := cs) (ad := ad) (am := am) (ts := ts) h (xs (t + 1)) (xs (t + 2))
  refine j_aload_n 2 1 hX dL_law_914 rfl rfl ?_
  refine j_aload_n 3 0 hX dL_law_915 rfl rfl ?_
  refine j_iload_n 0 3 hX dL_law_916 rfl rfl ?_
  refine j_iconst (nI 1) hX dL_law_917 (by decide) ?_
  refine j_iadd hX dL_law_918 ?_
  refine j_sld hX dL_law_919 hs hb hA (sx1 ht (by omega) hL) (sx2 (xs := xs) ht (by omega) hL) ?_
  refine j_aload_n 3 0 hX dL_law_920 rfl rfl ?_
  refine j_iload_n 0 3 hX dL_law_921 rfl rfl ?_
  refine j_iconst (nI 2) hX dL_law_922 (by decide) ?_
  refine j_iadd hX dL_law_923 ?_
  refine j_sld hX dL_law_924 hs hb hA (sx1 ht (by omega) hL) (sx2 (xs := xs) ht (by omega) hL) ?_
  refine j_callX (m := 2) (As := [.int (xs (t + 1)), .int (xs (t + 2))]) (rest := []) hX dL_law_925 c1 rfl rfl hE hAe rfl kw_707 kw_708 mw_57 kw_706 kw_709 (by decide) rfl (by rw [hR]; exact ⟨Nat.le_of_ble_eq_true rfl, Nat.le_of_ble_eq_true rfl⟩) (Nat.le_of_ble_eq_true rfl) hnz ?_
  refine j_aload_n 1 2 hX dL_law_928 rfl rfl ?_
  refine j_aload_n 3 0 hX dL_law_929 rfl rfl ?_
  refine j_iload_n 0 3 hX dL_law_930 rfl rfl ?_
  refine j_iconst (nI 1) hX dL_law_931 (by decide) ?_
  refine j_iadd hX dL_law_932 ?_
  refine j_sld hX dL_law_933 hs hb hA (sx1 ht (by omega) hL) (sx2 (xs := xs) ht (by omega) hL) ?_
  refine j_aload_n 3 0 hX dL_law_934 rfl rfl ?_
  refine j_iload_n 0 3 hX dL_law_935 rfl rfl ?_
  refine j_iconst (nI 2) hX dL_law_936 (by decide) ?_
  refine j_iadd hX dL_law_937 ?_
  refine j_sld hX dL_law_938 hs hb hA (sx1 ht (by omega) hL) (sx2 (xs := xs) ht (by omega) hL) ?_
  refine j_callM (m := 2) (As := [.int (xs (t + 1)), .int (xs (t + 2))]) (rest := [.int r]) hX dL_law_939 c2 rfl rfl rfl kw_1163 kw_1164 mw_64 kw_1162 kw_1165 (by decide) rfl (by rw [hR]; exact ⟨Nat.le_of_ble_eq_true rfl, Nat.le_of_ble_eq_true rfl⟩) (Nat.le_of_ble_eq_true rfl) hnz ?_
  exact j_icmp_eq 1260 hX dL_law_942 rfl (fun _ => K σ' μ' h') (fun q => absurd rfl q)
theorem lc_25 (C : LC P M D cs ts A b L xs n z) (h : Sim σ μ) (ht : t + 6 ≤ L) (K : ∀ σ' μ', Sim σ' μ' → CJ P M D A 4 Q 1260 (lvL b (ad 0) (am 0) t) [] (wPic (xW D cs ad ts) σ' ++ wPic (mW D cs am) μ') n z) : CJ P M D A 4 Q 947 (lvL b (ad 0) (am 0) t) [] (wPic (xW D cs ad ts) σ ++ wPic (mW D cs am) μ) n z := by
  obtain ⟨hX, hE, hAe, hs, hb, hL, hR, hnz⟩ := C
  have hA : ¬ A b := by rw [hAe]; exact Nat.not_le.mpr hb
  obtain ⟨r, σ', μ', c1, c2, h'⟩ := p_forged (l := P.2.1) (D := D) (cs := cs) (ad := ad) (am := am) (ts := ts) h (xs (t + 1)) (xs (t + 2))
  refine j_aload_n 2 1 hX dL_law_947 rfl rfl ?_
  refine j_aload_n 3 0 hX dL_law_948 rfl rfl ?_
  refine j_iload_n 0 3 hX dL_law_949 rfl rfl ?_
  refine j_iconst (nI 1) hX dL_law_950 (by decide) ?_
  refine j_iadd hX dL_law_951 ?_
  refine j_sld hX dL_law_952 hs hb hA (sx1 ht (by omega) hL) (sx2 (xs := xs) ht (by omega) hL) ?_
  refine j_aload_n 3 0 hX dL_law_953 rfl rfl ?_
  refine j_iload_n 0 3 hX dL_law_954 rfl rfl ?_
  refine j_iconst (nI 2) hX dL_law_955 (by decide) ?_
  refine j_iadd hX dL_law_956 ?_
  refine j_sld hX dL_law_957 hs hb hA (sx1 ht (by omega) hL) (sx2 (xs := xs) ht (by omega) hL) ?_
  refine j_callX (m := 2) (As := [.int (xs (t + 1)), .int (xs (t + 2))]) (rest := []) hX dL_law_958 c1 rfl rfl hE hAe rfl kw_721 kw_722 mw_57 kw_720 kw_723 (by decide) rfl (by rw [hR]; exact ⟨Nat.le_of_ble_eq_true rfl, Nat.le_of_ble_eq_true rfl⟩) (Nat.le_of_ble_eq_true rfl) hnz ?_
  refine j_aload_n 1 2 hX dL_law_961 rfl rfl ?_
  refine j_aload_n 3 0 hX dL_law_962 rfl rfl ?_
  refine j_iload_n 0 3 hX dL_law_963 rfl rfl ?_
  refine j_iconst (nI 1) hX dL_law_964 (by decide) ?_
  refine j_iadd hX dL_law_965 ?_
  refine j_sld hX dL_law_966 hs hb hA (sx1 ht (by omega) hL) (sx2 (xs := xs) ht (by omega) hL) ?_
  refine j_aload_n 3 0 hX dL_law_967 rfl rfl ?_
  refine j_iload_n 0 3 hX dL_law_968 rfl rfl ?_
  refine j_iconst (nI 2) hX dL_law_969 (by decide) ?_
  refine j_iadd hX dL_law_970 ?_
  refine j_sld hX dL_law_971 hs hb hA (sx1 ht (by omega) hL) (sx2 (xs := xs) ht (by omega) hL) ?_
  refine j_callM (m := 2) (As := [.int (xs (t + 1)), .int (xs (t + 2))]) (rest := [.int r]) hX dL_law_972 c2 rfl rfl rfl kw_1168 kw_1169 mw_64 kw_1167 kw_1170 (by decide) rfl (by rw [hR]; exact ⟨Nat.le_of_ble_eq_true rfl, Nat.le_of_ble_eq_true rfl⟩) (Nat.le_of_ble_eq_true rfl) hnz ?_
  exact j_icmp_eq 1260 hX dL_law_975 rfl (fun _ => K σ' μ' h') (fun q => absurd rfl q)
theorem lc_26 (C : LC P M D cs ts A b L xs n z) (h : Sim σ μ) (ht : t + 6 ≤ L) (K : ∀ σ' μ', Sim σ' μ' → CJ P M D A 4 Q 1260 (lvL b (ad 0) (am 0) t) [] (wPic (xW D cs ad ts) σ' ++ wPic (mW D cs am) μ') n z) : CJ P M D A 4 Q 980 (lvL b (ad 0) (am 0) t) [] (wPic (xW D cs ad ts) σ ++ wPic (mW D cs am) μ) n z := by
  obtain ⟨hX, hE, hAe, hs, hb, hL, hR, hnz⟩ := C
  have hA : ¬ A b := by rw [hAe]; exact Nat.not_le.mpr hb
  obtain ⟨r, σ', μ', c1, c2, h'⟩ := p_itself (l := P.2.1) (D := D) (cs := cs) (ad := ad) (am := am) (ts := ts) h (xs (t + 1)) (xs (t + 2)) (xs (t + 3))
  refine j_aload_n 2 1 hX dL_law_980 rfl rfl ?_
  refine j_aload_n 3 0 hX dL_law_981 rfl rfl ?_
  refine j_iload_n 0 3 hX dL_law_982 rfl rfl ?_
  refine j_iconst (nI 1) hX dL_law_983 (by decide) ?_
  refine j_iadd hX dL_law_984 ?_
  refine j_sld hX dL_law_985 hs hb hA (sx1 ht (by omega) hL) (sx2 (xs := xs) ht (by omega) hL) ?_
  refine j_aload_n 3 0 hX dL_law_986 rfl rfl ?_
  refine j_iload_n 0 3 hX dL_law_987 rfl rfl ?_
  refine j_iconst (nI 2) hX dL_law_988 (by decide) ?_
  refine j_iadd hX dL_law_989 ?_
  refine j_sld hX dL_law_990 hs hb hA (sx1 ht (by omega) hL) (sx2 (xs := xs) ht (by omega) hL) ?_
  refine j_aload_n 3 0 hX dL_law_991 rfl rfl ?_
  refine j_iload_n 0 3 hX dL_law_992 rfl rfl ?_
  refine j_iconst (nI 3) hX dL_law_993 (by decide) ?_
  refine j_iadd hX dL_law_994 ?_
  refine j_sld hX dL_law_995 hs hb hA (sx1 ht (by omega) hL) (sx2 (xs := xs) ht (by omega) hL) ?_
  refine j_callX (m := 3) (As := [.int (xs (t + 1)), .int (xs (t + 2)), .int (xs (t + 3))]) (rest := []) hX dL_law_996 c1 rfl rfl hE hAe rfl kw_734 kw_735 mw_57 kw_733 kw_736 (by decide) rfl (by rw [hR]; exact ⟨Nat.le_of_ble_eq_true rfl, Nat.le_of_ble_eq_true rfl⟩) (Nat.le_of_ble_eq_true rfl) hnz ?_
  refine j_aload_n 1 2 hX dL_law_999 rfl rfl ?_
  refine j_aload_n 3 0 hX dL_law_1000 rfl rfl ?_
  refine j_iload_n 0 3 hX dL_law_1001 rfl rfl ?_
  refine j_iconst (nI 1) hX dL_law_1002 (by decide) ?_
  refine j_iadd hX dL_law_1003 ?_
  refine j_sld hX dL_law_1004 hs hb hA (sx1 ht (by omega) hL) (sx2 (xs := xs) ht (by omega) hL) ?_
  refine j_aload_n 3 0 hX dL_law_1005 rfl rfl ?_
  refine j_iload_n 0 3 hX dL_law_1006 rfl rfl ?_
  refine j_iconst (nI 2) hX dL_law_1007 (by decide) ?_
  refine j_iadd hX dL_law_1008 ?_
  refine j_sld hX dL_law_1009 hs hb hA (sx1 ht (by omega) hL) (sx2 (xs := xs) ht (by omega) hL) ?_
  refine j_aload_n 3 0 hX dL_law_1010 rfl rfl ?_
  refine j_iload_n 0 3 hX dL_law_1011 rfl rfl ?_
  refine j_iconst (nI 3) hX dL_law_1012 (by decide) ?_
  refine j_iadd hX dL_law_1013 ?_
  refine j_sld hX dL_law_1014 hs hb hA (sx1 ht (by omega) hL) (sx2 (xs := xs) ht (by omega) hL) ?_
  refine j_callM (m := 3) (As := [.int (xs (t + 1)), .int (xs (t + 2)), .int (xs (t + 3))]) (rest := [.int r]) hX dL_law_1015 c2 rfl rfl rfl kw_1176 kw_1177 mw_64 kw_1175 kw_1178 (by decide) rfl (by rw [hR]; exact ⟨Nat.le_of_ble_eq_true rfl, Nat.le_of_ble_eq_true rfl⟩) (Nat.le_of_ble_eq_true rfl) hnz ?_
  exact j_icmp_eq 1260 hX dL_law_1018 rfl (fun _ => K σ' μ' h') (fun q => absurd rfl q)
theorem lc_27 (C : LC P M D cs ts A b L xs n z) (h : Sim σ μ) (ht : t + 6 ≤ L) (K : ∀ σ' μ', Sim σ' μ' → CJ P M D A 4 Q 1260 (lvL b (ad 0) (am 0) t) [] (wPic (xW D cs ad ts) σ' ++ wPic (mW D cs am) μ') n z) : CJ P M D A 4 Q 1023 (lvL b (ad 0) (am 0) t) [] (wPic (xW D cs ad ts) σ ++ wPic (mW D cs am) μ) n z := by
  obtain ⟨hX, hE, hAe, hs, hb, hL, hR, hnz⟩ := C
  have hA : ¬ A b := by rw [hAe]; exact Nat.not_le.mpr hb
  obtain ⟨r, σ', μ', c1, c2, h'⟩ := p_years (l := P.2.1) (D := D) (cs := cs) (ad := ad) (am := am) (ts := ts) h (xs (t + 1)) (xs (t + 2)) (xs (t + 3))
  refine j_aload_n 2 1 hX dL_law_1023 rfl rfl ?_
  refine j_aload_n 3 0 hX dL_law_1024 rfl rfl ?_
  refine j_iload_n 0 3 hX dL_law_1025 rfl rfl ?_
  refine j_iconst (nI 1) hX dL_law_1026 (by decide) ?_
  refine j_iadd hX dL_law_1027 ?_
  refine j_sld hX dL_law_1028 hs hb hA (sx1 ht (by omega) hL) (sx2 (xs := xs) ht (by omega) hL) ?_
  refine j_aload_n 3 0 hX dL_law_1029 rfl rfl ?_
  refine j_iload_n 0 3 hX dL_law_1030 rfl rfl ?_
  refine j_iconst (nI 2) hX dL_law_1031 (by decide) ?_
  refine j_iadd hX dL_law_1032 ?_
  refine j_sld hX dL_law_1033 hs hb hA (sx1 ht (by omega) hL) (sx2 (xs := xs) ht (by omega) hL) ?_
  refine j_aload_n 3 0 hX dL_law_1034 rfl rfl ?_
  refine j_iload_n 0 3 hX dL_law_1035 rfl rfl ?_
  refine j_iconst (nI 3) hX dL_law_1036 (by decide) ?_
  refine j_iadd hX dL_law_1037 ?_
  refine j_sld hX dL_law_1038 hs hb hA (sx1 ht (by omega) hL) (sx2 (xs := xs) ht (by omega) hL) ?_
  refine j_callX (m := 3) (As := [.int (xs (t + 1)), .int (xs (t + 2)), .int (xs (t + 3))]) (rest := []) hX dL_law_1039 c1 rfl rfl hE hAe rfl kw_742 kw_743 mw_57 kw_741 kw_744 (by decide) rfl (by rw [hR]; exact ⟨Nat.le_of_ble_eq_true rfl, Nat.le_of_ble_eq_true rfl⟩) (Nat.le_of_ble_eq_true rfl) hnz ?_
  refine j_aload_n 1 2 hX dL_law_1042 rfl rfl ?_
  refine j_aload_n 3 0 hX dL_law_1043 rfl rfl ?_
  refine j_iload_n 0 3 hX dL_law_1044 rfl rfl ?_
  refine j_iconst (nI 1) hX dL_law_1045 (by decide) ?_
  refine j_iadd hX dL_law_1046 ?_
  refine j_sld hX dL_law_1047 hs hb hA (sx1 ht (by omega) hL) (sx2 (xs := xs) ht (by omega) hL) ?_
  refine j_aload_n 3 0 hX dL_law_1048 rfl rfl ?_
  refine j_iload_n 0 3 hX dL_law_1049 rfl rfl ?_
  refine j_iconst (nI 2) hX dL_law_1050 (by decide) ?_
  refine j_iadd hX dL_law_1051 ?_
  refine j_sld hX dL_law_1052 hs hb hA (sx1 ht (by omega) hL) (sx2 (xs := xs) ht (by omega) hL) ?_
  refine j_aload_n 3 0 hX dL_law_1053 rfl rfl ?_
  refine j_iload_n 0 3 hX dL_law_1054 rfl rfl ?_
  refine j_iconst (nI 3) hX dL_law_1055 (by decide) ?_
  refine j_iadd hX dL_law_1056 ?_
  refine j_sld hX dL_law_1057 hs hb hA (sx1 ht (by omega) hL) (sx2 (xs := xs) ht (by omega) hL) ?_
  refine j_callM (m := 3) (As := [.int (xs (t + 1)), .int (xs (t + 2)), .int (xs (t + 3))]) (rest := [.int r]) hX dL_law_1058 c2 rfl rfl rfl kw_1180 kw_1181 mw_64 kw_1179 kw_1182 (by decide) rfl (by rw [hR]; exact ⟨Nat.le_of_ble_eq_true rfl, Nat.le_of_ble_eq_true rfl⟩) (Nat.le_of_ble_eq_true rfl) hnz ?_
  exact j_icmp_eq 1260 hX dL_law_1061 rfl (fun _ => K σ' μ' h') (fun q => absurd rfl q)
theorem lc_28 (C : LC P M D cs ts A b L xs n z) (h : Sim σ μ) (ht : t + 6 ≤ L) (K : ∀ σ' μ', Sim σ' μ' → CJ P M D A 4 Q 1260 (lvL b (ad 0) (am 0) t) [] (wPic (xW D cs ad ts) σ' ++ wPic (mW D cs am) μ') n z) : CJ P M D A 4 Q 1066 (lvL b (ad 0) (am 0) t) [] (wPic (xW D cs ad ts) σ ++ wPic (mW D cs am) μ) n z := by
  obtain ⟨hX, hE, hAe, hs, hb, hL, hR, hnz⟩ := C
  have hA : ¬ A b := by rw [hAe]; exact Nat.not_le.mpr hb
  obtain ⟨r, σ', μ', c1, c2, h'⟩ := p_image (l := P.2.1) (D := D) (cs := cs) (ad := ad) (am := am) (ts := ts) h (xs (t + 1))
  refine j_aload_n 2 1 hX dL_law_1066 rfl rfl ?_
  refine j_aload_n 3 0 hX dL_law_1067 rfl rfl ?_
  refine j_iload_n 0 3 hX dL_law_1068 rfl rfl ?_
  refine j_iconst (nI 1) hX dL_law_1069 (by decide) ?_
  refine j_iadd hX dL_law_1070 ?_
  refine j_sld hX dL_law_1071 hs hb hA (sx1 ht (by omega) hL) (sx2 (xs := xs) ht (by omega) hL) ?_
  refine j_callX (m := 1) (As := [.int (xs (t + 1))]) (rest := []) hX dL_law_1072 c1 rfl rfl hE hAe rfl kw_755 kw_756 mw_57 kw_754 kw_757 (by decide) rfl (by rw [hR]; exact ⟨Nat.le_of_ble_eq_true rfl, Nat.le_of_ble_eq_true rfl⟩) (Nat.le_of_ble_eq_true rfl) hnz ?_
  refine j_aload_n 1 2 hX dL_law_1075 rfl rfl ?_
  refine j_aload_n 3 0 hX dL_law_1076 rfl rfl ?_
  refine j_iload_n 0 3 hX dL_law_1077 rfl rfl ?_
  refine j_iconst (nI 1) hX dL_law_1078 (by decide) ?_
  refine j_iadd hX dL_law_1079 ?_
  refine j_sld hX dL_law_1080 hs hb hA (sx1 ht (by omega) hL) (sx2 (xs := xs) ht (by omega) hL) ?_
  refine j_callM (m := 1) (As := [.int (xs (t + 1))]) (rest := [.int r]) hX dL_law_1081 c2 rfl rfl rfl kw_1188 kw_1189 mw_64 kw_1187 kw_1190 (by decide) rfl (by rw [hR]; exact ⟨Nat.le_of_ble_eq_true rfl, Nat.le_of_ble_eq_true rfl⟩) (Nat.le_of_ble_eq_true rfl) hnz ?_
  exact j_icmp_eq 1260 hX dL_law_1084 rfl (fun _ => K σ' μ' h') (fun q => absurd rfl q)
theorem lc_29 (C : LC P M D cs ts A b L xs n z) (h : Sim σ μ) (ht : t + 6 ≤ L) (K : ∀ σ' μ', Sim σ' μ' → CJ P M D A 4 Q 1260 (lvL b (ad 0) (am 0) t) [] (wPic (xW D cs ad ts) σ' ++ wPic (mW D cs am) μ') n z) : CJ P M D A 4 Q 1089 (lvL b (ad 0) (am 0) t) [] (wPic (xW D cs ad ts) σ ++ wPic (mW D cs am) μ) n z := by
  obtain ⟨hX, hE, hAe, hs, hb, hL, hR, hnz⟩ := C
  have hA : ¬ A b := by rw [hAe]; exact Nat.not_le.mpr hb
  obtain ⟨r, σ', μ', c1, c2, h'⟩ := p_restore (l := P.2.1) (D := D) (cs := cs) (ad := ad) (am := am) (ts := ts) h (xs (t + 1))
  refine j_aload_n 2 1 hX dL_law_1089 rfl rfl ?_
  refine j_aload_n 3 0 hX dL_law_1090 rfl rfl ?_
  refine j_iload_n 0 3 hX dL_law_1091 rfl rfl ?_
  refine j_iconst (nI 1) hX dL_law_1092 (by decide) ?_
  refine j_iadd hX dL_law_1093 ?_
  refine j_sld hX dL_law_1094 hs hb hA (sx1 ht (by omega) hL) (sx2 (xs := xs) ht (by omega) hL) ?_
  refine j_callX (m := 1) (As := [.int (xs (t + 1))]) (rest := []) hX dL_law_1095 c1 rfl rfl hE hAe rfl kw_763 kw_764 mw_57 kw_762 kw_765 (by decide) rfl (by rw [hR]; exact ⟨Nat.le_of_ble_eq_true rfl, Nat.le_of_ble_eq_true rfl⟩) (Nat.le_of_ble_eq_true rfl) hnz ?_
  refine j_aload_n 1 2 hX dL_law_1098 rfl rfl ?_
  refine j_aload_n 3 0 hX dL_law_1099 rfl rfl ?_
  refine j_iload_n 0 3 hX dL_law_1100 rfl rfl ?_
  refine j_iconst (nI 1) hX dL_law_1101 (by decide) ?_
  refine j_iadd hX dL_law_1102 ?_
  refine j_sld hX dL_law_1103 hs hb hA (sx1 ht (by omega) hL) (sx2 (xs := xs) ht (by omega) hL) ?_
  refine j_callM (m := 1) (As := [.int (xs (t + 1))]) (rest := [.int r]) hX dL_law_1104 c2 rfl rfl rfl kw_1192 kw_1193 mw_64 kw_1191 kw_1194 (by decide) rfl (by rw [hR]; exact ⟨Nat.le_of_ble_eq_true rfl, Nat.le_of_ble_eq_true rfl⟩) (Nat.le_of_ble_eq_true rfl) hnz ?_
  exact j_icmp_eq 1260 hX dL_law_1107 rfl (fun _ => K σ' μ' h') (fun q => absurd rfl q)
theorem lc_30 (C : LC P M D cs ts A b L xs n z) (h : Sim σ μ) (ht : t + 6 ≤ L) (K : ∀ σ' μ', Sim σ' μ' → CJ P M D A 4 Q 1260 (lvL b (ad 0) (am 0) t) [] (wPic (xW D cs ad ts) σ' ++ wPic (mW D cs am) μ') n z) : CJ P M D A 4 Q 1112 (lvL b (ad 0) (am 0) t) [] (wPic (xW D cs ad ts) σ ++ wPic (mW D cs am) μ) n z := by
  obtain ⟨hX, hE, hAe, hs, hb, hL, hR, hnz⟩ := C
  have hA : ¬ A b := by rw [hAe]; exact Nat.not_le.mpr hb
  obtain ⟨r, σ', μ', c1, c2, h'⟩ := p_kind (l := P.2.1) (D := D) (cs := cs) (ad := ad) (am := am) (ts := ts) h (xs (t + 1))
  refine j_aload_n 2 1 hX dL_law_1112 rfl rfl ?_
  refine j_aload_n 3 0 hX dL_law_1113 rfl rfl ?_
  refine j_iload_n 0 3 hX dL_law_1114 rfl rfl ?_
  refine j_iconst (nI 1) hX dL_law_1115 (by decide) ?_
  refine j_iadd hX dL_law_1116 ?_
  refine j_sld hX dL_law_1117 hs hb hA (sx1 ht (by omega) hL) (sx2 (xs := xs) ht (by omega) hL) ?_
  refine j_callX (m := 1) (As := [.int (xs (t + 1))]) (rest := []) hX dL_law_1118 c1 rfl rfl hE hAe rfl kw_767 kw_768 mw_57 kw_766 kw_769 (by decide) rfl (by rw [hR]; exact ⟨Nat.le_of_ble_eq_true rfl, Nat.le_of_ble_eq_true rfl⟩) (Nat.le_of_ble_eq_true rfl) hnz ?_
  refine j_aload_n 1 2 hX dL_law_1121 rfl rfl ?_
  refine j_aload_n 3 0 hX dL_law_1122 rfl rfl ?_
  refine j_iload_n 0 3 hX dL_law_1123 rfl rfl ?_
  refine j_iconst (nI 1) hX dL_law_1124 (by decide) ?_
  refine j_iadd hX dL_law_1125 ?_
  refine j_sld hX dL_law_1126 hs hb hA (sx1 ht (by omega) hL) (sx2 (xs := xs) ht (by omega) hL) ?_
  refine j_callM (m := 1) (As := [.int (xs (t + 1))]) (rest := [.int r]) hX dL_law_1127 c2 rfl rfl rfl kw_1196 kw_1197 mw_64 kw_1195 kw_1198 (by decide) rfl (by rw [hR]; exact ⟨Nat.le_of_ble_eq_true rfl, Nat.le_of_ble_eq_true rfl⟩) (Nat.le_of_ble_eq_true rfl) hnz ?_
  exact j_icmp_eq 1260 hX dL_law_1130 rfl (fun _ => K σ' μ' h') (fun q => absurd rfl q)
theorem lc_31 (C : LC P M D cs ts A b L xs n z) (h : Sim σ μ) (ht : t + 6 ≤ L) (K : ∀ σ' μ', Sim σ' μ' → CJ P M D A 4 Q 1260 (lvL b (ad 0) (am 0) t) [] (wPic (xW D cs ad ts) σ' ++ wPic (mW D cs am) μ') n z) : CJ P M D A 4 Q 1135 (lvL b (ad 0) (am 0) t) [] (wPic (xW D cs ad ts) σ ++ wPic (mW D cs am) μ) n z := by
  obtain ⟨hX, hE, hAe, hs, hb, hL, hR, hnz⟩ := C
  have hA : ¬ A b := by rw [hAe]; exact Nat.not_le.mpr hb
  obtain ⟨r, σ', μ', c1, c2, h'⟩ := p_as (l := P.2.1) (D := D) (cs := cs) (ad := ad) (am := am) (ts := ts) h (xs (t + 1)) (xs (t + 2))
  refine j_aload_n 2 1 hX dL_law_1135 rfl rfl ?_
  refine j_aload_n 3 0 hX dL_law_1136 rfl rfl ?_
  refine j_iload_n 0 3 hX dL_law_1137 rfl rfl ?_
  refine j_iconst (nI 1) hX dL_law_1138 (by decide) ?_
  refine j_iadd hX dL_law_1139 ?_
  refine j_sld hX dL_law_1140 hs hb hA (sx1 ht (by omega) hL) (sx2 (xs := xs) ht (by omega) hL) ?_
  refine j_aload_n 3 0 hX dL_law_1141 rfl rfl ?_
  refine j_iload_n 0 3 hX dL_law_1142 rfl rfl ?_
  refine j_iconst (nI 2) hX dL_law_1143 (by decide) ?_
  refine j_iadd hX dL_law_1144 ?_
  refine j_sld hX dL_law_1145 hs hb hA (sx1 ht (by omega) hL) (sx2 (xs := xs) ht (by omega) hL) ?_
  refine j_callX (m := 2) (As := [.int (xs (t + 1)), .int (xs (t + 2))]) (rest := []) hX dL_law_1146 c1 rfl rfl hE hAe rfl kw_771 kw_772 mw_57 kw_770 kw_773 (by decide) rfl (by rw [hR]; exact ⟨Nat.le_of_ble_eq_true rfl, Nat.le_of_ble_eq_true rfl⟩) (Nat.le_of_ble_eq_true rfl) hnz ?_
  refine j_aload_n 1 2 hX dL_law_1149 rfl rfl ?_
  refine j_aload_n 3 0 hX dL_law_1150 rfl rfl ?_
  refine j_iload_n 0 3 hX dL_law_1151 rfl rfl ?_
  refine j_iconst (nI 1) hX dL_law_1152 (by decide) ?_
  refine j_iadd hX dL_law_1153 ?_
  refine j_sld hX dL_law_1154 hs hb hA (sx1 ht (by omega) hL) (sx2 (xs := xs) ht (by omega) hL) ?_
  refine j_aload_n 3 0 hX dL_law_1155 rfl rfl ?_
  refine j_iload_n 0 3 hX dL_law_1156 rfl rfl ?_
  refine j_iconst (nI 2) hX dL_law_1157 (by decide) ?_
  refine j_iadd hX dL_law_1158 ?_
  refine j_sld hX dL_law_1159 hs hb hA (sx1 ht (by omega) hL) (sx2 (xs := xs) ht (by omega) hL) ?_
  refine j_callM (m := 2) (As := [.int (xs (t + 1)), .int (xs (t + 2))]) (rest := [.int r]) hX dL_law_1160 c2 rfl rfl rfl kw_1200 kw_1201 mw_64 kw_1199 kw_1202 (by decide) rfl (by rw [hR]; exact ⟨Nat.le_of_ble_eq_true rfl, Nat.le_of_ble_eq_true rfl⟩) (Nat.le_of_ble_eq_true rfl) hnz ?_
  exact j_icmp_eq 1260 hX dL_law_1163 rfl (fun _ => K σ' μ' h') (fun q => absurd rfl q)
theorem lc_32 (C : LC P M D cs ts A b L xs n z) (h : Sim σ μ) (ht : t + 6 ≤ L) (K : ∀ σ' μ', Sim σ' μ' → CJ P M D A 4 Q 1260 (lvL b (ad 0) (am 0) t) [] (wPic (xW D cs ad ts) σ' ++ wPic (mW D cs am) μ') n z) : CJ P M D A 4 Q 1168 (lvL b (ad 0) (am 0) t) [] (wPic (xW D cs ad ts) σ ++ wPic (mW D cs am) μ) n z := by
  obtain ⟨hX, hE, hAe, hs, hb, hL, hR, hnz⟩ := C
  have hA : ¬ A b := by rw [hAe]; exact Nat.not_le.mpr hb
  obtain ⟨r, σ', μ', c1, c2, h'⟩ := p_ask (l := P.2.1) (D := D) (cs := cs) (ad := ad) (am := am) (ts := ts) h (xs (t + 1)) (xs (t + 2))
  refine j_aload_n 2 1 hX dL_law_1168 rfl rfl ?_
  refine j_aload_n 3 0 hX dL_law_1169 rfl rfl ?_
  refine j_iload_n 0 3 hX dL_law_1170 rfl rfl ?_
  refine j_iconst (nI 1) hX dL_law_1171 (by decide) ?_
  refine j_iadd hX dL_law_1172 ?_
  refine j_sld hX dL_law_1173 hs hb hA (sx1 ht (by omega) hL) (sx2 (xs := xs) ht (by omega) hL) ?_
  refine j_aload_n 3 0 hX dL_law_1174 rfl rfl ?_
  refine j_iload_n 0 3 hX dL_law_1175 rfl rfl ?_
  refine j_iconst (nI 2) hX dL_law_1176 (by decide) ?_
  refine j_iadd hX dL_law_1177 ?_
  refine j_sld hX dL_law_1178 hs hb hA (sx1 ht (by omega) hL) (sx2 (xs := xs) ht (by omega) hL) ?_
  refine j_callX (m := 2) (As := [.int (xs (t + 1)), .int (xs (t + 2))]) (rest := []) hX dL_law_1179 c1 rfl rfl hE hAe rfl kw_780 kw_781 mw_57 kw_779 kw_782 (by decide) rfl (by rw [hR]; exact ⟨Nat.le_of_ble_eq_true rfl, Nat.le_of_ble_eq_true rfl⟩) (Nat.le_of_ble_eq_true rfl) hnz ?_
  refine j_aload_n 1 2 hX dL_law_1182 rfl rfl ?_
  refine j_aload_n 3 0 hX dL_law_1183 rfl rfl ?_
  refine j_iload_n 0 3 hX dL_law_1184 rfl rfl ?_
  refine j_iconst (nI 1) hX dL_law_1185 (by decide) ?_
  refine j_iadd hX dL_law_1186 ?_
  refine j_sld hX dL_law_1187 hs hb hA (sx1 ht (by omega) hL) (sx2 (xs := xs) ht (by omega) hL) ?_
  refine j_aload_n 3 0 hX dL_law_1188 rfl rfl ?_
  refine j_iload_n 0 3 hX dL_law_1189 rfl rfl ?_
  refine j_iconst (nI 2) hX dL_law_1190 (by decide) ?_
  refine j_iadd hX dL_law_1191 ?_
  refine j_sld hX dL_law_1192 hs hb hA (sx1 ht (by omega) hL) (sx2 (xs := xs) ht (by omega) hL) ?_
  refine j_callM (m := 2) (As := [.int (xs (t + 1)), .int (xs (t + 2))]) (rest := [.int r]) hX dL_law_1193 c2 rfl rfl rfl kw_1207 kw_1208 mw_64 kw_1206 kw_1209 (by decide) rfl (by rw [hR]; exact ⟨Nat.le_of_ble_eq_true rfl, Nat.le_of_ble_eq_true rfl⟩) (Nat.le_of_ble_eq_true rfl) hnz ?_
  exact j_icmp_eq 1260 hX dL_law_1196 rfl (fun _ => K σ' μ' h') (fun q => absurd rfl q)
theorem lc_33 (C : LC P M D cs ts A b L xs n z) (h : Sim σ μ) (ht : t + 6 ≤ L) (K : ∀ σ' μ', Sim σ' μ' → CJ P M D A 4 Q 1260 (lvL b (ad 0) (am 0) t) [] (wPic (xW D cs ad ts) σ' ++ wPic (mW D cs am) μ') n z) : CJ P M D A 4 Q 1201 (lvL b (ad 0) (am 0) t) [] (wPic (xW D cs ad ts) σ ++ wPic (mW D cs am) μ) n z := by
  obtain ⟨hX, hE, hAe, hs, hb, hL, hR, hnz⟩ := C
  have hA : ¬ A b := by rw [hAe]; exact Nat.not_le.mpr hb
  obtain ⟨r, σ', μ', c1, c2, h'⟩ := p_trace (l := P.2.1) (D := D) (cs := cs) (ad := ad) (am := am) (ts := ts) h (xs (t + 1))
  refine j_aload_n 2 1 hX dL_law_1201 rfl rfl ?_
  refine j_aload_n 3 0 hX dL_law_1202 rfl rfl ?_
  refine j_iload_n 0 3 hX dL_law_1203 rfl rfl ?_
  refine j_iconst (nI 1) hX dL_law_1204 (by decide) ?_
  refine j_iadd hX dL_law_1205 ?_
  refine j_sld hX dL_law_1206 hs hb hA (sx1 ht (by omega) hL) (sx2 (xs := xs) ht (by omega) hL) ?_
  refine j_callX (m := 1) (As := [.int (xs (t + 1))]) (rest := []) hX dL_law_1207 c1 rfl rfl hE hAe rfl kw_813 kw_814 mw_57 kw_812 kw_815 (by decide) rfl (by rw [hR]; exact ⟨Nat.le_of_ble_eq_true rfl, Nat.le_of_ble_eq_true rfl⟩) (Nat.le_of_ble_eq_true rfl) hnz ?_
  refine j_aload_n 1 2 hX dL_law_1210 rfl rfl ?_
  refine j_aload_n 3 0 hX dL_law_1211 rfl rfl ?_
  refine j_iload_n 0 3 hX dL_law_1212 rfl rfl ?_
  refine j_iconst (nI 1) hX dL_law_1213 (by decide) ?_
  refine j_iadd hX dL_law_1214 ?_
  refine j_sld hX dL_law_1215 hs hb hA (sx1 ht (by omega) hL) (sx2 (xs := xs) ht (by omega) hL) ?_
  refine j_callM (m := 1) (As := [.int (xs (t + 1))]) (rest := [.int r]) hX dL_law_1216 c2 rfl rfl rfl kw_1235 kw_1236 mw_64 kw_1234 kw_1237 (by decide) rfl (by rw [hR]; exact ⟨Nat.le_of_ble_eq_true rfl, Nat.le_of_ble_eq_true rfl⟩) (Nat.le_of_ble_eq_true rfl) hnz ?_
  exact j_icmp_eq 1260 hX dL_law_1219 rfl (fun _ => K σ' μ' h') (fun q => absurd rfl q)
theorem lc_34 (C : LC P M D cs ts A b L xs n z) (h : Sim σ μ) (ht : t + 6 ≤ L) (K : ∀ σ' μ', Sim σ' μ' → CJ P M D A 4 Q 1260 (lvL b (ad 0) (am 0) t) [] (wPic (xW D cs ad ts) σ' ++ wPic (mW D cs am) μ') n z) : CJ P M D A 4 Q 1224 (lvL b (ad 0) (am 0) t) [] (wPic (xW D cs ad ts) σ ++ wPic (mW D cs am) μ) n z := by
  obtain ⟨hX, hE, hAe, hs, hb, hL, hR, hnz⟩ := C
  have hA : ¬ A b := by rw [hAe]; exact Nat.not_le.mpr hb
  obtain ⟨r, σ', μ', c1, c2, h'⟩ := p_count (l := P.2.1) (D := D) (cs := cs) (ad := ad) (am := am) (ts := ts) h (xs (t + 1))
  refine j_aload_n 2 1 hX dL_law_1224 rfl rfl ?_
  refine j_aload_n 3 0 hX dL_law_1225 rfl rfl ?_
  refine j_iload_n 0 3 hX dL_law_1226 rfl rfl ?_
  refine j_iconst (nI 1) hX dL_law_1227 (by decide) ?_
  refine j_iadd hX dL_law_1228 ?_
  refine j_sld hX dL_law_1229 hs hb hA (sx1 ht (by omega) hL) (sx2 (xs := xs) ht (by omega) hL) ?_
  refine j_callX (m := 1) (As := [.int (xs (t + 1))]) (rest := []) hX dL_law_1230 c1 rfl rfl hE hAe rfl kw_817 kw_818 mw_57 kw_816 kw_819 (by decide) rfl (by rw [hR]; exact ⟨Nat.le_of_ble_eq_true rfl, Nat.le_of_ble_eq_true rfl⟩) (Nat.le_of_ble_eq_true rfl) hnz ?_
  refine j_aload_n 1 2 hX dL_law_1233 rfl rfl ?_
  refine j_aload_n 3 0 hX dL_law_1234 rfl rfl ?_
  refine j_iload_n 0 3 hX dL_law_1235 rfl rfl ?_
  refine j_iconst (nI 1) hX dL_law_1236 (by decide) ?_
  refine j_iadd hX dL_law_1237 ?_
  refine j_sld hX dL_law_1238 hs hb hA (sx1 ht (by omega) hL) (sx2 (xs := xs) ht (by omega) hL) ?_
  refine j_callM (m := 1) (As := [.int (xs (t + 1))]) (rest := [.int r]) hX dL_law_1239 c2 rfl rfl rfl kw_1239 kw_1240 mw_64 kw_1238 kw_1241 (by decide) rfl (by rw [hR]; exact ⟨Nat.le_of_ble_eq_true rfl, Nat.le_of_ble_eq_true rfl⟩) (Nat.le_of_ble_eq_true rfl) hnz ?_
  exact j_icmp_eq 1260 hX dL_law_1242 rfl (fun _ => K σ' μ' h') (fun q => absurd rfl q)
theorem lc_35 (C : LC P M D cs ts A b L xs n z) (h : Sim σ μ) (ht : t + 6 ≤ L) (K : ∀ σ' μ', Sim σ' μ' → CJ P M D A 4 Q 1260 (lvL b (ad 0) (am 0) t) [] (wPic (xW D cs ad ts) σ' ++ wPic (mW D cs am) μ') n z) : CJ P M D A 4 Q 1247 (lvL b (ad 0) (am 0) t) [] (wPic (xW D cs ad ts) σ ++ wPic (mW D cs am) μ) n z := by
  obtain ⟨hX, hE, hAe, hs, hb, hL, hR, hnz⟩ := C
  have hA : ¬ A b := by rw [hAe]; exact Nat.not_le.mpr hb
  obtain ⟨r, σ', μ', c1, c2, h'⟩ := p_status (l := P.2.1) (D := D) (cs := cs) (ad := ad) (am := am) (ts := ts) h
  refine j_aload_n 2 1 hX dL_law_1247 rfl rfl ?_
  refine j_callX (m := 0) (As := []) (rest := []) hX dL_law_1248 c1 rfl rfl hE hAe rfl kw_827 kw_828 mw_57 kw_826 kw_829 (by decide) rfl (by rw [hR]; exact ⟨Nat.le_of_ble_eq_true rfl, Nat.le_of_ble_eq_true rfl⟩) (Nat.le_of_ble_eq_true rfl) hnz ?_
  refine j_aload_n 1 2 hX dL_law_1251 rfl rfl ?_
  refine j_callM (m := 0) (As := []) (rest := [.int r]) hX dL_law_1252 c2 rfl rfl rfl kw_1246 kw_1247 mw_64 kw_1245 kw_1248 (by decide) rfl (by rw [hR]; exact ⟨Nat.le_of_ble_eq_true rfl, Nat.le_of_ble_eq_true rfl⟩) (Nat.le_of_ble_eq_true rfl) hnz ?_
  exact j_icmp_eq 1260 hX dL_law_1255 rfl (fun _ => K σ' μ' h') (fun q => absurd rfl q)
end LCASES
