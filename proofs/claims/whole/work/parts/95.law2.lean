theorem dlS_le {s : Sg} {c1 c2 : Sl} {bk : Option Bool} : dlS s c1 c2 bk ≤ 1 := by
  unfold dlS dl
  repeat' split
  all_goals simp
section
variable {E : Wd} {X : Mx} {Q : Option Value → Hp → Prop} {b L O M j kc nc : Nat} {xs : Nat → Int32} {h : Hp} {s : Sg}
theorem zl_op0 (C : CL E X Q) (SX : va_X b L xs (xS X) (eH E)) (hb : b < eZ E) (hL : L ≤ 3584) (hB : ∀ g, qF g → bnd g) (hj : 7 * j + 7 ≤ L) (I : IV E O M j kc nc h s) (next : ∀ kc' nc' h' s', IV E O M (j + 1) kc' nc' h' s' → GG E X 4 kc' nc' 670 (lcL b O M (7 * j)) [] h') : GG E X 4 kc nc 128 (lcL b O M (7 * j)) [] h := by
  obtain ⟨c1, c2, bt, bk, A, f, CC, R, S, hk, hn⟩ := I
  have ht1 := tn_le c1
  have ht2 := tn_le c2
  refine zg_aload_n C dL_law_128 rfl rfl ?_
  refine zl_push (r := 1) C SX hb hL (by omega) dL_law_129 dL_law_130 dL_law_131 (by decide) dL_law_132 dL_law_133 rfl ?_
  refine zl_push (r := 2) C SX hb hL (by omega) dL_law_134 dL_law_135 dL_law_136 (by decide) dL_law_137 dL_law_138 rfl ?_
  refine zl_push (r := 3) C SX hb hL (by omega) dL_law_139 dL_law_140 dL_law_141 (by decide) dL_law_142 dL_law_143 rfl ?_
  refine zl_push (r := 4) C SX hb hL (by omega) dL_law_144 dL_law_145 dL_law_146 (by decide) dL_law_147 dL_law_148 rfl ?_
  refine zl_push (r := 5) C SX hb hL (by omega) dL_law_149 dL_law_150 dL_law_151 (by decide) dL_law_152 dL_law_153 rfl ?_
  refine zl_pushB (r := 6) C SX hb hL (by omega) dL_law_154 dL_law_155 dL_law_156 (by decide) dL_law_158 dL_law_159 rfl ?_
  refine zl_ci (av := [.int (xs (7 * j + 1)), .int (xs (7 * j + 2)), .int (xs (7 * j + 3)), .int (xs (7 * j + 4)), .int (xs (7 * j + 5)), .int (xs (7 * j + 6))]) (rest := []) C mX7_feed vX7_feed lmL_13 (bX7).1 ⟨_, CC.1⟩ rfl rfl (by decide) ⟨by omega, by omega⟩ dL_law_160 rfl (c_feed CC (fun h1 C1 F1 => ?_))
  have R1 := zl_rf R F1
  refine zg_aload_n C dL_law_163 rfl rfl ?_
  refine zl_push (r := 1) C SX hb hL (by omega) dL_law_164 dL_law_165 dL_law_166 (by decide) dL_law_167 dL_law_168 rfl ?_
  refine zl_push (r := 2) C SX hb hL (by omega) dL_law_169 dL_law_170 dL_law_171 (by decide) dL_law_172 dL_law_173 rfl ?_
  refine zl_push (r := 3) C SX hb hL (by omega) dL_law_174 dL_law_175 dL_law_176 (by decide) dL_law_177 dL_law_178 rfl ?_
  refine zl_push (r := 4) C SX hb hL (by omega) dL_law_179 dL_law_180 dL_law_181 (by decide) dL_law_182 dL_law_183 rfl ?_
  refine zl_push (r := 5) C SX hb hL (by omega) dL_law_184 dL_law_185 dL_law_186 (by decide) dL_law_187 dL_law_188 rfl ?_
  refine zl_pushB (r := 6) C SX hb hL (by omega) dL_law_189 dL_law_190 dL_law_191 (by decide) dL_law_193 dL_law_194 rfl ?_
  refine zl_cj (av := [.int (xs (7 * j + 1)), .int (xs (7 * j + 2)), .int (xs (7 * j + 3)), .int (xs (7 * j + 4)), .int (xs (7 * j + 5)), .int (xs (7 * j + 6))]) (rest := [.int _]) C mX8_feed vX8_feed lmL_17 (bX8).1 ⟨_, R1.obj⟩ rfl rfl (by simp) ⟨by omega, by omega⟩ dL_law_195 rfl (k_feed (mc := 1) (ms := 5) R1 S C1.2.2.2.2.2.2.2.2.2.2 ⟨by omega, by omega⟩ (fun h2 A2 f2 R2 S2 => ?_))
  exact zl_cmp C dL_law_198 rfl (next _ _ _ _ (zl_iv C1 R2 S2 (by omega) (by omega)))
theorem zl_op1 (C : CL E X Q) (SX : va_X b L xs (xS X) (eH E)) (hb : b < eZ E) (hL : L ≤ 3584) (hB : ∀ g, qF g → bnd g) (hj : 7 * j + 7 ≤ L) (I : IV E O M j kc nc h s) (next : ∀ kc' nc' h' s', IV E O M (j + 1) kc' nc' h' s' → GG E X 4 kc' nc' 670 (lcL b O M (7 * j)) [] h') : GG E X 4 kc nc 203 (lcL b O M (7 * j)) [] h := by
  obtain ⟨c1, c2, bt, bk, A, f, CC, R, S, hk, hn⟩ := I
  have ht1 := tn_le c1
  have ht2 := tn_le c2
  refine zg_aload_n C dL_law_203 rfl rfl ?_
  have hdl : dlS s c1 c2 bk ≤ 1 := dlS_le
  refine zl_cj (av := []) (rest := []) C mX7_define vX7_define lmL_18 (bX7).1 ⟨_, CC.1⟩ rfl rfl (by decide) ⟨by omega, by omega⟩ dL_law_204 rfl (c_define (mc := 12 + 9 * dlS s c1 c2 bk) (ms := 1014 + 33640 * dlS s c1 c2 bk) hB CC ⟨Nat.le_refl _, Nat.le_refl _⟩ (fun h1 c1' c2' bt' C1 hn1 F1 => ?_))
  have R1 := zl_rf R F1
  refine zg_aload_n C dL_law_207 rfl rfl ?_
  refine zl_ci (av := []) (rest := [.int _]) C mX8_define vX8_define lmL_22 (bX8).1 ⟨_, R1.obj⟩ rfl rfl (by simp) ⟨by omega, by omega⟩ dL_law_208 rfl (k_define R1 S (fun h2 A2 f2 R2 S2 => ?_))
  exact zl_cmp C dL_law_211 rfl (next _ _ _ _ (zl_iv C1 R2 S2 (by omega) (by omega)))
theorem zl_op2 (C : CL E X Q) (SX : va_X b L xs (xS X) (eH E)) (hb : b < eZ E) (hL : L ≤ 3584) (hB : ∀ g, qF g → bnd g) (hj : 7 * j + 7 ≤ L) (I : IV E O M j kc nc h s) (next : ∀ kc' nc' h' s', IV E O M (j + 1) kc' nc' h' s' → GG E X 4 kc' nc' 670 (lcL b O M (7 * j)) [] h') : GG E X 4 kc nc 216 (lcL b O M (7 * j)) [] h := by
  obtain ⟨c1, c2, bt, bk, A, f, CC, R, S, hk, hn⟩ := I
  have ht1 := tn_le c1
  have ht2 := tn_le c2
  refine zg_aload_n C dL_law_216 rfl rfl ?_
  refine zl_push (r := 1) C SX hb hL (by omega) dL_law_217 dL_law_218 dL_law_219 (by decide) dL_law_220 dL_law_221 rfl ?_
  refine zl_ci (av := [.int (xs (7 * j + 1))]) (rest := []) C mX7_game vX7_game lmL_23 (bX7).1 ⟨_, CC.1⟩ rfl rfl (by decide) ⟨by omega, by omega⟩ dL_law_222 rfl (c_game CC ?_)
  have C1 := CC
  have F1 := FQ.rfl M h
  have R1 := zl_rf R F1
  refine zg_aload_n C dL_law_225 rfl rfl ?_
  refine zl_push (r := 1) C SX hb hL (by omega) dL_law_226 dL_law_227 dL_law_228 (by decide) dL_law_229 dL_law_230 rfl ?_
  refine zl_ci (av := [.int (xs (7 * j + 1))]) (rest := [.int _]) C mX8_game vX8_game lmL_27 (bX8).1 ⟨_, R1.obj⟩ rfl rfl (by simp) ⟨by omega, by omega⟩ dL_law_231 rfl (k_game R1 S ?_)
  exact zl_cmp C dL_law_234 rfl (next _ _ _ _ (zl_iv C1 R1 S (by omega) (by omega)))
theorem zl_op3 (C : CL E X Q) (SX : va_X b L xs (xS X) (eH E)) (hb : b < eZ E) (hL : L ≤ 3584) (hB : ∀ g, qF g → bnd g) (hj : 7 * j + 7 ≤ L) (I : IV E O M j kc nc h s) (next : ∀ kc' nc' h' s', IV E O M (j + 1) kc' nc' h' s' → GG E X 4 kc' nc' 670 (lcL b O M (7 * j)) [] h') : GG E X 4 kc nc 239 (lcL b O M (7 * j)) [] h := by
  obtain ⟨c1, c2, bt, bk, A, f, CC, R, S, hk, hn⟩ := I
  have ht1 := tn_le c1
  have ht2 := tn_le c2
  refine zg_aload_n C dL_law_239 rfl rfl ?_
  refine zl_push (r := 1) C SX hb hL (by omega) dL_law_240 dL_law_241 dL_law_242 (by decide) dL_law_243 dL_law_244 rfl ?_
  refine zl_push (r := 2) C SX hb hL (by omega) dL_law_245 dL_law_246 dL_law_247 (by decide) dL_law_248 dL_law_249 rfl ?_
  refine zl_push (r := 3) C SX hb hL (by omega) dL_law_250 dL_law_251 dL_law_252 (by decide) dL_law_253 dL_law_254 rfl ?_
  refine zl_push (r := 4) C SX hb hL (by omega) dL_law_255 dL_law_256 dL_law_257 (by decide) dL_law_258 dL_law_259 rfl ?_
  refine zl_ci (av := [.int (xs (7 * j + 1)), .int (xs (7 * j + 2)), .int (xs (7 * j + 3)), .int (xs (7 * j + 4))]) (rest := []) C mX7_setup vX7_setup lmL_28 (bX7).1 ⟨_, CC.1⟩ rfl rfl (by decide) ⟨by omega, by omega⟩ dL_law_260 rfl (c_setup CC (fun h1 C1 F1 => ?_))
  have R1 := zl_rf R F1
  refine zg_aload_n C dL_law_263 rfl rfl ?_
  refine zl_push (r := 1) C SX hb hL (by omega) dL_law_264 dL_law_265 dL_law_266 (by decide) dL_law_267 dL_law_268 rfl ?_
  refine zl_push (r := 2) C SX hb hL (by omega) dL_law_269 dL_law_270 dL_law_271 (by decide) dL_law_272 dL_law_273 rfl ?_
  refine zl_push (r := 3) C SX hb hL (by omega) dL_law_274 dL_law_275 dL_law_276 (by decide) dL_law_277 dL_law_278 rfl ?_
  refine zl_push (r := 4) C SX hb hL (by omega) dL_law_279 dL_law_280 dL_law_281 (by decide) dL_law_282 dL_law_283 rfl ?_
  refine zl_ci (av := [.int (xs (7 * j + 1)), .int (xs (7 * j + 2)), .int (xs (7 * j + 3)), .int (xs (7 * j + 4))]) (rest := [.int _]) C mX8_setup vX8_setup lmL_32 (bX8).1 ⟨_, R1.obj⟩ rfl rfl (by simp) ⟨by omega, by omega⟩ dL_law_284 rfl (k_setup R1 S (fun h2 A2 f2 R2 S2 => ?_))
  exact zl_cmp C dL_law_287 rfl (next _ _ _ _ (zl_iv C1 R2 S2 (by omega) (by omega)))
theorem zl_op4 (C : CL E X Q) (SX : va_X b L xs (xS X) (eH E)) (hb : b < eZ E) (hL : L ≤ 3584) (hB : ∀ g, qF g → bnd g) (hj : 7 * j + 7 ≤ L) (I : IV E O M j kc nc h s) (next : ∀ kc' nc' h' s', IV E O M (j + 1) kc' nc' h' s' → GG E X 4 kc' nc' 670 (lcL b O M (7 * j)) [] h') : GG E X 4 kc nc 292 (lcL b O M (7 * j)) [] h := by
  obtain ⟨c1, c2, bt, bk, A, f, CC, R, S, hk, hn⟩ := I
  have ht1 := tn_le c1
  have ht2 := tn_le c2
  refine zg_aload_n C dL_law_292 rfl rfl ?_
  refine zl_push (r := 1) C SX hb hL (by omega) dL_law_293 dL_law_294 dL_law_295 (by decide) dL_law_296 dL_law_297 rfl ?_
  refine zl_ci (av := [.int (xs (7 * j + 1))]) (rest := []) C mX7_load vX7_load lmL_33 (bX7).1 ⟨_, CC.1⟩ rfl rfl (by decide) ⟨by omega, by omega⟩ dL_law_298 rfl (c_load CC (fun h1 C1 F1 => ?_))
  have R1 := zl_rf R F1
  refine zg_aload_n C dL_law_301 rfl rfl ?_
  refine zl_push (r := 1) C SX hb hL (by omega) dL_law_302 dL_law_303 dL_law_304 (by decide) dL_law_305 dL_law_306 rfl ?_
  refine zl_ci (av := [.int (xs (7 * j + 1))]) (rest := [.int _]) C mX8_load vX8_load lmL_36 (bX8).1 ⟨_, R1.obj⟩ rfl rfl (by simp) ⟨by omega, by omega⟩ dL_law_307 rfl (k_load R1 S (fun h2 A2 f2 R2 S2 => ?_))
  exact zl_cmp C dL_law_310 rfl (next _ _ _ _ (zl_iv C1 R2 S2 (by omega) (by omega)))
theorem zl_op5 (C : CL E X Q) (SX : va_X b L xs (xS X) (eH E)) (hb : b < eZ E) (hL : L ≤ 3584) (hB : ∀ g, qF g → bnd g) (hj : 7 * j + 7 ≤ L) (I : IV E O M j kc nc h s) (next : ∀ kc' nc' h' s', IV E O M (j + 1) kc' nc' h' s' → GG E X 4 kc' nc' 670 (lcL b O M (7 * j)) [] h') : GG E X 4 kc nc 315 (lcL b O M (7 * j)) [] h := by
  obtain ⟨c1, c2, bt, bk, A, f, CC, R, S, hk, hn⟩ := I
  have ht1 := tn_le c1
  have ht2 := tn_le c2
  refine zg_aload_n C dL_law_315 rfl rfl ?_
  refine zl_push (r := 1) C SX hb hL (by omega) dL_law_316 dL_law_317 dL_law_318 (by decide) dL_law_319 dL_law_320 rfl ?_
  refine zl_ci (av := [.int (xs (7 * j + 1))]) (rest := []) C mX7_board vX7_board lmL_37 (bX7).1 ⟨_, CC.1⟩ rfl rfl (by decide) ⟨by omega, by omega⟩ dL_law_321 rfl (c_board CC (fun h1 C1 F1 => ?_))
  have R1 := zl_rf R F1
  refine zg_aload_n C dL_law_324 rfl rfl ?_
  refine zl_push (r := 1) C SX hb hL (by omega) dL_law_325 dL_law_326 dL_law_327 (by decide) dL_law_328 dL_law_329 rfl ?_
  refine zl_ci (av := [.int (xs (7 * j + 1))]) (rest := [.int _]) C mX8_board vX8_board lmL_40 (bX8).1 ⟨_, R1.obj⟩ rfl rfl (by simp) ⟨by omega, by omega⟩ dL_law_330 rfl (k_board R1 S (fun h2 A2 R2 F2 => ?_))
  exact zl_cmp C dL_law_333 rfl (next _ _ _ _ (zl_iv C1 R2 (S.of F2) (by omega) (by omega)))
theorem zl_op6 (C : CL E X Q) (SX : va_X b L xs (xS X) (eH E)) (hb : b < eZ E) (hL : L ≤ 3584) (hB : ∀ g, qF g → bnd g) (hj : 7 * j + 7 ≤ L) (I : IV E O M j kc nc h s) (next : ∀ kc' nc' h' s', IV E O M (j + 1) kc' nc' h' s' → GG E X 4 kc' nc' 670 (lcL b O M (7 * j)) [] h') : GG E X 4 kc nc 338 (lcL b O M (7 * j)) [] h := by
  obtain ⟨c1, c2, bt, bk, A, f, CC, R, S, hk, hn⟩ := I
  have ht1 := tn_le c1
  have ht2 := tn_le c2
  refine zg_aload_n C dL_law_338 rfl rfl ?_
  refine zl_push (r := 1) C SX hb hL (by omega) dL_law_339 dL_law_340 dL_law_341 (by decide) dL_law_342 dL_law_343 rfl ?_
  refine zl_push (r := 2) C SX hb hL (by omega) dL_law_344 dL_law_345 dL_law_346 (by decide) dL_law_347 dL_law_348 rfl ?_
  refine zl_ci (av := [.int (xs (7 * j + 1)), .int (xs (7 * j + 2))]) (rest := []) C mX7_move vX7_move lmL_41 (bX7).1 ⟨_, CC.1⟩ rfl rfl (by decide) ⟨by omega, by omega⟩ dL_law_349 rfl (c_move CC ?_)
  have C1 := CC
  have F1 := FQ.rfl M h
  have R1 := zl_rf R F1
  refine zg_aload_n C dL_law_352 rfl rfl ?_
  refine zl_push (r := 1) C SX hb hL (by omega) dL_law_353 dL_law_354 dL_law_355 (by decide) dL_law_356 dL_law_357 rfl ?_
  refine zl_push (r := 2) C SX hb hL (by omega) dL_law_358 dL_law_359 dL_law_360 (by decide) dL_law_361 dL_law_362 rfl ?_
  refine zl_ci (av := [.int (xs (7 * j + 1)), .int (xs (7 * j + 2))]) (rest := [.int _]) C mX8_move vX8_move lmL_45 (bX8).1 ⟨_, R1.obj⟩ rfl rfl (by simp) ⟨by omega, by omega⟩ dL_law_363 rfl (k_move R1 S (fun h2 A2 R2 F2 => ?_))
  exact zl_cmp C dL_law_366 rfl (next _ _ _ _ (zl_iv C1 R2 (S.of F2) (by omega) (by omega)))
theorem zl_op7 (C : CL E X Q) (SX : va_X b L xs (xS X) (eH E)) (hb : b < eZ E) (hL : L ≤ 3584) (hB : ∀ g, qF g → bnd g) (hj : 7 * j + 7 ≤ L) (I : IV E O M j kc nc h s) (next : ∀ kc' nc' h' s', IV E O M (j + 1) kc' nc' h' s' → GG E X 4 kc' nc' 670 (lcL b O M (7 * j)) [] h') : GG E X 4 kc nc 371 (lcL b O M (7 * j)) [] h := by
  obtain ⟨c1, c2, bt, bk, A, f, CC, R, S, hk, hn⟩ := I
  have ht1 := tn_le c1
  have ht2 := tn_le c2
  refine zg_aload_n C dL_law_371 rfl rfl ?_
  refine zl_push (r := 1) C SX hb hL (by omega) dL_law_372 dL_law_373 dL_law_374 (by decide) dL_law_375 dL_law_376 rfl ?_
  refine zl_ci (av := [.int (xs (7 * j + 1))]) (rest := []) C mX7_make vX7_make lmL_46 (bX7).1 ⟨_, CC.1⟩ rfl rfl (by decide) ⟨by omega, by omega⟩ dL_law_377 rfl (c_make CC (fun h1 C1 F1 => ?_))
  have R1 := zl_rf R F1
  refine zg_aload_n C dL_law_380 rfl rfl ?_
  refine zl_push (r := 1) C SX hb hL (by omega) dL_law_381 dL_law_382 dL_law_383 (by decide) dL_law_384 dL_law_385 rfl ?_
  refine zl_ci (av := [.int (xs (7 * j + 1))]) (rest := [.int _]) C mX8_make vX8_make lmL_49 (bX8).1 ⟨_, R1.obj⟩ rfl rfl (by simp) ⟨by omega, by omega⟩ dL_law_386 rfl (k_make R1 S (fun h2 A2 f2 R2 S2 => ?_))
  exact zl_cmp C dL_law_389 rfl (next _ _ _ _ (zl_iv C1 R2 S2 (by omega) (by omega)))
theorem zl_op8 (C : CL E X Q) (SX : va_X b L xs (xS X) (eH E)) (hb : b < eZ E) (hL : L ≤ 3584) (hB : ∀ g, qF g → bnd g) (hj : 7 * j + 7 ≤ L) (I : IV E O M j kc nc h s) (next : ∀ kc' nc' h' s', IV E O M (j + 1) kc' nc' h' s' → GG E X 4 kc' nc' 670 (lcL b O M (7 * j)) [] h') : GG E X 4 kc nc 394 (lcL b O M (7 * j)) [] h := by
  obtain ⟨c1, c2, bt, bk, A, f, CC, R, S, hk, hn⟩ := I
  have ht1 := tn_le c1
  have ht2 := tn_le c2
  refine zg_aload_n C dL_law_394 rfl rfl ?_
  refine zl_ci (av := []) (rest := []) C mX7_back vX7_back lmL_50 (bX7).1 ⟨_, CC.1⟩ rfl rfl (by decide) ⟨by omega, by omega⟩ dL_law_395 rfl (c_back CC (fun h1 C1 F1 => ?_))
  have R1 := zl_rf R F1
  refine zg_aload_n C dL_law_398 rfl rfl ?_
  refine zl_ci (av := []) (rest := [.int _]) C mX8_back vX8_back lmL_53 (bX8).1 ⟨_, R1.obj⟩ rfl rfl (by simp) ⟨by omega, by omega⟩ dL_law_399 rfl (k_back R1 S (fun h2 A2 f2 R2 S2 => ?_))
  exact zl_cmp C dL_law_402 rfl (next _ _ _ _ (zl_iv C1 R2 S2 (by omega) (by omega)))
theorem zl_op9 (C : CL E X Q) (SX : va_X b L xs (xS X) (eH E)) (hb : b < eZ E) (hL : L ≤ 3584) (hB : ∀ g, qF g → bnd g) (hj : 7 * j + 7 ≤ L) (I : IV E O M j kc nc h s) (next : ∀ kc' nc' h' s', IV E O M (j + 1) kc' nc' h' s' → GG E X 4 kc' nc' 670 (lcL b O M (7 * j)) [] h') : GG E X 4 kc nc 407 (lcL b O M (7 * j)) [] h := by
  obtain ⟨c1, c2, bt, bk, A, f, CC, R, S, hk, hn⟩ := I
  have ht1 := tn_le c1
  have ht2 := tn_le c2
  refine zg_aload_n C dL_law_407 rfl rfl ?_
  refine zl_ci (av := []) (rest := []) C mX7_best vX7_best lmL_54 (bX7).1 ⟨_, CC.1⟩ rfl rfl (by decide) ⟨by omega, by omega⟩ dL_law_408 rfl (c_best CC ?_)
  have C1 := CC
  have F1 := FQ.rfl M h
  have R1 := zl_rf R F1
  refine zg_aload_n C dL_law_411 rfl rfl ?_
  refine zl_ci (av := []) (rest := [.int _]) C mX8_best vX8_best lmL_57 (bX8).1 ⟨_, R1.obj⟩ rfl rfl (by simp) ⟨by omega, by omega⟩ dL_law_412 rfl (k_best R1 S (fun h2 A2 R2 F2 => ?_))
  exact zl_cmp C dL_law_415 rfl (next _ _ _ _ (zl_iv C1 R2 (S.of F2) (by omega) (by omega)))
theorem zl_op10 (C : CL E X Q) (SX : va_X b L xs (xS X) (eH E)) (hb : b < eZ E) (hL : L ≤ 3584) (hB : ∀ g, qF g → bnd g) (hj : 7 * j + 7 ≤ L) (I : IV E O M j kc nc h s) (next : ∀ kc' nc' h' s', IV E O M (j + 1) kc' nc' h' s' → GG E X 4 kc' nc' 670 (lcL b O M (7 * j)) [] h') : GG E X 4 kc nc 420 (lcL b O M (7 * j)) [] h := by
  obtain ⟨c1, c2, bt, bk, A, f, CC, R, S, hk, hn⟩ := I
  have ht1 := tn_le c1
  have ht2 := tn_le c2
  refine zg_aload_n C dL_law_420 rfl rfl ?_
  refine zl_push (r := 1) C SX hb hL (by omega) dL_law_421 dL_law_422 dL_law_423 (by decide) dL_law_424 dL_law_425 rfl ?_
  refine zl_ci (av := [.int (xs (7 * j + 1))]) (rest := []) C mX7_line vX7_line lmL_58 (bX7).1 ⟨_, CC.1⟩ rfl rfl (by decide) ⟨by omega, by omega⟩ dL_law_426 rfl (c_line CC (fun h1 C1 F1 => ?_))
  have R1 := zl_rf R F1
  refine zg_aload_n C dL_law_429 rfl rfl ?_
  refine zl_push (r := 1) C SX hb hL (by omega) dL_law_430 dL_law_431 dL_law_432 (by decide) dL_law_433 dL_law_434 rfl ?_
  refine zl_ci (av := [.int (xs (7 * j + 1))]) (rest := [.int _]) C mX8_line vX8_line lmL_61 (bX8).1 ⟨_, R1.obj⟩ rfl rfl (by simp) ⟨by omega, by omega⟩ dL_law_435 rfl (k_line R1 S (fun h2 A2 R2 F2 => ?_))
  exact zl_cmp C dL_law_438 rfl (next _ _ _ _ (zl_iv C1 R2 (S.of F2) (by omega) (by omega)))
theorem zl_op11 (C : CL E X Q) (SX : va_X b L xs (xS X) (eH E)) (hb : b < eZ E) (hL : L ≤ 3584) (hB : ∀ g, qF g → bnd g) (hj : 7 * j + 7 ≤ L) (I : IV E O M j kc nc h s) (next : ∀ kc' nc' h' s', IV E O M (j + 1) kc' nc' h' s' → GG E X 4 kc' nc' 670 (lcL b O M (7 * j)) [] h') : GG E X 4 kc nc 443 (lcL b O M (7 * j)) [] h := by
  obtain ⟨c1, c2, bt, bk, A, f, CC, R, S, hk, hn⟩ := I
  have ht1 := tn_le c1
  have ht2 := tn_le c2
  refine zg_aload_n C dL_law_443 rfl rfl ?_
  refine zl_push (r := 1) C SX hb hL (by omega) dL_law_444 dL_law_445 dL_law_446 (by decide) dL_law_447 dL_law_448 rfl ?_
  refine zl_ci (av := [.int (xs (7 * j + 1))]) (rest := []) C mX7_search vX7_search lmL_62 (bX7).1 ⟨_, CC.1⟩ rfl rfl (by decide) ⟨by omega, by omega⟩ dL_law_449 rfl (c_search CC (fun h1 C1 F1 => ?_))
  have R1 := zl_rf R F1
  refine zg_aload_n C dL_law_452 rfl rfl ?_
  refine zl_push (r := 1) C SX hb hL (by omega) dL_law_453 dL_law_454 dL_law_455 (by decide) dL_law_456 dL_law_457 rfl ?_
  refine zl_ci (av := [.int (xs (7 * j + 1))]) (rest := [.int _]) C mX8_search vX8_search lmL_65 (bX8).1 ⟨_, R1.obj⟩ rfl rfl (by simp) ⟨by omega, by omega⟩ dL_law_458 rfl (k_search R1 S (fun h2 A2 R2 F2 => ?_))
  exact zl_cmp C dL_law_461 rfl (next _ _ _ _ (zl_iv C1 R2 (S.of F2) (by omega) (by omega)))
theorem zl_op12 (C : CL E X Q) (SX : va_X b L xs (xS X) (eH E)) (hb : b < eZ E) (hL : L ≤ 3584) (hB : ∀ g, qF g → bnd g) (hj : 7 * j + 7 ≤ L) (I : IV E O M j kc nc h s) (next : ∀ kc' nc' h' s', IV E O M (j + 1) kc' nc' h' s' → GG E X 4 kc' nc' 670 (lcL b O M (7 * j)) [] h') : GG E X 4 kc nc 466 (lcL b O M (7 * j)) [] h := by
  obtain ⟨c1, c2, bt, bk, A, f, CC, R, S, hk, hn⟩ := I
  have ht1 := tn_le c1
  have ht2 := tn_le c2
  refine zg_aload_n C dL_law_466 rfl rfl ?_
  refine zl_push (r := 1) C SX hb hL (by omega) dL_law_467 dL_law_468 dL_law_469 (by decide) dL_law_470 dL_law_471 rfl ?_
  refine zl_push (r := 2) C SX hb hL (by omega) dL_law_472 dL_law_473 dL_law_474 (by decide) dL_law_475 dL_law_476 rfl ?_
  refine zl_push (r := 3) C SX hb hL (by omega) dL_law_477 dL_law_478 dL_law_479 (by decide) dL_law_480 dL_law_481 rfl ?_
  refine zl_ci (av := [.int (xs (7 * j + 1)), .int (xs (7 * j + 2)), .int (xs (7 * j + 3))]) (rest := []) C mX7_positions vX7_positions lmL_66 (bX7).1 ⟨_, CC.1⟩ rfl rfl (by decide) ⟨by omega, by omega⟩ dL_law_482 rfl (c_positions CC ?_)
  have C1 := CC
  have F1 := FQ.rfl M h
  have R1 := zl_rf R F1
  refine zg_aload_n C dL_law_485 rfl rfl ?_
  refine zl_push (r := 1) C SX hb hL (by omega) dL_law_486 dL_law_487 dL_law_488 (by decide) dL_law_489 dL_law_490 rfl ?_
  refine zl_push (r := 2) C SX hb hL (by omega) dL_law_491 dL_law_492 dL_law_493 (by decide) dL_law_494 dL_law_495 rfl ?_
  refine zl_push (r := 3) C SX hb hL (by omega) dL_law_496 dL_law_497 dL_law_498 (by decide) dL_law_499 dL_law_500 rfl ?_
  refine zl_ci (av := [.int (xs (7 * j + 1)), .int (xs (7 * j + 2)), .int (xs (7 * j + 3))]) (rest := [.int _]) C mX8_positions vX8_positions lmL_70 (bX8).1 ⟨_, R1.obj⟩ rfl rfl (by simp) ⟨by omega, by omega⟩ dL_law_501 rfl (k_positions R1 S (fun h2 A2 R2 F2 => ?_))
  exact zl_cmp C dL_law_504 rfl (next _ _ _ _ (zl_iv C1 R2 (S.of F2) (by omega) (by omega)))
theorem zl_op13 (C : CL E X Q) (SX : va_X b L xs (xS X) (eH E)) (hb : b < eZ E) (hL : L ≤ 3584) (hB : ∀ g, qF g → bnd g) (hj : 7 * j + 7 ≤ L) (I : IV E O M j kc nc h s) (next : ∀ kc' nc' h' s', IV E O M (j + 1) kc' nc' h' s' → GG E X 4 kc' nc' 670 (lcL b O M (7 * j)) [] h') : GG E X 4 kc nc 509 (lcL b O M (7 * j)) [] h := by
  obtain ⟨c1, c2, bt, bk, A, f, CC, R, S, hk, hn⟩ := I
  have ht1 := tn_le c1
  have ht2 := tn_le c2
  refine zg_aload_n C dL_law_509 rfl rfl ?_
  refine zl_push (r := 1) C SX hb hL (by omega) dL_law_510 dL_law_511 dL_law_512 (by decide) dL_law_513 dL_law_514 rfl ?_
  refine zl_push (r := 2) C SX hb hL (by omega) dL_law_515 dL_law_516 dL_law_517 (by decide) dL_law_518 dL_law_519 rfl ?_
  refine zl_push (r := 3) C SX hb hL (by omega) dL_law_520 dL_law_521 dL_law_522 (by decide) dL_law_523 dL_law_524 rfl ?_
  refine zl_ci (av := [.int (xs (7 * j + 1)), .int (xs (7 * j + 2)), .int (xs (7 * j + 3))]) (rest := []) C mX7_spread vX7_spread lmL_71 (bX7).1 ⟨_, CC.1⟩ rfl rfl (by decide) ⟨by omega, by omega⟩ dL_law_525 rfl (c_spread CC ?_)
  have C1 := CC
  have F1 := FQ.rfl M h
  have R1 := zl_rf R F1
  refine zg_aload_n C dL_law_528 rfl rfl ?_
  refine zl_push (r := 1) C SX hb hL (by omega) dL_law_529 dL_law_530 dL_law_531 (by decide) dL_law_532 dL_law_533 rfl ?_
  refine zl_push (r := 2) C SX hb hL (by omega) dL_law_534 dL_law_535 dL_law_536 (by decide) dL_law_537 dL_law_538 rfl ?_
  refine zl_push (r := 3) C SX hb hL (by omega) dL_law_539 dL_law_540 dL_law_541 (by decide) dL_law_542 dL_law_543 rfl ?_
  refine zl_ci (av := [.int (xs (7 * j + 1)), .int (xs (7 * j + 2)), .int (xs (7 * j + 3))]) (rest := [.int _]) C mX8_spread vX8_spread lmL_74 (bX8).1 ⟨_, R1.obj⟩ rfl rfl (by simp) ⟨by omega, by omega⟩ dL_law_544 rfl (k_spread R1 S ?_)
  exact zl_cmp C dL_law_547 rfl (next _ _ _ _ (zl_iv C1 R1 S (by omega) (by omega)))
theorem zl_op14 (C : CL E X Q) (SX : va_X b L xs (xS X) (eH E)) (hb : b < eZ E) (hL : L ≤ 3584) (hB : ∀ g, qF g → bnd g) (hj : 7 * j + 7 ≤ L) (I : IV E O M j kc nc h s) (next : ∀ kc' nc' h' s', IV E O M (j + 1) kc' nc' h' s' → GG E X 4 kc' nc' 670 (lcL b O M (7 * j)) [] h') : GG E X 4 kc nc 552 (lcL b O M (7 * j)) [] h := by
  obtain ⟨c1, c2, bt, bk, A, f, CC, R, S, hk, hn⟩ := I
  have ht1 := tn_le c1
  have ht2 := tn_le c2
  refine zg_aload_n C dL_law_552 rfl rfl ?_
  refine zl_push (r := 1) C SX hb hL (by omega) dL_law_553 dL_law_554 dL_law_555 (by decide) dL_law_556 dL_law_557 rfl ?_
  refine zl_push (r := 2) C SX hb hL (by omega) dL_law_558 dL_law_559 dL_law_560 (by decide) dL_law_561 dL_law_562 rfl ?_
  refine zl_ci (av := [.int (xs (7 * j + 1)), .int (xs (7 * j + 2))]) (rest := []) C mX7_longest vX7_longest lmL_75 (bX7).1 ⟨_, CC.1⟩ rfl rfl (by decide) ⟨by omega, by omega⟩ dL_law_563 rfl (c_longest CC ?_)
  have C1 := CC
  have F1 := FQ.rfl M h
  have R1 := zl_rf R F1
  refine zg_aload_n C dL_law_566 rfl rfl ?_
  refine zl_push (r := 1) C SX hb hL (by omega) dL_law_567 dL_law_568 dL_law_569 (by decide) dL_law_570 dL_law_571 rfl ?_
  refine zl_push (r := 2) C SX hb hL (by omega) dL_law_572 dL_law_573 dL_law_574 (by decide) dL_law_575 dL_law_576 rfl ?_
  refine zl_ci (av := [.int (xs (7 * j + 1)), .int (xs (7 * j + 2))]) (rest := [.int _]) C mX8_longest vX8_longest lmL_78 (bX8).1 ⟨_, R1.obj⟩ rfl rfl (by simp) ⟨by omega, by omega⟩ dL_law_577 rfl (k_longest R1 S ?_)
  exact zl_cmp C dL_law_580 rfl (next _ _ _ _ (zl_iv C1 R1 S (by omega) (by omega)))
theorem zl_op15 (C : CL E X Q) (SX : va_X b L xs (xS X) (eH E)) (hb : b < eZ E) (hL : L ≤ 3584) (hB : ∀ g, qF g → bnd g) (hj : 7 * j + 7 ≤ L) (I : IV E O M j kc nc h s) (next : ∀ kc' nc' h' s', IV E O M (j + 1) kc' nc' h' s' → GG E X 4 kc' nc' 670 (lcL b O M (7 * j)) [] h') : GG E X 4 kc nc 585 (lcL b O M (7 * j)) [] h := by
  obtain ⟨c1, c2, bt, bk, A, f, CC, R, S, hk, hn⟩ := I
  have ht1 := tn_le c1
  have ht2 := tn_le c2
  refine zg_aload_n C dL_law_585 rfl rfl ?_
  refine zl_push (r := 1) C SX hb hL (by omega) dL_law_586 dL_law_587 dL_law_588 (by decide) dL_law_589 dL_law_590 rfl ?_
  refine zl_ci (av := [.int (xs (7 * j + 1))]) (rest := []) C mX7_zugzwang vX7_zugzwang lmL_79 (bX7).1 ⟨_, CC.1⟩ rfl rfl (by decide) ⟨by omega, by omega⟩ dL_law_591 rfl (c_zugzwang CC ?_)
  have C1 := CC
  have F1 := FQ.rfl M h
  have R1 := zl_rf R F1
  refine zg_aload_n C dL_law_594 rfl rfl ?_
  refine zl_push (r := 1) C SX hb hL (by omega) dL_law_595 dL_law_596 dL_law_597 (by decide) dL_law_598 dL_law_599 rfl ?_
  refine zl_ci (av := [.int (xs (7 * j + 1))]) (rest := [.int _]) C mX8_zugzwang vX8_zugzwang lmL_82 (bX8).1 ⟨_, R1.obj⟩ rfl rfl (by simp) ⟨by omega, by omega⟩ dL_law_600 rfl (k_zugzwang R1 S ?_)
  exact zl_cmp C dL_law_603 rfl (next _ _ _ _ (zl_iv C1 R1 S (by omega) (by omega)))
theorem zl_op16 (C : CL E X Q) (SX : va_X b L xs (xS X) (eH E)) (hb : b < eZ E) (hL : L ≤ 3584) (hB : ∀ g, qF g → bnd g) (hj : 7 * j + 7 ≤ L) (I : IV E O M j kc nc h s) (next : ∀ kc' nc' h' s', IV E O M (j + 1) kc' nc' h' s' → GG E X 4 kc' nc' 670 (lcL b O M (7 * j)) [] h') : GG E X 4 kc nc 608 (lcL b O M (7 * j)) [] h := by
  obtain ⟨c1, c2, bt, bk, A, f, CC, R, S, hk, hn⟩ := I
  have ht1 := tn_le c1
  have ht2 := tn_le c2
  refine zg_aload_n C dL_law_608 rfl rfl ?_
  refine zl_ci (av := []) (rest := []) C mX7_unlike vX7_unlike lmL_83 (bX7).1 ⟨_, CC.1⟩ rfl rfl (by decide) ⟨by omega, by omega⟩ dL_law_609 rfl (c_unlike CC (fun h1 C1 F1 => ?_))
  have R1 := zl_rf R F1
  refine zg_aload_n C dL_law_612 rfl rfl ?_
  refine zl_ci (av := []) (rest := [.int _]) C mX8_unlike vX8_unlike lmL_86 (bX8).1 ⟨_, R1.obj⟩ rfl rfl (by simp) ⟨by omega, by omega⟩ dL_law_613 rfl (k_unlike R1 S (fun h2 A2 R2 F2 => ?_))
  exact zl_cmp C dL_law_616 rfl (next _ _ _ _ (zl_iv C1 R2 (S.of F2) (by omega) (by omega)))
theorem zl_op17 (C : CL E X Q) (SX : va_X b L xs (xS X) (eH E)) (hb : b < eZ E) (hL : L ≤ 3584) (hB : ∀ g, qF g → bnd g) (hj : 7 * j + 7 ≤ L) (I : IV E O M j kc nc h s) (next : ∀ kc' nc' h' s', IV E O M (j + 1) kc' nc' h' s' → GG E X 4 kc' nc' 670 (lcL b O M (7 * j)) [] h') : GG E X 4 kc nc 621 (lcL b O M (7 * j)) [] h := by
  obtain ⟨c1, c2, bt, bk, A, f, CC, R, S, hk, hn⟩ := I
  have ht1 := tn_le c1
  have ht2 := tn_le c2
  refine zg_aload_n C dL_law_621 rfl rfl ?_
  refine zl_ci (av := []) (rest := []) C mX7_image vX7_image lmL_87 (bX7).1 ⟨_, CC.1⟩ rfl rfl (by decide) ⟨by omega, by omega⟩ dL_law_622 rfl (c_image CC (fun h1 bk' C1 F1 => ?_))
  have R1 := zl_rf R F1
  refine zg_aload_n C dL_law_625 rfl rfl ?_
  refine zl_ci (av := []) (rest := [.int _]) C mX8_image vX8_image lmL_90 (bX8).1 ⟨_, R1.obj⟩ rfl rfl (by simp) ⟨by omega, by omega⟩ dL_law_626 rfl (k_image R1 S (fun h2 A2 f2 R2 S2 => ?_))
  exact zl_cmp C dL_law_629 rfl (next _ _ _ _ (zl_iv C1 R2 S2 (by omega) (by omega)))
theorem zl_op18 (C : CL E X Q) (SX : va_X b L xs (xS X) (eH E)) (hb : b < eZ E) (hL : L ≤ 3584) (hB : ∀ g, qF g → bnd g) (hj : 7 * j + 7 ≤ L) (I : IV E O M j kc nc h s) (next : ∀ kc' nc' h' s', IV E O M (j + 1) kc' nc' h' s' → GG E X 4 kc' nc' 670 (lcL b O M (7 * j)) [] h') : GG E X 4 kc nc 634 (lcL b O M (7 * j)) [] h := by
  obtain ⟨c1, c2, bt, bk, A, f, CC, R, S, hk, hn⟩ := I
  have ht1 := tn_le c1
  have ht2 := tn_le c2
  refine zg_aload_n C dL_law_634 rfl rfl ?_
  refine zl_ci (av := []) (rest := []) C mX7_undo vX7_undo lmL_91 (bX7).1 ⟨_, CC.1⟩ rfl rfl (by decide) ⟨by omega, by omega⟩ dL_law_635 rfl (c_undo CC (fun h1 bt' C1 F1 => ?_))
  have R1 := zl_rf R F1
  refine zg_aload_n C dL_law_638 rfl rfl ?_
  refine zl_ci (av := []) (rest := [.int _]) C mX8_undo vX8_undo lmL_94 (bX8).1 ⟨_, R1.obj⟩ rfl rfl (by simp) ⟨by omega, by omega⟩ dL_law_639 rfl (k_undo R1 S (fun h2 A2 f2 R2 S2 => ?_))
  exact zl_cmp C dL_law_642 rfl (next _ _ _ _ (zl_iv C1 R2 S2 (by omega) (by omega)))
theorem zl_op19 (C : CL E X Q) (SX : va_X b L xs (xS X) (eH E)) (hb : b < eZ E) (hL : L ≤ 3584) (hB : ∀ g, qF g → bnd g) (hj : 7 * j + 7 ≤ L) (I : IV E O M j kc nc h s) (next : ∀ kc' nc' h' s', IV E O M (j + 1) kc' nc' h' s' → GG E X 4 kc' nc' 670 (lcL b O M (7 * j)) [] h') : GG E X 4 kc nc 647 (lcL b O M (7 * j)) [] h := by
  obtain ⟨c1, c2, bt, bk, A, f, CC, R, S, hk, hn⟩ := I
  have ht1 := tn_le c1
  have ht2 := tn_le c2
  refine zg_aload_n C dL_law_647 rfl rfl ?_
  refine zl_push (r := 1) C SX hb hL (by omega) dL_law_648 dL_law_649 dL_law_650 (by decide) dL_law_651 dL_law_652 rfl ?_
  refine zl_ci (av := [.int (xs (7 * j + 1))]) (rest := []) C mX7_count vX7_count lmL_95 (bX7).1 ⟨_, CC.1⟩ rfl rfl (by decide) ⟨by omega, by omega⟩ dL_law_653 rfl (c_count CC ?_)
  have C1 := CC
  have F1 := FQ.rfl M h
  have R1 := zl_rf R F1
  refine zg_aload_n C dL_law_656 rfl rfl ?_
  refine zl_push (r := 1) C SX hb hL (by omega) dL_law_657 dL_law_658 dL_law_659 (by decide) dL_law_660 dL_law_661 rfl ?_
  refine zl_ci (av := [.int (xs (7 * j + 1))]) (rest := [.int _]) C mX8_count vX8_count lmL_98 (bX8).1 ⟨_, R1.obj⟩ rfl rfl (by simp) ⟨by omega, by omega⟩ dL_law_662 rfl (k_count R1 S ?_)
  exact zl_cmp C dL_law_665 rfl (next _ _ _ _ (zl_iv C1 R1 S (by omega) (by omega)))
end
