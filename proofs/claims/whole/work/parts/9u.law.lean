/-! the law's cases and its loop -/
abbrev lvL (X : Cx) (U : Ev) (b i : Nat) : List (Nat × Value) := [(0, .ref b), (1, .ref (evA (xV X) 0)), (2, .ref (evA U 0)), (3, .int (nI i))]
theorem Sim.next {n : Nat} {μc μm : Mem} (S : Sim n μc μm) : Sim (n + 1) μc μm := by
  obtain ⟨σ, h1, h2, h3⟩ := S
  exact ⟨σ, h1.mono, h2, h3⟩
section
variable {X : Cx} {U : Ev} {b L pc : Nat} {ys : Nat → Int32} {lv : List (Nat × Value)} {st : List Value} {μc μm : Mem}
theorem lg_if_eq (hX : FL X U b L ys) {x : Int32} {off : Int} (tgt : Nat) (dg : decode cL_law pc = .ok (.ifCond .eq off, 3)) (ht : (pc : Int) + off = (tgt : Int)) (kt : x = 0 → LG X U tgt lv st μc μm) (kf : ¬ (x = 0) → LG X U (pc + 3) lv st μc μm) : LG X U pc lv (.int x :: st) μc μm := fun H locs ls hP hP2 hS hv => lv_if_eq hX.1 hX.2.1 dg ht (fun z => kt z H locs ls hP hP2 hS hv) (fun z => kf z H locs ls hP hP2 hS hv)
theorem lg_bool (hX : FL X U b L ys) {x : Int32} (d0 : decode cL_law pc = .ok (.ifCond .eq 7, 3)) (d1 : decode cL_law (pc + 3) = .ok (.iconst 1, 1)) (d2 : decode cL_law (pc + 4) = .ok (.goto 4, 3)) (d3 : decode cL_law (pc + 7) = .ok (.iconst 0, 1)) (h : LG X U (pc + 8) lv (.int (if x = 0 then 0 else 1) :: st) μc μm) : LG X U pc lv (.int x :: st) μc μm := by
  refine lg_if_eq hX (pc + 7) d0 (by omega) (fun hz => ?_) (fun hz => ?_)
  · rw [if_pos hz] at h
    exact lg_iconst hX d3 (by decide) h
  · rw [if_neg hz] at h
    exact lg_iconst hX d1 (by decide) (lg_goto hX (pc + 8) d2 (by omega) h)
theorem law_feed (hX : FL X U b L ys) (hLc : (xV X).2.2.2 = lyC) (hLm : U.2.2.2 = lyM) {n i : Nat} (S : Sim n μc μm) (hn5 : n < 512) (hi : i + 6 < L) (hL : L < 100000) (K : ∀ μc2 μm2 : Mem, Sim (n + 1) μc2 μm2 → LG X U 1028 (lvL X U b i) [] μc2 μm2) : LG X U 128 (lvL X U b i) [] μc μm := by
  obtain ⟨r, μc2, μm2, hc, hm, S2⟩ := step_feed S (ys (i + 1)) (ys (i + 2)) (ys (i + 3)) (ys (i + 4)) (ys (i + 5))
  refine lg_aload_n hX dL_law_128 1 rfl ?_
  refine lg_arg (i := i) (j := 1) (v := nI 1) hX dL_law_129 dL_law_130 dL_law_131 dL_law_132 dL_law_133 rfl rfl (by decide) (nI_add i 1) (by omega) hL ?_
  refine lg_arg (i := i) (j := 2) (v := nI 2) hX dL_law_134 dL_law_135 dL_law_136 dL_law_137 dL_law_138 rfl rfl (by decide) (nI_add i 2) (by omega) hL ?_
  refine lg_arg (i := i) (j := 3) (v := nI 3) hX dL_law_139 dL_law_140 dL_law_141 dL_law_142 dL_law_143 rfl rfl (by decide) (nI_add i 3) (by omega) hL ?_
  refine lg_arg (i := i) (j := 4) (v := nI 4) hX dL_law_144 dL_law_145 dL_law_146 dL_law_147 dL_law_148 rfl rfl (by decide) (nI_add i 4) (by omega) hL ?_
  refine lg_arg (i := i) (j := 5) (v := nI 5) hX dL_law_149 dL_law_150 dL_law_151 dL_law_152 dL_law_153 rfl rfl (by decide) (nI_add i 5) (by omega) hL ?_
  refine lg_callC (As := [.int (ys (i + 1)), .int (ys (i + 2)), .int (ys (i + 3)), .int (ys (i + 4)), .int (ys (i + 5))]) (rest := []) hX hLc dL_law_154 (c_X9_feed hLc hc) mwL_X9_feed mvL_X9_feed mlL_X9_feed rfl rfl rfl (Nat.le_of_ble_eq_true rfl) (Nat.le_of_ble_eq_true rfl) (Nat.le_of_ble_eq_true rfl) ?_
  refine lg_aload_n hX dL_law_157 2 rfl ?_
  refine lg_arg (i := i) (j := 1) (v := nI 1) hX dL_law_158 dL_law_159 dL_law_160 dL_law_161 dL_law_162 rfl rfl (by decide) (nI_add i 1) (by omega) hL ?_
  refine lg_arg (i := i) (j := 2) (v := nI 2) hX dL_law_163 dL_law_164 dL_law_165 dL_law_166 dL_law_167 rfl rfl (by decide) (nI_add i 2) (by omega) hL ?_
  refine lg_arg (i := i) (j := 3) (v := nI 3) hX dL_law_168 dL_law_169 dL_law_170 dL_law_171 dL_law_172 rfl rfl (by decide) (nI_add i 3) (by omega) hL ?_
  refine lg_arg (i := i) (j := 4) (v := nI 4) hX dL_law_173 dL_law_174 dL_law_175 dL_law_176 dL_law_177 rfl rfl (by decide) (nI_add i 4) (by omega) hL ?_
  refine lg_arg (i := i) (j := 5) (v := nI 5) hX dL_law_178 dL_law_179 dL_law_180 dL_law_181 dL_law_182 rfl rfl (by decide) (nI_add i 5) (by omega) hL ?_
  refine lg_callM (As := [.int (ys (i + 1)), .int (ys (i + 2)), .int (ys (i + 3)), .int (ys (i + 4)), .int (ys (i + 5))]) (rest := [.int r]) hX hLm dL_law_183 (c_X10_feed hLm hm) mwL_X10_feed mvL_X10_feed mlL_X10_feed rfl rfl rfl (Nat.le_of_ble_eq_true rfl) (Nat.le_of_ble_eq_true rfl) (Nat.le_of_ble_eq_true rfl) ?_
  exact lg_icmp_eq hX 1028 dL_law_186 (by decide) (K _ _ S2)
theorem law_end (hX : FL X U b L ys) (hLc : (xV X).2.2.2 = lyC) (hLm : U.2.2.2 = lyM) {n i : Nat} (S : Sim n μc μm) (hn5 : n < 512) (hi : i + 6 < L) (hL : L < 100000) (K : ∀ μc2 μm2 : Mem, Sim (n + 1) μc2 μm2 → LG X U 1028 (lvL X U b i) [] μc2 μm2) : LG X U 191 (lvL X U b i) [] μc μm := by
  obtain ⟨r, μc2, μm2, hc, hm, S2⟩ := step_end S (ys (i + 1))
  refine lg_aload_n hX dL_law_191 1 rfl ?_
  refine lg_arg (i := i) (j := 1) (v := nI 1) hX dL_law_192 dL_law_193 dL_law_194 dL_law_195 dL_law_196 rfl rfl (by decide) (nI_add i 1) (by omega) hL ?_
  refine lg_callC (As := [.int (ys (i + 1))]) (rest := []) hX hLc dL_law_197 (c_X9_end hLc hc) mwL_X9_end mvL_X9_end mlL_X9_end rfl rfl rfl (Nat.le_of_ble_eq_true rfl) (Nat.le_of_ble_eq_true rfl) (Nat.le_of_ble_eq_true rfl) ?_
  refine lg_aload_n hX dL_law_200 2 rfl ?_
  refine lg_arg (i := i) (j := 1) (v := nI 1) hX dL_law_201 dL_law_202 dL_law_203 dL_law_204 dL_law_205 rfl rfl (by decide) (nI_add i 1) (by omega) hL ?_
  refine lg_callM (As := [.int (ys (i + 1))]) (rest := [.int r]) hX hLm dL_law_206 (c_X10_end hLm hm) mwL_X10_end mvL_X10_end mlL_X10_end rfl rfl rfl (Nat.le_of_ble_eq_true rfl) (Nat.le_of_ble_eq_true rfl) (Nat.le_of_ble_eq_true rfl) ?_
  exact lg_icmp_eq hX 1028 dL_law_209 (by decide) (K _ _ S2)
theorem law_log (hX : FL X U b L ys) (hLc : (xV X).2.2.2 = lyC) (hLm : U.2.2.2 = lyM) {n i : Nat} (S : Sim n μc μm) (hn5 : n < 512) (hi : i + 6 < L) (hL : L < 100000) (K : ∀ μc2 μm2 : Mem, Sim (n + 1) μc2 μm2 → LG X U 1028 (lvL X U b i) [] μc2 μm2) : LG X U 214 (lvL X U b i) [] μc μm := by
  obtain ⟨r, μc2, μm2, hc, hm, S2⟩ := step_log S hn5 (ys (i + 1)) (ys (i + 2)) (ys (i + 3)) (ys (i + 4)) (ys (i + 5))
  refine lg_aload_n hX dL_law_214 1 rfl ?_
  refine lg_arg (i := i) (j := 1) (v := nI 1) hX dL_law_215 dL_law_216 dL_law_217 dL_law_218 dL_law_219 rfl rfl (by decide) (nI_add i 1) (by omega) hL ?_
  refine lg_arg (i := i) (j := 2) (v := nI 2) hX dL_law_220 dL_law_221 dL_law_222 dL_law_223 dL_law_224 rfl rfl (by decide) (nI_add i 2) (by omega) hL ?_
  refine lg_arg (i := i) (j := 3) (v := nI 3) hX dL_law_225 dL_law_226 dL_law_227 dL_law_228 dL_law_229 rfl rfl (by decide) (nI_add i 3) (by omega) hL ?_
  refine lg_arg (i := i) (j := 4) (v := nI 4) hX dL_law_230 dL_law_231 dL_law_232 dL_law_233 dL_law_234 rfl rfl (by decide) (nI_add i 4) (by omega) hL ?_
  refine lg_arg (i := i) (j := 5) (v := nI 5) hX dL_law_235 dL_law_236 dL_law_237 dL_law_238 dL_law_239 rfl rfl (by decide) (nI_add i 5) (by omega) hL ?_
  refine lg_callC (As := [.int (ys (i + 1)), .int (ys (i + 2)), .int (ys (i + 3)), .int (ys (i + 4)), .int (ys (i + 5))]) (rest := []) hX hLc dL_law_240 (c_X9_log hLc hc) mwL_X9_log mvL_X9_log mlL_X9_log rfl rfl rfl (Nat.le_of_ble_eq_true rfl) (Nat.le_of_ble_eq_true rfl) (Nat.le_of_ble_eq_true rfl) ?_
  refine lg_aload_n hX dL_law_243 2 rfl ?_
  refine lg_arg (i := i) (j := 1) (v := nI 1) hX dL_law_244 dL_law_245 dL_law_246 dL_law_247 dL_law_248 rfl rfl (by decide) (nI_add i 1) (by omega) hL ?_
  refine lg_arg (i := i) (j := 2) (v := nI 2) hX dL_law_249 dL_law_250 dL_law_251 dL_law_252 dL_law_253 rfl rfl (by decide) (nI_add i 2) (by omega) hL ?_
  refine lg_arg (i := i) (j := 3) (v := nI 3) hX dL_law_254 dL_law_255 dL_law_256 dL_law_257 dL_law_258 rfl rfl (by decide) (nI_add i 3) (by omega) hL ?_
  refine lg_arg (i := i) (j := 4) (v := nI 4) hX dL_law_259 dL_law_260 dL_law_261 dL_law_262 dL_law_263 rfl rfl (by decide) (nI_add i 4) (by omega) hL ?_
  refine lg_arg (i := i) (j := 5) (v := nI 5) hX dL_law_264 dL_law_265 dL_law_266 dL_law_267 dL_law_268 rfl rfl (by decide) (nI_add i 5) (by omega) hL ?_
  refine lg_callM (As := [.int (ys (i + 1)), .int (ys (i + 2)), .int (ys (i + 3)), .int (ys (i + 4)), .int (ys (i + 5))]) (rest := [.int r]) hX hLm dL_law_269 (c_X10_log hLm hm) mwL_X10_log mvL_X10_log mlL_X10_log rfl rfl rfl (Nat.le_of_ble_eq_true rfl) (Nat.le_of_ble_eq_true rfl) (Nat.le_of_ble_eq_true rfl) ?_
  exact lg_icmp_eq hX 1028 dL_law_272 (by decide) (K _ _ S2)
theorem law_tone (hX : FL X U b L ys) (hLc : (xV X).2.2.2 = lyC) (hLm : U.2.2.2 = lyM) {n i : Nat} (S : Sim n μc μm) (hn5 : n < 512) (hi : i + 6 < L) (hL : L < 100000) (K : ∀ μc2 μm2 : Mem, Sim (n + 1) μc2 μm2 → LG X U 1028 (lvL X U b i) [] μc2 μm2) : LG X U 277 (lvL X U b i) [] μc μm := by
  obtain ⟨r, μc2, μm2, hc, hm, S2⟩ := step_tone S (ys (i + 1)) (ys (i + 2)) (ys (i + 3))
  refine lg_aload_n hX dL_law_277 1 rfl ?_
  refine lg_arg (i := i) (j := 1) (v := nI 1) hX dL_law_278 dL_law_279 dL_law_280 dL_law_281 dL_law_282 rfl rfl (by decide) (nI_add i 1) (by omega) hL ?_
  refine lg_arg (i := i) (j := 2) (v := nI 2) hX dL_law_283 dL_law_284 dL_law_285 dL_law_286 dL_law_287 rfl rfl (by decide) (nI_add i 2) (by omega) hL ?_
  refine lg_arg (i := i) (j := 3) (v := nI 3) hX dL_law_288 dL_law_289 dL_law_290 dL_law_291 dL_law_292 rfl rfl (by decide) (nI_add i 3) (by omega) hL ?_
  refine lg_callC (As := [.int (ys (i + 1)), .int (ys (i + 2)), .int (ys (i + 3))]) (rest := []) hX hLc dL_law_293 (c_X9_tone hLc hc) mwL_X9_tone mvL_X9_tone mlL_X9_tone rfl rfl rfl (Nat.le_of_ble_eq_true rfl) (Nat.le_of_ble_eq_true rfl) (Nat.le_of_ble_eq_true rfl) ?_
  refine lg_aload_n hX dL_law_296 2 rfl ?_
  refine lg_arg (i := i) (j := 1) (v := nI 1) hX dL_law_297 dL_law_298 dL_law_299 dL_law_300 dL_law_301 rfl rfl (by decide) (nI_add i 1) (by omega) hL ?_
  refine lg_arg (i := i) (j := 2) (v := nI 2) hX dL_law_302 dL_law_303 dL_law_304 dL_law_305 dL_law_306 rfl rfl (by decide) (nI_add i 2) (by omega) hL ?_
  refine lg_arg (i := i) (j := 3) (v := nI 3) hX dL_law_307 dL_law_308 dL_law_309 dL_law_310 dL_law_311 rfl rfl (by decide) (nI_add i 3) (by omega) hL ?_
  refine lg_callM (As := [.int (ys (i + 1)), .int (ys (i + 2)), .int (ys (i + 3))]) (rest := [.int r]) hX hLm dL_law_312 (c_X10_tone hLm hm) mwL_X10_tone mvL_X10_tone mlL_X10_tone rfl rfl rfl (Nat.le_of_ble_eq_true rfl) (Nat.le_of_ble_eq_true rfl) (Nat.le_of_ble_eq_true rfl) ?_
  exact lg_icmp_eq hX 1028 dL_law_315 (by decide) (K _ _ S2)
theorem law_flaw (hX : FL X U b L ys) (hLc : (xV X).2.2.2 = lyC) (hLm : U.2.2.2 = lyM) {n i : Nat} (S : Sim n μc μm) (hn5 : n < 512) (hi : i + 6 < L) (hL : L < 100000) (K : ∀ μc2 μm2 : Mem, Sim (n + 1) μc2 μm2 → LG X U 1028 (lvL X U b i) [] μc2 μm2) : LG X U 320 (lvL X U b i) [] μc μm := by
  obtain ⟨r, μc2, μm2, hc, hm, S2⟩ := step_flaw S (ys (i + 1)) (ys (i + 2)) (ys (i + 3)) (ys (i + 4)) (ys (i + 5)) (ys (i + 6))
  refine lg_aload_n hX dL_law_320 1 rfl ?_
  refine lg_arg (i := i) (j := 1) (v := nI 1) hX dL_law_321 dL_law_322 dL_law_323 dL_law_324 dL_law_325 rfl rfl (by decide) (nI_add i 1) (by omega) hL ?_
  refine lg_arg (i := i) (j := 2) (v := nI 2) hX dL_law_326 dL_law_327 dL_law_328 dL_law_329 dL_law_330 rfl rfl (by decide) (nI_add i 2) (by omega) hL ?_
  refine lg_arg (i := i) (j := 3) (v := nI 3) hX dL_law_331 dL_law_332 dL_law_333 dL_law_334 dL_law_335 rfl rfl (by decide) (nI_add i 3) (by omega) hL ?_
  refine lg_arg (i := i) (j := 4) (v := nI 4) hX dL_law_336 dL_law_337 dL_law_338 dL_law_339 dL_law_340 rfl rfl (by decide) (nI_add i 4) (by omega) hL ?_
  refine lg_arg (i := i) (j := 5) (v := nI 5) hX dL_law_341 dL_law_342 dL_law_343 dL_law_344 dL_law_345 rfl rfl (by decide) (nI_add i 5) (by omega) hL ?_
  refine lg_arg6 (i := i) (j := 6) (v := nI 6) hX dL_law_346 dL_law_347 dL_law_348 dL_law_350 dL_law_351 rfl rfl (by decide) (nI_add i 6) (by omega) hL ?_
  refine lg_callC (As := [.int (ys (i + 1)), .int (ys (i + 2)), .int (ys (i + 3)), .int (ys (i + 4)), .int (ys (i + 5)), .int (ys (i + 6))]) (rest := []) hX hLc dL_law_352 (c_X9_flaw hLc hc) mwL_X9_flaw mvL_X9_flaw mlL_X9_flaw rfl rfl rfl (Nat.le_of_ble_eq_true rfl) (Nat.le_of_ble_eq_true rfl) (Nat.le_of_ble_eq_true rfl) ?_
  refine lg_aload_n hX dL_law_355 2 rfl ?_
  refine lg_arg (i := i) (j := 1) (v := nI 1) hX dL_law_356 dL_law_357 dL_law_358 dL_law_359 dL_law_360 rfl rfl (by decide) (nI_add i 1) (by omega) hL ?_
  refine lg_arg (i := i) (j := 2) (v := nI 2) hX dL_law_361 dL_law_362 dL_law_363 dL_law_364 dL_law_365 rfl rfl (by decide) (nI_add i 2) (by omega) hL ?_
  refine lg_arg (i := i) (j := 3) (v := nI 3) hX dL_law_366 dL_law_367 dL_law_368 dL_law_369 dL_law_370 rfl rfl (by decide) (nI_add i 3) (by omega) hL ?_
  refine lg_arg (i := i) (j := 4) (v := nI 4) hX dL_law_371 dL_law_372 dL_law_373 dL_law_374 dL_law_375 rfl rfl (by decide) (nI_add i 4) (by omega) hL ?_
  refine lg_arg (i := i) (j := 5) (v := nI 5) hX dL_law_376 dL_law_377 dL_law_378 dL_law_379 dL_law_380 rfl rfl (by decide) (nI_add i 5) (by omega) hL ?_
  refine lg_arg6 (i := i) (j := 6) (v := nI 6) hX dL_law_381 dL_law_382 dL_law_383 dL_law_385 dL_law_386 rfl rfl (by decide) (nI_add i 6) (by omega) hL ?_
  refine lg_callM (As := [.int (ys (i + 1)), .int (ys (i + 2)), .int (ys (i + 3)), .int (ys (i + 4)), .int (ys (i + 5)), .int (ys (i + 6))]) (rest := [.int r]) hX hLm dL_law_387 (c_X10_flaw hLm hm) mwL_X10_flaw mvL_X10_flaw mlL_X10_flaw rfl rfl rfl (Nat.le_of_ble_eq_true rfl) (Nat.le_of_ble_eq_true rfl) (Nat.le_of_ble_eq_true rfl) ?_
  exact lg_icmp_eq hX 1028 dL_law_390 (by decide) (K _ _ S2)
theorem law_drift (hX : FL X U b L ys) (hLc : (xV X).2.2.2 = lyC) (hLm : U.2.2.2 = lyM) {n i : Nat} (S : Sim n μc μm) (hn5 : n < 512) (hi : i + 6 < L) (hL : L < 100000) (K : ∀ μc2 μm2 : Mem, Sim (n + 1) μc2 μm2 → LG X U 1028 (lvL X U b i) [] μc2 μm2) : LG X U 395 (lvL X U b i) [] μc μm := by
  obtain ⟨r, μc2, μm2, hc, hm, S2⟩ := step_drift S (ys (i + 1)) (ys (i + 2)) (ys (i + 3)) (ys (i + 4))
  refine lg_aload_n hX dL_law_395 1 rfl ?_
  refine lg_arg (i := i) (j := 1) (v := nI 1) hX dL_law_396 dL_law_397 dL_law_398 dL_law_399 dL_law_400 rfl rfl (by decide) (nI_add i 1) (by omega) hL ?_
  refine lg_arg (i := i) (j := 2) (v := nI 2) hX dL_law_401 dL_law_402 dL_law_403 dL_law_404 dL_law_405 rfl rfl (by decide) (nI_add i 2) (by omega) hL ?_
  refine lg_arg (i := i) (j := 3) (v := nI 3) hX dL_law_406 dL_law_407 dL_law_408 dL_law_409 dL_law_410 rfl rfl (by decide) (nI_add i 3) (by omega) hL ?_
  refine lg_arg (i := i) (j := 4) (v := nI 4) hX dL_law_411 dL_law_412 dL_law_413 dL_law_414 dL_law_415 rfl rfl (by decide) (nI_add i 4) (by omega) hL ?_
  refine lg_callC (As := [.int (ys (i + 1)), .int (ys (i + 2)), .int (ys (i + 3)), .int (ys (i + 4))]) (rest := []) hX hLc dL_law_416 (c_X9_drift hLc hc) mwL_X9_drift mvL_X9_drift mlL_X9_drift rfl rfl rfl (Nat.le_of_ble_eq_true rfl) (Nat.le_of_ble_eq_true rfl) (Nat.le_of_ble_eq_true rfl) ?_
  refine lg_aload_n hX dL_law_419 2 rfl ?_
  refine lg_arg (i := i) (j := 1) (v := nI 1) hX dL_law_420 dL_law_421 dL_law_422 dL_law_423 dL_law_424 rfl rfl (by decide) (nI_add i 1) (by omega) hL ?_
  refine lg_arg (i := i) (j := 2) (v := nI 2) hX dL_law_425 dL_law_426 dL_law_427 dL_law_428 dL_law_429 rfl rfl (by decide) (nI_add i 2) (by omega) hL ?_
  refine lg_arg (i := i) (j := 3) (v := nI 3) hX dL_law_430 dL_law_431 dL_law_432 dL_law_433 dL_law_434 rfl rfl (by decide) (nI_add i 3) (by omega) hL ?_
  refine lg_arg (i := i) (j := 4) (v := nI 4) hX dL_law_435 dL_law_436 dL_law_437 dL_law_438 dL_law_439 rfl rfl (by decide) (nI_add i 4) (by omega) hL ?_
  refine lg_callM (As := [.int (ys (i + 1)), .int (ys (i + 2)), .int (ys (i + 3)), .int (ys (i + 4))]) (rest := [.int r]) hX hLm dL_law_440 (c_X10_drift hLm hm) mwL_X10_drift mvL_X10_drift mlL_X10_drift rfl rfl rfl (Nat.le_of_ble_eq_true rfl) (Nat.le_of_ble_eq_true rfl) (Nat.le_of_ble_eq_true rfl) ?_
  exact lg_icmp_eq hX 1028 dL_law_443 (by decide) (K _ _ S2)
theorem law_leaf (hX : FL X U b L ys) (hLc : (xV X).2.2.2 = lyC) (hLm : U.2.2.2 = lyM) {n i : Nat} (S : Sim n μc μm) (hn5 : n < 512) (hi : i + 6 < L) (hL : L < 100000) (K : ∀ μc2 μm2 : Mem, Sim (n + 1) μc2 μm2 → LG X U 1028 (lvL X U b i) [] μc2 μm2) : LG X U 448 (lvL X U b i) [] μc μm := by
  obtain ⟨r, μc2, μm2, hc, hm, S2⟩ := step_leaf S hn5 (ys (i + 1)) (ys (i + 2)) (ys (i + 3))
  refine lg_aload_n hX dL_law_448 1 rfl ?_
  refine lg_arg (i := i) (j := 1) (v := nI 1) hX dL_law_449 dL_law_450 dL_law_451 dL_law_452 dL_law_453 rfl rfl (by decide) (nI_add i 1) (by omega) hL ?_
  refine lg_arg (i := i) (j := 2) (v := nI 2) hX dL_law_454 dL_law_455 dL_law_456 dL_law_457 dL_law_458 rfl rfl (by decide) (nI_add i 2) (by omega) hL ?_
  refine lg_arg (i := i) (j := 3) (v := nI 3) hX dL_law_459 dL_law_460 dL_law_461 dL_law_462 dL_law_463 rfl rfl (by decide) (nI_add i 3) (by omega) hL ?_
  refine lg_callC (As := [.int (ys (i + 1)), .int (ys (i + 2)), .int (ys (i + 3))]) (rest := []) hX hLc dL_law_464 (c_X9_leaf hLc hc) mwL_X9_leaf mvL_X9_leaf mlL_X9_leaf rfl rfl rfl (Nat.le_of_ble_eq_true rfl) (Nat.le_of_ble_eq_true rfl) (Nat.le_of_ble_eq_true rfl) ?_
  refine lg_aload_n hX dL_law_467 2 rfl ?_
  refine lg_arg (i := i) (j := 1) (v := nI 1) hX dL_law_468 dL_law_469 dL_law_470 dL_law_471 dL_law_472 rfl rfl (by decide) (nI_add i 1) (by omega) hL ?_
  refine lg_arg (i := i) (j := 2) (v := nI 2) hX dL_law_473 dL_law_474 dL_law_475 dL_law_476 dL_law_477 rfl rfl (by decide) (nI_add i 2) (by omega) hL ?_
  refine lg_arg (i := i) (j := 3) (v := nI 3) hX dL_law_478 dL_law_479 dL_law_480 dL_law_481 dL_law_482 rfl rfl (by decide) (nI_add i 3) (by omega) hL ?_
  refine lg_callM (As := [.int (ys (i + 1)), .int (ys (i + 2)), .int (ys (i + 3))]) (rest := [.int r]) hX hLm dL_law_483 (c_X10_leaf hLm hm) mwL_X10_leaf mvL_X10_leaf mlL_X10_leaf rfl rfl rfl (Nat.le_of_ble_eq_true rfl) (Nat.le_of_ble_eq_true rfl) (Nat.le_of_ble_eq_true rfl) ?_
  exact lg_icmp_eq hX 1028 dL_law_486 (by decide) (K _ _ S2)
theorem law_hit (hX : FL X U b L ys) (hLc : (xV X).2.2.2 = lyC) (hLm : U.2.2.2 = lyM) {n i : Nat} (S : Sim n μc μm) (hn5 : n < 512) (hi : i + 6 < L) (hL : L < 100000) (K : ∀ μc2 μm2 : Mem, Sim (n + 1) μc2 μm2 → LG X U 1028 (lvL X U b i) [] μc2 μm2) : LG X U 491 (lvL X U b i) [] μc μm := by
  obtain ⟨r, μc2, μm2, hc, hm, S2⟩ := step_hit S (ys (i + 1)) (ys (i + 2)) (ys (i + 3)) (ys (i + 4)) (ys (i + 5)) (ys (i + 6))
  refine lg_aload_n hX dL_law_491 1 rfl ?_
  refine lg_arg (i := i) (j := 1) (v := nI 1) hX dL_law_492 dL_law_493 dL_law_494 dL_law_495 dL_law_496 rfl rfl (by decide) (nI_add i 1) (by omega) hL ?_
  refine lg_arg (i := i) (j := 2) (v := nI 2) hX dL_law_497 dL_law_498 dL_law_499 dL_law_500 dL_law_501 rfl rfl (by decide) (nI_add i 2) (by omega) hL ?_
  refine lg_arg (i := i) (j := 3) (v := nI 3) hX dL_law_502 dL_law_503 dL_law_504 dL_law_505 dL_law_506 rfl rfl (by decide) (nI_add i 3) (by omega) hL ?_
  refine lg_arg (i := i) (j := 4) (v := nI 4) hX dL_law_507 dL_law_508 dL_law_509 dL_law_510 dL_law_511 rfl rfl (by decide) (nI_add i 4) (by omega) hL ?_
  refine lg_arg (i := i) (j := 5) (v := nI 5) hX dL_law_512 dL_law_513 dL_law_514 dL_law_515 dL_law_516 rfl rfl (by decide) (nI_add i 5) (by omega) hL ?_
  refine lg_arg6 (i := i) (j := 6) (v := nI 6) hX dL_law_517 dL_law_518 dL_law_519 dL_law_521 dL_law_522 rfl rfl (by decide) (nI_add i 6) (by omega) hL ?_
  refine lg_callC (As := [.int (ys (i + 1)), .int (ys (i + 2)), .int (ys (i + 3)), .int (ys (i + 4)), .int (ys (i + 5)), .int (ys (i + 6))]) (rest := []) hX hLc dL_law_523 (c_X9_hit hLc hc) mwL_X9_hit mvL_X9_hit mlL_X9_hit rfl rfl rfl (Nat.le_of_ble_eq_true rfl) (Nat.le_of_ble_eq_true rfl) (Nat.le_of_ble_eq_true rfl) ?_
  refine lg_aload_n hX dL_law_526 2 rfl ?_
  refine lg_arg (i := i) (j := 1) (v := nI 1) hX dL_law_527 dL_law_528 dL_law_529 dL_law_530 dL_law_531 rfl rfl (by decide) (nI_add i 1) (by omega) hL ?_
  refine lg_arg (i := i) (j := 2) (v := nI 2) hX dL_law_532 dL_law_533 dL_law_534 dL_law_535 dL_law_536 rfl rfl (by decide) (nI_add i 2) (by omega) hL ?_
  refine lg_arg (i := i) (j := 3) (v := nI 3) hX dL_law_537 dL_law_538 dL_law_539 dL_law_540 dL_law_541 rfl rfl (by decide) (nI_add i 3) (by omega) hL ?_
  refine lg_arg (i := i) (j := 4) (v := nI 4) hX dL_law_542 dL_law_543 dL_law_544 dL_law_545 dL_law_546 rfl rfl (by decide) (nI_add i 4) (by omega) hL ?_
  refine lg_arg (i := i) (j := 5) (v := nI 5) hX dL_law_547 dL_law_548 dL_law_549 dL_law_550 dL_law_551 rfl rfl (by decide) (nI_add i 5) (by omega) hL ?_
  refine lg_arg6 (i := i) (j := 6) (v := nI 6) hX dL_law_552 dL_law_553 dL_law_554 dL_law_556 dL_law_557 rfl rfl (by decide) (nI_add i 6) (by omega) hL ?_
  refine lg_callM (As := [.int (ys (i + 1)), .int (ys (i + 2)), .int (ys (i + 3)), .int (ys (i + 4)), .int (ys (i + 5)), .int (ys (i + 6))]) (rest := [.int r]) hX hLm dL_law_558 (c_X10_hit hLm hm) mwL_X10_hit mvL_X10_hit mlL_X10_hit rfl rfl rfl (Nat.le_of_ble_eq_true rfl) (Nat.le_of_ble_eq_true rfl) (Nat.le_of_ble_eq_true rfl) ?_
  exact lg_icmp_eq hX 1028 dL_law_561 (by decide) (K _ _ S2)
theorem law_door (hX : FL X U b L ys) (hLc : (xV X).2.2.2 = lyC) (hLm : U.2.2.2 = lyM) {n i : Nat} (S : Sim n μc μm) (hn5 : n < 512) (hi : i + 6 < L) (hL : L < 100000) (K : ∀ μc2 μm2 : Mem, Sim (n + 1) μc2 μm2 → LG X U 1028 (lvL X U b i) [] μc2 μm2) : LG X U 566 (lvL X U b i) [] μc μm := by
  obtain ⟨r, μc2, μm2, hc, hm, S2⟩ := step_door S hn5 (ys (i + 1)) (ys (i + 2)) (ys (i + 3)) (ys (i + 4))
  refine lg_aload_n hX dL_law_566 1 rfl ?_
  refine lg_arg (i := i) (j := 1) (v := nI 1) hX dL_law_567 dL_law_568 dL_law_569 dL_law_570 dL_law_571 rfl rfl (by decide) (nI_add i 1) (by omega) hL ?_
  refine lg_arg (i := i) (j := 2) (v := nI 2) hX dL_law_572 dL_law_573 dL_law_574 dL_law_575 dL_law_576 rfl rfl (by decide) (nI_add i 2) (by omega) hL ?_
  refine lg_arg (i := i) (j := 3) (v := nI 3) hX dL_law_577 dL_law_578 dL_law_579 dL_law_580 dL_law_581 rfl rfl (by decide) (nI_add i 3) (by omega) hL ?_
  refine lg_arg (i := i) (j := 4) (v := nI 4) hX dL_law_582 dL_law_583 dL_law_584 dL_law_585 dL_law_586 rfl rfl (by decide) (nI_add i 4) (by omega) hL ?_
  refine lg_callC (As := [.int (ys (i + 1)), .int (ys (i + 2)), .int (ys (i + 3)), .int (ys (i + 4))]) (rest := []) hX hLc dL_law_587 (c_X9_door hLc hc) mwL_X9_door mvL_X9_door mlL_X9_door rfl rfl rfl (Nat.le_of_ble_eq_true rfl) (Nat.le_of_ble_eq_true rfl) (Nat.le_of_ble_eq_true rfl) ?_
  refine lg_aload_n hX dL_law_590 2 rfl ?_
  refine lg_arg (i := i) (j := 1) (v := nI 1) hX dL_law_591 dL_law_592 dL_law_593 dL_law_594 dL_law_595 rfl rfl (by decide) (nI_add i 1) (by omega) hL ?_
  refine lg_arg (i := i) (j := 2) (v := nI 2) hX dL_law_596 dL_law_597 dL_law_598 dL_law_599 dL_law_600 rfl rfl (by decide) (nI_add i 2) (by omega) hL ?_
  refine lg_arg (i := i) (j := 3) (v := nI 3) hX dL_law_601 dL_law_602 dL_law_603 dL_law_604 dL_law_605 rfl rfl (by decide) (nI_add i 3) (by omega) hL ?_
  refine lg_arg (i := i) (j := 4) (v := nI 4) hX dL_law_606 dL_law_607 dL_law_608 dL_law_609 dL_law_610 rfl rfl (by decide) (nI_add i 4) (by omega) hL ?_
  refine lg_callM (As := [.int (ys (i + 1)), .int (ys (i + 2)), .int (ys (i + 3)), .int (ys (i + 4))]) (rest := [.int r]) hX hLm dL_law_611 (c_X10_door hLm hm) mwL_X10_door mvL_X10_door mlL_X10_door rfl rfl rfl (Nat.le_of_ble_eq_true rfl) (Nat.le_of_ble_eq_true rfl) (Nat.le_of_ble_eq_true rfl) ?_
  exact lg_icmp_eq hX 1028 dL_law_614 (by decide) (K _ _ S2)
theorem law_fault (hX : FL X U b L ys) (hLc : (xV X).2.2.2 = lyC) (hLm : U.2.2.2 = lyM) {n i : Nat} (S : Sim n μc μm) (hn5 : n < 512) (hi : i + 6 < L) (hL : L < 100000) (K : ∀ μc2 μm2 : Mem, Sim (n + 1) μc2 μm2 → LG X U 1028 (lvL X U b i) [] μc2 μm2) : LG X U 619 (lvL X U b i) [] μc μm := by
  obtain ⟨r, μc2, μm2, hc, hm, S2⟩ := step_fault S (ys (i + 1))
  refine lg_aload_n hX dL_law_619 1 rfl ?_
  refine lg_arg (i := i) (j := 1) (v := nI 1) hX dL_law_620 dL_law_621 dL_law_622 dL_law_623 dL_law_624 rfl rfl (by decide) (nI_add i 1) (by omega) hL ?_
  refine lg_callC (As := [.int (ys (i + 1))]) (rest := []) hX hLc dL_law_625 (c_X9_fault hLc hc) mwL_X9_fault mvL_X9_fault mlL_X9_fault rfl rfl rfl (Nat.le_of_ble_eq_true rfl) (Nat.le_of_ble_eq_true rfl) (Nat.le_of_ble_eq_true rfl) ?_
  refine lg_aload_n hX dL_law_628 2 rfl ?_
  refine lg_arg (i := i) (j := 1) (v := nI 1) hX dL_law_629 dL_law_630 dL_law_631 dL_law_632 dL_law_633 rfl rfl (by decide) (nI_add i 1) (by omega) hL ?_
  refine lg_callM (As := [.int (ys (i + 1))]) (rest := [.int r]) hX hLm dL_law_634 (c_X10_fault hLm hm) mwL_X10_fault mvL_X10_fault mlL_X10_fault rfl rfl rfl (Nat.le_of_ble_eq_true rfl) (Nat.le_of_ble_eq_true rfl) (Nat.le_of_ble_eq_true rfl) ?_
  exact lg_icmp_eq hX 1028 dL_law_637 (by decide) (K _ _ S2)
theorem law_of (hX : FL X U b L ys) (hLc : (xV X).2.2.2 = lyC) (hLm : U.2.2.2 = lyM) {n i : Nat} (S : Sim n μc μm) (hn5 : n < 512) (hi : i + 6 < L) (hL : L < 100000) (K : ∀ μc2 μm2 : Mem, Sim (n + 1) μc2 μm2 → LG X U 1028 (lvL X U b i) [] μc2 μm2) : LG X U 642 (lvL X U b i) [] μc μm := by
  obtain ⟨r, μc2, μm2, hc, hm, S2⟩ := step_of S (ys (i + 1)) (ys (i + 2))
  refine lg_aload_n hX dL_law_642 1 rfl ?_
  refine lg_arg (i := i) (j := 1) (v := nI 1) hX dL_law_643 dL_law_644 dL_law_645 dL_law_646 dL_law_647 rfl rfl (by decide) (nI_add i 1) (by omega) hL ?_
  refine lg_arg (i := i) (j := 2) (v := nI 2) hX dL_law_648 dL_law_649 dL_law_650 dL_law_651 dL_law_652 rfl rfl (by decide) (nI_add i 2) (by omega) hL ?_
  refine lg_callC (As := [.int (ys (i + 1)), .int (ys (i + 2))]) (rest := []) hX hLc dL_law_653 (c_X9_of hLc hc) mwL_X9_of mvL_X9_of mlL_X9_of rfl rfl rfl (Nat.le_of_ble_eq_true rfl) (Nat.le_of_ble_eq_true rfl) (Nat.le_of_ble_eq_true rfl) ?_
  refine lg_aload_n hX dL_law_656 2 rfl ?_
  refine lg_arg (i := i) (j := 1) (v := nI 1) hX dL_law_657 dL_law_658 dL_law_659 dL_law_660 dL_law_661 rfl rfl (by decide) (nI_add i 1) (by omega) hL ?_
  refine lg_arg (i := i) (j := 2) (v := nI 2) hX dL_law_662 dL_law_663 dL_law_664 dL_law_665 dL_law_666 rfl rfl (by decide) (nI_add i 2) (by omega) hL ?_
  refine lg_callM (As := [.int (ys (i + 1)), .int (ys (i + 2))]) (rest := [.int r]) hX hLm dL_law_667 (c_X10_of hLm hm) mwL_X10_of mvL_X10_of mlL_X10_of rfl rfl rfl (Nat.le_of_ble_eq_true rfl) (Nat.le_of_ble_eq_true rfl) (Nat.le_of_ble_eq_true rfl) ?_
  exact lg_icmp_eq hX 1028 dL_law_670 (by decide) (K _ _ S2)
theorem law_piece (hX : FL X U b L ys) (hLc : (xV X).2.2.2 = lyC) (hLm : U.2.2.2 = lyM) {n i : Nat} (S : Sim n μc μm) (hn5 : n < 512) (hi : i + 6 < L) (hL : L < 100000) (K : ∀ μc2 μm2 : Mem, Sim (n + 1) μc2 μm2 → LG X U 1028 (lvL X U b i) [] μc2 μm2) : LG X U 675 (lvL X U b i) [] μc μm := by
  obtain ⟨r, μc2, μm2, hc, hm, S2⟩ := step_piece S (ys (i + 1)) (ys (i + 2)) (ys (i + 3))
  refine lg_aload_n hX dL_law_675 1 rfl ?_
  refine lg_arg (i := i) (j := 1) (v := nI 1) hX dL_law_676 dL_law_677 dL_law_678 dL_law_679 dL_law_680 rfl rfl (by decide) (nI_add i 1) (by omega) hL ?_
  refine lg_arg (i := i) (j := 2) (v := nI 2) hX dL_law_681 dL_law_682 dL_law_683 dL_law_684 dL_law_685 rfl rfl (by decide) (nI_add i 2) (by omega) hL ?_
  refine lg_arg (i := i) (j := 3) (v := nI 3) hX dL_law_686 dL_law_687 dL_law_688 dL_law_689 dL_law_690 rfl rfl (by decide) (nI_add i 3) (by omega) hL ?_
  refine lg_callC (As := [.int (ys (i + 1)), .int (ys (i + 2)), .int (ys (i + 3))]) (rest := []) hX hLc dL_law_691 (c_X9_piece hLc hc) mwL_X9_piece mvL_X9_piece mlL_X9_piece rfl rfl rfl (Nat.le_of_ble_eq_true rfl) (Nat.le_of_ble_eq_true rfl) (Nat.le_of_ble_eq_true rfl) ?_
  refine lg_aload_n hX dL_law_694 2 rfl ?_
  refine lg_arg (i := i) (j := 1) (v := nI 1) hX dL_law_695 dL_law_696 dL_law_697 dL_law_698 dL_law_699 rfl rfl (by decide) (nI_add i 1) (by omega) hL ?_
  refine lg_arg (i := i) (j := 2) (v := nI 2) hX dL_law_700 dL_law_701 dL_law_702 dL_law_703 dL_law_704 rfl rfl (by decide) (nI_add i 2) (by omega) hL ?_
  refine lg_arg (i := i) (j := 3) (v := nI 3) hX dL_law_705 dL_law_706 dL_law_707 dL_law_708 dL_law_709 rfl rfl (by decide) (nI_add i 3) (by omega) hL ?_
  refine lg_callM (As := [.int (ys (i + 1)), .int (ys (i + 2)), .int (ys (i + 3))]) (rest := [.int r]) hX hLm dL_law_710 (c_X10_piece hLm hm) mwL_X10_piece mvL_X10_piece mlL_X10_piece rfl rfl rfl (Nat.le_of_ble_eq_true rfl) (Nat.le_of_ble_eq_true rfl) (Nat.le_of_ble_eq_true rfl) ?_
  exact lg_icmp_eq hX 1028 dL_law_713 (by decide) (K _ _ S2)
theorem law_joint (hX : FL X U b L ys) (hLc : (xV X).2.2.2 = lyC) (hLm : U.2.2.2 = lyM) {n i : Nat} (S : Sim n μc μm) (hn5 : n < 512) (hi : i + 6 < L) (hL : L < 100000) (K : ∀ μc2 μm2 : Mem, Sim (n + 1) μc2 μm2 → LG X U 1028 (lvL X U b i) [] μc2 μm2) : LG X U 718 (lvL X U b i) [] μc μm := by
  obtain ⟨r, μc2, μm2, hc, hm, S2⟩ := step_joint S (ys (i + 1)) (ys (i + 2)) (ys (i + 3)) (if ys (i + 4) = 0 then 0 else 1)
  refine lg_aload_n hX dL_law_718 1 rfl ?_
  refine lg_arg (i := i) (j := 1) (v := nI 1) hX dL_law_719 dL_law_720 dL_law_721 dL_law_722 dL_law_723 rfl rfl (by decide) (nI_add i 1) (by omega) hL ?_
  refine lg_arg (i := i) (j := 2) (v := nI 2) hX dL_law_724 dL_law_725 dL_law_726 dL_law_727 dL_law_728 rfl rfl (by decide) (nI_add i 2) (by omega) hL ?_
  refine lg_arg (i := i) (j := 3) (v := nI 3) hX dL_law_729 dL_law_730 dL_law_731 dL_law_732 dL_law_733 rfl rfl (by decide) (nI_add i 3) (by omega) hL ?_
  refine lg_arg (i := i) (j := 4) (v := nI 4) hX dL_law_734 dL_law_735 dL_law_736 dL_law_737 dL_law_738 rfl rfl (by decide) (nI_add i 4) (by omega) hL ?_
  refine lg_bool hX dL_law_739 dL_law_742 dL_law_743 dL_law_746 ?_
  refine lg_callC (As := [.int (ys (i + 1)), .int (ys (i + 2)), .int (ys (i + 3)), .int (if ys (i + 4) = 0 then 0 else 1)]) (rest := []) hX hLc dL_law_747 (c_X9_joint hLc hc) mwL_X9_joint mvL_X9_joint mlL_X9_joint rfl rfl rfl (Nat.le_of_ble_eq_true rfl) (Nat.le_of_ble_eq_true rfl) (Nat.le_of_ble_eq_true rfl) ?_
  refine lg_aload_n hX dL_law_750 2 rfl ?_
  refine lg_arg (i := i) (j := 1) (v := nI 1) hX dL_law_751 dL_law_752 dL_law_753 dL_law_754 dL_law_755 rfl rfl (by decide) (nI_add i 1) (by omega) hL ?_
  refine lg_arg (i := i) (j := 2) (v := nI 2) hX dL_law_756 dL_law_757 dL_law_758 dL_law_759 dL_law_760 rfl rfl (by decide) (nI_add i 2) (by omega) hL ?_
  refine lg_arg (i := i) (j := 3) (v := nI 3) hX dL_law_761 dL_law_762 dL_law_763 dL_law_764 dL_law_765 rfl rfl (by decide) (nI_add i 3) (by omega) hL ?_
  refine lg_arg (i := i) (j := 4) (v := nI 4) hX dL_law_766 dL_law_767 dL_law_768 dL_law_769 dL_law_770 rfl rfl (by decide) (nI_add i 4) (by omega) hL ?_
  refine lg_bool hX dL_law_771 dL_law_774 dL_law_775 dL_law_778 ?_
  refine lg_callM (As := [.int (ys (i + 1)), .int (ys (i + 2)), .int (ys (i + 3)), .int (if ys (i + 4) = 0 then 0 else 1)]) (rest := [.int r]) hX hLm dL_law_779 (c_X10_joint hLm hm) mwL_X10_joint mvL_X10_joint mlL_X10_joint rfl rfl rfl (Nat.le_of_ble_eq_true rfl) (Nat.le_of_ble_eq_true rfl) (Nat.le_of_ble_eq_true rfl) ?_
  exact lg_icmp_eq hX 1028 dL_law_782 (by decide) (K _ _ S2)
theorem law_same (hX : FL X U b L ys) (hLc : (xV X).2.2.2 = lyC) (hLm : U.2.2.2 = lyM) {n i : Nat} (S : Sim n μc μm) (hn5 : n < 512) (hi : i + 6 < L) (hL : L < 100000) (K : ∀ μc2 μm2 : Mem, Sim (n + 1) μc2 μm2 → LG X U 1028 (lvL X U b i) [] μc2 μm2) : LG X U 787 (lvL X U b i) [] μc μm := by
  obtain ⟨r, μc2, μm2, hc, hm, S2⟩ := step_same S (ys (i + 1)) (ys (i + 2)) (ys (i + 3))
  refine lg_aload_n hX dL_law_787 1 rfl ?_
  refine lg_arg (i := i) (j := 1) (v := nI 1) hX dL_law_788 dL_law_789 dL_law_790 dL_law_791 dL_law_792 rfl rfl (by decide) (nI_add i 1) (by omega) hL ?_
  refine lg_arg (i := i) (j := 2) (v := nI 2) hX dL_law_793 dL_law_794 dL_law_795 dL_law_796 dL_law_797 rfl rfl (by decide) (nI_add i 2) (by omega) hL ?_
  refine lg_arg (i := i) (j := 3) (v := nI 3) hX dL_law_798 dL_law_799 dL_law_800 dL_law_801 dL_law_802 rfl rfl (by decide) (nI_add i 3) (by omega) hL ?_
  refine lg_callC (As := [.int (ys (i + 1)), .int (ys (i + 2)), .int (ys (i + 3))]) (rest := []) hX hLc dL_law_803 (c_X9_same hLc hc) mwL_X9_same mvL_X9_same mlL_X9_same rfl rfl rfl (Nat.le_of_ble_eq_true rfl) (Nat.le_of_ble_eq_true rfl) (Nat.le_of_ble_eq_true rfl) ?_
  refine lg_aload_n hX dL_law_806 2 rfl ?_
  refine lg_arg (i := i) (j := 1) (v := nI 1) hX dL_law_807 dL_law_808 dL_law_809 dL_law_810 dL_law_811 rfl rfl (by decide) (nI_add i 1) (by omega) hL ?_
  refine lg_arg (i := i) (j := 2) (v := nI 2) hX dL_law_812 dL_law_813 dL_law_814 dL_law_815 dL_law_816 rfl rfl (by decide) (nI_add i 2) (by omega) hL ?_
  refine lg_arg (i := i) (j := 3) (v := nI 3) hX dL_law_817 dL_law_818 dL_law_819 dL_law_820 dL_law_821 rfl rfl (by decide) (nI_add i 3) (by omega) hL ?_
  refine lg_callM (As := [.int (ys (i + 1)), .int (ys (i + 2)), .int (ys (i + 3))]) (rest := [.int r]) hX hLm dL_law_822 (c_X10_same hLm hm) mwL_X10_same mvL_X10_same mlL_X10_same rfl rfl rfl (Nat.le_of_ble_eq_true rfl) (Nat.le_of_ble_eq_true rfl) (Nat.le_of_ble_eq_true rfl) ?_
  exact lg_icmp_eq hX 1028 dL_law_825 (by decide) (K _ _ S2)
theorem law_why (hX : FL X U b L ys) (hLc : (xV X).2.2.2 = lyC) (hLm : U.2.2.2 = lyM) {n i : Nat} (S : Sim n μc μm) (hn5 : n < 512) (hi : i + 6 < L) (hL : L < 100000) (K : ∀ μc2 μm2 : Mem, Sim (n + 1) μc2 μm2 → LG X U 1028 (lvL X U b i) [] μc2 μm2) : LG X U 830 (lvL X U b i) [] μc μm := by
  obtain ⟨r, μc2, μm2, hc, hm, S2⟩ := step_why S hn5 (ys (i + 1)) (ys (i + 2)) (ys (i + 3)) (ys (i + 4)) (ys (i + 5))
  refine lg_aload_n hX dL_law_830 1 rfl ?_
  refine lg_arg (i := i) (j := 1) (v := nI 1) hX dL_law_831 dL_law_832 dL_law_833 dL_law_834 dL_law_835 rfl rfl (by decide) (nI_add i 1) (by omega) hL ?_
  refine lg_arg (i := i) (j := 2) (v := nI 2) hX dL_law_836 dL_law_837 dL_law_838 dL_law_839 dL_law_840 rfl rfl (by decide) (nI_add i 2) (by omega) hL ?_
  refine lg_arg (i := i) (j := 3) (v := nI 3) hX dL_law_841 dL_law_842 dL_law_843 dL_law_844 dL_law_845 rfl rfl (by decide) (nI_add i 3) (by omega) hL ?_
  refine lg_arg (i := i) (j := 4) (v := nI 4) hX dL_law_846 dL_law_847 dL_law_848 dL_law_849 dL_law_850 rfl rfl (by decide) (nI_add i 4) (by omega) hL ?_
  refine lg_arg (i := i) (j := 5) (v := nI 5) hX dL_law_851 dL_law_852 dL_law_853 dL_law_854 dL_law_855 rfl rfl (by decide) (nI_add i 5) (by omega) hL ?_
  refine lg_callC (As := [.int (ys (i + 1)), .int (ys (i + 2)), .int (ys (i + 3)), .int (ys (i + 4)), .int (ys (i + 5))]) (rest := []) hX hLc dL_law_856 (c_X9_why hLc hc) mwL_X9_why mvL_X9_why mlL_X9_why rfl rfl rfl (Nat.le_of_ble_eq_true rfl) (Nat.le_of_ble_eq_true rfl) (Nat.le_of_ble_eq_true rfl) ?_
  refine lg_aload_n hX dL_law_859 2 rfl ?_
  refine lg_arg (i := i) (j := 1) (v := nI 1) hX dL_law_860 dL_law_861 dL_law_862 dL_law_863 dL_law_864 rfl rfl (by decide) (nI_add i 1) (by omega) hL ?_
  refine lg_arg (i := i) (j := 2) (v := nI 2) hX dL_law_865 dL_law_866 dL_law_867 dL_law_868 dL_law_869 rfl rfl (by decide) (nI_add i 2) (by omega) hL ?_
  refine lg_arg (i := i) (j := 3) (v := nI 3) hX dL_law_870 dL_law_871 dL_law_872 dL_law_873 dL_law_874 rfl rfl (by decide) (nI_add i 3) (by omega) hL ?_
  refine lg_arg (i := i) (j := 4) (v := nI 4) hX dL_law_875 dL_law_876 dL_law_877 dL_law_878 dL_law_879 rfl rfl (by decide) (nI_add i 4) (by omega) hL ?_
  refine lg_arg (i := i) (j := 5) (v := nI 5) hX dL_law_880 dL_law_881 dL_law_882 dL_law_883 dL_law_884 rfl rfl (by decide) (nI_add i 5) (by omega) hL ?_
  refine lg_callM (As := [.int (ys (i + 1)), .int (ys (i + 2)), .int (ys (i + 3)), .int (ys (i + 4)), .int (ys (i + 5))]) (rest := [.int r]) hX hLm dL_law_885 (c_X10_why hLm hm) mwL_X10_why mvL_X10_why mlL_X10_why rfl rfl rfl (Nat.le_of_ble_eq_true rfl) (Nat.le_of_ble_eq_true rfl) (Nat.le_of_ble_eq_true rfl) ?_
  exact lg_icmp_eq hX 1028 dL_law_888 (by decide) (K _ _ S2)
theorem law_place (hX : FL X U b L ys) (hLc : (xV X).2.2.2 = lyC) (hLm : U.2.2.2 = lyM) {n i : Nat} (S : Sim n μc μm) (hn5 : n < 512) (hi : i + 6 < L) (hL : L < 100000) (K : ∀ μc2 μm2 : Mem, Sim (n + 1) μc2 μm2 → LG X U 1028 (lvL X U b i) [] μc2 μm2) : LG X U 893 (lvL X U b i) [] μc μm := by
  obtain ⟨r, μc2, μm2, hc, hm, S2⟩ := step_place S hn5 (ys (i + 1)) (ys (i + 2)) (ys (i + 3))
  refine lg_aload_n hX dL_law_893 1 rfl ?_
  refine lg_arg (i := i) (j := 1) (v := nI 1) hX dL_law_894 dL_law_895 dL_law_896 dL_law_897 dL_law_898 rfl rfl (by decide) (nI_add i 1) (by omega) hL ?_
  refine lg_arg (i := i) (j := 2) (v := nI 2) hX dL_law_899 dL_law_900 dL_law_901 dL_law_902 dL_law_903 rfl rfl (by decide) (nI_add i 2) (by omega) hL ?_
  refine lg_arg (i := i) (j := 3) (v := nI 3) hX dL_law_904 dL_law_905 dL_law_906 dL_law_907 dL_law_908 rfl rfl (by decide) (nI_add i 3) (by omega) hL ?_
  refine lg_callC (As := [.int (ys (i + 1)), .int (ys (i + 2)), .int (ys (i + 3))]) (rest := []) hX hLc dL_law_909 (c_X9_place hLc hc) mwL_X9_place mvL_X9_place mlL_X9_place rfl rfl rfl (Nat.le_of_ble_eq_true rfl) (Nat.le_of_ble_eq_true rfl) (Nat.le_of_ble_eq_true rfl) ?_
  refine lg_aload_n hX dL_law_912 2 rfl ?_
  refine lg_arg (i := i) (j := 1) (v := nI 1) hX dL_law_913 dL_law_914 dL_law_915 dL_law_916 dL_law_917 rfl rfl (by decide) (nI_add i 1) (by omega) hL ?_
  refine lg_arg (i := i) (j := 2) (v := nI 2) hX dL_law_918 dL_law_919 dL_law_920 dL_law_921 dL_law_922 rfl rfl (by decide) (nI_add i 2) (by omega) hL ?_
  refine lg_arg (i := i) (j := 3) (v := nI 3) hX dL_law_923 dL_law_924 dL_law_925 dL_law_926 dL_law_927 rfl rfl (by decide) (nI_add i 3) (by omega) hL ?_
  refine lg_callM (As := [.int (ys (i + 1)), .int (ys (i + 2)), .int (ys (i + 3))]) (rest := [.int r]) hX hLm dL_law_928 (c_X10_place hLm hm) mwL_X10_place mvL_X10_place mlL_X10_place rfl rfl rfl (Nat.le_of_ble_eq_true rfl) (Nat.le_of_ble_eq_true rfl) (Nat.le_of_ble_eq_true rfl) ?_
  exact lg_icmp_eq hX 1028 dL_law_931 (by decide) (K _ _ S2)
theorem law_make (hX : FL X U b L ys) (hLc : (xV X).2.2.2 = lyC) (hLm : U.2.2.2 = lyM) {n i : Nat} (S : Sim n μc μm) (hn5 : n < 512) (hi : i + 6 < L) (hL : L < 100000) (K : ∀ μc2 μm2 : Mem, Sim (n + 1) μc2 μm2 → LG X U 1028 (lvL X U b i) [] μc2 μm2) : LG X U 936 (lvL X U b i) [] μc μm := by
  obtain ⟨r, μc2, μm2, hc, hm, S2⟩ := step_make S hn5 (ys (i + 1)) (ys (i + 2))
  refine lg_aload_n hX dL_law_936 1 rfl ?_
  refine lg_arg (i := i) (j := 1) (v := nI 1) hX dL_law_937 dL_law_938 dL_law_939 dL_law_940 dL_law_941 rfl rfl (by decide) (nI_add i 1) (by omega) hL ?_
  refine lg_arg (i := i) (j := 2) (v := nI 2) hX dL_law_942 dL_law_943 dL_law_944 dL_law_945 dL_law_946 rfl rfl (by decide) (nI_add i 2) (by omega) hL ?_
  refine lg_callC (As := [.int (ys (i + 1)), .int (ys (i + 2))]) (rest := []) hX hLc dL_law_947 (c_X9_make hLc hc) mwL_X9_make mvL_X9_make mlL_X9_make rfl rfl rfl (Nat.le_of_ble_eq_true rfl) (Nat.le_of_ble_eq_true rfl) (Nat.le_of_ble_eq_true rfl) ?_
  refine lg_aload_n hX dL_law_950 2 rfl ?_
  refine lg_arg (i := i) (j := 1) (v := nI 1) hX dL_law_951 dL_law_952 dL_law_953 dL_law_954 dL_law_955 rfl rfl (by decide) (nI_add i 1) (by omega) hL ?_
  refine lg_arg (i := i) (j := 2) (v := nI 2) hX dL_law_956 dL_law_957 dL_law_958 dL_law_959 dL_law_960 rfl rfl (by decide) (nI_add i 2) (by omega) hL ?_
  refine lg_callM (As := [.int (ys (i + 1)), .int (ys (i + 2))]) (rest := [.int r]) hX hLm dL_law_961 (c_X10_make hLm hm) mwL_X10_make mvL_X10_make mlL_X10_make rfl rfl rfl (Nat.le_of_ble_eq_true rfl) (Nat.le_of_ble_eq_true rfl) (Nat.le_of_ble_eq_true rfl) ?_
  exact lg_icmp_eq hX 1028 dL_law_964 (by decide) (K _ _ S2)
theorem law_plan (hX : FL X U b L ys) (hLc : (xV X).2.2.2 = lyC) (hLm : U.2.2.2 = lyM) {n i : Nat} (S : Sim n μc μm) (hn5 : n < 512) (hi : i + 6 < L) (hL : L < 100000) (K : ∀ μc2 μm2 : Mem, Sim (n + 1) μc2 μm2 → LG X U 1028 (lvL X U b i) [] μc2 μm2) : LG X U 969 (lvL X U b i) [] μc μm := by
  obtain ⟨r, μc2, μm2, hc, hm, S2⟩ := step_plan S hn5 
  refine lg_aload_n hX dL_law_969 1 rfl ?_
  refine lg_callC (As := []) (rest := []) hX hLc dL_law_970 (c_X9_plan hLc hc) mwL_X9_plan mvL_X9_plan mlL_X9_plan rfl rfl rfl (Nat.le_of_ble_eq_true rfl) (Nat.le_of_ble_eq_true rfl) (Nat.le_of_ble_eq_true rfl) ?_
  refine lg_aload_n hX dL_law_973 2 rfl ?_
  refine lg_callM (As := []) (rest := [.int r]) hX hLm dL_law_974 (c_X10_plan hLm hm) mwL_X10_plan mvL_X10_plan mlL_X10_plan rfl rfl rfl (Nat.le_of_ble_eq_true rfl) (Nat.le_of_ble_eq_true rfl) (Nat.le_of_ble_eq_true rfl) ?_
  exact lg_icmp_eq hX 1028 dL_law_977 (by decide) (K _ _ S2)
theorem law_planned (hX : FL X U b L ys) (hLc : (xV X).2.2.2 = lyC) (hLm : U.2.2.2 = lyM) {n i : Nat} (S : Sim n μc μm) (hn5 : n < 512) (hi : i + 6 < L) (hL : L < 100000) (K : ∀ μc2 μm2 : Mem, Sim (n + 1) μc2 μm2 → LG X U 1028 (lvL X U b i) [] μc2 μm2) : LG X U 982 (lvL X U b i) [] μc μm := by
  obtain ⟨r, μc2, μm2, hc, hm, S2⟩ := step_planned S (ys (i + 1))
  refine lg_aload_n hX dL_law_982 1 rfl ?_
  refine lg_arg (i := i) (j := 1) (v := nI 1) hX dL_law_983 dL_law_984 dL_law_985 dL_law_986 dL_law_987 rfl rfl (by decide) (nI_add i 1) (by omega) hL ?_
  refine lg_callC (As := [.int (ys (i + 1))]) (rest := []) hX hLc dL_law_988 (c_X9_planned hLc hc) mwL_X9_planned mvL_X9_planned mlL_X9_planned rfl rfl rfl (Nat.le_of_ble_eq_true rfl) (Nat.le_of_ble_eq_true rfl) (Nat.le_of_ble_eq_true rfl) ?_
  refine lg_aload_n hX dL_law_991 2 rfl ?_
  refine lg_arg (i := i) (j := 1) (v := nI 1) hX dL_law_992 dL_law_993 dL_law_994 dL_law_995 dL_law_996 rfl rfl (by decide) (nI_add i 1) (by omega) hL ?_
  refine lg_callM (As := [.int (ys (i + 1))]) (rest := [.int r]) hX hLm dL_law_997 (c_X10_planned hLm hm) mwL_X10_planned mvL_X10_planned mlL_X10_planned rfl rfl rfl (Nat.le_of_ble_eq_true rfl) (Nat.le_of_ble_eq_true rfl) (Nat.le_of_ble_eq_true rfl) ?_
  exact lg_icmp_eq hX 1028 dL_law_1000 (by decide) (K _ _ S2)
theorem law_free (hX : FL X U b L ys) (hLc : (xV X).2.2.2 = lyC) (hLm : U.2.2.2 = lyM) {n i : Nat} (S : Sim n μc μm) (hn5 : n < 512) (hi : i + 6 < L) (hL : L < 100000) (K : ∀ μc2 μm2 : Mem, Sim (n + 1) μc2 μm2 → LG X U 1028 (lvL X U b i) [] μc2 μm2) : LG X U 1005 (lvL X U b i) [] μc μm := by
  obtain ⟨r, μc2, μm2, hc, hm, S2⟩ := step_free S hn5 (ys (i + 1))
  refine lg_aload_n hX dL_law_1005 1 rfl ?_
  refine lg_arg (i := i) (j := 1) (v := nI 1) hX dL_law_1006 dL_law_1007 dL_law_1008 dL_law_1009 dL_law_1010 rfl rfl (by decide) (nI_add i 1) (by omega) hL ?_
  refine lg_callC (As := [.int (ys (i + 1))]) (rest := []) hX hLc dL_law_1011 (c_X9_free hLc hc) mwL_X9_free mvL_X9_free mlL_X9_free rfl rfl rfl (Nat.le_of_ble_eq_true rfl) (Nat.le_of_ble_eq_true rfl) (Nat.le_of_ble_eq_true rfl) ?_
  refine lg_aload_n hX dL_law_1014 2 rfl ?_
  refine lg_arg (i := i) (j := 1) (v := nI 1) hX dL_law_1015 dL_law_1016 dL_law_1017 dL_law_1018 dL_law_1019 rfl rfl (by decide) (nI_add i 1) (by omega) hL ?_
  refine lg_callM (As := [.int (ys (i + 1))]) (rest := [.int r]) hX hLm dL_law_1020 (c_X10_free hLm hm) mwL_X10_free mvL_X10_free mlL_X10_free rfl rfl rfl (Nat.le_of_ble_eq_true rfl) (Nat.le_of_ble_eq_true rfl) (Nat.le_of_ble_eq_true rfl) ?_
  exact lg_icmp_eq hX 1028 dL_law_1023 (by decide) (K _ _ S2)
theorem law_loop (hX : FL X U b L ys) (hLc : (xV X).2.2.2 = lyC) (hLm : U.2.2.2 = lyM) (hL : L ≤ 3584) (hE : ∀ (i : Nat) (μ1 μ2 : Mem), LG X U 1034 (lvL X U b i) [] μ1 μ2) : ∀ (k n : Nat) (μ1 μ2 : Mem), n ≤ 512 → 513 ≤ n + k → Sim n μ1 μ2 → LG X U 18 (lvL X U b (7 * n)) [] μ1 μ2 := by
  intro k
  induction k with
  | zero => intro n μ1 μ2 h1 h2; exact absurd h2 (by omega)
  | succ k ih =>
    intro n μ1 μ2 h1 h2 S
    refine lg_iload_n hX dL_law_18 3 rfl ?_
    refine lg_aload_n hX dL_law_19 0 rfl ?_
    refine lg_slen hX dL_law_20 ?_
    refine lg_bipush (v := nI 7) hX dL_law_21 (by decide) ?_
    refine lg_isub hX dL_law_23 ?_
    refine lg_icmp_gt hX 1034 dL_law_24 (by decide) (fun _ => hE _ _ _) (fun hc => ?_)
    have h7 : 7 * n + 7 ≤ L := by
      rcases Nat.lt_or_ge L (7 * n + 7) with q | q
      · exfalso
        apply hc
        rw [iz_nat L, iz_nat 7, iz_sub, iz_nat (7 * n), iz_lt (by omega) (by omega) (by omega) (by omega)]
        omega
      · exact q
    refine lg_aload_n hX dL_law_27 0 rfl ?_
    refine lg_iload_n hX dL_law_28 3 rfl ?_
    refine lg_sld (i := 7 * n) hX dL_law_29 rfl (by omega) (by omega) ?_
    refine lg_bipush (v := 31) hX dL_law_30 (by decide) ?_
    refine lg_iand hX dL_law_32 ?_
    have K : ∀ μc2 μm2 : Mem, Sim (n + 1) μc2 μm2 → LG X U 1028 (lvL X U b (7 * n)) [] μc2 μm2 := fun μc2 μm2 S2 => by
      refine lg_iinc hX dL_law_1028 3 (nI 7) [(3, .int (nI (7 * n) + nI 7)), (0, .ref b), (1, .ref (evA (xV X) 0)), (2, .ref (evA U 0))] rfl (by decide) (by decide) rfl ?_
      refine lg_goto hX 18 dL_law_1031 (by decide) ?_
      refine lg_sub [1, 2, 3, 0] rfl ?_
      rw [nI_add]
      exact ih (n + 1) μc2 μm2 (by omega) (by omega) S2
    have hi : 7 * n + 6 < L := by omega
    have hn5 : n < 512 := by omega
    have hL5 : L < 100000 := by omega
    generalize ys (7 * n) &&& 31 = x
    by_cases h_0 : x = (0 : Int32)
    · rw [h_0]
      exact lg_tabIn (off := 95) hX 128 dL_law_33 (by decide) (by decide) (by decide) (by decide) (law_feed hX hLc hLm S hn5 hi hL5 K)
    by_cases h_1 : x = (1 : Int32)
    · rw [h_1]
      exact lg_tabIn (off := 158) hX 191 dL_law_33 (by decide) (by decide) (by decide) (by decide) (law_end hX hLc hLm S hn5 hi hL5 K)
    by_cases h_2 : x = (2 : Int32)
    · rw [h_2]
      exact lg_tabIn (off := 181) hX 214 dL_law_33 (by decide) (by decide) (by decide) (by decide) (law_log hX hLc hLm S hn5 hi hL5 K)
    by_cases h_3 : x = (3 : Int32)
    · rw [h_3]
      exact lg_tabIn (off := 244) hX 277 dL_law_33 (by decide) (by decide) (by decide) (by decide) (law_tone hX hLc hLm S hn5 hi hL5 K)
    by_cases h_4 : x = (4 : Int32)
    · rw [h_4]
      exact lg_tabIn (off := 287) hX 320 dL_law_33 (by decide) (by decide) (by decide) (by decide) (law_flaw hX hLc hLm S hn5 hi hL5 K)
    by_cases h_5 : x = (5 : Int32)
    · rw [h_5]
      exact lg_tabIn (off := 362) hX 395 dL_law_33 (by decide) (by decide) (by decide) (by decide) (law_drift hX hLc hLm S hn5 hi hL5 K)
    by_cases h_6 : x = (6 : Int32)
    · rw [h_6]
      exact lg_tabIn (off := 415) hX 448 dL_law_33 (by decide) (by decide) (by decide) (by decide) (law_leaf hX hLc hLm S hn5 hi hL5 K)
    by_cases h_7 : x = (7 : Int32)
    · rw [h_7]
      exact lg_tabIn (off := 458) hX 491 dL_law_33 (by decide) (by decide) (by decide) (by decide) (law_hit hX hLc hLm S hn5 hi hL5 K)
    by_cases h_8 : x = (8 : Int32)
    · rw [h_8]
      exact lg_tabIn (off := 533) hX 566 dL_law_33 (by decide) (by decide) (by decide) (by decide) (law_door hX hLc hLm S hn5 hi hL5 K)
    by_cases h_9 : x = (9 : Int32)
    · rw [h_9]
      exact lg_tabIn (off := 586) hX 619 dL_law_33 (by decide) (by decide) (by decide) (by decide) (law_fault hX hLc hLm S hn5 hi hL5 K)
    by_cases h_10 : x = (10 : Int32)
    · rw [h_10]
      exact lg_tabIn (off := 609) hX 642 dL_law_33 (by decide) (by decide) (by decide) (by decide) (law_of hX hLc hLm S hn5 hi hL5 K)
    by_cases h_11 : x = (11 : Int32)
    · rw [h_11]
      exact lg_tabIn (off := 642) hX 675 dL_law_33 (by decide) (by decide) (by decide) (by decide) (law_piece hX hLc hLm S hn5 hi hL5 K)
    by_cases h_12 : x = (12 : Int32)
    · rw [h_12]
      exact lg_tabIn (off := 685) hX 718 dL_law_33 (by decide) (by decide) (by decide) (by decide) (law_joint hX hLc hLm S hn5 hi hL5 K)
    by_cases h_13 : x = (13 : Int32)
    · rw [h_13]
      exact lg_tabIn (off := 754) hX 787 dL_law_33 (by decide) (by decide) (by decide) (by decide) (law_same hX hLc hLm S hn5 hi hL5 K)
    by_cases h_14 : x = (14 : Int32)
    · rw [h_14]
      exact lg_tabIn (off := 797) hX 830 dL_law_33 (by decide) (by decide) (by decide) (by decide) (law_why hX hLc hLm S hn5 hi hL5 K)
    by_cases h_15 : x = (15 : Int32)
    · rw [h_15]
      exact lg_tabIn (off := 860) hX 893 dL_law_33 (by decide) (by decide) (by decide) (by decide) (law_place hX hLc hLm S hn5 hi hL5 K)
    by_cases h_16 : x = (16 : Int32)
    · rw [h_16]
      exact lg_tabIn (off := 903) hX 936 dL_law_33 (by decide) (by decide) (by decide) (by decide) (law_make hX hLc hLm S hn5 hi hL5 K)
    by_cases h_17 : x = (17 : Int32)
    · rw [h_17]
      exact lg_tabIn (off := 936) hX 969 dL_law_33 (by decide) (by decide) (by decide) (by decide) (law_plan hX hLc hLm S hn5 hi hL5 K)
    by_cases h_18 : x = (18 : Int32)
    · rw [h_18]
      exact lg_tabIn (off := 949) hX 982 dL_law_33 (by decide) (by decide) (by decide) (by decide) (law_planned hX hLc hLm S hn5 hi hL5 K)
    by_cases h_19 : x = (19 : Int32)
    · rw [h_19]
      exact lg_tabIn (off := 972) hX 1005 dL_law_33 (by decide) (by decide) (by decide) (by decide) (law_free hX hLc hLm S hn5 hi hL5 K)
    exact lg_tabOut hX 1028 dL_law_33 (tabO20 h_0 h_1 h_2 h_3 h_4 h_5 h_6 h_7 h_8 h_9 h_10 h_11 h_12 h_13 h_14 h_15 h_16 h_17 h_18 h_19) (by decide) (K _ _ S.next)
end
