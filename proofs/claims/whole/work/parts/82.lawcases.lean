set_option maxRecDepth 10000 in
theorem lk_0 {zc : LCz} {zm : LMz} {l : Launch} {b L : Nat} {xs : Nat → Int32} {Ψ : Nat → List (Nat × Value) → List Value → la_Mem → la_Mem → Prop} (C : lj_C zc zm l b L xs Ψ) {μ ν : la_Mem} (x : Int32) (h1 : la_ix (x + 1) L = true) (h2 : la_ix (x + 2) L = true) (h3 : la_ix (x + 3) L = true) {r : Int32} {μ' ν' : la_Mem} (hc : fX7_letter (xs (Int32.toNatClampNeg (x + 1))) (xs (Int32.toNatClampNeg (x + 2))) (xs (Int32.toNatClampNeg (x + 3))) μ = some (r, μ')) (hm : fX8_letter (xs (Int32.toNatClampNeg (x + 1))) (xs (Int32.toNatClampNeg (x + 2))) (xs (Int32.toNatClampNeg (x + 3))) ν = some (r, ν')) (k : Ψ 1355 [(0, .ref b), (1, .ref (zc.2.1 0)), (2, .ref (zm.2.1 0)), (3, .int x)] [] μ' ν') : Ψ 188 [(0, .ref b), (1, .ref (zc.2.1 0)), (2, .ref (zm.2.1 0)), (3, .int x)] [] μ ν := by
  refine lj_aload_n C dL_law_188 1 rfl ?_
  refine lj_aload_n C dL_law_189 0 rfl ?_
  refine lj_iload_n C dL_law_190 3 rfl ?_
  refine lj_iconst C (v := 1) dL_law_191 (by decide) ?_
  refine lj_iadd C dL_law_192 ?_
  refine lj_sld C h1 dL_law_193 ?_
  refine lj_aload_n C dL_law_194 0 rfl ?_
  refine lj_iload_n C dL_law_195 3 rfl ?_
  refine lj_iconst C (v := 2) dL_law_196 (by decide) ?_
  refine lj_iadd C dL_law_197 ?_
  refine lj_sld C h2 dL_law_198 ?_
  refine lj_aload_n C dL_law_199 0 rfl ?_
  refine lj_iload_n C dL_law_200 3 rfl ?_
  refine lj_iconst C (v := 3) dL_law_201 (by decide) ?_
  refine lj_iadd C dL_law_202 ?_
  refine lj_sld C h3 dL_law_203 ?_
  refine lj_callC (n := 3) C [.int (xs (Int32.toNatClampNeg (x + 1))), .int (xs (Int32.toNatClampNeg (x + 2))), .int (xs (Int32.toNatClampNeg (x + 3)))] [] (mX7_letter (xs (Int32.toNatClampNeg (x + 1))) (xs (Int32.toNatClampNeg (x + 2))) (xs (Int32.toNatClampNeg (x + 3))) μ r μ' hc) (la_gv wd_129 wd_130 wd_131 wd_2 wd_132) (by decide +kernel) ⟨Nat.le_of_ble_eq_true rfl, Nat.le_of_ble_eq_true rfl⟩ rfl rfl rfl rfl (Nat.le_of_ble_eq_true rfl) dL_law_204 ?_
  refine lj_aload_n C dL_law_207 2 rfl ?_
  refine lj_aload_n C dL_law_208 0 rfl ?_
  refine lj_iload_n C dL_law_209 3 rfl ?_
  refine lj_iconst C (v := 1) dL_law_210 (by decide) ?_
  refine lj_iadd C dL_law_211 ?_
  refine lj_sld C h1 dL_law_212 ?_
  refine lj_aload_n C dL_law_213 0 rfl ?_
  refine lj_iload_n C dL_law_214 3 rfl ?_
  refine lj_iconst C (v := 2) dL_law_215 (by decide) ?_
  refine lj_iadd C dL_law_216 ?_
  refine lj_sld C h2 dL_law_217 ?_
  refine lj_aload_n C dL_law_218 0 rfl ?_
  refine lj_iload_n C dL_law_219 3 rfl ?_
  refine lj_iconst C (v := 3) dL_law_220 (by decide) ?_
  refine lj_iadd C dL_law_221 ?_
  refine lj_sld C h3 dL_law_222 ?_
  refine lj_callM (n := 3) C [.int (xs (Int32.toNatClampNeg (x + 1))), .int (xs (Int32.toNatClampNeg (x + 2))), .int (xs (Int32.toNatClampNeg (x + 3)))] [.int r] (mX8_letter (xs (Int32.toNatClampNeg (x + 1))) (xs (Int32.toNatClampNeg (x + 2))) (xs (Int32.toNatClampNeg (x + 3))) ν r ν' hm) (la_gv wd_140 wd_141 wd_142 wd_5 wd_143) (by decide +kernel) ⟨Nat.le_of_ble_eq_true rfl, Nat.le_of_ble_eq_true rfl⟩ rfl rfl rfl rfl (Nat.le_of_ble_eq_true rfl) dL_law_223 ?_
  refine lj_eqT C (tgt := 1355) dL_law_226 (by decide) ?_
  exact k
set_option maxRecDepth 10000 in
theorem lk_1 {zc : LCz} {zm : LMz} {l : Launch} {b L : Nat} {xs : Nat → Int32} {Ψ : Nat → List (Nat × Value) → List Value → la_Mem → la_Mem → Prop} (C : lj_C zc zm l b L xs Ψ) {μ ν : la_Mem} (x : Int32) (h1 : la_ix (x + 1) L = true) (h2 : la_ix (x + 2) L = true) (h3 : la_ix (x + 3) L = true) {r : Int32} {μ' ν' : la_Mem} (hc : fX7_place (xs (Int32.toNatClampNeg (x + 1))) (xs (Int32.toNatClampNeg (x + 2))) (xs (Int32.toNatClampNeg (x + 3))) μ = some (r, μ')) (hm : fX8_place (xs (Int32.toNatClampNeg (x + 1))) (xs (Int32.toNatClampNeg (x + 2))) (xs (Int32.toNatClampNeg (x + 3))) ν = some (r, ν')) (k : Ψ 1355 [(0, .ref b), (1, .ref (zc.2.1 0)), (2, .ref (zm.2.1 0)), (3, .int x)] [] μ' ν') : Ψ 231 [(0, .ref b), (1, .ref (zc.2.1 0)), (2, .ref (zm.2.1 0)), (3, .int x)] [] μ ν := by
  refine lj_aload_n C dL_law_231 1 rfl ?_
  refine lj_aload_n C dL_law_232 0 rfl ?_
  refine lj_iload_n C dL_law_233 3 rfl ?_
  refine lj_iconst C (v := 1) dL_law_234 (by decide) ?_
  refine lj_iadd C dL_law_235 ?_
  refine lj_sld C h1 dL_law_236 ?_
  refine lj_aload_n C dL_law_237 0 rfl ?_
  refine lj_iload_n C dL_law_238 3 rfl ?_
  refine lj_iconst C (v := 2) dL_law_239 (by decide) ?_
  refine lj_iadd C dL_law_240 ?_
  refine lj_sld C h2 dL_law_241 ?_
  refine lj_aload_n C dL_law_242 0 rfl ?_
  refine lj_iload_n C dL_law_243 3 rfl ?_
  refine lj_iconst C (v := 3) dL_law_244 (by decide) ?_
  refine lj_iadd C dL_law_245 ?_
  refine lj_sld C h3 dL_law_246 ?_
  refine lj_callC (n := 3) C [.int (xs (Int32.toNatClampNeg (x + 1))), .int (xs (Int32.toNatClampNeg (x + 2))), .int (xs (Int32.toNatClampNeg (x + 3)))] [] (mX7_place (xs (Int32.toNatClampNeg (x + 1))) (xs (Int32.toNatClampNeg (x + 2))) (xs (Int32.toNatClampNeg (x + 3))) μ r μ' hc) (la_gv wd_153 wd_154 wd_155 wd_2 wd_156) (by decide +kernel) ⟨Nat.le_of_ble_eq_true rfl, Nat.le_of_ble_eq_true rfl⟩ rfl rfl rfl rfl (Nat.le_of_ble_eq_true rfl) dL_law_247 ?_
  refine lj_aload_n C dL_law_250 2 rfl ?_
  refine lj_aload_n C dL_law_251 0 rfl ?_
  refine lj_iload_n C dL_law_252 3 rfl ?_
  refine lj_iconst C (v := 1) dL_law_253 (by decide) ?_
  refine lj_iadd C dL_law_254 ?_
  refine lj_sld C h1 dL_law_255 ?_
  refine lj_aload_n C dL_law_256 0 rfl ?_
  refine lj_iload_n C dL_law_257 3 rfl ?_
  refine lj_iconst C (v := 2) dL_law_258 (by decide) ?_
  refine lj_iadd C dL_law_259 ?_
  refine lj_sld C h2 dL_law_260 ?_
  refine lj_aload_n C dL_law_261 0 rfl ?_
  refine lj_iload_n C dL_law_262 3 rfl ?_
  refine lj_iconst C (v := 3) dL_law_263 (by decide) ?_
  refine lj_iadd C dL_law_264 ?_
  refine lj_sld C h3 dL_law_265 ?_
  refine lj_callM (n := 3) C [.int (xs (Int32.toNatClampNeg (x + 1))), .int (xs (Int32.toNatClampNeg (x + 2))), .int (xs (Int32.toNatClampNeg (x + 3)))] [.int r] (mX8_place (xs (Int32.toNatClampNeg (x + 1))) (xs (Int32.toNatClampNeg (x + 2))) (xs (Int32.toNatClampNeg (x + 3))) ν r ν' hm) (la_gv wd_164 wd_165 wd_166 wd_5 wd_167) (by decide +kernel) ⟨Nat.le_of_ble_eq_true rfl, Nat.le_of_ble_eq_true rfl⟩ rfl rfl rfl rfl (Nat.le_of_ble_eq_true rfl) dL_law_266 ?_
  refine lj_eqT C (tgt := 1355) dL_law_269 (by decide) ?_
  exact k
set_option maxRecDepth 10000 in
theorem lk_2 {zc : LCz} {zm : LMz} {l : Launch} {b L : Nat} {xs : Nat → Int32} {Ψ : Nat → List (Nat × Value) → List Value → la_Mem → la_Mem → Prop} (C : lj_C zc zm l b L xs Ψ) {μ ν : la_Mem} (x : Int32) (h1 : la_ix (x + 1) L = true) (h2 : la_ix (x + 2) L = true) (h3 : la_ix (x + 3) L = true) {r : Int32} {μ' ν' : la_Mem} (hc : fX7_rails (xs (Int32.toNatClampNeg (x + 1))) (xs (Int32.toNatClampNeg (x + 2))) (xs (Int32.toNatClampNeg (x + 3))) μ = some (r, μ')) (hm : fX8_rails (xs (Int32.toNatClampNeg (x + 1))) (xs (Int32.toNatClampNeg (x + 2))) (xs (Int32.toNatClampNeg (x + 3))) ν = some (r, ν')) (k : Ψ 1355 [(0, .ref b), (1, .ref (zc.2.1 0)), (2, .ref (zm.2.1 0)), (3, .int x)] [] μ' ν') : Ψ 274 [(0, .ref b), (1, .ref (zc.2.1 0)), (2, .ref (zm.2.1 0)), (3, .int x)] [] μ ν := by
  refine lj_aload_n C dL_law_274 1 rfl ?_
  refine lj_aload_n C dL_law_275 0 rfl ?_
  refine lj_iload_n C dL_law_276 3 rfl ?_
  refine lj_iconst C (v := 1) dL_law_277 (by decide) ?_
  refine lj_iadd C dL_law_278 ?_
  refine lj_sld C h1 dL_law_279 ?_
  refine lj_aload_n C dL_law_280 0 rfl ?_
  refine lj_iload_n C dL_law_281 3 rfl ?_
  refine lj_iconst C (v := 2) dL_law_282 (by decide) ?_
  refine lj_iadd C dL_law_283 ?_
  refine lj_sld C h2 dL_law_284 ?_
  refine lj_aload_n C dL_law_285 0 rfl ?_
  refine lj_iload_n C dL_law_286 3 rfl ?_
  refine lj_iconst C (v := 3) dL_law_287 (by decide) ?_
  refine lj_iadd C dL_law_288 ?_
  refine lj_sld C h3 dL_law_289 ?_
  refine lj_callC (n := 3) C [.int (xs (Int32.toNatClampNeg (x + 1))), .int (xs (Int32.toNatClampNeg (x + 2))), .int (xs (Int32.toNatClampNeg (x + 3)))] [] (mX7_rails (xs (Int32.toNatClampNeg (x + 1))) (xs (Int32.toNatClampNeg (x + 2))) (xs (Int32.toNatClampNeg (x + 3))) μ r μ' hc) (la_gv wd_169 wd_170 wd_171 wd_2 wd_172) (by decide +kernel) ⟨Nat.le_of_ble_eq_true rfl, Nat.le_of_ble_eq_true rfl⟩ rfl rfl rfl rfl (Nat.le_of_ble_eq_true rfl) dL_law_290 ?_
  refine lj_aload_n C dL_law_293 2 rfl ?_
  refine lj_aload_n C dL_law_294 0 rfl ?_
  refine lj_iload_n C dL_law_295 3 rfl ?_
  refine lj_iconst C (v := 1) dL_law_296 (by decide) ?_
  refine lj_iadd C dL_law_297 ?_
  refine lj_sld C h1 dL_law_298 ?_
  refine lj_aload_n C dL_law_299 0 rfl ?_
  refine lj_iload_n C dL_law_300 3 rfl ?_
  refine lj_iconst C (v := 2) dL_law_301 (by decide) ?_
  refine lj_iadd C dL_law_302 ?_
  refine lj_sld C h2 dL_law_303 ?_
  refine lj_aload_n C dL_law_304 0 rfl ?_
  refine lj_iload_n C dL_law_305 3 rfl ?_
  refine lj_iconst C (v := 3) dL_law_306 (by decide) ?_
  refine lj_iadd C dL_law_307 ?_
  refine lj_sld C h3 dL_law_308 ?_
  refine lj_callM (n := 3) C [.int (xs (Int32.toNatClampNeg (x + 1))), .int (xs (Int32.toNatClampNeg (x + 2))), .int (xs (Int32.toNatClampNeg (x + 3)))] [.int r] (mX8_rails (xs (Int32.toNatClampNeg (x + 1))) (xs (Int32.toNatClampNeg (x + 2))) (xs (Int32.toNatClampNeg (x + 3))) ν r ν' hm) (la_gv wd_190 wd_191 wd_192 wd_5 wd_193) (by decide +kernel) ⟨Nat.le_of_ble_eq_true rfl, Nat.le_of_ble_eq_true rfl⟩ rfl rfl rfl rfl (Nat.le_of_ble_eq_true rfl) dL_law_309 ?_
  refine lj_eqT C (tgt := 1355) dL_law_312 (by decide) ?_
  exact k
set_option maxRecDepth 10000 in
theorem lk_3 {zc : LCz} {zm : LMz} {l : Launch} {b L : Nat} {xs : Nat → Int32} {Ψ : Nat → List (Nat × Value) → List Value → la_Mem → la_Mem → Prop} (C : lj_C zc zm l b L xs Ψ) {μ ν : la_Mem} (x : Int32) (h1 : la_ix (x + 1) L = true) (h2 : la_ix (x + 2) L = true) {r : Int32} {μ' ν' : la_Mem} (hc : fX7_set (xs (Int32.toNatClampNeg (x + 1))) (xs (Int32.toNatClampNeg (x + 2))) μ = some (r, μ')) (hm : fX8_set (xs (Int32.toNatClampNeg (x + 1))) (xs (Int32.toNatClampNeg (x + 2))) ν = some (r, ν')) (k : Ψ 1355 [(0, .ref b), (1, .ref (zc.2.1 0)), (2, .ref (zm.2.1 0)), (3, .int x)] [] μ' ν') : Ψ 317 [(0, .ref b), (1, .ref (zc.2.1 0)), (2, .ref (zm.2.1 0)), (3, .int x)] [] μ ν := by
  refine lj_aload_n C dL_law_317 1 rfl ?_
  refine lj_aload_n C dL_law_318 0 rfl ?_
  refine lj_iload_n C dL_law_319 3 rfl ?_
  refine lj_iconst C (v := 1) dL_law_320 (by decide) ?_
  refine lj_iadd C dL_law_321 ?_
  refine lj_sld C h1 dL_law_322 ?_
  refine lj_aload_n C dL_law_323 0 rfl ?_
  refine lj_iload_n C dL_law_324 3 rfl ?_
  refine lj_iconst C (v := 2) dL_law_325 (by decide) ?_
  refine lj_iadd C dL_law_326 ?_
  refine lj_sld C h2 dL_law_327 ?_
  refine lj_callC (n := 2) C [.int (xs (Int32.toNatClampNeg (x + 1))), .int (xs (Int32.toNatClampNeg (x + 2)))] [] (mX7_set (xs (Int32.toNatClampNeg (x + 1))) (xs (Int32.toNatClampNeg (x + 2))) μ r μ' hc) (la_gv wd_206 wd_207 wd_208 wd_2 wd_209) (by decide +kernel) ⟨Nat.le_of_ble_eq_true rfl, Nat.le_of_ble_eq_true rfl⟩ rfl rfl rfl rfl (Nat.le_of_ble_eq_true rfl) dL_law_328 ?_
  refine lj_aload_n C dL_law_331 2 rfl ?_
  refine lj_aload_n C dL_law_332 0 rfl ?_
  refine lj_iload_n C dL_law_333 3 rfl ?_
  refine lj_iconst C (v := 1) dL_law_334 (by decide) ?_
  refine lj_iadd C dL_law_335 ?_
  refine lj_sld C h1 dL_law_336 ?_
  refine lj_aload_n C dL_law_337 0 rfl ?_
  refine lj_iload_n C dL_law_338 3 rfl ?_
  refine lj_iconst C (v := 2) dL_law_339 (by decide) ?_
  refine lj_iadd C dL_law_340 ?_
  refine lj_sld C h2 dL_law_341 ?_
  refine lj_callM (n := 2) C [.int (xs (Int32.toNatClampNeg (x + 1))), .int (xs (Int32.toNatClampNeg (x + 2)))] [.int r] (mX8_set (xs (Int32.toNatClampNeg (x + 1))) (xs (Int32.toNatClampNeg (x + 2))) ν r ν' hm) (la_gv wd_214 wd_215 wd_216 wd_5 wd_217) (by decide +kernel) ⟨Nat.le_of_ble_eq_true rfl, Nat.le_of_ble_eq_true rfl⟩ rfl rfl rfl rfl (Nat.le_of_ble_eq_true rfl) dL_law_342 ?_
  refine lj_eqT C (tgt := 1355) dL_law_345 (by decide) ?_
  exact k
set_option maxRecDepth 10000 in
theorem lk_4 {zc : LCz} {zm : LMz} {l : Launch} {b L : Nat} {xs : Nat → Int32} {Ψ : Nat → List (Nat × Value) → List Value → la_Mem → la_Mem → Prop} (C : lj_C zc zm l b L xs Ψ) {μ ν : la_Mem} (x : Int32) (h1 : la_ix (x + 1) L = true) {r : Int32} (hc : fX7_falls (xs (Int32.toNatClampNeg (x + 1))) μ = some r) (hm : fX8_falls (xs (Int32.toNatClampNeg (x + 1))) ν = some r) (k : Ψ 1355 [(0, .ref b), (1, .ref (zc.2.1 0)), (2, .ref (zm.2.1 0)), (3, .int x)] [] μ ν) : Ψ 350 [(0, .ref b), (1, .ref (zc.2.1 0)), (2, .ref (zm.2.1 0)), (3, .int x)] [] μ ν := by
  refine lj_aload_n C dL_law_350 1 rfl ?_
  refine lj_aload_n C dL_law_351 0 rfl ?_
  refine lj_iload_n C dL_law_352 3 rfl ?_
  refine lj_iconst C (v := 1) dL_law_353 (by decide) ?_
  refine lj_iadd C dL_law_354 ?_
  refine lj_sld C h1 dL_law_355 ?_
  refine lj_callC (n := 1) C [.int (xs (Int32.toNatClampNeg (x + 1)))] [] (mX7_falls (xs (Int32.toNatClampNeg (x + 1))) μ r hc) (la_gv wd_218 wd_219 wd_220 wd_2 wd_221) (by decide +kernel) ⟨Nat.le_of_ble_eq_true rfl, Nat.le_of_ble_eq_true rfl⟩ rfl rfl rfl rfl (Nat.le_of_ble_eq_true rfl) dL_law_356 ?_
  refine lj_aload_n C dL_law_359 2 rfl ?_
  refine lj_aload_n C dL_law_360 0 rfl ?_
  refine lj_iload_n C dL_law_361 3 rfl ?_
  refine lj_iconst C (v := 1) dL_law_362 (by decide) ?_
  refine lj_iadd C dL_law_363 ?_
  refine lj_sld C h1 dL_law_364 ?_
  refine lj_callM (n := 1) C [.int (xs (Int32.toNatClampNeg (x + 1)))] [.int r] (mX8_falls (xs (Int32.toNatClampNeg (x + 1))) ν r hm) (la_gv wd_226 wd_227 wd_228 wd_5 wd_229) (by decide +kernel) ⟨Nat.le_of_ble_eq_true rfl, Nat.le_of_ble_eq_true rfl⟩ rfl rfl rfl rfl (Nat.le_of_ble_eq_true rfl) dL_law_365 ?_
  refine lj_eqT C (tgt := 1355) dL_law_368 (by decide) ?_
  exact k
set_option maxRecDepth 10000 in
theorem lk_5 {zc : LCz} {zm : LMz} {l : Launch} {b L : Nat} {xs : Nat → Int32} {Ψ : Nat → List (Nat × Value) → List Value → la_Mem → la_Mem → Prop} (C : lj_C zc zm l b L xs Ψ) {μ ν : la_Mem} (x : Int32)  {r : Int32} (hc : fX7_astray  μ = some r) (hm : fX8_astray  ν = some r) (k : Ψ 1355 [(0, .ref b), (1, .ref (zc.2.1 0)), (2, .ref (zm.2.1 0)), (3, .int x)] [] μ ν) : Ψ 373 [(0, .ref b), (1, .ref (zc.2.1 0)), (2, .ref (zm.2.1 0)), (3, .int x)] [] μ ν := by
  refine lj_aload_n C dL_law_373 1 rfl ?_
  refine lj_callC (n := 0) C [] [] (mX7_astray  μ r hc) (la_gv wd_234 wd_235 wd_236 wd_2 wd_237) (by decide +kernel) ⟨Nat.le_of_ble_eq_true rfl, Nat.le_of_ble_eq_true rfl⟩ rfl rfl rfl rfl (Nat.le_of_ble_eq_true rfl) dL_law_374 ?_
  refine lj_aload_n C dL_law_377 2 rfl ?_
  refine lj_callM (n := 0) C [] [.int r] (mX8_astray  ν r hm) (la_gv wd_243 wd_244 wd_245 wd_5 wd_246) (by decide +kernel) ⟨Nat.le_of_ble_eq_true rfl, Nat.le_of_ble_eq_true rfl⟩ rfl rfl rfl rfl (Nat.le_of_ble_eq_true rfl) dL_law_378 ?_
  refine lj_eqT C (tgt := 1355) dL_law_381 (by decide) ?_
  exact k
set_option maxRecDepth 10000 in
theorem lk_6 {zc : LCz} {zm : LMz} {l : Launch} {b L : Nat} {xs : Nat → Int32} {Ψ : Nat → List (Nat × Value) → List Value → la_Mem → la_Mem → Prop} (C : lj_C zc zm l b L xs Ψ) {μ ν : la_Mem} (x : Int32) (h1 : la_ix (x + 1) L = true) {r : Int32} (hc : fX7_order (xs (Int32.toNatClampNeg (x + 1))) μ = some r) (hm : fX8_order (xs (Int32.toNatClampNeg (x + 1))) ν = some r) (k : Ψ 1355 [(0, .ref b), (1, .ref (zc.2.1 0)), (2, .ref (zm.2.1 0)), (3, .int x)] [] μ ν) : Ψ 386 [(0, .ref b), (1, .ref (zc.2.1 0)), (2, .ref (zm.2.1 0)), (3, .int x)] [] μ ν := by
  refine lj_aload_n C dL_law_386 1 rfl ?_
  refine lj_aload_n C dL_law_387 0 rfl ?_
  refine lj_iload_n C dL_law_388 3 rfl ?_
  refine lj_iconst C (v := 1) dL_law_389 (by decide) ?_
  refine lj_iadd C dL_law_390 ?_
  refine lj_sld C h1 dL_law_391 ?_
  refine lj_callC (n := 1) C [.int (xs (Int32.toNatClampNeg (x + 1)))] [] (mX7_order (xs (Int32.toNatClampNeg (x + 1))) μ r hc) (la_gv wd_247 wd_248 wd_249 wd_2 wd_250) (by decide +kernel) ⟨Nat.le_of_ble_eq_true rfl, Nat.le_of_ble_eq_true rfl⟩ rfl rfl rfl rfl (Nat.le_of_ble_eq_true rfl) dL_law_392 ?_
  refine lj_aload_n C dL_law_395 2 rfl ?_
  refine lj_aload_n C dL_law_396 0 rfl ?_
  refine lj_iload_n C dL_law_397 3 rfl ?_
  refine lj_iconst C (v := 1) dL_law_398 (by decide) ?_
  refine lj_iadd C dL_law_399 ?_
  refine lj_sld C h1 dL_law_400 ?_
  refine lj_callM (n := 1) C [.int (xs (Int32.toNatClampNeg (x + 1)))] [.int r] (mX8_order (xs (Int32.toNatClampNeg (x + 1))) ν r hm) (la_gv wd_267 wd_268 wd_269 wd_5 wd_270) (by decide +kernel) ⟨Nat.le_of_ble_eq_true rfl, Nat.le_of_ble_eq_true rfl⟩ rfl rfl rfl rfl (Nat.le_of_ble_eq_true rfl) dL_law_401 ?_
  refine lj_eqT C (tgt := 1355) dL_law_404 (by decide) ?_
  exact k
set_option maxRecDepth 10000 in
theorem lk_7 {zc : LCz} {zm : LMz} {l : Launch} {b L : Nat} {xs : Nat → Int32} {Ψ : Nat → List (Nat × Value) → List Value → la_Mem → la_Mem → Prop} (C : lj_C zc zm l b L xs Ψ) {μ ν : la_Mem} (x : Int32) (h1 : la_ix (x + 1) L = true) (h2 : la_ix (x + 2) L = true) {r : Int32} (hc : fX7_lost (xs (Int32.toNatClampNeg (x + 1))) (xs (Int32.toNatClampNeg (x + 2))) μ = some r) (hm : fX8_lost (xs (Int32.toNatClampNeg (x + 1))) (xs (Int32.toNatClampNeg (x + 2))) ν = some r) (k : Ψ 1355 [(0, .ref b), (1, .ref (zc.2.1 0)), (2, .ref (zm.2.1 0)), (3, .int x)] [] μ ν) : Ψ 409 [(0, .ref b), (1, .ref (zc.2.1 0)), (2, .ref (zm.2.1 0)), (3, .int x)] [] μ ν := by
  refine lj_aload_n C dL_law_409 1 rfl ?_
  refine lj_aload_n C dL_law_410 0 rfl ?_
  refine lj_iload_n C dL_law_411 3 rfl ?_
  refine lj_iconst C (v := 1) dL_law_412 (by decide) ?_
  refine lj_iadd C dL_law_413 ?_
  refine lj_sld C h1 dL_law_414 ?_
  refine lj_aload_n C dL_law_415 0 rfl ?_
  refine lj_iload_n C dL_law_416 3 rfl ?_
  refine lj_iconst C (v := 2) dL_law_417 (by decide) ?_
  refine lj_iadd C dL_law_418 ?_
  refine lj_sld C h2 dL_law_419 ?_
  refine lj_callC (n := 2) C [.int (xs (Int32.toNatClampNeg (x + 1))), .int (xs (Int32.toNatClampNeg (x + 2)))] [] (mX7_lost (xs (Int32.toNatClampNeg (x + 1))) (xs (Int32.toNatClampNeg (x + 2))) μ r hc) (la_gv wd_271 wd_272 wd_273 wd_2 wd_274) (by decide +kernel) ⟨Nat.le_of_ble_eq_true rfl, Nat.le_of_ble_eq_true rfl⟩ rfl rfl rfl rfl (Nat.le_of_ble_eq_true rfl) dL_law_420 ?_
  refine lj_aload_n C dL_law_423 2 rfl ?_
  refine lj_aload_n C dL_law_424 0 rfl ?_
  refine lj_iload_n C dL_law_425 3 rfl ?_
  refine lj_iconst C (v := 1) dL_law_426 (by decide) ?_
  refine lj_iadd C dL_law_427 ?_
  refine lj_sld C h1 dL_law_428 ?_
  refine lj_aload_n C dL_law_429 0 rfl ?_
  refine lj_iload_n C dL_law_430 3 rfl ?_
  refine lj_iconst C (v := 2) dL_law_431 (by decide) ?_
  refine lj_iadd C dL_law_432 ?_
  refine lj_sld C h2 dL_law_433 ?_
  refine lj_callM (n := 2) C [.int (xs (Int32.toNatClampNeg (x + 1))), .int (xs (Int32.toNatClampNeg (x + 2)))] [.int r] (mX8_lost (xs (Int32.toNatClampNeg (x + 1))) (xs (Int32.toNatClampNeg (x + 2))) ν r hm) (la_gv wd_286 wd_287 wd_288 wd_5 wd_289) (by decide +kernel) ⟨Nat.le_of_ble_eq_true rfl, Nat.le_of_ble_eq_true rfl⟩ rfl rfl rfl rfl (Nat.le_of_ble_eq_true rfl) dL_law_434 ?_
  refine lj_eqT C (tgt := 1355) dL_law_437 (by decide) ?_
  exact k
set_option maxRecDepth 10000 in
theorem lk_8 {zc : LCz} {zm : LMz} {l : Launch} {b L : Nat} {xs : Nat → Int32} {Ψ : Nat → List (Nat × Value) → List Value → la_Mem → la_Mem → Prop} (C : lj_C zc zm l b L xs Ψ) {μ ν : la_Mem} (x : Int32) (h1 : la_ix (x + 1) L = true) (h2 : la_ix (x + 2) L = true) {r : Int32} {μ' ν' : la_Mem} (hc : fX7_mould (xs (Int32.toNatClampNeg (x + 1))) (xs (Int32.toNatClampNeg (x + 2))) μ = some (r, μ')) (hm : fX8_mould (xs (Int32.toNatClampNeg (x + 1))) (xs (Int32.toNatClampNeg (x + 2))) ν = some (r, ν')) (k : Ψ 1355 [(0, .ref b), (1, .ref (zc.2.1 0)), (2, .ref (zm.2.1 0)), (3, .int x)] [] μ' ν') : Ψ 442 [(0, .ref b), (1, .ref (zc.2.1 0)), (2, .ref (zm.2.1 0)), (3, .int x)] [] μ ν := by
  refine lj_aload_n C dL_law_442 1 rfl ?_
  refine lj_aload_n C dL_law_443 0 rfl ?_
  refine lj_iload_n C dL_law_444 3 rfl ?_
  refine lj_iconst C (v := 1) dL_law_445 (by decide) ?_
  refine lj_iadd C dL_law_446 ?_
  refine lj_sld C h1 dL_law_447 ?_
  refine lj_aload_n C dL_law_448 0 rfl ?_
  refine lj_iload_n C dL_law_449 3 rfl ?_
  refine lj_iconst C (v := 2) dL_law_450 (by decide) ?_
  refine lj_iadd C dL_law_451 ?_
  refine lj_sld C h2 dL_law_452 ?_
  refine lj_callC (n := 2) C [.int (xs (Int32.toNatClampNeg (x + 1))), .int (xs (Int32.toNatClampNeg (x + 2)))] [] (mX7_mould (xs (Int32.toNatClampNeg (x + 1))) (xs (Int32.toNatClampNeg (x + 2))) μ r μ' hc) (la_gv wd_294 wd_295 wd_296 wd_2 wd_297) (by decide +kernel) ⟨Nat.le_of_ble_eq_true rfl, Nat.le_of_ble_eq_true rfl⟩ rfl rfl rfl rfl (Nat.le_of_ble_eq_true rfl) dL_law_453 ?_
  refine lj_aload_n C dL_law_456 2 rfl ?_
  refine lj_aload_n C dL_law_457 0 rfl ?_
  refine lj_iload_n C dL_law_458 3 rfl ?_
  refine lj_iconst C (v := 1) dL_law_459 (by decide) ?_
  refine lj_iadd C dL_law_460 ?_
  refine lj_sld C h1 dL_law_461 ?_
  refine lj_aload_n C dL_law_462 0 rfl ?_
  refine lj_iload_n C dL_law_463 3 rfl ?_
  refine lj_iconst C (v := 2) dL_law_464 (by decide) ?_
  refine lj_iadd C dL_law_465 ?_
  refine lj_sld C h2 dL_law_466 ?_
  refine lj_callM (n := 2) C [.int (xs (Int32.toNatClampNeg (x + 1))), .int (xs (Int32.toNatClampNeg (x + 2)))] [.int r] (mX8_mould (xs (Int32.toNatClampNeg (x + 1))) (xs (Int32.toNatClampNeg (x + 2))) ν r ν' hm) (la_gv wd_306 wd_307 wd_308 wd_5 wd_309) (by decide +kernel) ⟨Nat.le_of_ble_eq_true rfl, Nat.le_of_ble_eq_true rfl⟩ rfl rfl rfl rfl (Nat.le_of_ble_eq_true rfl) dL_law_467 ?_
  refine lj_eqT C (tgt := 1355) dL_law_470 (by decide) ?_
  exact k
set_option maxRecDepth 10000 in
theorem lk_9 {zc : LCz} {zm : LMz} {l : Launch} {b L : Nat} {xs : Nat → Int32} {Ψ : Nat → List (Nat × Value) → List Value → la_Mem → la_Mem → Prop} (C : lj_C zc zm l b L xs Ψ) {μ ν : la_Mem} (x : Int32) (h1 : la_ix (x + 1) L = true) (h2 : la_ix (x + 2) L = true) {r : Int32} (hc : fX7_told (xs (Int32.toNatClampNeg (x + 1))) (xs (Int32.toNatClampNeg (x + 2))) μ = some r) (hm : fX8_told (xs (Int32.toNatClampNeg (x + 1))) (xs (Int32.toNatClampNeg (x + 2))) ν = some r) (k : Ψ 1355 [(0, .ref b), (1, .ref (zc.2.1 0)), (2, .ref (zm.2.1 0)), (3, .int x)] [] μ ν) : Ψ 475 [(0, .ref b), (1, .ref (zc.2.1 0)), (2, .ref (zm.2.1 0)), (3, .int x)] [] μ ν := by
  refine lj_aload_n C dL_law_475 1 rfl ?_
  refine lj_aload_n C dL_law_476 0 rfl ?_
  refine lj_iload_n C dL_law_477 3 rfl ?_
  refine lj_iconst C (v := 1) dL_law_478 (by decide) ?_
  refine lj_iadd C dL_law_479 ?_
  refine lj_sld C h1 dL_law_480 ?_
  refine lj_aload_n C dL_law_481 0 rfl ?_
  refine lj_iload_n C dL_law_482 3 rfl ?_
  refine lj_iconst C (v := 2) dL_law_483 (by decide) ?_
  refine lj_iadd C dL_law_484 ?_
  refine lj_sld C h2 dL_law_485 ?_
  refine lj_callC (n := 2) C [.int (xs (Int32.toNatClampNeg (x + 1))), .int (xs (Int32.toNatClampNeg (x + 2)))] [] (mX7_told (xs (Int32.toNatClampNeg (x + 1))) (xs (Int32.toNatClampNeg (x + 2))) μ r hc) (la_gv wd_315 wd_316 wd_317 wd_2 wd_318) (by decide +kernel) ⟨Nat.le_of_ble_eq_true rfl, Nat.le_of_ble_eq_true rfl⟩ rfl rfl rfl rfl (Nat.le_of_ble_eq_true rfl) dL_law_486 ?_
  refine lj_aload_n C dL_law_489 2 rfl ?_
  refine lj_aload_n C dL_law_490 0 rfl ?_
  refine lj_iload_n C dL_law_491 3 rfl ?_
  refine lj_iconst C (v := 1) dL_law_492 (by decide) ?_
  refine lj_iadd C dL_law_493 ?_
  refine lj_sld C h1 dL_law_494 ?_
  refine lj_aload_n C dL_law_495 0 rfl ?_
  refine lj_iload_n C dL_law_496 3 rfl ?_
  refine lj_iconst C (v := 2) dL_law_497 (by decide) ?_
  refine lj_iadd C dL_law_498 ?_
  refine lj_sld C h2 dL_law_499 ?_
  refine lj_callM (n := 2) C [.int (xs (Int32.toNatClampNeg (x + 1))), .int (xs (Int32.toNatClampNeg (x + 2)))] [.int r] (mX8_told (xs (Int32.toNatClampNeg (x + 1))) (xs (Int32.toNatClampNeg (x + 2))) ν r hm) (la_gv wd_326 wd_327 wd_328 wd_5 wd_329) (by decide +kernel) ⟨Nat.le_of_ble_eq_true rfl, Nat.le_of_ble_eq_true rfl⟩ rfl rfl rfl rfl (Nat.le_of_ble_eq_true rfl) dL_law_500 ?_
  refine lj_eqT C (tgt := 1355) dL_law_503 (by decide) ?_
  exact k
set_option maxRecDepth 10000 in
theorem lk_10 {zc : LCz} {zm : LMz} {l : Launch} {b L : Nat} {xs : Nat → Int32} {Ψ : Nat → List (Nat × Value) → List Value → la_Mem → la_Mem → Prop} (C : lj_C zc zm l b L xs Ψ) {μ ν : la_Mem} (x : Int32) (h1 : la_ix (x + 1) L = true) (h2 : la_ix (x + 2) L = true) {r : Int32} {μ' ν' : la_Mem} (hc : fX7_wear (xs (Int32.toNatClampNeg (x + 1))) (xs (Int32.toNatClampNeg (x + 2))) μ = some (r, μ')) (hm : fX8_wear (xs (Int32.toNatClampNeg (x + 1))) (xs (Int32.toNatClampNeg (x + 2))) ν = some (r, ν')) (k : Ψ 1355 [(0, .ref b), (1, .ref (zc.2.1 0)), (2, .ref (zm.2.1 0)), (3, .int x)] [] μ' ν') : Ψ 508 [(0, .ref b), (1, .ref (zc.2.1 0)), (2, .ref (zm.2.1 0)), (3, .int x)] [] μ ν := by
  refine lj_aload_n C dL_law_508 1 rfl ?_
  refine lj_aload_n C dL_law_509 0 rfl ?_
  refine lj_iload_n C dL_law_510 3 rfl ?_
  refine lj_iconst C (v := 1) dL_law_511 (by decide) ?_
  refine lj_iadd C dL_law_512 ?_
  refine lj_sld C h1 dL_law_513 ?_
  refine lj_aload_n C dL_law_514 0 rfl ?_
  refine lj_iload_n C dL_law_515 3 rfl ?_
  refine lj_iconst C (v := 2) dL_law_516 (by decide) ?_
  refine lj_iadd C dL_law_517 ?_
  refine lj_sld C h2 dL_law_518 ?_
  refine lj_callC (n := 2) C [.int (xs (Int32.toNatClampNeg (x + 1))), .int (xs (Int32.toNatClampNeg (x + 2)))] [] (mX7_wear (xs (Int32.toNatClampNeg (x + 1))) (xs (Int32.toNatClampNeg (x + 2))) μ r μ' hc) (la_gv wd_334 wd_335 wd_336 wd_2 wd_337) (by decide +kernel) ⟨Nat.le_of_ble_eq_true rfl, Nat.le_of_ble_eq_true rfl⟩ rfl rfl rfl rfl (Nat.le_of_ble_eq_true rfl) dL_law_519 ?_
  refine lj_aload_n C dL_law_522 2 rfl ?_
  refine lj_aload_n C dL_law_523 0 rfl ?_
  refine lj_iload_n C dL_law_524 3 rfl ?_
  refine lj_iconst C (v := 1) dL_law_525 (by decide) ?_
  refine lj_iadd C dL_law_526 ?_
  refine lj_sld C h1 dL_law_527 ?_
  refine lj_aload_n C dL_law_528 0 rfl ?_
  refine lj_iload_n C dL_law_529 3 rfl ?_
  refine lj_iconst C (v := 2) dL_law_530 (by decide) ?_
  refine lj_iadd C dL_law_531 ?_
  refine lj_sld C h2 dL_law_532 ?_
  refine lj_callM (n := 2) C [.int (xs (Int32.toNatClampNeg (x + 1))), .int (xs (Int32.toNatClampNeg (x + 2)))] [.int r] (mX8_wear (xs (Int32.toNatClampNeg (x + 1))) (xs (Int32.toNatClampNeg (x + 2))) ν r ν' hm) (la_gv wd_338 wd_339 wd_340 wd_5 wd_341) (by decide +kernel) ⟨Nat.le_of_ble_eq_true rfl, Nat.le_of_ble_eq_true rfl⟩ rfl rfl rfl rfl (Nat.le_of_ble_eq_true rfl) dL_law_533 ?_
  refine lj_eqT C (tgt := 1355) dL_law_536 (by decide) ?_
  exact k
set_option maxRecDepth 10000 in
theorem lk_11 {zc : LCz} {zm : LMz} {l : Launch} {b L : Nat} {xs : Nat → Int32} {Ψ : Nat → List (Nat × Value) → List Value → la_Mem → la_Mem → Prop} (C : lj_C zc zm l b L xs Ψ) {μ ν : la_Mem} (x : Int32) (h1 : la_ix (x + 1) L = true) {r : Int32} {μ' ν' : la_Mem} (hc : fX7_home (xs (Int32.toNatClampNeg (x + 1))) μ = some (r, μ')) (hm : fX8_home (xs (Int32.toNatClampNeg (x + 1))) ν = some (r, ν')) (k : Ψ 1355 [(0, .ref b), (1, .ref (zc.2.1 0)), (2, .ref (zm.2.1 0)), (3, .int x)] [] μ' ν') : Ψ 541 [(0, .ref b), (1, .ref (zc.2.1 0)), (2, .ref (zm.2.1 0)), (3, .int x)] [] μ ν := by
  refine lj_aload_n C dL_law_541 1 rfl ?_
  refine lj_aload_n C dL_law_542 0 rfl ?_
  refine lj_iload_n C dL_law_543 3 rfl ?_
  refine lj_iconst C (v := 1) dL_law_544 (by decide) ?_
  refine lj_iadd C dL_law_545 ?_
  refine lj_sld C h1 dL_law_546 ?_
  refine lj_callC (n := 1) C [.int (xs (Int32.toNatClampNeg (x + 1)))] [] (mX7_home (xs (Int32.toNatClampNeg (x + 1))) μ r μ' hc) (la_gv wd_342 wd_343 wd_344 wd_2 wd_345) (by decide +kernel) ⟨Nat.le_of_ble_eq_true rfl, Nat.le_of_ble_eq_true rfl⟩ rfl rfl rfl rfl (Nat.le_of_ble_eq_true rfl) dL_law_547 ?_
  refine lj_aload_n C dL_law_550 2 rfl ?_
  refine lj_aload_n C dL_law_551 0 rfl ?_
  refine lj_iload_n C dL_law_552 3 rfl ?_
  refine lj_iconst C (v := 1) dL_law_553 (by decide) ?_
  refine lj_iadd C dL_law_554 ?_
  refine lj_sld C h1 dL_law_555 ?_
  refine lj_callM (n := 1) C [.int (xs (Int32.toNatClampNeg (x + 1)))] [.int r] (mX8_home (xs (Int32.toNatClampNeg (x + 1))) ν r ν' hm) (la_gv wd_348 wd_349 wd_350 wd_5 wd_351) (by decide +kernel) ⟨Nat.le_of_ble_eq_true rfl, Nat.le_of_ble_eq_true rfl⟩ rfl rfl rfl rfl (Nat.le_of_ble_eq_true rfl) dL_law_556 ?_
  refine lj_eqT C (tgt := 1355) dL_law_559 (by decide) ?_
  exact k
set_option maxRecDepth 10000 in
theorem lk_12 {zc : LCz} {zm : LMz} {l : Launch} {b L : Nat} {xs : Nat → Int32} {Ψ : Nat → List (Nat × Value) → List Value → la_Mem → la_Mem → Prop} (C : lj_C zc zm l b L xs Ψ) {μ ν : la_Mem} (x : Int32) (h1 : la_ix (x + 1) L = true) (h2 : la_ix (x + 2) L = true) {r : Int32} (hc : fX7_channel (xs (Int32.toNatClampNeg (x + 1))) (xs (Int32.toNatClampNeg (x + 2))) μ = some r) (hm : fX8_channel (xs (Int32.toNatClampNeg (x + 1))) (xs (Int32.toNatClampNeg (x + 2))) ν = some r) (k : Ψ 1355 [(0, .ref b), (1, .ref (zc.2.1 0)), (2, .ref (zm.2.1 0)), (3, .int x)] [] μ ν) : Ψ 564 [(0, .ref b), (1, .ref (zc.2.1 0)), (2, .ref (zm.2.1 0)), (3, .int x)] [] μ ν := by
  refine lj_aload_n C dL_law_564 1 rfl ?_
  refine lj_aload_n C dL_law_565 0 rfl ?_
  refine lj_iload_n C dL_law_566 3 rfl ?_
  refine lj_iconst C (v := 1) dL_law_567 (by decide) ?_
  refine lj_iadd C dL_law_568 ?_
  refine lj_sld C h1 dL_law_569 ?_
  refine lj_aload_n C dL_law_570 0 rfl ?_
  refine lj_iload_n C dL_law_571 3 rfl ?_
  refine lj_iconst C (v := 2) dL_law_572 (by decide) ?_
  refine lj_iadd C dL_law_573 ?_
  refine lj_sld C h2 dL_law_574 ?_
  refine lj_callC (n := 2) C [.int (xs (Int32.toNatClampNeg (x + 1))), .int (xs (Int32.toNatClampNeg (x + 2)))] [] (mX7_channel (xs (Int32.toNatClampNeg (x + 1))) (xs (Int32.toNatClampNeg (x + 2))) μ r hc) (la_gv wd_352 wd_353 wd_354 wd_2 wd_355) (by decide +kernel) ⟨Nat.le_of_ble_eq_true rfl, Nat.le_of_ble_eq_true rfl⟩ rfl rfl rfl rfl (Nat.le_of_ble_eq_true rfl) dL_law_575 ?_
  refine lj_aload_n C dL_law_578 2 rfl ?_
  refine lj_aload_n C dL_law_579 0 rfl ?_
  refine lj_iload_n C dL_law_580 3 rfl ?_
  refine lj_iconst C (v := 1) dL_law_581 (by decide) ?_
  refine lj_iadd C dL_law_582 ?_
  refine lj_sld C h1 dL_law_583 ?_
  refine lj_aload_n C dL_law_584 0 rfl ?_
  refine lj_iload_n C dL_law_585 3 rfl ?_
  refine lj_iconst C (v := 2) dL_law_586 (by decide) ?_
  refine lj_iadd C dL_law_587 ?_
  refine lj_sld C h2 dL_law_588 ?_
  refine lj_callM (n := 2) C [.int (xs (Int32.toNatClampNeg (x + 1))), .int (xs (Int32.toNatClampNeg (x + 2)))] [.int r] (mX8_channel (xs (Int32.toNatClampNeg (x + 1))) (xs (Int32.toNatClampNeg (x + 2))) ν r hm) (la_gv wd_357 wd_358 wd_359 wd_5 wd_360) (by decide +kernel) ⟨Nat.le_of_ble_eq_true rfl, Nat.le_of_ble_eq_true rfl⟩ rfl rfl rfl rfl (Nat.le_of_ble_eq_true rfl) dL_law_589 ?_
  refine lj_eqT C (tgt := 1355) dL_law_592 (by decide) ?_
  exact k
set_option maxRecDepth 10000 in
theorem lk_13 {zc : LCz} {zm : LMz} {l : Launch} {b L : Nat} {xs : Nat → Int32} {Ψ : Nat → List (Nat × Value) → List Value → la_Mem → la_Mem → Prop} (C : lj_C zc zm l b L xs Ψ) {μ ν : la_Mem} (x : Int32) (h1 : la_ix (x + 1) L = true) {r : Int32} {μ' ν' : la_Mem} (hc : fX7_key (xs (Int32.toNatClampNeg (x + 1))) μ = some (r, μ')) (hm : fX8_key (xs (Int32.toNatClampNeg (x + 1))) ν = some (r, ν')) (k : Ψ 1355 [(0, .ref b), (1, .ref (zc.2.1 0)), (2, .ref (zm.2.1 0)), (3, .int x)] [] μ' ν') : Ψ 597 [(0, .ref b), (1, .ref (zc.2.1 0)), (2, .ref (zm.2.1 0)), (3, .int x)] [] μ ν := by
  refine lj_aload_n C dL_law_597 1 rfl ?_
  refine lj_aload_n C dL_law_598 0 rfl ?_
  refine lj_iload_n C dL_law_599 3 rfl ?_
  refine lj_iconst C (v := 1) dL_law_600 (by decide) ?_
  refine lj_iadd C dL_law_601 ?_
  refine lj_sld C h1 dL_law_602 ?_
  refine lj_callC (n := 1) C [.int (xs (Int32.toNatClampNeg (x + 1)))] [] (mX7_key (xs (Int32.toNatClampNeg (x + 1))) μ r μ' hc) (la_gv wd_361 wd_362 wd_363 wd_2 wd_364) (by decide +kernel) ⟨Nat.le_of_ble_eq_true rfl, Nat.le_of_ble_eq_true rfl⟩ rfl rfl rfl rfl (Nat.le_of_ble_eq_true rfl) dL_law_603 ?_
  refine lj_aload_n C dL_law_606 2 rfl ?_
  refine lj_aload_n C dL_law_607 0 rfl ?_
  refine lj_iload_n C dL_law_608 3 rfl ?_
  refine lj_iconst C (v := 1) dL_law_609 (by decide) ?_
  refine lj_iadd C dL_law_610 ?_
  refine lj_sld C h1 dL_law_611 ?_
  refine lj_callM (n := 1) C [.int (xs (Int32.toNatClampNeg (x + 1)))] [.int r] (mX8_key (xs (Int32.toNatClampNeg (x + 1))) ν r ν' hm) (la_gv wd_382 wd_383 wd_384 wd_5 wd_385) (by decide +kernel) ⟨Nat.le_of_ble_eq_true rfl, Nat.le_of_ble_eq_true rfl⟩ rfl rfl rfl rfl (Nat.le_of_ble_eq_true rfl) dL_law_612 ?_
  refine lj_eqT C (tgt := 1355) dL_law_615 (by decide) ?_
  exact k
set_option maxRecDepth 10000 in
theorem lk_14 {zc : LCz} {zm : LMz} {l : Launch} {b L : Nat} {xs : Nat → Int32} {Ψ : Nat → List (Nat × Value) → List Value → la_Mem → la_Mem → Prop} (C : lj_C zc zm l b L xs Ψ) {μ ν : la_Mem} (x : Int32)  {r : Int32} {μ' ν' : la_Mem} (hc : fX7_band  μ = some (r, μ')) (hm : fX8_band  ν = some (r, ν')) (k : Ψ 1355 [(0, .ref b), (1, .ref (zc.2.1 0)), (2, .ref (zm.2.1 0)), (3, .int x)] [] μ' ν') : Ψ 620 [(0, .ref b), (1, .ref (zc.2.1 0)), (2, .ref (zm.2.1 0)), (3, .int x)] [] μ ν := by
  refine lj_aload_n C dL_law_620 1 rfl ?_
  refine lj_callC (n := 0) C [] [] (mX7_band  μ r μ' hc) (la_gv wd_393 wd_394 wd_395 wd_2 wd_396) (by decide +kernel) ⟨Nat.le_of_ble_eq_true rfl, Nat.le_of_ble_eq_true rfl⟩ rfl rfl rfl rfl (Nat.le_of_ble_eq_true rfl) dL_law_621 ?_
  refine lj_aload_n C dL_law_624 2 rfl ?_
  refine lj_callM (n := 0) C [] [.int r] (mX8_band  ν r ν' hm) (la_gv wd_398 wd_399 wd_400 wd_5 wd_401) (by decide +kernel) ⟨Nat.le_of_ble_eq_true rfl, Nat.le_of_ble_eq_true rfl⟩ rfl rfl rfl rfl (Nat.le_of_ble_eq_true rfl) dL_law_625 ?_
  refine lj_eqT C (tgt := 1355) dL_law_628 (by decide) ?_
  exact k
set_option maxRecDepth 10000 in
theorem lk_15 {zc : LCz} {zm : LMz} {l : Launch} {b L : Nat} {xs : Nat → Int32} {Ψ : Nat → List (Nat × Value) → List Value → la_Mem → la_Mem → Prop} (C : lj_C zc zm l b L xs Ψ) {μ ν : la_Mem} (x : Int32) (h1 : la_ix (x + 1) L = true) {r : Int32} {μ' ν' : la_Mem} (hc : fX7_ticks (xs (Int32.toNatClampNeg (x + 1))) μ = some (r, μ')) (hm : fX8_ticks (xs (Int32.toNatClampNeg (x + 1))) ν = some (r, ν')) (k : Ψ 1355 [(0, .ref b), (1, .ref (zc.2.1 0)), (2, .ref (zm.2.1 0)), (3, .int x)] [] μ' ν') : Ψ 633 [(0, .ref b), (1, .ref (zc.2.1 0)), (2, .ref (zm.2.1 0)), (3, .int x)] [] μ ν := by
  refine lj_aload_n C dL_law_633 1 rfl ?_
  refine lj_aload_n C dL_law_634 0 rfl ?_
  refine lj_iload_n C dL_law_635 3 rfl ?_
  refine lj_iconst C (v := 1) dL_law_636 (by decide) ?_
  refine lj_iadd C dL_law_637 ?_
  refine lj_sld C h1 dL_law_638 ?_
  refine lj_callC (n := 1) C [.int (xs (Int32.toNatClampNeg (x + 1)))] [] (mX7_ticks (xs (Int32.toNatClampNeg (x + 1))) μ r μ' hc) (la_gv wd_403 wd_404 wd_405 wd_2 wd_406) (by decide +kernel) ⟨Nat.le_of_ble_eq_true rfl, Nat.le_of_ble_eq_true rfl⟩ rfl rfl rfl rfl (Nat.le_of_ble_eq_true rfl) dL_law_639 ?_
  refine lj_aload_n C dL_law_642 2 rfl ?_
  refine lj_aload_n C dL_law_643 0 rfl ?_
  refine lj_iload_n C dL_law_644 3 rfl ?_
  refine lj_iconst C (v := 1) dL_law_645 (by decide) ?_
  refine lj_iadd C dL_law_646 ?_
  refine lj_sld C h1 dL_law_647 ?_
  refine lj_callM (n := 1) C [.int (xs (Int32.toNatClampNeg (x + 1)))] [.int r] (mX8_ticks (xs (Int32.toNatClampNeg (x + 1))) ν r ν' hm) (la_gv wd_426 wd_427 wd_428 wd_5 wd_429) (by decide +kernel) ⟨Nat.le_of_ble_eq_true rfl, Nat.le_of_ble_eq_true rfl⟩ rfl rfl rfl rfl (Nat.le_of_ble_eq_true rfl) dL_law_648 ?_
  refine lj_eqT C (tgt := 1355) dL_law_651 (by decide) ?_
  exact k
set_option maxRecDepth 10000 in
theorem lk_16 {zc : LCz} {zm : LMz} {l : Launch} {b L : Nat} {xs : Nat → Int32} {Ψ : Nat → List (Nat × Value) → List Value → la_Mem → la_Mem → Prop} (C : lj_C zc zm l b L xs Ψ) {μ ν : la_Mem} (x : Int32) (h1 : la_ix (x + 1) L = true) {r : Int32} (hc : fX7_line (xs (Int32.toNatClampNeg (x + 1))) μ = some r) (hm : fX8_line (xs (Int32.toNatClampNeg (x + 1))) ν = some r) (k : Ψ 1355 [(0, .ref b), (1, .ref (zc.2.1 0)), (2, .ref (zm.2.1 0)), (3, .int x)] [] μ ν) : Ψ 656 [(0, .ref b), (1, .ref (zc.2.1 0)), (2, .ref (zm.2.1 0)), (3, .int x)] [] μ ν := by
  refine lj_aload_n C dL_law_656 1 rfl ?_
  refine lj_aload_n C dL_law_657 0 rfl ?_
  refine lj_iload_n C dL_law_658 3 rfl ?_
  refine lj_iconst C (v := 1) dL_law_659 (by decide) ?_
  refine lj_iadd C dL_law_660 ?_
  refine lj_sld C h1 dL_law_661 ?_
  refine lj_callC (n := 1) C [.int (xs (Int32.toNatClampNeg (x + 1)))] [] (mX7_line (xs (Int32.toNatClampNeg (x + 1))) μ r hc) (la_gv wd_438 wd_439 wd_440 wd_2 wd_441) (by decide +kernel) ⟨Nat.le_of_ble_eq_true rfl, Nat.le_of_ble_eq_true rfl⟩ rfl rfl rfl rfl (Nat.le_of_ble_eq_true rfl) dL_law_662 ?_
  refine lj_aload_n C dL_law_665 2 rfl ?_
  refine lj_aload_n C dL_law_666 0 rfl ?_
  refine lj_iload_n C dL_law_667 3 rfl ?_
  refine lj_iconst C (v := 1) dL_law_668 (by decide) ?_
  refine lj_iadd C dL_law_669 ?_
  refine lj_sld C h1 dL_law_670 ?_
  refine lj_callM (n := 1) C [.int (xs (Int32.toNatClampNeg (x + 1)))] [.int r] (mX8_line (xs (Int32.toNatClampNeg (x + 1))) ν r hm) (la_gv wd_444 wd_445 wd_446 wd_5 wd_447) (by decide +kernel) ⟨Nat.le_of_ble_eq_true rfl, Nat.le_of_ble_eq_true rfl⟩ rfl rfl rfl rfl (Nat.le_of_ble_eq_true rfl) dL_law_671 ?_
  refine lj_eqT C (tgt := 1355) dL_law_674 (by decide) ?_
  exact k
set_option maxRecDepth 10000 in
theorem lk_17 {zc : LCz} {zm : LMz} {l : Launch} {b L : Nat} {xs : Nat → Int32} {Ψ : Nat → List (Nat × Value) → List Value → la_Mem → la_Mem → Prop} (C : lj_C zc zm l b L xs Ψ) {μ ν : la_Mem} (x : Int32)  {r : Int32} (hc : fX7_state  μ = some r) (hm : fX8_state  ν = some r) (k : Ψ 1355 [(0, .ref b), (1, .ref (zc.2.1 0)), (2, .ref (zm.2.1 0)), (3, .int x)] [] μ ν) : Ψ 679 [(0, .ref b), (1, .ref (zc.2.1 0)), (2, .ref (zm.2.1 0)), (3, .int x)] [] μ ν := by
  refine lj_aload_n C dL_law_679 1 rfl ?_
  refine lj_callC (n := 0) C [] [] (mX7_state  μ r hc) (la_gv wd_448 wd_449 wd_450 wd_2 wd_451) (by decide +kernel) ⟨Nat.le_of_ble_eq_true rfl, Nat.le_of_ble_eq_true rfl⟩ rfl rfl rfl rfl (Nat.le_of_ble_eq_true rfl) dL_law_680 ?_
  refine lj_aload_n C dL_law_683 2 rfl ?_
  refine lj_callM (n := 0) C [] [.int r] (mX8_state  ν r hm) (la_gv wd_465 wd_466 wd_467 wd_5 wd_468) (by decide +kernel) ⟨Nat.le_of_ble_eq_true rfl, Nat.le_of_ble_eq_true rfl⟩ rfl rfl rfl rfl (Nat.le_of_ble_eq_true rfl) dL_law_684 ?_
  refine lj_eqT C (tgt := 1355) dL_law_687 (by decide) ?_
  exact k
set_option maxRecDepth 10000 in
theorem lk_18 {zc : LCz} {zm : LMz} {l : Launch} {b L : Nat} {xs : Nat → Int32} {Ψ : Nat → List (Nat × Value) → List Value → la_Mem → la_Mem → Prop} (C : lj_C zc zm l b L xs Ψ) {μ ν : la_Mem} (x : Int32) (h1 : la_ix (x + 1) L = true) {r : Int32} (hc : fX7_thick (xs (Int32.toNatClampNeg (x + 1))) μ = some r) (hm : fX8_thick (xs (Int32.toNatClampNeg (x + 1))) ν = some r) (k : Ψ 1355 [(0, .ref b), (1, .ref (zc.2.1 0)), (2, .ref (zm.2.1 0)), (3, .int x)] [] μ ν) : Ψ 692 [(0, .ref b), (1, .ref (zc.2.1 0)), (2, .ref (zm.2.1 0)), (3, .int x)] [] μ ν := by
  refine lj_aload_n C dL_law_692 1 rfl ?_
  refine lj_aload_n C dL_law_693 0 rfl ?_
  refine lj_iload_n C dL_law_694 3 rfl ?_
  refine lj_iconst C (v := 1) dL_law_695 (by decide) ?_
  refine lj_iadd C dL_law_696 ?_
  refine lj_sld C h1 dL_law_697 ?_
  refine lj_callC (n := 1) C [.int (xs (Int32.toNatClampNeg (x + 1)))] [] (mX7_thick (xs (Int32.toNatClampNeg (x + 1))) μ r hc) (la_gv wd_481 wd_482 wd_483 wd_2 wd_484) (by decide +kernel) ⟨Nat.le_of_ble_eq_true rfl, Nat.le_of_ble_eq_true rfl⟩ rfl rfl rfl rfl (Nat.le_of_ble_eq_true rfl) dL_law_698 ?_
  refine lj_aload_n C dL_law_701 2 rfl ?_
  refine lj_aload_n C dL_law_702 0 rfl ?_
  refine lj_iload_n C dL_law_703 3 rfl ?_
  refine lj_iconst C (v := 1) dL_law_704 (by decide) ?_
  refine lj_iadd C dL_law_705 ?_
  refine lj_sld C h1 dL_law_706 ?_
  refine lj_callM (n := 1) C [.int (xs (Int32.toNatClampNeg (x + 1)))] [.int r] (mX8_thick (xs (Int32.toNatClampNeg (x + 1))) ν r hm) (la_gv wd_485 wd_486 wd_487 wd_5 wd_488) (by decide +kernel) ⟨Nat.le_of_ble_eq_true rfl, Nat.le_of_ble_eq_true rfl⟩ rfl rfl rfl rfl (Nat.le_of_ble_eq_true rfl) dL_law_707 ?_
  refine lj_eqT C (tgt := 1355) dL_law_710 (by decide) ?_
  exact k
set_option maxRecDepth 10000 in
theorem lk_19 {zc : LCz} {zm : LMz} {l : Launch} {b L : Nat} {xs : Nat → Int32} {Ψ : Nat → List (Nat × Value) → List Value → la_Mem → la_Mem → Prop} (C : lj_C zc zm l b L xs Ψ) {μ ν : la_Mem} (x : Int32)  {r : Int32} {μ' ν' : la_Mem} (hc : fX7_cast  μ = some (r, μ')) (hm : fX8_cast  ν = some (r, ν')) (k : Ψ 1355 [(0, .ref b), (1, .ref (zc.2.1 0)), (2, .ref (zm.2.1 0)), (3, .int x)] [] μ' ν') : Ψ 715 [(0, .ref b), (1, .ref (zc.2.1 0)), (2, .ref (zm.2.1 0)), (3, .int x)] [] μ ν := by
  refine lj_aload_n C dL_law_715 1 rfl ?_
  refine lj_callC (n := 0) C [] [] (mX7_cast  μ r μ' hc) (la_gv wd_489 wd_490 wd_491 wd_2 wd_492) (by decide +kernel) ⟨Nat.le_of_ble_eq_true rfl, Nat.le_of_ble_eq_true rfl⟩ rfl rfl rfl rfl (Nat.le_of_ble_eq_true rfl) dL_law_716 ?_
  refine lj_aload_n C dL_law_719 2 rfl ?_
  refine lj_callM (n := 0) C [] [.int r] (mX8_cast  ν r ν' hm) (la_gv wd_523 wd_524 wd_525 wd_5 wd_526) (by decide +kernel) ⟨Nat.le_of_ble_eq_true rfl, Nat.le_of_ble_eq_true rfl⟩ rfl rfl rfl rfl (Nat.le_of_ble_eq_true rfl) dL_law_720 ?_
  refine lj_eqT C (tgt := 1355) dL_law_723 (by decide) ?_
  exact k
set_option maxRecDepth 10000 in
theorem lk_20 {zc : LCz} {zm : LMz} {l : Launch} {b L : Nat} {xs : Nat → Int32} {Ψ : Nat → List (Nat × Value) → List Value → la_Mem → la_Mem → Prop} (C : lj_C zc zm l b L xs Ψ) {μ ν : la_Mem} (x : Int32)  {r : Int32} {μ' ν' : la_Mem} (hc : fX7_clear  μ = some (r, μ')) (hm : fX8_clear  ν = some (r, ν')) (k : Ψ 1355 [(0, .ref b), (1, .ref (zc.2.1 0)), (2, .ref (zm.2.1 0)), (3, .int x)] [] μ' ν') : Ψ 728 [(0, .ref b), (1, .ref (zc.2.1 0)), (2, .ref (zm.2.1 0)), (3, .int x)] [] μ ν := by
  refine lj_aload_n C dL_law_728 1 rfl ?_
  refine lj_callC (n := 0) C [] [] (mX7_clear  μ r μ' hc) (la_gv wd_528 wd_529 wd_530 wd_2 wd_531) (by decide +kernel) ⟨Nat.le_of_ble_eq_true rfl, Nat.le_of_ble_eq_true rfl⟩ rfl rfl rfl rfl (Nat.le_of_ble_eq_true rfl) dL_law_729 ?_
  refine lj_aload_n C dL_law_732 2 rfl ?_
  refine lj_callM (n := 0) C [] [.int r] (mX8_clear  ν r ν' hm) (la_gv wd_532 wd_533 wd_534 wd_5 wd_535) (by decide +kernel) ⟨Nat.le_of_ble_eq_true rfl, Nat.le_of_ble_eq_true rfl⟩ rfl rfl rfl rfl (Nat.le_of_ble_eq_true rfl) dL_law_733 ?_
  refine lj_eqT C (tgt := 1355) dL_law_736 (by decide) ?_
  exact k
set_option maxRecDepth 10000 in
theorem lk_21 {zc : LCz} {zm : LMz} {l : Launch} {b L : Nat} {xs : Nat → Int32} {Ψ : Nat → List (Nat × Value) → List Value → la_Mem → la_Mem → Prop} (C : lj_C zc zm l b L xs Ψ) {μ ν : la_Mem} (x : Int32) (h1 : la_ix (x + 1) L = true) (h2 : la_ix (x + 2) L = true) {r : Int32} (hc : fX7_slug (xs (Int32.toNatClampNeg (x + 1))) (xs (Int32.toNatClampNeg (x + 2))) μ = some r) (hm : fX8_slug (xs (Int32.toNatClampNeg (x + 1))) (xs (Int32.toNatClampNeg (x + 2))) ν = some r) (k : Ψ 1355 [(0, .ref b), (1, .ref (zc.2.1 0)), (2, .ref (zm.2.1 0)), (3, .int x)] [] μ ν) : Ψ 741 [(0, .ref b), (1, .ref (zc.2.1 0)), (2, .ref (zm.2.1 0)), (3, .int x)] [] μ ν := by
  refine lj_aload_n C dL_law_741 1 rfl ?_
  refine lj_aload_n C dL_law_742 0 rfl ?_
  refine lj_iload_n C dL_law_743 3 rfl ?_
  refine lj_iconst C (v := 1) dL_law_744 (by decide) ?_
  refine lj_iadd C dL_law_745 ?_
  refine lj_sld C h1 dL_law_746 ?_
  refine lj_aload_n C dL_law_747 0 rfl ?_
  refine lj_iload_n C dL_law_748 3 rfl ?_
  refine lj_iconst C (v := 2) dL_law_749 (by decide) ?_
  refine lj_iadd C dL_law_750 ?_
  refine lj_sld C h2 dL_law_751 ?_
  refine lj_callC (n := 2) C [.int (xs (Int32.toNatClampNeg (x + 1))), .int (xs (Int32.toNatClampNeg (x + 2)))] [] (mX7_slug (xs (Int32.toNatClampNeg (x + 1))) (xs (Int32.toNatClampNeg (x + 2))) μ r hc) (la_gv wd_536 wd_537 wd_538 wd_2 wd_539) (by decide +kernel) ⟨Nat.le_of_ble_eq_true rfl, Nat.le_of_ble_eq_true rfl⟩ rfl rfl rfl rfl (Nat.le_of_ble_eq_true rfl) dL_law_752 ?_
  refine lj_aload_n C dL_law_755 2 rfl ?_
  refine lj_aload_n C dL_law_756 0 rfl ?_
  refine lj_iload_n C dL_law_757 3 rfl ?_
  refine lj_iconst C (v := 1) dL_law_758 (by decide) ?_
  refine lj_iadd C dL_law_759 ?_
  refine lj_sld C h1 dL_law_760 ?_
  refine lj_aload_n C dL_law_761 0 rfl ?_
  refine lj_iload_n C dL_law_762 3 rfl ?_
  refine lj_iconst C (v := 2) dL_law_763 (by decide) ?_
  refine lj_iadd C dL_law_764 ?_
  refine lj_sld C h2 dL_law_765 ?_
  refine lj_callM (n := 2) C [.int (xs (Int32.toNatClampNeg (x + 1))), .int (xs (Int32.toNatClampNeg (x + 2)))] [.int r] (mX8_slug (xs (Int32.toNatClampNeg (x + 1))) (xs (Int32.toNatClampNeg (x + 2))) ν r hm) (la_gv wd_542 wd_543 wd_544 wd_5 wd_545) (by decide +kernel) ⟨Nat.le_of_ble_eq_true rfl, Nat.le_of_ble_eq_true rfl⟩ rfl rfl rfl rfl (Nat.le_of_ble_eq_true rfl) dL_law_766 ?_
  refine lj_eqT C (tgt := 1355) dL_law_769 (by decide) ?_
  exact k
set_option maxRecDepth 10000 in
theorem lk_22 {zc : LCz} {zm : LMz} {l : Launch} {b L : Nat} {xs : Nat → Int32} {Ψ : Nat → List (Nat × Value) → List Value → la_Mem → la_Mem → Prop} (C : lj_C zc zm l b L xs Ψ) {μ ν : la_Mem} (x : Int32) (h1 : la_ix (x + 1) L = true) {r : Int32} (hc : fX7_count (xs (Int32.toNatClampNeg (x + 1))) μ = some r) (hm : fX8_count (xs (Int32.toNatClampNeg (x + 1))) ν = some r) (k : Ψ 1355 [(0, .ref b), (1, .ref (zc.2.1 0)), (2, .ref (zm.2.1 0)), (3, .int x)] [] μ ν) : Ψ 774 [(0, .ref b), (1, .ref (zc.2.1 0)), (2, .ref (zm.2.1 0)), (3, .int x)] [] μ ν := by
  refine lj_aload_n C dL_law_774 1 rfl ?_
  refine lj_aload_n C dL_law_775 0 rfl ?_
  refine lj_iload_n C dL_law_776 3 rfl ?_
  refine lj_iconst C (v := 1) dL_law_777 (by decide) ?_
  refine lj_iadd C dL_law_778 ?_
  refine lj_sld C h1 dL_law_779 ?_
  refine lj_callC (n := 1) C [.int (xs (Int32.toNatClampNeg (x + 1)))] [] (mX7_count (xs (Int32.toNatClampNeg (x + 1))) μ r hc) (la_gv wd_546 wd_547 wd_548 wd_2 wd_549) (by decide +kernel) ⟨Nat.le_of_ble_eq_true rfl, Nat.le_of_ble_eq_true rfl⟩ rfl rfl rfl rfl (Nat.le_of_ble_eq_true rfl) dL_law_780 ?_
  refine lj_aload_n C dL_law_783 2 rfl ?_
  refine lj_aload_n C dL_law_784 0 rfl ?_
  refine lj_iload_n C dL_law_785 3 rfl ?_
  refine lj_iconst C (v := 1) dL_law_786 (by decide) ?_
  refine lj_iadd C dL_law_787 ?_
  refine lj_sld C h1 dL_law_788 ?_
  refine lj_callM (n := 1) C [.int (xs (Int32.toNatClampNeg (x + 1)))] [.int r] (mX8_count (xs (Int32.toNatClampNeg (x + 1))) ν r hm) (la_gv wd_556 wd_557 wd_558 wd_5 wd_559) (by decide +kernel) ⟨Nat.le_of_ble_eq_true rfl, Nat.le_of_ble_eq_true rfl⟩ rfl rfl rfl rfl (Nat.le_of_ble_eq_true rfl) dL_law_789 ?_
  refine lj_eqT C (tgt := 1355) dL_law_792 (by decide) ?_
  exact k
set_option maxRecDepth 10000 in
theorem lk_23 {zc : LCz} {zm : LMz} {l : Launch} {b L : Nat} {xs : Nat → Int32} {Ψ : Nat → List (Nat × Value) → List Value → la_Mem → la_Mem → Prop} (C : lj_C zc zm l b L xs Ψ) {μ ν : la_Mem} (x : Int32) (h1 : la_ix (x + 1) L = true) (h2 : la_ix (x + 2) L = true) (h3 : la_ix (x + 3) L = true) (h4 : la_ix (x + 4) L = true) (h5 : la_ix (x + 5) L = true) (h6 : la_ix (x + 6) L = true) {r : Int32} {μ' ν' : la_Mem} (hc : fX7_comes (xs (Int32.toNatClampNeg (x + 1))) (xs (Int32.toNatClampNeg (x + 2))) (xs (Int32.toNatClampNeg (x + 3))) (xs (Int32.toNatClampNeg (x + 4))) (xs (Int32.toNatClampNeg (x + 5))) (xs (Int32.toNatClampNeg (x + 6))) μ = some (r, μ')) (hm : fX8_comes (xs (Int32.toNatClampNeg (x + 1))) (xs (Int32.toNatClampNeg (x + 2))) (xs (Int32.toNatClampNeg (x + 3))) (xs (Int32.toNatClampNeg (x + 4))) (xs (Int32.toNatClampNeg (x + 5))) (xs (Int32.toNatClampNeg (x + 6))) ν = some (r, ν')) (k : Ψ 1355 [(0, .ref b), (1, .ref (zc.2.1 0)), (2, .ref (zm.2.1 0)), (3, .int x)] [] μ' ν') : Ψ 797 [(0, .ref b), (1, .ref (zc.2.1 0)), (2, .ref (zm.2.1 0)), (3, .int x)] [] μ ν := by
  refine lj_aload_n C dL_law_797 1 rfl ?_
  refine lj_aload_n C dL_law_798 0 rfl ?_
  refine lj_iload_n C dL_law_799 3 rfl ?_
  refine lj_iconst C (v := 1) dL_law_800 (by decide) ?_
  refine lj_iadd C dL_law_801 ?_
  refine lj_sld C h1 dL_law_802 ?_
  refine lj_aload_n C dL_law_803 0 rfl ?_
  refine lj_iload_n C dL_law_804 3 rfl ?_
  refine lj_iconst C (v := 2) dL_law_805 (by decide) ?_
  refine lj_iadd C dL_law_806 ?_
  refine lj_sld C h2 dL_law_807 ?_
  refine lj_aload_n C dL_law_808 0 rfl ?_
  refine lj_iload_n C dL_law_809 3 rfl ?_
  refine lj_iconst C (v := 3) dL_law_810 (by decide) ?_
  refine lj_iadd C dL_law_811 ?_
  refine lj_sld C h3 dL_law_812 ?_
  refine lj_aload_n C dL_law_813 0 rfl ?_
  refine lj_iload_n C dL_law_814 3 rfl ?_
  refine lj_iconst C (v := 4) dL_law_815 (by decide) ?_
  refine lj_iadd C dL_law_816 ?_
  refine lj_sld C h4 dL_law_817 ?_
  refine lj_aload_n C dL_law_818 0 rfl ?_
  refine lj_iload_n C dL_law_819 3 rfl ?_
  refine lj_iconst C (v := 5) dL_law_820 (by decide) ?_
  refine lj_iadd C dL_law_821 ?_
  refine lj_sld C h5 dL_law_822 ?_
  refine lj_aload_n C dL_law_823 0 rfl ?_
  refine lj_iload_n C dL_law_824 3 rfl ?_
  refine lj_bipush C (v := 6) dL_law_825 (by decide) ?_
  refine lj_iadd C dL_law_827 ?_
  refine lj_sld C h6 dL_law_828 ?_
  refine lj_callC (n := 6) C [.int (xs (Int32.toNatClampNeg (x + 1))), .int (xs (Int32.toNatClampNeg (x + 2))), .int (xs (Int32.toNatClampNeg (x + 3))), .int (xs (Int32.toNatClampNeg (x + 4))), .int (xs (Int32.toNatClampNeg (x + 5))), .int (xs (Int32.toNatClampNeg (x + 6)))] [] (mX7_comes (xs (Int32.toNatClampNeg (x + 1))) (xs (Int32.toNatClampNeg (x + 2))) (xs (Int32.toNatClampNeg (x + 3))) (xs (Int32.toNatClampNeg (x + 4))) (xs (Int32.toNatClampNeg (x + 5))) (xs (Int32.toNatClampNeg (x + 6))) μ r μ' hc) (la_gv wd_564 wd_565 wd_566 wd_2 wd_567) (by decide +kernel) ⟨Nat.le_of_ble_eq_true rfl, Nat.le_of_ble_eq_true rfl⟩ rfl rfl rfl rfl (Nat.le_of_ble_eq_true rfl) dL_law_829 ?_
  refine lj_aload_n C dL_law_832 2 rfl ?_
  refine lj_aload_n C dL_law_833 0 rfl ?_
  refine lj_iload_n C dL_law_834 3 rfl ?_
  refine lj_iconst C (v := 1) dL_law_835 (by decide) ?_
  refine lj_iadd C dL_law_836 ?_
  refine lj_sld C h1 dL_law_837 ?_
  refine lj_aload_n C dL_law_838 0 rfl ?_
  refine lj_iload_n C dL_law_839 3 rfl ?_
  refine lj_iconst C (v := 2) dL_law_840 (by decide) ?_
  refine lj_iadd C dL_law_841 ?_
  refine lj_sld C h2 dL_law_842 ?_
  refine lj_aload_n C dL_law_843 0 rfl ?_
  refine lj_iload_n C dL_law_844 3 rfl ?_
  refine lj_iconst C (v := 3) dL_law_845 (by decide) ?_
  refine lj_iadd C dL_law_846 ?_
  refine lj_sld C h3 dL_law_847 ?_
  refine lj_aload_n C dL_law_848 0 rfl ?_
  refine lj_iload_n C dL_law_849 3 rfl ?_
  refine lj_iconst C (v := 4) dL_law_850 (by decide) ?_
  refine lj_iadd C dL_law_851 ?_
  refine lj_sld C h4 dL_law_852 ?_
  refine lj_aload_n C dL_law_853 0 rfl ?_
  refine lj_iload_n C dL_law_854 3 rfl ?_
  refine lj_iconst C (v := 5) dL_law_855 (by decide) ?_
  refine lj_iadd C dL_law_856 ?_
  refine lj_sld C h5 dL_law_857 ?_
  refine lj_aload_n C dL_law_858 0 rfl ?_
  refine lj_iload_n C dL_law_859 3 rfl ?_
  refine lj_bipush C (v := 6) dL_law_860 (by decide) ?_
  refine lj_iadd C dL_law_862 ?_
  refine lj_sld C h6 dL_law_863 ?_
  refine lj_callM (n := 6) C [.int (xs (Int32.toNatClampNeg (x + 1))), .int (xs (Int32.toNatClampNeg (x + 2))), .int (xs (Int32.toNatClampNeg (x + 3))), .int (xs (Int32.toNatClampNeg (x + 4))), .int (xs (Int32.toNatClampNeg (x + 5))), .int (xs (Int32.toNatClampNeg (x + 6)))] [.int r] (mX8_comes (xs (Int32.toNatClampNeg (x + 1))) (xs (Int32.toNatClampNeg (x + 2))) (xs (Int32.toNatClampNeg (x + 3))) (xs (Int32.toNatClampNeg (x + 4))) (xs (Int32.toNatClampNeg (x + 5))) (xs (Int32.toNatClampNeg (x + 6))) ν r ν' hm) (la_gv wd_587 wd_588 wd_589 wd_5 wd_590) (by decide +kernel) ⟨Nat.le_of_ble_eq_true rfl, Nat.le_of_ble_eq_true rfl⟩ rfl rfl rfl rfl (Nat.le_of_ble_eq_true rfl) dL_law_864 ?_
  refine lj_eqT C (tgt := 1355) dL_law_867 (by decide) ?_
  exact k
set_option maxRecDepth 10000 in
theorem lk_24 {zc : LCz} {zm : LMz} {l : Launch} {b L : Nat} {xs : Nat → Int32} {Ψ : Nat → List (Nat × Value) → List Value → la_Mem → la_Mem → Prop} (C : lj_C zc zm l b L xs Ψ) {μ ν : la_Mem} (x : Int32) (h1 : la_ix (x + 1) L = true) (h2 : la_ix (x + 2) L = true) (h3 : la_ix (x + 3) L = true) (h4 : la_ix (x + 4) L = true) (h5 : la_ix (x + 5) L = true) {r : Int32} {μ' ν' : la_Mem} (hc : fX7_turned (xs (Int32.toNatClampNeg (x + 1))) (xs (Int32.toNatClampNeg (x + 2))) (xs (Int32.toNatClampNeg (x + 3))) (xs (Int32.toNatClampNeg (x + 4))) (xs (Int32.toNatClampNeg (x + 5))) μ = some (r, μ')) (hm : fX8_turned (xs (Int32.toNatClampNeg (x + 1))) (xs (Int32.toNatClampNeg (x + 2))) (xs (Int32.toNatClampNeg (x + 3))) (xs (Int32.toNatClampNeg (x + 4))) (xs (Int32.toNatClampNeg (x + 5))) ν = some (r, ν')) (k : Ψ 1355 [(0, .ref b), (1, .ref (zc.2.1 0)), (2, .ref (zm.2.1 0)), (3, .int x)] [] μ' ν') : Ψ 872 [(0, .ref b), (1, .ref (zc.2.1 0)), (2, .ref (zm.2.1 0)), (3, .int x)] [] μ ν := by
  refine lj_aload_n C dL_law_872 1 rfl ?_
  refine lj_aload_n C dL_law_873 0 rfl ?_
  refine lj_iload_n C dL_law_874 3 rfl ?_
  refine lj_iconst C (v := 1) dL_law_875 (by decide) ?_
  refine lj_iadd C dL_law_876 ?_
  refine lj_sld C h1 dL_law_877 ?_
  refine lj_aload_n C dL_law_878 0 rfl ?_
  refine lj_iload_n C dL_law_879 3 rfl ?_
  refine lj_iconst C (v := 2) dL_law_880 (by decide) ?_
  refine lj_iadd C dL_law_881 ?_
  refine lj_sld C h2 dL_law_882 ?_
  refine lj_aload_n C dL_law_883 0 rfl ?_
  refine lj_iload_n C dL_law_884 3 rfl ?_
  refine lj_iconst C (v := 3) dL_law_885 (by decide) ?_
  refine lj_iadd C dL_law_886 ?_
  refine lj_sld C h3 dL_law_887 ?_
  refine lj_aload_n C dL_law_888 0 rfl ?_
  refine lj_iload_n C dL_law_889 3 rfl ?_
  refine lj_iconst C (v := 4) dL_law_890 (by decide) ?_
  refine lj_iadd C dL_law_891 ?_
  refine lj_sld C h4 dL_law_892 ?_
  refine lj_aload_n C dL_law_893 0 rfl ?_
  refine lj_iload_n C dL_law_894 3 rfl ?_
  refine lj_iconst C (v := 5) dL_law_895 (by decide) ?_
  refine lj_iadd C dL_law_896 ?_
  refine lj_sld C h5 dL_law_897 ?_
  refine lj_callC (n := 5) C [.int (xs (Int32.toNatClampNeg (x + 1))), .int (xs (Int32.toNatClampNeg (x + 2))), .int (xs (Int32.toNatClampNeg (x + 3))), .int (xs (Int32.toNatClampNeg (x + 4))), .int (xs (Int32.toNatClampNeg (x + 5)))] [] (mX7_turned (xs (Int32.toNatClampNeg (x + 1))) (xs (Int32.toNatClampNeg (x + 2))) (xs (Int32.toNatClampNeg (x + 3))) (xs (Int32.toNatClampNeg (x + 4))) (xs (Int32.toNatClampNeg (x + 5))) μ r μ' hc) (la_gv wd_608 wd_609 wd_610 wd_2 wd_611) (by decide +kernel) ⟨Nat.le_of_ble_eq_true rfl, Nat.le_of_ble_eq_true rfl⟩ rfl rfl rfl rfl (Nat.le_of_ble_eq_true rfl) dL_law_898 ?_
  refine lj_aload_n C dL_law_901 2 rfl ?_
  refine lj_aload_n C dL_law_902 0 rfl ?_
  refine lj_iload_n C dL_law_903 3 rfl ?_
  refine lj_iconst C (v := 1) dL_law_904 (by decide) ?_
  refine lj_iadd C dL_law_905 ?_
  refine lj_sld C h1 dL_law_906 ?_
  refine lj_aload_n C dL_law_907 0 rfl ?_
  refine lj_iload_n C dL_law_908 3 rfl ?_
  refine lj_iconst C (v := 2) dL_law_909 (by decide) ?_
  refine lj_iadd C dL_law_910 ?_
  refine lj_sld C h2 dL_law_911 ?_
  refine lj_aload_n C dL_law_912 0 rfl ?_
  refine lj_iload_n C dL_law_913 3 rfl ?_
  refine lj_iconst C (v := 3) dL_law_914 (by decide) ?_
  refine lj_iadd C dL_law_915 ?_
  refine lj_sld C h3 dL_law_916 ?_
  refine lj_aload_n C dL_law_917 0 rfl ?_
  refine lj_iload_n C dL_law_918 3 rfl ?_
  refine lj_iconst C (v := 4) dL_law_919 (by decide) ?_
  refine lj_iadd C dL_law_920 ?_
  refine lj_sld C h4 dL_law_921 ?_
  refine lj_aload_n C dL_law_922 0 rfl ?_
  refine lj_iload_n C dL_law_923 3 rfl ?_
  refine lj_iconst C (v := 5) dL_law_924 (by decide) ?_
  refine lj_iadd C dL_law_925 ?_
  refine lj_sld C h5 dL_law_926 ?_
  refine lj_callM (n := 5) C [.int (xs (Int32.toNatClampNeg (x + 1))), .int (xs (Int32.toNatClampNeg (x + 2))), .int (xs (Int32.toNatClampNeg (x + 3))), .int (xs (Int32.toNatClampNeg (x + 4))), .int (xs (Int32.toNatClampNeg (x + 5)))] [.int r] (mX8_turned (xs (Int32.toNatClampNeg (x + 1))) (xs (Int32.toNatClampNeg (x + 2))) (xs (Int32.toNatClampNeg (x + 3))) (xs (Int32.toNatClampNeg (x + 4))) (xs (Int32.toNatClampNeg (x + 5))) ν r ν' hm) (la_gv wd_616 wd_617 wd_618 wd_5 wd_619) (by decide +kernel) ⟨Nat.le_of_ble_eq_true rfl, Nat.le_of_ble_eq_true rfl⟩ rfl rfl rfl rfl (Nat.le_of_ble_eq_true rfl) dL_law_927 ?_
  refine lj_eqT C (tgt := 1355) dL_law_930 (by decide) ?_
  exact k
set_option maxRecDepth 10000 in
theorem lk_25 {zc : LCz} {zm : LMz} {l : Launch} {b L : Nat} {xs : Nat → Int32} {Ψ : Nat → List (Nat × Value) → List Value → la_Mem → la_Mem → Prop} (C : lj_C zc zm l b L xs Ψ) {μ ν : la_Mem} (x : Int32) (h1 : la_ix (x + 1) L = true) (h2 : la_ix (x + 2) L = true) (h3 : la_ix (x + 3) L = true) (h4 : la_ix (x + 4) L = true) {r : Int32} {μ' ν' : la_Mem} (hc : fX7_waits (xs (Int32.toNatClampNeg (x + 1))) (xs (Int32.toNatClampNeg (x + 2))) (xs (Int32.toNatClampNeg (x + 3))) (xs (Int32.toNatClampNeg (x + 4))) μ = some (r, μ')) (hm : fX8_waits (xs (Int32.toNatClampNeg (x + 1))) (xs (Int32.toNatClampNeg (x + 2))) (xs (Int32.toNatClampNeg (x + 3))) (xs (Int32.toNatClampNeg (x + 4))) ν = some (r, ν')) (k : Ψ 1355 [(0, .ref b), (1, .ref (zc.2.1 0)), (2, .ref (zm.2.1 0)), (3, .int x)] [] μ' ν') : Ψ 935 [(0, .ref b), (1, .ref (zc.2.1 0)), (2, .ref (zm.2.1 0)), (3, .int x)] [] μ ν := by
  refine lj_aload_n C dL_law_935 1 rfl ?_
  refine lj_aload_n C dL_law_936 0 rfl ?_
  refine lj_iload_n C dL_law_937 3 rfl ?_
  refine lj_iconst C (v := 1) dL_law_938 (by decide) ?_
  refine lj_iadd C dL_law_939 ?_
  refine lj_sld C h1 dL_law_940 ?_
  refine lj_aload_n C dL_law_941 0 rfl ?_
  refine lj_iload_n C dL_law_942 3 rfl ?_
  refine lj_iconst C (v := 2) dL_law_943 (by decide) ?_
  refine lj_iadd C dL_law_944 ?_
  refine lj_sld C h2 dL_law_945 ?_
  refine lj_aload_n C dL_law_946 0 rfl ?_
  refine lj_iload_n C dL_law_947 3 rfl ?_
  refine lj_iconst C (v := 3) dL_law_948 (by decide) ?_
  refine lj_iadd C dL_law_949 ?_
  refine lj_sld C h3 dL_law_950 ?_
  refine lj_aload_n C dL_law_951 0 rfl ?_
  refine lj_iload_n C dL_law_952 3 rfl ?_
  refine lj_iconst C (v := 4) dL_law_953 (by decide) ?_
  refine lj_iadd C dL_law_954 ?_
  refine lj_sld C h4 dL_law_955 ?_
  refine lj_callC (n := 4) C [.int (xs (Int32.toNatClampNeg (x + 1))), .int (xs (Int32.toNatClampNeg (x + 2))), .int (xs (Int32.toNatClampNeg (x + 3))), .int (xs (Int32.toNatClampNeg (x + 4)))] [] (mX7_waits (xs (Int32.toNatClampNeg (x + 1))) (xs (Int32.toNatClampNeg (x + 2))) (xs (Int32.toNatClampNeg (x + 3))) (xs (Int32.toNatClampNeg (x + 4))) μ r μ' hc) (la_gv wd_624 wd_625 wd_626 wd_2 wd_627) (by decide +kernel) ⟨Nat.le_of_ble_eq_true rfl, Nat.le_of_ble_eq_true rfl⟩ rfl rfl rfl rfl (Nat.le_of_ble_eq_true rfl) dL_law_956 ?_
  refine lj_aload_n C dL_law_959 2 rfl ?_
  refine lj_aload_n C dL_law_960 0 rfl ?_
  refine lj_iload_n C dL_law_961 3 rfl ?_
  refine lj_iconst C (v := 1) dL_law_962 (by decide) ?_
  refine lj_iadd C dL_law_963 ?_
  refine lj_sld C h1 dL_law_964 ?_
  refine lj_aload_n C dL_law_965 0 rfl ?_
  refine lj_iload_n C dL_law_966 3 rfl ?_
  refine lj_iconst C (v := 2) dL_law_967 (by decide) ?_
  refine lj_iadd C dL_law_968 ?_
  refine lj_sld C h2 dL_law_969 ?_
  refine lj_aload_n C dL_law_970 0 rfl ?_
  refine lj_iload_n C dL_law_971 3 rfl ?_
  refine lj_iconst C (v := 3) dL_law_972 (by decide) ?_
  refine lj_iadd C dL_law_973 ?_
  refine lj_sld C h3 dL_law_974 ?_
  refine lj_aload_n C dL_law_975 0 rfl ?_
  refine lj_iload_n C dL_law_976 3 rfl ?_
  refine lj_iconst C (v := 4) dL_law_977 (by decide) ?_
  refine lj_iadd C dL_law_978 ?_
  refine lj_sld C h4 dL_law_979 ?_
  refine lj_callM (n := 4) C [.int (xs (Int32.toNatClampNeg (x + 1))), .int (xs (Int32.toNatClampNeg (x + 2))), .int (xs (Int32.toNatClampNeg (x + 3))), .int (xs (Int32.toNatClampNeg (x + 4)))] [.int r] (mX8_waits (xs (Int32.toNatClampNeg (x + 1))) (xs (Int32.toNatClampNeg (x + 2))) (xs (Int32.toNatClampNeg (x + 3))) (xs (Int32.toNatClampNeg (x + 4))) ν r ν' hm) (la_gv wd_632 wd_633 wd_634 wd_5 wd_635) (by decide +kernel) ⟨Nat.le_of_ble_eq_true rfl, Nat.le_of_ble_eq_true rfl⟩ rfl rfl rfl rfl (Nat.le_of_ble_eq_true rfl) dL_law_980 ?_
  refine lj_eqT C (tgt := 1355) dL_law_983 (by decide) ?_
  exact k
set_option maxRecDepth 10000 in
theorem lk_26 {zc : LCz} {zm : LMz} {l : Launch} {b L : Nat} {xs : Nat → Int32} {Ψ : Nat → List (Nat × Value) → List Value → la_Mem → la_Mem → Prop} (C : lj_C zc zm l b L xs Ψ) {μ ν : la_Mem} (x : Int32) (h1 : la_ix (x + 1) L = true) (h2 : la_ix (x + 2) L = true) (h3 : la_ix (x + 3) L = true) (h4 : la_ix (x + 4) L = true) {r : Int32} {μ' ν' : la_Mem} (hc : fX7_gap (xs (Int32.toNatClampNeg (x + 1))) (xs (Int32.toNatClampNeg (x + 2))) (xs (Int32.toNatClampNeg (x + 3))) (xs (Int32.toNatClampNeg (x + 4))) μ = some (r, μ')) (hm : fX8_gap (xs (Int32.toNatClampNeg (x + 1))) (xs (Int32.toNatClampNeg (x + 2))) (xs (Int32.toNatClampNeg (x + 3))) (xs (Int32.toNatClampNeg (x + 4))) ν = some (r, ν')) (k : Ψ 1355 [(0, .ref b), (1, .ref (zc.2.1 0)), (2, .ref (zm.2.1 0)), (3, .int x)] [] μ' ν') : Ψ 988 [(0, .ref b), (1, .ref (zc.2.1 0)), (2, .ref (zm.2.1 0)), (3, .int x)] [] μ ν := by
  refine lj_aload_n C dL_law_988 1 rfl ?_
  refine lj_aload_n C dL_law_989 0 rfl ?_
  refine lj_iload_n C dL_law_990 3 rfl ?_
  refine lj_iconst C (v := 1) dL_law_991 (by decide) ?_
  refine lj_iadd C dL_law_992 ?_
  refine lj_sld C h1 dL_law_993 ?_
  refine lj_aload_n C dL_law_994 0 rfl ?_
  refine lj_iload_n C dL_law_995 3 rfl ?_
  refine lj_iconst C (v := 2) dL_law_996 (by decide) ?_
  refine lj_iadd C dL_law_997 ?_
  refine lj_sld C h2 dL_law_998 ?_
  refine lj_aload_n C dL_law_999 0 rfl ?_
  refine lj_iload_n C dL_law_1000 3 rfl ?_
  refine lj_iconst C (v := 3) dL_law_1001 (by decide) ?_
  refine lj_iadd C dL_law_1002 ?_
  refine lj_sld C h3 dL_law_1003 ?_
  refine lj_aload_n C dL_law_1004 0 rfl ?_
  refine lj_iload_n C dL_law_1005 3 rfl ?_
  refine lj_iconst C (v := 4) dL_law_1006 (by decide) ?_
  refine lj_iadd C dL_law_1007 ?_
  refine lj_sld C h4 dL_law_1008 ?_
  refine lj_callC (n := 4) C [.int (xs (Int32.toNatClampNeg (x + 1))), .int (xs (Int32.toNatClampNeg (x + 2))), .int (xs (Int32.toNatClampNeg (x + 3))), .int (xs (Int32.toNatClampNeg (x + 4)))] [] (mX7_gap (xs (Int32.toNatClampNeg (x + 1))) (xs (Int32.toNatClampNeg (x + 2))) (xs (Int32.toNatClampNeg (x + 3))) (xs (Int32.toNatClampNeg (x + 4))) μ r μ' hc) (la_gv wd_636 wd_637 wd_638 wd_2 wd_639) (by decide +kernel) ⟨Nat.le_of_ble_eq_true rfl, Nat.le_of_ble_eq_true rfl⟩ rfl rfl rfl rfl (Nat.le_of_ble_eq_true rfl) dL_law_1009 ?_
  refine lj_aload_n C dL_law_1012 2 rfl ?_
  refine lj_aload_n C dL_law_1013 0 rfl ?_
  refine lj_iload_n C dL_law_1014 3 rfl ?_
  refine lj_iconst C (v := 1) dL_law_1015 (by decide) ?_
  refine lj_iadd C dL_law_1016 ?_
  refine lj_sld C h1 dL_law_1017 ?_
  refine lj_aload_n C dL_law_1018 0 rfl ?_
  refine lj_iload_n C dL_law_1019 3 rfl ?_
  refine lj_iconst C (v := 2) dL_law_1020 (by decide) ?_
  refine lj_iadd C dL_law_1021 ?_
  refine lj_sld C h2 dL_law_1022 ?_
  refine lj_aload_n C dL_law_1023 0 rfl ?_
  refine lj_iload_n C dL_law_1024 3 rfl ?_
  refine lj_iconst C (v := 3) dL_law_1025 (by decide) ?_
  refine lj_iadd C dL_law_1026 ?_
  refine lj_sld C h3 dL_law_1027 ?_
  refine lj_aload_n C dL_law_1028 0 rfl ?_
  refine lj_iload_n C dL_law_1029 3 rfl ?_
  refine lj_iconst C (v := 4) dL_law_1030 (by decide) ?_
  refine lj_iadd C dL_law_1031 ?_
  refine lj_sld C h4 dL_law_1032 ?_
  refine lj_callM (n := 4) C [.int (xs (Int32.toNatClampNeg (x + 1))), .int (xs (Int32.toNatClampNeg (x + 2))), .int (xs (Int32.toNatClampNeg (x + 3))), .int (xs (Int32.toNatClampNeg (x + 4)))] [.int r] (mX8_gap (xs (Int32.toNatClampNeg (x + 1))) (xs (Int32.toNatClampNeg (x + 2))) (xs (Int32.toNatClampNeg (x + 3))) (xs (Int32.toNatClampNeg (x + 4))) ν r ν' hm) (la_gv wd_640 wd_641 wd_642 wd_5 wd_643) (by decide +kernel) ⟨Nat.le_of_ble_eq_true rfl, Nat.le_of_ble_eq_true rfl⟩ rfl rfl rfl rfl (Nat.le_of_ble_eq_true rfl) dL_law_1033 ?_
  refine lj_eqT C (tgt := 1355) dL_law_1036 (by decide) ?_
  exact k
set_option maxRecDepth 10000 in
theorem lk_27 {zc : LCz} {zm : LMz} {l : Launch} {b L : Nat} {xs : Nat → Int32} {Ψ : Nat → List (Nat × Value) → List Value → la_Mem → la_Mem → Prop} (C : lj_C zc zm l b L xs Ψ) {μ ν : la_Mem} (x : Int32) (h1 : la_ix (x + 1) L = true) (h2 : la_ix (x + 2) L = true) (h3 : la_ix (x + 3) L = true) {r : Int32} {μ' ν' : la_Mem} (hc : fX7_type (((Int32.toInt64 (xs (Int32.toNatClampNeg (x + 1)))) <<< (Int32.toInt64 32 &&& 63)) ||| ((Int32.toInt64 (xs (Int32.toNatClampNeg (x + 2)))) &&& 4294967295)) (xs (Int32.toNatClampNeg (x + 3))) μ = some (r, μ')) (hm : fX8_type (((Int32.toInt64 (xs (Int32.toNatClampNeg (x + 1)))) <<< (Int32.toInt64 32 &&& 63)) ||| ((Int32.toInt64 (xs (Int32.toNatClampNeg (x + 2)))) &&& 4294967295)) (xs (Int32.toNatClampNeg (x + 3))) ν = some (r, ν')) (k : Ψ 1355 [(0, .ref b), (1, .ref (zc.2.1 0)), (2, .ref (zm.2.1 0)), (3, .int x)] [] μ' ν') : Ψ 1041 [(0, .ref b), (1, .ref (zc.2.1 0)), (2, .ref (zm.2.1 0)), (3, .int x)] [] μ ν := by
  refine lj_aload_n C dL_law_1041 1 rfl ?_
  refine lj_aload_n C dL_law_1042 0 rfl ?_
  refine lj_iload_n C dL_law_1043 3 rfl ?_
  refine lj_iconst C (v := 1) dL_law_1044 (by decide) ?_
  refine lj_iadd C dL_law_1045 ?_
  refine lj_sld C h1 dL_law_1046 ?_
  refine lj_i2l C dL_law_1047 ?_
  refine lj_bipush C (v := 32) dL_law_1048 (by decide) ?_
  refine lj_lshl C dL_law_1050 ?_
  refine lj_aload_n C dL_law_1051 0 rfl ?_
  refine lj_iload_n C dL_law_1052 3 rfl ?_
  refine lj_iconst C (v := 2) dL_law_1053 (by decide) ?_
  refine lj_iadd C dL_law_1054 ?_
  refine lj_sld C h2 dL_law_1055 ?_
  refine lj_i2l C dL_law_1056 ?_
  refine lj_ldc2 C (v := 4294967295) wd_6 dL_law_1057 ?_
  refine lj_land C dL_law_1060 ?_
  refine lj_lor C dL_law_1061 ?_
  refine lj_aload_n C dL_law_1062 0 rfl ?_
  refine lj_iload_n C dL_law_1063 3 rfl ?_
  refine lj_iconst C (v := 3) dL_law_1064 (by decide) ?_
  refine lj_iadd C dL_law_1065 ?_
  refine lj_sld C h3 dL_law_1066 ?_
  refine lj_callC (n := 2) C [.long (((Int32.toInt64 (xs (Int32.toNatClampNeg (x + 1)))) <<< (Int32.toInt64 32 &&& 63)) ||| ((Int32.toInt64 (xs (Int32.toNatClampNeg (x + 2)))) &&& 4294967295)), .int (xs (Int32.toNatClampNeg (x + 3)))] [] (mX7_type (((Int32.toInt64 (xs (Int32.toNatClampNeg (x + 1)))) <<< (Int32.toInt64 32 &&& 63)) ||| ((Int32.toInt64 (xs (Int32.toNatClampNeg (x + 2)))) &&& 4294967295)) (xs (Int32.toNatClampNeg (x + 3))) μ r μ' hc) (la_gv wd_644 wd_645 wd_646 wd_2 wd_647) (by decide +kernel) ⟨Nat.le_of_ble_eq_true rfl, Nat.le_of_ble_eq_true rfl⟩ rfl rfl rfl rfl (Nat.le_of_ble_eq_true rfl) dL_law_1067 ?_
  refine lj_aload_n C dL_law_1070 2 rfl ?_
  refine lj_aload_n C dL_law_1071 0 rfl ?_
  refine lj_iload_n C dL_law_1072 3 rfl ?_
  refine lj_iconst C (v := 1) dL_law_1073 (by decide) ?_
  refine lj_iadd C dL_law_1074 ?_
  refine lj_sld C h1 dL_law_1075 ?_
  refine lj_i2l C dL_law_1076 ?_
  refine lj_bipush C (v := 32) dL_law_1077 (by decide) ?_
  refine lj_lshl C dL_law_1079 ?_
  refine lj_aload_n C dL_law_1080 0 rfl ?_
  refine lj_iload_n C dL_law_1081 3 rfl ?_
  refine lj_iconst C (v := 2) dL_law_1082 (by decide) ?_
  refine lj_iadd C dL_law_1083 ?_
  refine lj_sld C h2 dL_law_1084 ?_
  refine lj_i2l C dL_law_1085 ?_
  refine lj_ldc2 C (v := 4294967295) wd_6 dL_law_1086 ?_
  refine lj_land C dL_law_1089 ?_
  refine lj_lor C dL_law_1090 ?_
  refine lj_aload_n C dL_law_1091 0 rfl ?_
  refine lj_iload_n C dL_law_1092 3 rfl ?_
  refine lj_iconst C (v := 3) dL_law_1093 (by decide) ?_
  refine lj_iadd C dL_law_1094 ?_
  refine lj_sld C h3 dL_law_1095 ?_
  refine lj_callM (n := 2) C [.long (((Int32.toInt64 (xs (Int32.toNatClampNeg (x + 1)))) <<< (Int32.toInt64 32 &&& 63)) ||| ((Int32.toInt64 (xs (Int32.toNatClampNeg (x + 2)))) &&& 4294967295)), .int (xs (Int32.toNatClampNeg (x + 3)))] [.int r] (mX8_type (((Int32.toInt64 (xs (Int32.toNatClampNeg (x + 1)))) <<< (Int32.toInt64 32 &&& 63)) ||| ((Int32.toInt64 (xs (Int32.toNatClampNeg (x + 2)))) &&& 4294967295)) (xs (Int32.toNatClampNeg (x + 3))) ν r ν' hm) (la_gv wd_656 wd_657 wd_658 wd_5 wd_659) (by decide +kernel) ⟨Nat.le_of_ble_eq_true rfl, Nat.le_of_ble_eq_true rfl⟩ rfl rfl rfl rfl (Nat.le_of_ble_eq_true rfl) dL_law_1096 ?_
  refine lj_eqT C (tgt := 1355) dL_law_1099 (by decide) ?_
  exact k
set_option maxRecDepth 10000 in
theorem lk_28 {zc : LCz} {zm : LMz} {l : Launch} {b L : Nat} {xs : Nat → Int32} {Ψ : Nat → List (Nat × Value) → List Value → la_Mem → la_Mem → Prop} (C : lj_C zc zm l b L xs Ψ) {μ ν : la_Mem} (x : Int32) (h1 : la_ix (x + 1) L = true) {r : Int32} {μ' ν' : la_Mem} (hc : fX7_plays (xs (Int32.toNatClampNeg (x + 1))) μ = some (r, μ')) (hm : fX8_plays (xs (Int32.toNatClampNeg (x + 1))) ν = some (r, ν')) (k : Ψ 1355 [(0, .ref b), (1, .ref (zc.2.1 0)), (2, .ref (zm.2.1 0)), (3, .int x)] [] μ' ν') : Ψ 1104 [(0, .ref b), (1, .ref (zc.2.1 0)), (2, .ref (zm.2.1 0)), (3, .int x)] [] μ ν := by
  refine lj_aload_n C dL_law_1104 1 rfl ?_
  refine lj_aload_n C dL_law_1105 0 rfl ?_
  refine lj_iload_n C dL_law_1106 3 rfl ?_
  refine lj_iconst C (v := 1) dL_law_1107 (by decide) ?_
  refine lj_iadd C dL_law_1108 ?_
  refine lj_sld C h1 dL_law_1109 ?_
  refine lj_callC (n := 1) C [.int (xs (Int32.toNatClampNeg (x + 1)))] [] (mX7_plays (xs (Int32.toNatClampNeg (x + 1))) μ r μ' hc) (la_gv wd_665 wd_666 wd_667 wd_2 wd_668) (by decide +kernel) ⟨Nat.le_of_ble_eq_true rfl, Nat.le_of_ble_eq_true rfl⟩ rfl rfl rfl rfl (Nat.le_of_ble_eq_true rfl) dL_law_1110 ?_
  refine lj_aload_n C dL_law_1113 2 rfl ?_
  refine lj_aload_n C dL_law_1114 0 rfl ?_
  refine lj_iload_n C dL_law_1115 3 rfl ?_
  refine lj_iconst C (v := 1) dL_law_1116 (by decide) ?_
  refine lj_iadd C dL_law_1117 ?_
  refine lj_sld C h1 dL_law_1118 ?_
  refine lj_callM (n := 1) C [.int (xs (Int32.toNatClampNeg (x + 1)))] [.int r] (mX8_plays (xs (Int32.toNatClampNeg (x + 1))) ν r ν' hm) (la_gv wd_680 wd_681 wd_682 wd_5 wd_683) (by decide +kernel) ⟨Nat.le_of_ble_eq_true rfl, Nat.le_of_ble_eq_true rfl⟩ rfl rfl rfl rfl (Nat.le_of_ble_eq_true rfl) dL_law_1119 ?_
  refine lj_eqT C (tgt := 1355) dL_law_1122 (by decide) ?_
  exact k
set_option maxRecDepth 10000 in
theorem lk_29 {zc : LCz} {zm : LMz} {l : Launch} {b L : Nat} {xs : Nat → Int32} {Ψ : Nat → List (Nat × Value) → List Value → la_Mem → la_Mem → Prop} (C : lj_C zc zm l b L xs Ψ) {μ ν : la_Mem} (x : Int32) (h1 : la_ix (x + 1) L = true) {r : Int32} (hc : fX7_risk (xs (Int32.toNatClampNeg (x + 1))) μ = some r) (hm : fX8_risk (xs (Int32.toNatClampNeg (x + 1))) ν = some r) (k : Ψ 1355 [(0, .ref b), (1, .ref (zc.2.1 0)), (2, .ref (zm.2.1 0)), (3, .int x)] [] μ ν) : Ψ 1127 [(0, .ref b), (1, .ref (zc.2.1 0)), (2, .ref (zm.2.1 0)), (3, .int x)] [] μ ν := by
  refine lj_aload_n C dL_law_1127 1 rfl ?_
  refine lj_aload_n C dL_law_1128 0 rfl ?_
  refine lj_iload_n C dL_law_1129 3 rfl ?_
  refine lj_iconst C (v := 1) dL_law_1130 (by decide) ?_
  refine lj_iadd C dL_law_1131 ?_
  refine lj_sld C h1 dL_law_1132 ?_
  refine lj_callC (n := 1) C [.int (xs (Int32.toNatClampNeg (x + 1)))] [] (mX7_risk (xs (Int32.toNatClampNeg (x + 1))) μ r hc) (la_gv wd_688 wd_689 wd_690 wd_2 wd_691) (by decide +kernel) ⟨Nat.le_of_ble_eq_true rfl, Nat.le_of_ble_eq_true rfl⟩ rfl rfl rfl rfl (Nat.le_of_ble_eq_true rfl) dL_law_1133 ?_
  refine lj_aload_n C dL_law_1136 2 rfl ?_
  refine lj_aload_n C dL_law_1137 0 rfl ?_
  refine lj_iload_n C dL_law_1138 3 rfl ?_
  refine lj_iconst C (v := 1) dL_law_1139 (by decide) ?_
  refine lj_iadd C dL_law_1140 ?_
  refine lj_sld C h1 dL_law_1141 ?_
  refine lj_callM (n := 1) C [.int (xs (Int32.toNatClampNeg (x + 1)))] [.int r] (mX8_risk (xs (Int32.toNatClampNeg (x + 1))) ν r hm) (la_gv wd_696 wd_697 wd_698 wd_5 wd_699) (by decide +kernel) ⟨Nat.le_of_ble_eq_true rfl, Nat.le_of_ble_eq_true rfl⟩ rfl rfl rfl rfl (Nat.le_of_ble_eq_true rfl) dL_law_1142 ?_
  refine lj_eqT C (tgt := 1355) dL_law_1145 (by decide) ?_
  exact k
set_option maxRecDepth 10000 in
theorem lk_30 {zc : LCz} {zm : LMz} {l : Launch} {b L : Nat} {xs : Nat → Int32} {Ψ : Nat → List (Nat × Value) → List Value → la_Mem → la_Mem → Prop} (C : lj_C zc zm l b L xs Ψ) {μ ν : la_Mem} (x : Int32) (h1 : la_ix (x + 1) L = true) {r : Int32} {μ' ν' : la_Mem} (hc : fX7_better (xs (Int32.toNatClampNeg (x + 1))) μ = some (r, μ')) (hm : fX8_better (xs (Int32.toNatClampNeg (x + 1))) ν = some (r, ν')) (k : Ψ 1355 [(0, .ref b), (1, .ref (zc.2.1 0)), (2, .ref (zm.2.1 0)), (3, .int x)] [] μ' ν') : Ψ 1150 [(0, .ref b), (1, .ref (zc.2.1 0)), (2, .ref (zm.2.1 0)), (3, .int x)] [] μ ν := by
  refine lj_aload_n C dL_law_1150 1 rfl ?_
  refine lj_aload_n C dL_law_1151 0 rfl ?_
  refine lj_iload_n C dL_law_1152 3 rfl ?_
  refine lj_iconst C (v := 1) dL_law_1153 (by decide) ?_
  refine lj_iadd C dL_law_1154 ?_
  refine lj_sld C h1 dL_law_1155 ?_
  refine lj_callC (n := 1) C [.int (xs (Int32.toNatClampNeg (x + 1)))] [] (mX7_better (xs (Int32.toNatClampNeg (x + 1))) μ r μ' hc) (la_gv wd_704 wd_705 wd_706 wd_2 wd_707) (by decide +kernel) ⟨Nat.le_of_ble_eq_true rfl, Nat.le_of_ble_eq_true rfl⟩ rfl rfl rfl rfl (Nat.le_of_ble_eq_true rfl) dL_law_1156 ?_
  refine lj_aload_n C dL_law_1159 2 rfl ?_
  refine lj_aload_n C dL_law_1160 0 rfl ?_
  refine lj_iload_n C dL_law_1161 3 rfl ?_
  refine lj_iconst C (v := 1) dL_law_1162 (by decide) ?_
  refine lj_iadd C dL_law_1163 ?_
  refine lj_sld C h1 dL_law_1164 ?_
  refine lj_callM (n := 1) C [.int (xs (Int32.toNatClampNeg (x + 1)))] [.int r] (mX8_better (xs (Int32.toNatClampNeg (x + 1))) ν r ν' hm) (la_gv wd_718 wd_719 wd_720 wd_5 wd_721) (by decide +kernel) ⟨Nat.le_of_ble_eq_true rfl, Nat.le_of_ble_eq_true rfl⟩ rfl rfl rfl rfl (Nat.le_of_ble_eq_true rfl) dL_law_1165 ?_
  refine lj_eqT C (tgt := 1355) dL_law_1168 (by decide) ?_
  exact k
set_option maxRecDepth 10000 in
theorem lk_31 {zc : LCz} {zm : LMz} {l : Launch} {b L : Nat} {xs : Nat → Int32} {Ψ : Nat → List (Nat × Value) → List Value → la_Mem → la_Mem → Prop} (C : lj_C zc zm l b L xs Ψ) {μ ν : la_Mem} (x : Int32) (h1 : la_ix (x + 1) L = true) (h2 : la_ix (x + 2) L = true) (h3 : la_ix (x + 3) L = true) {r : Int32} {μ' ν' : la_Mem} (hc : fX7_sheet (xs (Int32.toNatClampNeg (x + 1))) (xs (Int32.toNatClampNeg (x + 2))) (xs (Int32.toNatClampNeg (x + 3))) μ = some (r, μ')) (hm : fX8_sheet (xs (Int32.toNatClampNeg (x + 1))) (xs (Int32.toNatClampNeg (x + 2))) (xs (Int32.toNatClampNeg (x + 3))) ν = some (r, ν')) (k : Ψ 1355 [(0, .ref b), (1, .ref (zc.2.1 0)), (2, .ref (zm.2.1 0)), (3, .int x)] [] μ' ν') : Ψ 1173 [(0, .ref b), (1, .ref (zc.2.1 0)), (2, .ref (zm.2.1 0)), (3, .int x)] [] μ ν := by
  refine lj_aload_n C dL_law_1173 1 rfl ?_
  refine lj_aload_n C dL_law_1174 0 rfl ?_
  refine lj_iload_n C dL_law_1175 3 rfl ?_
  refine lj_iconst C (v := 1) dL_law_1176 (by decide) ?_
  refine lj_iadd C dL_law_1177 ?_
  refine lj_sld C h1 dL_law_1178 ?_
  refine lj_aload_n C dL_law_1179 0 rfl ?_
  refine lj_iload_n C dL_law_1180 3 rfl ?_
  refine lj_iconst C (v := 2) dL_law_1181 (by decide) ?_
  refine lj_iadd C dL_law_1182 ?_
  refine lj_sld C h2 dL_law_1183 ?_
  refine lj_aload_n C dL_law_1184 0 rfl ?_
  refine lj_iload_n C dL_law_1185 3 rfl ?_
  refine lj_iconst C (v := 3) dL_law_1186 (by decide) ?_
  refine lj_iadd C dL_law_1187 ?_
  refine lj_sld C h3 dL_law_1188 ?_
  refine lj_callC (n := 3) C [.int (xs (Int32.toNatClampNeg (x + 1))), .int (xs (Int32.toNatClampNeg (x + 2))), .int (xs (Int32.toNatClampNeg (x + 3)))] [] (mX7_sheet (xs (Int32.toNatClampNeg (x + 1))) (xs (Int32.toNatClampNeg (x + 2))) (xs (Int32.toNatClampNeg (x + 3))) μ r μ' hc) (la_gv wd_723 wd_724 wd_725 wd_2 wd_726) (by decide +kernel) ⟨Nat.le_of_ble_eq_true rfl, Nat.le_of_ble_eq_true rfl⟩ rfl rfl rfl rfl (Nat.le_of_ble_eq_true rfl) dL_law_1189 ?_
  refine lj_aload_n C dL_law_1192 2 rfl ?_
  refine lj_aload_n C dL_law_1193 0 rfl ?_
  refine lj_iload_n C dL_law_1194 3 rfl ?_
  refine lj_iconst C (v := 1) dL_law_1195 (by decide) ?_
  refine lj_iadd C dL_law_1196 ?_
  refine lj_sld C h1 dL_law_1197 ?_
  refine lj_aload_n C dL_law_1198 0 rfl ?_
  refine lj_iload_n C dL_law_1199 3 rfl ?_
  refine lj_iconst C (v := 2) dL_law_1200 (by decide) ?_
  refine lj_iadd C dL_law_1201 ?_
  refine lj_sld C h2 dL_law_1202 ?_
  refine lj_aload_n C dL_law_1203 0 rfl ?_
  refine lj_iload_n C dL_law_1204 3 rfl ?_
  refine lj_iconst C (v := 3) dL_law_1205 (by decide) ?_
  refine lj_iadd C dL_law_1206 ?_
  refine lj_sld C h3 dL_law_1207 ?_
  refine lj_callM (n := 3) C [.int (xs (Int32.toNatClampNeg (x + 1))), .int (xs (Int32.toNatClampNeg (x + 2))), .int (xs (Int32.toNatClampNeg (x + 3)))] [.int r] (mX8_sheet (xs (Int32.toNatClampNeg (x + 1))) (xs (Int32.toNatClampNeg (x + 2))) (xs (Int32.toNatClampNeg (x + 3))) ν r ν' hm) (la_gv wd_731 wd_732 wd_733 wd_5 wd_734) (by decide +kernel) ⟨Nat.le_of_ble_eq_true rfl, Nat.le_of_ble_eq_true rfl⟩ rfl rfl rfl rfl (Nat.le_of_ble_eq_true rfl) dL_law_1208 ?_
  refine lj_eqT C (tgt := 1355) dL_law_1211 (by decide) ?_
  exact k
set_option maxRecDepth 10000 in
theorem lk_32 {zc : LCz} {zm : LMz} {l : Launch} {b L : Nat} {xs : Nat → Int32} {Ψ : Nat → List (Nat × Value) → List Value → la_Mem → la_Mem → Prop} (C : lj_C zc zm l b L xs Ψ) {μ ν : la_Mem} (x : Int32) (h1 : la_ix (x + 1) L = true) {r : Int32} {μ' ν' : la_Mem} (hc : fX7_drop (xs (Int32.toNatClampNeg (x + 1))) μ = some (r, μ')) (hm : fX8_drop (xs (Int32.toNatClampNeg (x + 1))) ν = some (r, ν')) (k : Ψ 1355 [(0, .ref b), (1, .ref (zc.2.1 0)), (2, .ref (zm.2.1 0)), (3, .int x)] [] μ' ν') : Ψ 1216 [(0, .ref b), (1, .ref (zc.2.1 0)), (2, .ref (zm.2.1 0)), (3, .int x)] [] μ ν := by
  refine lj_aload_n C dL_law_1216 1 rfl ?_
  refine lj_aload_n C dL_law_1217 0 rfl ?_
  refine lj_iload_n C dL_law_1218 3 rfl ?_
  refine lj_iconst C (v := 1) dL_law_1219 (by decide) ?_
  refine lj_iadd C dL_law_1220 ?_
  refine lj_sld C h1 dL_law_1221 ?_
  refine lj_callC (n := 1) C [.int (xs (Int32.toNatClampNeg (x + 1)))] [] (mX7_drop (xs (Int32.toNatClampNeg (x + 1))) μ r μ' hc) (la_gv wd_735 wd_736 wd_737 wd_2 wd_738) (by decide +kernel) ⟨Nat.le_of_ble_eq_true rfl, Nat.le_of_ble_eq_true rfl⟩ rfl rfl rfl rfl (Nat.le_of_ble_eq_true rfl) dL_law_1222 ?_
  refine lj_aload_n C dL_law_1225 2 rfl ?_
  refine lj_aload_n C dL_law_1226 0 rfl ?_
  refine lj_iload_n C dL_law_1227 3 rfl ?_
  refine lj_iconst C (v := 1) dL_law_1228 (by decide) ?_
  refine lj_iadd C dL_law_1229 ?_
  refine lj_sld C h1 dL_law_1230 ?_
  refine lj_callM (n := 1) C [.int (xs (Int32.toNatClampNeg (x + 1)))] [.int r] (mX8_drop (xs (Int32.toNatClampNeg (x + 1))) ν r ν' hm) (la_gv wd_740 wd_741 wd_742 wd_5 wd_743) (by decide +kernel) ⟨Nat.le_of_ble_eq_true rfl, Nat.le_of_ble_eq_true rfl⟩ rfl rfl rfl rfl (Nat.le_of_ble_eq_true rfl) dL_law_1231 ?_
  refine lj_eqT C (tgt := 1355) dL_law_1234 (by decide) ?_
  exact k
set_option maxRecDepth 10000 in
theorem lk_33 {zc : LCz} {zm : LMz} {l : Launch} {b L : Nat} {xs : Nat → Int32} {Ψ : Nat → List (Nat × Value) → List Value → la_Mem → la_Mem → Prop} (C : lj_C zc zm l b L xs Ψ) {μ ν : la_Mem} (x : Int32) (h1 : la_ix (x + 1) L = true) (h2 : la_ix (x + 2) L = true) (h3 : la_ix (x + 3) L = true) (h4 : la_ix (x + 4) L = true) {r : Int32} {μ' ν' : la_Mem} (hc : fX7_item (xs (Int32.toNatClampNeg (x + 1))) (xs (Int32.toNatClampNeg (x + 2))) (xs (Int32.toNatClampNeg (x + 3))) (xs (Int32.toNatClampNeg (x + 4))) μ = some (r, μ')) (hm : fX8_item (xs (Int32.toNatClampNeg (x + 1))) (xs (Int32.toNatClampNeg (x + 2))) (xs (Int32.toNatClampNeg (x + 3))) (xs (Int32.toNatClampNeg (x + 4))) ν = some (r, ν')) (k : Ψ 1355 [(0, .ref b), (1, .ref (zc.2.1 0)), (2, .ref (zm.2.1 0)), (3, .int x)] [] μ' ν') : Ψ 1239 [(0, .ref b), (1, .ref (zc.2.1 0)), (2, .ref (zm.2.1 0)), (3, .int x)] [] μ ν := by
  refine lj_aload_n C dL_law_1239 1 rfl ?_
  refine lj_aload_n C dL_law_1240 0 rfl ?_
  refine lj_iload_n C dL_law_1241 3 rfl ?_
  refine lj_iconst C (v := 1) dL_law_1242 (by decide) ?_
  refine lj_iadd C dL_law_1243 ?_
  refine lj_sld C h1 dL_law_1244 ?_
  refine lj_aload_n C dL_law_1245 0 rfl ?_
  refine lj_iload_n C dL_law_1246 3 rfl ?_
  refine lj_iconst C (v := 2) dL_law_1247 (by decide) ?_
  refine lj_iadd C dL_law_1248 ?_
  refine lj_sld C h2 dL_law_1249 ?_
  refine lj_aload_n C dL_law_1250 0 rfl ?_
  refine lj_iload_n C dL_law_1251 3 rfl ?_
  refine lj_iconst C (v := 3) dL_law_1252 (by decide) ?_
  refine lj_iadd C dL_law_1253 ?_
  refine lj_sld C h3 dL_law_1254 ?_
  refine lj_aload_n C dL_law_1255 0 rfl ?_
  refine lj_iload_n C dL_law_1256 3 rfl ?_
  refine lj_iconst C (v := 4) dL_law_1257 (by decide) ?_
  refine lj_iadd C dL_law_1258 ?_
  refine lj_sld C h4 dL_law_1259 ?_
  refine lj_callC (n := 4) C [.int (xs (Int32.toNatClampNeg (x + 1))), .int (xs (Int32.toNatClampNeg (x + 2))), .int (xs (Int32.toNatClampNeg (x + 3))), .int (xs (Int32.toNatClampNeg (x + 4)))] [] (mX7_item (xs (Int32.toNatClampNeg (x + 1))) (xs (Int32.toNatClampNeg (x + 2))) (xs (Int32.toNatClampNeg (x + 3))) (xs (Int32.toNatClampNeg (x + 4))) μ r μ' hc) (la_gv wd_744 wd_745 wd_746 wd_2 wd_747) (by decide +kernel) ⟨Nat.le_of_ble_eq_true rfl, Nat.le_of_ble_eq_true rfl⟩ rfl rfl rfl rfl (Nat.le_of_ble_eq_true rfl) dL_law_1260 ?_
  refine lj_aload_n C dL_law_1263 2 rfl ?_
  refine lj_aload_n C dL_law_1264 0 rfl ?_
  refine lj_iload_n C dL_law_1265 3 rfl ?_
  refine lj_iconst C (v := 1) dL_law_1266 (by decide) ?_
  refine lj_iadd C dL_law_1267 ?_
  refine lj_sld C h1 dL_law_1268 ?_
  refine lj_aload_n C dL_law_1269 0 rfl ?_
  refine lj_iload_n C dL_law_1270 3 rfl ?_
  refine lj_iconst C (v := 2) dL_law_1271 (by decide) ?_
  refine lj_iadd C dL_law_1272 ?_
  refine lj_sld C h2 dL_law_1273 ?_
  refine lj_aload_n C dL_law_1274 0 rfl ?_
  refine lj_iload_n C dL_law_1275 3 rfl ?_
  refine lj_iconst C (v := 3) dL_law_1276 (by decide) ?_
  refine lj_iadd C dL_law_1277 ?_
  refine lj_sld C h3 dL_law_1278 ?_
  refine lj_aload_n C dL_law_1279 0 rfl ?_
  refine lj_iload_n C dL_law_1280 3 rfl ?_
  refine lj_iconst C (v := 4) dL_law_1281 (by decide) ?_
  refine lj_iadd C dL_law_1282 ?_
  refine lj_sld C h4 dL_law_1283 ?_
  refine lj_callM (n := 4) C [.int (xs (Int32.toNatClampNeg (x + 1))), .int (xs (Int32.toNatClampNeg (x + 2))), .int (xs (Int32.toNatClampNeg (x + 3))), .int (xs (Int32.toNatClampNeg (x + 4)))] [.int r] (mX8_item (xs (Int32.toNatClampNeg (x + 1))) (xs (Int32.toNatClampNeg (x + 2))) (xs (Int32.toNatClampNeg (x + 3))) (xs (Int32.toNatClampNeg (x + 4))) ν r ν' hm) (la_gv wd_751 wd_752 wd_753 wd_5 wd_754) (by decide +kernel) ⟨Nat.le_of_ble_eq_true rfl, Nat.le_of_ble_eq_true rfl⟩ rfl rfl rfl rfl (Nat.le_of_ble_eq_true rfl) dL_law_1284 ?_
  refine lj_eqT C (tgt := 1355) dL_law_1287 (by decide) ?_
  exact k
set_option maxRecDepth 10000 in
theorem lk_34 {zc : LCz} {zm : LMz} {l : Launch} {b L : Nat} {xs : Nat → Int32} {Ψ : Nat → List (Nat × Value) → List Value → la_Mem → la_Mem → Prop} (C : lj_C zc zm l b L xs Ψ) {μ ν : la_Mem} (x : Int32) (h1 : la_ix (x + 1) L = true) (h2 : la_ix (x + 2) L = true) (h3 : la_ix (x + 3) L = true) (h4 : la_ix (x + 4) L = true) (h5 : la_ix (x + 5) L = true) {r : Int32} {μ' ν' : la_Mem} (hc : fX7_copy (xs (Int32.toNatClampNeg (x + 1))) (xs (Int32.toNatClampNeg (x + 2))) (xs (Int32.toNatClampNeg (x + 3))) (xs (Int32.toNatClampNeg (x + 4))) (xs (Int32.toNatClampNeg (x + 5))) μ = some (r, μ')) (hm : fX8_copy (xs (Int32.toNatClampNeg (x + 1))) (xs (Int32.toNatClampNeg (x + 2))) (xs (Int32.toNatClampNeg (x + 3))) (xs (Int32.toNatClampNeg (x + 4))) (xs (Int32.toNatClampNeg (x + 5))) ν = some (r, ν')) (k : Ψ 1355 [(0, .ref b), (1, .ref (zc.2.1 0)), (2, .ref (zm.2.1 0)), (3, .int x)] [] μ' ν') : Ψ 1292 [(0, .ref b), (1, .ref (zc.2.1 0)), (2, .ref (zm.2.1 0)), (3, .int x)] [] μ ν := by
  refine lj_aload_n C dL_law_1292 1 rfl ?_
  refine lj_aload_n C dL_law_1293 0 rfl ?_
  refine lj_iload_n C dL_law_1294 3 rfl ?_
  refine lj_iconst C (v := 1) dL_law_1295 (by decide) ?_
  refine lj_iadd C dL_law_1296 ?_
  refine lj_sld C h1 dL_law_1297 ?_
  refine lj_aload_n C dL_law_1298 0 rfl ?_
  refine lj_iload_n C dL_law_1299 3 rfl ?_
  refine lj_iconst C (v := 2) dL_law_1300 (by decide) ?_
  refine lj_iadd C dL_law_1301 ?_
  refine lj_sld C h2 dL_law_1302 ?_
  refine lj_aload_n C dL_law_1303 0 rfl ?_
  refine lj_iload_n C dL_law_1304 3 rfl ?_
  refine lj_iconst C (v := 3) dL_law_1305 (by decide) ?_
  refine lj_iadd C dL_law_1306 ?_
  refine lj_sld C h3 dL_law_1307 ?_
  refine lj_aload_n C dL_law_1308 0 rfl ?_
  refine lj_iload_n C dL_law_1309 3 rfl ?_
  refine lj_iconst C (v := 4) dL_law_1310 (by decide) ?_
  refine lj_iadd C dL_law_1311 ?_
  refine lj_sld C h4 dL_law_1312 ?_
  refine lj_aload_n C dL_law_1313 0 rfl ?_
  refine lj_iload_n C dL_law_1314 3 rfl ?_
  refine lj_iconst C (v := 5) dL_law_1315 (by decide) ?_
  refine lj_iadd C dL_law_1316 ?_
  refine lj_sld C h5 dL_law_1317 ?_
  refine lj_callC (n := 5) C [.int (xs (Int32.toNatClampNeg (x + 1))), .int (xs (Int32.toNatClampNeg (x + 2))), .int (xs (Int32.toNatClampNeg (x + 3))), .int (xs (Int32.toNatClampNeg (x + 4))), .int (xs (Int32.toNatClampNeg (x + 5)))] [] (mX7_copy (xs (Int32.toNatClampNeg (x + 1))) (xs (Int32.toNatClampNeg (x + 2))) (xs (Int32.toNatClampNeg (x + 3))) (xs (Int32.toNatClampNeg (x + 4))) (xs (Int32.toNatClampNeg (x + 5))) μ r μ' hc) (la_gv wd_755 wd_756 wd_757 wd_2 wd_758) (by decide +kernel) ⟨Nat.le_of_ble_eq_true rfl, Nat.le_of_ble_eq_true rfl⟩ rfl rfl rfl rfl (Nat.le_of_ble_eq_true rfl) dL_law_1318 ?_
  refine lj_aload_n C dL_law_1321 2 rfl ?_
  refine lj_aload_n C dL_law_1322 0 rfl ?_
  refine lj_iload_n C dL_law_1323 3 rfl ?_
  refine lj_iconst C (v := 1) dL_law_1324 (by decide) ?_
  refine lj_iadd C dL_law_1325 ?_
  refine lj_sld C h1 dL_law_1326 ?_
  refine lj_aload_n C dL_law_1327 0 rfl ?_
  refine lj_iload_n C dL_law_1328 3 rfl ?_
  refine lj_iconst C (v := 2) dL_law_1329 (by decide) ?_
  refine lj_iadd C dL_law_1330 ?_
  refine lj_sld C h2 dL_law_1331 ?_
  refine lj_aload_n C dL_law_1332 0 rfl ?_
  refine lj_iload_n C dL_law_1333 3 rfl ?_
  refine lj_iconst C (v := 3) dL_law_1334 (by decide) ?_
  refine lj_iadd C dL_law_1335 ?_
  refine lj_sld C h3 dL_law_1336 ?_
  refine lj_aload_n C dL_law_1337 0 rfl ?_
  refine lj_iload_n C dL_law_1338 3 rfl ?_
  refine lj_iconst C (v := 4) dL_law_1339 (by decide) ?_
  refine lj_iadd C dL_law_1340 ?_
  refine lj_sld C h4 dL_law_1341 ?_
  refine lj_aload_n C dL_law_1342 0 rfl ?_
  refine lj_iload_n C dL_law_1343 3 rfl ?_
  refine lj_iconst C (v := 5) dL_law_1344 (by decide) ?_
  refine lj_iadd C dL_law_1345 ?_
  refine lj_sld C h5 dL_law_1346 ?_
  refine lj_callM (n := 5) C [.int (xs (Int32.toNatClampNeg (x + 1))), .int (xs (Int32.toNatClampNeg (x + 2))), .int (xs (Int32.toNatClampNeg (x + 3))), .int (xs (Int32.toNatClampNeg (x + 4))), .int (xs (Int32.toNatClampNeg (x + 5)))] [.int r] (mX8_copy (xs (Int32.toNatClampNeg (x + 1))) (xs (Int32.toNatClampNeg (x + 2))) (xs (Int32.toNatClampNeg (x + 3))) (xs (Int32.toNatClampNeg (x + 4))) (xs (Int32.toNatClampNeg (x + 5))) ν r ν' hm) (la_gv wd_760 wd_761 wd_762 wd_5 wd_763) (by decide +kernel) ⟨Nat.le_of_ble_eq_true rfl, Nat.le_of_ble_eq_true rfl⟩ rfl rfl rfl rfl (Nat.le_of_ble_eq_true rfl) dL_law_1347 ?_
  refine lj_eqT C (tgt := 1355) dL_law_1350 (by decide) ?_
  exact k
