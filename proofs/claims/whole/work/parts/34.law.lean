/-! The law's loop: one call on both, by its number. -/
def qb (x : Int32) : Int32 := if x = 0 then 0 else 1
theorem qidx {x : Int32} {L c : Nat} {cI : Int32} (hc : cI.toInt = c) (hc6 : c < 6) (h0 : 0 ≤ x.toInt) (h1 : x.toInt + 6 ≤ L) (hL : L ≤ 3072) : 0 ≤ (x + cI).toInt ∧ (x + cI).toInt < (L : Nat) := by
  have e : (x + cI).toInt = x.toInt + c := by
    rw [Int32.toInt_add, hc]
    exact Int.bmod_eq_of_le (by omega) (by omega)
  omega
theorem ql0 {d L : Nat} {xs : Nat → Int32} {x3 : Int32} {h h1 h2 : qH} {q : Option Value × qH} {fsC fsM : List Value} {r : Int32} (hx0 : 0 ≤ x3.toInt) (hx1 : x3.toInt + 6 ≤ L) (hL : L ≤ 3072) (hs : h.2.2 0 = some (.inl (8, L, .inl xs))) (hC : h.2.2 2 = some (.inr (11, fsC))) (c1 : qCall d 71 [.ref 2, .int (xs (x3 + 1).toNatClampNeg), .int (xs (x3 + 2).toNatClampNeg), .int (xs (x3 + 3).toNatClampNeg)] h (some (.int r), h1)) (hs1 : h1.2.2 0 = some (.inl (8, L, .inl xs))) (hM : h1.2.2 142 = some (.inr (12, fsM))) (c2 : qCall d 171 [.ref 142, .int (xs (x3 + 1).toNatClampNeg), .int (xs (x3 + 2).toNatClampNeg), .int (xs (x3 + 3).toNatClampNeg)] h1 (some (.int r), h2)) (hk : (xs x3.toNatClampNeg &&& 63).toInt = 0) (kk : qE d 0 18 [some (.ref 0), some (.ref 2), some (.ref 142), some (.int (x3 + 6))] [] h2 q) : qE d 0 27 [some (.ref 0), some (.ref 2), some (.ref 142), some (.int x3)] [] h q := by
  refine qe_aload_n c0_27 rfl ?_
  refine qe_iload_n c0_28 rfl ?_
  refine qe_script c0_29 hs ⟨hx0, by omega⟩ ?_
  refine qe_bipush (x := 63) c0_30 (by decide) ?_
  refine qe_iand c0_32 ?_
  refine qe_table (off := 159) (t := 192) c0_33 (by rw [hk]; decide) (by rw [hk]; decide) rfl ?_
  refine qe_aload_n c0_192 rfl ?_
  refine qe_aload_n c0_193 rfl ?_
  refine qe_iload_n c0_194 rfl ?_
  refine qe_iconst (x := 1) c0_195 (by decide) ?_
  refine qe_iadd c0_196 ?_
  refine qe_script c0_197 hs (qidx (c := 1) (by decide) (by decide) hx0 hx1 hL) ?_
  refine qe_aload_n c0_198 rfl ?_
  refine qe_iload_n c0_199 rfl ?_
  refine qe_iconst (x := 2) c0_200 (by decide) ?_
  refine qe_iadd c0_201 ?_
  refine qe_script c0_202 hs (qidx (c := 2) (by decide) (by decide) hx0 hx1 hL) ?_
  refine qe_aload_n c0_203 rfl ?_
  refine qe_iload_n c0_204 rfl ?_
  refine qe_iconst (x := 3) c0_205 (by decide) ?_
  refine qe_iadd c0_206 ?_
  refine qe_script c0_207 hs (qidx (c := 3) (by decide) (by decide) hx0 hx1 hL) ?_
  refine qe_virtual (b := 2) (as := [.int (xs (x3 + 1).toNatClampNeg), .int (xs (x3 + 2).toNatClampNeg), .int (xs (x3 + 3).toNatClampNeg)]) (r := []) (v := some (.int r)) (h2 := h1) c0_208 qo0 qK13_13 rfl rfl rfl (by rw [qo71]; exact hC) (Nat.le_of_ble_eq_true rfl) c1 ?_
  refine qe_aload_n c0_211 rfl ?_
  refine qe_aload_n c0_212 rfl ?_
  refine qe_iload_n c0_213 rfl ?_
  refine qe_iconst (x := 1) c0_214 (by decide) ?_
  refine qe_iadd c0_215 ?_
  refine qe_script c0_216 hs1 (qidx (c := 1) (by decide) (by decide) hx0 hx1 hL) ?_
  refine qe_aload_n c0_217 rfl ?_
  refine qe_iload_n c0_218 rfl ?_
  refine qe_iconst (x := 2) c0_219 (by decide) ?_
  refine qe_iadd c0_220 ?_
  refine qe_script c0_221 hs1 (qidx (c := 2) (by decide) (by decide) hx0 hx1 hL) ?_
  refine qe_aload_n c0_222 rfl ?_
  refine qe_iload_n c0_223 rfl ?_
  refine qe_iconst (x := 3) c0_224 (by decide) ?_
  refine qe_iadd c0_225 ?_
  refine qe_script c0_226 hs1 (qidx (c := 3) (by decide) (by decide) hx0 hx1 hL) ?_
  refine qe_virtual (b := 142) (as := [.int (xs (x3 + 1).toNatClampNeg), .int (xs (x3 + 2).toNatClampNeg), .int (xs (x3 + 3).toNatClampNeg)]) (r := [.int r]) (v := some (.int r)) (h2 := h2) c0_227 qo0 qK13_17 rfl rfl rfl (by rw [qo171]; exact hM) (Nat.le_of_ble_eq_true rfl) c2 ?_
  refine qe_icmp_eq_T (t := 1463) c0_230 rfl rfl ?_
  refine qe_iinc (y := x3 + 6) (ls2 := [some (.ref 0), some (.ref 2), some (.ref 142), some (.int (x3 + 6))]) c0_1463 rfl (Nat.le_of_ble_eq_true rfl) rfl rfl ?_
  refine qe_goto (t := 18) c0_1466 rfl ?_
  exact kk
theorem ql1 {d L : Nat} {xs : Nat → Int32} {x3 : Int32} {h h1 h2 : qH} {q : Option Value × qH} {fsC fsM : List Value} {r : Int32} (hx0 : 0 ≤ x3.toInt) (hx1 : x3.toInt + 6 ≤ L) (hL : L ≤ 3072) (hs : h.2.2 0 = some (.inl (8, L, .inl xs))) (hC : h.2.2 2 = some (.inr (11, fsC))) (c1 : qCall d 77 [.ref 2, .int (xs (x3 + 1).toNatClampNeg), .int (xs (x3 + 2).toNatClampNeg), .int (xs (x3 + 3).toNatClampNeg), .int (xs (x3 + 4).toNatClampNeg), .int (xs (x3 + 5).toNatClampNeg)] h (some (.int r), h1)) (hs1 : h1.2.2 0 = some (.inl (8, L, .inl xs))) (hM : h1.2.2 142 = some (.inr (12, fsM))) (c2 : qCall d 185 [.ref 142, .int (xs (x3 + 1).toNatClampNeg), .int (xs (x3 + 2).toNatClampNeg), .int (xs (x3 + 3).toNatClampNeg), .int (xs (x3 + 4).toNatClampNeg), .int (xs (x3 + 5).toNatClampNeg)] h1 (some (.int r), h2)) (hk : (xs x3.toNatClampNeg &&& 63).toInt = 1) (kk : qE d 0 18 [some (.ref 0), some (.ref 2), some (.ref 142), some (.int (x3 + 6))] [] h2 q) : qE d 0 27 [some (.ref 0), some (.ref 2), some (.ref 142), some (.int x3)] [] h q := by
  refine qe_aload_n c0_27 rfl ?_
  refine qe_iload_n c0_28 rfl ?_
  refine qe_script c0_29 hs ⟨hx0, by omega⟩ ?_
  refine qe_bipush (x := 63) c0_30 (by decide) ?_
  refine qe_iand c0_32 ?_
  refine qe_table (off := 202) (t := 235) c0_33 (by rw [hk]; decide) (by rw [hk]; decide) rfl ?_
  refine qe_aload_n c0_235 rfl ?_
  refine qe_aload_n c0_236 rfl ?_
  refine qe_iload_n c0_237 rfl ?_
  refine qe_iconst (x := 1) c0_238 (by decide) ?_
  refine qe_iadd c0_239 ?_
  refine qe_script c0_240 hs (qidx (c := 1) (by decide) (by decide) hx0 hx1 hL) ?_
  refine qe_aload_n c0_241 rfl ?_
  refine qe_iload_n c0_242 rfl ?_
  refine qe_iconst (x := 2) c0_243 (by decide) ?_
  refine qe_iadd c0_244 ?_
  refine qe_script c0_245 hs (qidx (c := 2) (by decide) (by decide) hx0 hx1 hL) ?_
  refine qe_aload_n c0_246 rfl ?_
  refine qe_iload_n c0_247 rfl ?_
  refine qe_iconst (x := 3) c0_248 (by decide) ?_
  refine qe_iadd c0_249 ?_
  refine qe_script c0_250 hs (qidx (c := 3) (by decide) (by decide) hx0 hx1 hL) ?_
  refine qe_aload_n c0_251 rfl ?_
  refine qe_iload_n c0_252 rfl ?_
  refine qe_iconst (x := 4) c0_253 (by decide) ?_
  refine qe_iadd c0_254 ?_
  refine qe_script c0_255 hs (qidx (c := 4) (by decide) (by decide) hx0 hx1 hL) ?_
  refine qe_aload_n c0_256 rfl ?_
  refine qe_iload_n c0_257 rfl ?_
  refine qe_iconst (x := 5) c0_258 (by decide) ?_
  refine qe_iadd c0_259 ?_
  refine qe_script c0_260 hs (qidx (c := 5) (by decide) (by decide) hx0 hx1 hL) ?_
  refine qe_virtual (b := 2) (as := [.int (xs (x3 + 1).toNatClampNeg), .int (xs (x3 + 2).toNatClampNeg), .int (xs (x3 + 3).toNatClampNeg), .int (xs (x3 + 4).toNatClampNeg), .int (xs (x3 + 5).toNatClampNeg)]) (r := []) (v := some (.int r)) (h2 := h1) c0_261 qo0 qK13_18 rfl rfl rfl (by rw [qo77]; exact hC) (Nat.le_of_ble_eq_true rfl) c1 ?_
  refine qe_aload_n c0_264 rfl ?_
  refine qe_aload_n c0_265 rfl ?_
  refine qe_iload_n c0_266 rfl ?_
  refine qe_iconst (x := 1) c0_267 (by decide) ?_
  refine qe_iadd c0_268 ?_
  refine qe_script c0_269 hs1 (qidx (c := 1) (by decide) (by decide) hx0 hx1 hL) ?_
  refine qe_aload_n c0_270 rfl ?_
  refine qe_iload_n c0_271 rfl ?_
  refine qe_iconst (x := 2) c0_272 (by decide) ?_
  refine qe_iadd c0_273 ?_
  refine qe_script c0_274 hs1 (qidx (c := 2) (by decide) (by decide) hx0 hx1 hL) ?_
  refine qe_aload_n c0_275 rfl ?_
  refine qe_iload_n c0_276 rfl ?_
  refine qe_iconst (x := 3) c0_277 (by decide) ?_
  refine qe_iadd c0_278 ?_
  refine qe_script c0_279 hs1 (qidx (c := 3) (by decide) (by decide) hx0 hx1 hL) ?_
  refine qe_aload_n c0_280 rfl ?_
  refine qe_iload_n c0_281 rfl ?_
  refine qe_iconst (x := 4) c0_282 (by decide) ?_
  refine qe_iadd c0_283 ?_
  refine qe_script c0_284 hs1 (qidx (c := 4) (by decide) (by decide) hx0 hx1 hL) ?_
  refine qe_aload_n c0_285 rfl ?_
  refine qe_iload_n c0_286 rfl ?_
  refine qe_iconst (x := 5) c0_287 (by decide) ?_
  refine qe_iadd c0_288 ?_
  refine qe_script c0_289 hs1 (qidx (c := 5) (by decide) (by decide) hx0 hx1 hL) ?_
  refine qe_virtual (b := 142) (as := [.int (xs (x3 + 1).toNatClampNeg), .int (xs (x3 + 2).toNatClampNeg), .int (xs (x3 + 3).toNatClampNeg), .int (xs (x3 + 4).toNatClampNeg), .int (xs (x3 + 5).toNatClampNeg)]) (r := [.int r]) (v := some (.int r)) (h2 := h2) c0_290 qo0 qK13_22 rfl rfl rfl (by rw [qo185]; exact hM) (Nat.le_of_ble_eq_true rfl) c2 ?_
  refine qe_icmp_eq_T (t := 1463) c0_293 rfl rfl ?_
  refine qe_iinc (y := x3 + 6) (ls2 := [some (.ref 0), some (.ref 2), some (.ref 142), some (.int (x3 + 6))]) c0_1463 rfl (Nat.le_of_ble_eq_true rfl) rfl rfl ?_
  refine qe_goto (t := 18) c0_1466 rfl ?_
  exact kk
theorem ql2 {d L : Nat} {xs : Nat → Int32} {x3 : Int32} {h h1 h2 : qH} {q : Option Value × qH} {fsC fsM : List Value} {r : Int32} (hx0 : 0 ≤ x3.toInt) (hx1 : x3.toInt + 6 ≤ L) (hL : L ≤ 3072) (hs : h.2.2 0 = some (.inl (8, L, .inl xs))) (hC : h.2.2 2 = some (.inr (11, fsC))) (c1 : qCall d 81 [.ref 2, .int (xs (x3 + 1).toNatClampNeg), .int (xs (x3 + 2).toNatClampNeg), .int (xs (x3 + 3).toNatClampNeg)] h (some (.int r), h1)) (hs1 : h1.2.2 0 = some (.inl (8, L, .inl xs))) (hM : h1.2.2 142 = some (.inr (12, fsM))) (c2 : qCall d 188 [.ref 142, .int (xs (x3 + 1).toNatClampNeg), .int (xs (x3 + 2).toNatClampNeg), .int (xs (x3 + 3).toNatClampNeg)] h1 (some (.int r), h2)) (hk : (xs x3.toNatClampNeg &&& 63).toInt = 2) (kk : qE d 0 18 [some (.ref 0), some (.ref 2), some (.ref 142), some (.int (x3 + 6))] [] h2 q) : qE d 0 27 [some (.ref 0), some (.ref 2), some (.ref 142), some (.int x3)] [] h q := by
  refine qe_aload_n c0_27 rfl ?_
  refine qe_iload_n c0_28 rfl ?_
  refine qe_script c0_29 hs ⟨hx0, by omega⟩ ?_
  refine qe_bipush (x := 63) c0_30 (by decide) ?_
  refine qe_iand c0_32 ?_
  refine qe_table (off := 265) (t := 298) c0_33 (by rw [hk]; decide) (by rw [hk]; decide) rfl ?_
  refine qe_aload_n c0_298 rfl ?_
  refine qe_aload_n c0_299 rfl ?_
  refine qe_iload_n c0_300 rfl ?_
  refine qe_iconst (x := 1) c0_301 (by decide) ?_
  refine qe_iadd c0_302 ?_
  refine qe_script c0_303 hs (qidx (c := 1) (by decide) (by decide) hx0 hx1 hL) ?_
  refine qe_aload_n c0_304 rfl ?_
  refine qe_iload_n c0_305 rfl ?_
  refine qe_iconst (x := 2) c0_306 (by decide) ?_
  refine qe_iadd c0_307 ?_
  refine qe_script c0_308 hs (qidx (c := 2) (by decide) (by decide) hx0 hx1 hL) ?_
  refine qe_aload_n c0_309 rfl ?_
  refine qe_iload_n c0_310 rfl ?_
  refine qe_iconst (x := 3) c0_311 (by decide) ?_
  refine qe_iadd c0_312 ?_
  refine qe_script c0_313 hs (qidx (c := 3) (by decide) (by decide) hx0 hx1 hL) ?_
  refine qe_virtual (b := 2) (as := [.int (xs (x3 + 1).toNatClampNeg), .int (xs (x3 + 2).toNatClampNeg), .int (xs (x3 + 3).toNatClampNeg)]) (r := []) (v := some (.int r)) (h2 := h1) c0_314 qo0 qK13_23 rfl rfl rfl (by rw [qo81]; exact hC) (Nat.le_of_ble_eq_true rfl) c1 ?_
  refine qe_aload_n c0_317 rfl ?_
  refine qe_aload_n c0_318 rfl ?_
  refine qe_iload_n c0_319 rfl ?_
  refine qe_iconst (x := 1) c0_320 (by decide) ?_
  refine qe_iadd c0_321 ?_
  refine qe_script c0_322 hs1 (qidx (c := 1) (by decide) (by decide) hx0 hx1 hL) ?_
  refine qe_aload_n c0_323 rfl ?_
  refine qe_iload_n c0_324 rfl ?_
  refine qe_iconst (x := 2) c0_325 (by decide) ?_
  refine qe_iadd c0_326 ?_
  refine qe_script c0_327 hs1 (qidx (c := 2) (by decide) (by decide) hx0 hx1 hL) ?_
  refine qe_aload_n c0_328 rfl ?_
  refine qe_iload_n c0_329 rfl ?_
  refine qe_iconst (x := 3) c0_330 (by decide) ?_
  refine qe_iadd c0_331 ?_
  refine qe_script c0_332 hs1 (qidx (c := 3) (by decide) (by decide) hx0 hx1 hL) ?_
  refine qe_virtual (b := 142) (as := [.int (xs (x3 + 1).toNatClampNeg), .int (xs (x3 + 2).toNatClampNeg), .int (xs (x3 + 3).toNatClampNeg)]) (r := [.int r]) (v := some (.int r)) (h2 := h2) c0_333 qo0 qK13_26 rfl rfl rfl (by rw [qo188]; exact hM) (Nat.le_of_ble_eq_true rfl) c2 ?_
  refine qe_icmp_eq_T (t := 1463) c0_336 rfl rfl ?_
  refine qe_iinc (y := x3 + 6) (ls2 := [some (.ref 0), some (.ref 2), some (.ref 142), some (.int (x3 + 6))]) c0_1463 rfl (Nat.le_of_ble_eq_true rfl) rfl rfl ?_
  refine qe_goto (t := 18) c0_1466 rfl ?_
  exact kk
theorem ql3 {d L : Nat} {xs : Nat → Int32} {x3 : Int32} {h h1 h2 : qH} {q : Option Value × qH} {fsC fsM : List Value} {r : Int32} (hx0 : 0 ≤ x3.toInt) (hx1 : x3.toInt + 6 ≤ L) (hL : L ≤ 3072) (hs : h.2.2 0 = some (.inl (8, L, .inl xs))) (hC : h.2.2 2 = some (.inr (11, fsC))) (c1 : qCall d 75 [.ref 2, .int (xs (x3 + 1).toNatClampNeg), .int (xs (x3 + 2).toNatClampNeg)] h (some (.int r), h1)) (hs1 : h1.2.2 0 = some (.inl (8, L, .inl xs))) (hM : h1.2.2 142 = some (.inr (12, fsM))) (c2 : qCall d 180 [.ref 142, .int (xs (x3 + 1).toNatClampNeg), .int (xs (x3 + 2).toNatClampNeg)] h1 (some (.int r), h2)) (hk : (xs x3.toNatClampNeg &&& 63).toInt = 3) (kk : qE d 0 18 [some (.ref 0), some (.ref 2), some (.ref 142), some (.int (x3 + 6))] [] h2 q) : qE d 0 27 [some (.ref 0), some (.ref 2), some (.ref 142), some (.int x3)] [] h q := by
  refine qe_aload_n c0_27 rfl ?_
  refine qe_iload_n c0_28 rfl ?_
  refine qe_script c0_29 hs ⟨hx0, by omega⟩ ?_
  refine qe_bipush (x := 63) c0_30 (by decide) ?_
  refine qe_iand c0_32 ?_
  refine qe_table (off := 308) (t := 341) c0_33 (by rw [hk]; decide) (by rw [hk]; decide) rfl ?_
  refine qe_aload_n c0_341 rfl ?_
  refine qe_aload_n c0_342 rfl ?_
  refine qe_iload_n c0_343 rfl ?_
  refine qe_iconst (x := 1) c0_344 (by decide) ?_
  refine qe_iadd c0_345 ?_
  refine qe_script c0_346 hs (qidx (c := 1) (by decide) (by decide) hx0 hx1 hL) ?_
  refine qe_aload_n c0_347 rfl ?_
  refine qe_iload_n c0_348 rfl ?_
  refine qe_iconst (x := 2) c0_349 (by decide) ?_
  refine qe_iadd c0_350 ?_
  refine qe_script c0_351 hs (qidx (c := 2) (by decide) (by decide) hx0 hx1 hL) ?_
  refine qe_virtual (b := 2) (as := [.int (xs (x3 + 1).toNatClampNeg), .int (xs (x3 + 2).toNatClampNeg)]) (r := []) (v := some (.int r)) (h2 := h1) c0_352 qo0 qK13_27 rfl rfl rfl (by rw [qo75]; exact hC) (Nat.le_of_ble_eq_true rfl) c1 ?_
  refine qe_aload_n c0_355 rfl ?_
  refine qe_aload_n c0_356 rfl ?_
  refine qe_iload_n c0_357 rfl ?_
  refine qe_iconst (x := 1) c0_358 (by decide) ?_
  refine qe_iadd c0_359 ?_
  refine qe_script c0_360 hs1 (qidx (c := 1) (by decide) (by decide) hx0 hx1 hL) ?_
  refine qe_aload_n c0_361 rfl ?_
  refine qe_iload_n c0_362 rfl ?_
  refine qe_iconst (x := 2) c0_363 (by decide) ?_
  refine qe_iadd c0_364 ?_
  refine qe_script c0_365 hs1 (qidx (c := 2) (by decide) (by decide) hx0 hx1 hL) ?_
  refine qe_virtual (b := 142) (as := [.int (xs (x3 + 1).toNatClampNeg), .int (xs (x3 + 2).toNatClampNeg)]) (r := [.int r]) (v := some (.int r)) (h2 := h2) c0_366 qo0 qK13_31 rfl rfl rfl (by rw [qo180]; exact hM) (Nat.le_of_ble_eq_true rfl) c2 ?_
  refine qe_icmp_eq_T (t := 1463) c0_369 rfl rfl ?_
  refine qe_iinc (y := x3 + 6) (ls2 := [some (.ref 0), some (.ref 2), some (.ref 142), some (.int (x3 + 6))]) c0_1463 rfl (Nat.le_of_ble_eq_true rfl) rfl rfl ?_
  refine qe_goto (t := 18) c0_1466 rfl ?_
  exact kk
theorem ql4 {d L : Nat} {xs : Nat → Int32} {x3 : Int32} {h h1 h2 : qH} {q : Option Value × qH} {fsC fsM : List Value} {r : Int32} (hx0 : 0 ≤ x3.toInt) (hx1 : x3.toInt + 6 ≤ L) (hL : L ≤ 3072) (hs : h.2.2 0 = some (.inl (8, L, .inl xs))) (hC : h.2.2 2 = some (.inr (11, fsC))) (c1 : qCall d 38 [.ref 2, .int (xs (x3 + 1).toNatClampNeg)] h (some (.int r), h1)) (hs1 : h1.2.2 0 = some (.inl (8, L, .inl xs))) (hM : h1.2.2 142 = some (.inr (12, fsM))) (c2 : qCall d 95 [.ref 142, .int (xs (x3 + 1).toNatClampNeg)] h1 (some (.int r), h2)) (hk : (xs x3.toNatClampNeg &&& 63).toInt = 4) (kk : qE d 0 18 [some (.ref 0), some (.ref 2), some (.ref 142), some (.int (x3 + 6))] [] h2 q) : qE d 0 27 [some (.ref 0), some (.ref 2), some (.ref 142), some (.int x3)] [] h q := by
  refine qe_aload_n c0_27 rfl ?_
  refine qe_iload_n c0_28 rfl ?_
  refine qe_script c0_29 hs ⟨hx0, by omega⟩ ?_
  refine qe_bipush (x := 63) c0_30 (by decide) ?_
  refine qe_iand c0_32 ?_
  refine qe_table (off := 341) (t := 374) c0_33 (by rw [hk]; decide) (by rw [hk]; decide) rfl ?_
  refine qe_aload_n c0_374 rfl ?_
  refine qe_aload_n c0_375 rfl ?_
  refine qe_iload_n c0_376 rfl ?_
  refine qe_iconst (x := 1) c0_377 (by decide) ?_
  refine qe_iadd c0_378 ?_
  refine qe_script c0_379 hs (qidx (c := 1) (by decide) (by decide) hx0 hx1 hL) ?_
  refine qe_virtual (b := 2) (as := [.int (xs (x3 + 1).toNatClampNeg)]) (r := []) (v := some (.int r)) (h2 := h1) c0_380 qo0 qK13_32 rfl rfl rfl (by rw [qo38]; exact hC) (Nat.le_of_ble_eq_true rfl) c1 ?_
  refine qe_aload_n c0_383 rfl ?_
  refine qe_aload_n c0_384 rfl ?_
  refine qe_iload_n c0_385 rfl ?_
  refine qe_iconst (x := 1) c0_386 (by decide) ?_
  refine qe_iadd c0_387 ?_
  refine qe_script c0_388 hs1 (qidx (c := 1) (by decide) (by decide) hx0 hx1 hL) ?_
  refine qe_virtual (b := 142) (as := [.int (xs (x3 + 1).toNatClampNeg)]) (r := [.int r]) (v := some (.int r)) (h2 := h2) c0_389 qo0 qK13_36 rfl rfl rfl (by rw [qo95]; exact hM) (Nat.le_of_ble_eq_true rfl) c2 ?_
  refine qe_icmp_eq_T (t := 1463) c0_392 rfl rfl ?_
  refine qe_iinc (y := x3 + 6) (ls2 := [some (.ref 0), some (.ref 2), some (.ref 142), some (.int (x3 + 6))]) c0_1463 rfl (Nat.le_of_ble_eq_true rfl) rfl rfl ?_
  refine qe_goto (t := 18) c0_1466 rfl ?_
  exact kk
theorem ql5 {d L : Nat} {xs : Nat → Int32} {x3 : Int32} {h h1 h2 : qH} {q : Option Value × qH} {fsC fsM : List Value} {r : Int32} (hx0 : 0 ≤ x3.toInt) (hx1 : x3.toInt + 6 ≤ L) (hL : L ≤ 3072) (hs : h.2.2 0 = some (.inl (8, L, .inl xs))) (hC : h.2.2 2 = some (.inr (11, fsC))) (c1 : qCall d 76 [.ref 2, .int (xs (x3 + 1).toNatClampNeg), .int (qb (xs (x3 + 2).toNatClampNeg))] h (some (.int r), h1)) (hs1 : h1.2.2 0 = some (.inl (8, L, .inl xs))) (hM : h1.2.2 142 = some (.inr (12, fsM))) (c2 : qCall d 181 [.ref 142, .int (xs (x3 + 1).toNatClampNeg), .int (qb (xs (x3 + 2).toNatClampNeg))] h1 (some (.int r), h2)) (hk : (xs x3.toNatClampNeg &&& 63).toInt = 5) (kk : qE d 0 18 [some (.ref 0), some (.ref 2), some (.ref 142), some (.int (x3 + 6))] [] h2 q) : qE d 0 27 [some (.ref 0), some (.ref 2), some (.ref 142), some (.int x3)] [] h q := by
  refine qe_aload_n c0_27 rfl ?_
  refine qe_iload_n c0_28 rfl ?_
  refine qe_script c0_29 hs ⟨hx0, by omega⟩ ?_
  refine qe_bipush (x := 63) c0_30 (by decide) ?_
  refine qe_iand c0_32 ?_
  refine qe_table (off := 364) (t := 397) c0_33 (by rw [hk]; decide) (by rw [hk]; decide) rfl ?_
  refine qe_aload_n c0_397 rfl ?_
  refine qe_aload_n c0_398 rfl ?_
  refine qe_iload_n c0_399 rfl ?_
  refine qe_iconst (x := 1) c0_400 (by decide) ?_
  refine qe_iadd c0_401 ?_
  refine qe_script c0_402 hs (qidx (c := 1) (by decide) (by decide) hx0 hx1 hL) ?_
  refine qe_aload_n c0_403 rfl ?_
  refine qe_iload_n c0_404 rfl ?_
  refine qe_iconst (x := 2) c0_405 (by decide) ?_
  refine qe_iadd c0_406 ?_
  refine qe_script c0_407 hs (qidx (c := 2) (by decide) (by decide) hx0 hx1 hL) ?_
  by_cases z0 : (xs (x3 + 2).toNatClampNeg) = 0
  · have w0 : qb (xs (x3 + 2).toNatClampNeg) = 0 := if_pos z0
    rw [w0] at c1 c2
    refine qe_if_eq_T (t := 415) c0_408 rfl z0 ?_
    refine qe_iconst (x := 0) c0_415 (by decide) ?_
    refine qe_virtual (b := 2) (as := [.int (xs (x3 + 1).toNatClampNeg), .int 0]) (r := []) (v := some (.int r)) (h2 := h1) c0_416 qo0 qK13_37 rfl rfl rfl (by rw [qo76]; exact hC) (Nat.le_of_ble_eq_true rfl) c1 ?_
    refine qe_aload_n c0_419 rfl ?_
    refine qe_aload_n c0_420 rfl ?_
    refine qe_iload_n c0_421 rfl ?_
    refine qe_iconst (x := 1) c0_422 (by decide) ?_
    refine qe_iadd c0_423 ?_
    refine qe_script c0_424 hs1 (qidx (c := 1) (by decide) (by decide) hx0 hx1 hL) ?_
    refine qe_aload_n c0_425 rfl ?_
    refine qe_iload_n c0_426 rfl ?_
    refine qe_iconst (x := 2) c0_427 (by decide) ?_
    refine qe_iadd c0_428 ?_
    refine qe_script c0_429 hs1 (qidx (c := 2) (by decide) (by decide) hx0 hx1 hL) ?_
    refine qe_if_eq_T (t := 437) c0_430 rfl z0 ?_
    refine qe_iconst (x := 0) c0_437 (by decide) ?_
    refine qe_virtual (b := 142) (as := [.int (xs (x3 + 1).toNatClampNeg), .int 0]) (r := [.int r]) (v := some (.int r)) (h2 := h2) c0_438 qo0 qK13_41 rfl rfl rfl (by rw [qo181]; exact hM) (Nat.le_of_ble_eq_true rfl) c2 ?_
    refine qe_icmp_eq_T (t := 1463) c0_441 rfl rfl ?_
    refine qe_iinc (y := x3 + 6) (ls2 := [some (.ref 0), some (.ref 2), some (.ref 142), some (.int (x3 + 6))]) c0_1463 rfl (Nat.le_of_ble_eq_true rfl) rfl rfl ?_
    refine qe_goto (t := 18) c0_1466 rfl ?_
    exact kk
  · have w0 : qb (xs (x3 + 2).toNatClampNeg) = 1 := if_neg z0
    rw [w0] at c1 c2
    refine qe_if_eq_F (t := 415) c0_408 rfl z0 ?_
    refine qe_iconst (x := 1) c0_411 (by decide) ?_
    refine qe_goto (t := 416) c0_412 rfl ?_
    refine qe_virtual (b := 2) (as := [.int (xs (x3 + 1).toNatClampNeg), .int 1]) (r := []) (v := some (.int r)) (h2 := h1) c0_416 qo0 qK13_37 rfl rfl rfl (by rw [qo76]; exact hC) (Nat.le_of_ble_eq_true rfl) c1 ?_
    refine qe_aload_n c0_419 rfl ?_
    refine qe_aload_n c0_420 rfl ?_
    refine qe_iload_n c0_421 rfl ?_
    refine qe_iconst (x := 1) c0_422 (by decide) ?_
    refine qe_iadd c0_423 ?_
    refine qe_script c0_424 hs1 (qidx (c := 1) (by decide) (by decide) hx0 hx1 hL) ?_
    refine qe_aload_n c0_425 rfl ?_
    refine qe_iload_n c0_426 rfl ?_
    refine qe_iconst (x := 2) c0_427 (by decide) ?_
    refine qe_iadd c0_428 ?_
    refine qe_script c0_429 hs1 (qidx (c := 2) (by decide) (by decide) hx0 hx1 hL) ?_
    refine qe_if_eq_F (t := 437) c0_430 rfl z0 ?_
    refine qe_iconst (x := 1) c0_433 (by decide) ?_
    refine qe_goto (t := 438) c0_434 rfl ?_
    refine qe_virtual (b := 142) (as := [.int (xs (x3 + 1).toNatClampNeg), .int 1]) (r := [.int r]) (v := some (.int r)) (h2 := h2) c0_438 qo0 qK13_41 rfl rfl rfl (by rw [qo181]; exact hM) (Nat.le_of_ble_eq_true rfl) c2 ?_
    refine qe_icmp_eq_T (t := 1463) c0_441 rfl rfl ?_
    refine qe_iinc (y := x3 + 6) (ls2 := [some (.ref 0), some (.ref 2), some (.ref 142), some (.int (x3 + 6))]) c0_1463 rfl (Nat.le_of_ble_eq_true rfl) rfl rfl ?_
    refine qe_goto (t := 18) c0_1466 rfl ?_
    exact kk
theorem ql6 {d L : Nat} {xs : Nat → Int32} {x3 : Int32} {h h1 h2 : qH} {q : Option Value × qH} {fsC fsM : List Value} {r : Int32} (hx0 : 0 ≤ x3.toInt) (hx1 : x3.toInt + 6 ≤ L) (hL : L ≤ 3072) (hs : h.2.2 0 = some (.inl (8, L, .inl xs))) (hC : h.2.2 2 = some (.inr (11, fsC))) (c1 : qCall d 67 [.ref 2, .int (xs (x3 + 1).toNatClampNeg), .int (qb (xs (x3 + 2).toNatClampNeg))] h (some (.int r), h1)) (hs1 : h1.2.2 0 = some (.inl (8, L, .inl xs))) (hM : h1.2.2 142 = some (.inr (12, fsM))) (c2 : qCall d 159 [.ref 142, .int (xs (x3 + 1).toNatClampNeg), .int (qb (xs (x3 + 2).toNatClampNeg))] h1 (some (.int r), h2)) (hk : (xs x3.toNatClampNeg &&& 63).toInt = 6) (kk : qE d 0 18 [some (.ref 0), some (.ref 2), some (.ref 142), some (.int (x3 + 6))] [] h2 q) : qE d 0 27 [some (.ref 0), some (.ref 2), some (.ref 142), some (.int x3)] [] h q := by
  refine qe_aload_n c0_27 rfl ?_
  refine qe_iload_n c0_28 rfl ?_
  refine qe_script c0_29 hs ⟨hx0, by omega⟩ ?_
  refine qe_bipush (x := 63) c0_30 (by decide) ?_
  refine qe_iand c0_32 ?_
  refine qe_table (off := 413) (t := 446) c0_33 (by rw [hk]; decide) (by rw [hk]; decide) rfl ?_
  refine qe_aload_n c0_446 rfl ?_
  refine qe_aload_n c0_447 rfl ?_
  refine qe_iload_n c0_448 rfl ?_
  refine qe_iconst (x := 1) c0_449 (by decide) ?_
  refine qe_iadd c0_450 ?_
  refine qe_script c0_451 hs (qidx (c := 1) (by decide) (by decide) hx0 hx1 hL) ?_
  refine qe_aload_n c0_452 rfl ?_
  refine qe_iload_n c0_453 rfl ?_
  refine qe_iconst (x := 2) c0_454 (by decide) ?_
  refine qe_iadd c0_455 ?_
  refine qe_script c0_456 hs (qidx (c := 2) (by decide) (by decide) hx0 hx1 hL) ?_
  by_cases z0 : (xs (x3 + 2).toNatClampNeg) = 0
  · have w0 : qb (xs (x3 + 2).toNatClampNeg) = 0 := if_pos z0
    rw [w0] at c1 c2
    refine qe_if_eq_T (t := 464) c0_457 rfl z0 ?_
    refine qe_iconst (x := 0) c0_464 (by decide) ?_
    refine qe_virtual (b := 2) (as := [.int (xs (x3 + 1).toNatClampNeg), .int 0]) (r := []) (v := some (.int r)) (h2 := h1) c0_465 qo0 qK13_42 rfl rfl rfl (by rw [qo67]; exact hC) (Nat.le_of_ble_eq_true rfl) c1 ?_
    refine qe_aload_n c0_468 rfl ?_
    refine qe_aload_n c0_469 rfl ?_
    refine qe_iload_n c0_470 rfl ?_
    refine qe_iconst (x := 1) c0_471 (by decide) ?_
    refine qe_iadd c0_472 ?_
    refine qe_script c0_473 hs1 (qidx (c := 1) (by decide) (by decide) hx0 hx1 hL) ?_
    refine qe_aload_n c0_474 rfl ?_
    refine qe_iload_n c0_475 rfl ?_
    refine qe_iconst (x := 2) c0_476 (by decide) ?_
    refine qe_iadd c0_477 ?_
    refine qe_script c0_478 hs1 (qidx (c := 2) (by decide) (by decide) hx0 hx1 hL) ?_
    refine qe_if_eq_T (t := 486) c0_479 rfl z0 ?_
    refine qe_iconst (x := 0) c0_486 (by decide) ?_
    refine qe_virtual (b := 142) (as := [.int (xs (x3 + 1).toNatClampNeg), .int 0]) (r := [.int r]) (v := some (.int r)) (h2 := h2) c0_487 qo0 qK13_45 rfl rfl rfl (by rw [qo159]; exact hM) (Nat.le_of_ble_eq_true rfl) c2 ?_
    refine qe_icmp_eq_T (t := 1463) c0_490 rfl rfl ?_
    refine qe_iinc (y := x3 + 6) (ls2 := [some (.ref 0), some (.ref 2), some (.ref 142), some (.int (x3 + 6))]) c0_1463 rfl (Nat.le_of_ble_eq_true rfl) rfl rfl ?_
    refine qe_goto (t := 18) c0_1466 rfl ?_
    exact kk
  · have w0 : qb (xs (x3 + 2).toNatClampNeg) = 1 := if_neg z0
    rw [w0] at c1 c2
    refine qe_if_eq_F (t := 464) c0_457 rfl z0 ?_
    refine qe_iconst (x := 1) c0_460 (by decide) ?_
    refine qe_goto (t := 465) c0_461 rfl ?_
    refine qe_virtual (b := 2) (as := [.int (xs (x3 + 1).toNatClampNeg), .int 1]) (r := []) (v := some (.int r)) (h2 := h1) c0_465 qo0 qK13_42 rfl rfl rfl (by rw [qo67]; exact hC) (Nat.le_of_ble_eq_true rfl) c1 ?_
    refine qe_aload_n c0_468 rfl ?_
    refine qe_aload_n c0_469 rfl ?_
    refine qe_iload_n c0_470 rfl ?_
    refine qe_iconst (x := 1) c0_471 (by decide) ?_
    refine qe_iadd c0_472 ?_
    refine qe_script c0_473 hs1 (qidx (c := 1) (by decide) (by decide) hx0 hx1 hL) ?_
    refine qe_aload_n c0_474 rfl ?_
    refine qe_iload_n c0_475 rfl ?_
    refine qe_iconst (x := 2) c0_476 (by decide) ?_
    refine qe_iadd c0_477 ?_
    refine qe_script c0_478 hs1 (qidx (c := 2) (by decide) (by decide) hx0 hx1 hL) ?_
    refine qe_if_eq_F (t := 486) c0_479 rfl z0 ?_
    refine qe_iconst (x := 1) c0_482 (by decide) ?_
    refine qe_goto (t := 487) c0_483 rfl ?_
    refine qe_virtual (b := 142) (as := [.int (xs (x3 + 1).toNatClampNeg), .int 1]) (r := [.int r]) (v := some (.int r)) (h2 := h2) c0_487 qo0 qK13_45 rfl rfl rfl (by rw [qo159]; exact hM) (Nat.le_of_ble_eq_true rfl) c2 ?_
    refine qe_icmp_eq_T (t := 1463) c0_490 rfl rfl ?_
    refine qe_iinc (y := x3 + 6) (ls2 := [some (.ref 0), some (.ref 2), some (.ref 142), some (.int (x3 + 6))]) c0_1463 rfl (Nat.le_of_ble_eq_true rfl) rfl rfl ?_
    refine qe_goto (t := 18) c0_1466 rfl ?_
    exact kk
theorem ql7 {d L : Nat} {xs : Nat → Int32} {x3 : Int32} {h h1 h2 : qH} {q : Option Value × qH} {fsC fsM : List Value} {r : Int32} (hx0 : 0 ≤ x3.toInt) (hx1 : x3.toInt + 6 ≤ L) (hL : L ≤ 3072) (hs : h.2.2 0 = some (.inl (8, L, .inl xs))) (hC : h.2.2 2 = some (.inr (11, fsC))) (c1 : qCall d 68 [.ref 2, .int (xs (x3 + 1).toNatClampNeg), .int (qb (xs (x3 + 2).toNatClampNeg))] h (some (.int r), h1)) (hs1 : h1.2.2 0 = some (.inl (8, L, .inl xs))) (hM : h1.2.2 142 = some (.inr (12, fsM))) (c2 : qCall d 161 [.ref 142, .int (xs (x3 + 1).toNatClampNeg), .int (qb (xs (x3 + 2).toNatClampNeg))] h1 (some (.int r), h2)) (hk : (xs x3.toNatClampNeg &&& 63).toInt = 7) (kk : qE d 0 18 [some (.ref 0), some (.ref 2), some (.ref 142), some (.int (x3 + 6))] [] h2 q) : qE d 0 27 [some (.ref 0), some (.ref 2), some (.ref 142), some (.int x3)] [] h q := by
  refine qe_aload_n c0_27 rfl ?_
  refine qe_iload_n c0_28 rfl ?_
  refine qe_script c0_29 hs ⟨hx0, by omega⟩ ?_
  refine qe_bipush (x := 63) c0_30 (by decide) ?_
  refine qe_iand c0_32 ?_
  refine qe_table (off := 462) (t := 495) c0_33 (by rw [hk]; decide) (by rw [hk]; decide) rfl ?_
  refine qe_aload_n c0_495 rfl ?_
  refine qe_aload_n c0_496 rfl ?_
  refine qe_iload_n c0_497 rfl ?_
  refine qe_iconst (x := 1) c0_498 (by decide) ?_
  refine qe_iadd c0_499 ?_
  refine qe_script c0_500 hs (qidx (c := 1) (by decide) (by decide) hx0 hx1 hL) ?_
  refine qe_aload_n c0_501 rfl ?_
  refine qe_iload_n c0_502 rfl ?_
  refine qe_iconst (x := 2) c0_503 (by decide) ?_
  refine qe_iadd c0_504 ?_
  refine qe_script c0_505 hs (qidx (c := 2) (by decide) (by decide) hx0 hx1 hL) ?_
  by_cases z0 : (xs (x3 + 2).toNatClampNeg) = 0
  · have w0 : qb (xs (x3 + 2).toNatClampNeg) = 0 := if_pos z0
    rw [w0] at c1 c2
    refine qe_if_eq_T (t := 513) c0_506 rfl z0 ?_
    refine qe_iconst (x := 0) c0_513 (by decide) ?_
    refine qe_virtual (b := 2) (as := [.int (xs (x3 + 1).toNatClampNeg), .int 0]) (r := []) (v := some (.int r)) (h2 := h1) c0_514 qo0 qK13_46 rfl rfl rfl (by rw [qo68]; exact hC) (Nat.le_of_ble_eq_true rfl) c1 ?_
    refine qe_aload_n c0_517 rfl ?_
    refine qe_aload_n c0_518 rfl ?_
    refine qe_iload_n c0_519 rfl ?_
    refine qe_iconst (x := 1) c0_520 (by decide) ?_
    refine qe_iadd c0_521 ?_
    refine qe_script c0_522 hs1 (qidx (c := 1) (by decide) (by decide) hx0 hx1 hL) ?_
    refine qe_aload_n c0_523 rfl ?_
    refine qe_iload_n c0_524 rfl ?_
    refine qe_iconst (x := 2) c0_525 (by decide) ?_
    refine qe_iadd c0_526 ?_
    refine qe_script c0_527 hs1 (qidx (c := 2) (by decide) (by decide) hx0 hx1 hL) ?_
    refine qe_if_eq_T (t := 535) c0_528 rfl z0 ?_
    refine qe_iconst (x := 0) c0_535 (by decide) ?_
    refine qe_virtual (b := 142) (as := [.int (xs (x3 + 1).toNatClampNeg), .int 0]) (r := [.int r]) (v := some (.int r)) (h2 := h2) c0_536 qo0 qK13_49 rfl rfl rfl (by rw [qo161]; exact hM) (Nat.le_of_ble_eq_true rfl) c2 ?_
    refine qe_icmp_eq_T (t := 1463) c0_539 rfl rfl ?_
    refine qe_iinc (y := x3 + 6) (ls2 := [some (.ref 0), some (.ref 2), some (.ref 142), some (.int (x3 + 6))]) c0_1463 rfl (Nat.le_of_ble_eq_true rfl) rfl rfl ?_
    refine qe_goto (t := 18) c0_1466 rfl ?_
    exact kk
  · have w0 : qb (xs (x3 + 2).toNatClampNeg) = 1 := if_neg z0
    rw [w0] at c1 c2
    refine qe_if_eq_F (t := 513) c0_506 rfl z0 ?_
    refine qe_iconst (x := 1) c0_509 (by decide) ?_
    refine qe_goto (t := 514) c0_510 rfl ?_
    refine qe_virtual (b := 2) (as := [.int (xs (x3 + 1).toNatClampNeg), .int 1]) (r := []) (v := some (.int r)) (h2 := h1) c0_514 qo0 qK13_46 rfl rfl rfl (by rw [qo68]; exact hC) (Nat.le_of_ble_eq_true rfl) c1 ?_
    refine qe_aload_n c0_517 rfl ?_
    refine qe_aload_n c0_518 rfl ?_
    refine qe_iload_n c0_519 rfl ?_
    refine qe_iconst (x := 1) c0_520 (by decide) ?_
    refine qe_iadd c0_521 ?_
    refine qe_script c0_522 hs1 (qidx (c := 1) (by decide) (by decide) hx0 hx1 hL) ?_
    refine qe_aload_n c0_523 rfl ?_
    refine qe_iload_n c0_524 rfl ?_
    refine qe_iconst (x := 2) c0_525 (by decide) ?_
    refine qe_iadd c0_526 ?_
    refine qe_script c0_527 hs1 (qidx (c := 2) (by decide) (by decide) hx0 hx1 hL) ?_
    refine qe_if_eq_F (t := 535) c0_528 rfl z0 ?_
    refine qe_iconst (x := 1) c0_531 (by decide) ?_
    refine qe_goto (t := 536) c0_532 rfl ?_
    refine qe_virtual (b := 142) (as := [.int (xs (x3 + 1).toNatClampNeg), .int 1]) (r := [.int r]) (v := some (.int r)) (h2 := h2) c0_536 qo0 qK13_49 rfl rfl rfl (by rw [qo161]; exact hM) (Nat.le_of_ble_eq_true rfl) c2 ?_
    refine qe_icmp_eq_T (t := 1463) c0_539 rfl rfl ?_
    refine qe_iinc (y := x3 + 6) (ls2 := [some (.ref 0), some (.ref 2), some (.ref 142), some (.int (x3 + 6))]) c0_1463 rfl (Nat.le_of_ble_eq_true rfl) rfl rfl ?_
    refine qe_goto (t := 18) c0_1466 rfl ?_
    exact kk
theorem ql8 {d L : Nat} {xs : Nat → Int32} {x3 : Int32} {h h1 h2 : qH} {q : Option Value × qH} {fsC fsM : List Value} {r : Int32} (hx0 : 0 ≤ x3.toInt) (hx1 : x3.toInt + 6 ≤ L) (hL : L ≤ 3072) (hs : h.2.2 0 = some (.inl (8, L, .inl xs))) (hC : h.2.2 2 = some (.inr (11, fsC))) (c1 : qCall d 62 [.ref 2, .int (xs (x3 + 1).toNatClampNeg), .int (xs (x3 + 2).toNatClampNeg)] h (some (.int r), h1)) (hs1 : h1.2.2 0 = some (.inl (8, L, .inl xs))) (hM : h1.2.2 142 = some (.inr (12, fsM))) (c2 : qCall d 144 [.ref 142, .int (xs (x3 + 1).toNatClampNeg), .int (xs (x3 + 2).toNatClampNeg)] h1 (some (.int r), h2)) (hk : (xs x3.toNatClampNeg &&& 63).toInt = 8) (kk : qE d 0 18 [some (.ref 0), some (.ref 2), some (.ref 142), some (.int (x3 + 6))] [] h2 q) : qE d 0 27 [some (.ref 0), some (.ref 2), some (.ref 142), some (.int x3)] [] h q := by
  refine qe_aload_n c0_27 rfl ?_
  refine qe_iload_n c0_28 rfl ?_
  refine qe_script c0_29 hs ⟨hx0, by omega⟩ ?_
  refine qe_bipush (x := 63) c0_30 (by decide) ?_
  refine qe_iand c0_32 ?_
  refine qe_table (off := 511) (t := 544) c0_33 (by rw [hk]; decide) (by rw [hk]; decide) rfl ?_
  refine qe_aload_n c0_544 rfl ?_
  refine qe_aload_n c0_545 rfl ?_
  refine qe_iload_n c0_546 rfl ?_
  refine qe_iconst (x := 1) c0_547 (by decide) ?_
  refine qe_iadd c0_548 ?_
  refine qe_script c0_549 hs (qidx (c := 1) (by decide) (by decide) hx0 hx1 hL) ?_
  refine qe_aload_n c0_550 rfl ?_
  refine qe_iload_n c0_551 rfl ?_
  refine qe_iconst (x := 2) c0_552 (by decide) ?_
  refine qe_iadd c0_553 ?_
  refine qe_script c0_554 hs (qidx (c := 2) (by decide) (by decide) hx0 hx1 hL) ?_
  refine qe_virtual (b := 2) (as := [.int (xs (x3 + 1).toNatClampNeg), .int (xs (x3 + 2).toNatClampNeg)]) (r := []) (v := some (.int r)) (h2 := h1) c0_555 qo0 qK13_50 rfl rfl rfl (by rw [qo62]; exact hC) (Nat.le_of_ble_eq_true rfl) c1 ?_
  refine qe_aload_n c0_558 rfl ?_
  refine qe_aload_n c0_559 rfl ?_
  refine qe_iload_n c0_560 rfl ?_
  refine qe_iconst (x := 1) c0_561 (by decide) ?_
  refine qe_iadd c0_562 ?_
  refine qe_script c0_563 hs1 (qidx (c := 1) (by decide) (by decide) hx0 hx1 hL) ?_
  refine qe_aload_n c0_564 rfl ?_
  refine qe_iload_n c0_565 rfl ?_
  refine qe_iconst (x := 2) c0_566 (by decide) ?_
  refine qe_iadd c0_567 ?_
  refine qe_script c0_568 hs1 (qidx (c := 2) (by decide) (by decide) hx0 hx1 hL) ?_
  refine qe_virtual (b := 142) (as := [.int (xs (x3 + 1).toNatClampNeg), .int (xs (x3 + 2).toNatClampNeg)]) (r := [.int r]) (v := some (.int r)) (h2 := h2) c0_569 qo0 qK13_53 rfl rfl rfl (by rw [qo144]; exact hM) (Nat.le_of_ble_eq_true rfl) c2 ?_
  refine qe_icmp_eq_T (t := 1463) c0_572 rfl rfl ?_
  refine qe_iinc (y := x3 + 6) (ls2 := [some (.ref 0), some (.ref 2), some (.ref 142), some (.int (x3 + 6))]) c0_1463 rfl (Nat.le_of_ble_eq_true rfl) rfl rfl ?_
  refine qe_goto (t := 18) c0_1466 rfl ?_
  exact kk
theorem ql9 {d L : Nat} {xs : Nat → Int32} {x3 : Int32} {h h1 h2 : qH} {q : Option Value × qH} {fsC fsM : List Value} {r : Int32} (hx0 : 0 ≤ x3.toInt) (hx1 : x3.toInt + 6 ≤ L) (hL : L ≤ 3072) (hs : h.2.2 0 = some (.inl (8, L, .inl xs))) (hC : h.2.2 2 = some (.inr (11, fsC))) (c1 : qCall d 63 [.ref 2, .int (xs (x3 + 1).toNatClampNeg)] h (some (.int r), h1)) (hs1 : h1.2.2 0 = some (.inl (8, L, .inl xs))) (hM : h1.2.2 142 = some (.inr (12, fsM))) (c2 : qCall d 147 [.ref 142, .int (xs (x3 + 1).toNatClampNeg)] h1 (some (.int r), h2)) (hk : (xs x3.toNatClampNeg &&& 63).toInt = 9) (kk : qE d 0 18 [some (.ref 0), some (.ref 2), some (.ref 142), some (.int (x3 + 6))] [] h2 q) : qE d 0 27 [some (.ref 0), some (.ref 2), some (.ref 142), some (.int x3)] [] h q := by
  refine qe_aload_n c0_27 rfl ?_
  refine qe_iload_n c0_28 rfl ?_
  refine qe_script c0_29 hs ⟨hx0, by omega⟩ ?_
  refine qe_bipush (x := 63) c0_30 (by decide) ?_
  refine qe_iand c0_32 ?_
  refine qe_table (off := 544) (t := 577) c0_33 (by rw [hk]; decide) (by rw [hk]; decide) rfl ?_
  refine qe_aload_n c0_577 rfl ?_
  refine qe_aload_n c0_578 rfl ?_
  refine qe_iload_n c0_579 rfl ?_
  refine qe_iconst (x := 1) c0_580 (by decide) ?_
  refine qe_iadd c0_581 ?_
  refine qe_script c0_582 hs (qidx (c := 1) (by decide) (by decide) hx0 hx1 hL) ?_
  refine qe_virtual (b := 2) (as := [.int (xs (x3 + 1).toNatClampNeg)]) (r := []) (v := some (.int r)) (h2 := h1) c0_583 qo0 qK13_54 rfl rfl rfl (by rw [qo63]; exact hC) (Nat.le_of_ble_eq_true rfl) c1 ?_
  refine qe_aload_n c0_586 rfl ?_
  refine qe_aload_n c0_587 rfl ?_
  refine qe_iload_n c0_588 rfl ?_
  refine qe_iconst (x := 1) c0_589 (by decide) ?_
  refine qe_iadd c0_590 ?_
  refine qe_script c0_591 hs1 (qidx (c := 1) (by decide) (by decide) hx0 hx1 hL) ?_
  refine qe_virtual (b := 142) (as := [.int (xs (x3 + 1).toNatClampNeg)]) (r := [.int r]) (v := some (.int r)) (h2 := h2) c0_592 qo0 qK13_57 rfl rfl rfl (by rw [qo147]; exact hM) (Nat.le_of_ble_eq_true rfl) c2 ?_
  refine qe_icmp_eq_T (t := 1463) c0_595 rfl rfl ?_
  refine qe_iinc (y := x3 + 6) (ls2 := [some (.ref 0), some (.ref 2), some (.ref 142), some (.int (x3 + 6))]) c0_1463 rfl (Nat.le_of_ble_eq_true rfl) rfl rfl ?_
  refine qe_goto (t := 18) c0_1466 rfl ?_
  exact kk
theorem ql10 {d L : Nat} {xs : Nat → Int32} {x3 : Int32} {h h1 h2 : qH} {q : Option Value × qH} {fsC fsM : List Value} {r : Int32} (hx0 : 0 ≤ x3.toInt) (hx1 : x3.toInt + 6 ≤ L) (hL : L ≤ 3072) (hs : h.2.2 0 = some (.inl (8, L, .inl xs))) (hC : h.2.2 2 = some (.inr (11, fsC))) (c1 : qCall d 46 [.ref 2, .int (xs (x3 + 1).toNatClampNeg), .int (xs (x3 + 2).toNatClampNeg), .int (xs (x3 + 3).toNatClampNeg), .int (xs (x3 + 4).toNatClampNeg), .int (xs (x3 + 5).toNatClampNeg)] h (some (.int r), h1)) (hs1 : h1.2.2 0 = some (.inl (8, L, .inl xs))) (hM : h1.2.2 142 = some (.inr (12, fsM))) (c2 : qCall d 107 [.ref 142, .int (xs (x3 + 1).toNatClampNeg), .int (xs (x3 + 2).toNatClampNeg), .int (xs (x3 + 3).toNatClampNeg), .int (xs (x3 + 4).toNatClampNeg), .int (xs (x3 + 5).toNatClampNeg)] h1 (some (.int r), h2)) (hk : (xs x3.toNatClampNeg &&& 63).toInt = 10) (kk : qE d 0 18 [some (.ref 0), some (.ref 2), some (.ref 142), some (.int (x3 + 6))] [] h2 q) : qE d 0 27 [some (.ref 0), some (.ref 2), some (.ref 142), some (.int x3)] [] h q := by
  refine qe_aload_n c0_27 rfl ?_
  refine qe_iload_n c0_28 rfl ?_
  refine qe_script c0_29 hs ⟨hx0, by omega⟩ ?_
  refine qe_bipush (x := 63) c0_30 (by decide) ?_
  refine qe_iand c0_32 ?_
  refine qe_table (off := 567) (t := 600) c0_33 (by rw [hk]; decide) (by rw [hk]; decide) rfl ?_
  refine qe_aload_n c0_600 rfl ?_
  refine qe_aload_n c0_601 rfl ?_
  refine qe_iload_n c0_602 rfl ?_
  refine qe_iconst (x := 1) c0_603 (by decide) ?_
  refine qe_iadd c0_604 ?_
  refine qe_script c0_605 hs (qidx (c := 1) (by decide) (by decide) hx0 hx1 hL) ?_
  refine qe_aload_n c0_606 rfl ?_
  refine qe_iload_n c0_607 rfl ?_
  refine qe_iconst (x := 2) c0_608 (by decide) ?_
  refine qe_iadd c0_609 ?_
  refine qe_script c0_610 hs (qidx (c := 2) (by decide) (by decide) hx0 hx1 hL) ?_
  refine qe_aload_n c0_611 rfl ?_
  refine qe_iload_n c0_612 rfl ?_
  refine qe_iconst (x := 3) c0_613 (by decide) ?_
  refine qe_iadd c0_614 ?_
  refine qe_script c0_615 hs (qidx (c := 3) (by decide) (by decide) hx0 hx1 hL) ?_
  refine qe_aload_n c0_616 rfl ?_
  refine qe_iload_n c0_617 rfl ?_
  refine qe_iconst (x := 4) c0_618 (by decide) ?_
  refine qe_iadd c0_619 ?_
  refine qe_script c0_620 hs (qidx (c := 4) (by decide) (by decide) hx0 hx1 hL) ?_
  refine qe_aload_n c0_621 rfl ?_
  refine qe_iload_n c0_622 rfl ?_
  refine qe_iconst (x := 5) c0_623 (by decide) ?_
  refine qe_iadd c0_624 ?_
  refine qe_script c0_625 hs (qidx (c := 5) (by decide) (by decide) hx0 hx1 hL) ?_
  refine qe_virtual (b := 2) (as := [.int (xs (x3 + 1).toNatClampNeg), .int (xs (x3 + 2).toNatClampNeg), .int (xs (x3 + 3).toNatClampNeg), .int (xs (x3 + 4).toNatClampNeg), .int (xs (x3 + 5).toNatClampNeg)]) (r := []) (v := some (.int r)) (h2 := h1) c0_626 qo0 qK13_58 rfl rfl rfl (by rw [qo46]; exact hC) (Nat.le_of_ble_eq_true rfl) c1 ?_
  refine qe_aload_n c0_629 rfl ?_
  refine qe_aload_n c0_630 rfl ?_
  refine qe_iload_n c0_631 rfl ?_
  refine qe_iconst (x := 1) c0_632 (by decide) ?_
  refine qe_iadd c0_633 ?_
  refine qe_script c0_634 hs1 (qidx (c := 1) (by decide) (by decide) hx0 hx1 hL) ?_
  refine qe_aload_n c0_635 rfl ?_
  refine qe_iload_n c0_636 rfl ?_
  refine qe_iconst (x := 2) c0_637 (by decide) ?_
  refine qe_iadd c0_638 ?_
  refine qe_script c0_639 hs1 (qidx (c := 2) (by decide) (by decide) hx0 hx1 hL) ?_
  refine qe_aload_n c0_640 rfl ?_
  refine qe_iload_n c0_641 rfl ?_
  refine qe_iconst (x := 3) c0_642 (by decide) ?_
  refine qe_iadd c0_643 ?_
  refine qe_script c0_644 hs1 (qidx (c := 3) (by decide) (by decide) hx0 hx1 hL) ?_
  refine qe_aload_n c0_645 rfl ?_
  refine qe_iload_n c0_646 rfl ?_
  refine qe_iconst (x := 4) c0_647 (by decide) ?_
  refine qe_iadd c0_648 ?_
  refine qe_script c0_649 hs1 (qidx (c := 4) (by decide) (by decide) hx0 hx1 hL) ?_
  refine qe_aload_n c0_650 rfl ?_
  refine qe_iload_n c0_651 rfl ?_
  refine qe_iconst (x := 5) c0_652 (by decide) ?_
  refine qe_iadd c0_653 ?_
  refine qe_script c0_654 hs1 (qidx (c := 5) (by decide) (by decide) hx0 hx1 hL) ?_
  refine qe_virtual (b := 142) (as := [.int (xs (x3 + 1).toNatClampNeg), .int (xs (x3 + 2).toNatClampNeg), .int (xs (x3 + 3).toNatClampNeg), .int (xs (x3 + 4).toNatClampNeg), .int (xs (x3 + 5).toNatClampNeg)]) (r := [.int r]) (v := some (.int r)) (h2 := h2) c0_655 qo0 qK13_61 rfl rfl rfl (by rw [qo107]; exact hM) (Nat.le_of_ble_eq_true rfl) c2 ?_
  refine qe_icmp_eq_T (t := 1463) c0_658 rfl rfl ?_
  refine qe_iinc (y := x3 + 6) (ls2 := [some (.ref 0), some (.ref 2), some (.ref 142), some (.int (x3 + 6))]) c0_1463 rfl (Nat.le_of_ble_eq_true rfl) rfl rfl ?_
  refine qe_goto (t := 18) c0_1466 rfl ?_
  exact kk
theorem ql11 {d L : Nat} {xs : Nat → Int32} {x3 : Int32} {h h1 h2 : qH} {q : Option Value × qH} {fsC fsM : List Value} {r : Int32} (hx0 : 0 ≤ x3.toInt) (hx1 : x3.toInt + 6 ≤ L) (hL : L ≤ 3072) (hs : h.2.2 0 = some (.inl (8, L, .inl xs))) (hC : h.2.2 2 = some (.inr (11, fsC))) (c1 : qCall d 66 [.ref 2, .int (xs (x3 + 1).toNatClampNeg)] h (some (.int r), h1)) (hs1 : h1.2.2 0 = some (.inl (8, L, .inl xs))) (hM : h1.2.2 142 = some (.inr (12, fsM))) (c2 : qCall d 158 [.ref 142, .int (xs (x3 + 1).toNatClampNeg)] h1 (some (.int r), h2)) (hk : (xs x3.toNatClampNeg &&& 63).toInt = 11) (kk : qE d 0 18 [some (.ref 0), some (.ref 2), some (.ref 142), some (.int (x3 + 6))] [] h2 q) : qE d 0 27 [some (.ref 0), some (.ref 2), some (.ref 142), some (.int x3)] [] h q := by
  refine qe_aload_n c0_27 rfl ?_
  refine qe_iload_n c0_28 rfl ?_
  refine qe_script c0_29 hs ⟨hx0, by omega⟩ ?_
  refine qe_bipush (x := 63) c0_30 (by decide) ?_
  refine qe_iand c0_32 ?_
  refine qe_table (off := 630) (t := 663) c0_33 (by rw [hk]; decide) (by rw [hk]; decide) rfl ?_
  refine qe_aload_n c0_663 rfl ?_
  refine qe_aload_n c0_664 rfl ?_
  refine qe_iload_n c0_665 rfl ?_
  refine qe_iconst (x := 1) c0_666 (by decide) ?_
  refine qe_iadd c0_667 ?_
  refine qe_script c0_668 hs (qidx (c := 1) (by decide) (by decide) hx0 hx1 hL) ?_
  refine qe_virtual (b := 2) (as := [.int (xs (x3 + 1).toNatClampNeg)]) (r := []) (v := some (.int r)) (h2 := h1) c0_669 qo0 qK13_62 rfl rfl rfl (by rw [qo66]; exact hC) (Nat.le_of_ble_eq_true rfl) c1 ?_
  refine qe_aload_n c0_672 rfl ?_
  refine qe_aload_n c0_673 rfl ?_
  refine qe_iload_n c0_674 rfl ?_
  refine qe_iconst (x := 1) c0_675 (by decide) ?_
  refine qe_iadd c0_676 ?_
  refine qe_script c0_677 hs1 (qidx (c := 1) (by decide) (by decide) hx0 hx1 hL) ?_
  refine qe_virtual (b := 142) (as := [.int (xs (x3 + 1).toNatClampNeg)]) (r := [.int r]) (v := some (.int r)) (h2 := h2) c0_678 qo0 qK13_66 rfl rfl rfl (by rw [qo158]; exact hM) (Nat.le_of_ble_eq_true rfl) c2 ?_
  refine qe_icmp_eq_T (t := 1463) c0_681 rfl rfl ?_
  refine qe_iinc (y := x3 + 6) (ls2 := [some (.ref 0), some (.ref 2), some (.ref 142), some (.int (x3 + 6))]) c0_1463 rfl (Nat.le_of_ble_eq_true rfl) rfl rfl ?_
  refine qe_goto (t := 18) c0_1466 rfl ?_
  exact kk
theorem ql12 {d L : Nat} {xs : Nat → Int32} {x3 : Int32} {h h1 h2 : qH} {q : Option Value × qH} {fsC fsM : List Value} {r : Int32} (hx0 : 0 ≤ x3.toInt) (hx1 : x3.toInt + 6 ≤ L) (hL : L ≤ 3072) (hs : h.2.2 0 = some (.inl (8, L, .inl xs))) (hC : h.2.2 2 = some (.inr (11, fsC))) (c1 : qCall d 51 [.ref 2] h (some (.int r), h1)) (hs1 : h1.2.2 0 = some (.inl (8, L, .inl xs))) (hM : h1.2.2 142 = some (.inr (12, fsM))) (c2 : qCall d 113 [.ref 142] h1 (some (.int r), h2)) (hk : (xs x3.toNatClampNeg &&& 63).toInt = 12) (kk : qE d 0 18 [some (.ref 0), some (.ref 2), some (.ref 142), some (.int (x3 + 6))] [] h2 q) : qE d 0 27 [some (.ref 0), some (.ref 2), some (.ref 142), some (.int x3)] [] h q := by
  refine qe_aload_n c0_27 rfl ?_
  refine qe_iload_n c0_28 rfl ?_
  refine qe_script c0_29 hs ⟨hx0, by omega⟩ ?_
  refine qe_bipush (x := 63) c0_30 (by decide) ?_
  refine qe_iand c0_32 ?_
  refine qe_table (off := 653) (t := 686) c0_33 (by rw [hk]; decide) (by rw [hk]; decide) rfl ?_
  refine qe_aload_n c0_686 rfl ?_
  refine qe_virtual (b := 2) (as := []) (r := []) (v := some (.int r)) (h2 := h1) c0_687 qo0 qK13_67 rfl rfl rfl (by rw [qo51]; exact hC) (Nat.le_of_ble_eq_true rfl) c1 ?_
  refine qe_aload_n c0_690 rfl ?_
  refine qe_virtual (b := 142) (as := []) (r := [.int r]) (v := some (.int r)) (h2 := h2) c0_691 qo0 qK13_71 rfl rfl rfl (by rw [qo113]; exact hM) (Nat.le_of_ble_eq_true rfl) c2 ?_
  refine qe_icmp_eq_T (t := 1463) c0_694 rfl rfl ?_
  refine qe_iinc (y := x3 + 6) (ls2 := [some (.ref 0), some (.ref 2), some (.ref 142), some (.int (x3 + 6))]) c0_1463 rfl (Nat.le_of_ble_eq_true rfl) rfl rfl ?_
  refine qe_goto (t := 18) c0_1466 rfl ?_
  exact kk
theorem ql13 {d L : Nat} {xs : Nat → Int32} {x3 : Int32} {h h1 h2 : qH} {q : Option Value × qH} {fsC fsM : List Value} {r : Int64} (hx0 : 0 ≤ x3.toInt) (hx1 : x3.toInt + 6 ≤ L) (hL : L ≤ 3072) (hs : h.2.2 0 = some (.inl (8, L, .inl xs))) (hC : h.2.2 2 = some (.inr (11, fsC))) (c1 : qCall d 50 [.ref 2, .int (xs (x3 + 1).toNatClampNeg)] h (some (.long r), h1)) (hs1 : h1.2.2 0 = some (.inl (8, L, .inl xs))) (hM : h1.2.2 142 = some (.inr (12, fsM))) (c2 : qCall d 110 [.ref 142, .int (xs (x3 + 1).toNatClampNeg)] h1 (some (.long r), h2)) (hk : (xs x3.toNatClampNeg &&& 63).toInt = 13) (kk : qE d 0 18 [some (.ref 0), some (.ref 2), some (.ref 142), some (.int (x3 + 6))] [] h2 q) : qE d 0 27 [some (.ref 0), some (.ref 2), some (.ref 142), some (.int x3)] [] h q := by
  refine qe_aload_n c0_27 rfl ?_
  refine qe_iload_n c0_28 rfl ?_
  refine qe_script c0_29 hs ⟨hx0, by omega⟩ ?_
  refine qe_bipush (x := 63) c0_30 (by decide) ?_
  refine qe_iand c0_32 ?_
  refine qe_table (off := 666) (t := 699) c0_33 (by rw [hk]; decide) (by rw [hk]; decide) rfl ?_
  refine qe_aload_n c0_699 rfl ?_
  refine qe_aload_n c0_700 rfl ?_
  refine qe_iload_n c0_701 rfl ?_
  refine qe_iconst (x := 1) c0_702 (by decide) ?_
  refine qe_iadd c0_703 ?_
  refine qe_script c0_704 hs (qidx (c := 1) (by decide) (by decide) hx0 hx1 hL) ?_
  refine qe_virtual (b := 2) (as := [.int (xs (x3 + 1).toNatClampNeg)]) (r := []) (v := some (.long r)) (h2 := h1) c0_705 qo0 qK13_72 rfl rfl rfl (by rw [qo50]; exact hC) (Nat.le_of_ble_eq_true rfl) c1 ?_
  refine qe_aload_n c0_708 rfl ?_
  refine qe_aload_n c0_709 rfl ?_
  refine qe_iload_n c0_710 rfl ?_
  refine qe_iconst (x := 1) c0_711 (by decide) ?_
  refine qe_iadd c0_712 ?_
  refine qe_script c0_713 hs1 (qidx (c := 1) (by decide) (by decide) hx0 hx1 hL) ?_
  refine qe_virtual (b := 142) (as := [.int (xs (x3 + 1).toNatClampNeg)]) (r := [.long r]) (v := some (.long r)) (h2 := h2) c0_714 qo0 qK13_76 rfl rfl rfl (by rw [qo110]; exact hM) (Nat.le_of_ble_eq_true rfl) c2 ?_
  refine qe_lcmp c0_717 ?_
  refine qe_if_eq_T (t := 1463) c0_718 rfl ((lg_cmp_eq r r).mpr rfl) ?_
  refine qe_iinc (y := x3 + 6) (ls2 := [some (.ref 0), some (.ref 2), some (.ref 142), some (.int (x3 + 6))]) c0_1463 rfl (Nat.le_of_ble_eq_true rfl) rfl rfl ?_
  refine qe_goto (t := 18) c0_1466 rfl ?_
  exact kk
theorem ql14 {d L : Nat} {xs : Nat → Int32} {x3 : Int32} {h h1 h2 : qH} {q : Option Value × qH} {fsC fsM : List Value} {r : Int32} (hx0 : 0 ≤ x3.toInt) (hx1 : x3.toInt + 6 ≤ L) (hL : L ≤ 3072) (hs : h.2.2 0 = some (.inl (8, L, .inl xs))) (hC : h.2.2 2 = some (.inr (11, fsC))) (c1 : qCall d 78 [.ref 2, .int (xs (x3 + 1).toNatClampNeg), .int (xs (x3 + 2).toNatClampNeg)] h (some (.int r), h1)) (hs1 : h1.2.2 0 = some (.inl (8, L, .inl xs))) (hM : h1.2.2 142 = some (.inr (12, fsM))) (c2 : qCall d 186 [.ref 142, .int (xs (x3 + 1).toNatClampNeg), .int (xs (x3 + 2).toNatClampNeg)] h1 (some (.int r), h2)) (hk : (xs x3.toNatClampNeg &&& 63).toInt = 14) (kk : qE d 0 18 [some (.ref 0), some (.ref 2), some (.ref 142), some (.int (x3 + 6))] [] h2 q) : qE d 0 27 [some (.ref 0), some (.ref 2), some (.ref 142), some (.int x3)] [] h q := by
  refine qe_aload_n c0_27 rfl ?_
  refine qe_iload_n c0_28 rfl ?_
  refine qe_script c0_29 hs ⟨hx0, by omega⟩ ?_
  refine qe_bipush (x := 63) c0_30 (by decide) ?_
  refine qe_iand c0_32 ?_
  refine qe_table (off := 690) (t := 723) c0_33 (by rw [hk]; decide) (by rw [hk]; decide) rfl ?_
  refine qe_aload_n c0_723 rfl ?_
  refine qe_aload_n c0_724 rfl ?_
  refine qe_iload_n c0_725 rfl ?_
  refine qe_iconst (x := 1) c0_726 (by decide) ?_
  refine qe_iadd c0_727 ?_
  refine qe_script c0_728 hs (qidx (c := 1) (by decide) (by decide) hx0 hx1 hL) ?_
  refine qe_aload_n c0_729 rfl ?_
  refine qe_iload_n c0_730 rfl ?_
  refine qe_iconst (x := 2) c0_731 (by decide) ?_
  refine qe_iadd c0_732 ?_
  refine qe_script c0_733 hs (qidx (c := 2) (by decide) (by decide) hx0 hx1 hL) ?_
  refine qe_virtual (b := 2) (as := [.int (xs (x3 + 1).toNatClampNeg), .int (xs (x3 + 2).toNatClampNeg)]) (r := []) (v := some (.int r)) (h2 := h1) c0_734 qo0 qK13_77 rfl rfl rfl (by rw [qo78]; exact hC) (Nat.le_of_ble_eq_true rfl) c1 ?_
  refine qe_aload_n c0_737 rfl ?_
  refine qe_aload_n c0_738 rfl ?_
  refine qe_iload_n c0_739 rfl ?_
  refine qe_iconst (x := 1) c0_740 (by decide) ?_
  refine qe_iadd c0_741 ?_
  refine qe_script c0_742 hs1 (qidx (c := 1) (by decide) (by decide) hx0 hx1 hL) ?_
  refine qe_aload_n c0_743 rfl ?_
  refine qe_iload_n c0_744 rfl ?_
  refine qe_iconst (x := 2) c0_745 (by decide) ?_
  refine qe_iadd c0_746 ?_
  refine qe_script c0_747 hs1 (qidx (c := 2) (by decide) (by decide) hx0 hx1 hL) ?_
  refine qe_virtual (b := 142) (as := [.int (xs (x3 + 1).toNatClampNeg), .int (xs (x3 + 2).toNatClampNeg)]) (r := [.int r]) (v := some (.int r)) (h2 := h2) c0_748 qo0 qK13_81 rfl rfl rfl (by rw [qo186]; exact hM) (Nat.le_of_ble_eq_true rfl) c2 ?_
  refine qe_icmp_eq_T (t := 1463) c0_751 rfl rfl ?_
  refine qe_iinc (y := x3 + 6) (ls2 := [some (.ref 0), some (.ref 2), some (.ref 142), some (.int (x3 + 6))]) c0_1463 rfl (Nat.le_of_ble_eq_true rfl) rfl rfl ?_
  refine qe_goto (t := 18) c0_1466 rfl ?_
  exact kk
theorem ql15 {d L : Nat} {xs : Nat → Int32} {x3 : Int32} {h h1 h2 : qH} {q : Option Value × qH} {fsC fsM : List Value} {r : Int32} (hx0 : 0 ≤ x3.toInt) (hx1 : x3.toInt + 6 ≤ L) (hL : L ≤ 3072) (hs : h.2.2 0 = some (.inl (8, L, .inl xs))) (hC : h.2.2 2 = some (.inr (11, fsC))) (c1 : qCall d 82 [.ref 2, .int (xs (x3 + 1).toNatClampNeg), .int (xs (x3 + 2).toNatClampNeg)] h (some (.int r), h1)) (hs1 : h1.2.2 0 = some (.inl (8, L, .inl xs))) (hM : h1.2.2 142 = some (.inr (12, fsM))) (c2 : qCall d 189 [.ref 142, .int (xs (x3 + 1).toNatClampNeg), .int (xs (x3 + 2).toNatClampNeg)] h1 (some (.int r), h2)) (hk : (xs x3.toNatClampNeg &&& 63).toInt = 15) (kk : qE d 0 18 [some (.ref 0), some (.ref 2), some (.ref 142), some (.int (x3 + 6))] [] h2 q) : qE d 0 27 [some (.ref 0), some (.ref 2), some (.ref 142), some (.int x3)] [] h q := by
  refine qe_aload_n c0_27 rfl ?_
  refine qe_iload_n c0_28 rfl ?_
  refine qe_script c0_29 hs ⟨hx0, by omega⟩ ?_
  refine qe_bipush (x := 63) c0_30 (by decide) ?_
  refine qe_iand c0_32 ?_
  refine qe_table (off := 723) (t := 756) c0_33 (by rw [hk]; decide) (by rw [hk]; decide) rfl ?_
  refine qe_aload_n c0_756 rfl ?_
  refine qe_aload_n c0_757 rfl ?_
  refine qe_iload_n c0_758 rfl ?_
  refine qe_iconst (x := 1) c0_759 (by decide) ?_
  refine qe_iadd c0_760 ?_
  refine qe_script c0_761 hs (qidx (c := 1) (by decide) (by decide) hx0 hx1 hL) ?_
  refine qe_aload_n c0_762 rfl ?_
  refine qe_iload_n c0_763 rfl ?_
  refine qe_iconst (x := 2) c0_764 (by decide) ?_
  refine qe_iadd c0_765 ?_
  refine qe_script c0_766 hs (qidx (c := 2) (by decide) (by decide) hx0 hx1 hL) ?_
  refine qe_virtual (b := 2) (as := [.int (xs (x3 + 1).toNatClampNeg), .int (xs (x3 + 2).toNatClampNeg)]) (r := []) (v := some (.int r)) (h2 := h1) c0_767 qo0 qK13_82 rfl rfl rfl (by rw [qo82]; exact hC) (Nat.le_of_ble_eq_true rfl) c1 ?_
  refine qe_aload_n c0_770 rfl ?_
  refine qe_aload_n c0_771 rfl ?_
  refine qe_iload_n c0_772 rfl ?_
  refine qe_iconst (x := 1) c0_773 (by decide) ?_
  refine qe_iadd c0_774 ?_
  refine qe_script c0_775 hs1 (qidx (c := 1) (by decide) (by decide) hx0 hx1 hL) ?_
  refine qe_aload_n c0_776 rfl ?_
  refine qe_iload_n c0_777 rfl ?_
  refine qe_iconst (x := 2) c0_778 (by decide) ?_
  refine qe_iadd c0_779 ?_
  refine qe_script c0_780 hs1 (qidx (c := 2) (by decide) (by decide) hx0 hx1 hL) ?_
  refine qe_virtual (b := 142) (as := [.int (xs (x3 + 1).toNatClampNeg), .int (xs (x3 + 2).toNatClampNeg)]) (r := [.int r]) (v := some (.int r)) (h2 := h2) c0_781 qo0 qK13_85 rfl rfl rfl (by rw [qo189]; exact hM) (Nat.le_of_ble_eq_true rfl) c2 ?_
  refine qe_icmp_eq_T (t := 1463) c0_784 rfl rfl ?_
  refine qe_iinc (y := x3 + 6) (ls2 := [some (.ref 0), some (.ref 2), some (.ref 142), some (.int (x3 + 6))]) c0_1463 rfl (Nat.le_of_ble_eq_true rfl) rfl rfl ?_
  refine qe_goto (t := 18) c0_1466 rfl ?_
  exact kk
theorem ql16 {d L : Nat} {xs : Nat → Int32} {x3 : Int32} {h h1 h2 : qH} {q : Option Value × qH} {fsC fsM : List Value} {r : Int32} (hx0 : 0 ≤ x3.toInt) (hx1 : x3.toInt + 6 ≤ L) (hL : L ≤ 3072) (hs : h.2.2 0 = some (.inl (8, L, .inl xs))) (hC : h.2.2 2 = some (.inr (11, fsC))) (c1 : qCall d 72 [.ref 2, .int (xs (x3 + 1).toNatClampNeg), .int (xs (x3 + 2).toNatClampNeg)] h (some (.int r), h1)) (hs1 : h1.2.2 0 = some (.inl (8, L, .inl xs))) (hM : h1.2.2 142 = some (.inr (12, fsM))) (c2 : qCall d 172 [.ref 142, .int (xs (x3 + 1).toNatClampNeg), .int (xs (x3 + 2).toNatClampNeg)] h1 (some (.int r), h2)) (hk : (xs x3.toNatClampNeg &&& 63).toInt = 16) (kk : qE d 0 18 [some (.ref 0), some (.ref 2), some (.ref 142), some (.int (x3 + 6))] [] h2 q) : qE d 0 27 [some (.ref 0), some (.ref 2), some (.ref 142), some (.int x3)] [] h q := by
  refine qe_aload_n c0_27 rfl ?_
  refine qe_iload_n c0_28 rfl ?_
  refine qe_script c0_29 hs ⟨hx0, by omega⟩ ?_
  refine qe_bipush (x := 63) c0_30 (by decide) ?_
  refine qe_iand c0_32 ?_
  refine qe_table (off := 756) (t := 789) c0_33 (by rw [hk]; decide) (by rw [hk]; decide) rfl ?_
  refine qe_aload_n c0_789 rfl ?_
  refine qe_aload_n c0_790 rfl ?_
  refine qe_iload_n c0_791 rfl ?_
  refine qe_iconst (x := 1) c0_792 (by decide) ?_
  refine qe_iadd c0_793 ?_
  refine qe_script c0_794 hs (qidx (c := 1) (by decide) (by decide) hx0 hx1 hL) ?_
  refine qe_aload_n c0_795 rfl ?_
  refine qe_iload_n c0_796 rfl ?_
  refine qe_iconst (x := 2) c0_797 (by decide) ?_
  refine qe_iadd c0_798 ?_
  refine qe_script c0_799 hs (qidx (c := 2) (by decide) (by decide) hx0 hx1 hL) ?_
  refine qe_virtual (b := 2) (as := [.int (xs (x3 + 1).toNatClampNeg), .int (xs (x3 + 2).toNatClampNeg)]) (r := []) (v := some (.int r)) (h2 := h1) c0_800 qo0 qK13_86 rfl rfl rfl (by rw [qo72]; exact hC) (Nat.le_of_ble_eq_true rfl) c1 ?_
  refine qe_aload_n c0_803 rfl ?_
  refine qe_aload_n c0_804 rfl ?_
  refine qe_iload_n c0_805 rfl ?_
  refine qe_iconst (x := 1) c0_806 (by decide) ?_
  refine qe_iadd c0_807 ?_
  refine qe_script c0_808 hs1 (qidx (c := 1) (by decide) (by decide) hx0 hx1 hL) ?_
  refine qe_aload_n c0_809 rfl ?_
  refine qe_iload_n c0_810 rfl ?_
  refine qe_iconst (x := 2) c0_811 (by decide) ?_
  refine qe_iadd c0_812 ?_
  refine qe_script c0_813 hs1 (qidx (c := 2) (by decide) (by decide) hx0 hx1 hL) ?_
  refine qe_virtual (b := 142) (as := [.int (xs (x3 + 1).toNatClampNeg), .int (xs (x3 + 2).toNatClampNeg)]) (r := [.int r]) (v := some (.int r)) (h2 := h2) c0_814 qo0 qK13_89 rfl rfl rfl (by rw [qo172]; exact hM) (Nat.le_of_ble_eq_true rfl) c2 ?_
  refine qe_icmp_eq_T (t := 1463) c0_817 rfl rfl ?_
  refine qe_iinc (y := x3 + 6) (ls2 := [some (.ref 0), some (.ref 2), some (.ref 142), some (.int (x3 + 6))]) c0_1463 rfl (Nat.le_of_ble_eq_true rfl) rfl rfl ?_
  refine qe_goto (t := 18) c0_1466 rfl ?_
  exact kk
theorem ql17 {d L : Nat} {xs : Nat → Int32} {x3 : Int32} {h h1 h2 : qH} {q : Option Value × qH} {fsC fsM : List Value} {r : Int32} (hx0 : 0 ≤ x3.toInt) (hx1 : x3.toInt + 6 ≤ L) (hL : L ≤ 3072) (hs : h.2.2 0 = some (.inl (8, L, .inl xs))) (hC : h.2.2 2 = some (.inr (11, fsC))) (c1 : qCall d 45 [.ref 2, .int (xs (x3 + 1).toNatClampNeg), .int (xs (x3 + 2).toNatClampNeg)] h (some (.int r), h1)) (hs1 : h1.2.2 0 = some (.inl (8, L, .inl xs))) (hM : h1.2.2 142 = some (.inr (12, fsM))) (c2 : qCall d 105 [.ref 142, .int (xs (x3 + 1).toNatClampNeg), .int (xs (x3 + 2).toNatClampNeg)] h1 (some (.int r), h2)) (hk : (xs x3.toNatClampNeg &&& 63).toInt = 17) (kk : qE d 0 18 [some (.ref 0), some (.ref 2), some (.ref 142), some (.int (x3 + 6))] [] h2 q) : qE d 0 27 [some (.ref 0), some (.ref 2), some (.ref 142), some (.int x3)] [] h q := by
  refine qe_aload_n c0_27 rfl ?_
  refine qe_iload_n c0_28 rfl ?_
  refine qe_script c0_29 hs ⟨hx0, by omega⟩ ?_
  refine qe_bipush (x := 63) c0_30 (by decide) ?_
  refine qe_iand c0_32 ?_
  refine qe_table (off := 789) (t := 822) c0_33 (by rw [hk]; decide) (by rw [hk]; decide) rfl ?_
  refine qe_aload_n c0_822 rfl ?_
  refine qe_aload_n c0_823 rfl ?_
  refine qe_iload_n c0_824 rfl ?_
  refine qe_iconst (x := 1) c0_825 (by decide) ?_
  refine qe_iadd c0_826 ?_
  refine qe_script c0_827 hs (qidx (c := 1) (by decide) (by decide) hx0 hx1 hL) ?_
  refine qe_aload_n c0_828 rfl ?_
  refine qe_iload_n c0_829 rfl ?_
  refine qe_iconst (x := 2) c0_830 (by decide) ?_
  refine qe_iadd c0_831 ?_
  refine qe_script c0_832 hs (qidx (c := 2) (by decide) (by decide) hx0 hx1 hL) ?_
  refine qe_virtual (b := 2) (as := [.int (xs (x3 + 1).toNatClampNeg), .int (xs (x3 + 2).toNatClampNeg)]) (r := []) (v := some (.int r)) (h2 := h1) c0_833 qo0 qK13_90 rfl rfl rfl (by rw [qo45]; exact hC) (Nat.le_of_ble_eq_true rfl) c1 ?_
  refine qe_aload_n c0_836 rfl ?_
  refine qe_aload_n c0_837 rfl ?_
  refine qe_iload_n c0_838 rfl ?_
  refine qe_iconst (x := 1) c0_839 (by decide) ?_
  refine qe_iadd c0_840 ?_
  refine qe_script c0_841 hs1 (qidx (c := 1) (by decide) (by decide) hx0 hx1 hL) ?_
  refine qe_aload_n c0_842 rfl ?_
  refine qe_iload_n c0_843 rfl ?_
  refine qe_iconst (x := 2) c0_844 (by decide) ?_
  refine qe_iadd c0_845 ?_
  refine qe_script c0_846 hs1 (qidx (c := 2) (by decide) (by decide) hx0 hx1 hL) ?_
  refine qe_virtual (b := 142) (as := [.int (xs (x3 + 1).toNatClampNeg), .int (xs (x3 + 2).toNatClampNeg)]) (r := [.int r]) (v := some (.int r)) (h2 := h2) c0_847 qo0 qK13_93 rfl rfl rfl (by rw [qo105]; exact hM) (Nat.le_of_ble_eq_true rfl) c2 ?_
  refine qe_icmp_eq_T (t := 1463) c0_850 rfl rfl ?_
  refine qe_iinc (y := x3 + 6) (ls2 := [some (.ref 0), some (.ref 2), some (.ref 142), some (.int (x3 + 6))]) c0_1463 rfl (Nat.le_of_ble_eq_true rfl) rfl rfl ?_
  refine qe_goto (t := 18) c0_1466 rfl ?_
  exact kk
theorem ql18 {d L : Nat} {xs : Nat → Int32} {x3 : Int32} {h h1 h2 : qH} {q : Option Value × qH} {fsC fsM : List Value} {r : Int32} (hx0 : 0 ≤ x3.toInt) (hx1 : x3.toInt + 6 ≤ L) (hL : L ≤ 3072) (hs : h.2.2 0 = some (.inl (8, L, .inl xs))) (hC : h.2.2 2 = some (.inr (11, fsC))) (c1 : qCall d 31 [.ref 2, .int (xs (x3 + 1).toNatClampNeg)] h (some (.int r), h1)) (hs1 : h1.2.2 0 = some (.inl (8, L, .inl xs))) (hM : h1.2.2 142 = some (.inr (12, fsM))) (c2 : qCall d 84 [.ref 142, .int (xs (x3 + 1).toNatClampNeg)] h1 (some (.int r), h2)) (hk : (xs x3.toNatClampNeg &&& 63).toInt = 18) (kk : qE d 0 18 [some (.ref 0), some (.ref 2), some (.ref 142), some (.int (x3 + 6))] [] h2 q) : qE d 0 27 [some (.ref 0), some (.ref 2), some (.ref 142), some (.int x3)] [] h q := by
  refine qe_aload_n c0_27 rfl ?_
  refine qe_iload_n c0_28 rfl ?_
  refine qe_script c0_29 hs ⟨hx0, by omega⟩ ?_
  refine qe_bipush (x := 63) c0_30 (by decide) ?_
  refine qe_iand c0_32 ?_
  refine qe_table (off := 822) (t := 855) c0_33 (by rw [hk]; decide) (by rw [hk]; decide) rfl ?_
  refine qe_aload_n c0_855 rfl ?_
  refine qe_aload_n c0_856 rfl ?_
  refine qe_iload_n c0_857 rfl ?_
  refine qe_iconst (x := 1) c0_858 (by decide) ?_
  refine qe_iadd c0_859 ?_
  refine qe_script c0_860 hs (qidx (c := 1) (by decide) (by decide) hx0 hx1 hL) ?_
  refine qe_virtual (b := 2) (as := [.int (xs (x3 + 1).toNatClampNeg)]) (r := []) (v := some (.int r)) (h2 := h1) c0_861 qo0 qK13_94 rfl rfl rfl (by rw [qo31]; exact hC) (Nat.le_of_ble_eq_true rfl) c1 ?_
  refine qe_aload_n c0_864 rfl ?_
  refine qe_aload_n c0_865 rfl ?_
  refine qe_iload_n c0_866 rfl ?_
  refine qe_iconst (x := 1) c0_867 (by decide) ?_
  refine qe_iadd c0_868 ?_
  refine qe_script c0_869 hs1 (qidx (c := 1) (by decide) (by decide) hx0 hx1 hL) ?_
  refine qe_virtual (b := 142) (as := [.int (xs (x3 + 1).toNatClampNeg)]) (r := [.int r]) (v := some (.int r)) (h2 := h2) c0_870 qo0 qK13_97 rfl rfl rfl (by rw [qo84]; exact hM) (Nat.le_of_ble_eq_true rfl) c2 ?_
  refine qe_icmp_eq_T (t := 1463) c0_873 rfl rfl ?_
  refine qe_iinc (y := x3 + 6) (ls2 := [some (.ref 0), some (.ref 2), some (.ref 142), some (.int (x3 + 6))]) c0_1463 rfl (Nat.le_of_ble_eq_true rfl) rfl rfl ?_
  refine qe_goto (t := 18) c0_1466 rfl ?_
  exact kk
theorem ql19 {d L : Nat} {xs : Nat → Int32} {x3 : Int32} {h h1 h2 : qH} {q : Option Value × qH} {fsC fsM : List Value} {r : Int32} (hx0 : 0 ≤ x3.toInt) (hx1 : x3.toInt + 6 ≤ L) (hL : L ≤ 3072) (hs : h.2.2 0 = some (.inl (8, L, .inl xs))) (hC : h.2.2 2 = some (.inr (11, fsC))) (c1 : qCall d 48 [.ref 2] h (some (.int r), h1)) (hs1 : h1.2.2 0 = some (.inl (8, L, .inl xs))) (hM : h1.2.2 142 = some (.inr (12, fsM))) (c2 : qCall d 108 [.ref 142] h1 (some (.int r), h2)) (hk : (xs x3.toNatClampNeg &&& 63).toInt = 19) (kk : qE d 0 18 [some (.ref 0), some (.ref 2), some (.ref 142), some (.int (x3 + 6))] [] h2 q) : qE d 0 27 [some (.ref 0), some (.ref 2), some (.ref 142), some (.int x3)] [] h q := by
  refine qe_aload_n c0_27 rfl ?_
  refine qe_iload_n c0_28 rfl ?_
  refine qe_script c0_29 hs ⟨hx0, by omega⟩ ?_
  refine qe_bipush (x := 63) c0_30 (by decide) ?_
  refine qe_iand c0_32 ?_
  refine qe_table (off := 845) (t := 878) c0_33 (by rw [hk]; decide) (by rw [hk]; decide) rfl ?_
  refine qe_aload_n c0_878 rfl ?_
  refine qe_virtual (b := 2) (as := []) (r := []) (v := some (.int r)) (h2 := h1) c0_879 qo0 qK13_98 rfl rfl rfl (by rw [qo48]; exact hC) (Nat.le_of_ble_eq_true rfl) c1 ?_
  refine qe_aload_n c0_882 rfl ?_
  refine qe_virtual (b := 142) (as := []) (r := [.int r]) (v := some (.int r)) (h2 := h2) c0_883 qo0 qK13_101 rfl rfl rfl (by rw [qo108]; exact hM) (Nat.le_of_ble_eq_true rfl) c2 ?_
  refine qe_icmp_eq_T (t := 1463) c0_886 rfl rfl ?_
  refine qe_iinc (y := x3 + 6) (ls2 := [some (.ref 0), some (.ref 2), some (.ref 142), some (.int (x3 + 6))]) c0_1463 rfl (Nat.le_of_ble_eq_true rfl) rfl rfl ?_
  refine qe_goto (t := 18) c0_1466 rfl ?_
  exact kk
theorem ql20 {d L : Nat} {xs : Nat → Int32} {x3 : Int32} {h h1 h2 : qH} {q : Option Value × qH} {fsC fsM : List Value} {r : Int32} (hx0 : 0 ≤ x3.toInt) (hx1 : x3.toInt + 6 ≤ L) (hL : L ≤ 3072) (hs : h.2.2 0 = some (.inl (8, L, .inl xs))) (hC : h.2.2 2 = some (.inr (11, fsC))) (c1 : qCall d 74 [.ref 2, .int (xs (x3 + 1).toNatClampNeg), .int (qb (xs (x3 + 2).toNatClampNeg))] h (some (.int r), h1)) (hs1 : h1.2.2 0 = some (.inl (8, L, .inl xs))) (hM : h1.2.2 142 = some (.inr (12, fsM))) (c2 : qCall d 176 [.ref 142, .int (xs (x3 + 1).toNatClampNeg), .int (qb (xs (x3 + 2).toNatClampNeg))] h1 (some (.int r), h2)) (hk : (xs x3.toNatClampNeg &&& 63).toInt = 20) (kk : qE d 0 18 [some (.ref 0), some (.ref 2), some (.ref 142), some (.int (x3 + 6))] [] h2 q) : qE d 0 27 [some (.ref 0), some (.ref 2), some (.ref 142), some (.int x3)] [] h q := by
  refine qe_aload_n c0_27 rfl ?_
  refine qe_iload_n c0_28 rfl ?_
  refine qe_script c0_29 hs ⟨hx0, by omega⟩ ?_
  refine qe_bipush (x := 63) c0_30 (by decide) ?_
  refine qe_iand c0_32 ?_
  refine qe_table (off := 858) (t := 891) c0_33 (by rw [hk]; decide) (by rw [hk]; decide) rfl ?_
  refine qe_aload_n c0_891 rfl ?_
  refine qe_aload_n c0_892 rfl ?_
  refine qe_iload_n c0_893 rfl ?_
  refine qe_iconst (x := 1) c0_894 (by decide) ?_
  refine qe_iadd c0_895 ?_
  refine qe_script c0_896 hs (qidx (c := 1) (by decide) (by decide) hx0 hx1 hL) ?_
  refine qe_aload_n c0_897 rfl ?_
  refine qe_iload_n c0_898 rfl ?_
  refine qe_iconst (x := 2) c0_899 (by decide) ?_
  refine qe_iadd c0_900 ?_
  refine qe_script c0_901 hs (qidx (c := 2) (by decide) (by decide) hx0 hx1 hL) ?_
  by_cases z0 : (xs (x3 + 2).toNatClampNeg) = 0
  · have w0 : qb (xs (x3 + 2).toNatClampNeg) = 0 := if_pos z0
    rw [w0] at c1 c2
    refine qe_if_eq_T (t := 909) c0_902 rfl z0 ?_
    refine qe_iconst (x := 0) c0_909 (by decide) ?_
    refine qe_virtual (b := 2) (as := [.int (xs (x3 + 1).toNatClampNeg), .int 0]) (r := []) (v := some (.int r)) (h2 := h1) c0_910 qo0 qK13_102 rfl rfl rfl (by rw [qo74]; exact hC) (Nat.le_of_ble_eq_true rfl) c1 ?_
    refine qe_aload_n c0_913 rfl ?_
    refine qe_aload_n c0_914 rfl ?_
    refine qe_iload_n c0_915 rfl ?_
    refine qe_iconst (x := 1) c0_916 (by decide) ?_
    refine qe_iadd c0_917 ?_
    refine qe_script c0_918 hs1 (qidx (c := 1) (by decide) (by decide) hx0 hx1 hL) ?_
    refine qe_aload_n c0_919 rfl ?_
    refine qe_iload_n c0_920 rfl ?_
    refine qe_iconst (x := 2) c0_921 (by decide) ?_
    refine qe_iadd c0_922 ?_
    refine qe_script c0_923 hs1 (qidx (c := 2) (by decide) (by decide) hx0 hx1 hL) ?_
    refine qe_if_eq_T (t := 931) c0_924 rfl z0 ?_
    refine qe_iconst (x := 0) c0_931 (by decide) ?_
    refine qe_virtual (b := 142) (as := [.int (xs (x3 + 1).toNatClampNeg), .int 0]) (r := [.int r]) (v := some (.int r)) (h2 := h2) c0_932 qo0 qK13_105 rfl rfl rfl (by rw [qo176]; exact hM) (Nat.le_of_ble_eq_true rfl) c2 ?_
    refine qe_icmp_eq_T (t := 1463) c0_935 rfl rfl ?_
    refine qe_iinc (y := x3 + 6) (ls2 := [some (.ref 0), some (.ref 2), some (.ref 142), some (.int (x3 + 6))]) c0_1463 rfl (Nat.le_of_ble_eq_true rfl) rfl rfl ?_
    refine qe_goto (t := 18) c0_1466 rfl ?_
    exact kk
  · have w0 : qb (xs (x3 + 2).toNatClampNeg) = 1 := if_neg z0
    rw [w0] at c1 c2
    refine qe_if_eq_F (t := 909) c0_902 rfl z0 ?_
    refine qe_iconst (x := 1) c0_905 (by decide) ?_
    refine qe_goto (t := 910) c0_906 rfl ?_
    refine qe_virtual (b := 2) (as := [.int (xs (x3 + 1).toNatClampNeg), .int 1]) (r := []) (v := some (.int r)) (h2 := h1) c0_910 qo0 qK13_102 rfl rfl rfl (by rw [qo74]; exact hC) (Nat.le_of_ble_eq_true rfl) c1 ?_
    refine qe_aload_n c0_913 rfl ?_
    refine qe_aload_n c0_914 rfl ?_
    refine qe_iload_n c0_915 rfl ?_
    refine qe_iconst (x := 1) c0_916 (by decide) ?_
    refine qe_iadd c0_917 ?_
    refine qe_script c0_918 hs1 (qidx (c := 1) (by decide) (by decide) hx0 hx1 hL) ?_
    refine qe_aload_n c0_919 rfl ?_
    refine qe_iload_n c0_920 rfl ?_
    refine qe_iconst (x := 2) c0_921 (by decide) ?_
    refine qe_iadd c0_922 ?_
    refine qe_script c0_923 hs1 (qidx (c := 2) (by decide) (by decide) hx0 hx1 hL) ?_
    refine qe_if_eq_F (t := 931) c0_924 rfl z0 ?_
    refine qe_iconst (x := 1) c0_927 (by decide) ?_
    refine qe_goto (t := 932) c0_928 rfl ?_
    refine qe_virtual (b := 142) (as := [.int (xs (x3 + 1).toNatClampNeg), .int 1]) (r := [.int r]) (v := some (.int r)) (h2 := h2) c0_932 qo0 qK13_105 rfl rfl rfl (by rw [qo176]; exact hM) (Nat.le_of_ble_eq_true rfl) c2 ?_
    refine qe_icmp_eq_T (t := 1463) c0_935 rfl rfl ?_
    refine qe_iinc (y := x3 + 6) (ls2 := [some (.ref 0), some (.ref 2), some (.ref 142), some (.int (x3 + 6))]) c0_1463 rfl (Nat.le_of_ble_eq_true rfl) rfl rfl ?_
    refine qe_goto (t := 18) c0_1466 rfl ?_
    exact kk
theorem ql21 {d L : Nat} {xs : Nat → Int32} {x3 : Int32} {h h1 h2 : qH} {q : Option Value × qH} {fsC fsM : List Value} {r : Int64} (hx0 : 0 ≤ x3.toInt) (hx1 : x3.toInt + 6 ≤ L) (hL : L ≤ 3072) (hs : h.2.2 0 = some (.inl (8, L, .inl xs))) (hC : h.2.2 2 = some (.inr (11, fsC))) (c1 : qCall d 69 [.ref 2, .int (xs (x3 + 1).toNatClampNeg), .int (xs (x3 + 2).toNatClampNeg), .int (xs (x3 + 3).toNatClampNeg)] h (some (.long r), h1)) (hs1 : h1.2.2 0 = some (.inl (8, L, .inl xs))) (hM : h1.2.2 142 = some (.inr (12, fsM))) (c2 : qCall d 166 [.ref 142, .int (xs (x3 + 1).toNatClampNeg), .int (xs (x3 + 2).toNatClampNeg), .int (xs (x3 + 3).toNatClampNeg)] h1 (some (.long r), h2)) (hk : (xs x3.toNatClampNeg &&& 63).toInt = 21) (kk : qE d 0 18 [some (.ref 0), some (.ref 2), some (.ref 142), some (.int (x3 + 6))] [] h2 q) : qE d 0 27 [some (.ref 0), some (.ref 2), some (.ref 142), some (.int x3)] [] h q := by
  refine qe_aload_n c0_27 rfl ?_
  refine qe_iload_n c0_28 rfl ?_
  refine qe_script c0_29 hs ⟨hx0, by omega⟩ ?_
  refine qe_bipush (x := 63) c0_30 (by decide) ?_
  refine qe_iand c0_32 ?_
  refine qe_table (off := 907) (t := 940) c0_33 (by rw [hk]; decide) (by rw [hk]; decide) rfl ?_
  refine qe_aload_n c0_940 rfl ?_
  refine qe_aload_n c0_941 rfl ?_
  refine qe_iload_n c0_942 rfl ?_
  refine qe_iconst (x := 1) c0_943 (by decide) ?_
  refine qe_iadd c0_944 ?_
  refine qe_script c0_945 hs (qidx (c := 1) (by decide) (by decide) hx0 hx1 hL) ?_
  refine qe_aload_n c0_946 rfl ?_
  refine qe_iload_n c0_947 rfl ?_
  refine qe_iconst (x := 2) c0_948 (by decide) ?_
  refine qe_iadd c0_949 ?_
  refine qe_script c0_950 hs (qidx (c := 2) (by decide) (by decide) hx0 hx1 hL) ?_
  refine qe_aload_n c0_951 rfl ?_
  refine qe_iload_n c0_952 rfl ?_
  refine qe_iconst (x := 3) c0_953 (by decide) ?_
  refine qe_iadd c0_954 ?_
  refine qe_script c0_955 hs (qidx (c := 3) (by decide) (by decide) hx0 hx1 hL) ?_
  refine qe_virtual (b := 2) (as := [.int (xs (x3 + 1).toNatClampNeg), .int (xs (x3 + 2).toNatClampNeg), .int (xs (x3 + 3).toNatClampNeg)]) (r := []) (v := some (.long r)) (h2 := h1) c0_956 qo0 qK13_106 rfl rfl rfl (by rw [qo69]; exact hC) (Nat.le_of_ble_eq_true rfl) c1 ?_
  refine qe_aload_n c0_959 rfl ?_
  refine qe_aload_n c0_960 rfl ?_
  refine qe_iload_n c0_961 rfl ?_
  refine qe_iconst (x := 1) c0_962 (by decide) ?_
  refine qe_iadd c0_963 ?_
  refine qe_script c0_964 hs1 (qidx (c := 1) (by decide) (by decide) hx0 hx1 hL) ?_
  refine qe_aload_n c0_965 rfl ?_
  refine qe_iload_n c0_966 rfl ?_
  refine qe_iconst (x := 2) c0_967 (by decide) ?_
  refine qe_iadd c0_968 ?_
  refine qe_script c0_969 hs1 (qidx (c := 2) (by decide) (by decide) hx0 hx1 hL) ?_
  refine qe_aload_n c0_970 rfl ?_
  refine qe_iload_n c0_971 rfl ?_
  refine qe_iconst (x := 3) c0_972 (by decide) ?_
  refine qe_iadd c0_973 ?_
  refine qe_script c0_974 hs1 (qidx (c := 3) (by decide) (by decide) hx0 hx1 hL) ?_
  refine qe_virtual (b := 142) (as := [.int (xs (x3 + 1).toNatClampNeg), .int (xs (x3 + 2).toNatClampNeg), .int (xs (x3 + 3).toNatClampNeg)]) (r := [.long r]) (v := some (.long r)) (h2 := h2) c0_975 qo0 qK13_110 rfl rfl rfl (by rw [qo166]; exact hM) (Nat.le_of_ble_eq_true rfl) c2 ?_
  refine qe_lcmp c0_978 ?_
  refine qe_if_eq_T (t := 1463) c0_979 rfl ((lg_cmp_eq r r).mpr rfl) ?_
  refine qe_iinc (y := x3 + 6) (ls2 := [some (.ref 0), some (.ref 2), some (.ref 142), some (.int (x3 + 6))]) c0_1463 rfl (Nat.le_of_ble_eq_true rfl) rfl rfl ?_
  refine qe_goto (t := 18) c0_1466 rfl ?_
  exact kk
theorem ql22 {d L : Nat} {xs : Nat → Int32} {x3 : Int32} {h h1 h2 : qH} {q : Option Value × qH} {fsC fsM : List Value} {r : Int32} (hx0 : 0 ≤ x3.toInt) (hx1 : x3.toInt + 6 ≤ L) (hL : L ≤ 3072) (hs : h.2.2 0 = some (.inl (8, L, .inl xs))) (hC : h.2.2 2 = some (.inr (11, fsC))) (c1 : qCall d 70 [.ref 2, .int (xs (x3 + 1).toNatClampNeg)] h (some (.int r), h1)) (hs1 : h1.2.2 0 = some (.inl (8, L, .inl xs))) (hM : h1.2.2 142 = some (.inr (12, fsM))) (c2 : qCall d 168 [.ref 142, .int (xs (x3 + 1).toNatClampNeg)] h1 (some (.int r), h2)) (hk : (xs x3.toNatClampNeg &&& 63).toInt = 22) (kk : qE d 0 18 [some (.ref 0), some (.ref 2), some (.ref 142), some (.int (x3 + 6))] [] h2 q) : qE d 0 27 [some (.ref 0), some (.ref 2), some (.ref 142), some (.int x3)] [] h q := by
  refine qe_aload_n c0_27 rfl ?_
  refine qe_iload_n c0_28 rfl ?_
  refine qe_script c0_29 hs ⟨hx0, by omega⟩ ?_
  refine qe_bipush (x := 63) c0_30 (by decide) ?_
  refine qe_iand c0_32 ?_
  refine qe_table (off := 951) (t := 984) c0_33 (by rw [hk]; decide) (by rw [hk]; decide) rfl ?_
  refine qe_aload_n c0_984 rfl ?_
  refine qe_aload_n c0_985 rfl ?_
  refine qe_iload_n c0_986 rfl ?_
  refine qe_iconst (x := 1) c0_987 (by decide) ?_
  refine qe_iadd c0_988 ?_
  refine qe_script c0_989 hs (qidx (c := 1) (by decide) (by decide) hx0 hx1 hL) ?_
  refine qe_virtual (b := 2) (as := [.int (xs (x3 + 1).toNatClampNeg)]) (r := []) (v := some (.int r)) (h2 := h1) c0_990 qo0 qK13_111 rfl rfl rfl (by rw [qo70]; exact hC) (Nat.le_of_ble_eq_true rfl) c1 ?_
  refine qe_aload_n c0_993 rfl ?_
  refine qe_aload_n c0_994 rfl ?_
  refine qe_iload_n c0_995 rfl ?_
  refine qe_iconst (x := 1) c0_996 (by decide) ?_
  refine qe_iadd c0_997 ?_
  refine qe_script c0_998 hs1 (qidx (c := 1) (by decide) (by decide) hx0 hx1 hL) ?_
  refine qe_virtual (b := 142) (as := [.int (xs (x3 + 1).toNatClampNeg)]) (r := [.int r]) (v := some (.int r)) (h2 := h2) c0_999 qo0 qK13_114 rfl rfl rfl (by rw [qo168]; exact hM) (Nat.le_of_ble_eq_true rfl) c2 ?_
  refine qe_icmp_eq_T (t := 1463) c0_1002 rfl rfl ?_
  refine qe_iinc (y := x3 + 6) (ls2 := [some (.ref 0), some (.ref 2), some (.ref 142), some (.int (x3 + 6))]) c0_1463 rfl (Nat.le_of_ble_eq_true rfl) rfl rfl ?_
  refine qe_goto (t := 18) c0_1466 rfl ?_
  exact kk
theorem ql23 {d L : Nat} {xs : Nat → Int32} {x3 : Int32} {h h1 h2 : qH} {q : Option Value × qH} {fsC fsM : List Value} {r : Int32} (hx0 : 0 ≤ x3.toInt) (hx1 : x3.toInt + 6 ≤ L) (hL : L ≤ 3072) (hs : h.2.2 0 = some (.inl (8, L, .inl xs))) (hC : h.2.2 2 = some (.inr (11, fsC))) (c1 : qCall d 53 [.ref 2, .int (xs (x3 + 1).toNatClampNeg), .int (xs (x3 + 2).toNatClampNeg), .int (xs (x3 + 3).toNatClampNeg)] h (some (.int r), h1)) (hs1 : h1.2.2 0 = some (.inl (8, L, .inl xs))) (hM : h1.2.2 142 = some (.inr (12, fsM))) (c2 : qCall d 119 [.ref 142, .int (xs (x3 + 1).toNatClampNeg), .int (xs (x3 + 2).toNatClampNeg), .int (xs (x3 + 3).toNatClampNeg)] h1 (some (.int r), h2)) (hk : (xs x3.toNatClampNeg &&& 63).toInt = 23) (kk : qE d 0 18 [some (.ref 0), some (.ref 2), some (.ref 142), some (.int (x3 + 6))] [] h2 q) : qE d 0 27 [some (.ref 0), some (.ref 2), some (.ref 142), some (.int x3)] [] h q := by
  refine qe_aload_n c0_27 rfl ?_
  refine qe_iload_n c0_28 rfl ?_
  refine qe_script c0_29 hs ⟨hx0, by omega⟩ ?_
  refine qe_bipush (x := 63) c0_30 (by decide) ?_
  refine qe_iand c0_32 ?_
  refine qe_table (off := 974) (t := 1007) c0_33 (by rw [hk]; decide) (by rw [hk]; decide) rfl ?_
  refine qe_aload_n c0_1007 rfl ?_
  refine qe_aload_n c0_1008 rfl ?_
  refine qe_iload_n c0_1009 rfl ?_
  refine qe_iconst (x := 1) c0_1010 (by decide) ?_
  refine qe_iadd c0_1011 ?_
  refine qe_script c0_1012 hs (qidx (c := 1) (by decide) (by decide) hx0 hx1 hL) ?_
  refine qe_aload_n c0_1013 rfl ?_
  refine qe_iload_n c0_1014 rfl ?_
  refine qe_iconst (x := 2) c0_1015 (by decide) ?_
  refine qe_iadd c0_1016 ?_
  refine qe_script c0_1017 hs (qidx (c := 2) (by decide) (by decide) hx0 hx1 hL) ?_
  refine qe_aload_n c0_1018 rfl ?_
  refine qe_iload_n c0_1019 rfl ?_
  refine qe_iconst (x := 3) c0_1020 (by decide) ?_
  refine qe_iadd c0_1021 ?_
  refine qe_script c0_1022 hs (qidx (c := 3) (by decide) (by decide) hx0 hx1 hL) ?_
  refine qe_virtual (b := 2) (as := [.int (xs (x3 + 1).toNatClampNeg), .int (xs (x3 + 2).toNatClampNeg), .int (xs (x3 + 3).toNatClampNeg)]) (r := []) (v := some (.int r)) (h2 := h1) c0_1023 qo0 qK13_115 rfl rfl rfl (by rw [qo53]; exact hC) (Nat.le_of_ble_eq_true rfl) c1 ?_
  refine qe_aload_n c0_1026 rfl ?_
  refine qe_aload_n c0_1027 rfl ?_
  refine qe_iload_n c0_1028 rfl ?_
  refine qe_iconst (x := 1) c0_1029 (by decide) ?_
  refine qe_iadd c0_1030 ?_
  refine qe_script c0_1031 hs1 (qidx (c := 1) (by decide) (by decide) hx0 hx1 hL) ?_
  refine qe_aload_n c0_1032 rfl ?_
  refine qe_iload_n c0_1033 rfl ?_
  refine qe_iconst (x := 2) c0_1034 (by decide) ?_
  refine qe_iadd c0_1035 ?_
  refine qe_script c0_1036 hs1 (qidx (c := 2) (by decide) (by decide) hx0 hx1 hL) ?_
  refine qe_aload_n c0_1037 rfl ?_
  refine qe_iload_n c0_1038 rfl ?_
  refine qe_iconst (x := 3) c0_1039 (by decide) ?_
  refine qe_iadd c0_1040 ?_
  refine qe_script c0_1041 hs1 (qidx (c := 3) (by decide) (by decide) hx0 hx1 hL) ?_
  refine qe_virtual (b := 142) (as := [.int (xs (x3 + 1).toNatClampNeg), .int (xs (x3 + 2).toNatClampNeg), .int (xs (x3 + 3).toNatClampNeg)]) (r := [.int r]) (v := some (.int r)) (h2 := h2) c0_1042 qo0 qK13_118 rfl rfl rfl (by rw [qo119]; exact hM) (Nat.le_of_ble_eq_true rfl) c2 ?_
  refine qe_icmp_eq_T (t := 1463) c0_1045 rfl rfl ?_
  refine qe_iinc (y := x3 + 6) (ls2 := [some (.ref 0), some (.ref 2), some (.ref 142), some (.int (x3 + 6))]) c0_1463 rfl (Nat.le_of_ble_eq_true rfl) rfl rfl ?_
  refine qe_goto (t := 18) c0_1466 rfl ?_
  exact kk
theorem ql24 {d L : Nat} {xs : Nat → Int32} {x3 : Int32} {h h1 h2 : qH} {q : Option Value × qH} {fsC fsM : List Value} {r : Int32} (hx0 : 0 ≤ x3.toInt) (hx1 : x3.toInt + 6 ≤ L) (hL : L ≤ 3072) (hs : h.2.2 0 = some (.inl (8, L, .inl xs))) (hC : h.2.2 2 = some (.inr (11, fsC))) (c1 : qCall d 59 [.ref 2, .int (xs (x3 + 1).toNatClampNeg), .int (xs (x3 + 2).toNatClampNeg)] h (some (.int r), h1)) (hs1 : h1.2.2 0 = some (.inl (8, L, .inl xs))) (hM : h1.2.2 142 = some (.inr (12, fsM))) (c2 : qCall d 139 [.ref 142, .int (xs (x3 + 1).toNatClampNeg), .int (xs (x3 + 2).toNatClampNeg)] h1 (some (.int r), h2)) (hk : (xs x3.toNatClampNeg &&& 63).toInt = 24) (kk : qE d 0 18 [some (.ref 0), some (.ref 2), some (.ref 142), some (.int (x3 + 6))] [] h2 q) : qE d 0 27 [some (.ref 0), some (.ref 2), some (.ref 142), some (.int x3)] [] h q := by
  refine qe_aload_n c0_27 rfl ?_
  refine qe_iload_n c0_28 rfl ?_
  refine qe_script c0_29 hs ⟨hx0, by omega⟩ ?_
  refine qe_bipush (x := 63) c0_30 (by decide) ?_
  refine qe_iand c0_32 ?_
  refine qe_table (off := 1017) (t := 1050) c0_33 (by rw [hk]; decide) (by rw [hk]; decide) rfl ?_
  refine qe_aload_n c0_1050 rfl ?_
  refine qe_aload_n c0_1051 rfl ?_
  refine qe_iload_n c0_1052 rfl ?_
  refine qe_iconst (x := 1) c0_1053 (by decide) ?_
  refine qe_iadd c0_1054 ?_
  refine qe_script c0_1055 hs (qidx (c := 1) (by decide) (by decide) hx0 hx1 hL) ?_
  refine qe_aload_n c0_1056 rfl ?_
  refine qe_iload_n c0_1057 rfl ?_
  refine qe_iconst (x := 2) c0_1058 (by decide) ?_
  refine qe_iadd c0_1059 ?_
  refine qe_script c0_1060 hs (qidx (c := 2) (by decide) (by decide) hx0 hx1 hL) ?_
  refine qe_virtual (b := 2) (as := [.int (xs (x3 + 1).toNatClampNeg), .int (xs (x3 + 2).toNatClampNeg)]) (r := []) (v := some (.int r)) (h2 := h1) c0_1061 qo0 qK13_119 rfl rfl rfl (by rw [qo59]; exact hC) (Nat.le_of_ble_eq_true rfl) c1 ?_
  refine qe_aload_n c0_1064 rfl ?_
  refine qe_aload_n c0_1065 rfl ?_
  refine qe_iload_n c0_1066 rfl ?_
  refine qe_iconst (x := 1) c0_1067 (by decide) ?_
  refine qe_iadd c0_1068 ?_
  refine qe_script c0_1069 hs1 (qidx (c := 1) (by decide) (by decide) hx0 hx1 hL) ?_
  refine qe_aload_n c0_1070 rfl ?_
  refine qe_iload_n c0_1071 rfl ?_
  refine qe_iconst (x := 2) c0_1072 (by decide) ?_
  refine qe_iadd c0_1073 ?_
  refine qe_script c0_1074 hs1 (qidx (c := 2) (by decide) (by decide) hx0 hx1 hL) ?_
  refine qe_virtual (b := 142) (as := [.int (xs (x3 + 1).toNatClampNeg), .int (xs (x3 + 2).toNatClampNeg)]) (r := [.int r]) (v := some (.int r)) (h2 := h2) c0_1075 qo0 qK13_122 rfl rfl rfl (by rw [qo139]; exact hM) (Nat.le_of_ble_eq_true rfl) c2 ?_
  refine qe_icmp_eq_T (t := 1463) c0_1078 rfl rfl ?_
  refine qe_iinc (y := x3 + 6) (ls2 := [some (.ref 0), some (.ref 2), some (.ref 142), some (.int (x3 + 6))]) c0_1463 rfl (Nat.le_of_ble_eq_true rfl) rfl rfl ?_
  refine qe_goto (t := 18) c0_1466 rfl ?_
  exact kk
theorem ql25 {d L : Nat} {xs : Nat → Int32} {x3 : Int32} {h h1 h2 : qH} {q : Option Value × qH} {fsC fsM : List Value} {r : Int32} (hx0 : 0 ≤ x3.toInt) (hx1 : x3.toInt + 6 ≤ L) (hL : L ≤ 3072) (hs : h.2.2 0 = some (.inl (8, L, .inl xs))) (hC : h.2.2 2 = some (.inr (11, fsC))) (c1 : qCall d 60 [.ref 2, .int (xs (x3 + 1).toNatClampNeg), .int (xs (x3 + 2).toNatClampNeg)] h (some (.int r), h1)) (hs1 : h1.2.2 0 = some (.inl (8, L, .inl xs))) (hM : h1.2.2 142 = some (.inr (12, fsM))) (c2 : qCall d 141 [.ref 142, .int (xs (x3 + 1).toNatClampNeg), .int (xs (x3 + 2).toNatClampNeg)] h1 (some (.int r), h2)) (hk : (xs x3.toNatClampNeg &&& 63).toInt = 25) (kk : qE d 0 18 [some (.ref 0), some (.ref 2), some (.ref 142), some (.int (x3 + 6))] [] h2 q) : qE d 0 27 [some (.ref 0), some (.ref 2), some (.ref 142), some (.int x3)] [] h q := by
  refine qe_aload_n c0_27 rfl ?_
  refine qe_iload_n c0_28 rfl ?_
  refine qe_script c0_29 hs ⟨hx0, by omega⟩ ?_
  refine qe_bipush (x := 63) c0_30 (by decide) ?_
  refine qe_iand c0_32 ?_
  refine qe_table (off := 1050) (t := 1083) c0_33 (by rw [hk]; decide) (by rw [hk]; decide) rfl ?_
  refine qe_aload_n c0_1083 rfl ?_
  refine qe_aload_n c0_1084 rfl ?_
  refine qe_iload_n c0_1085 rfl ?_
  refine qe_iconst (x := 1) c0_1086 (by decide) ?_
  refine qe_iadd c0_1087 ?_
  refine qe_script c0_1088 hs (qidx (c := 1) (by decide) (by decide) hx0 hx1 hL) ?_
  refine qe_aload_n c0_1089 rfl ?_
  refine qe_iload_n c0_1090 rfl ?_
  refine qe_iconst (x := 2) c0_1091 (by decide) ?_
  refine qe_iadd c0_1092 ?_
  refine qe_script c0_1093 hs (qidx (c := 2) (by decide) (by decide) hx0 hx1 hL) ?_
  refine qe_virtual (b := 2) (as := [.int (xs (x3 + 1).toNatClampNeg), .int (xs (x3 + 2).toNatClampNeg)]) (r := []) (v := some (.int r)) (h2 := h1) c0_1094 qo0 qK13_123 rfl rfl rfl (by rw [qo60]; exact hC) (Nat.le_of_ble_eq_true rfl) c1 ?_
  refine qe_aload_n c0_1097 rfl ?_
  refine qe_aload_n c0_1098 rfl ?_
  refine qe_iload_n c0_1099 rfl ?_
  refine qe_iconst (x := 1) c0_1100 (by decide) ?_
  refine qe_iadd c0_1101 ?_
  refine qe_script c0_1102 hs1 (qidx (c := 1) (by decide) (by decide) hx0 hx1 hL) ?_
  refine qe_aload_n c0_1103 rfl ?_
  refine qe_iload_n c0_1104 rfl ?_
  refine qe_iconst (x := 2) c0_1105 (by decide) ?_
  refine qe_iadd c0_1106 ?_
  refine qe_script c0_1107 hs1 (qidx (c := 2) (by decide) (by decide) hx0 hx1 hL) ?_
  refine qe_virtual (b := 142) (as := [.int (xs (x3 + 1).toNatClampNeg), .int (xs (x3 + 2).toNatClampNeg)]) (r := [.int r]) (v := some (.int r)) (h2 := h2) c0_1108 qo0 qK13_126 rfl rfl rfl (by rw [qo141]; exact hM) (Nat.le_of_ble_eq_true rfl) c2 ?_
  refine qe_icmp_eq_T (t := 1463) c0_1111 rfl rfl ?_
  refine qe_iinc (y := x3 + 6) (ls2 := [some (.ref 0), some (.ref 2), some (.ref 142), some (.int (x3 + 6))]) c0_1463 rfl (Nat.le_of_ble_eq_true rfl) rfl rfl ?_
  refine qe_goto (t := 18) c0_1466 rfl ?_
  exact kk
theorem ql26 {d L : Nat} {xs : Nat → Int32} {x3 : Int32} {h h1 h2 : qH} {q : Option Value × qH} {fsC fsM : List Value} {r : Int32} (hx0 : 0 ≤ x3.toInt) (hx1 : x3.toInt + 6 ≤ L) (hL : L ≤ 3072) (hs : h.2.2 0 = some (.inl (8, L, .inl xs))) (hC : h.2.2 2 = some (.inr (11, fsC))) (c1 : qCall d 36 [.ref 2, .int (xs (x3 + 1).toNatClampNeg), .int (xs (x3 + 2).toNatClampNeg), .int (xs (x3 + 3).toNatClampNeg)] h (some (.int r), h1)) (hs1 : h1.2.2 0 = some (.inl (8, L, .inl xs))) (hM : h1.2.2 142 = some (.inr (12, fsM))) (c2 : qCall d 92 [.ref 142, .int (xs (x3 + 1).toNatClampNeg), .int (xs (x3 + 2).toNatClampNeg), .int (xs (x3 + 3).toNatClampNeg)] h1 (some (.int r), h2)) (hk : (xs x3.toNatClampNeg &&& 63).toInt = 26) (kk : qE d 0 18 [some (.ref 0), some (.ref 2), some (.ref 142), some (.int (x3 + 6))] [] h2 q) : qE d 0 27 [some (.ref 0), some (.ref 2), some (.ref 142), some (.int x3)] [] h q := by
  refine qe_aload_n c0_27 rfl ?_
  refine qe_iload_n c0_28 rfl ?_
  refine qe_script c0_29 hs ⟨hx0, by omega⟩ ?_
  refine qe_bipush (x := 63) c0_30 (by decide) ?_
  refine qe_iand c0_32 ?_
  refine qe_table (off := 1083) (t := 1116) c0_33 (by rw [hk]; decide) (by rw [hk]; decide) rfl ?_
  refine qe_aload_n c0_1116 rfl ?_
  refine qe_aload_n c0_1117 rfl ?_
  refine qe_iload_n c0_1118 rfl ?_
  refine qe_iconst (x := 1) c0_1119 (by decide) ?_
  refine qe_iadd c0_1120 ?_
  refine qe_script c0_1121 hs (qidx (c := 1) (by decide) (by decide) hx0 hx1 hL) ?_
  refine qe_aload_n c0_1122 rfl ?_
  refine qe_iload_n c0_1123 rfl ?_
  refine qe_iconst (x := 2) c0_1124 (by decide) ?_
  refine qe_iadd c0_1125 ?_
  refine qe_script c0_1126 hs (qidx (c := 2) (by decide) (by decide) hx0 hx1 hL) ?_
  refine qe_aload_n c0_1127 rfl ?_
  refine qe_iload_n c0_1128 rfl ?_
  refine qe_iconst (x := 3) c0_1129 (by decide) ?_
  refine qe_iadd c0_1130 ?_
  refine qe_script c0_1131 hs (qidx (c := 3) (by decide) (by decide) hx0 hx1 hL) ?_
  refine qe_virtual (b := 2) (as := [.int (xs (x3 + 1).toNatClampNeg), .int (xs (x3 + 2).toNatClampNeg), .int (xs (x3 + 3).toNatClampNeg)]) (r := []) (v := some (.int r)) (h2 := h1) c0_1132 qo0 qK13_127 rfl rfl rfl (by rw [qo36]; exact hC) (Nat.le_of_ble_eq_true rfl) c1 ?_
  refine qe_aload_n c0_1135 rfl ?_
  refine qe_aload_n c0_1136 rfl ?_
  refine qe_iload_n c0_1137 rfl ?_
  refine qe_iconst (x := 1) c0_1138 (by decide) ?_
  refine qe_iadd c0_1139 ?_
  refine qe_script c0_1140 hs1 (qidx (c := 1) (by decide) (by decide) hx0 hx1 hL) ?_
  refine qe_aload_n c0_1141 rfl ?_
  refine qe_iload_n c0_1142 rfl ?_
  refine qe_iconst (x := 2) c0_1143 (by decide) ?_
  refine qe_iadd c0_1144 ?_
  refine qe_script c0_1145 hs1 (qidx (c := 2) (by decide) (by decide) hx0 hx1 hL) ?_
  refine qe_aload_n c0_1146 rfl ?_
  refine qe_iload_n c0_1147 rfl ?_
  refine qe_iconst (x := 3) c0_1148 (by decide) ?_
  refine qe_iadd c0_1149 ?_
  refine qe_script c0_1150 hs1 (qidx (c := 3) (by decide) (by decide) hx0 hx1 hL) ?_
  refine qe_virtual (b := 142) (as := [.int (xs (x3 + 1).toNatClampNeg), .int (xs (x3 + 2).toNatClampNeg), .int (xs (x3 + 3).toNatClampNeg)]) (r := [.int r]) (v := some (.int r)) (h2 := h2) c0_1151 qo0 qK13_131 rfl rfl rfl (by rw [qo92]; exact hM) (Nat.le_of_ble_eq_true rfl) c2 ?_
  refine qe_icmp_eq_T (t := 1463) c0_1154 rfl rfl ?_
  refine qe_iinc (y := x3 + 6) (ls2 := [some (.ref 0), some (.ref 2), some (.ref 142), some (.int (x3 + 6))]) c0_1463 rfl (Nat.le_of_ble_eq_true rfl) rfl rfl ?_
  refine qe_goto (t := 18) c0_1466 rfl ?_
  exact kk
theorem ql27 {d L : Nat} {xs : Nat → Int32} {x3 : Int32} {h h1 h2 : qH} {q : Option Value × qH} {fsC fsM : List Value} {r : Int32} (hx0 : 0 ≤ x3.toInt) (hx1 : x3.toInt + 6 ≤ L) (hL : L ≤ 3072) (hs : h.2.2 0 = some (.inl (8, L, .inl xs))) (hC : h.2.2 2 = some (.inr (11, fsC))) (c1 : qCall d 65 [.ref 2, .int (xs (x3 + 1).toNatClampNeg), .int (xs (x3 + 2).toNatClampNeg)] h (some (.int r), h1)) (hs1 : h1.2.2 0 = some (.inl (8, L, .inl xs))) (hM : h1.2.2 142 = some (.inr (12, fsM))) (c2 : qCall d 157 [.ref 142, .int (xs (x3 + 1).toNatClampNeg), .int (xs (x3 + 2).toNatClampNeg)] h1 (some (.int r), h2)) (hk : (xs x3.toNatClampNeg &&& 63).toInt = 27) (kk : qE d 0 18 [some (.ref 0), some (.ref 2), some (.ref 142), some (.int (x3 + 6))] [] h2 q) : qE d 0 27 [some (.ref 0), some (.ref 2), some (.ref 142), some (.int x3)] [] h q := by
  refine qe_aload_n c0_27 rfl ?_
  refine qe_iload_n c0_28 rfl ?_
  refine qe_script c0_29 hs ⟨hx0, by omega⟩ ?_
  refine qe_bipush (x := 63) c0_30 (by decide) ?_
  refine qe_iand c0_32 ?_
  refine qe_table (off := 1126) (t := 1159) c0_33 (by rw [hk]; decide) (by rw [hk]; decide) rfl ?_
  refine qe_aload_n c0_1159 rfl ?_
  refine qe_aload_n c0_1160 rfl ?_
  refine qe_iload_n c0_1161 rfl ?_
  refine qe_iconst (x := 1) c0_1162 (by decide) ?_
  refine qe_iadd c0_1163 ?_
  refine qe_script c0_1164 hs (qidx (c := 1) (by decide) (by decide) hx0 hx1 hL) ?_
  refine qe_aload_n c0_1165 rfl ?_
  refine qe_iload_n c0_1166 rfl ?_
  refine qe_iconst (x := 2) c0_1167 (by decide) ?_
  refine qe_iadd c0_1168 ?_
  refine qe_script c0_1169 hs (qidx (c := 2) (by decide) (by decide) hx0 hx1 hL) ?_
  refine qe_virtual (b := 2) (as := [.int (xs (x3 + 1).toNatClampNeg), .int (xs (x3 + 2).toNatClampNeg)]) (r := []) (v := some (.int r)) (h2 := h1) c0_1170 qo0 qK13_132 rfl rfl rfl (by rw [qo65]; exact hC) (Nat.le_of_ble_eq_true rfl) c1 ?_
  refine qe_aload_n c0_1173 rfl ?_
  refine qe_aload_n c0_1174 rfl ?_
  refine qe_iload_n c0_1175 rfl ?_
  refine qe_iconst (x := 1) c0_1176 (by decide) ?_
  refine qe_iadd c0_1177 ?_
  refine qe_script c0_1178 hs1 (qidx (c := 1) (by decide) (by decide) hx0 hx1 hL) ?_
  refine qe_aload_n c0_1179 rfl ?_
  refine qe_iload_n c0_1180 rfl ?_
  refine qe_iconst (x := 2) c0_1181 (by decide) ?_
  refine qe_iadd c0_1182 ?_
  refine qe_script c0_1183 hs1 (qidx (c := 2) (by decide) (by decide) hx0 hx1 hL) ?_
  refine qe_virtual (b := 142) (as := [.int (xs (x3 + 1).toNatClampNeg), .int (xs (x3 + 2).toNatClampNeg)]) (r := [.int r]) (v := some (.int r)) (h2 := h2) c0_1184 qo0 qK13_135 rfl rfl rfl (by rw [qo157]; exact hM) (Nat.le_of_ble_eq_true rfl) c2 ?_
  refine qe_icmp_eq_T (t := 1463) c0_1187 rfl rfl ?_
  refine qe_iinc (y := x3 + 6) (ls2 := [some (.ref 0), some (.ref 2), some (.ref 142), some (.int (x3 + 6))]) c0_1463 rfl (Nat.le_of_ble_eq_true rfl) rfl rfl ?_
  refine qe_goto (t := 18) c0_1466 rfl ?_
  exact kk
theorem ql28 {d L : Nat} {xs : Nat → Int32} {x3 : Int32} {h h1 h2 : qH} {q : Option Value × qH} {fsC fsM : List Value} {r : Int32} (hx0 : 0 ≤ x3.toInt) (hx1 : x3.toInt + 6 ≤ L) (hL : L ≤ 3072) (hs : h.2.2 0 = some (.inl (8, L, .inl xs))) (hC : h.2.2 2 = some (.inr (11, fsC))) (c1 : qCall d 32 [.ref 2, .int (xs (x3 + 1).toNatClampNeg), .int (xs (x3 + 2).toNatClampNeg)] h (some (.int r), h1)) (hs1 : h1.2.2 0 = some (.inl (8, L, .inl xs))) (hM : h1.2.2 142 = some (.inr (12, fsM))) (c2 : qCall d 85 [.ref 142, .int (xs (x3 + 1).toNatClampNeg), .int (xs (x3 + 2).toNatClampNeg)] h1 (some (.int r), h2)) (hk : (xs x3.toNatClampNeg &&& 63).toInt = 28) (kk : qE d 0 18 [some (.ref 0), some (.ref 2), some (.ref 142), some (.int (x3 + 6))] [] h2 q) : qE d 0 27 [some (.ref 0), some (.ref 2), some (.ref 142), some (.int x3)] [] h q := by
  refine qe_aload_n c0_27 rfl ?_
  refine qe_iload_n c0_28 rfl ?_
  refine qe_script c0_29 hs ⟨hx0, by omega⟩ ?_
  refine qe_bipush (x := 63) c0_30 (by decide) ?_
  refine qe_iand c0_32 ?_
  refine qe_table (off := 1159) (t := 1192) c0_33 (by rw [hk]; decide) (by rw [hk]; decide) rfl ?_
  refine qe_aload_n c0_1192 rfl ?_
  refine qe_aload_n c0_1193 rfl ?_
  refine qe_iload_n c0_1194 rfl ?_
  refine qe_iconst (x := 1) c0_1195 (by decide) ?_
  refine qe_iadd c0_1196 ?_
  refine qe_script c0_1197 hs (qidx (c := 1) (by decide) (by decide) hx0 hx1 hL) ?_
  refine qe_aload_n c0_1198 rfl ?_
  refine qe_iload_n c0_1199 rfl ?_
  refine qe_iconst (x := 2) c0_1200 (by decide) ?_
  refine qe_iadd c0_1201 ?_
  refine qe_script c0_1202 hs (qidx (c := 2) (by decide) (by decide) hx0 hx1 hL) ?_
  refine qe_virtual (b := 2) (as := [.int (xs (x3 + 1).toNatClampNeg), .int (xs (x3 + 2).toNatClampNeg)]) (r := []) (v := some (.int r)) (h2 := h1) c0_1203 qo0 qK13_136 rfl rfl rfl (by rw [qo32]; exact hC) (Nat.le_of_ble_eq_true rfl) c1 ?_
  refine qe_aload_n c0_1206 rfl ?_
  refine qe_aload_n c0_1207 rfl ?_
  refine qe_iload_n c0_1208 rfl ?_
  refine qe_iconst (x := 1) c0_1209 (by decide) ?_
  refine qe_iadd c0_1210 ?_
  refine qe_script c0_1211 hs1 (qidx (c := 1) (by decide) (by decide) hx0 hx1 hL) ?_
  refine qe_aload_n c0_1212 rfl ?_
  refine qe_iload_n c0_1213 rfl ?_
  refine qe_iconst (x := 2) c0_1214 (by decide) ?_
  refine qe_iadd c0_1215 ?_
  refine qe_script c0_1216 hs1 (qidx (c := 2) (by decide) (by decide) hx0 hx1 hL) ?_
  refine qe_virtual (b := 142) (as := [.int (xs (x3 + 1).toNatClampNeg), .int (xs (x3 + 2).toNatClampNeg)]) (r := [.int r]) (v := some (.int r)) (h2 := h2) c0_1217 qo0 qK13_139 rfl rfl rfl (by rw [qo85]; exact hM) (Nat.le_of_ble_eq_true rfl) c2 ?_
  refine qe_icmp_eq_T (t := 1463) c0_1220 rfl rfl ?_
  refine qe_iinc (y := x3 + 6) (ls2 := [some (.ref 0), some (.ref 2), some (.ref 142), some (.int (x3 + 6))]) c0_1463 rfl (Nat.le_of_ble_eq_true rfl) rfl rfl ?_
  refine qe_goto (t := 18) c0_1466 rfl ?_
  exact kk
theorem ql29 {d L : Nat} {xs : Nat → Int32} {x3 : Int32} {h h1 h2 : qH} {q : Option Value × qH} {fsC fsM : List Value} {r : Int32} (hx0 : 0 ≤ x3.toInt) (hx1 : x3.toInt + 6 ≤ L) (hL : L ≤ 3072) (hs : h.2.2 0 = some (.inl (8, L, .inl xs))) (hC : h.2.2 2 = some (.inr (11, fsC))) (c1 : qCall d 64 [.ref 2, .int (xs (x3 + 1).toNatClampNeg), .int (xs (x3 + 2).toNatClampNeg)] h (some (.int r), h1)) (hs1 : h1.2.2 0 = some (.inl (8, L, .inl xs))) (hM : h1.2.2 142 = some (.inr (12, fsM))) (c2 : qCall d 151 [.ref 142, .int (xs (x3 + 1).toNatClampNeg), .int (xs (x3 + 2).toNatClampNeg)] h1 (some (.int r), h2)) (hk : (xs x3.toNatClampNeg &&& 63).toInt = 29) (kk : qE d 0 18 [some (.ref 0), some (.ref 2), some (.ref 142), some (.int (x3 + 6))] [] h2 q) : qE d 0 27 [some (.ref 0), some (.ref 2), some (.ref 142), some (.int x3)] [] h q := by
  refine qe_aload_n c0_27 rfl ?_
  refine qe_iload_n c0_28 rfl ?_
  refine qe_script c0_29 hs ⟨hx0, by omega⟩ ?_
  refine qe_bipush (x := 63) c0_30 (by decide) ?_
  refine qe_iand c0_32 ?_
  refine qe_table (off := 1192) (t := 1225) c0_33 (by rw [hk]; decide) (by rw [hk]; decide) rfl ?_
  refine qe_aload_n c0_1225 rfl ?_
  refine qe_aload_n c0_1226 rfl ?_
  refine qe_iload_n c0_1227 rfl ?_
  refine qe_iconst (x := 1) c0_1228 (by decide) ?_
  refine qe_iadd c0_1229 ?_
  refine qe_script c0_1230 hs (qidx (c := 1) (by decide) (by decide) hx0 hx1 hL) ?_
  refine qe_aload_n c0_1231 rfl ?_
  refine qe_iload_n c0_1232 rfl ?_
  refine qe_iconst (x := 2) c0_1233 (by decide) ?_
  refine qe_iadd c0_1234 ?_
  refine qe_script c0_1235 hs (qidx (c := 2) (by decide) (by decide) hx0 hx1 hL) ?_
  refine qe_virtual (b := 2) (as := [.int (xs (x3 + 1).toNatClampNeg), .int (xs (x3 + 2).toNatClampNeg)]) (r := []) (v := some (.int r)) (h2 := h1) c0_1236 qo0 qK13_140 rfl rfl rfl (by rw [qo64]; exact hC) (Nat.le_of_ble_eq_true rfl) c1 ?_
  refine qe_aload_n c0_1239 rfl ?_
  refine qe_aload_n c0_1240 rfl ?_
  refine qe_iload_n c0_1241 rfl ?_
  refine qe_iconst (x := 1) c0_1242 (by decide) ?_
  refine qe_iadd c0_1243 ?_
  refine qe_script c0_1244 hs1 (qidx (c := 1) (by decide) (by decide) hx0 hx1 hL) ?_
  refine qe_aload_n c0_1245 rfl ?_
  refine qe_iload_n c0_1246 rfl ?_
  refine qe_iconst (x := 2) c0_1247 (by decide) ?_
  refine qe_iadd c0_1248 ?_
  refine qe_script c0_1249 hs1 (qidx (c := 2) (by decide) (by decide) hx0 hx1 hL) ?_
  refine qe_virtual (b := 142) (as := [.int (xs (x3 + 1).toNatClampNeg), .int (xs (x3 + 2).toNatClampNeg)]) (r := [.int r]) (v := some (.int r)) (h2 := h2) c0_1250 qo0 qK13_143 rfl rfl rfl (by rw [qo151]; exact hM) (Nat.le_of_ble_eq_true rfl) c2 ?_
  refine qe_icmp_eq_T (t := 1463) c0_1253 rfl rfl ?_
  refine qe_iinc (y := x3 + 6) (ls2 := [some (.ref 0), some (.ref 2), some (.ref 142), some (.int (x3 + 6))]) c0_1463 rfl (Nat.le_of_ble_eq_true rfl) rfl rfl ?_
  refine qe_goto (t := 18) c0_1466 rfl ?_
  exact kk
theorem ql30 {d L : Nat} {xs : Nat → Int32} {x3 : Int32} {h h1 h2 : qH} {q : Option Value × qH} {fsC fsM : List Value} {r : Int32} (hx0 : 0 ≤ x3.toInt) (hx1 : x3.toInt + 6 ≤ L) (hL : L ≤ 3072) (hs : h.2.2 0 = some (.inl (8, L, .inl xs))) (hC : h.2.2 2 = some (.inr (11, fsC))) (c1 : qCall d 33 [.ref 2, .int (xs (x3 + 1).toNatClampNeg), .int (qb (xs (x3 + 2).toNatClampNeg)), .int (xs (x3 + 3).toNatClampNeg)] h (some (.int r), h1)) (hs1 : h1.2.2 0 = some (.inl (8, L, .inl xs))) (hM : h1.2.2 142 = some (.inr (12, fsM))) (c2 : qCall d 86 [.ref 142, .int (xs (x3 + 1).toNatClampNeg), .int (qb (xs (x3 + 2).toNatClampNeg)), .int (xs (x3 + 3).toNatClampNeg)] h1 (some (.int r), h2)) (hk : (xs x3.toNatClampNeg &&& 63).toInt = 30) (kk : qE d 0 18 [some (.ref 0), some (.ref 2), some (.ref 142), some (.int (x3 + 6))] [] h2 q) : qE d 0 27 [some (.ref 0), some (.ref 2), some (.ref 142), some (.int x3)] [] h q := by
  refine qe_aload_n c0_27 rfl ?_
  refine qe_iload_n c0_28 rfl ?_
  refine qe_script c0_29 hs ⟨hx0, by omega⟩ ?_
  refine qe_bipush (x := 63) c0_30 (by decide) ?_
  refine qe_iand c0_32 ?_
  refine qe_table (off := 1225) (t := 1258) c0_33 (by rw [hk]; decide) (by rw [hk]; decide) rfl ?_
  refine qe_aload_n c0_1258 rfl ?_
  refine qe_aload_n c0_1259 rfl ?_
  refine qe_iload_n c0_1260 rfl ?_
  refine qe_iconst (x := 1) c0_1261 (by decide) ?_
  refine qe_iadd c0_1262 ?_
  refine qe_script c0_1263 hs (qidx (c := 1) (by decide) (by decide) hx0 hx1 hL) ?_
  refine qe_aload_n c0_1264 rfl ?_
  refine qe_iload_n c0_1265 rfl ?_
  refine qe_iconst (x := 2) c0_1266 (by decide) ?_
  refine qe_iadd c0_1267 ?_
  refine qe_script c0_1268 hs (qidx (c := 2) (by decide) (by decide) hx0 hx1 hL) ?_
  by_cases z0 : (xs (x3 + 2).toNatClampNeg) = 0
  · have w0 : qb (xs (x3 + 2).toNatClampNeg) = 0 := if_pos z0
    rw [w0] at c1 c2
    refine qe_if_eq_T (t := 1276) c0_1269 rfl z0 ?_
    refine qe_iconst (x := 0) c0_1276 (by decide) ?_
    refine qe_aload_n c0_1277 rfl ?_
    refine qe_iload_n c0_1278 rfl ?_
    refine qe_iconst (x := 3) c0_1279 (by decide) ?_
    refine qe_iadd c0_1280 ?_
    refine qe_script c0_1281 hs (qidx (c := 3) (by decide) (by decide) hx0 hx1 hL) ?_
    refine qe_virtual (b := 2) (as := [.int (xs (x3 + 1).toNatClampNeg), .int 0, .int (xs (x3 + 3).toNatClampNeg)]) (r := []) (v := some (.int r)) (h2 := h1) c0_1282 qo0 qK13_144 rfl rfl rfl (by rw [qo33]; exact hC) (Nat.le_of_ble_eq_true rfl) c1 ?_
    refine qe_aload_n c0_1285 rfl ?_
    refine qe_aload_n c0_1286 rfl ?_
    refine qe_iload_n c0_1287 rfl ?_
    refine qe_iconst (x := 1) c0_1288 (by decide) ?_
    refine qe_iadd c0_1289 ?_
    refine qe_script c0_1290 hs1 (qidx (c := 1) (by decide) (by decide) hx0 hx1 hL) ?_
    refine qe_aload_n c0_1291 rfl ?_
    refine qe_iload_n c0_1292 rfl ?_
    refine qe_iconst (x := 2) c0_1293 (by decide) ?_
    refine qe_iadd c0_1294 ?_
    refine qe_script c0_1295 hs1 (qidx (c := 2) (by decide) (by decide) hx0 hx1 hL) ?_
    refine qe_if_eq_T (t := 1303) c0_1296 rfl z0 ?_
    refine qe_iconst (x := 0) c0_1303 (by decide) ?_
    refine qe_aload_n c0_1304 rfl ?_
    refine qe_iload_n c0_1305 rfl ?_
    refine qe_iconst (x := 3) c0_1306 (by decide) ?_
    refine qe_iadd c0_1307 ?_
    refine qe_script c0_1308 hs1 (qidx (c := 3) (by decide) (by decide) hx0 hx1 hL) ?_
    refine qe_virtual (b := 142) (as := [.int (xs (x3 + 1).toNatClampNeg), .int 0, .int (xs (x3 + 3).toNatClampNeg)]) (r := [.int r]) (v := some (.int r)) (h2 := h2) c0_1309 qo0 qK13_148 rfl rfl rfl (by rw [qo86]; exact hM) (Nat.le_of_ble_eq_true rfl) c2 ?_
    refine qe_icmp_eq_T (t := 1463) c0_1312 rfl rfl ?_
    refine qe_iinc (y := x3 + 6) (ls2 := [some (.ref 0), some (.ref 2), some (.ref 142), some (.int (x3 + 6))]) c0_1463 rfl (Nat.le_of_ble_eq_true rfl) rfl rfl ?_
    refine qe_goto (t := 18) c0_1466 rfl ?_
    exact kk
  · have w0 : qb (xs (x3 + 2).toNatClampNeg) = 1 := if_neg z0
    rw [w0] at c1 c2
    refine qe_if_eq_F (t := 1276) c0_1269 rfl z0 ?_
    refine qe_iconst (x := 1) c0_1272 (by decide) ?_
    refine qe_goto (t := 1277) c0_1273 rfl ?_
    refine qe_aload_n c0_1277 rfl ?_
    refine qe_iload_n c0_1278 rfl ?_
    refine qe_iconst (x := 3) c0_1279 (by decide) ?_
    refine qe_iadd c0_1280 ?_
    refine qe_script c0_1281 hs (qidx (c := 3) (by decide) (by decide) hx0 hx1 hL) ?_
    refine qe_virtual (b := 2) (as := [.int (xs (x3 + 1).toNatClampNeg), .int 1, .int (xs (x3 + 3).toNatClampNeg)]) (r := []) (v := some (.int r)) (h2 := h1) c0_1282 qo0 qK13_144 rfl rfl rfl (by rw [qo33]; exact hC) (Nat.le_of_ble_eq_true rfl) c1 ?_
    refine qe_aload_n c0_1285 rfl ?_
    refine qe_aload_n c0_1286 rfl ?_
    refine qe_iload_n c0_1287 rfl ?_
    refine qe_iconst (x := 1) c0_1288 (by decide) ?_
    refine qe_iadd c0_1289 ?_
    refine qe_script c0_1290 hs1 (qidx (c := 1) (by decide) (by decide) hx0 hx1 hL) ?_
    refine qe_aload_n c0_1291 rfl ?_
    refine qe_iload_n c0_1292 rfl ?_
    refine qe_iconst (x := 2) c0_1293 (by decide) ?_
    refine qe_iadd c0_1294 ?_
    refine qe_script c0_1295 hs1 (qidx (c := 2) (by decide) (by decide) hx0 hx1 hL) ?_
    refine qe_if_eq_F (t := 1303) c0_1296 rfl z0 ?_
    refine qe_iconst (x := 1) c0_1299 (by decide) ?_
    refine qe_goto (t := 1304) c0_1300 rfl ?_
    refine qe_aload_n c0_1304 rfl ?_
    refine qe_iload_n c0_1305 rfl ?_
    refine qe_iconst (x := 3) c0_1306 (by decide) ?_
    refine qe_iadd c0_1307 ?_
    refine qe_script c0_1308 hs1 (qidx (c := 3) (by decide) (by decide) hx0 hx1 hL) ?_
    refine qe_virtual (b := 142) (as := [.int (xs (x3 + 1).toNatClampNeg), .int 1, .int (xs (x3 + 3).toNatClampNeg)]) (r := [.int r]) (v := some (.int r)) (h2 := h2) c0_1309 qo0 qK13_148 rfl rfl rfl (by rw [qo86]; exact hM) (Nat.le_of_ble_eq_true rfl) c2 ?_
    refine qe_icmp_eq_T (t := 1463) c0_1312 rfl rfl ?_
    refine qe_iinc (y := x3 + 6) (ls2 := [some (.ref 0), some (.ref 2), some (.ref 142), some (.int (x3 + 6))]) c0_1463 rfl (Nat.le_of_ble_eq_true rfl) rfl rfl ?_
    refine qe_goto (t := 18) c0_1466 rfl ?_
    exact kk
theorem ql31 {d L : Nat} {xs : Nat → Int32} {x3 : Int32} {h h1 h2 : qH} {q : Option Value × qH} {fsC fsM : List Value} {r : Int64} (hx0 : 0 ≤ x3.toInt) (hx1 : x3.toInt + 6 ≤ L) (hL : L ≤ 3072) (hs : h.2.2 0 = some (.inl (8, L, .inl xs))) (hC : h.2.2 2 = some (.inr (11, fsC))) (c1 : qCall d 30 [.ref 2, .int (xs (x3 + 1).toNatClampNeg)] h (some (.long r), h1)) (hs1 : h1.2.2 0 = some (.inl (8, L, .inl xs))) (hM : h1.2.2 142 = some (.inr (12, fsM))) (c2 : qCall d 83 [.ref 142, .int (xs (x3 + 1).toNatClampNeg)] h1 (some (.long r), h2)) (hk : (xs x3.toNatClampNeg &&& 63).toInt = 31) (kk : qE d 0 18 [some (.ref 0), some (.ref 2), some (.ref 142), some (.int (x3 + 6))] [] h2 q) : qE d 0 27 [some (.ref 0), some (.ref 2), some (.ref 142), some (.int x3)] [] h q := by
  refine qe_aload_n c0_27 rfl ?_
  refine qe_iload_n c0_28 rfl ?_
  refine qe_script c0_29 hs ⟨hx0, by omega⟩ ?_
  refine qe_bipush (x := 63) c0_30 (by decide) ?_
  refine qe_iand c0_32 ?_
  refine qe_table (off := 1284) (t := 1317) c0_33 (by rw [hk]; decide) (by rw [hk]; decide) rfl ?_
  refine qe_aload_n c0_1317 rfl ?_
  refine qe_aload_n c0_1318 rfl ?_
  refine qe_iload_n c0_1319 rfl ?_
  refine qe_iconst (x := 1) c0_1320 (by decide) ?_
  refine qe_iadd c0_1321 ?_
  refine qe_script c0_1322 hs (qidx (c := 1) (by decide) (by decide) hx0 hx1 hL) ?_
  refine qe_virtual (b := 2) (as := [.int (xs (x3 + 1).toNatClampNeg)]) (r := []) (v := some (.long r)) (h2 := h1) c0_1323 qo0 qK13_149 rfl rfl rfl (by rw [qo30]; exact hC) (Nat.le_of_ble_eq_true rfl) c1 ?_
  refine qe_aload_n c0_1326 rfl ?_
  refine qe_aload_n c0_1327 rfl ?_
  refine qe_iload_n c0_1328 rfl ?_
  refine qe_iconst (x := 1) c0_1329 (by decide) ?_
  refine qe_iadd c0_1330 ?_
  refine qe_script c0_1331 hs1 (qidx (c := 1) (by decide) (by decide) hx0 hx1 hL) ?_
  refine qe_virtual (b := 142) (as := [.int (xs (x3 + 1).toNatClampNeg)]) (r := [.long r]) (v := some (.long r)) (h2 := h2) c0_1332 qo0 qK13_152 rfl rfl rfl (by rw [qo83]; exact hM) (Nat.le_of_ble_eq_true rfl) c2 ?_
  refine qe_lcmp c0_1335 ?_
  refine qe_if_eq_T (t := 1463) c0_1336 rfl ((lg_cmp_eq r r).mpr rfl) ?_
  refine qe_iinc (y := x3 + 6) (ls2 := [some (.ref 0), some (.ref 2), some (.ref 142), some (.int (x3 + 6))]) c0_1463 rfl (Nat.le_of_ble_eq_true rfl) rfl rfl ?_
  refine qe_goto (t := 18) c0_1466 rfl ?_
  exact kk
theorem ql32 {d L : Nat} {xs : Nat → Int32} {x3 : Int32} {h h1 h2 : qH} {q : Option Value × qH} {fsC fsM : List Value} {r : Int32} (hx0 : 0 ≤ x3.toInt) (hx1 : x3.toInt + 6 ≤ L) (hL : L ≤ 3072) (hs : h.2.2 0 = some (.inl (8, L, .inl xs))) (hC : h.2.2 2 = some (.inr (11, fsC))) (c1 : qCall d 39 [.ref 2, .int (xs (x3 + 1).toNatClampNeg), .int (xs (x3 + 2).toNatClampNeg)] h (some (.int r), h1)) (hs1 : h1.2.2 0 = some (.inl (8, L, .inl xs))) (hM : h1.2.2 142 = some (.inr (12, fsM))) (c2 : qCall d 97 [.ref 142, .int (xs (x3 + 1).toNatClampNeg), .int (xs (x3 + 2).toNatClampNeg)] h1 (some (.int r), h2)) (hk : (xs x3.toNatClampNeg &&& 63).toInt = 32) (kk : qE d 0 18 [some (.ref 0), some (.ref 2), some (.ref 142), some (.int (x3 + 6))] [] h2 q) : qE d 0 27 [some (.ref 0), some (.ref 2), some (.ref 142), some (.int x3)] [] h q := by
  refine qe_aload_n c0_27 rfl ?_
  refine qe_iload_n c0_28 rfl ?_
  refine qe_script c0_29 hs ⟨hx0, by omega⟩ ?_
  refine qe_bipush (x := 63) c0_30 (by decide) ?_
  refine qe_iand c0_32 ?_
  refine qe_table (off := 1308) (t := 1341) c0_33 (by rw [hk]; decide) (by rw [hk]; decide) rfl ?_
  refine qe_aload_n c0_1341 rfl ?_
  refine qe_aload_n c0_1342 rfl ?_
  refine qe_iload_n c0_1343 rfl ?_
  refine qe_iconst (x := 1) c0_1344 (by decide) ?_
  refine qe_iadd c0_1345 ?_
  refine qe_script c0_1346 hs (qidx (c := 1) (by decide) (by decide) hx0 hx1 hL) ?_
  refine qe_aload_n c0_1347 rfl ?_
  refine qe_iload_n c0_1348 rfl ?_
  refine qe_iconst (x := 2) c0_1349 (by decide) ?_
  refine qe_iadd c0_1350 ?_
  refine qe_script c0_1351 hs (qidx (c := 2) (by decide) (by decide) hx0 hx1 hL) ?_
  refine qe_virtual (b := 2) (as := [.int (xs (x3 + 1).toNatClampNeg), .int (xs (x3 + 2).toNatClampNeg)]) (r := []) (v := some (.int r)) (h2 := h1) c0_1352 qo0 qK13_153 rfl rfl rfl (by rw [qo39]; exact hC) (Nat.le_of_ble_eq_true rfl) c1 ?_
  refine qe_aload_n c0_1355 rfl ?_
  refine qe_aload_n c0_1356 rfl ?_
  refine qe_iload_n c0_1357 rfl ?_
  refine qe_iconst (x := 1) c0_1358 (by decide) ?_
  refine qe_iadd c0_1359 ?_
  refine qe_script c0_1360 hs1 (qidx (c := 1) (by decide) (by decide) hx0 hx1 hL) ?_
  refine qe_aload_n c0_1361 rfl ?_
  refine qe_iload_n c0_1362 rfl ?_
  refine qe_iconst (x := 2) c0_1363 (by decide) ?_
  refine qe_iadd c0_1364 ?_
  refine qe_script c0_1365 hs1 (qidx (c := 2) (by decide) (by decide) hx0 hx1 hL) ?_
  refine qe_virtual (b := 142) (as := [.int (xs (x3 + 1).toNatClampNeg), .int (xs (x3 + 2).toNatClampNeg)]) (r := [.int r]) (v := some (.int r)) (h2 := h2) c0_1366 qo0 qK13_156 rfl rfl rfl (by rw [qo97]; exact hM) (Nat.le_of_ble_eq_true rfl) c2 ?_
  refine qe_icmp_eq_T (t := 1463) c0_1369 rfl rfl ?_
  refine qe_iinc (y := x3 + 6) (ls2 := [some (.ref 0), some (.ref 2), some (.ref 142), some (.int (x3 + 6))]) c0_1463 rfl (Nat.le_of_ble_eq_true rfl) rfl rfl ?_
  refine qe_goto (t := 18) c0_1466 rfl ?_
  exact kk
theorem ql33 {d L : Nat} {xs : Nat → Int32} {x3 : Int32} {h h1 h2 : qH} {q : Option Value × qH} {fsC fsM : List Value} {r : Int32} (hx0 : 0 ≤ x3.toInt) (hx1 : x3.toInt + 6 ≤ L) (hL : L ≤ 3072) (hs : h.2.2 0 = some (.inl (8, L, .inl xs))) (hC : h.2.2 2 = some (.inr (11, fsC))) (c1 : qCall d 43 [.ref 2, .int (xs (x3 + 1).toNatClampNeg), .int (xs (x3 + 2).toNatClampNeg), .int (xs (x3 + 3).toNatClampNeg)] h (some (.int r), h1)) (hs1 : h1.2.2 0 = some (.inl (8, L, .inl xs))) (hM : h1.2.2 142 = some (.inr (12, fsM))) (c2 : qCall d 99 [.ref 142, .int (xs (x3 + 1).toNatClampNeg), .int (xs (x3 + 2).toNatClampNeg), .int (xs (x3 + 3).toNatClampNeg)] h1 (some (.int r), h2)) (hk : (xs x3.toNatClampNeg &&& 63).toInt = 33) (kk : qE d 0 18 [some (.ref 0), some (.ref 2), some (.ref 142), some (.int (x3 + 6))] [] h2 q) : qE d 0 27 [some (.ref 0), some (.ref 2), some (.ref 142), some (.int x3)] [] h q := by
  refine qe_aload_n c0_27 rfl ?_
  refine qe_iload_n c0_28 rfl ?_
  refine qe_script c0_29 hs ⟨hx0, by omega⟩ ?_
  refine qe_bipush (x := 63) c0_30 (by decide) ?_
  refine qe_iand c0_32 ?_
  refine qe_table (off := 1341) (t := 1374) c0_33 (by rw [hk]; decide) (by rw [hk]; decide) rfl ?_
  refine qe_aload_n c0_1374 rfl ?_
  refine qe_aload_n c0_1375 rfl ?_
  refine qe_iload_n c0_1376 rfl ?_
  refine qe_iconst (x := 1) c0_1377 (by decide) ?_
  refine qe_iadd c0_1378 ?_
  refine qe_script c0_1379 hs (qidx (c := 1) (by decide) (by decide) hx0 hx1 hL) ?_
  refine qe_aload_n c0_1380 rfl ?_
  refine qe_iload_n c0_1381 rfl ?_
  refine qe_iconst (x := 2) c0_1382 (by decide) ?_
  refine qe_iadd c0_1383 ?_
  refine qe_script c0_1384 hs (qidx (c := 2) (by decide) (by decide) hx0 hx1 hL) ?_
  refine qe_aload_n c0_1385 rfl ?_
  refine qe_iload_n c0_1386 rfl ?_
  refine qe_iconst (x := 3) c0_1387 (by decide) ?_
  refine qe_iadd c0_1388 ?_
  refine qe_script c0_1389 hs (qidx (c := 3) (by decide) (by decide) hx0 hx1 hL) ?_
  refine qe_virtual (b := 2) (as := [.int (xs (x3 + 1).toNatClampNeg), .int (xs (x3 + 2).toNatClampNeg), .int (xs (x3 + 3).toNatClampNeg)]) (r := []) (v := some (.int r)) (h2 := h1) c0_1390 qo0 qK13_157 rfl rfl rfl (by rw [qo43]; exact hC) (Nat.le_of_ble_eq_true rfl) c1 ?_
  refine qe_aload_n c0_1393 rfl ?_
  refine qe_aload_n c0_1394 rfl ?_
  refine qe_iload_n c0_1395 rfl ?_
  refine qe_iconst (x := 1) c0_1396 (by decide) ?_
  refine qe_iadd c0_1397 ?_
  refine qe_script c0_1398 hs1 (qidx (c := 1) (by decide) (by decide) hx0 hx1 hL) ?_
  refine qe_aload_n c0_1399 rfl ?_
  refine qe_iload_n c0_1400 rfl ?_
  refine qe_iconst (x := 2) c0_1401 (by decide) ?_
  refine qe_iadd c0_1402 ?_
  refine qe_script c0_1403 hs1 (qidx (c := 2) (by decide) (by decide) hx0 hx1 hL) ?_
  refine qe_aload_n c0_1404 rfl ?_
  refine qe_iload_n c0_1405 rfl ?_
  refine qe_iconst (x := 3) c0_1406 (by decide) ?_
  refine qe_iadd c0_1407 ?_
  refine qe_script c0_1408 hs1 (qidx (c := 3) (by decide) (by decide) hx0 hx1 hL) ?_
  refine qe_virtual (b := 142) (as := [.int (xs (x3 + 1).toNatClampNeg), .int (xs (x3 + 2).toNatClampNeg), .int (xs (x3 + 3).toNatClampNeg)]) (r := [.int r]) (v := some (.int r)) (h2 := h2) c0_1409 qo0 qK13_160 rfl rfl rfl (by rw [qo99]; exact hM) (Nat.le_of_ble_eq_true rfl) c2 ?_
  refine qe_icmp_eq_T (t := 1463) c0_1412 rfl rfl ?_
  refine qe_iinc (y := x3 + 6) (ls2 := [some (.ref 0), some (.ref 2), some (.ref 142), some (.int (x3 + 6))]) c0_1463 rfl (Nat.le_of_ble_eq_true rfl) rfl rfl ?_
  refine qe_goto (t := 18) c0_1466 rfl ?_
  exact kk
theorem ql34 {d L : Nat} {xs : Nat → Int32} {x3 : Int32} {h h1 h2 : qH} {q : Option Value × qH} {fsC fsM : List Value} {r : Int32} (hx0 : 0 ≤ x3.toInt) (hx1 : x3.toInt + 6 ≤ L) (hL : L ≤ 3072) (hs : h.2.2 0 = some (.inl (8, L, .inl xs))) (hC : h.2.2 2 = some (.inr (11, fsC))) (c1 : qCall d 35 [.ref 2, .int (xs (x3 + 1).toNatClampNeg)] h (some (.int r), h1)) (hs1 : h1.2.2 0 = some (.inl (8, L, .inl xs))) (hM : h1.2.2 142 = some (.inr (12, fsM))) (c2 : qCall d 90 [.ref 142, .int (xs (x3 + 1).toNatClampNeg)] h1 (some (.int r), h2)) (hk : (xs x3.toNatClampNeg &&& 63).toInt = 34) (kk : qE d 0 18 [some (.ref 0), some (.ref 2), some (.ref 142), some (.int (x3 + 6))] [] h2 q) : qE d 0 27 [some (.ref 0), some (.ref 2), some (.ref 142), some (.int x3)] [] h q := by
  refine qe_aload_n c0_27 rfl ?_
  refine qe_iload_n c0_28 rfl ?_
  refine qe_script c0_29 hs ⟨hx0, by omega⟩ ?_
  refine qe_bipush (x := 63) c0_30 (by decide) ?_
  refine qe_iand c0_32 ?_
  refine qe_table (off := 1384) (t := 1417) c0_33 (by rw [hk]; decide) (by rw [hk]; decide) rfl ?_
  refine qe_aload_n c0_1417 rfl ?_
  refine qe_aload_n c0_1418 rfl ?_
  refine qe_iload_n c0_1419 rfl ?_
  refine qe_iconst (x := 1) c0_1420 (by decide) ?_
  refine qe_iadd c0_1421 ?_
  refine qe_script c0_1422 hs (qidx (c := 1) (by decide) (by decide) hx0 hx1 hL) ?_
  refine qe_virtual (b := 2) (as := [.int (xs (x3 + 1).toNatClampNeg)]) (r := []) (v := some (.int r)) (h2 := h1) c0_1423 qo0 qK13_161 rfl rfl rfl (by rw [qo35]; exact hC) (Nat.le_of_ble_eq_true rfl) c1 ?_
  refine qe_aload_n c0_1426 rfl ?_
  refine qe_aload_n c0_1427 rfl ?_
  refine qe_iload_n c0_1428 rfl ?_
  refine qe_iconst (x := 1) c0_1429 (by decide) ?_
  refine qe_iadd c0_1430 ?_
  refine qe_script c0_1431 hs1 (qidx (c := 1) (by decide) (by decide) hx0 hx1 hL) ?_
  refine qe_virtual (b := 142) (as := [.int (xs (x3 + 1).toNatClampNeg)]) (r := [.int r]) (v := some (.int r)) (h2 := h2) c0_1432 qo0 qK13_164 rfl rfl rfl (by rw [qo90]; exact hM) (Nat.le_of_ble_eq_true rfl) c2 ?_
  refine qe_icmp_eq_T (t := 1463) c0_1435 rfl rfl ?_
  refine qe_iinc (y := x3 + 6) (ls2 := [some (.ref 0), some (.ref 2), some (.ref 142), some (.int (x3 + 6))]) c0_1463 rfl (Nat.le_of_ble_eq_true rfl) rfl rfl ?_
  refine qe_goto (t := 18) c0_1466 rfl ?_
  exact kk
theorem ql35 {d L : Nat} {xs : Nat → Int32} {x3 : Int32} {h h1 h2 : qH} {q : Option Value × qH} {fsC fsM : List Value} {r : Int32} (hx0 : 0 ≤ x3.toInt) (hx1 : x3.toInt + 6 ≤ L) (hL : L ≤ 3072) (hs : h.2.2 0 = some (.inl (8, L, .inl xs))) (hC : h.2.2 2 = some (.inr (11, fsC))) (c1 : qCall d 42 [.ref 2, .int (xs (x3 + 1).toNatClampNeg)] h (some (.int r), h1)) (hs1 : h1.2.2 0 = some (.inl (8, L, .inl xs))) (hM : h1.2.2 142 = some (.inr (12, fsM))) (c2 : qCall d 98 [.ref 142, .int (xs (x3 + 1).toNatClampNeg)] h1 (some (.int r), h2)) (hk : (xs x3.toNatClampNeg &&& 63).toInt = 35) (kk : qE d 0 18 [some (.ref 0), some (.ref 2), some (.ref 142), some (.int (x3 + 6))] [] h2 q) : qE d 0 27 [some (.ref 0), some (.ref 2), some (.ref 142), some (.int x3)] [] h q := by
  refine qe_aload_n c0_27 rfl ?_
  refine qe_iload_n c0_28 rfl ?_
  refine qe_script c0_29 hs ⟨hx0, by omega⟩ ?_
  refine qe_bipush (x := 63) c0_30 (by decide) ?_
  refine qe_iand c0_32 ?_
  refine qe_table (off := 1407) (t := 1440) c0_33 (by rw [hk]; decide) (by rw [hk]; decide) rfl ?_
  refine qe_aload_n c0_1440 rfl ?_
  refine qe_aload_n c0_1441 rfl ?_
  refine qe_iload_n c0_1442 rfl ?_
  refine qe_iconst (x := 1) c0_1443 (by decide) ?_
  refine qe_iadd c0_1444 ?_
  refine qe_script c0_1445 hs (qidx (c := 1) (by decide) (by decide) hx0 hx1 hL) ?_
  refine qe_virtual (b := 2) (as := [.int (xs (x3 + 1).toNatClampNeg)]) (r := []) (v := some (.int r)) (h2 := h1) c0_1446 qo0 qK13_165 rfl rfl rfl (by rw [qo42]; exact hC) (Nat.le_of_ble_eq_true rfl) c1 ?_
  refine qe_aload_n c0_1449 rfl ?_
  refine qe_aload_n c0_1450 rfl ?_
  refine qe_iload_n c0_1451 rfl ?_
  refine qe_iconst (x := 1) c0_1452 (by decide) ?_
  refine qe_iadd c0_1453 ?_
  refine qe_script c0_1454 hs1 (qidx (c := 1) (by decide) (by decide) hx0 hx1 hL) ?_
  refine qe_virtual (b := 142) (as := [.int (xs (x3 + 1).toNatClampNeg)]) (r := [.int r]) (v := some (.int r)) (h2 := h2) c0_1455 qo0 qK13_168 rfl rfl rfl (by rw [qo98]; exact hM) (Nat.le_of_ble_eq_true rfl) c2 ?_
  refine qe_icmp_eq_T (t := 1463) c0_1458 rfl rfl ?_
  refine qe_iinc (y := x3 + 6) (ls2 := [some (.ref 0), some (.ref 2), some (.ref 142), some (.int (x3 + 6))]) c0_1463 rfl (Nat.le_of_ble_eq_true rfl) rfl rfl ?_
  refine qe_goto (t := 18) c0_1466 rfl ?_
  exact kk
theorem qlD {d L : Nat} {xs : Nat → Int32} {x3 : Int32} {h : qH} {q : Option Value × qH} (hx0 : 0 ≤ x3.toInt) (hx1 : x3.toInt + 6 ≤ L) (hL : L ≤ 3072) (hs : h.2.2 0 = some (.inl (8, L, .inl xs))) (hk : (xs x3.toNatClampNeg &&& 63).toInt < 0 ∨ 35 < (xs x3.toNatClampNeg &&& 63).toInt) (kk : qE d 0 18 [some (.ref 0), some (.ref 2), some (.ref 142), some (.int (x3 + 6))] [] h q) : qE d 0 27 [some (.ref 0), some (.ref 2), some (.ref 142), some (.int x3)] [] h q := by
  refine qe_aload_n c0_27 rfl ?_
  refine qe_iload_n c0_28 rfl ?_
  refine qe_script c0_29 hs ⟨hx0, by omega⟩ ?_
  refine qe_bipush (x := 63) c0_30 (by decide) ?_
  refine qe_iand c0_32 ?_
  refine qe_tableD (t := 1463) c0_33 hk rfl ?_
  refine qe_iinc (y := x3 + 6) (ls2 := [some (.ref 0), some (.ref 2), some (.ref 142), some (.int (x3 + 6))]) c0_1463 rfl (Nat.le_of_ble_eq_true rfl) rfl rfl ?_
  refine qe_goto (t := 18) c0_1466 rfl ?_
  exact kk
theorem qlend {d L : Nat} {xs : Nat → Int32} {x3 : Int32} {h : qH} (hs : h.2.2 0 = some (.inl (8, L, .inl xs))) (hc : Int32.ofNat L - 6 < x3) : qE d 0 18 [some (.ref 0), some (.ref 2), some (.ref 142), some (.int x3)] [] h (some (.int 1), h) := by
  refine qe_iload_n c0_18 rfl ?_
  refine qe_aload_n c0_19 rfl ?_
  refine qe_arraylength c0_20 hs ?_
  refine qe_bipush (x := 6) c0_21 (by decide) ?_
  refine qe_isub c0_23 ?_
  refine qe_icmp_gt_T (t := 1469) c0_24 rfl hc ?_
  refine qe_iconst (x := 1) c0_1469 (by decide) ?_
  exact qe_zret c0_1470 qr0 (by decide)
theorem qlgo {d L : Nat} {xs : Nat → Int32} {x3 : Int32} {h : qH} {q : Option Value × qH} (hs : h.2.2 0 = some (.inl (8, L, .inl xs))) (hc : ¬ (Int32.ofNat L - 6 < x3)) (kk : qE d 0 27 [some (.ref 0), some (.ref 2), some (.ref 142), some (.int x3)] [] h q) : qE d 0 18 [some (.ref 0), some (.ref 2), some (.ref 142), some (.int x3)] [] h q := by
  refine qe_iload_n c0_18 rfl ?_
  refine qe_aload_n c0_19 rfl ?_
  refine qe_arraylength c0_20 hs ?_
  refine qe_bipush (x := 6) c0_21 (by decide) ?_
  refine qe_isub c0_23 ?_
  refine qe_icmp_gt_F (t := 1469) c0_24 rfl hc ?_
  exact kk
