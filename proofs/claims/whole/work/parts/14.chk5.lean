/-! every entry of the table is what the bytes and the tables' words say -/
theorem ck_260 : ∀ (pc : Nat) (q : xI), tb 260 pc = some q → xval 260 pc q = true := xchk_of (N := 39) (by decide +kernel) (fun pc h => by show tb_260 pc = none; unfold tb_260; rw [show Nat.ble 39 pc = true from Nat.ble_eq_true_of_le h]; rfl)
theorem ck_261 : ∀ (pc : Nat) (q : xI), tb 261 pc = some q → xval 261 pc q = true := xchk_of (N := 81) (by decide +kernel) (fun pc h => by show tb_261 pc = none; unfold tb_261; rw [show Nat.ble 81 pc = true from Nat.ble_eq_true_of_le h]; rfl)
theorem ck_262 : ∀ (pc : Nat) (q : xI), tb 262 pc = some q → xval 262 pc q = true := xchk_of (N := 67) (by decide +kernel) (fun pc h => by show tb_262 pc = none; unfold tb_262; rw [show Nat.ble 67 pc = true from Nat.ble_eq_true_of_le h]; rfl)
theorem ck_263 : ∀ (pc : Nat) (q : xI), tb 263 pc = some q → xval 263 pc q = true := xchk_of (N := 18) (by decide +kernel) (fun pc h => by show tb_263 pc = none; unfold tb_263; rw [show Nat.ble 18 pc = true from Nat.ble_eq_true_of_le h]; rfl)
theorem ck_264 : ∀ (pc : Nat) (q : xI), tb 264 pc = some q → xval 264 pc q = true := xchk_of (N := 246) (by decide +kernel) (fun pc h => by show tb_264 pc = none; unfold tb_264; rw [show Nat.ble 246 pc = true from Nat.ble_eq_true_of_le h]; rfl)
theorem ck_265 : ∀ (pc : Nat) (q : xI), tb 265 pc = some q → xval 265 pc q = true := xchk_of (N := 54) (by decide +kernel) (fun pc h => by show tb_265 pc = none; unfold tb_265; rw [show Nat.ble 54 pc = true from Nat.ble_eq_true_of_le h]; rfl)
theorem ck_266 : ∀ (pc : Nat) (q : xI), tb 266 pc = some q → xval 266 pc q = true := xchk_of (N := 37) (by decide +kernel) (fun pc h => by show tb_266 pc = none; unfold tb_266; rw [show Nat.ble 37 pc = true from Nat.ble_eq_true_of_le h]; rfl)
theorem ck_267 : ∀ (pc : Nat) (q : xI), tb 267 pc = some q → xval 267 pc q = true := xchk_of (N := 29) (by decide +kernel) (fun pc h => by show tb_267 pc = none; unfold tb_267; rw [show Nat.ble 29 pc = true from Nat.ble_eq_true_of_le h]; rfl)
theorem ck_268 : ∀ (pc : Nat) (q : xI), tb 268 pc = some q → xval 268 pc q = true := xchk_of (N := 31) (by decide +kernel) (fun pc h => by show tb_268 pc = none; unfold tb_268; rw [show Nat.ble 31 pc = true from Nat.ble_eq_true_of_le h]; rfl)
theorem ck_269 : ∀ (pc : Nat) (q : xI), tb 269 pc = some q → xval 269 pc q = true := xchk_of (N := 87) (by decide +kernel) (fun pc h => by show tb_269 pc = none; unfold tb_269; rw [show Nat.ble 87 pc = true from Nat.ble_eq_true_of_le h]; rfl)
theorem ck_270_0 : xchkR 270 0 50 = true := by decide +kernel
theorem ck_270_50 : xchkR 270 50 50 = true := by decide +kernel
theorem ck_270_100 : xchkR 270 100 50 = true := by decide +kernel
theorem ck_270_150 : xchkR 270 150 50 = true := by decide +kernel
theorem ck_270_200 : xchkR 270 200 50 = true := by decide +kernel
theorem ck_270_250 : xchkR 270 250 50 = true := by decide +kernel
theorem ck_270 : ∀ (pc : Nat) (q : xI), tb 270 pc = some q → xval 270 pc q = true := by
  intro pc q ht
  by_cases hN : 269 ≤ pc
  · have h : tb 270 pc = none := by
      show tb_270 pc = none
      unfold tb_270
      rw [show Nat.ble 269 pc = true from Nat.ble_eq_true_of_le hN]
      rfl
    rw [h] at ht
    cases ht
  · by_cases h0 : pc < 50
    · exact xchkR_of ck_270_0 pc q ht (by omega) (by omega)
    by_cases h50 : pc < 100
    · exact xchkR_of ck_270_50 pc q ht (by omega) (by omega)
    by_cases h100 : pc < 150
    · exact xchkR_of ck_270_100 pc q ht (by omega) (by omega)
    by_cases h150 : pc < 200
    · exact xchkR_of ck_270_150 pc q ht (by omega) (by omega)
    by_cases h200 : pc < 250
    · exact xchkR_of ck_270_200 pc q ht (by omega) (by omega)
    exact xchkR_of ck_270_250 pc q ht (by omega) (by omega)
theorem ck_271 : ∀ (pc : Nat) (q : xI), tb 271 pc = some q → xval 271 pc q = true := xchk_of (N := 26) (by decide +kernel) (fun pc h => by show tb_271 pc = none; unfold tb_271; rw [show Nat.ble 26 pc = true from Nat.ble_eq_true_of_le h]; rfl)
theorem ck_272 : ∀ (pc : Nat) (q : xI), tb 272 pc = some q → xval 272 pc q = true := xchk_of (N := 15) (by decide +kernel) (fun pc h => by show tb_272 pc = none; unfold tb_272; rw [show Nat.ble 15 pc = true from Nat.ble_eq_true_of_le h]; rfl)
theorem ck_273 : ∀ (pc : Nat) (q : xI), tb 273 pc = some q → xval 273 pc q = true := xchk_of (N := 34) (by decide +kernel) (fun pc h => by show tb_273 pc = none; unfold tb_273; rw [show Nat.ble 34 pc = true from Nat.ble_eq_true_of_le h]; rfl)
theorem ck_274 : ∀ (pc : Nat) (q : xI), tb 274 pc = some q → xval 274 pc q = true := xchk_of (N := 18) (by decide +kernel) (fun pc h => by show tb_274 pc = none; unfold tb_274; rw [show Nat.ble 18 pc = true from Nat.ble_eq_true_of_le h]; rfl)
theorem ck_275 : ∀ (pc : Nat) (q : xI), tb 275 pc = some q → xval 275 pc q = true := xchk_of (N := 42) (by decide +kernel) (fun pc h => by show tb_275 pc = none; unfold tb_275; rw [show Nat.ble 42 pc = true from Nat.ble_eq_true_of_le h]; rfl)
theorem ck_276 : ∀ (pc : Nat) (q : xI), tb 276 pc = some q → xval 276 pc q = true := xchk_of (N := 116) (by decide +kernel) (fun pc h => by show tb_276 pc = none; unfold tb_276; rw [show Nat.ble 116 pc = true from Nat.ble_eq_true_of_le h]; rfl)
theorem ck_277 : ∀ (pc : Nat) (q : xI), tb 277 pc = some q → xval 277 pc q = true := xchk_of (N := 72) (by decide +kernel) (fun pc h => by show tb_277 pc = none; unfold tb_277; rw [show Nat.ble 72 pc = true from Nat.ble_eq_true_of_le h]; rfl)
theorem ck_278 : ∀ (pc : Nat) (q : xI), tb 278 pc = some q → xval 278 pc q = true := xchk_of (N := 90) (by decide +kernel) (fun pc h => by show tb_278 pc = none; unfold tb_278; rw [show Nat.ble 90 pc = true from Nat.ble_eq_true_of_le h]; rfl)
theorem ck_279 : ∀ (pc : Nat) (q : xI), tb 279 pc = some q → xval 279 pc q = true := xchk_of (N := 27) (by decide +kernel) (fun pc h => by show tb_279 pc = none; unfold tb_279; rw [show Nat.ble 27 pc = true from Nat.ble_eq_true_of_le h]; rfl)
theorem ck_280 : ∀ (pc : Nat) (q : xI), tb 280 pc = some q → xval 280 pc q = true := xchk_of (N := 16) (by decide +kernel) (fun pc h => by show tb_280 pc = none; unfold tb_280; rw [show Nat.ble 16 pc = true from Nat.ble_eq_true_of_le h]; rfl)
theorem ck_281 : ∀ (pc : Nat) (q : xI), tb 281 pc = some q → xval 281 pc q = true := xchk_of (N := 35) (by decide +kernel) (fun pc h => by show tb_281 pc = none; unfold tb_281; rw [show Nat.ble 35 pc = true from Nat.ble_eq_true_of_le h]; rfl)
theorem ck_282 : ∀ (pc : Nat) (q : xI), tb 282 pc = some q → xval 282 pc q = true := xchk_of (N := 40) (by decide +kernel) (fun pc h => by show tb_282 pc = none; unfold tb_282; rw [show Nat.ble 40 pc = true from Nat.ble_eq_true_of_le h]; rfl)
theorem ck_283 : ∀ (pc : Nat) (q : xI), tb 283 pc = some q → xval 283 pc q = true := xchk_of (N := 18) (by decide +kernel) (fun pc h => by show tb_283 pc = none; unfold tb_283; rw [show Nat.ble 18 pc = true from Nat.ble_eq_true_of_le h]; rfl)
theorem ck_284 : ∀ (pc : Nat) (q : xI), tb 284 pc = some q → xval 284 pc q = true := xchk_of (N := 181) (by decide +kernel) (fun pc h => by show tb_284 pc = none; unfold tb_284; rw [show Nat.ble 181 pc = true from Nat.ble_eq_true_of_le h]; rfl)
theorem ck_285 : ∀ (pc : Nat) (q : xI), tb 285 pc = some q → xval 285 pc q = true := xchk_of (N := 42) (by decide +kernel) (fun pc h => by show tb_285 pc = none; unfold tb_285; rw [show Nat.ble 42 pc = true from Nat.ble_eq_true_of_le h]; rfl)
theorem ck_286 : ∀ (pc : Nat) (q : xI), tb 286 pc = some q → xval 286 pc q = true := xchk_of (N := 169) (by decide +kernel) (fun pc h => by show tb_286 pc = none; unfold tb_286; rw [show Nat.ble 169 pc = true from Nat.ble_eq_true_of_le h]; rfl)
theorem ck_287 : ∀ (pc : Nat) (q : xI), tb 287 pc = some q → xval 287 pc q = true := xchk_of (N := 73) (by decide +kernel) (fun pc h => by show tb_287 pc = none; unfold tb_287; rw [show Nat.ble 73 pc = true from Nat.ble_eq_true_of_le h]; rfl)
theorem ck_288 : ∀ (pc : Nat) (q : xI), tb 288 pc = some q → xval 288 pc q = true := xchk_of (N := 27) (by decide +kernel) (fun pc h => by show tb_288 pc = none; unfold tb_288; rw [show Nat.ble 27 pc = true from Nat.ble_eq_true_of_le h]; rfl)
theorem ck_289 : ∀ (pc : Nat) (q : xI), tb 289 pc = some q → xval 289 pc q = true := xchk_of (N := 22) (by decide +kernel) (fun pc h => by show tb_289 pc = none; unfold tb_289; rw [show Nat.ble 22 pc = true from Nat.ble_eq_true_of_le h]; rfl)
theorem ck_290 : ∀ (pc : Nat) (q : xI), tb 290 pc = some q → xval 290 pc q = true := xchk_of (N := 109) (by decide +kernel) (fun pc h => by show tb_290 pc = none; unfold tb_290; rw [show Nat.ble 109 pc = true from Nat.ble_eq_true_of_le h]; rfl)
theorem ck_291 : ∀ (pc : Nat) (q : xI), tb 291 pc = some q → xval 291 pc q = true := xchk_of (N := 65) (by decide +kernel) (fun pc h => by show tb_291 pc = none; unfold tb_291; rw [show Nat.ble 65 pc = true from Nat.ble_eq_true_of_le h]; rfl)
theorem ck_292 : ∀ (pc : Nat) (q : xI), tb 292 pc = some q → xval 292 pc q = true := xchk_of (N := 20) (by decide +kernel) (fun pc h => by show tb_292 pc = none; unfold tb_292; rw [show Nat.ble 20 pc = true from Nat.ble_eq_true_of_le h]; rfl)
theorem ck_293 : ∀ (pc : Nat) (q : xI), tb 293 pc = some q → xval 293 pc q = true := xchk_of (N := 90) (by decide +kernel) (fun pc h => by show tb_293 pc = none; unfold tb_293; rw [show Nat.ble 90 pc = true from Nat.ble_eq_true_of_le h]; rfl)
theorem ck_294 : ∀ (pc : Nat) (q : xI), tb 294 pc = some q → xval 294 pc q = true := xchk_of (N := 19) (by decide +kernel) (fun pc h => by show tb_294 pc = none; unfold tb_294; rw [show Nat.ble 19 pc = true from Nat.ble_eq_true_of_le h]; rfl)
theorem ck_295 : ∀ (pc : Nat) (q : xI), tb 295 pc = some q → xval 295 pc q = true := xchk_of (N := 38) (by decide +kernel) (fun pc h => by show tb_295 pc = none; unfold tb_295; rw [show Nat.ble 38 pc = true from Nat.ble_eq_true_of_le h]; rfl)
theorem ck_296 : ∀ (pc : Nat) (q : xI), tb 296 pc = some q → xval 296 pc q = true := xchk_of (N := 179) (by decide +kernel) (fun pc h => by show tb_296 pc = none; unfold tb_296; rw [show Nat.ble 179 pc = true from Nat.ble_eq_true_of_le h]; rfl)
theorem ck_297 : ∀ (pc : Nat) (q : xI), tb 297 pc = some q → xval 297 pc q = true := xchk_of (N := 132) (by decide +kernel) (fun pc h => by show tb_297 pc = none; unfold tb_297; rw [show Nat.ble 132 pc = true from Nat.ble_eq_true_of_le h]; rfl)
theorem ck_298 : ∀ (pc : Nat) (q : xI), tb 298 pc = some q → xval 298 pc q = true := xchk_of (N := 19) (by decide +kernel) (fun pc h => by show tb_298 pc = none; unfold tb_298; rw [show Nat.ble 19 pc = true from Nat.ble_eq_true_of_le h]; rfl)
theorem ck_299 : ∀ (pc : Nat) (q : xI), tb 299 pc = some q → xval 299 pc q = true := xchk_of (N := 44) (by decide +kernel) (fun pc h => by show tb_299 pc = none; unfold tb_299; rw [show Nat.ble 44 pc = true from Nat.ble_eq_true_of_le h]; rfl)
theorem ck_300 : ∀ (pc : Nat) (q : xI), tb 300 pc = some q → xval 300 pc q = true := xchk_of (N := 44) (by decide +kernel) (fun pc h => by show tb_300 pc = none; unfold tb_300; rw [show Nat.ble 44 pc = true from Nat.ble_eq_true_of_le h]; rfl)
theorem ck_301 : ∀ (pc : Nat) (q : xI), tb 301 pc = some q → xval 301 pc q = true := xchk_of (N := 81) (by decide +kernel) (fun pc h => by show tb_301 pc = none; unfold tb_301; rw [show Nat.ble 81 pc = true from Nat.ble_eq_true_of_le h]; rfl)
theorem ck_302 : ∀ (pc : Nat) (q : xI), tb 302 pc = some q → xval 302 pc q = true := xchk_of (N := 15) (by decide +kernel) (fun pc h => by show tb_302 pc = none; unfold tb_302; rw [show Nat.ble 15 pc = true from Nat.ble_eq_true_of_le h]; rfl)
theorem ck_303 : ∀ (pc : Nat) (q : xI), tb 303 pc = some q → xval 303 pc q = true := xchk_of (N := 98) (by decide +kernel) (fun pc h => by show tb_303 pc = none; unfold tb_303; rw [show Nat.ble 98 pc = true from Nat.ble_eq_true_of_le h]; rfl)
theorem ck_304 : ∀ (pc : Nat) (q : xI), tb 304 pc = some q → xval 304 pc q = true := xchk_of (N := 94) (by decide +kernel) (fun pc h => by show tb_304 pc = none; unfold tb_304; rw [show Nat.ble 94 pc = true from Nat.ble_eq_true_of_le h]; rfl)
theorem ck_305 : ∀ (pc : Nat) (q : xI), tb 305 pc = some q → xval 305 pc q = true := xchk_of (N := 7) (by decide +kernel) (fun pc h => by show tb_305 pc = none; unfold tb_305; rw [show Nat.ble 7 pc = true from Nat.ble_eq_true_of_le h]; rfl)
theorem ck_306 : ∀ (pc : Nat) (q : xI), tb 306 pc = some q → xval 306 pc q = true := xchk_of (N := 37) (by decide +kernel) (fun pc h => by show tb_306 pc = none; unfold tb_306; rw [show Nat.ble 37 pc = true from Nat.ble_eq_true_of_le h]; rfl)
theorem ck_307 : ∀ (pc : Nat) (q : xI), tb 307 pc = some q → xval 307 pc q = true := xchk_of (N := 19) (by decide +kernel) (fun pc h => by show tb_307 pc = none; unfold tb_307; rw [show Nat.ble 19 pc = true from Nat.ble_eq_true_of_le h]; rfl)
theorem ck_308 : ∀ (pc : Nat) (q : xI), tb 308 pc = some q → xval 308 pc q = true := xchk_of (N := 11) (by decide +kernel) (fun pc h => by show tb_308 pc = none; unfold tb_308; rw [show Nat.ble 11 pc = true from Nat.ble_eq_true_of_le h]; rfl)
theorem ck_309 : ∀ (pc : Nat) (q : xI), tb 309 pc = some q → xval 309 pc q = true := xchk_of (N := 15) (by decide +kernel) (fun pc h => by show tb_309 pc = none; unfold tb_309; rw [show Nat.ble 15 pc = true from Nat.ble_eq_true_of_le h]; rfl)
theorem ck_310 : ∀ (pc : Nat) (q : xI), tb 310 pc = some q → xval 310 pc q = true := xchk_of (N := 37) (by decide +kernel) (fun pc h => by show tb_310 pc = none; unfold tb_310; rw [show Nat.ble 37 pc = true from Nat.ble_eq_true_of_le h]; rfl)
theorem ck_311 : ∀ (pc : Nat) (q : xI), tb 311 pc = some q → xval 311 pc q = true := xchk_of (N := 17) (by decide +kernel) (fun pc h => by show tb_311 pc = none; unfold tb_311; rw [show Nat.ble 17 pc = true from Nat.ble_eq_true_of_le h]; rfl)
theorem ck_312 : ∀ (pc : Nat) (q : xI), tb 312 pc = some q → xval 312 pc q = true := xchk_of (N := 11) (by decide +kernel) (fun pc h => by show tb_312 pc = none; unfold tb_312; rw [show Nat.ble 11 pc = true from Nat.ble_eq_true_of_le h]; rfl)
theorem ck_313 : ∀ (pc : Nat) (q : xI), tb 313 pc = some q → xval 313 pc q = true := xchk_of (N := 11) (by decide +kernel) (fun pc h => by show tb_313 pc = none; unfold tb_313; rw [show Nat.ble 11 pc = true from Nat.ble_eq_true_of_le h]; rfl)
theorem ck_314 : ∀ (pc : Nat) (q : xI), tb 314 pc = some q → xval 314 pc q = true := xchk_of (N := 33) (by decide +kernel) (fun pc h => by show tb_314 pc = none; unfold tb_314; rw [show Nat.ble 33 pc = true from Nat.ble_eq_true_of_le h]; rfl)
theorem ck_315 : ∀ (pc : Nat) (q : xI), tb 315 pc = some q → xval 315 pc q = true := xchk_of (N := 25) (by decide +kernel) (fun pc h => by show tb_315 pc = none; unfold tb_315; rw [show Nat.ble 25 pc = true from Nat.ble_eq_true_of_le h]; rfl)
theorem ck_316 : ∀ (pc : Nat) (q : xI), tb 316 pc = some q → xval 316 pc q = true := xchk_of (N := 15) (by decide +kernel) (fun pc h => by show tb_316 pc = none; unfold tb_316; rw [show Nat.ble 15 pc = true from Nat.ble_eq_true_of_le h]; rfl)
theorem ck_317 : ∀ (pc : Nat) (q : xI), tb 317 pc = some q → xval 317 pc q = true := xchk_of (N := 10) (by decide +kernel) (fun pc h => by show tb_317 pc = none; unfold tb_317; rw [show Nat.ble 10 pc = true from Nat.ble_eq_true_of_le h]; rfl)
theorem ck_318 : ∀ (pc : Nat) (q : xI), tb 318 pc = some q → xval 318 pc q = true := xchk_of (N := 18) (by decide +kernel) (fun pc h => by show tb_318 pc = none; unfold tb_318; rw [show Nat.ble 18 pc = true from Nat.ble_eq_true_of_le h]; rfl)
theorem ck_319 : ∀ (pc : Nat) (q : xI), tb 319 pc = some q → xval 319 pc q = true := xchk_of (N := 53) (by decide +kernel) (fun pc h => by show tb_319 pc = none; unfold tb_319; rw [show Nat.ble 53 pc = true from Nat.ble_eq_true_of_le h]; rfl)
