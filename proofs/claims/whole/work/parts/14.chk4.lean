/-! every entry of the table is what the bytes and the tables' words say -/
theorem ck_192 : ∀ (pc : Nat) (q : xI), tb 192 pc = some q → xval 192 pc q = true := xchk_of (N := 124) (by decide +kernel) (fun pc h => by show tb_192 pc = none; unfold tb_192; rw [show Nat.ble 124 pc = true from Nat.ble_eq_true_of_le h]; rfl)
theorem ck_193 : ∀ (pc : Nat) (q : xI), tb 193 pc = some q → xval 193 pc q = true := xchk_of (N := 47) (by decide +kernel) (fun pc h => by show tb_193 pc = none; unfold tb_193; rw [show Nat.ble 47 pc = true from Nat.ble_eq_true_of_le h]; rfl)
theorem ck_194 : ∀ (pc : Nat) (q : xI), tb 194 pc = some q → xval 194 pc q = true := xchk_of (N := 40) (by decide +kernel) (fun pc h => by show tb_194 pc = none; unfold tb_194; rw [show Nat.ble 40 pc = true from Nat.ble_eq_true_of_le h]; rfl)
theorem ck_195 : ∀ (pc : Nat) (q : xI), tb 195 pc = some q → xval 195 pc q = true := xchk_of (N := 21) (by decide +kernel) (fun pc h => by show tb_195 pc = none; unfold tb_195; rw [show Nat.ble 21 pc = true from Nat.ble_eq_true_of_le h]; rfl)
theorem ck_196_0 : xchkR 196 0 50 = true := by decide +kernel
theorem ck_196_50 : xchkR 196 50 50 = true := by decide +kernel
theorem ck_196_100 : xchkR 196 100 50 = true := by decide +kernel
theorem ck_196_150 : xchkR 196 150 50 = true := by decide +kernel
theorem ck_196_200 : xchkR 196 200 50 = true := by decide +kernel
theorem ck_196_250 : xchkR 196 250 50 = true := by decide +kernel
theorem ck_196 : ∀ (pc : Nat) (q : xI), tb 196 pc = some q → xval 196 pc q = true := by
  intro pc q ht
  by_cases hN : 264 ≤ pc
  · have h : tb 196 pc = none := by
      show tb_196 pc = none
      unfold tb_196
      rw [show Nat.ble 264 pc = true from Nat.ble_eq_true_of_le hN]
      rfl
    rw [h] at ht
    cases ht
  · by_cases h0 : pc < 50
    · exact xchkR_of ck_196_0 pc q ht (by omega) (by omega)
    by_cases h50 : pc < 100
    · exact xchkR_of ck_196_50 pc q ht (by omega) (by omega)
    by_cases h100 : pc < 150
    · exact xchkR_of ck_196_100 pc q ht (by omega) (by omega)
    by_cases h150 : pc < 200
    · exact xchkR_of ck_196_150 pc q ht (by omega) (by omega)
    by_cases h200 : pc < 250
    · exact xchkR_of ck_196_200 pc q ht (by omega) (by omega)
    exact xchkR_of ck_196_250 pc q ht (by omega) (by omega)
theorem ck_197 : ∀ (pc : Nat) (q : xI), tb 197 pc = some q → xval 197 pc q = true := xchk_of (N := 34) (by decide +kernel) (fun pc h => by show tb_197 pc = none; unfold tb_197; rw [show Nat.ble 34 pc = true from Nat.ble_eq_true_of_le h]; rfl)
theorem ck_198_0 : xchkR 198 0 50 = true := by decide +kernel
theorem ck_198_50 : xchkR 198 50 50 = true := by decide +kernel
theorem ck_198_100 : xchkR 198 100 50 = true := by decide +kernel
theorem ck_198_150 : xchkR 198 150 50 = true := by decide +kernel
theorem ck_198_200 : xchkR 198 200 50 = true := by decide +kernel
theorem ck_198_250 : xchkR 198 250 50 = true := by decide +kernel
theorem ck_198 : ∀ (pc : Nat) (q : xI), tb 198 pc = some q → xval 198 pc q = true := by
  intro pc q ht
  by_cases hN : 252 ≤ pc
  · have h : tb 198 pc = none := by
      show tb_198 pc = none
      unfold tb_198
      rw [show Nat.ble 252 pc = true from Nat.ble_eq_true_of_le hN]
      rfl
    rw [h] at ht
    cases ht
  · by_cases h0 : pc < 50
    · exact xchkR_of ck_198_0 pc q ht (by omega) (by omega)
    by_cases h50 : pc < 100
    · exact xchkR_of ck_198_50 pc q ht (by omega) (by omega)
    by_cases h100 : pc < 150
    · exact xchkR_of ck_198_100 pc q ht (by omega) (by omega)
    by_cases h150 : pc < 200
    · exact xchkR_of ck_198_150 pc q ht (by omega) (by omega)
    by_cases h200 : pc < 250
    · exact xchkR_of ck_198_200 pc q ht (by omega) (by omega)
    exact xchkR_of ck_198_250 pc q ht (by omega) (by omega)
theorem ck_199 : ∀ (pc : Nat) (q : xI), tb 199 pc = some q → xval 199 pc q = true := xchk_of (N := 29) (by decide +kernel) (fun pc h => by show tb_199 pc = none; unfold tb_199; rw [show Nat.ble 29 pc = true from Nat.ble_eq_true_of_le h]; rfl)
theorem ck_200 : ∀ (pc : Nat) (q : xI), tb 200 pc = some q → xval 200 pc q = true := xchk_of (N := 18) (by decide +kernel) (fun pc h => by show tb_200 pc = none; unfold tb_200; rw [show Nat.ble 18 pc = true from Nat.ble_eq_true_of_le h]; rfl)
theorem ck_201 : ∀ (pc : Nat) (q : xI), tb 201 pc = some q → xval 201 pc q = true := xchk_of (N := 18) (by decide +kernel) (fun pc h => by show tb_201 pc = none; unfold tb_201; rw [show Nat.ble 18 pc = true from Nat.ble_eq_true_of_le h]; rfl)
theorem ck_202 : ∀ (pc : Nat) (q : xI), tb 202 pc = some q → xval 202 pc q = true := xchk_of (N := 75) (by decide +kernel) (fun pc h => by show tb_202 pc = none; unfold tb_202; rw [show Nat.ble 75 pc = true from Nat.ble_eq_true_of_le h]; rfl)
theorem ck_203 : ∀ (pc : Nat) (q : xI), tb 203 pc = some q → xval 203 pc q = true := xchk_of (N := 153) (by decide +kernel) (fun pc h => by show tb_203 pc = none; unfold tb_203; rw [show Nat.ble 153 pc = true from Nat.ble_eq_true_of_le h]; rfl)
theorem ck_204 : ∀ (pc : Nat) (q : xI), tb 204 pc = some q → xval 204 pc q = true := xchk_of (N := 29) (by decide +kernel) (fun pc h => by show tb_204 pc = none; unfold tb_204; rw [show Nat.ble 29 pc = true from Nat.ble_eq_true_of_le h]; rfl)
theorem ck_205 : ∀ (pc : Nat) (q : xI), tb 205 pc = some q → xval 205 pc q = true := xchk_of (N := 23) (by decide +kernel) (fun pc h => by show tb_205 pc = none; unfold tb_205; rw [show Nat.ble 23 pc = true from Nat.ble_eq_true_of_le h]; rfl)
theorem ck_206 : ∀ (pc : Nat) (q : xI), tb 206 pc = some q → xval 206 pc q = true := xchk_of (N := 34) (by decide +kernel) (fun pc h => by show tb_206 pc = none; unfold tb_206; rw [show Nat.ble 34 pc = true from Nat.ble_eq_true_of_le h]; rfl)
theorem ck_207 : ∀ (pc : Nat) (q : xI), tb 207 pc = some q → xval 207 pc q = true := xchk_of (N := 51) (by decide +kernel) (fun pc h => by show tb_207 pc = none; unfold tb_207; rw [show Nat.ble 51 pc = true from Nat.ble_eq_true_of_le h]; rfl)
theorem ck_208 : ∀ (pc : Nat) (q : xI), tb 208 pc = some q → xval 208 pc q = true := xchk_of (N := 51) (by decide +kernel) (fun pc h => by show tb_208 pc = none; unfold tb_208; rw [show Nat.ble 51 pc = true from Nat.ble_eq_true_of_le h]; rfl)
theorem ck_209 : ∀ (pc : Nat) (q : xI), tb 209 pc = some q → xval 209 pc q = true := xchk_of (N := 25) (by decide +kernel) (fun pc h => by show tb_209 pc = none; unfold tb_209; rw [show Nat.ble 25 pc = true from Nat.ble_eq_true_of_le h]; rfl)
theorem ck_210 : ∀ (pc : Nat) (q : xI), tb 210 pc = some q → xval 210 pc q = true := xchk_of (N := 47) (by decide +kernel) (fun pc h => by show tb_210 pc = none; unfold tb_210; rw [show Nat.ble 47 pc = true from Nat.ble_eq_true_of_le h]; rfl)
theorem ck_211 : ∀ (pc : Nat) (q : xI), tb 211 pc = some q → xval 211 pc q = true := xchk_of (N := 89) (by decide +kernel) (fun pc h => by show tb_211 pc = none; unfold tb_211; rw [show Nat.ble 89 pc = true from Nat.ble_eq_true_of_le h]; rfl)
theorem ck_212_0 : xchkR 212 0 50 = true := by decide +kernel
theorem ck_212_50 : xchkR 212 50 50 = true := by decide +kernel
theorem ck_212_100 : xchkR 212 100 50 = true := by decide +kernel
theorem ck_212_150 : xchkR 212 150 50 = true := by decide +kernel
theorem ck_212_200 : xchkR 212 200 50 = true := by decide +kernel
theorem ck_212_250 : xchkR 212 250 50 = true := by decide +kernel
theorem ck_212 : ∀ (pc : Nat) (q : xI), tb 212 pc = some q → xval 212 pc q = true := by
  intro pc q ht
  by_cases hN : 286 ≤ pc
  · have h : tb 212 pc = none := by
      show tb_212 pc = none
      unfold tb_212
      rw [show Nat.ble 286 pc = true from Nat.ble_eq_true_of_le hN]
      rfl
    rw [h] at ht
    cases ht
  · by_cases h0 : pc < 50
    · exact xchkR_of ck_212_0 pc q ht (by omega) (by omega)
    by_cases h50 : pc < 100
    · exact xchkR_of ck_212_50 pc q ht (by omega) (by omega)
    by_cases h100 : pc < 150
    · exact xchkR_of ck_212_100 pc q ht (by omega) (by omega)
    by_cases h150 : pc < 200
    · exact xchkR_of ck_212_150 pc q ht (by omega) (by omega)
    by_cases h200 : pc < 250
    · exact xchkR_of ck_212_200 pc q ht (by omega) (by omega)
    exact xchkR_of ck_212_250 pc q ht (by omega) (by omega)
theorem ck_213 : ∀ (pc : Nat) (q : xI), tb 213 pc = some q → xval 213 pc q = true := xchk_of (N := 30) (by decide +kernel) (fun pc h => by show tb_213 pc = none; unfold tb_213; rw [show Nat.ble 30 pc = true from Nat.ble_eq_true_of_le h]; rfl)
theorem ck_214 : ∀ (pc : Nat) (q : xI), tb 214 pc = some q → xval 214 pc q = true := xchk_of (N := 19) (by decide +kernel) (fun pc h => by show tb_214 pc = none; unfold tb_214; rw [show Nat.ble 19 pc = true from Nat.ble_eq_true_of_le h]; rfl)
theorem ck_215 : ∀ (pc : Nat) (q : xI), tb 215 pc = some q → xval 215 pc q = true := xchk_of (N := 55) (by decide +kernel) (fun pc h => by show tb_215 pc = none; unfold tb_215; rw [show Nat.ble 55 pc = true from Nat.ble_eq_true_of_le h]; rfl)
theorem ck_216 : ∀ (pc : Nat) (q : xI), tb 216 pc = some q → xval 216 pc q = true := xchk_of (N := 42) (by decide +kernel) (fun pc h => by show tb_216 pc = none; unfold tb_216; rw [show Nat.ble 42 pc = true from Nat.ble_eq_true_of_le h]; rfl)
theorem ck_217 : ∀ (pc : Nat) (q : xI), tb 217 pc = some q → xval 217 pc q = true := xchk_of (N := 39) (by decide +kernel) (fun pc h => by show tb_217 pc = none; unfold tb_217; rw [show Nat.ble 39 pc = true from Nat.ble_eq_true_of_le h]; rfl)
theorem ck_218 : ∀ (pc : Nat) (q : xI), tb 218 pc = some q → xval 218 pc q = true := xchk_of (N := 74) (by decide +kernel) (fun pc h => by show tb_218 pc = none; unfold tb_218; rw [show Nat.ble 74 pc = true from Nat.ble_eq_true_of_le h]; rfl)
theorem ck_219 : ∀ (pc : Nat) (q : xI), tb 219 pc = some q → xval 219 pc q = true := xchk_of (N := 19) (by decide +kernel) (fun pc h => by show tb_219 pc = none; unfold tb_219; rw [show Nat.ble 19 pc = true from Nat.ble_eq_true_of_le h]; rfl)
theorem ck_220 : ∀ (pc : Nat) (q : xI), tb 220 pc = some q → xval 220 pc q = true := xchk_of (N := 18) (by decide +kernel) (fun pc h => by show tb_220 pc = none; unfold tb_220; rw [show Nat.ble 18 pc = true from Nat.ble_eq_true_of_le h]; rfl)
theorem ck_221 : ∀ (pc : Nat) (q : xI), tb 221 pc = some q → xval 221 pc q = true := xchk_of (N := 29) (by decide +kernel) (fun pc h => by show tb_221 pc = none; unfold tb_221; rw [show Nat.ble 29 pc = true from Nat.ble_eq_true_of_le h]; rfl)
theorem ck_222 : ∀ (pc : Nat) (q : xI), tb 222 pc = some q → xval 222 pc q = true := xchk_of (N := 88) (by decide +kernel) (fun pc h => by show tb_222 pc = none; unfold tb_222; rw [show Nat.ble 88 pc = true from Nat.ble_eq_true_of_le h]; rfl)
theorem ck_223 : ∀ (pc : Nat) (q : xI), tb 223 pc = some q → xval 223 pc q = true := xchk_of (N := 28) (by decide +kernel) (fun pc h => by show tb_223 pc = none; unfold tb_223; rw [show Nat.ble 28 pc = true from Nat.ble_eq_true_of_le h]; rfl)
theorem ck_224 : ∀ (pc : Nat) (q : xI), tb 224 pc = some q → xval 224 pc q = true := xchk_of (N := 59) (by decide +kernel) (fun pc h => by show tb_224 pc = none; unfold tb_224; rw [show Nat.ble 59 pc = true from Nat.ble_eq_true_of_le h]; rfl)
theorem ck_225_0 : xchkR 225 0 50 = true := by decide +kernel
theorem ck_225_50 : xchkR 225 50 50 = true := by decide +kernel
theorem ck_225_100 : xchkR 225 100 50 = true := by decide +kernel
theorem ck_225_150 : xchkR 225 150 50 = true := by decide +kernel
theorem ck_225_200 : xchkR 225 200 50 = true := by decide +kernel
theorem ck_225_250 : xchkR 225 250 50 = true := by decide +kernel
theorem ck_225_300 : xchkR 225 300 50 = true := by decide +kernel
theorem ck_225_350 : xchkR 225 350 50 = true := by decide +kernel
theorem ck_225 : ∀ (pc : Nat) (q : xI), tb 225 pc = some q → xval 225 pc q = true := by
  intro pc q ht
  by_cases hN : 358 ≤ pc
  · have h : tb 225 pc = none := by
      show tb_225 pc = none
      unfold tb_225
      rw [show Nat.ble 358 pc = true from Nat.ble_eq_true_of_le hN]
      rfl
    rw [h] at ht
    cases ht
  · by_cases h0 : pc < 50
    · exact xchkR_of ck_225_0 pc q ht (by omega) (by omega)
    by_cases h50 : pc < 100
    · exact xchkR_of ck_225_50 pc q ht (by omega) (by omega)
    by_cases h100 : pc < 150
    · exact xchkR_of ck_225_100 pc q ht (by omega) (by omega)
    by_cases h150 : pc < 200
    · exact xchkR_of ck_225_150 pc q ht (by omega) (by omega)
    by_cases h200 : pc < 250
    · exact xchkR_of ck_225_200 pc q ht (by omega) (by omega)
    by_cases h250 : pc < 300
    · exact xchkR_of ck_225_250 pc q ht (by omega) (by omega)
    by_cases h300 : pc < 350
    · exact xchkR_of ck_225_300 pc q ht (by omega) (by omega)
    exact xchkR_of ck_225_350 pc q ht (by omega) (by omega)
theorem ck_226 : ∀ (pc : Nat) (q : xI), tb 226 pc = some q → xval 226 pc q = true := xchk_of (N := 39) (by decide +kernel) (fun pc h => by show tb_226 pc = none; unfold tb_226; rw [show Nat.ble 39 pc = true from Nat.ble_eq_true_of_le h]; rfl)
theorem ck_227 : ∀ (pc : Nat) (q : xI), tb 227 pc = some q → xval 227 pc q = true := xchk_of (N := 42) (by decide +kernel) (fun pc h => by show tb_227 pc = none; unfold tb_227; rw [show Nat.ble 42 pc = true from Nat.ble_eq_true_of_le h]; rfl)
theorem ck_228 : ∀ (pc : Nat) (q : xI), tb 228 pc = some q → xval 228 pc q = true := xchk_of (N := 183) (by decide +kernel) (fun pc h => by show tb_228 pc = none; unfold tb_228; rw [show Nat.ble 183 pc = true from Nat.ble_eq_true_of_le h]; rfl)
theorem ck_229 : ∀ (pc : Nat) (q : xI), tb 229 pc = some q → xval 229 pc q = true := xchk_of (N := 41) (by decide +kernel) (fun pc h => by show tb_229 pc = none; unfold tb_229; rw [show Nat.ble 41 pc = true from Nat.ble_eq_true_of_le h]; rfl)
theorem ck_230_0 : xchkR 230 0 50 = true := by decide +kernel
theorem ck_230_50 : xchkR 230 50 50 = true := by decide +kernel
theorem ck_230_100 : xchkR 230 100 50 = true := by decide +kernel
theorem ck_230_150 : xchkR 230 150 50 = true := by decide +kernel
theorem ck_230_200 : xchkR 230 200 50 = true := by decide +kernel
theorem ck_230_250 : xchkR 230 250 50 = true := by decide +kernel
theorem ck_230 : ∀ (pc : Nat) (q : xI), tb 230 pc = some q → xval 230 pc q = true := by
  intro pc q ht
  by_cases hN : 253 ≤ pc
  · have h : tb 230 pc = none := by
      show tb_230 pc = none
      unfold tb_230
      rw [show Nat.ble 253 pc = true from Nat.ble_eq_true_of_le hN]
      rfl
    rw [h] at ht
    cases ht
  · by_cases h0 : pc < 50
    · exact xchkR_of ck_230_0 pc q ht (by omega) (by omega)
    by_cases h50 : pc < 100
    · exact xchkR_of ck_230_50 pc q ht (by omega) (by omega)
    by_cases h100 : pc < 150
    · exact xchkR_of ck_230_100 pc q ht (by omega) (by omega)
    by_cases h150 : pc < 200
    · exact xchkR_of ck_230_150 pc q ht (by omega) (by omega)
    by_cases h200 : pc < 250
    · exact xchkR_of ck_230_200 pc q ht (by omega) (by omega)
    exact xchkR_of ck_230_250 pc q ht (by omega) (by omega)
theorem ck_231 : ∀ (pc : Nat) (q : xI), tb 231 pc = some q → xval 231 pc q = true := xchk_of (N := 25) (by decide +kernel) (fun pc h => by show tb_231 pc = none; unfold tb_231; rw [show Nat.ble 25 pc = true from Nat.ble_eq_true_of_le h]; rfl)
theorem ck_232 : ∀ (pc : Nat) (q : xI), tb 232 pc = some q → xval 232 pc q = true := xchk_of (N := 24) (by decide +kernel) (fun pc h => by show tb_232 pc = none; unfold tb_232; rw [show Nat.ble 24 pc = true from Nat.ble_eq_true_of_le h]; rfl)
theorem ck_233 : ∀ (pc : Nat) (q : xI), tb 233 pc = some q → xval 233 pc q = true := xchk_of (N := 49) (by decide +kernel) (fun pc h => by show tb_233 pc = none; unfold tb_233; rw [show Nat.ble 49 pc = true from Nat.ble_eq_true_of_le h]; rfl)
theorem ck_234 : ∀ (pc : Nat) (q : xI), tb 234 pc = some q → xval 234 pc q = true := xchk_of (N := 31) (by decide +kernel) (fun pc h => by show tb_234 pc = none; unfold tb_234; rw [show Nat.ble 31 pc = true from Nat.ble_eq_true_of_le h]; rfl)
theorem ck_235 : ∀ (pc : Nat) (q : xI), tb 235 pc = some q → xval 235 pc q = true := xchk_of (N := 30) (by decide +kernel) (fun pc h => by show tb_235 pc = none; unfold tb_235; rw [show Nat.ble 30 pc = true from Nat.ble_eq_true_of_le h]; rfl)
theorem ck_236 : ∀ (pc : Nat) (q : xI), tb 236 pc = some q → xval 236 pc q = true := xchk_of (N := 43) (by decide +kernel) (fun pc h => by show tb_236 pc = none; unfold tb_236; rw [show Nat.ble 43 pc = true from Nat.ble_eq_true_of_le h]; rfl)
theorem ck_237 : ∀ (pc : Nat) (q : xI), tb 237 pc = some q → xval 237 pc q = true := xchk_of (N := 182) (by decide +kernel) (fun pc h => by show tb_237 pc = none; unfold tb_237; rw [show Nat.ble 182 pc = true from Nat.ble_eq_true_of_le h]; rfl)
theorem ck_238 : ∀ (pc : Nat) (q : xI), tb 238 pc = some q → xval 238 pc q = true := xchk_of (N := 58) (by decide +kernel) (fun pc h => by show tb_238 pc = none; unfold tb_238; rw [show Nat.ble 58 pc = true from Nat.ble_eq_true_of_le h]; rfl)
theorem ck_239 : ∀ (pc : Nat) (q : xI), tb 239 pc = some q → xval 239 pc q = true := xchk_of (N := 33) (by decide +kernel) (fun pc h => by show tb_239 pc = none; unfold tb_239; rw [show Nat.ble 33 pc = true from Nat.ble_eq_true_of_le h]; rfl)
theorem ck_240 : ∀ (pc : Nat) (q : xI), tb 240 pc = some q → xval 240 pc q = true := xchk_of (N := 15) (by decide +kernel) (fun pc h => by show tb_240 pc = none; unfold tb_240; rw [show Nat.ble 15 pc = true from Nat.ble_eq_true_of_le h]; rfl)
theorem ck_241 : ∀ (pc : Nat) (q : xI), tb 241 pc = some q → xval 241 pc q = true := xchk_of (N := 75) (by decide +kernel) (fun pc h => by show tb_241 pc = none; unfold tb_241; rw [show Nat.ble 75 pc = true from Nat.ble_eq_true_of_le h]; rfl)
theorem ck_242 : ∀ (pc : Nat) (q : xI), tb 242 pc = some q → xval 242 pc q = true := xchk_of (N := 135) (by decide +kernel) (fun pc h => by show tb_242 pc = none; unfold tb_242; rw [show Nat.ble 135 pc = true from Nat.ble_eq_true_of_le h]; rfl)
theorem ck_243 : ∀ (pc : Nat) (q : xI), tb 243 pc = some q → xval 243 pc q = true := xchk_of (N := 129) (by decide +kernel) (fun pc h => by show tb_243 pc = none; unfold tb_243; rw [show Nat.ble 129 pc = true from Nat.ble_eq_true_of_le h]; rfl)
theorem ck_244 : ∀ (pc : Nat) (q : xI), tb 244 pc = some q → xval 244 pc q = true := xchk_of (N := 26) (by decide +kernel) (fun pc h => by show tb_244 pc = none; unfold tb_244; rw [show Nat.ble 26 pc = true from Nat.ble_eq_true_of_le h]; rfl)
theorem ck_245 : ∀ (pc : Nat) (q : xI), tb 245 pc = some q → xval 245 pc q = true := xchk_of (N := 48) (by decide +kernel) (fun pc h => by show tb_245 pc = none; unfold tb_245; rw [show Nat.ble 48 pc = true from Nat.ble_eq_true_of_le h]; rfl)
theorem ck_246_0 : xchkR 246 0 50 = true := by decide +kernel
theorem ck_246_50 : xchkR 246 50 50 = true := by decide +kernel
theorem ck_246_100 : xchkR 246 100 50 = true := by decide +kernel
theorem ck_246_150 : xchkR 246 150 50 = true := by decide +kernel
theorem ck_246_200 : xchkR 246 200 50 = true := by decide +kernel
theorem ck_246_250 : xchkR 246 250 50 = true := by decide +kernel
theorem ck_246 : ∀ (pc : Nat) (q : xI), tb 246 pc = some q → xval 246 pc q = true := by
  intro pc q ht
  by_cases hN : 254 ≤ pc
  · have h : tb 246 pc = none := by
      show tb_246 pc = none
      unfold tb_246
      rw [show Nat.ble 254 pc = true from Nat.ble_eq_true_of_le hN]
      rfl
    rw [h] at ht
    cases ht
  · by_cases h0 : pc < 50
    · exact xchkR_of ck_246_0 pc q ht (by omega) (by omega)
    by_cases h50 : pc < 100
    · exact xchkR_of ck_246_50 pc q ht (by omega) (by omega)
    by_cases h100 : pc < 150
    · exact xchkR_of ck_246_100 pc q ht (by omega) (by omega)
    by_cases h150 : pc < 200
    · exact xchkR_of ck_246_150 pc q ht (by omega) (by omega)
    by_cases h200 : pc < 250
    · exact xchkR_of ck_246_200 pc q ht (by omega) (by omega)
    exact xchkR_of ck_246_250 pc q ht (by omega) (by omega)
theorem ck_247 : ∀ (pc : Nat) (q : xI), tb 247 pc = some q → xval 247 pc q = true := xchk_of (N := 26) (by decide +kernel) (fun pc h => by show tb_247 pc = none; unfold tb_247; rw [show Nat.ble 26 pc = true from Nat.ble_eq_true_of_le h]; rfl)
theorem ck_248 : ∀ (pc : Nat) (q : xI), tb 248 pc = some q → xval 248 pc q = true := xchk_of (N := 22) (by decide +kernel) (fun pc h => by show tb_248 pc = none; unfold tb_248; rw [show Nat.ble 22 pc = true from Nat.ble_eq_true_of_le h]; rfl)
theorem ck_249 : ∀ (pc : Nat) (q : xI), tb 249 pc = some q → xval 249 pc q = true := xchk_of (N := 21) (by decide +kernel) (fun pc h => by show tb_249 pc = none; unfold tb_249; rw [show Nat.ble 21 pc = true from Nat.ble_eq_true_of_le h]; rfl)
theorem ck_250 : ∀ (pc : Nat) (q : xI), tb 250 pc = some q → xval 250 pc q = true := xchk_of (N := 204) (by decide +kernel) (fun pc h => by show tb_250 pc = none; unfold tb_250; rw [show Nat.ble 204 pc = true from Nat.ble_eq_true_of_le h]; rfl)
theorem ck_251 : ∀ (pc : Nat) (q : xI), tb 251 pc = some q → xval 251 pc q = true := xchk_of (N := 29) (by decide +kernel) (fun pc h => by show tb_251 pc = none; unfold tb_251; rw [show Nat.ble 29 pc = true from Nat.ble_eq_true_of_le h]; rfl)
theorem ck_252 : ∀ (pc : Nat) (q : xI), tb 252 pc = some q → xval 252 pc q = true := xchk_of (N := 37) (by decide +kernel) (fun pc h => by show tb_252 pc = none; unfold tb_252; rw [show Nat.ble 37 pc = true from Nat.ble_eq_true_of_le h]; rfl)
theorem ck_253 : ∀ (pc : Nat) (q : xI), tb 253 pc = some q → xval 253 pc q = true := xchk_of (N := 132) (by decide +kernel) (fun pc h => by show tb_253 pc = none; unfold tb_253; rw [show Nat.ble 132 pc = true from Nat.ble_eq_true_of_le h]; rfl)
theorem ck_254 : ∀ (pc : Nat) (q : xI), tb 254 pc = some q → xval 254 pc q = true := xchk_of (N := 67) (by decide +kernel) (fun pc h => by show tb_254 pc = none; unfold tb_254; rw [show Nat.ble 67 pc = true from Nat.ble_eq_true_of_le h]; rfl)
theorem ck_255 : ∀ (pc : Nat) (q : xI), tb 255 pc = some q → xval 255 pc q = true := xchk_of (N := 36) (by decide +kernel) (fun pc h => by show tb_255 pc = none; unfold tb_255; rw [show Nat.ble 36 pc = true from Nat.ble_eq_true_of_le h]; rfl)
theorem ck_256 : ∀ (pc : Nat) (q : xI), tb 256 pc = some q → xval 256 pc q = true := xchk_of (N := 25) (by decide +kernel) (fun pc h => by show tb_256 pc = none; unfold tb_256; rw [show Nat.ble 25 pc = true from Nat.ble_eq_true_of_le h]; rfl)
theorem ck_257 : ∀ (pc : Nat) (q : xI), tb 257 pc = some q → xval 257 pc q = true := xchk_of (N := 16) (by decide +kernel) (fun pc h => by show tb_257 pc = none; unfold tb_257; rw [show Nat.ble 16 pc = true from Nat.ble_eq_true_of_le h]; rfl)
theorem ck_258 : ∀ (pc : Nat) (q : xI), tb 258 pc = some q → xval 258 pc q = true := xchk_of (N := 160) (by decide +kernel) (fun pc h => by show tb_258 pc = none; unfold tb_258; rw [show Nat.ble 160 pc = true from Nat.ble_eq_true_of_le h]; rfl)
theorem ck_259 : ∀ (pc : Nat) (q : xI), tb 259 pc = some q → xval 259 pc q = true := xchk_of (N := 56) (by decide +kernel) (fun pc h => by show tb_259 pc = none; unfold tb_259; rw [show Nat.ble 56 pc = true from Nat.ble_eq_true_of_le h]; rfl)
