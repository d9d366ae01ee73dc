set_option maxRecDepth 100000 in
theorem okm_231 : okM1 231 = true := by decide +kernel
theorem OK_231 : OKm 231 := OKm_of okm_231
set_option maxRecDepth 100000 in
theorem okm_232 : okM1 232 = true := by decide +kernel
theorem OK_232 : OKm 232 := OKm_of okm_232
set_option maxRecDepth 100000 in
theorem okm_233 : okM1 233 = true := by decide +kernel
theorem OK_233 : OKm 233 := OKm_of okm_233
set_option maxRecDepth 100000 in
theorem okm_234 : okM1 234 = true := by decide +kernel
theorem OK_234 : OKm 234 := OKm_of okm_234
set_option maxRecDepth 100000 in
theorem okm_235 : okM1 235 = true := by decide +kernel
theorem OK_235 : OKm 235 := OKm_of okm_235
set_option maxRecDepth 100000 in
theorem okm_236 : okM1 236 = true := by decide +kernel
theorem OK_236 : OKm 236 := OKm_of okm_236
set_option maxRecDepth 100000 in
theorem okm_237 : okM1 237 = true := by decide +kernel
theorem OK_237 : OKm 237 := OKm_of okm_237
set_option maxRecDepth 100000 in
theorem okm_238 : okM1 238 = true := by decide +kernel
theorem OK_238 : OKm 238 := OKm_of okm_238
set_option maxRecDepth 100000 in
theorem okm_239 : okM1 239 = true := by decide +kernel
theorem OK_239 : OKm 239 := OKm_of okm_239
set_option maxRecDepth 100000 in
theorem okm_240 : okM1 240 = true := by decide +kernel
theorem OK_240 : OKm 240 := OKm_of okm_240
set_option maxRecDepth 100000 in
theorem okm_241 : okM1 241 = true := by decide +kernel
theorem OK_241 : OKm 241 := OKm_of okm_241
set_option maxRecDepth 100000 in
theorem okm_242 : okM1 242 = true := by decide +kernel
theorem OK_242 : OKm 242 := OKm_of okm_242
set_option maxRecDepth 100000 in
theorem okm_243 : okM1 243 = true := by decide +kernel
theorem OK_243 : OKm 243 := OKm_of okm_243
set_option maxRecDepth 100000 in
theorem okm_245 : okM1 245 = true := by decide +kernel
theorem OK_245 : OKm 245 := OKm_of okm_245
set_option maxRecDepth 100000 in
theorem okm_246 : okM1 246 = true := by decide +kernel
theorem OK_246 : OKm 246 := OKm_of okm_246
set_option maxRecDepth 100000 in
theorem okm_247 : okM1 247 = true := by decide +kernel
theorem OK_247 : OKm 247 := OKm_of okm_247
set_option maxRecDepth 100000 in
theorem okm_248 : okM1 248 = true := by decide +kernel
theorem OK_248 : OKm 248 := OKm_of okm_248
set_option maxRecDepth 100000 in
theorem okm_249 : okM1 249 = true := by decide +kernel
theorem OK_249 : OKm 249 := OKm_of okm_249
set_option maxRecDepth 100000 in
theorem okm_250 : okM1 250 = true := by decide +kernel
theorem OK_250 : OKm 250 := OKm_of okm_250
set_option maxRecDepth 100000 in
theorem okm_251 : okM1 251 = true := by decide +kernel
theorem OK_251 : OKm 251 := OKm_of okm_251
set_option maxRecDepth 100000 in
theorem okm_252 : okM1 252 = true := by decide +kernel
theorem OK_252 : OKm 252 := OKm_of okm_252
set_option maxRecDepth 100000 in
theorem okm_253 : okM1 253 = true := by decide +kernel
theorem OK_253 : OKm 253 := OKm_of okm_253
set_option maxRecDepth 100000 in
theorem okm_254 : okM1 254 = true := by decide +kernel
theorem OK_254 : OKm 254 := OKm_of okm_254
