set_option maxRecDepth 100000 in
theorem okm_255 : okM1 255 = true := by decide +kernel
theorem OK_255 : OKm 255 := OKm_of okm_255
set_option maxRecDepth 100000 in
theorem okm_256 : okM1 256 = true := by decide +kernel
theorem OK_256 : OKm 256 := OKm_of okm_256
set_option maxRecDepth 100000 in
theorem okm_257 : okM1 257 = true := by decide +kernel
theorem OK_257 : OKm 257 := OKm_of okm_257
set_option maxRecDepth 100000 in
theorem okm_258 : okM1 258 = true := by decide +kernel
theorem OK_258 : OKm 258 := OKm_of okm_258
set_option maxRecDepth 100000 in
theorem okm_259 : okM1 259 = true := by decide +kernel
theorem OK_259 : OKm 259 := OKm_of okm_259
set_option maxRecDepth 100000 in
theorem okm_260 : okM1 260 = true := by decide +kernel
theorem OK_260 : OKm 260 := OKm_of okm_260
set_option maxRecDepth 100000 in
theorem okm_261 : okM1 261 = true := by decide +kernel
theorem OK_261 : OKm 261 := OKm_of okm_261
set_option maxRecDepth 100000 in
theorem okm_262 : okM1 262 = true := by decide +kernel
theorem OK_262 : OKm 262 := OKm_of okm_262
set_option maxRecDepth 100000 in
theorem okm_263 : okM1 263 = true := by decide +kernel
theorem OK_263 : OKm 263 := OKm_of okm_263
set_option maxRecDepth 100000 in
theorem okm_264 : okM1 264 = true := by decide +kernel
theorem OK_264 : OKm 264 := OKm_of okm_264
set_option maxRecDepth 100000 in
theorem okm_265 : okM1 265 = true := by decide +kernel
theorem OK_265 : OKm 265 := OKm_of okm_265
set_option maxRecDepth 100000 in
theorem okm_279 : okM1 279 = true := by decide +kernel
theorem OK_279 : OKm 279 := OKm_of okm_279
set_option maxRecDepth 100000 in
theorem okm_280 : okM1 280 = true := by decide +kernel
theorem OK_280 : OKm 280 := OKm_of okm_280
set_option maxRecDepth 100000 in
theorem okm_281 : okM1 281 = true := by decide +kernel
theorem OK_281 : OKm 281 := OKm_of okm_281
