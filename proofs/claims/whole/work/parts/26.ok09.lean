set_option maxRecDepth 100000 in
theorem okm_208 : okM1 208 = true := by decide +kernel
theorem OK_208 : OKm 208 := OKm_of okm_208
set_option maxRecDepth 100000 in
theorem okm_209 : okM1 209 = true := by decide +kernel
theorem OK_209 : OKm 209 := OKm_of okm_209
set_option maxRecDepth 100000 in
theorem okm_210 : okM1 210 = true := by decide +kernel
theorem OK_210 : OKm 210 := OKm_of okm_210
set_option maxRecDepth 100000 in
theorem okm_211 : okM1 211 = true := by decide +kernel
theorem OK_211 : OKm 211 := OKm_of okm_211
set_option maxRecDepth 100000 in
theorem okm_212 : okM1 212 = true := by decide +kernel
theorem OK_212 : OKm 212 := OKm_of okm_212
set_option maxRecDepth 100000 in
theorem okm_213 : okM1 213 = true := by decide +kernel
theorem OK_213 : OKm 213 := OKm_of okm_213
set_option maxRecDepth 100000 in
theorem okm_214 : okM1 214 = true := by decide +kernel
theorem OK_214 : OKm 214 := OKm_of okm_214
set_option maxRecDepth 100000 in
theorem okm_215 : okM1 215 = true := by decide +kernel
theorem OK_215 : OKm 215 := OKm_of okm_215
set_option maxRecDepth 100000 in
theorem okm_216 : okM1 216 = true := by decide +kernel
theorem OK_216 : OKm 216 := OKm_of okm_216
set_option maxRecDepth 100000 in
theorem okm_217 : okM1 217 = true := by decide +kernel
theorem OK_217 : OKm 217 := OKm_of okm_217
set_option maxRecDepth 100000 in
theorem okm_218 : okM1 218 = true := by decide +kernel
theorem OK_218 : OKm 218 := OKm_of okm_218
set_option maxRecDepth 100000 in
theorem okm_219 : okM1 219 = true := by decide +kernel
theorem OK_219 : OKm 219 := OKm_of okm_219
set_option maxRecDepth 100000 in
theorem okm_220 : okM1 220 = true := by decide +kernel
theorem OK_220 : OKm 220 := OKm_of okm_220
set_option maxRecDepth 100000 in
theorem okm_221 : okM1 221 = true := by decide +kernel
theorem OK_221 : OKm 221 := OKm_of okm_221
set_option maxRecDepth 100000 in
theorem okm_222 : okM1 222 = true := by decide +kernel
theorem OK_222 : OKm 222 := OKm_of okm_222
set_option maxRecDepth 100000 in
theorem okm_223 : okM1 223 = true := by decide +kernel
theorem OK_223 : OKm 223 := OKm_of okm_223
set_option maxRecDepth 100000 in
theorem okm_224 : okM1 224 = true := by decide +kernel
theorem OK_224 : OKm 224 := OKm_of okm_224
set_option maxRecDepth 100000 in
theorem okm_225 : okM1 225 = true := by decide +kernel
theorem OK_225 : OKm 225 := OKm_of okm_225
set_option maxRecDepth 100000 in
theorem okm_226 : okM1 226 = true := by decide +kernel
theorem OK_226 : OKm 226 := OKm_of okm_226
set_option maxRecDepth 100000 in
theorem okm_227 : okM1 227 = true := by decide +kernel
theorem OK_227 : OKm 227 := OKm_of okm_227
set_option maxRecDepth 100000 in
theorem okm_228 : okM1 228 = true := by decide +kernel
theorem OK_228 : OKm 228 := OKm_of okm_228
set_option maxRecDepth 100000 in
theorem okm_229 : okM1 229 = true := by decide +kernel
theorem OK_229 : OKm 229 := OKm_of okm_229
set_option maxRecDepth 100000 in
theorem okm_230 : okM1 230 = true := by decide +kernel
theorem OK_230 : OKm 230 := OKm_of okm_230
