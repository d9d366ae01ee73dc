set_option maxRecDepth 100000 in
theorem okm_201 : okM1 201 = true := by decide +kernel
theorem OK_201 : OKm 201 := OKm_of okm_201
set_option maxRecDepth 100000 in
theorem okm_202 : okM1 202 = true := by decide +kernel
theorem OK_202 : OKm 202 := OKm_of okm_202
set_option maxRecDepth 100000 in
theorem okm_203 : okM1 203 = true := by decide +kernel
theorem OK_203 : OKm 203 := OKm_of okm_203
set_option maxRecDepth 100000 in
theorem okm_204 : okM1 204 = true := by decide +kernel
theorem OK_204 : OKm 204 := OKm_of okm_204
set_option maxRecDepth 100000 in
theorem okm_205 : okM1 205 = true := by decide +kernel
theorem OK_205 : OKm 205 := OKm_of okm_205
set_option maxRecDepth 100000 in
theorem okm_206 : okM1 206 = true := by decide +kernel
theorem OK_206 : OKm 206 := OKm_of okm_206
set_option maxRecDepth 100000 in
theorem okm_207 : okM1 207 = true := by decide +kernel
theorem OK_207 : OKm 207 := OKm_of okm_207
set_option maxRecDepth 100000 in
theorem okm_208 : okM1 208 = true := by decide +kernel
theorem OK_208 : OKm 208 := OKm_of okm_208
set_option maxRecDepth 100000 in
theorem okm_209 : okM1 209 = true := by decide +kernel
theorem OK_209 : OKm 209 := OKm_of okm_209
set_option maxRecDepth 100000 in
theorem okm_210 : okM1 210 = true := by decide +kernel
theorem OK_210 : OKm 210 := OKm_of okm_210
set_option maxRecDepth 100000 in
theorem okm_211 : okM1 211 = true := by decide +kernel
theorem OK_211 : OKm 211 := OKm_of okm_211
set_option maxRecDepth 100000 in
theorem okm_212 : okM1 212 = true := by decide +kernel
theorem OK_212 : OKm 212 := OKm_of okm_212
set_option maxRecDepth 100000 in
theorem okm_213 : okM1 213 = true := by decide +kernel
theorem OK_213 : OKm 213 := OKm_of okm_213
set_option maxRecDepth 100000 in
theorem okm_214 : okM1 214 = true := by decide +kernel
theorem OK_214 : OKm 214 := OKm_of okm_214
set_option maxRecDepth 100000 in
theorem okm_215 : okM1 215 = true := by decide +kernel
theorem OK_215 : OKm 215 := OKm_of okm_215
set_option maxRecDepth 100000 in
theorem okm_216 : okM1 216 = true := by decide +kernel
theorem OK_216 : OKm 216 := OKm_of okm_216
set_option maxRecDepth 100000 in
theorem okm_217 : okM1 217 = true := by decide +kernel
theorem OK_217 : OKm 217 := OKm_of okm_217
set_option maxRecDepth 100000 in
theorem okm_218 : okM1 218 = true := by decide +kernel
theorem OK_218 : OKm 218 := OKm_of okm_218
set_option maxRecDepth 100000 in
theorem okm_219 : okM1 219 = true := by decide +kernel
theorem OK_219 : OKm 219 := OKm_of okm_219
set_option maxRecDepth 100000 in
theorem okm_220 : okM1 220 = true := by decide +kernel
theorem OK_220 : OKm 220 := OKm_of okm_220
set_option maxRecDepth 100000 in
theorem okm_221 : okM1 221 = true := by decide +kernel
theorem OK_221 : OKm 221 := OKm_of okm_221
set_option maxRecDepth 100000 in
theorem okm_222 : okM1 222 = true := by decide +kernel
theorem OK_222 : OKm 222 := OKm_of okm_222
set_option maxRecDepth 100000 in
theorem okm_223 : okM1 223 = true := by decide +kernel
theorem OK_223 : OKm 223 := OKm_of okm_223
set_option maxRecDepth 100000 in
theorem okm_224 : okM1 224 = true := by decide +kernel
theorem OK_224 : OKm 224 := OKm_of okm_224
set_option maxRecDepth 100000 in
theorem okm_225 : okM1 225 = true := by decide +kernel
theorem OK_225 : OKm 225 := OKm_of okm_225
set_option maxRecDepth 100000 in
theorem okm_226 : okM1 226 = true := by decide +kernel
theorem OK_226 : OKm 226 := OKm_of okm_226
set_option maxRecDepth 100000 in
theorem okm_227 : okM1 227 = true := by decide +kernel
theorem OK_227 : OKm 227 := OKm_of okm_227
set_option maxRecDepth 100000 in
theorem okm_228 : okM1 228 = true := by decide +kernel
theorem OK_228 : OKm 228 := OKm_of okm_228
set_option maxRecDepth 100000 in
theorem okm_229 : okM1 229 = true := by decide +kernel
theorem OK_229 : OKm 229 := OKm_of okm_229
set_option maxRecDepth 100000 in
theorem okm_230 : okM1 230 = true := by decide +kernel
theorem OK_230 : OKm 230 := OKm_of okm_230
set_option maxRecDepth 100000 in
theorem okm_231 : okM1 231 = true := by decide +kernel
theorem OK_231 : OKm 231 := OKm_of okm_231
set_option maxRecDepth 100000 in
theorem okm_232 : okM1 232 = true := by decide +kernel
theorem OK_232 : OKm 232 := OKm_of okm_232
set_option maxRecDepth 100000 in
theorem okm_233 : okM1 233 = true := by decide +kernel
theorem OK_233 : OKm 233 := OKm_of okm_233
set_option maxRecDepth 100000 in
theorem okm_234 : okM1 234 = true := by decide +kernel
theorem OK_234 : OKm 234 := OKm_of okm_234
set_option maxRecDepth 100000 in
theorem okm_235 : okM1 235 = true := by decide +kernel
theorem OK_235 : OKm 235 := OKm_of okm_235
set_option maxRecDepth 100000 in
theorem okm_236 : okM1 236 = true := by decide +kernel
theorem OK_236 : OKm 236 := OKm_of okm_236
set_option maxRecDepth 100000 in
theorem okm_237 : okM1 237 = true := by decide +kernel
theorem OK_237 : OKm 237 := OKm_of okm_237
set_option maxRecDepth 100000 in
theorem okm_238 : okM1 238 = true := by decide +kernel
theorem OK_238 : OKm 238 := OKm_of okm_238
set_option maxRecDepth 100000 in
theorem okm_239 : okM1 239 = true := by decide +kernel
theorem OK_239 : OKm 239 := OKm_of okm_239
set_option maxRecDepth 100000 in
theorem okm_240 : okM1 240 = true := by decide +kernel
theorem OK_240 : OKm 240 := OKm_of okm_240
set_option maxRecDepth 100000 in
theorem okm_241 : okM1 241 = true := by decide +kernel
theorem OK_241 : OKm 241 := OKm_of okm_241
set_option maxRecDepth 100000 in
theorem okm_242 : okM1 242 = true := by decide +kernel
theorem OK_242 : OKm 242 := OKm_of okm_242
set_option maxRecDepth 100000 in
theorem okm_243 : okM1 243 = true := by decide +kernel
theorem OK_243 : OKm 243 := OKm_of okm_243
set_option maxRecDepth 100000 in
theorem okm_245 : okM1 245 = true := by decide +kernel
theorem OK_245 : OKm 245 := OKm_of okm_245
set_option maxRecDepth 100000 in
theorem okm_246 : okM1 246 = true := by decide +kernel
theorem OK_246 : OKm 246 := OKm_of okm_246
set_option maxRecDepth 100000 in
theorem okm_247 : okM1 247 = true := by decide +kernel
theorem OK_247 : OKm 247 := OKm_of okm_247
set_option maxRecDepth 100000 in
theorem okm_248 : okM1 248 = true := by decide +kernel
theorem OK_248 : OKm 248 := OKm_of okm_248
set_option maxRecDepth 100000 in
theorem okm_249 : okM1 249 = true := by decide +kernel
theorem OK_249 : OKm 249 := OKm_of okm_249
set_option maxRecDepth 100000 in
theorem okm_250 : okM1 250 = true := by decide +kernel
theorem OK_250 : OKm 250 := OKm_of okm_250
set_option maxRecDepth 100000 in
theorem okm_251 : okM1 251 = true := by decide +kernel
theorem OK_251 : OKm 251 := OKm_of okm_251
set_option maxRecDepth 100000 in
theorem okm_252 : okM1 252 = true := by decide +kernel
theorem OK_252 : OKm 252 := OKm_of okm_252
set_option maxRecDepth 100000 in
theorem okm_253 : okM1 253 = true := by decide +kernel
theorem OK_253 : OKm 253 := OKm_of okm_253
set_option maxRecDepth 100000 in
theorem okm_254 : okM1 254 = true := by decide +kernel
theorem OK_254 : OKm 254 := OKm_of okm_254
set_option maxRecDepth 100000 in
theorem okm_255 : okM1 255 = true := by decide +kernel
theorem OK_255 : OKm 255 := OKm_of okm_255
set_option maxRecDepth 100000 in
theorem okm_256 : okM1 256 = true := by decide +kernel
theorem OK_256 : OKm 256 := OKm_of okm_256
set_option maxRecDepth 100000 in
theorem okm_257 : okM1 257 = true := by decide +kernel
theorem OK_257 : OKm 257 := OKm_of okm_257
set_option maxRecDepth 100000 in
theorem okm_258 : okM1 258 = true := by decide +kernel
theorem OK_258 : OKm 258 := OKm_of okm_258
set_option maxRecDepth 100000 in
theorem okm_259 : okM1 259 = true := by decide +kernel
theorem OK_259 : OKm 259 := OKm_of okm_259
set_option maxRecDepth 100000 in
theorem okm_260 : okM1 260 = true := by decide +kernel
theorem OK_260 : OKm 260 := OKm_of okm_260
set_option maxRecDepth 100000 in
theorem okm_261 : okM1 261 = true := by decide +kernel
theorem OK_261 : OKm 261 := OKm_of okm_261
set_option maxRecDepth 100000 in
theorem okm_262 : okM1 262 = true := by decide +kernel
theorem OK_262 : OKm 262 := OKm_of okm_262
set_option maxRecDepth 100000 in
theorem okm_263 : okM1 263 = true := by decide +kernel
theorem OK_263 : OKm 263 := OKm_of okm_263
set_option maxRecDepth 100000 in
theorem okm_264 : okM1 264 = true := by decide +kernel
theorem OK_264 : OKm 264 := OKm_of okm_264
set_option maxRecDepth 100000 in
theorem okm_265 : okM1 265 = true := by decide +kernel
theorem OK_265 : OKm 265 := OKm_of okm_265
set_option maxRecDepth 100000 in
theorem okm_279 : okM1 279 = true := by decide +kernel
theorem OK_279 : OKm 279 := OKm_of okm_279
set_option maxRecDepth 100000 in
theorem okm_280 : okM1 280 = true := by decide +kernel
theorem OK_280 : OKm 280 := OKm_of okm_280
set_option maxRecDepth 100000 in
theorem okm_281 : okM1 281 = true := by decide +kernel
theorem OK_281 : OKm 281 := OKm_of okm_281
