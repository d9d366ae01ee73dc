set_option maxRecDepth 100000 in
theorem okm_185 : okM1 185 = true := by decide +kernel
theorem OK_185 : OKm 185 := OKm_of okm_185
set_option maxRecDepth 100000 in
theorem okm_186 : okM1 186 = true := by decide +kernel
theorem OK_186 : OKm 186 := OKm_of okm_186
set_option maxRecDepth 100000 in
theorem okm_187 : okM1 187 = true := by decide +kernel
theorem OK_187 : OKm 187 := OKm_of okm_187
set_option maxRecDepth 100000 in
theorem okm_188 : okM1 188 = true := by decide +kernel
theorem OK_188 : OKm 188 := OKm_of okm_188
set_option maxRecDepth 100000 in
theorem okm_189 : okM1 189 = true := by decide +kernel
theorem OK_189 : OKm 189 := OKm_of okm_189
set_option maxRecDepth 100000 in
theorem okm_190 : okM1 190 = true := by decide +kernel
theorem OK_190 : OKm 190 := OKm_of okm_190
set_option maxRecDepth 100000 in
theorem okm_191 : okM1 191 = true := by decide +kernel
theorem OK_191 : OKm 191 := OKm_of okm_191
set_option maxRecDepth 100000 in
theorem okm_192 : okM1 192 = true := by decide +kernel
theorem OK_192 : OKm 192 := OKm_of okm_192
set_option maxRecDepth 100000 in
theorem okm_193 : okM1 193 = true := by decide +kernel
theorem OK_193 : OKm 193 := OKm_of okm_193
set_option maxRecDepth 100000 in
theorem okm_194 : okM1 194 = true := by decide +kernel
theorem OK_194 : OKm 194 := OKm_of okm_194
set_option maxRecDepth 100000 in
theorem okm_195 : okM1 195 = true := by decide +kernel
theorem OK_195 : OKm 195 := OKm_of okm_195
set_option maxRecDepth 100000 in
theorem okm_196 : okM1 196 = true := by decide +kernel
theorem OK_196 : OKm 196 := OKm_of okm_196
set_option maxRecDepth 100000 in
theorem okm_197 : okM1 197 = true := by decide +kernel
theorem OK_197 : OKm 197 := OKm_of okm_197
set_option maxRecDepth 100000 in
theorem okm_198 : okM1 198 = true := by decide +kernel
theorem OK_198 : OKm 198 := OKm_of okm_198
set_option maxRecDepth 100000 in
theorem okm_199 : okM1 199 = true := by decide +kernel
theorem OK_199 : OKm 199 := OKm_of okm_199
set_option maxRecDepth 100000 in
theorem okm_200 : okM1 200 = true := by decide +kernel
theorem OK_200 : OKm 200 := OKm_of okm_200
set_option maxRecDepth 100000 in
theorem okm_201 : okM1 201 = true := by decide +kernel
theorem OK_201 : OKm 201 := OKm_of okm_201
set_option maxRecDepth 100000 in
theorem okm_202 : okM1 202 = true := by decide +kernel
theorem OK_202 : OKm 202 := OKm_of okm_202
set_option maxRecDepth 100000 in
theorem okm_203 : okM1 203 = true := by decide +kernel
theorem OK_203 : OKm 203 := OKm_of okm_203
set_option maxRecDepth 100000 in
theorem okm_204 : okM1 204 = true := by decide +kernel
theorem OK_204 : OKm 204 := OKm_of okm_204
set_option maxRecDepth 100000 in
theorem okm_205 : okM1 205 = true := by decide +kernel
theorem OK_205 : OKm 205 := OKm_of okm_205
set_option maxRecDepth 100000 in
theorem okm_206 : okM1 206 = true := by decide +kernel
theorem OK_206 : OKm 206 := OKm_of okm_206
set_option maxRecDepth 100000 in
theorem okm_207 : okM1 207 = true := by decide +kernel
theorem OK_207 : OKm 207 := OKm_of okm_207
