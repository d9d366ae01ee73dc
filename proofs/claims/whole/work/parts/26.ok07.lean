set_option maxRecDepth 100000 in
theorem okm_162 : okM1 162 = true := by decide +kernel
theorem OK_162 : OKm 162 := OKm_of okm_162
set_option maxRecDepth 100000 in
theorem okm_163 : okM1 163 = true := by decide +kernel
theorem OK_163 : OKm 163 := OKm_of okm_163
set_option maxRecDepth 100000 in
theorem okm_164 : okM1 164 = true := by decide +kernel
theorem OK_164 : OKm 164 := OKm_of okm_164
set_option maxRecDepth 100000 in
theorem okm_165 : okM1 165 = true := by decide +kernel
theorem OK_165 : OKm 165 := OKm_of okm_165
set_option maxRecDepth 100000 in
theorem okm_166 : okM1 166 = true := by decide +kernel
theorem OK_166 : OKm 166 := OKm_of okm_166
set_option maxRecDepth 100000 in
theorem okm_167 : okM1 167 = true := by decide +kernel
theorem OK_167 : OKm 167 := OKm_of okm_167
set_option maxRecDepth 100000 in
theorem okm_168 : okM1 168 = true := by decide +kernel
theorem OK_168 : OKm 168 := OKm_of okm_168
set_option maxRecDepth 100000 in
theorem okm_169 : okM1 169 = true := by decide +kernel
theorem OK_169 : OKm 169 := OKm_of okm_169
set_option maxRecDepth 100000 in
theorem okm_170 : okM1 170 = true := by decide +kernel
theorem OK_170 : OKm 170 := OKm_of okm_170
set_option maxRecDepth 100000 in
theorem okm_171 : okM1 171 = true := by decide +kernel
theorem OK_171 : OKm 171 := OKm_of okm_171
set_option maxRecDepth 100000 in
theorem okm_172 : okM1 172 = true := by decide +kernel
theorem OK_172 : OKm 172 := OKm_of okm_172
set_option maxRecDepth 100000 in
theorem okm_173 : okM1 173 = true := by decide +kernel
theorem OK_173 : OKm 173 := OKm_of okm_173
set_option maxRecDepth 100000 in
theorem okm_174 : okM1 174 = true := by decide +kernel
theorem OK_174 : OKm 174 := OKm_of okm_174
set_option maxRecDepth 100000 in
theorem okm_175 : okM1 175 = true := by decide +kernel
theorem OK_175 : OKm 175 := OKm_of okm_175
set_option maxRecDepth 100000 in
theorem okm_176 : okM1 176 = true := by decide +kernel
theorem OK_176 : OKm 176 := OKm_of okm_176
set_option maxRecDepth 100000 in
theorem okm_177 : okM1 177 = true := by decide +kernel
theorem OK_177 : OKm 177 := OKm_of okm_177
set_option maxRecDepth 100000 in
theorem okm_178 : okM1 178 = true := by decide +kernel
theorem OK_178 : OKm 178 := OKm_of okm_178
set_option maxRecDepth 100000 in
theorem okm_179 : okM1 179 = true := by decide +kernel
theorem OK_179 : OKm 179 := OKm_of okm_179
set_option maxRecDepth 100000 in
theorem okm_180 : okM1 180 = true := by decide +kernel
theorem OK_180 : OKm 180 := OKm_of okm_180
set_option maxRecDepth 100000 in
theorem okm_181 : okM1 181 = true := by decide +kernel
theorem OK_181 : OKm 181 := OKm_of okm_181
set_option maxRecDepth 100000 in
theorem okm_182 : okM1 182 = true := by decide +kernel
theorem OK_182 : OKm 182 := OKm_of okm_182
set_option maxRecDepth 100000 in
theorem okm_183 : okM1 183 = true := by decide +kernel
theorem OK_183 : OKm 183 := OKm_of okm_183
set_option maxRecDepth 100000 in
theorem okm_184 : okM1 184 = true := by decide +kernel
theorem OK_184 : OKm 184 := OKm_of okm_184
