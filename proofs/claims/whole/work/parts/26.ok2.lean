set_option maxRecDepth 100000 in
theorem okm_134 : okM1 134 = true := by decide +kernel
theorem OK_134 : OKm 134 := OKm_of okm_134
set_option maxRecDepth 100000 in
theorem okm_135 : okM1 135 = true := by decide +kernel
theorem OK_135 : OKm 135 := OKm_of okm_135
set_option maxRecDepth 100000 in
theorem okm_136 : okM1 136 = true := by decide +kernel
theorem OK_136 : OKm 136 := OKm_of okm_136
set_option maxRecDepth 100000 in
theorem okm_137 : okM1 137 = true := by decide +kernel
theorem OK_137 : OKm 137 := OKm_of okm_137
set_option maxRecDepth 100000 in
theorem okm_138 : okM1 138 = true := by decide +kernel
theorem OK_138 : OKm 138 := OKm_of okm_138
set_option maxRecDepth 100000 in
theorem okm_139 : okM1 139 = true := by decide +kernel
theorem OK_139 : OKm 139 := OKm_of okm_139
set_option maxRecDepth 100000 in
theorem okm_140 : okM1 140 = true := by decide +kernel
theorem OK_140 : OKm 140 := OKm_of okm_140
set_option maxRecDepth 100000 in
theorem okm_141 : okM1 141 = true := by decide +kernel
theorem OK_141 : OKm 141 := OKm_of okm_141
set_option maxRecDepth 100000 in
theorem okm_142 : okM1 142 = true := by decide +kernel
theorem OK_142 : OKm 142 := OKm_of okm_142
set_option maxRecDepth 100000 in
theorem okm_143 : okM1 143 = true := by decide +kernel
theorem OK_143 : OKm 143 := OKm_of okm_143
set_option maxRecDepth 100000 in
theorem okm_144 : okM1 144 = true := by decide +kernel
theorem OK_144 : OKm 144 := OKm_of okm_144
set_option maxRecDepth 100000 in
theorem okm_145 : okM1 145 = true := by decide +kernel
theorem OK_145 : OKm 145 := OKm_of okm_145
set_option maxRecDepth 100000 in
theorem okm_146 : okM1 146 = true := by decide +kernel
theorem OK_146 : OKm 146 := OKm_of okm_146
set_option maxRecDepth 100000 in
theorem okm_147 : okM1 147 = true := by decide +kernel
theorem OK_147 : OKm 147 := OKm_of okm_147
set_option maxRecDepth 100000 in
theorem okm_148 : okM1 148 = true := by decide +kernel
theorem OK_148 : OKm 148 := OKm_of okm_148
set_option maxRecDepth 100000 in
theorem okm_149 : okM1 149 = true := by decide +kernel
theorem OK_149 : OKm 149 := OKm_of okm_149
set_option maxRecDepth 100000 in
theorem okm_150 : okM1 150 = true := by decide +kernel
theorem OK_150 : OKm 150 := OKm_of okm_150
set_option maxRecDepth 100000 in
theorem okm_151 : okM1 151 = true := by decide +kernel
theorem OK_151 : OKm 151 := OKm_of okm_151
set_option maxRecDepth 100000 in
theorem okm_152 : okM1 152 = true := by decide +kernel
theorem OK_152 : OKm 152 := OKm_of okm_152
set_option maxRecDepth 100000 in
theorem okm_153 : okM1 153 = true := by decide +kernel
theorem OK_153 : OKm 153 := OKm_of okm_153
set_option maxRecDepth 100000 in
theorem okm_154 : okM1 154 = true := by decide +kernel
theorem OK_154 : OKm 154 := OKm_of okm_154
set_option maxRecDepth 100000 in
theorem okm_155 : okM1 155 = true := by decide +kernel
theorem OK_155 : OKm 155 := OKm_of okm_155
set_option maxRecDepth 100000 in
theorem okm_156 : okM1 156 = true := by decide +kernel
theorem OK_156 : OKm 156 := OKm_of okm_156
set_option maxRecDepth 100000 in
theorem okm_157 : okM1 157 = true := by decide +kernel
theorem OK_157 : OKm 157 := OKm_of okm_157
set_option maxRecDepth 100000 in
theorem okm_158 : okM1 158 = true := by decide +kernel
theorem OK_158 : OKm 158 := OKm_of okm_158
set_option maxRecDepth 100000 in
theorem okm_159 : okM1 159 = true := by decide +kernel
theorem OK_159 : OKm 159 := OKm_of okm_159
set_option maxRecDepth 100000 in
theorem okm_160 : okM1 160 = true := by decide +kernel
theorem OK_160 : OKm 160 := OKm_of okm_160
set_option maxRecDepth 100000 in
theorem okm_161 : okM1 161 = true := by decide +kernel
theorem OK_161 : OKm 161 := OKm_of okm_161
set_option maxRecDepth 100000 in
theorem okm_162 : okM1 162 = true := by decide +kernel
theorem OK_162 : OKm 162 := OKm_of okm_162
set_option maxRecDepth 100000 in
theorem okm_163 : okM1 163 = true := by decide +kernel
theorem OK_163 : OKm 163 := OKm_of okm_163
set_option maxRecDepth 100000 in
theorem okm_164 : okM1 164 = true := by decide +kernel
theorem OK_164 : OKm 164 := OKm_of okm_164
set_option maxRecDepth 100000 in
theorem okm_165 : okM1 165 = true := by decide +kernel
theorem OK_165 : OKm 165 := OKm_of okm_165
set_option maxRecDepth 100000 in
theorem okm_166 : okM1 166 = true := by decide +kernel
theorem OK_166 : OKm 166 := OKm_of okm_166
set_option maxRecDepth 100000 in
theorem okm_167 : okM1 167 = true := by decide +kernel
theorem OK_167 : OKm 167 := OKm_of okm_167
set_option maxRecDepth 100000 in
theorem okm_168 : okM1 168 = true := by decide +kernel
theorem OK_168 : OKm 168 := OKm_of okm_168
set_option maxRecDepth 100000 in
theorem okm_169 : okM1 169 = true := by decide +kernel
theorem OK_169 : OKm 169 := OKm_of okm_169
set_option maxRecDepth 100000 in
theorem okm_170 : okM1 170 = true := by decide +kernel
theorem OK_170 : OKm 170 := OKm_of okm_170
set_option maxRecDepth 100000 in
theorem okm_171 : okM1 171 = true := by decide +kernel
theorem OK_171 : OKm 171 := OKm_of okm_171
set_option maxRecDepth 100000 in
theorem okm_172 : okM1 172 = true := by decide +kernel
theorem OK_172 : OKm 172 := OKm_of okm_172
set_option maxRecDepth 100000 in
theorem okm_173 : okM1 173 = true := by decide +kernel
theorem OK_173 : OKm 173 := OKm_of okm_173
set_option maxRecDepth 100000 in
theorem okm_174 : okM1 174 = true := by decide +kernel
theorem OK_174 : OKm 174 := OKm_of okm_174
set_option maxRecDepth 100000 in
theorem okm_175 : okM1 175 = true := by decide +kernel
theorem OK_175 : OKm 175 := OKm_of okm_175
set_option maxRecDepth 100000 in
theorem okm_176 : okM1 176 = true := by decide +kernel
theorem OK_176 : OKm 176 := OKm_of okm_176
set_option maxRecDepth 100000 in
theorem okm_177 : okM1 177 = true := by decide +kernel
theorem OK_177 : OKm 177 := OKm_of okm_177
set_option maxRecDepth 100000 in
theorem okm_178 : okM1 178 = true := by decide +kernel
theorem OK_178 : OKm 178 := OKm_of okm_178
set_option maxRecDepth 100000 in
theorem okm_179 : okM1 179 = true := by decide +kernel
theorem OK_179 : OKm 179 := OKm_of okm_179
set_option maxRecDepth 100000 in
theorem okm_180 : okM1 180 = true := by decide +kernel
theorem OK_180 : OKm 180 := OKm_of okm_180
set_option maxRecDepth 100000 in
theorem okm_181 : okM1 181 = true := by decide +kernel
theorem OK_181 : OKm 181 := OKm_of okm_181
set_option maxRecDepth 100000 in
theorem okm_182 : okM1 182 = true := by decide +kernel
theorem OK_182 : OKm 182 := OKm_of okm_182
set_option maxRecDepth 100000 in
theorem okm_183 : okM1 183 = true := by decide +kernel
theorem OK_183 : OKm 183 := OKm_of okm_183
set_option maxRecDepth 100000 in
theorem okm_184 : okM1 184 = true := by decide +kernel
theorem OK_184 : OKm 184 := OKm_of okm_184
set_option maxRecDepth 100000 in
theorem okm_185 : okM1 185 = true := by decide +kernel
theorem OK_185 : OKm 185 := OKm_of okm_185
set_option maxRecDepth 100000 in
theorem okm_186 : okM1 186 = true := by decide +kernel
theorem OK_186 : OKm 186 := OKm_of okm_186
set_option maxRecDepth 100000 in
theorem okm_187 : okM1 187 = true := by decide +kernel
theorem OK_187 : OKm 187 := OKm_of okm_187
set_option maxRecDepth 100000 in
theorem okm_188 : okM1 188 = true := by decide +kernel
theorem OK_188 : OKm 188 := OKm_of okm_188
set_option maxRecDepth 100000 in
theorem okm_189 : okM1 189 = true := by decide +kernel
theorem OK_189 : OKm 189 := OKm_of okm_189
set_option maxRecDepth 100000 in
theorem okm_190 : okM1 190 = true := by decide +kernel
theorem OK_190 : OKm 190 := OKm_of okm_190
set_option maxRecDepth 100000 in
theorem okm_191 : okM1 191 = true := by decide +kernel
theorem OK_191 : OKm 191 := OKm_of okm_191
set_option maxRecDepth 100000 in
theorem okm_192 : okM1 192 = true := by decide +kernel
theorem OK_192 : OKm 192 := OKm_of okm_192
set_option maxRecDepth 100000 in
theorem okm_193 : okM1 193 = true := by decide +kernel
theorem OK_193 : OKm 193 := OKm_of okm_193
set_option maxRecDepth 100000 in
theorem okm_194 : okM1 194 = true := by decide +kernel
theorem OK_194 : OKm 194 := OKm_of okm_194
set_option maxRecDepth 100000 in
theorem okm_195 : okM1 195 = true := by decide +kernel
theorem OK_195 : OKm 195 := OKm_of okm_195
set_option maxRecDepth 100000 in
theorem okm_196 : okM1 196 = true := by decide +kernel
theorem OK_196 : OKm 196 := OKm_of okm_196
set_option maxRecDepth 100000 in
theorem okm_197 : okM1 197 = true := by decide +kernel
theorem OK_197 : OKm 197 := OKm_of okm_197
set_option maxRecDepth 100000 in
theorem okm_198 : okM1 198 = true := by decide +kernel
theorem OK_198 : OKm 198 := OKm_of okm_198
set_option maxRecDepth 100000 in
theorem okm_199 : okM1 199 = true := by decide +kernel
theorem OK_199 : OKm 199 := OKm_of okm_199
set_option maxRecDepth 100000 in
theorem okm_200 : okM1 200 = true := by decide +kernel
theorem OK_200 : OKm 200 := OKm_of okm_200
