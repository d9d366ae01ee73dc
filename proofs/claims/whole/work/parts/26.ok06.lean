set_option maxRecDepth 100000 in
theorem okm_139 : okM1 139 = true := by decide +kernel
theorem OK_139 : OKm 139 := OKm_of okm_139
set_option maxRecDepth 100000 in
theorem okm_140 : okM1 140 = true := by decide +kernel
theorem OK_140 : OKm 140 := OKm_of okm_140
set_option maxRecDepth 100000 in
theorem okm_141 : okM1 141 = true := by decide +kernel
theorem OK_141 : OKm 141 := OKm_of okm_141
set_option maxRecDepth 100000 in
theorem okm_142 : okM1 142 = true := by decide +kernel
theorem OK_142 : OKm 142 := OKm_of okm_142
set_option maxRecDepth 100000 in
theorem okm_143 : okM1 143 = true := by decide +kernel
theorem OK_143 : OKm 143 := OKm_of okm_143
set_option maxRecDepth 100000 in
theorem okm_144 : okM1 144 = true := by decide +kernel
theorem OK_144 : OKm 144 := OKm_of okm_144
set_option maxRecDepth 100000 in
theorem okm_145 : okM1 145 = true := by decide +kernel
theorem OK_145 : OKm 145 := OKm_of okm_145
set_option maxRecDepth 100000 in
theorem okm_146 : okM1 146 = true := by decide +kernel
theorem OK_146 : OKm 146 := OKm_of okm_146
set_option maxRecDepth 100000 in
theorem okm_147 : okM1 147 = true := by decide +kernel
theorem OK_147 : OKm 147 := OKm_of okm_147
set_option maxRecDepth 100000 in
theorem okm_148 : okM1 148 = true := by decide +kernel
theorem OK_148 : OKm 148 := OKm_of okm_148
set_option maxRecDepth 100000 in
theorem okm_149 : okM1 149 = true := by decide +kernel
theorem OK_149 : OKm 149 := OKm_of okm_149
set_option maxRecDepth 100000 in
theorem okm_150 : okM1 150 = true := by decide +kernel
theorem OK_150 : OKm 150 := OKm_of okm_150
set_option maxRecDepth 100000 in
theorem okm_151 : okM1 151 = true := by decide +kernel
theorem OK_151 : OKm 151 := OKm_of okm_151
set_option maxRecDepth 100000 in
theorem okm_152 : okM1 152 = true := by decide +kernel
theorem OK_152 : OKm 152 := OKm_of okm_152
set_option maxRecDepth 100000 in
theorem okm_153 : okM1 153 = true := by decide +kernel
theorem OK_153 : OKm 153 := OKm_of okm_153
set_option maxRecDepth 100000 in
theorem okm_154 : okM1 154 = true := by decide +kernel
theorem OK_154 : OKm 154 := OKm_of okm_154
set_option maxRecDepth 100000 in
theorem okm_155 : okM1 155 = true := by decide +kernel
theorem OK_155 : OKm 155 := OKm_of okm_155
set_option maxRecDepth 100000 in
theorem okm_156 : okM1 156 = true := by decide +kernel
theorem OK_156 : OKm 156 := OKm_of okm_156
set_option maxRecDepth 100000 in
theorem okm_157 : okM1 157 = true := by decide +kernel
theorem OK_157 : OKm 157 := OKm_of okm_157
set_option maxRecDepth 100000 in
theorem okm_158 : okM1 158 = true := by decide +kernel
theorem OK_158 : OKm 158 := OKm_of okm_158
set_option maxRecDepth 100000 in
theorem okm_159 : okM1 159 = true := by decide +kernel
theorem OK_159 : OKm 159 := OKm_of okm_159
set_option maxRecDepth 100000 in
theorem okm_160 : okM1 160 = true := by decide +kernel
theorem OK_160 : OKm 160 := OKm_of okm_160
set_option maxRecDepth 100000 in
theorem okm_161 : okM1 161 = true := by decide +kernel
theorem OK_161 : OKm 161 := OKm_of okm_161
