set_option maxRecDepth 100000 in
theorem okm_115 : okM1 115 = true := by decide +kernel
theorem OK_115 : OKm 115 := OKm_of okm_115
set_option maxRecDepth 100000 in
theorem okm_116 : okM1 116 = true := by decide +kernel
theorem OK_116 : OKm 116 := OKm_of okm_116
set_option maxRecDepth 100000 in
theorem okm_117 : okM1 117 = true := by decide +kernel
theorem OK_117 : OKm 117 := OKm_of okm_117
set_option maxRecDepth 100000 in
theorem okm_118 : okM1 118 = true := by decide +kernel
theorem OK_118 : OKm 118 := OKm_of okm_118
set_option maxRecDepth 100000 in
theorem okm_119 : okM1 119 = true := by decide +kernel
theorem OK_119 : OKm 119 := OKm_of okm_119
set_option maxRecDepth 100000 in
theorem okm_120 : okM1 120 = true := by decide +kernel
theorem OK_120 : OKm 120 := OKm_of okm_120
set_option maxRecDepth 100000 in
theorem okm_121 : okM1 121 = true := by decide +kernel
theorem OK_121 : OKm 121 := OKm_of okm_121
set_option maxRecDepth 100000 in
theorem okm_122 : okM1 122 = true := by decide +kernel
theorem OK_122 : OKm 122 := OKm_of okm_122
set_option maxRecDepth 100000 in
theorem okm_123 : okM1 123 = true := by decide +kernel
theorem OK_123 : OKm 123 := OKm_of okm_123
set_option maxRecDepth 100000 in
theorem okm_124 : okM1 124 = true := by decide +kernel
theorem OK_124 : OKm 124 := OKm_of okm_124
set_option maxRecDepth 100000 in
theorem okm_125 : okM1 125 = true := by decide +kernel
theorem OK_125 : OKm 125 := OKm_of okm_125
set_option maxRecDepth 100000 in
theorem okm_126 : okM1 126 = true := by decide +kernel
theorem OK_126 : OKm 126 := OKm_of okm_126
set_option maxRecDepth 100000 in
theorem okm_127 : okM1 127 = true := by decide +kernel
theorem OK_127 : OKm 127 := OKm_of okm_127
set_option maxRecDepth 100000 in
theorem okm_128 : okM1 128 = true := by decide +kernel
theorem OK_128 : OKm 128 := OKm_of okm_128
set_option maxRecDepth 100000 in
theorem okm_129 : okM1 129 = true := by decide +kernel
theorem OK_129 : OKm 129 := OKm_of okm_129
set_option maxRecDepth 100000 in
theorem okm_130 : okM1 130 = true := by decide +kernel
theorem OK_130 : OKm 130 := OKm_of okm_130
set_option maxRecDepth 100000 in
theorem okm_131 : okM1 131 = true := by decide +kernel
theorem OK_131 : OKm 131 := OKm_of okm_131
set_option maxRecDepth 100000 in
theorem okm_133 : okM1 133 = true := by decide +kernel
theorem OK_133 : OKm 133 := OKm_of okm_133
set_option maxRecDepth 100000 in
theorem okm_134 : okM1 134 = true := by decide +kernel
theorem OK_134 : OKm 134 := OKm_of okm_134
set_option maxRecDepth 100000 in
theorem okm_135 : okM1 135 = true := by decide +kernel
theorem OK_135 : OKm 135 := OKm_of okm_135
set_option maxRecDepth 100000 in
theorem okm_136 : okM1 136 = true := by decide +kernel
theorem OK_136 : OKm 136 := OKm_of okm_136
set_option maxRecDepth 100000 in
theorem okm_137 : okM1 137 = true := by decide +kernel
theorem OK_137 : OKm 137 := OKm_of okm_137
set_option maxRecDepth 100000 in
theorem okm_138 : okM1 138 = true := by decide +kernel
theorem OK_138 : OKm 138 := OKm_of okm_138
