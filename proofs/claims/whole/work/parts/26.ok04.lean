set_option maxRecDepth 100000 in
theorem okm_92 : okM1 92 = true := by decide +kernel
theorem OK_92 : OKm 92 := OKm_of okm_92
set_option maxRecDepth 100000 in
theorem okm_93 : okM1 93 = true := by decide +kernel
theorem OK_93 : OKm 93 := OKm_of okm_93
set_option maxRecDepth 100000 in
theorem okm_94 : okM1 94 = true := by decide +kernel
theorem OK_94 : OKm 94 := OKm_of okm_94
set_option maxRecDepth 100000 in
theorem okm_95 : okM1 95 = true := by decide +kernel
theorem OK_95 : OKm 95 := OKm_of okm_95
set_option maxRecDepth 100000 in
theorem okm_96 : okM1 96 = true := by decide +kernel
theorem OK_96 : OKm 96 := OKm_of okm_96
set_option maxRecDepth 100000 in
theorem okm_97 : okM1 97 = true := by decide +kernel
theorem OK_97 : OKm 97 := OKm_of okm_97
set_option maxRecDepth 100000 in
theorem okm_98 : okM1 98 = true := by decide +kernel
theorem OK_98 : OKm 98 := OKm_of okm_98
set_option maxRecDepth 100000 in
theorem okm_99 : okM1 99 = true := by decide +kernel
theorem OK_99 : OKm 99 := OKm_of okm_99
set_option maxRecDepth 100000 in
theorem okm_100 : okM1 100 = true := by decide +kernel
theorem OK_100 : OKm 100 := OKm_of okm_100
set_option maxRecDepth 100000 in
theorem okm_101 : okM1 101 = true := by decide +kernel
theorem OK_101 : OKm 101 := OKm_of okm_101
set_option maxRecDepth 100000 in
theorem okm_102 : okM1 102 = true := by decide +kernel
theorem OK_102 : OKm 102 := OKm_of okm_102
set_option maxRecDepth 100000 in
theorem okm_103 : okM1 103 = true := by decide +kernel
theorem OK_103 : OKm 103 := OKm_of okm_103
set_option maxRecDepth 100000 in
theorem okm_104 : okM1 104 = true := by decide +kernel
theorem OK_104 : OKm 104 := OKm_of okm_104
set_option maxRecDepth 100000 in
theorem okm_105 : okM1 105 = true := by decide +kernel
theorem OK_105 : OKm 105 := OKm_of okm_105
set_option maxRecDepth 100000 in
theorem okm_106 : okM1 106 = true := by decide +kernel
theorem OK_106 : OKm 106 := OKm_of okm_106
set_option maxRecDepth 100000 in
theorem okm_107 : okM1 107 = true := by decide +kernel
theorem OK_107 : OKm 107 := OKm_of okm_107
set_option maxRecDepth 100000 in
theorem okm_108 : okM1 108 = true := by decide +kernel
theorem OK_108 : OKm 108 := OKm_of okm_108
set_option maxRecDepth 100000 in
theorem okm_109 : okM1 109 = true := by decide +kernel
theorem OK_109 : OKm 109 := OKm_of okm_109
set_option maxRecDepth 100000 in
theorem okm_110 : okM1 110 = true := by decide +kernel
theorem OK_110 : OKm 110 := OKm_of okm_110
set_option maxRecDepth 100000 in
theorem okm_111 : okM1 111 = true := by decide +kernel
theorem OK_111 : OKm 111 := OKm_of okm_111
set_option maxRecDepth 100000 in
theorem okm_112 : okM1 112 = true := by decide +kernel
theorem OK_112 : OKm 112 := OKm_of okm_112
set_option maxRecDepth 100000 in
theorem okm_113 : okM1 113 = true := by decide +kernel
theorem OK_113 : OKm 113 := OKm_of okm_113
set_option maxRecDepth 100000 in
theorem okm_114 : okM1 114 = true := by decide +kernel
theorem OK_114 : OKm 114 := OKm_of okm_114
