set_option maxRecDepth 100000 in
theorem okm_67 : okM1 67 = true := by decide +kernel
theorem OK_67 : OKm 67 := OKm_of okm_67
set_option maxRecDepth 100000 in
theorem okm_68 : okM1 68 = true := by decide +kernel
theorem OK_68 : OKm 68 := OKm_of okm_68
set_option maxRecDepth 100000 in
theorem okm_69 : okM1 69 = true := by decide +kernel
theorem OK_69 : OKm 69 := OKm_of okm_69
set_option maxRecDepth 100000 in
theorem okm_70 : okM1 70 = true := by decide +kernel
theorem OK_70 : OKm 70 := OKm_of okm_70
set_option maxRecDepth 100000 in
theorem okm_71 : okM1 71 = true := by decide +kernel
theorem OK_71 : OKm 71 := OKm_of okm_71
set_option maxRecDepth 100000 in
theorem okm_72 : okM1 72 = true := by decide +kernel
theorem OK_72 : OKm 72 := OKm_of okm_72
set_option maxRecDepth 100000 in
theorem okm_73 : okM1 73 = true := by decide +kernel
theorem OK_73 : OKm 73 := OKm_of okm_73
set_option maxRecDepth 100000 in
theorem okm_74 : okM1 74 = true := by decide +kernel
theorem OK_74 : OKm 74 := OKm_of okm_74
set_option maxRecDepth 100000 in
theorem okm_75 : okM1 75 = true := by decide +kernel
theorem OK_75 : OKm 75 := OKm_of okm_75
set_option maxRecDepth 100000 in
theorem okm_76 : okM1 76 = true := by decide +kernel
theorem OK_76 : OKm 76 := OKm_of okm_76
set_option maxRecDepth 100000 in
theorem okm_77 : okM1 77 = true := by decide +kernel
theorem OK_77 : OKm 77 := OKm_of okm_77
set_option maxRecDepth 100000 in
theorem okm_78 : okM1 78 = true := by decide +kernel
theorem OK_78 : OKm 78 := OKm_of okm_78
set_option maxRecDepth 100000 in
theorem okm_79 : okM1 79 = true := by decide +kernel
theorem OK_79 : OKm 79 := OKm_of okm_79
set_option maxRecDepth 100000 in
theorem okm_80 : okM1 80 = true := by decide +kernel
theorem OK_80 : OKm 80 := OKm_of okm_80
set_option maxRecDepth 100000 in
theorem okm_81 : okM1 81 = true := by decide +kernel
theorem OK_81 : OKm 81 := OKm_of okm_81
set_option maxRecDepth 100000 in
theorem okm_82 : okM1 82 = true := by decide +kernel
theorem OK_82 : OKm 82 := OKm_of okm_82
set_option maxRecDepth 100000 in
theorem okm_83 : okM1 83 = true := by decide +kernel
theorem OK_83 : OKm 83 := OKm_of okm_83
set_option maxRecDepth 100000 in
theorem okm_84 : okM1 84 = true := by decide +kernel
theorem OK_84 : OKm 84 := OKm_of okm_84
set_option maxRecDepth 100000 in
theorem okm_85 : okM1 85 = true := by decide +kernel
theorem OK_85 : OKm 85 := OKm_of okm_85
set_option maxRecDepth 100000 in
theorem okm_86 : okM1 86 = true := by decide +kernel
theorem OK_86 : OKm 86 := OKm_of okm_86
set_option maxRecDepth 100000 in
theorem okm_87 : okM1 87 = true := by decide +kernel
theorem OK_87 : OKm 87 := OKm_of okm_87
set_option maxRecDepth 100000 in
theorem okm_88 : okM1 88 = true := by decide +kernel
theorem OK_88 : OKm 88 := OKm_of okm_88
set_option maxRecDepth 100000 in
theorem okm_89 : okM1 89 = true := by decide +kernel
theorem OK_89 : OKm 89 := OKm_of okm_89
set_option maxRecDepth 100000 in
theorem okm_90 : okM1 90 = true := by decide +kernel
theorem OK_90 : OKm 90 := OKm_of okm_90
set_option maxRecDepth 100000 in
theorem okm_91 : okM1 91 = true := by decide +kernel
theorem OK_91 : OKm 91 := OKm_of okm_91
set_option maxRecDepth 100000 in
theorem okm_92 : okM1 92 = true := by decide +kernel
theorem OK_92 : OKm 92 := OKm_of okm_92
set_option maxRecDepth 100000 in
theorem okm_93 : okM1 93 = true := by decide +kernel
theorem OK_93 : OKm 93 := OKm_of okm_93
set_option maxRecDepth 100000 in
theorem okm_94 : okM1 94 = true := by decide +kernel
theorem OK_94 : OKm 94 := OKm_of okm_94
set_option maxRecDepth 100000 in
theorem okm_95 : okM1 95 = true := by decide +kernel
theorem OK_95 : OKm 95 := OKm_of okm_95
set_option maxRecDepth 100000 in
theorem okm_96 : okM1 96 = true := by decide +kernel
theorem OK_96 : OKm 96 := OKm_of okm_96
set_option maxRecDepth 100000 in
theorem okm_97 : okM1 97 = true := by decide +kernel
theorem OK_97 : OKm 97 := OKm_of okm_97
set_option maxRecDepth 100000 in
theorem okm_98 : okM1 98 = true := by decide +kernel
theorem OK_98 : OKm 98 := OKm_of okm_98
set_option maxRecDepth 100000 in
theorem okm_99 : okM1 99 = true := by decide +kernel
theorem OK_99 : OKm 99 := OKm_of okm_99
set_option maxRecDepth 100000 in
theorem okm_100 : okM1 100 = true := by decide +kernel
theorem OK_100 : OKm 100 := OKm_of okm_100
set_option maxRecDepth 100000 in
theorem okm_101 : okM1 101 = true := by decide +kernel
theorem OK_101 : OKm 101 := OKm_of okm_101
set_option maxRecDepth 100000 in
theorem okm_102 : okM1 102 = true := by decide +kernel
theorem OK_102 : OKm 102 := OKm_of okm_102
set_option maxRecDepth 100000 in
theorem okm_103 : okM1 103 = true := by decide +kernel
theorem OK_103 : OKm 103 := OKm_of okm_103
set_option maxRecDepth 100000 in
theorem okm_104 : okM1 104 = true := by decide +kernel
theorem OK_104 : OKm 104 := OKm_of okm_104
set_option maxRecDepth 100000 in
theorem okm_105 : okM1 105 = true := by decide +kernel
theorem OK_105 : OKm 105 := OKm_of okm_105
set_option maxRecDepth 100000 in
theorem okm_106 : okM1 106 = true := by decide +kernel
theorem OK_106 : OKm 106 := OKm_of okm_106
set_option maxRecDepth 100000 in
theorem okm_107 : okM1 107 = true := by decide +kernel
theorem OK_107 : OKm 107 := OKm_of okm_107
set_option maxRecDepth 100000 in
theorem okm_108 : okM1 108 = true := by decide +kernel
theorem OK_108 : OKm 108 := OKm_of okm_108
set_option maxRecDepth 100000 in
theorem okm_109 : okM1 109 = true := by decide +kernel
theorem OK_109 : OKm 109 := OKm_of okm_109
set_option maxRecDepth 100000 in
theorem okm_110 : okM1 110 = true := by decide +kernel
theorem OK_110 : OKm 110 := OKm_of okm_110
set_option maxRecDepth 100000 in
theorem okm_111 : okM1 111 = true := by decide +kernel
theorem OK_111 : OKm 111 := OKm_of okm_111
set_option maxRecDepth 100000 in
theorem okm_112 : okM1 112 = true := by decide +kernel
theorem OK_112 : OKm 112 := OKm_of okm_112
set_option maxRecDepth 100000 in
theorem okm_113 : okM1 113 = true := by decide +kernel
theorem OK_113 : OKm 113 := OKm_of okm_113
set_option maxRecDepth 100000 in
theorem okm_114 : okM1 114 = true := by decide +kernel
theorem OK_114 : OKm 114 := OKm_of okm_114
set_option maxRecDepth 100000 in
theorem okm_115 : okM1 115 = true := by decide +kernel
theorem OK_115 : OKm 115 := OKm_of okm_115
set_option maxRecDepth 100000 in
theorem okm_116 : okM1 116 = true := by decide +kernel
theorem OK_116 : OKm 116 := OKm_of okm_116
set_option maxRecDepth 100000 in
theorem okm_117 : okM1 117 = true := by decide +kernel
theorem OK_117 : OKm 117 := OKm_of okm_117
set_option maxRecDepth 100000 in
theorem okm_118 : okM1 118 = true := by decide +kernel
theorem OK_118 : OKm 118 := OKm_of okm_118
set_option maxRecDepth 100000 in
theorem okm_119 : okM1 119 = true := by decide +kernel
theorem OK_119 : OKm 119 := OKm_of okm_119
set_option maxRecDepth 100000 in
theorem okm_120 : okM1 120 = true := by decide +kernel
theorem OK_120 : OKm 120 := OKm_of okm_120
set_option maxRecDepth 100000 in
theorem okm_121 : okM1 121 = true := by decide +kernel
theorem OK_121 : OKm 121 := OKm_of okm_121
set_option maxRecDepth 100000 in
theorem okm_122 : okM1 122 = true := by decide +kernel
theorem OK_122 : OKm 122 := OKm_of okm_122
set_option maxRecDepth 100000 in
theorem okm_123 : okM1 123 = true := by decide +kernel
theorem OK_123 : OKm 123 := OKm_of okm_123
set_option maxRecDepth 100000 in
theorem okm_124 : okM1 124 = true := by decide +kernel
theorem OK_124 : OKm 124 := OKm_of okm_124
set_option maxRecDepth 100000 in
theorem okm_125 : okM1 125 = true := by decide +kernel
theorem OK_125 : OKm 125 := OKm_of okm_125
set_option maxRecDepth 100000 in
theorem okm_126 : okM1 126 = true := by decide +kernel
theorem OK_126 : OKm 126 := OKm_of okm_126
set_option maxRecDepth 100000 in
theorem okm_127 : okM1 127 = true := by decide +kernel
theorem OK_127 : OKm 127 := OKm_of okm_127
set_option maxRecDepth 100000 in
theorem okm_128 : okM1 128 = true := by decide +kernel
theorem OK_128 : OKm 128 := OKm_of okm_128
set_option maxRecDepth 100000 in
theorem okm_129 : okM1 129 = true := by decide +kernel
theorem OK_129 : OKm 129 := OKm_of okm_129
set_option maxRecDepth 100000 in
theorem okm_130 : okM1 130 = true := by decide +kernel
theorem OK_130 : OKm 130 := OKm_of okm_130
set_option maxRecDepth 100000 in
theorem okm_131 : okM1 131 = true := by decide +kernel
theorem OK_131 : OKm 131 := OKm_of okm_131
set_option maxRecDepth 100000 in
theorem okm_132 : okM1 132 = true := by decide +kernel
theorem OK_132 : OKm 132 := OKm_of okm_132
set_option maxRecDepth 100000 in
theorem okm_133 : okM1 133 = true := by decide +kernel
theorem OK_133 : OKm 133 := OKm_of okm_133
