set_option maxRecDepth 100000 in
theorem okm_69 : okM1 69 = true := by decide +kernel
theorem OK_69 : OKm 69 := OKm_of okm_69
set_option maxRecDepth 100000 in
theorem okm_70 : okM1 70 = true := by decide +kernel
theorem OK_70 : OKm 70 := OKm_of okm_70
set_option maxRecDepth 100000 in
theorem okm_71 : okM1 71 = true := by decide +kernel
theorem OK_71 : OKm 71 := OKm_of okm_71
set_option maxRecDepth 100000 in
theorem okm_72 : okM1 72 = true := by decide +kernel
theorem OK_72 : OKm 72 := OKm_of okm_72
set_option maxRecDepth 100000 in
theorem okm_73 : okM1 73 = true := by decide +kernel
theorem OK_73 : OKm 73 := OKm_of okm_73
set_option maxRecDepth 100000 in
theorem okm_74 : okM1 74 = true := by decide +kernel
theorem OK_74 : OKm 74 := OKm_of okm_74
set_option maxRecDepth 100000 in
theorem okm_75 : okM1 75 = true := by decide +kernel
theorem OK_75 : OKm 75 := OKm_of okm_75
set_option maxRecDepth 100000 in
theorem okm_76 : okM1 76 = true := by decide +kernel
theorem OK_76 : OKm 76 := OKm_of okm_76
set_option maxRecDepth 100000 in
theorem okm_77 : okM1 77 = true := by decide +kernel
theorem OK_77 : OKm 77 := OKm_of okm_77
set_option maxRecDepth 100000 in
theorem okm_78 : okM1 78 = true := by decide +kernel
theorem OK_78 : OKm 78 := OKm_of okm_78
set_option maxRecDepth 100000 in
theorem okm_79 : okM1 79 = true := by decide +kernel
theorem OK_79 : OKm 79 := OKm_of okm_79
set_option maxRecDepth 100000 in
theorem okm_80 : okM1 80 = true := by decide +kernel
theorem OK_80 : OKm 80 := OKm_of okm_80
set_option maxRecDepth 100000 in
theorem okm_81 : okM1 81 = true := by decide +kernel
theorem OK_81 : OKm 81 := OKm_of okm_81
set_option maxRecDepth 100000 in
theorem okm_82 : okM1 82 = true := by decide +kernel
theorem OK_82 : OKm 82 := OKm_of okm_82
set_option maxRecDepth 100000 in
theorem okm_83 : okM1 83 = true := by decide +kernel
theorem OK_83 : OKm 83 := OKm_of okm_83
set_option maxRecDepth 100000 in
theorem okm_84 : okM1 84 = true := by decide +kernel
theorem OK_84 : OKm 84 := OKm_of okm_84
set_option maxRecDepth 100000 in
theorem okm_85 : okM1 85 = true := by decide +kernel
theorem OK_85 : OKm 85 := OKm_of okm_85
set_option maxRecDepth 100000 in
theorem okm_86 : okM1 86 = true := by decide +kernel
theorem OK_86 : OKm 86 := OKm_of okm_86
set_option maxRecDepth 100000 in
theorem okm_87 : okM1 87 = true := by decide +kernel
theorem OK_87 : OKm 87 := OKm_of okm_87
set_option maxRecDepth 100000 in
theorem okm_88 : okM1 88 = true := by decide +kernel
theorem OK_88 : OKm 88 := OKm_of okm_88
set_option maxRecDepth 100000 in
theorem okm_89 : okM1 89 = true := by decide +kernel
theorem OK_89 : OKm 89 := OKm_of okm_89
set_option maxRecDepth 100000 in
theorem okm_90 : okM1 90 = true := by decide +kernel
theorem OK_90 : OKm 90 := OKm_of okm_90
set_option maxRecDepth 100000 in
theorem okm_91 : okM1 91 = true := by decide +kernel
theorem OK_91 : OKm 91 := OKm_of okm_91
