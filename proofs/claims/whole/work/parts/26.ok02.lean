set_option maxRecDepth 100000 in
theorem okm_46 : okM1 46 = true := by decide +kernel
theorem OK_46 : OKm 46 := OKm_of okm_46
set_option maxRecDepth 100000 in
theorem okm_47 : okM1 47 = true := by decide +kernel
theorem OK_47 : OKm 47 := OKm_of okm_47
set_option maxRecDepth 100000 in
theorem okm_48 : okM1 48 = true := by decide +kernel
theorem OK_48 : OKm 48 := OKm_of okm_48
set_option maxRecDepth 100000 in
theorem okm_49 : okM1 49 = true := by decide +kernel
theorem OK_49 : OKm 49 := OKm_of okm_49
set_option maxRecDepth 100000 in
theorem okm_50 : okM1 50 = true := by decide +kernel
theorem OK_50 : OKm 50 := OKm_of okm_50
set_option maxRecDepth 100000 in
theorem okm_51 : okM1 51 = true := by decide +kernel
theorem OK_51 : OKm 51 := OKm_of okm_51
set_option maxRecDepth 100000 in
theorem okm_52 : okM1 52 = true := by decide +kernel
theorem OK_52 : OKm 52 := OKm_of okm_52
set_option maxRecDepth 100000 in
theorem okm_53 : okM1 53 = true := by decide +kernel
theorem OK_53 : OKm 53 := OKm_of okm_53
set_option maxRecDepth 100000 in
theorem okm_54 : okM1 54 = true := by decide +kernel
theorem OK_54 : OKm 54 := OKm_of okm_54
set_option maxRecDepth 100000 in
theorem okm_55 : okM1 55 = true := by decide +kernel
theorem OK_55 : OKm 55 := OKm_of okm_55
set_option maxRecDepth 100000 in
theorem okm_56 : okM1 56 = true := by decide +kernel
theorem OK_56 : OKm 56 := OKm_of okm_56
set_option maxRecDepth 100000 in
theorem okm_57 : okM1 57 = true := by decide +kernel
theorem OK_57 : OKm 57 := OKm_of okm_57
set_option maxRecDepth 100000 in
theorem okm_58 : okM1 58 = true := by decide +kernel
theorem OK_58 : OKm 58 := OKm_of okm_58
set_option maxRecDepth 100000 in
theorem okm_59 : okM1 59 = true := by decide +kernel
theorem OK_59 : OKm 59 := OKm_of okm_59
set_option maxRecDepth 100000 in
theorem okm_60 : okM1 60 = true := by decide +kernel
theorem OK_60 : OKm 60 := OKm_of okm_60
set_option maxRecDepth 100000 in
theorem okm_61 : okM1 61 = true := by decide +kernel
theorem OK_61 : OKm 61 := OKm_of okm_61
set_option maxRecDepth 100000 in
theorem okm_62 : okM1 62 = true := by decide +kernel
theorem OK_62 : OKm 62 := OKm_of okm_62
set_option maxRecDepth 100000 in
theorem okm_63 : okM1 63 = true := by decide +kernel
theorem OK_63 : OKm 63 := OKm_of okm_63
set_option maxRecDepth 100000 in
theorem okm_64 : okM1 64 = true := by decide +kernel
theorem OK_64 : OKm 64 := OKm_of okm_64
set_option maxRecDepth 100000 in
theorem okm_65 : okM1 65 = true := by decide +kernel
theorem OK_65 : OKm 65 := OKm_of okm_65
set_option maxRecDepth 100000 in
theorem okm_66 : okM1 66 = true := by decide +kernel
theorem OK_66 : OKm 66 := OKm_of okm_66
set_option maxRecDepth 100000 in
theorem okm_67 : okM1 67 = true := by decide +kernel
theorem OK_67 : OKm 67 := OKm_of okm_67
set_option maxRecDepth 100000 in
theorem okm_68 : okM1 68 = true := by decide +kernel
theorem OK_68 : OKm 68 := OKm_of okm_68
