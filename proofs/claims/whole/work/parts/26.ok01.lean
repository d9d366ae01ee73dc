set_option maxRecDepth 100000 in
theorem okm_23 : okM1 23 = true := by decide +kernel
theorem OK_23 : OKm 23 := OKm_of okm_23
set_option maxRecDepth 100000 in
theorem okm_24 : okM1 24 = true := by decide +kernel
theorem OK_24 : OKm 24 := OKm_of okm_24
set_option maxRecDepth 100000 in
theorem okm_25 : okM1 25 = true := by decide +kernel
theorem OK_25 : OKm 25 := OKm_of okm_25
set_option maxRecDepth 100000 in
theorem okm_26 : okM1 26 = true := by decide +kernel
theorem OK_26 : OKm 26 := OKm_of okm_26
set_option maxRecDepth 100000 in
theorem okm_27 : okM1 27 = true := by decide +kernel
theorem OK_27 : OKm 27 := OKm_of okm_27
set_option maxRecDepth 100000 in
theorem okm_28 : okM1 28 = true := by decide +kernel
theorem OK_28 : OKm 28 := OKm_of okm_28
set_option maxRecDepth 100000 in
theorem okm_29 : okM1 29 = true := by decide +kernel
theorem OK_29 : OKm 29 := OKm_of okm_29
set_option maxRecDepth 100000 in
theorem okm_30 : okM1 30 = true := by decide +kernel
theorem OK_30 : OKm 30 := OKm_of okm_30
set_option maxRecDepth 100000 in
theorem okm_31 : okM1 31 = true := by decide +kernel
theorem OK_31 : OKm 31 := OKm_of okm_31
set_option maxRecDepth 100000 in
theorem okm_32 : okM1 32 = true := by decide +kernel
theorem OK_32 : OKm 32 := OKm_of okm_32
set_option maxRecDepth 100000 in
theorem okm_33 : okM1 33 = true := by decide +kernel
theorem OK_33 : OKm 33 := OKm_of okm_33
set_option maxRecDepth 100000 in
theorem okm_34 : okM1 34 = true := by decide +kernel
theorem OK_34 : OKm 34 := OKm_of okm_34
set_option maxRecDepth 100000 in
theorem okm_35 : okM1 35 = true := by decide +kernel
theorem OK_35 : OKm 35 := OKm_of okm_35
set_option maxRecDepth 100000 in
theorem okm_36 : okM1 36 = true := by decide +kernel
theorem OK_36 : OKm 36 := OKm_of okm_36
set_option maxRecDepth 100000 in
theorem okm_37 : okM1 37 = true := by decide +kernel
theorem OK_37 : OKm 37 := OKm_of okm_37
set_option maxRecDepth 100000 in
theorem okm_38 : okM1 38 = true := by decide +kernel
theorem OK_38 : OKm 38 := OKm_of okm_38
set_option maxRecDepth 100000 in
theorem okm_39 : okM1 39 = true := by decide +kernel
theorem OK_39 : OKm 39 := OKm_of okm_39
set_option maxRecDepth 100000 in
theorem okm_40 : okM1 40 = true := by decide +kernel
theorem OK_40 : OKm 40 := OKm_of okm_40
set_option maxRecDepth 100000 in
theorem okm_41 : okM1 41 = true := by decide +kernel
theorem OK_41 : OKm 41 := OKm_of okm_41
set_option maxRecDepth 100000 in
theorem okm_42 : okM1 42 = true := by decide +kernel
theorem OK_42 : OKm 42 := OKm_of okm_42
set_option maxRecDepth 100000 in
theorem okm_43 : okM1 43 = true := by decide +kernel
theorem OK_43 : OKm 43 := OKm_of okm_43
set_option maxRecDepth 100000 in
theorem okm_44 : okM1 44 = true := by decide +kernel
theorem OK_44 : OKm 44 := OKm_of okm_44
set_option maxRecDepth 100000 in
theorem okm_45 : okM1 45 = true := by decide +kernel
theorem OK_45 : OKm 45 := OKm_of okm_45
