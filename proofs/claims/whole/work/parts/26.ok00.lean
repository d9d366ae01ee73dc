set_option maxRecDepth 100000 in
theorem okm_0 : okM1 0 = true := by decide +kernel
theorem OK_0 : OKm 0 := OKm_of okm_0
set_option maxRecDepth 100000 in
theorem okm_1 : okM1 1 = true := by decide +kernel
theorem OK_1 : OKm 1 := OKm_of okm_1
set_option maxRecDepth 100000 in
theorem okm_2 : okM1 2 = true := by decide +kernel
theorem OK_2 : OKm 2 := OKm_of okm_2
set_option maxRecDepth 100000 in
theorem okm_3 : okM1 3 = true := by decide +kernel
theorem OK_3 : OKm 3 := OKm_of okm_3
set_option maxRecDepth 100000 in
theorem okm_4 : okM1 4 = true := by decide +kernel
theorem OK_4 : OKm 4 := OKm_of okm_4
set_option maxRecDepth 100000 in
theorem okm_5 : okM1 5 = true := by decide +kernel
theorem OK_5 : OKm 5 := OKm_of okm_5
set_option maxRecDepth 100000 in
theorem okm_6 : okM1 6 = true := by decide +kernel
theorem OK_6 : OKm 6 := OKm_of okm_6
set_option maxRecDepth 100000 in
theorem okm_7 : okM1 7 = true := by decide +kernel
theorem OK_7 : OKm 7 := OKm_of okm_7
set_option maxRecDepth 100000 in
theorem okm_8 : okM1 8 = true := by decide +kernel
theorem OK_8 : OKm 8 := OKm_of okm_8
set_option maxRecDepth 100000 in
theorem okm_9 : okM1 9 = true := by decide +kernel
theorem OK_9 : OKm 9 := OKm_of okm_9
set_option maxRecDepth 100000 in
theorem okm_10 : okM1 10 = true := by decide +kernel
theorem OK_10 : OKm 10 := OKm_of okm_10
set_option maxRecDepth 100000 in
theorem okm_11 : okM1 11 = true := by decide +kernel
theorem OK_11 : OKm 11 := OKm_of okm_11
set_option maxRecDepth 100000 in
theorem okm_12 : okM1 12 = true := by decide +kernel
theorem OK_12 : OKm 12 := OKm_of okm_12
set_option maxRecDepth 100000 in
theorem okm_13 : okM1 13 = true := by decide +kernel
theorem OK_13 : OKm 13 := OKm_of okm_13
set_option maxRecDepth 100000 in
theorem okm_14 : okM1 14 = true := by decide +kernel
theorem OK_14 : OKm 14 := OKm_of okm_14
set_option maxRecDepth 100000 in
theorem okm_15 : okM1 15 = true := by decide +kernel
theorem OK_15 : OKm 15 := OKm_of okm_15
set_option maxRecDepth 100000 in
theorem okm_16 : okM1 16 = true := by decide +kernel
theorem OK_16 : OKm 16 := OKm_of okm_16
set_option maxRecDepth 100000 in
theorem okm_17 : okM1 17 = true := by decide +kernel
theorem OK_17 : OKm 17 := OKm_of okm_17
set_option maxRecDepth 100000 in
theorem okm_18 : okM1 18 = true := by decide +kernel
theorem OK_18 : OKm 18 := OKm_of okm_18
set_option maxRecDepth 100000 in
theorem okm_19 : okM1 19 = true := by decide +kernel
theorem OK_19 : OKm 19 := OKm_of okm_19
set_option maxRecDepth 100000 in
theorem okm_20 : okM1 20 = true := by decide +kernel
theorem OK_20 : OKm 20 := OKm_of okm_20
set_option maxRecDepth 100000 in
theorem okm_21 : okM1 21 = true := by decide +kernel
theorem OK_21 : OKm 21 := OKm_of okm_21
set_option maxRecDepth 100000 in
theorem okm_22 : okM1 22 = true := by decide +kernel
theorem OK_22 : OKm 22 := OKm_of okm_22
