set_option maxRecDepth 100000 in
theorem okm_0 : okM1 0 = true := by decide +kernel
theorem OK_0 : OKm 0 := OKm_of okm_0
set_option maxRecDepth 100000 in
theorem okm_1 : okM1 1 = true := by decide +kernel
theorem OK_1 : OKm 1 := OKm_of okm_1
set_option maxRecDepth 100000 in
theorem okm_2 : okM1 2 = true := by decide +kernel
theorem OK_2 : OKm 2 := OKm_of okm_2
set_option maxRecDepth 100000 in
theorem okm_3 : okM1 3 = true := by decide +kernel
theorem OK_3 : OKm 3 := OKm_of okm_3
set_option maxRecDepth 100000 in
theorem okm_4 : okM1 4 = true := by decide +kernel
theorem OK_4 : OKm 4 := OKm_of okm_4
set_option maxRecDepth 100000 in
theorem okm_5 : okM1 5 = true := by decide +kernel
theorem OK_5 : OKm 5 := OKm_of okm_5
set_option maxRecDepth 100000 in
theorem okm_6 : okM1 6 = true := by decide +kernel
theorem OK_6 : OKm 6 := OKm_of okm_6
set_option maxRecDepth 100000 in
theorem okm_7 : okM1 7 = true := by decide +kernel
theorem OK_7 : OKm 7 := OKm_of okm_7
set_option maxRecDepth 100000 in
theorem okm_8 : okM1 8 = true := by decide +kernel
theorem OK_8 : OKm 8 := OKm_of okm_8
set_option maxRecDepth 100000 in
theorem okm_9 : okM1 9 = true := by decide +kernel
theorem OK_9 : OKm 9 := OKm_of okm_9
set_option maxRecDepth 100000 in
theorem okm_10 : okM1 10 = true := by decide +kernel
theorem OK_10 : OKm 10 := OKm_of okm_10
set_option maxRecDepth 100000 in
theorem okm_11 : okM1 11 = true := by decide +kernel
theorem OK_11 : OKm 11 := OKm_of okm_11
set_option maxRecDepth 100000 in
theorem okm_12 : okM1 12 = true := by decide +kernel
theorem OK_12 : OKm 12 := OKm_of okm_12
set_option maxRecDepth 100000 in
theorem okm_13 : okM1 13 = true := by decide +kernel
theorem OK_13 : OKm 13 := OKm_of okm_13
set_option maxRecDepth 100000 in
theorem okm_14 : okM1 14 = true := by decide +kernel
theorem OK_14 : OKm 14 := OKm_of okm_14
set_option maxRecDepth 100000 in
theorem okm_15 : okM1 15 = true := by decide +kernel
theorem OK_15 : OKm 15 := OKm_of okm_15
set_option maxRecDepth 100000 in
theorem okm_16 : okM1 16 = true := by decide +kernel
theorem OK_16 : OKm 16 := OKm_of okm_16
set_option maxRecDepth 100000 in
theorem okm_17 : okM1 17 = true := by decide +kernel
theorem OK_17 : OKm 17 := OKm_of okm_17
set_option maxRecDepth 100000 in
theorem okm_18 : okM1 18 = true := by decide +kernel
theorem OK_18 : OKm 18 := OKm_of okm_18
set_option maxRecDepth 100000 in
theorem okm_19 : okM1 19 = true := by decide +kernel
theorem OK_19 : OKm 19 := OKm_of okm_19
set_option maxRecDepth 100000 in
theorem okm_20 : okM1 20 = true := by decide +kernel
theorem OK_20 : OKm 20 := OKm_of okm_20
set_option maxRecDepth 100000 in
theorem okm_21 : okM1 21 = true := by decide +kernel
theorem OK_21 : OKm 21 := OKm_of okm_21
set_option maxRecDepth 100000 in
theorem okm_22 : okM1 22 = true := by decide +kernel
theorem OK_22 : OKm 22 := OKm_of okm_22
set_option maxRecDepth 100000 in
theorem okm_23 : okM1 23 = true := by decide +kernel
theorem OK_23 : OKm 23 := OKm_of okm_23
set_option maxRecDepth 100000 in
theorem okm_24 : okM1 24 = true := by decide +kernel
theorem OK_24 : OKm 24 := OKm_of okm_24
set_option maxRecDepth 100000 in
theorem okm_25 : okM1 25 = true := by decide +kernel
theorem OK_25 : OKm 25 := OKm_of okm_25
set_option maxRecDepth 100000 in
theorem okm_26 : okM1 26 = true := by decide +kernel
theorem OK_26 : OKm 26 := OKm_of okm_26
set_option maxRecDepth 100000 in
theorem okm_27 : okM1 27 = true := by decide +kernel
theorem OK_27 : OKm 27 := OKm_of okm_27
set_option maxRecDepth 100000 in
theorem okm_28 : okM1 28 = true := by decide +kernel
theorem OK_28 : OKm 28 := OKm_of okm_28
set_option maxRecDepth 100000 in
theorem okm_29 : okM1 29 = true := by decide +kernel
theorem OK_29 : OKm 29 := OKm_of okm_29
set_option maxRecDepth 100000 in
theorem okm_30 : okM1 30 = true := by decide +kernel
theorem OK_30 : OKm 30 := OKm_of okm_30
set_option maxRecDepth 100000 in
theorem okm_31 : okM1 31 = true := by decide +kernel
theorem OK_31 : OKm 31 := OKm_of okm_31
set_option maxRecDepth 100000 in
theorem okm_32 : okM1 32 = true := by decide +kernel
theorem OK_32 : OKm 32 := OKm_of okm_32
set_option maxRecDepth 100000 in
theorem okm_33 : okM1 33 = true := by decide +kernel
theorem OK_33 : OKm 33 := OKm_of okm_33
set_option maxRecDepth 100000 in
theorem okm_34 : okM1 34 = true := by decide +kernel
theorem OK_34 : OKm 34 := OKm_of okm_34
set_option maxRecDepth 100000 in
theorem okm_35 : okM1 35 = true := by decide +kernel
theorem OK_35 : OKm 35 := OKm_of okm_35
set_option maxRecDepth 100000 in
theorem okm_36 : okM1 36 = true := by decide +kernel
theorem OK_36 : OKm 36 := OKm_of okm_36
set_option maxRecDepth 100000 in
theorem okm_37 : okM1 37 = true := by decide +kernel
theorem OK_37 : OKm 37 := OKm_of okm_37
set_option maxRecDepth 100000 in
theorem okm_38 : okM1 38 = true := by decide +kernel
theorem OK_38 : OKm 38 := OKm_of okm_38
set_option maxRecDepth 100000 in
theorem okm_39 : okM1 39 = true := by decide +kernel
theorem OK_39 : OKm 39 := OKm_of okm_39
set_option maxRecDepth 100000 in
theorem okm_40 : okM1 40 = true := by decide +kernel
theorem OK_40 : OKm 40 := OKm_of okm_40
set_option maxRecDepth 100000 in
theorem okm_41 : okM1 41 = true := by decide +kernel
theorem OK_41 : OKm 41 := OKm_of okm_41
set_option maxRecDepth 100000 in
theorem okm_42 : okM1 42 = true := by decide +kernel
theorem OK_42 : OKm 42 := OKm_of okm_42
set_option maxRecDepth 100000 in
theorem okm_43 : okM1 43 = true := by decide +kernel
theorem OK_43 : OKm 43 := OKm_of okm_43
set_option maxRecDepth 100000 in
theorem okm_44 : okM1 44 = true := by decide +kernel
theorem OK_44 : OKm 44 := OKm_of okm_44
set_option maxRecDepth 100000 in
theorem okm_45 : okM1 45 = true := by decide +kernel
theorem OK_45 : OKm 45 := OKm_of okm_45
set_option maxRecDepth 100000 in
theorem okm_46 : okM1 46 = true := by decide +kernel
theorem OK_46 : OKm 46 := OKm_of okm_46
set_option maxRecDepth 100000 in
theorem okm_47 : okM1 47 = true := by decide +kernel
theorem OK_47 : OKm 47 := OKm_of okm_47
set_option maxRecDepth 100000 in
theorem okm_48 : okM1 48 = true := by decide +kernel
theorem OK_48 : OKm 48 := OKm_of okm_48
set_option maxRecDepth 100000 in
theorem okm_49 : okM1 49 = true := by decide +kernel
theorem OK_49 : OKm 49 := OKm_of okm_49
set_option maxRecDepth 100000 in
theorem okm_50 : okM1 50 = true := by decide +kernel
theorem OK_50 : OKm 50 := OKm_of okm_50
set_option maxRecDepth 100000 in
theorem okm_51 : okM1 51 = true := by decide +kernel
theorem OK_51 : OKm 51 := OKm_of okm_51
set_option maxRecDepth 100000 in
theorem okm_52 : okM1 52 = true := by decide +kernel
theorem OK_52 : OKm 52 := OKm_of okm_52
set_option maxRecDepth 100000 in
theorem okm_53 : okM1 53 = true := by decide +kernel
theorem OK_53 : OKm 53 := OKm_of okm_53
set_option maxRecDepth 100000 in
theorem okm_54 : okM1 54 = true := by decide +kernel
theorem OK_54 : OKm 54 := OKm_of okm_54
set_option maxRecDepth 100000 in
theorem okm_55 : okM1 55 = true := by decide +kernel
theorem OK_55 : OKm 55 := OKm_of okm_55
set_option maxRecDepth 100000 in
theorem okm_56 : okM1 56 = true := by decide +kernel
theorem OK_56 : OKm 56 := OKm_of okm_56
set_option maxRecDepth 100000 in
theorem okm_57 : okM1 57 = true := by decide +kernel
theorem OK_57 : OKm 57 := OKm_of okm_57
set_option maxRecDepth 100000 in
theorem okm_58 : okM1 58 = true := by decide +kernel
theorem OK_58 : OKm 58 := OKm_of okm_58
set_option maxRecDepth 100000 in
theorem okm_59 : okM1 59 = true := by decide +kernel
theorem OK_59 : OKm 59 := OKm_of okm_59
set_option maxRecDepth 100000 in
theorem okm_60 : okM1 60 = true := by decide +kernel
theorem OK_60 : OKm 60 := OKm_of okm_60
set_option maxRecDepth 100000 in
theorem okm_61 : okM1 61 = true := by decide +kernel
theorem OK_61 : OKm 61 := OKm_of okm_61
set_option maxRecDepth 100000 in
theorem okm_62 : okM1 62 = true := by decide +kernel
theorem OK_62 : OKm 62 := OKm_of okm_62
set_option maxRecDepth 100000 in
theorem okm_63 : okM1 63 = true := by decide +kernel
theorem OK_63 : OKm 63 := OKm_of okm_63
set_option maxRecDepth 100000 in
theorem okm_64 : okM1 64 = true := by decide +kernel
theorem OK_64 : OKm 64 := OKm_of okm_64
set_option maxRecDepth 100000 in
theorem okm_65 : okM1 65 = true := by decide +kernel
theorem OK_65 : OKm 65 := OKm_of okm_65
set_option maxRecDepth 100000 in
theorem okm_66 : okM1 66 = true := by decide +kernel
theorem OK_66 : OKm 66 := OKm_of okm_66
