theorem OK_244 : OKm 244 := by
  refine ⟨by decide, by decide, ?_⟩
  have h : ∀ ch ∈ cd_244, ch.2.all (okE 244) = true := by
    intro ch hc
    simp only [cd_244, cd_244_g1, List.mem_cons, List.not_mem_nil, or_false] at hc
    rcases hc with rfl | rfl | rfl | rfl | rfl | rfl | rfl | rfl | rfl | rfl | rfl | rfl | rfl | rfl | rfl | rfl | rfl | rfl | rfl | rfl | rfl | rfl | rfl | rfl | rfl | rfl | rfl | rfl | rfl | rfl | rfl | rfl | rfl | rfl | rfl | rfl | rfl | rfl | rfl | rfl | rfl | rfl | rfl | rfl | rfl | rfl | rfl | rfl | rfl | rfl | rfl | rfl | rfl | rfl | rfl | rfl | rfl | rfl | rfl | rfl | rfl
    · exact okc_244_0
    · exact okc_244_1
    · exact okc_244_2
    · exact okc_244_3
    · exact okc_244_4
    · exact okc_244_5
    · exact okc_244_6
    · exact okc_244_7
    · exact okc_244_8
    · exact okc_244_9
    · exact okc_244_10
    · exact okc_244_11
    · exact okc_244_12
    · exact okc_244_13
    · exact okc_244_14
    · exact okc_244_15
    · exact okc_244_16
    · exact okc_244_17
    · exact okc_244_18
    · exact okc_244_19
    · exact okc_244_20
    · exact okc_244_21
    · exact okc_244_22
    · exact okc_244_23
    · exact okc_244_24
    · exact okc_244_25
    · exact okc_244_26
    · exact okc_244_27
    · exact okc_244_28
    · exact okc_244_29
    · exact okc_244_30
    · exact okc_244_31
    · exact okc_244_32
    · exact okc_244_33
    · exact okc_244_34
    · exact okc_244_35
    · exact okc_244_36
    · exact okc_244_37
    · exact okc_244_38
    · exact okc_244_39
    · exact okc_244_40
    · exact okc_244_41
    · exact okc_244_42
    · exact okc_244_43
    · exact okc_244_44
    · exact okc_244_45
    · exact okc_244_46
    · exact okc_244_47
    · exact okc_244_48
    · exact okc_244_49
    · exact okc_244_50
    · exact okc_244_51
    · exact okc_244_52
    · exact okc_244_53
    · exact okc_244_54
    · exact okc_244_55
    · exact okc_244_56
    · exact okc_244_57
    · exact okc_244_58
    · exact okc_244_59
    · exact okc_244_60
  intro ch hc e he
  exact List.all_eq_true.mp (h ch hc) e he
