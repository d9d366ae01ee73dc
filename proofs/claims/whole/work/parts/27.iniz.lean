theorem OK_132 : OKm 132 := by
  refine ⟨by decide, by decide, ?_⟩
  have h : ∀ ch ∈ cd_132, ch.2.all (okE 132) = true := by
    intro ch hc
    simp only [cd_132, cd_132_g1, List.mem_cons, List.not_mem_nil, or_false] at hc
    rcases hc with rfl | rfl | rfl | rfl | rfl | rfl | rfl | rfl | rfl | rfl | rfl | rfl | rfl | rfl | rfl | rfl | rfl | rfl | rfl | rfl | rfl | rfl | rfl | rfl | rfl | rfl | rfl | rfl | rfl | rfl | rfl | rfl | rfl | rfl | rfl | rfl | rfl | rfl | rfl | rfl | rfl | rfl | rfl | rfl | rfl | rfl
    · exact okc_132_0
    · exact okc_132_1
    · exact okc_132_2
    · exact okc_132_3
    · exact okc_132_4
    · exact okc_132_5
    · exact okc_132_6
    · exact okc_132_7
    · exact okc_132_8
    · exact okc_132_9
    · exact okc_132_10
    · exact okc_132_11
    · exact okc_132_12
    · exact okc_132_13
    · exact okc_132_14
    · exact okc_132_15
    · exact okc_132_16
    · exact okc_132_17
    · exact okc_132_18
    · exact okc_132_19
    · exact okc_132_20
    · exact okc_132_21
    · exact okc_132_22
    · exact okc_132_23
    · exact okc_132_24
    · exact okc_132_25
    · exact okc_132_26
    · exact okc_132_27
    · exact okc_132_28
    · exact okc_132_29
    · exact okc_132_30
    · exact okc_132_31
    · exact okc_132_32
    · exact okc_132_33
    · exact okc_132_34
    · exact okc_132_35
    · exact okc_132_36
    · exact okc_132_37
    · exact okc_132_38
    · exact okc_132_39
    · exact okc_132_40
    · exact okc_132_41
    · exact okc_132_42
    · exact okc_132_43
    · exact okc_132_44
    · exact okc_132_45
  intro ch hc e he
  exact List.all_eq_true.mp (h ch hc) e he
