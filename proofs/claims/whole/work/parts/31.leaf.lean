/-! LEAVES: small functions, as their numbers -/
section LEAF
variable {md : Bool} {m : Mem} {K : Option SV → Mem → Prop}
theorem c_pitchOf {s n : Int32} (h : K (some (vI (n * 128 + s + 8))) m) : smC md 95 [vI s, vI n] m K := by
  refine smC_wp [some (vI s), some (vI n)] cd_95 [] 20 OK_95 (by decide) rfl rfl (Nat.le_of_ble_eq_true rfl) ?_
  exact And.intro trivial h
theorem c_numberOf {x : Int32} (h : K (some (vI (x >>> (7 &&& 31)))) m) : smC md 106 [vI x] m K := by
  refine smC_wp [some (vI x)] cd_106 [] 20 OK_106 (by decide) rfl rfl (Nat.le_of_ble_eq_true rfl) ?_
  exact And.intro trivial h
theorem c_stepOf {x : Int32} (h : K (some (vI ((x &&& 127) - 8))) m) : smC md 96 [vI x] m K := by
  refine smC_wp [some (vI x)] cd_96 [] 20 OK_96 (by decide) rfl rfl (Nat.le_of_ble_eq_true rfl) ?_
  exact And.intro trivial h
theorem c_min {x y : Int32} (h : K (some (vI (iZ (min x.toInt y.toInt)))) m) : smC md 245 [vI x, vI y] m K := by
  refine smC_wp [some (vI x), some (vI y)] cd_245 [] 20 OK_245 (by decide) rfl rfl (Nat.le_of_ble_eq_true rfl) ?_
  refine And.intro (fun hc => ?_) (fun hc => ?_)
  · refine And.intro trivial ?_
    rw [Int32.lt_iff_toInt_lt] at hc
    rw [Int.min_eq_right (by omega), ← iZ_as] at h
    exact h
  · refine And.intro trivial ?_
    rw [Int32.lt_iff_toInt_lt] at hc
    rw [Int.min_eq_left (by omega), ← iZ_as] at h
    exact h
theorem c_max {x y : Int32} (h : K (some (vI (iZ (max x.toInt y.toInt)))) m) : smC md 246 [vI x, vI y] m K := by
  refine smC_wp [some (vI x), some (vI y)] cd_246 [] 20 OK_246 (by decide) rfl rfl (Nat.le_of_ble_eq_true rfl) ?_
  refine And.intro (fun hc => ?_) (fun hc => ?_)
  · refine And.intro trivial ?_
    rw [Int32.lt_iff_toInt_lt] at hc
    rw [Int.max_eq_right (by omega), ← iZ_as] at h
    exact h
  · refine And.intro trivial ?_
    rw [Int32.lt_iff_toInt_lt] at hc
    rw [Int.max_eq_left (by omega), ← iZ_as] at h
    exact h
end LEAF
