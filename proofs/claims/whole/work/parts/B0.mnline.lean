/-! THE MODEL's reader: noteLine once something is wrong -/
section MNBAD
variable {m : Mem} {K : Option SV → Mem → Prop} {r : Nat} {e : Int × Nat}
/-- from the taking of the time on -/
theorem nl_360 {x2 : Int32} {x3 : Int32} (f : MFt m e) (he : EOK e) (h : ∀ m', MFt m' e → Fr (fun t n k => t = 23 ∧ n = 231 ∧ k = 24) m m' → K none m') : smE true 151 360 [some (vR (some (23, 231))), some (vI (iZ r)), some (vI x2), some (vI x3)] [] m K := by
  refine wp_ok (by decide) OK_151 (cc := cd_151) rfl (stops := []) 30 _ _ _ _ ?_
  refine And.intro trivial (M_lasts1 (MBad.of f he) ?_)
  refine And.intro (Or.inr rfl) ?_
  refine And.intro trivial (h _ ⟨?_, ?_⟩ (Fr.st ⟨rfl, rfl, rfl⟩))
  · rw [gI_s, if_neg (by omega)]; exact f.1
  · rw [gI_s, if_neg (by omega)]; exact f.2
theorem nl_287 {x2 : Int32} (hr : r + 30 ≤ 1634) (f : MFt m e) (he : EOK e) (h : ∀ m', MFt m' e → Fr (fun t n k => t = 23 ∧ n = 231 ∧ k = 24) m m' → K none m') : smE true 151 287 [some (vR (some (23, 231))), some (vI (iZ r)), some (vI x2), none] [] m K := by
  have ea : iZ (r : Int) + 10 = iZ ((r + 10 : Nat) : Int) := by rw [L10, iZ_add]; congr 1
  have hin : vp_in (iZ (r : Int) + 10) 1634 := by rw [ea]; exact (iZ_in (by constructor <;> omega)).mpr (by omega)
  have ne := (MBad.of f he).ne
  refine wp_ok (by decide) OK_151 (cc := cd_151) rfl (stops := [360]) 60 _ _ _ _ ?_
  refine And.intro hin ?_
  refine And.intro (fun _ => ?_) (fun _ => ?_)
  · refine And.intro (fun _ => And.intro trivial (nl_360 f he h)) (fun u => absurd u ne)
  · refine And.intro hin ?_
    refine And.intro (fun _ => ?_) (fun _ => ?_)
    · refine And.intro (fun _ => And.intro trivial (nl_360 f he h)) (fun u => absurd u ne)
    · refine And.intro (fun _ => And.intro trivial (nl_360 f he h)) (fun u => absurd u ne)
def ANb : Nat → Nat → Nat → Prop := fun t n k => t = 23 ∧ n = 231 ∧ (k = 24 ∨ k = 30)
/-- from readsBody on -/
theorem nl_245 {x2 : Int32} (hr : r + 30 ≤ 1634) (f : MFt m e) (he : EOK e) (h : ∀ m', MFt m' e → Fr ANb m m' → K none m') : smE true 151 245 [some (vR (some (23, 231))), some (vI (iZ r)), some (vI x2), none] [] m K := by
  refine wp_ok (by decide) OK_151 (cc := cd_151) rfl (stops := [287]) 60 _ _ _ _ ?_
  refine And.intro trivial (M_readsBody1 (MBad.of f he) (fun m1 b1 F1 => ?_))
  have f1 : MFt m1 e := ⟨(F1.2 _ _ _ (by omega)).trans f.1, (F1.2 _ _ _ (by omega)).trans f.2⟩
  refine And.intro trivial (M_passes1 (k := 19) rfl (by decide) b1 ?_)
  refine And.intro (fun _ => ?_) (fun u => absurd rfl u)
  refine And.intro trivial (M_passes1 (k := 20) rfl (by decide) b1 ?_)
  refine And.intro (fun _ => ?_) (fun u => absurd rfl u)
  refine And.intro trivial (nl_287 hr f1 he (fun m2 f2 F2 => h m2 f2 ((F1.mono (fun t n k z => ⟨z.1, z.2.1, Or.inr z.2.2⟩)).tr (F2.mono (fun t n k z => ⟨z.1, z.2.1, Or.inl z.2.2⟩)))))
/-- from the prefix on -/
theorem nl_240 {x2 : Int32} (hr : r + 30 ≤ 1634) (f : MFt m e) (he : EOK e) (h : ∀ m', MFt m' e → Fr ANb m m' → K none m') : smE true 151 240 [some (vR (some (23, 231))), some (vI (iZ r)), some (vI x2), none] [] m K := by
  refine wp_ok (by decide) OK_151 (cc := cd_151) rfl (stops := [245]) 60 _ _ _ _ ?_
  refine And.intro trivial (M_prefixR1 (MBad.of f he) ?_)
  exact And.intro trivial (nl_245 hr f he h)
/-- from the fraction on -/
theorem nl_235 (hr : r + 30 ≤ 1634) (f : MFt m e) (he : EOK e) (h : ∀ m', MFt m' e → Fr ANb m m' → K none m') : smE true 151 235 [some (vR (some (23, 231))), some (vI (iZ r)), some (vI (iZ 30)), none] [] m K := by
  refine wp_ok (by decide) OK_151 (cc := cd_151) rfl (stops := [240]) 60 _ _ _ _ ?_
  refine And.intro trivial (M_fraction1 (MBad.of f he) ?_)
  exact And.intro trivial (nl_240 hr f he h)
end MNBAD
