/-! THE LAW's loop -/
/-- between the calls, c of them done -/
def LSt (m : Mem) (c : Nat) : Prop := ∃ tp td fl tm D, SI tp td tm D ∧ CI m tp td fl tm D c ∧ MI m tp td fl tm D
section LAW
variable {m : Mem} {K : Option SV → Mem → Prop} {c L : Nat}
theorem CI.ma {m m' : Mem} {tp : Nat → Int} {td : Nat} {fl : Int × Int} {tm : Nat → Int} {D : Dt} {a : Nat} (h : CI m tp td fl tm D a) (F : Fr AMa m m') : CI m' tp td fl tm D a := by
  obtain ⟨sa, sb, j, st, h⟩ := h
  exact ⟨sa, sb, j, st, h.ma F⟩
theorem CI.one {m : Mem} {tp : Nat → Int} {td : Nat} {fl : Int × Int} {tm : Nat → Int} {D : Dt} {a : Nat} (h : CI m tp td fl tm D a) : CI m tp td fl tm D (a + 1) := by
  obtain ⟨sa, sb, j, st, h⟩ := h
  exact ⟨sa, sb, j, st, h.one⟩
theorem lvin {q : Int32} {d : Nat} {m1 : Mem} (hq : q = iZ (d : Int)) (hd : d ≤ 5) (hc : 6 * c + 6 ≤ L) (hL : L ≤ 3072) (h : gL m1 63 0 = L) : vp_in (iZ ((6 * c : Nat) : Int) + q) (gL m1 63 0) := by
  rw [hq, iZ_add, h]
  exact (iZ_in (by constructor <;> omega)).mpr (by omega)
theorem law_feed (hc : 6 * c + 6 ≤ L) (hL : L ≤ 3072) (hl : gL m 63 0 = L) (h : LSt m c) (nx : ∀ m2, LSt m2 (c + 1) → gL m2 63 0 = L → smE true 244 1031 [some (vR (some (63, 0))), some (vR (some (0, 0))), some (vR (some (23, 231))), some (vI (iZ ((6 * c : Nat) : Int)))] [] m2 K) : smE true 244 160 [some (vR (some (63, 0))), some (vR (some (0, 0))), some (vR (some (23, 231))), some (vI (iZ ((6 * c : Nat) : Int)))] [] m K := by
  obtain ⟨tp, td, fl, tm, D, hS, ⟨sa, sb, j, st, hC⟩, hM⟩ := h
  refine wp_ok (by decide) OK_244 (cc := cd_244) rfl (stops := [1031]) 90 _ _ _ _ ?_
  refine And.intro (lvin (d := 1) rfl (by decide) hc hL hl) ?_
  refine And.intro (lvin (d := 2) rfl (by decide) hc hL hl) ?_
  refine And.intro (lvin (d := 3) rfl (by decide) hc hL hl) ?_
  refine And.intro (lvin (d := 4) rfl (by decide) hc hL hl) ?_
  refine And.intro (lvin (d := 5) rfl (by decide) hc hL hl) ?_
  refine And.intro trivial (smC_ext (C_feed hS hC (fun m1 h1 FC1 E1 => ?_)))
  have l1 : gL m1 63 0 = L := E1.2.2.2.1.trans hl
  have e63 : gI m1 63 0 = gI m 63 0 := E1.2.2.2.2
  have hM1 := hM.fc FC1
  refine And.intro (lvin (d := 1) rfl (by decide) hc hL l1) ?_
  refine And.intro (lvin (d := 2) rfl (by decide) hc hL l1) ?_
  refine And.intro (lvin (d := 3) rfl (by decide) hc hL l1) ?_
  refine And.intro (lvin (d := 4) rfl (by decide) hc hL l1) ?_
  refine And.intro (lvin (d := 5) rfl (by decide) hc hL l1) ?_
  rw [e63]
  refine And.intro trivial (smC_ext (Q_feed hS hM1 (fun m2 h2 F2 E2 => ?_)))
  refine And.intro (fun _ => ?_) (fun z => absurd rfl z)
  exact And.intro trivial (nx m2 ⟨_, _, _, _, _, fdS_ok hS, (h1.ma F2).one, h2⟩ (E2.2.2.2.1.trans l1))
theorem law_text (hc : 6 * c + 6 ≤ L) (hL : L ≤ 3072) (hl : gL m 63 0 = L) (h : LSt m c) (nx : ∀ m2, LSt m2 (c + 1) → gL m2 63 0 = L → smE true 244 1031 [some (vR (some (63, 0))), some (vR (some (0, 0))), some (vR (some (23, 231))), some (vI (iZ ((6 * c : Nat) : Int)))] [] m2 K) : smE true 244 223 [some (vR (some (63, 0))), some (vR (some (0, 0))), some (vR (some (23, 231))), some (vI (iZ ((6 * c : Nat) : Int)))] [] m K := by
  obtain ⟨tp, td, fl, tm, D, hS, ⟨sa, sb, j, st, hC⟩, hM⟩ := h
  refine wp_ok (by decide) OK_244 (cc := cd_244) rfl (stops := [1031]) 90 _ _ _ _ ?_
  refine And.intro (lvin (d := 1) rfl (by decide) hc hL hl) ?_
  refine And.intro trivial (smC_ext (C_text (iZ_as _) (iZ_rng _) hS hC (fun m1 h1 hS1 FC1 E1 => ?_)))
  have l1 : gL m1 63 0 = L := E1.2.2.2.1.trans hl
  have e63 : gI m1 63 0 = gI m 63 0 := E1.2.2.2.2
  have hM1 := hM.fc FC1
  refine And.intro (lvin (d := 1) rfl (by decide) hc hL l1) ?_
  rw [e63]
  refine And.intro trivial (smC_ext (Q_text (iZ_as _) (iZ_rng _) hS hM1 (fun m2 h2 F2 E2 => ?_)))
  refine And.intro (fun _ => ?_) (fun z => absurd rfl z)
  exact And.intro trivial (nx m2 ⟨_, _, _, _, _, hS1, (h1.ma F2).one, h2⟩ (E2.2.2.2.1.trans l1))
theorem law_fault (hc : 6 * c + 6 ≤ L) (hL : L ≤ 3072) (hl : gL m 63 0 = L) (h : LSt m c) (nx : ∀ m2, LSt m2 (c + 1) → gL m2 63 0 = L → smE true 244 1031 [some (vR (some (63, 0))), some (vR (some (0, 0))), some (vR (some (23, 231))), some (vI (iZ ((6 * c : Nat) : Int)))] [] m2 K) : smE true 244 246 [some (vR (some (63, 0))), some (vR (some (0, 0))), some (vR (some (23, 231))), some (vI (iZ ((6 * c : Nat) : Int)))] [] m K := by
  obtain ⟨tp, td, fl, tm, D, hS, ⟨sa, sb, j, st, hC⟩, hM⟩ := h
  refine wp_ok (by decide) OK_244 (cc := cd_244) rfl (stops := [1031]) 90 _ _ _ _ ?_
  refine And.intro (lvin (d := 1) rfl (by decide) hc hL hl) ?_
  refine And.intro trivial (c_fault (iZ_as _) (iZ_rng _) hC ?_)
  refine And.intro (lvin (d := 1) rfl (by decide) hc hL hl) ?_
  refine And.intro trivial (smC_ext (M_fault (iZ_as _) (iZ_rng _) hM (fun m2 h2 F2 E2 => ?_)))
  refine And.intro (fun _ => ?_) (fun z => absurd rfl z)
  exact And.intro trivial (nx m2 ⟨_, _, _, _, _, hS, CI.one (show CI m2 tp td fl tm D c from ⟨sa, sb, j, st, hC.ma F2⟩), h2⟩ (E2.2.2.2.1.trans hl))
theorem law_terms (hc : 6 * c + 6 ≤ L) (hL : L ≤ 3072) (hl : gL m 63 0 = L) (h : LSt m c) (nx : ∀ m2, LSt m2 (c + 1) → gL m2 63 0 = L → smE true 244 1031 [some (vR (some (63, 0))), some (vR (some (0, 0))), some (vR (some (23, 231))), some (vI (iZ ((6 * c : Nat) : Int)))] [] m2 K) : smE true 244 269 [some (vR (some (63, 0))), some (vR (some (0, 0))), some (vR (some (23, 231))), some (vI (iZ ((6 * c : Nat) : Int)))] [] m K := by
  obtain ⟨tp, td, fl, tm, D, hS, ⟨sa, sb, j, st, hC⟩, hM⟩ := h
  refine wp_ok (by decide) OK_244 (cc := cd_244) rfl (stops := [1031]) 90 _ _ _ _ ?_
  refine And.intro (lvin (d := 1) rfl (by decide) hc hL hl) ?_
  refine And.intro (lvin (d := 2) rfl (by decide) hc hL hl) ?_
  refine And.intro trivial (smC_ext (C_terms (iZ_as _) (iZ_as _) (iZ_rng _) (iZ_rng _) hS hC (fun m1 h1 FC1 E1 => ?_)))
  have l1 : gL m1 63 0 = L := E1.2.2.2.1.trans hl
  have e63 : gI m1 63 0 = gI m 63 0 := E1.2.2.2.2
  have hM1 := hM.fc FC1
  refine And.intro (lvin (d := 1) rfl (by decide) hc hL l1) ?_
  refine And.intro (lvin (d := 2) rfl (by decide) hc hL l1) ?_
  rw [e63]
  refine And.intro trivial (smC_ext (Q_terms (iZ_as _) (iZ_as _) (iZ_rng _) (iZ_rng _) hS hM1 (fun m2 h2 F2 E2 => ?_)))
  refine And.intro (fun _ => ?_) (fun z => absurd rfl z)
  exact And.intro trivial (nx m2 ⟨_, _, _, _, _, tmS_ok hS, (h1.ma F2).one, h2⟩ (E2.2.2.2.1.trans l1))
theorem law_body (hc : 6 * c + 6 ≤ L) (hL : L ≤ 3072) (hl : gL m 63 0 = L) (h : LSt m c) (nx : ∀ m2, LSt m2 (c + 1) → gL m2 63 0 = L → smE true 244 1031 [some (vR (some (63, 0))), some (vR (some (0, 0))), some (vR (some (23, 231))), some (vI (iZ ((6 * c : Nat) : Int)))] [] m2 K) : smE true 244 302 [some (vR (some (63, 0))), some (vR (some (0, 0))), some (vR (some (23, 231))), some (vI (iZ ((6 * c : Nat) : Int)))] [] m K := by
  obtain ⟨tp, td, fl, tm, D, hS, ⟨sa, sb, j, st, hC⟩, hM⟩ := h
  refine wp_ok (by decide) OK_244 (cc := cd_244) rfl (stops := [1031]) 90 _ _ _ _ ?_
  refine And.intro (lvin (d := 1) rfl (by decide) hc hL hl) ?_
  refine And.intro (lvin (d := 2) rfl (by decide) hc hL hl) ?_
  refine And.intro trivial (smC_ext (C_body (iZ_as _) (iZ_as _) (iZ_rng _) (iZ_rng _) hS hC (fun m1 h1 FC1 E1 => ?_)))
  have l1 : gL m1 63 0 = L := E1.2.2.2.1.trans hl
  have e63 : gI m1 63 0 = gI m 63 0 := E1.2.2.2.2
  have hM1 := hM.fc FC1
  refine And.intro (lvin (d := 1) rfl (by decide) hc hL l1) ?_
  refine And.intro (lvin (d := 2) rfl (by decide) hc hL l1) ?_
  rw [e63]
  refine And.intro trivial (smC_ext (Q_body (iZ_as _) (iZ_as _) (iZ_rng _) (iZ_rng _) hS hM1 (fun m2 h2 F2 E2 => ?_)))
  refine And.intro (fun _ => ?_) (fun z => absurd rfl z)
  exact And.intro trivial (nx m2 ⟨_, _, _, _, _, bdS_ok hS, (h1.ma F2).one, h2⟩ (E2.2.2.2.1.trans l1))
theorem law_sign (hc : 6 * c + 6 ≤ L) (hL : L ≤ 3072) (hl : gL m 63 0 = L) (h : LSt m c) (nx : ∀ m2, LSt m2 (c + 1) → gL m2 63 0 = L → smE true 244 1031 [some (vR (some (63, 0))), some (vR (some (0, 0))), some (vR (some (23, 231))), some (vI (iZ ((6 * c : Nat) : Int)))] [] m2 K) : smE true 244 335 [some (vR (some (63, 0))), some (vR (some (0, 0))), some (vR (some (23, 231))), some (vI (iZ ((6 * c : Nat) : Int)))] [] m K := by
  obtain ⟨tp, td, fl, tm, D, hS, ⟨sa, sb, j, st, hC⟩, hM⟩ := h
  refine wp_ok (by decide) OK_244 (cc := cd_244) rfl (stops := [1031]) 90 _ _ _ _ ?_
  refine And.intro (lvin (d := 1) rfl (by decide) hc hL hl) ?_
  refine And.intro (lvin (d := 2) rfl (by decide) hc hL hl) ?_
  refine And.intro (lvin (d := 3) rfl (by decide) hc hL hl) ?_
  refine And.intro trivial (smC_ext (C_sign (iZ_as _) (iZ_as _) (iZ_as _) (iZ_rng _) (iZ_rng _) (iZ_rng _) hS hC (fun m1 h1 FC1 E1 => ?_)))
  have l1 : gL m1 63 0 = L := E1.2.2.2.1.trans hl
  have e63 : gI m1 63 0 = gI m 63 0 := E1.2.2.2.2
  have hM1 := hM.fc FC1
  refine And.intro (lvin (d := 1) rfl (by decide) hc hL l1) ?_
  refine And.intro (lvin (d := 2) rfl (by decide) hc hL l1) ?_
  refine And.intro (lvin (d := 3) rfl (by decide) hc hL l1) ?_
  rw [e63]
  refine And.intro trivial (smC_ext (Q_sign (iZ_as _) (iZ_as _) (iZ_as _) (iZ_rng _) (iZ_rng _) (iZ_rng _) hS hM1 (fun m2 h2 F2 E2 => ?_)))
  refine And.intro (fun _ => ?_) (fun z => absurd rfl z)
  exact And.intro trivial (nx m2 ⟨_, _, _, _, _, sgS_ok hS, (h1.ma F2).one, h2⟩ (E2.2.2.2.1.trans l1))
theorem law_bare (hc : 6 * c + 6 ≤ L) (hL : L ≤ 3072) (hl : gL m 63 0 = L) (h : LSt m c) (nx : ∀ m2, LSt m2 (c + 1) → gL m2 63 0 = L → smE true 244 1031 [some (vR (some (63, 0))), some (vR (some (0, 0))), some (vR (some (23, 231))), some (vI (iZ ((6 * c : Nat) : Int)))] [] m2 K) : smE true 244 378 [some (vR (some (63, 0))), some (vR (some (0, 0))), some (vR (some (23, 231))), some (vI (iZ ((6 * c : Nat) : Int)))] [] m K := by
  obtain ⟨tp, td, fl, tm, D, hS, ⟨sa, sb, j, st, hC⟩, hM⟩ := h
  refine wp_ok (by decide) OK_244 (cc := cd_244) rfl (stops := [1031]) 90 _ _ _ _ ?_
  refine And.intro (lvin (d := 1) rfl (by decide) hc hL hl) ?_
  refine And.intro trivial (smC_ext (C_bare (iZ_as _) (iZ_rng _) hS hC (fun m1 h1 FC1 E1 => ?_)))
  have l1 : gL m1 63 0 = L := E1.2.2.2.1.trans hl
  have e63 : gI m1 63 0 = gI m 63 0 := E1.2.2.2.2
  have hM1 := hM.fc FC1
  refine And.intro (lvin (d := 1) rfl (by decide) hc hL l1) ?_
  rw [e63]
  refine And.intro trivial (smC_ext (Q_bare (iZ_as _) (iZ_rng _) hS hM1 (fun m2 h2 F2 E2 => ?_)))
  refine And.intro (fun _ => ?_) (fun z => absurd rfl z)
  exact And.intro trivial (nx m2 ⟨_, _, _, _, _, brS_ok hS, (h1.ma F2).one, h2⟩ (E2.2.2.2.1.trans l1))
theorem law_after (hc : 6 * c + 6 ≤ L) (hL : L ≤ 3072) (hl : gL m 63 0 = L) (h : LSt m c) (nx : ∀ m2, LSt m2 (c + 1) → gL m2 63 0 = L → smE true 244 1031 [some (vR (some (63, 0))), some (vR (some (0, 0))), some (vR (some (23, 231))), some (vI (iZ ((6 * c : Nat) : Int)))] [] m2 K) : smE true 244 401 [some (vR (some (63, 0))), some (vR (some (0, 0))), some (vR (some (23, 231))), some (vI (iZ ((6 * c : Nat) : Int)))] [] m K := by
  obtain ⟨tp, td, fl, tm, D, hS, ⟨sa, sb, j, st, hC⟩, hM⟩ := h
  refine wp_ok (by decide) OK_244 (cc := cd_244) rfl (stops := [1031]) 90 _ _ _ _ ?_
  refine And.intro (lvin (d := 1) rfl (by decide) hc hL hl) ?_
  refine And.intro (lvin (d := 2) rfl (by decide) hc hL hl) ?_
  refine And.intro trivial (smC_ext (C_after (iZ_as _) (iZ_as _) (iZ_rng _) (iZ_rng _) hS hC (fun m1 h1 FC1 E1 => ?_)))
  have l1 : gL m1 63 0 = L := E1.2.2.2.1.trans hl
  have e63 : gI m1 63 0 = gI m 63 0 := E1.2.2.2.2
  have hM1 := hM.fc FC1
  refine And.intro (lvin (d := 1) rfl (by decide) hc hL l1) ?_
  refine And.intro (lvin (d := 2) rfl (by decide) hc hL l1) ?_
  rw [e63]
  refine And.intro trivial (smC_ext (Q_after (iZ_as _) (iZ_as _) (iZ_rng _) (iZ_rng _) hS hM1 (fun m2 h2 F2 E2 => ?_)))
  refine And.intro (fun _ => ?_) (fun z => absurd rfl z)
  exact And.intro trivial (nx m2 ⟨_, _, _, _, _, afS_ok hS, (h1.ma F2).one, h2⟩ (E2.2.2.2.1.trans l1))
theorem law_note (hc : 6 * c + 6 ≤ L) (hL : L ≤ 3072) (hl : gL m 63 0 = L) (h : LSt m c) (nx : ∀ m2, LSt m2 (c + 1) → gL m2 63 0 = L → smE true 244 1031 [some (vR (some (63, 0))), some (vR (some (0, 0))), some (vR (some (23, 231))), some (vI (iZ ((6 * c : Nat) : Int)))] [] m2 K) : smE true 244 434 [some (vR (some (63, 0))), some (vR (some (0, 0))), some (vR (some (23, 231))), some (vI (iZ ((6 * c : Nat) : Int)))] [] m K := by
  obtain ⟨tp, td, fl, tm, D, hS, ⟨sa, sb, j, st, hC⟩, hM⟩ := h
  refine wp_ok (by decide) OK_244 (cc := cd_244) rfl (stops := [1031]) 90 _ _ _ _ ?_
  refine And.intro (lvin (d := 1) rfl (by decide) hc hL hl) ?_
  refine And.intro (lvin (d := 2) rfl (by decide) hc hL hl) ?_
  refine And.intro trivial (smC_ext (C_note (iZ_as _) (iZ_as _) (iZ_rng _) (iZ_rng _) hS hC (fun m1 h1 FC1 E1 => ?_)))
  have l1 : gL m1 63 0 = L := E1.2.2.2.1.trans hl
  have e63 : gI m1 63 0 = gI m 63 0 := E1.2.2.2.2
  have hM1 := hM.fc FC1
  refine And.intro (lvin (d := 1) rfl (by decide) hc hL l1) ?_
  refine And.intro (lvin (d := 2) rfl (by decide) hc hL l1) ?_
  rw [e63]
  refine And.intro trivial (smC_ext (Q_note (iZ_as _) (iZ_as _) (iZ_rng _) (iZ_rng _) hS hM1 (fun m2 h2 F2 E2 => ?_)))
  refine And.intro (fun _ => ?_) (fun z => absurd rfl z)
  exact And.intro trivial (nx m2 ⟨_, _, _, _, _, hS, (h1.ma F2).one, h2⟩ (E2.2.2.2.1.trans l1))
theorem law_begin (hc : 6 * c + 6 ≤ L) (hL : L ≤ 3072) (hl : gL m 63 0 = L) (h : LSt m c) (nx : ∀ m2, LSt m2 (c + 1) → gL m2 63 0 = L → smE true 244 1031 [some (vR (some (63, 0))), some (vR (some (0, 0))), some (vR (some (23, 231))), some (vI (iZ ((6 * c : Nat) : Int)))] [] m2 K) : smE true 244 467 [some (vR (some (63, 0))), some (vR (some (0, 0))), some (vR (some (23, 231))), some (vI (iZ ((6 * c : Nat) : Int)))] [] m K := by
  obtain ⟨tp, td, fl, tm, D, hS, ⟨sa, sb, j, st, hC⟩, hM⟩ := h
  refine wp_ok (by decide) OK_244 (cc := cd_244) rfl (stops := [1031]) 90 _ _ _ _ ?_
  refine And.intro (lvin (d := 1) rfl (by decide) hc hL hl) ?_
  refine And.intro (lvin (d := 2) rfl (by decide) hc hL hl) ?_
  refine And.intro trivial (C_begin (iZ_as _) (iZ_as _) (iZ_rng _) (iZ_rng _) hS hC ?_)
  refine And.intro (lvin (d := 1) rfl (by decide) hc hL hl) ?_
  refine And.intro (lvin (d := 2) rfl (by decide) hc hL hl) ?_
  refine And.intro trivial (smC_ext (Q_begin (iZ_as _) (iZ_as _) (iZ_rng _) (iZ_rng _) hS hM (fun m2 h2 F2 E2 => ?_)))
  refine And.intro (fun _ => ?_) (fun z => absurd (lg_eq.mpr rfl) z)
  exact And.intro trivial (nx m2 ⟨_, _, _, _, _, hS, CI.one (show CI m2 tp td fl tm D c from ⟨sa, sb, j, st, hC.ma F2⟩), h2⟩ (E2.2.2.2.1.trans hl))
theorem law_length (hc : 6 * c + 6 ≤ L) (hL : L ≤ 3072) (hl : gL m 63 0 = L) (h : LSt m c) (nx : ∀ m2, LSt m2 (c + 1) → gL m2 63 0 = L → smE true 244 1031 [some (vR (some (63, 0))), some (vR (some (0, 0))), some (vR (some (23, 231))), some (vI (iZ ((6 * c : Nat) : Int)))] [] m2 K) : smE true 244 501 [some (vR (some (63, 0))), some (vR (some (0, 0))), some (vR (some (23, 231))), some (vI (iZ ((6 * c : Nat) : Int)))] [] m K := by
  obtain ⟨tp, td, fl, tm, D, hS, ⟨sa, sb, j, st, hC⟩, hM⟩ := h
  refine wp_ok (by decide) OK_244 (cc := cd_244) rfl (stops := [1031]) 90 _ _ _ _ ?_
  refine And.intro (lvin (d := 1) rfl (by decide) hc hL hl) ?_
  refine And.intro (lvin (d := 2) rfl (by decide) hc hL hl) ?_
  refine And.intro trivial (C_length (iZ_as _) (iZ_as _) (iZ_rng _) (iZ_rng _) hS hC ?_)
  refine And.intro (lvin (d := 1) rfl (by decide) hc hL hl) ?_
  refine And.intro (lvin (d := 2) rfl (by decide) hc hL hl) ?_
  refine And.intro trivial (smC_ext (Q_length (iZ_as _) (iZ_as _) (iZ_rng _) (iZ_rng _) hS hM (fun m2 h2 F2 E2 => ?_)))
  refine And.intro (fun _ => ?_) (fun z => absurd (lg_eq.mpr rfl) z)
  exact And.intro trivial (nx m2 ⟨_, _, _, _, _, hS, CI.one (show CI m2 tp td fl tm D c from ⟨sa, sb, j, st, hC.ma F2⟩), h2⟩ (E2.2.2.2.1.trans hl))
theorem law_borrowed (hc : 6 * c + 6 ≤ L) (hL : L ≤ 3072) (hl : gL m 63 0 = L) (h : LSt m c) (nx : ∀ m2, LSt m2 (c + 1) → gL m2 63 0 = L → smE true 244 1031 [some (vR (some (63, 0))), some (vR (some (0, 0))), some (vR (some (23, 231))), some (vI (iZ ((6 * c : Nat) : Int)))] [] m2 K) : smE true 244 535 [some (vR (some (63, 0))), some (vR (some (0, 0))), some (vR (some (23, 231))), some (vI (iZ ((6 * c : Nat) : Int)))] [] m K := by
  obtain ⟨tp, td, fl, tm, D, hS, ⟨sa, sb, j, st, hC⟩, hM⟩ := h
  refine wp_ok (by decide) OK_244 (cc := cd_244) rfl (stops := [1031]) 90 _ _ _ _ ?_
  refine And.intro (lvin (d := 1) rfl (by decide) hc hL hl) ?_
  refine And.intro (lvin (d := 2) rfl (by decide) hc hL hl) ?_
  refine And.intro (lvin (d := 3) rfl (by decide) hc hL hl) ?_
  refine And.intro trivial (smC_ext (C_borrowed (iZ_as _) (iZ_as _) (iZ_as _) (iZ_rng _) (iZ_rng _) (iZ_rng _) hS hC (fun m1 h1 FC1 E1 => ?_)))
  have l1 : gL m1 63 0 = L := E1.2.2.2.1.trans hl
  have e63 : gI m1 63 0 = gI m 63 0 := E1.2.2.2.2
  have hM1 := hM.fc FC1
  refine And.intro (lvin (d := 1) rfl (by decide) hc hL l1) ?_
  refine And.intro (lvin (d := 2) rfl (by decide) hc hL l1) ?_
  refine And.intro (lvin (d := 3) rfl (by decide) hc hL l1) ?_
  rw [e63]
  refine And.intro trivial (smC_ext (Q_borrowed (iZ_as _) (iZ_as _) (iZ_as _) (iZ_rng _) (iZ_rng _) (iZ_rng _) hS hM1 (fun m2 h2 F2 E2 => ?_)))
  refine And.intro (fun _ => ?_) (fun z => absurd (lg_eq.mpr rfl) z)
  exact And.intro trivial (nx m2 ⟨_, _, _, _, _, hS, (h1.ma F2).one, h2⟩ (E2.2.2.2.1.trans l1))
theorem law_tone (hc : 6 * c + 6 ≤ L) (hL : L ≤ 3072) (hl : gL m 63 0 = L) (h : LSt m c) (nx : ∀ m2, LSt m2 (c + 1) → gL m2 63 0 = L → smE true 244 1031 [some (vR (some (63, 0))), some (vR (some (0, 0))), some (vR (some (23, 231))), some (vI (iZ ((6 * c : Nat) : Int)))] [] m2 K) : smE true 244 579 [some (vR (some (63, 0))), some (vR (some (0, 0))), some (vR (some (23, 231))), some (vI (iZ ((6 * c : Nat) : Int)))] [] m K := by
  obtain ⟨tp, td, fl, tm, D, hS, ⟨sa, sb, j, st, hC⟩, hM⟩ := h
  refine wp_ok (by decide) OK_244 (cc := cd_244) rfl (stops := [1031]) 90 _ _ _ _ ?_
  refine And.intro (lvin (d := 1) rfl (by decide) hc hL hl) ?_
  refine And.intro (lvin (d := 2) rfl (by decide) hc hL hl) ?_
  refine And.intro trivial (C_tone (iZ_as _) (iZ_as _) (iZ_rng _) (iZ_rng _) hS hC ?_)
  refine And.intro (lvin (d := 1) rfl (by decide) hc hL hl) ?_
  refine And.intro (lvin (d := 2) rfl (by decide) hc hL hl) ?_
  refine And.intro trivial (smC_ext (Q_tone (iZ_as _) (iZ_as _) (iZ_rng _) (iZ_rng _) hS hM (fun m2 h2 F2 E2 => ?_)))
  refine And.intro (fun _ => ?_) (fun z => absurd (lg_eq.mpr rfl) z)
  exact And.intro trivial (nx m2 ⟨_, _, _, _, _, hS, CI.one (show CI m2 tp td fl tm D c from ⟨sa, sb, j, st, hC.ma F2⟩), h2⟩ (E2.2.2.2.1.trans hl))
theorem law_ms (hc : 6 * c + 6 ≤ L) (hL : L ≤ 3072) (hl : gL m 63 0 = L) (h : LSt m c) (nx : ∀ m2, LSt m2 (c + 1) → gL m2 63 0 = L → smE true 244 1031 [some (vR (some (63, 0))), some (vR (some (0, 0))), some (vR (some (23, 231))), some (vI (iZ ((6 * c : Nat) : Int)))] [] m2 K) : smE true 244 613 [some (vR (some (63, 0))), some (vR (some (0, 0))), some (vR (some (23, 231))), some (vI (iZ ((6 * c : Nat) : Int)))] [] m K := by
  obtain ⟨tp, td, fl, tm, D, hS, ⟨sa, sb, j, st, hC⟩, hM⟩ := h
  refine wp_ok (by decide) OK_244 (cc := cd_244) rfl (stops := [1031]) 90 _ _ _ _ ?_
  refine And.intro (lvin (d := 1) rfl (by decide) hc hL hl) ?_
  refine And.intro trivial (C_ms (iZ_as _) (iZ_rng _) hS hC ?_)
  refine And.intro (lvin (d := 1) rfl (by decide) hc hL hl) ?_
  refine And.intro trivial (smC_ext (Q_ms (iZ_as _) (iZ_rng _) hS hM (fun m2 h2 F2 E2 => ?_)))
  refine And.intro (fun _ => ?_) (fun z => absurd rfl z)
  exact And.intro trivial (nx m2 ⟨_, _, _, _, _, hS, CI.one (show CI m2 tp td fl tm D c from ⟨sa, sb, j, st, hC.ma F2⟩), h2⟩ (E2.2.2.2.1.trans hl))
theorem law_sounds (hc : 6 * c + 6 ≤ L) (hL : L ≤ 3072) (hl : gL m 63 0 = L) (h : LSt m c) (nx : ∀ m2, LSt m2 (c + 1) → gL m2 63 0 = L → smE true 244 1031 [some (vR (some (63, 0))), some (vR (some (0, 0))), some (vR (some (23, 231))), some (vI (iZ ((6 * c : Nat) : Int)))] [] m2 K) : smE true 244 636 [some (vR (some (63, 0))), some (vR (some (0, 0))), some (vR (some (23, 231))), some (vI (iZ ((6 * c : Nat) : Int)))] [] m K := by
  obtain ⟨tp, td, fl, tm, D, hS, ⟨sa, sb, j, st, hC⟩, hM⟩ := h
  refine wp_ok (by decide) OK_244 (cc := cd_244) rfl (stops := [1031]) 90 _ _ _ _ ?_
  refine And.intro (lvin (d := 1) rfl (by decide) hc hL hl) ?_
  refine And.intro (lvin (d := 2) rfl (by decide) hc hL hl) ?_
  refine And.intro trivial (smC_ext (C_sounds (iZ_as _) (iZ_as _) (iZ_rng _) (iZ_rng _) hS hC (fun m1 h1 FC1 E1 => ?_)))
  have l1 : gL m1 63 0 = L := E1.2.2.2.1.trans hl
  have e63 : gI m1 63 0 = gI m 63 0 := E1.2.2.2.2
  have hM1 := hM.fc FC1
  refine And.intro (lvin (d := 1) rfl (by decide) hc hL l1) ?_
  refine And.intro (lvin (d := 2) rfl (by decide) hc hL l1) ?_
  rw [e63]
  refine And.intro trivial (smC_ext (Q_sounds (iZ_as _) (iZ_as _) (iZ_rng _) (iZ_rng _) hS hM1 (fun m2 h2 F2 E2 => ?_)))
  refine And.intro (fun _ => ?_) (fun z => absurd rfl z)
  exact And.intro trivial (nx m2 ⟨_, _, _, _, _, hS, (h1.ma F2).one, h2⟩ (E2.2.2.2.1.trans l1))
theorem law_when (hc : 6 * c + 6 ≤ L) (hL : L ≤ 3072) (hl : gL m 63 0 = L) (h : LSt m c) (nx : ∀ m2, LSt m2 (c + 1) → gL m2 63 0 = L → smE true 244 1031 [some (vR (some (63, 0))), some (vR (some (0, 0))), some (vR (some (23, 231))), some (vI (iZ ((6 * c : Nat) : Int)))] [] m2 K) : smE true 244 669 [some (vR (some (63, 0))), some (vR (some (0, 0))), some (vR (some (23, 231))), some (vI (iZ ((6 * c : Nat) : Int)))] [] m K := by
  obtain ⟨tp, td, fl, tm, D, hS, ⟨sa, sb, j, st, hC⟩, hM⟩ := h
  refine wp_ok (by decide) OK_244 (cc := cd_244) rfl (stops := [1031]) 90 _ _ _ _ ?_
  refine And.intro (lvin (d := 1) rfl (by decide) hc hL hl) ?_
  refine And.intro (lvin (d := 2) rfl (by decide) hc hL hl) ?_
  refine And.intro (lvin (d := 3) rfl (by decide) hc hL hl) ?_
  refine And.intro trivial (smC_ext (C_when (iZ_as _) (iZ_as _) (iZ_as _) (iZ_rng _) (iZ_rng _) (iZ_rng _) hS hC (fun m1 h1 FC1 E1 => ?_)))
  have l1 : gL m1 63 0 = L := E1.2.2.2.1.trans hl
  have e63 : gI m1 63 0 = gI m 63 0 := E1.2.2.2.2
  have hM1 := hM.fc FC1
  refine And.intro (lvin (d := 1) rfl (by decide) hc hL l1) ?_
  refine And.intro (lvin (d := 2) rfl (by decide) hc hL l1) ?_
  refine And.intro (lvin (d := 3) rfl (by decide) hc hL l1) ?_
  rw [e63]
  refine And.intro trivial (smC_ext (Q_when (iZ_as _) (iZ_as _) (iZ_as _) (iZ_rng _) (iZ_rng _) (iZ_rng _) hS hM1 (fun m2 h2 F2 E2 => ?_)))
  refine And.intro (fun _ => ?_) (fun z => absurd (lg_eq.mpr rfl) z)
  exact And.intro trivial (nx m2 ⟨_, _, _, _, _, hS, (h1.ma F2).one, h2⟩ (E2.2.2.2.1.trans l1))
theorem law_called (hc : 6 * c + 6 ≤ L) (hL : L ≤ 3072) (hl : gL m 63 0 = L) (h : LSt m c) (nx : ∀ m2, LSt m2 (c + 1) → gL m2 63 0 = L → smE true 244 1031 [some (vR (some (63, 0))), some (vR (some (0, 0))), some (vR (some (23, 231))), some (vI (iZ ((6 * c : Nat) : Int)))] [] m2 K) : smE true 244 713 [some (vR (some (63, 0))), some (vR (some (0, 0))), some (vR (some (23, 231))), some (vI (iZ ((6 * c : Nat) : Int)))] [] m K := by
  obtain ⟨tp, td, fl, tm, D, hS, ⟨sa, sb, j, st, hC⟩, hM⟩ := h
  refine wp_ok (by decide) OK_244 (cc := cd_244) rfl (stops := [1031]) 90 _ _ _ _ ?_
  refine And.intro (lvin (d := 1) rfl (by decide) hc hL hl) ?_
  refine And.intro (lvin (d := 2) rfl (by decide) hc hL hl) ?_
  refine And.intro trivial (smC_ext (C_called (iZ_as _) (iZ_as _) (iZ_rng _) (iZ_rng _) hS hC (fun m1 h1 FC1 E1 => ?_)))
  have l1 : gL m1 63 0 = L := E1.2.2.2.1.trans hl
  have e63 : gI m1 63 0 = gI m 63 0 := E1.2.2.2.2
  have hM1 := hM.fc FC1
  refine And.intro (lvin (d := 1) rfl (by decide) hc hL l1) ?_
  refine And.intro (lvin (d := 2) rfl (by decide) hc hL l1) ?_
  rw [e63]
  refine And.intro trivial (smC_ext (Q_called (iZ_as _) (iZ_as _) (iZ_rng _) (iZ_rng _) hS hM1 (fun m2 h2 F2 E2 => ?_)))
  refine And.intro (fun _ => ?_) (fun z => absurd rfl z)
  exact And.intro trivial (nx m2 ⟨_, _, _, _, _, hS, h1.ma F2, h2⟩ (E2.2.2.2.1.trans l1))
theorem law_at (hc : 6 * c + 6 ≤ L) (hL : L ≤ 3072) (hl : gL m 63 0 = L) (h : LSt m c) (nx : ∀ m2, LSt m2 (c + 1) → gL m2 63 0 = L → smE true 244 1031 [some (vR (some (63, 0))), some (vR (some (0, 0))), some (vR (some (23, 231))), some (vI (iZ ((6 * c : Nat) : Int)))] [] m2 K) : smE true 244 746 [some (vR (some (63, 0))), some (vR (some (0, 0))), some (vR (some (23, 231))), some (vI (iZ ((6 * c : Nat) : Int)))] [] m K := by
  obtain ⟨tp, td, fl, tm, D, hS, ⟨sa, sb, j, st, hC⟩, hM⟩ := h
  refine wp_ok (by decide) OK_244 (cc := cd_244) rfl (stops := [1031]) 90 _ _ _ _ ?_
  refine And.intro (lvin (d := 1) rfl (by decide) hc hL hl) ?_
  refine And.intro (lvin (d := 2) rfl (by decide) hc hL hl) ?_
  refine And.intro trivial (smC_ext (C_at (iZ_as _) (iZ_as _) (iZ_rng _) (iZ_rng _) hS hC (fun m1 h1 FC1 E1 => ?_)))
  have l1 : gL m1 63 0 = L := E1.2.2.2.1.trans hl
  have e63 : gI m1 63 0 = gI m 63 0 := E1.2.2.2.2
  have hM1 := hM.fc FC1
  refine And.intro (lvin (d := 1) rfl (by decide) hc hL l1) ?_
  refine And.intro (lvin (d := 2) rfl (by decide) hc hL l1) ?_
  rw [e63]
  refine And.intro trivial (smC_ext (Q_at (iZ_as _) (iZ_as _) (iZ_rng _) (iZ_rng _) hS hM1 (fun m2 h2 F2 E2 => ?_)))
  refine And.intro (fun _ => ?_) (fun z => absurd rfl z)
  exact And.intro trivial (nx m2 ⟨_, _, _, _, _, hS, (h1.ma F2).one, h2⟩ (E2.2.2.2.1.trans l1))
theorem law_bar (hc : 6 * c + 6 ≤ L) (hL : L ≤ 3072) (hl : gL m 63 0 = L) (h : LSt m c) (nx : ∀ m2, LSt m2 (c + 1) → gL m2 63 0 = L → smE true 244 1031 [some (vR (some (63, 0))), some (vR (some (0, 0))), some (vR (some (23, 231))), some (vI (iZ ((6 * c : Nat) : Int)))] [] m2 K) : smE true 244 779 [some (vR (some (63, 0))), some (vR (some (0, 0))), some (vR (some (23, 231))), some (vI (iZ ((6 * c : Nat) : Int)))] [] m K := by
  obtain ⟨tp, td, fl, tm, D, hS, ⟨sa, sb, j, st, hC⟩, hM⟩ := h
  refine wp_ok (by decide) OK_244 (cc := cd_244) rfl (stops := [1031]) 90 _ _ _ _ ?_
  refine And.intro (lvin (d := 1) rfl (by decide) hc hL hl) ?_
  refine And.intro (lvin (d := 2) rfl (by decide) hc hL hl) ?_
  refine And.intro trivial (smC_ext (C_bar (iZ_as _) (iZ_as _) (iZ_rng _) (iZ_rng _) hS hC (fun m1 h1 FC1 E1 => ?_)))
  have l1 : gL m1 63 0 = L := E1.2.2.2.1.trans hl
  have e63 : gI m1 63 0 = gI m 63 0 := E1.2.2.2.2
  have hM1 := hM.fc FC1
  refine And.intro (lvin (d := 1) rfl (by decide) hc hL l1) ?_
  refine And.intro (lvin (d := 2) rfl (by decide) hc hL l1) ?_
  rw [e63]
  refine And.intro trivial (smC_ext (Q_bar (iZ_as _) (iZ_as _) (iZ_rng _) (iZ_rng _) hS hM1 (fun m2 h2 F2 E2 => ?_)))
  refine And.intro (fun _ => ?_) (fun z => absurd (lg_eq.mpr rfl) z)
  exact And.intro trivial (nx m2 ⟨_, _, _, _, _, hS, (h1.ma F2).one, h2⟩ (E2.2.2.2.1.trans l1))
theorem law_inKey (hc : 6 * c + 6 ≤ L) (hL : L ≤ 3072) (hl : gL m 63 0 = L) (h : LSt m c) (nx : ∀ m2, LSt m2 (c + 1) → gL m2 63 0 = L → smE true 244 1031 [some (vR (some (63, 0))), some (vR (some (0, 0))), some (vR (some (23, 231))), some (vI (iZ ((6 * c : Nat) : Int)))] [] m2 K) : smE true 244 813 [some (vR (some (63, 0))), some (vR (some (0, 0))), some (vR (some (23, 231))), some (vI (iZ ((6 * c : Nat) : Int)))] [] m K := by
  obtain ⟨tp, td, fl, tm, D, hS, ⟨sa, sb, j, st, hC⟩, hM⟩ := h
  refine wp_ok (by decide) OK_244 (cc := cd_244) rfl (stops := [1031]) 90 _ _ _ _ ?_
  refine And.intro (lvin (d := 1) rfl (by decide) hc hL hl) ?_
  refine And.intro (lvin (d := 2) rfl (by decide) hc hL hl) ?_
  refine And.intro (lvin (d := 3) rfl (by decide) hc hL hl) ?_
  refine And.intro trivial (C_inKey (iZ_as _) (iZ_as _) (iZ_as _) (iZ_rng _) (iZ_rng _) (iZ_rng _) hS hC ?_)
  refine And.intro (lvin (d := 1) rfl (by decide) hc hL hl) ?_
  refine And.intro (lvin (d := 2) rfl (by decide) hc hL hl) ?_
  refine And.intro (lvin (d := 3) rfl (by decide) hc hL hl) ?_
  refine And.intro trivial (smC_ext (Q_inKey (iZ_as _) (iZ_as _) (iZ_as _) (iZ_rng _) (iZ_rng _) (iZ_rng _) hS hM (fun m2 h2 F2 E2 => ?_)))
  refine And.intro (fun _ => ?_) (fun z => absurd rfl z)
  exact And.intro trivial (nx m2 ⟨_, _, _, _, _, hS, CI.one (show CI m2 tp td fl tm D c from ⟨sa, sb, j, st, hC.ma F2⟩), h2⟩ (E2.2.2.2.1.trans hl))
theorem law_would (hc : 6 * c + 6 ≤ L) (hL : L ≤ 3072) (hl : gL m 63 0 = L) (h : LSt m c) (nx : ∀ m2, LSt m2 (c + 1) → gL m2 63 0 = L → smE true 244 1031 [some (vR (some (63, 0))), some (vR (some (0, 0))), some (vR (some (23, 231))), some (vI (iZ ((6 * c : Nat) : Int)))] [] m2 K) : smE true 244 856 [some (vR (some (63, 0))), some (vR (some (0, 0))), some (vR (some (23, 231))), some (vI (iZ ((6 * c : Nat) : Int)))] [] m K := by
  obtain ⟨tp, td, fl, tm, D, hS, ⟨sa, sb, j, st, hC⟩, hM⟩ := h
  refine wp_ok (by decide) OK_244 (cc := cd_244) rfl (stops := [1031]) 90 _ _ _ _ ?_
  refine And.intro (lvin (d := 1) rfl (by decide) hc hL hl) ?_
  refine And.intro (lvin (d := 2) rfl (by decide) hc hL hl) ?_
  refine And.intro trivial (smC_ext (C_would (iZ_as _) (iZ_as _) (iZ_rng _) (iZ_rng _) hS hC (fun m1 h1 FC1 E1 => ?_)))
  have l1 : gL m1 63 0 = L := E1.2.2.2.1.trans hl
  have e63 : gI m1 63 0 = gI m 63 0 := E1.2.2.2.2
  have hM1 := hM.fc FC1
  refine And.intro (lvin (d := 1) rfl (by decide) hc hL l1) ?_
  refine And.intro (lvin (d := 2) rfl (by decide) hc hL l1) ?_
  rw [e63]
  refine And.intro trivial (smC_ext (Q_would (iZ_as _) (iZ_as _) (iZ_rng _) (iZ_rng _) hS hM1 (fun m2 h2 F2 E2 => ?_)))
  refine And.intro (fun _ => ?_) (fun z => absurd rfl z)
  exact And.intro trivial (nx m2 ⟨_, _, _, _, _, hS, (h1.ma F2).one, h2⟩ (E2.2.2.2.1.trans l1))
theorem law_fastest (hc : 6 * c + 6 ≤ L) (hL : L ≤ 3072) (hl : gL m 63 0 = L) (h : LSt m c) (nx : ∀ m2, LSt m2 (c + 1) → gL m2 63 0 = L → smE true 244 1031 [some (vR (some (63, 0))), some (vR (some (0, 0))), some (vR (some (23, 231))), some (vI (iZ ((6 * c : Nat) : Int)))] [] m2 K) : smE true 244 889 [some (vR (some (63, 0))), some (vR (some (0, 0))), some (vR (some (23, 231))), some (vI (iZ ((6 * c : Nat) : Int)))] [] m K := by
  obtain ⟨tp, td, fl, tm, D, hS, ⟨sa, sb, j, st, hC⟩, hM⟩ := h
  refine wp_ok (by decide) OK_244 (cc := cd_244) rfl (stops := [1031]) 90 _ _ _ _ ?_
  refine And.intro trivial (smC_ext (C_fastest   hS hC (fun m1 h1 FC1 E1 => ?_)))
  have l1 : gL m1 63 0 = L := E1.2.2.2.1.trans hl
  have e63 : gI m1 63 0 = gI m 63 0 := E1.2.2.2.2
  have hM1 := hM.fc FC1
  refine And.intro trivial (smC_ext (Q_fastest   hS hM1 (fun m2 h2 F2 E2 => ?_)))
  refine And.intro (fun _ => ?_) (fun z => absurd rfl z)
  exact And.intro trivial (nx m2 ⟨_, _, _, _, _, hS, (h1.ma F2).one, h2⟩ (E2.2.2.2.1.trans l1))
theorem law_bears (hc : 6 * c + 6 ≤ L) (hL : L ≤ 3072) (hl : gL m 63 0 = L) (h : LSt m c) (nx : ∀ m2, LSt m2 (c + 1) → gL m2 63 0 = L → smE true 244 1031 [some (vR (some (63, 0))), some (vR (some (0, 0))), some (vR (some (23, 231))), some (vI (iZ ((6 * c : Nat) : Int)))] [] m2 K) : smE true 244 902 [some (vR (some (63, 0))), some (vR (some (0, 0))), some (vR (some (23, 231))), some (vI (iZ ((6 * c : Nat) : Int)))] [] m K := by
  obtain ⟨tp, td, fl, tm, D, hS, ⟨sa, sb, j, st, hC⟩, hM⟩ := h
  refine wp_ok (by decide) OK_244 (cc := cd_244) rfl (stops := [1031]) 90 _ _ _ _ ?_
  refine And.intro (lvin (d := 1) rfl (by decide) hc hL hl) ?_
  refine And.intro trivial (smC_ext (C_bears (iZ_as _) (iZ_rng _) hS hC (fun m1 h1 FC1 E1 => ?_)))
  have l1 : gL m1 63 0 = L := E1.2.2.2.1.trans hl
  have e63 : gI m1 63 0 = gI m 63 0 := E1.2.2.2.2
  have hM1 := hM.fc FC1
  refine And.intro (lvin (d := 1) rfl (by decide) hc hL l1) ?_
  rw [e63]
  refine And.intro trivial (smC_ext (Q_bears (iZ_as _) (iZ_rng _) hS hM1 (fun m2 h2 F2 E2 => ?_)))
  refine And.intro (fun _ => ?_) (fun z => absurd rfl z)
  exact And.intro trivial (nx m2 ⟨_, _, _, _, _, hS, (h1.ma F2).one, h2⟩ (E2.2.2.2.1.trans l1))
theorem law_instead (hc : 6 * c + 6 ≤ L) (hL : L ≤ 3072) (hl : gL m 63 0 = L) (h : LSt m c) (nx : ∀ m2, LSt m2 (c + 1) → gL m2 63 0 = L → smE true 244 1031 [some (vR (some (63, 0))), some (vR (some (0, 0))), some (vR (some (23, 231))), some (vI (iZ ((6 * c : Nat) : Int)))] [] m2 K) : smE true 244 925 [some (vR (some (63, 0))), some (vR (some (0, 0))), some (vR (some (23, 231))), some (vI (iZ ((6 * c : Nat) : Int)))] [] m K := by
  obtain ⟨tp, td, fl, tm, D, hS, ⟨sa, sb, j, st, hC⟩, hM⟩ := h
  refine wp_ok (by decide) OK_244 (cc := cd_244) rfl (stops := [1031]) 90 _ _ _ _ ?_
  refine And.intro (lvin (d := 1) rfl (by decide) hc hL hl) ?_
  refine And.intro (lvin (d := 2) rfl (by decide) hc hL hl) ?_
  refine And.intro trivial (smC_ext (C_instead (iZ_as _) (iZ_as _) (iZ_rng _) (iZ_rng _) hS hC (fun m1 h1 FC1 E1 => ?_)))
  have l1 : gL m1 63 0 = L := E1.2.2.2.1.trans hl
  have e63 : gI m1 63 0 = gI m 63 0 := E1.2.2.2.2
  have hM1 := hM.fc FC1
  refine And.intro (lvin (d := 1) rfl (by decide) hc hL l1) ?_
  refine And.intro (lvin (d := 2) rfl (by decide) hc hL l1) ?_
  rw [e63]
  refine And.intro trivial (smC_ext (Q_instead (iZ_as _) (iZ_as _) (iZ_rng _) (iZ_rng _) hS hM1 (fun m2 h2 F2 E2 => ?_)))
  refine And.intro (fun _ => ?_) (fun z => absurd rfl z)
  exact And.intro trivial (nx m2 ⟨_, _, _, _, _, hS, (h1.ma F2).one, h2⟩ (E2.2.2.2.1.trans l1))
theorem law_richest (hc : 6 * c + 6 ≤ L) (hL : L ≤ 3072) (hl : gL m 63 0 = L) (h : LSt m c) (nx : ∀ m2, LSt m2 (c + 1) → gL m2 63 0 = L → smE true 244 1031 [some (vR (some (63, 0))), some (vR (some (0, 0))), some (vR (some (23, 231))), some (vI (iZ ((6 * c : Nat) : Int)))] [] m2 K) : smE true 244 958 [some (vR (some (63, 0))), some (vR (some (0, 0))), some (vR (some (23, 231))), some (vI (iZ ((6 * c : Nat) : Int)))] [] m K := by
  obtain ⟨tp, td, fl, tm, D, hS, ⟨sa, sb, j, st, hC⟩, hM⟩ := h
  refine wp_ok (by decide) OK_244 (cc := cd_244) rfl (stops := [1031]) 90 _ _ _ _ ?_
  refine And.intro (lvin (d := 1) rfl (by decide) hc hL hl) ?_
  refine And.intro trivial (smC_ext (C_richest (iZ_as _) (iZ_rng _) hS hC (fun m1 h1 FC1 E1 => ?_)))
  have l1 : gL m1 63 0 = L := E1.2.2.2.1.trans hl
  have e63 : gI m1 63 0 = gI m 63 0 := E1.2.2.2.2
  have hM1 := hM.fc FC1
  refine And.intro (lvin (d := 1) rfl (by decide) hc hL l1) ?_
  rw [e63]
  refine And.intro trivial (smC_ext (Q_richest (iZ_as _) (iZ_rng _) hS hM1 (fun m2 h2 F2 E2 => ?_)))
  refine And.intro (fun _ => ?_) (fun z => absurd rfl z)
  exact And.intro trivial (nx m2 ⟨_, _, _, _, _, hS, (h1.ma F2).one, h2⟩ (E2.2.2.2.1.trans l1))
theorem law_quick (hc : 6 * c + 6 ≤ L) (hL : L ≤ 3072) (hl : gL m 63 0 = L) (h : LSt m c) (nx : ∀ m2, LSt m2 (c + 1) → gL m2 63 0 = L → smE true 244 1031 [some (vR (some (63, 0))), some (vR (some (0, 0))), some (vR (some (23, 231))), some (vI (iZ ((6 * c : Nat) : Int)))] [] m2 K) : smE true 244 981 [some (vR (some (63, 0))), some (vR (some (0, 0))), some (vR (some (23, 231))), some (vI (iZ ((6 * c : Nat) : Int)))] [] m K := by
  obtain ⟨tp, td, fl, tm, D, hS, ⟨sa, sb, j, st, hC⟩, hM⟩ := h
  refine wp_ok (by decide) OK_244 (cc := cd_244) rfl (stops := [1031]) 90 _ _ _ _ ?_
  refine And.intro trivial (smC_ext (C_quick   hS hC (fun m1 h1 FC1 E1 => ?_)))
  have l1 : gL m1 63 0 = L := E1.2.2.2.1.trans hl
  have e63 : gI m1 63 0 = gI m 63 0 := E1.2.2.2.2
  have hM1 := hM.fc FC1
  refine And.intro trivial (smC_ext (Q_quick   hS hM1 (fun m2 h2 F2 E2 => ?_)))
  refine And.intro (fun _ => ?_) (fun z => absurd rfl z)
  exact And.intro trivial (nx m2 ⟨_, _, _, _, _, hS, (h1.ma F2).one, h2⟩ (E2.2.2.2.1.trans l1))
theorem law_greediest (hc : 6 * c + 6 ≤ L) (hL : L ≤ 3072) (hl : gL m 63 0 = L) (h : LSt m c) (nx : ∀ m2, LSt m2 (c + 1) → gL m2 63 0 = L → smE true 244 1031 [some (vR (some (63, 0))), some (vR (some (0, 0))), some (vR (some (23, 231))), some (vI (iZ ((6 * c : Nat) : Int)))] [] m2 K) : smE true 244 994 [some (vR (some (63, 0))), some (vR (some (0, 0))), some (vR (some (23, 231))), some (vI (iZ ((6 * c : Nat) : Int)))] [] m K := by
  obtain ⟨tp, td, fl, tm, D, hS, ⟨sa, sb, j, st, hC⟩, hM⟩ := h
  refine wp_ok (by decide) OK_244 (cc := cd_244) rfl (stops := [1031]) 90 _ _ _ _ ?_
  refine And.intro trivial (smC_ext (C_greediest   hS hC (fun m1 h1 FC1 E1 => ?_)))
  have l1 : gL m1 63 0 = L := E1.2.2.2.1.trans hl
  have e63 : gI m1 63 0 = gI m 63 0 := E1.2.2.2.2
  have hM1 := hM.fc FC1
  refine And.intro trivial (smC_ext (Q_greediest   hS hM1 (fun m2 h2 F2 E2 => ?_)))
  refine And.intro (fun _ => ?_) (fun z => absurd rfl z)
  exact And.intro trivial (nx m2 ⟨_, _, _, _, _, hS, (h1.ma F2).one, h2⟩ (E2.2.2.2.1.trans l1))
theorem law_count (hc : 6 * c + 6 ≤ L) (hL : L ≤ 3072) (hl : gL m 63 0 = L) (h : LSt m c) (nx : ∀ m2, LSt m2 (c + 1) → gL m2 63 0 = L → smE true 244 1031 [some (vR (some (63, 0))), some (vR (some (0, 0))), some (vR (some (23, 231))), some (vI (iZ ((6 * c : Nat) : Int)))] [] m2 K) : smE true 244 1007 [some (vR (some (63, 0))), some (vR (some (0, 0))), some (vR (some (23, 231))), some (vI (iZ ((6 * c : Nat) : Int)))] [] m K := by
  obtain ⟨tp, td, fl, tm, D, hS, ⟨sa, sb, j, st, hC⟩, hM⟩ := h
  refine wp_ok (by decide) OK_244 (cc := cd_244) rfl (stops := [1031]) 90 _ _ _ _ ?_
  refine And.intro (lvin (d := 1) rfl (by decide) hc hL hl) ?_
  refine And.intro trivial (smC_ext (C_count (iZ_as _) (iZ_rng _) hS hC (fun m1 h1 FC1 E1 => ?_)))
  have l1 : gL m1 63 0 = L := E1.2.2.2.1.trans hl
  have e63 : gI m1 63 0 = gI m 63 0 := E1.2.2.2.2
  have hM1 := hM.fc FC1
  refine And.intro (lvin (d := 1) rfl (by decide) hc hL l1) ?_
  rw [e63]
  refine And.intro trivial (smC_ext (Q_count (iZ_as _) (iZ_rng _) hS hM1 (fun m2 h2 F2 E2 => ?_)))
  refine And.intro (fun _ => ?_) (fun z => absurd (lg_eq.mpr rfl) z)
  exact And.intro trivial (nx m2 ⟨_, _, _, _, _, hS, (h1.ma F2).one, h2⟩ (E2.2.2.2.1.trans l1))
/-- the loop -/
theorem law_loop (hL : L ≤ 3072) (hK : ∀ m' c, LSt m' c → c ≤ 512 → K (some (vI 1)) m') : ∀ s c, c + s = 512 → ∀ m, LSt m c → gL m 63 0 = L → smE true 244 18 [some (vR (some (63, 0))), some (vR (some (0, 0))), some (vR (some (23, 231))), some (vI (iZ ((6 * c : Nat) : Int)))] [] m K := by
  intro s
  induction s with
  | zero =>
    intro c ec m h hl
    have : c = 512 := by omega
    subst this
    refine wp1_ok (by decide) OK_244 (cc := cd_244) rfl (stops := [18]) (f := 30) ?_
    refine And.intro (fun _ => And.intro (Or.inr rfl) (hK m _ h (by omega))) (fun z => ?_)
    have z : ¬ nI (gL m 63 0) - 6 < iZ ((6 * 512 : Nat) : Int) := z
    rw [hl, iZ_nI, L6, iZ_sub, iZ_lt (by constructor <;> omega) (by constructor <;> omega)] at z
    omega
  | succ s ih =>
    intro c ec m h hl
    refine wp1_ok (by decide) OK_244 (cc := cd_244) rfl (stops := [27]) (f := 30) ?_
    refine And.intro (fun _ => And.intro (Or.inr rfl) (hK m _ h (by omega))) (fun z => ?_)
    have z : ¬ nI (gL m 63 0) - 6 < iZ ((6 * c : Nat) : Int) := z
    rw [hl, iZ_nI, L6, iZ_sub, iZ_lt (by constructor <;> omega) (by constructor <;> omega)] at z
    have hc : 6 * c + 6 ≤ L := by omega
    refine And.intro trivial ?_
    have nx : ∀ m2, LSt m2 (c + 1) → gL m2 63 0 = L → smE true 244 1031 [some (vR (some (63, 0))), some (vR (some (0, 0))), some (vR (some (23, 231))), some (vI (iZ ((6 * c : Nat) : Int)))] [] m2 K := by
      intro m2 h2 hl2
      refine wp_ok (by decide) OK_244 (cc := cd_244) rfl (stops := [18]) 20 _ _ _ _ ?_
      refine And.intro trivial ?_
      rw [L6, iZ_add]
      have := ih (c + 1) (by omega) m2 h2 hl2
      rw [show (((6 * c : Nat) : Int) + 6) = ((6 * (c + 1) : Nat) : Int) by omega]
      exact this
    have skip : smE true 244 1031 [some (vR (some (63, 0))), some (vR (some (0, 0))), some (vR (some (23, 231))), some (vI (iZ ((6 * c : Nat) : Int)))] [] m K := by
      obtain ⟨tp, td, fl, tm, D, hS, hC, hM⟩ := h
      exact nx m ⟨tp, td, fl, tm, D, hS, hC.one, hM⟩ hl
    refine wp1_ok (by decide) OK_244 (cc := cd_244) rfl (stops := [160, 223, 246, 269, 302, 335, 378, 401, 434, 467, 501, 535, 579, 613, 636, 669, 713, 746, 779, 813, 856, 889, 902, 925, 958, 981, 994, 1007, 1031]) (f := 30) ?_
    refine And.intro ?_ ?_
    · have : vp_in (iZ ((6 * c : Nat) : Int)) (gL m 63 0) := by rw [hl]; exact (iZ_in (by constructor <;> omega)).mpr (by omega)
      exact this
    refine And.intro (fun _ => And.intro trivial (law_feed hc hL hl h nx)) ?_
    refine And.intro (fun _ => And.intro trivial (law_text hc hL hl h nx)) ?_
    refine And.intro (fun _ => And.intro trivial (law_fault hc hL hl h nx)) ?_
    refine And.intro (fun _ => And.intro trivial (law_terms hc hL hl h nx)) ?_
    refine And.intro (fun _ => And.intro trivial (law_body hc hL hl h nx)) ?_
    refine And.intro (fun _ => And.intro trivial (law_sign hc hL hl h nx)) ?_
    refine And.intro (fun _ => And.intro trivial (law_bare hc hL hl h nx)) ?_
    refine And.intro (fun _ => And.intro trivial (law_after hc hL hl h nx)) ?_
    refine And.intro (fun _ => And.intro trivial (law_note hc hL hl h nx)) ?_
    refine And.intro (fun _ => And.intro trivial (law_begin hc hL hl h nx)) ?_
    refine And.intro (fun _ => And.intro trivial (law_length hc hL hl h nx)) ?_
    refine And.intro (fun _ => And.intro trivial (law_borrowed hc hL hl h nx)) ?_
    refine And.intro (fun _ => And.intro trivial (law_tone hc hL hl h nx)) ?_
    refine And.intro (fun _ => And.intro trivial (law_ms hc hL hl h nx)) ?_
    refine And.intro (fun _ => And.intro trivial (law_sounds hc hL hl h nx)) ?_
    refine And.intro (fun _ => And.intro trivial (law_when hc hL hl h nx)) ?_
    refine And.intro (fun _ => And.intro trivial (law_called hc hL hl h nx)) ?_
    refine And.intro (fun _ => And.intro trivial (law_at hc hL hl h nx)) ?_
    refine And.intro (fun _ => And.intro trivial (law_bar hc hL hl h nx)) ?_
    refine And.intro (fun _ => And.intro trivial (law_inKey hc hL hl h nx)) ?_
    refine And.intro (fun _ => And.intro trivial (law_would hc hL hl h nx)) ?_
    refine And.intro (fun _ => And.intro trivial (law_fastest hc hL hl h nx)) ?_
    refine And.intro (fun _ => And.intro trivial (law_bears hc hL hl h nx)) ?_
    refine And.intro (fun _ => And.intro trivial (law_instead hc hL hl h nx)) ?_
    refine And.intro (fun _ => And.intro trivial (law_richest hc hL hl h nx)) ?_
    refine And.intro (fun _ => And.intro trivial (law_quick hc hL hl h nx)) ?_
    refine And.intro (fun _ => And.intro trivial (law_greediest hc hL hl h nx)) ?_
    refine And.intro (fun _ => And.intro trivial (law_count hc hL hl h nx)) ?_
    exact fun _ => And.intro trivial skip
end LAW
