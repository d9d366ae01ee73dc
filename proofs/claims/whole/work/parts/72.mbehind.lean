/-! THE MODEL: what is behind a note -/
section MBEH
variable {m0 m : Mem} {K : Option SV → Mem → Prop} {D : Dt} {tm : Nat → Int} {i : Nat} {s : WS} {lf a T : Int} {b : Bool} {P : Int → Int × Int}
theorem M_behind (hE : ME m0 i tm D) (hs : s.2.1 = true) (hC : MC m0 m i s lf a b) (hlen : s.1.length + 1 ≤ 3600)
    (h : ∀ m', MC m0 m' i (behS i (wT tm (tm 5) (D.2.1 i)) (D.2.1 i 12) (nxD 0 D i) b s).2 lf a b → K (some (vI (iZ (behS i (wT tm (tm 5) (D.2.1 i)) (D.2.1 i 12) (nxD 0 D i) b s).1))) m') : smC true 212 [vR (some (23, 231))] m K := by
  obtain ⟨he, ⟨htm, hD, hi, hn1⟩, e44, _⟩ := id hE
  have h48 := hD.1
  have hT := hE.Tr
  have r45 := rt hE hC
  generalize wT tm (tm 5) (D.2.1 i) = T at hT r45 h
  have hbh := (hD.2.1 i hi).2.2.2.2.2.2.2.2.2.1
  have E := MC.e3 hE hC
  have en : gI m 23 231 44 + 1 = iZ ((i + 1 : Nat) : Int) := by rw [rn hE hC, L1, iZ_add]; congr 1
  have htl := hC.tl hs
  have e1 : gI m 23 231 43 - 1 = iZ ((s.1.length - 1 : Nat) : Int) := by rw [hC.1.2.1, L1, iZ_sub]; congr 1; omega
  have c1 : (iZ ((s.1.length - 1 : Nat) : Int)).toNatClampNeg = s.1.length - 1 := by rw [iZ_clamp (by constructor <;> omega)]; omega
  have hin : vp_in (gI m 23 231 43 - 1) 3600 := by rw [e1]; exact (iZ_in (by constructor <;> omega)).mpr (by omega)
  have e52 := hC.2.1.2.2
  refine smC_wp [some (vR (some (23, 231)))] cd_212 [97] 60 OK_212 (by decide) rfl rfl (Nat.le_of_ble_eq_true rfl) ?_
  refine And.intro trivial (M_of (i := i) (w := 12) (rn hE hC) rfl hD E.2.2 hi (by decide) ?_)
  rw [mw_id (by decide) (by decide)]
  refine And.intro (fun z => ?_) (fun z => ?_)
  rotate_left
  · rw [L2, iZ_eq (by constructor <;> omega) (by decide)] at z
    refine And.intro trivial (M_of (i := i) (w := 12) (rn hE hC) rfl hD E.2.2 hi (by decide) ?_)
    rw [mw_id (by decide) (by decide)]
    refine And.intro (fun y => ?_) (fun y => ?_)
    · rw [L0, iZ_eq (by constructor <;> omega) (by decide)] at y
      have eb : behS i T (D.2.1 i 12) (nxD 0 D i) b s = ((if b then 1 else 3), s) := by unfold behS; rw [if_pos (by omega)]
      rw [eb] at h
      cases b with
      | false =>
        refine And.intro (fun _ => ?_) (fun w => absurd e52 w)
        exact And.intro trivial (h m hC)
      | true =>
        refine And.intro (fun w => absurd (e52.symm.trans w) (by decide)) (fun _ => ?_)
        exact And.intro trivial (h m hC)
    · rw [L0, iZ_eq (by constructor <;> omega) (by decide)] at y
      have eb : behS i T (D.2.1 i 12) (nxD 0 D i) b s = (0, s) := by unfold behS; rw [if_neg (by omega), if_neg (by omega)]
      rw [eb] at h
      exact And.intro trivial (h m hC)
  rw [L2, iZ_eq (by constructor <;> omega) (by decide)] at z
  refine And.intro trivial (M_isNote en (by constructor <;> omega) hD E.2.2 (fun q => ?_) (fun q => ?_))
  rotate_left
  · refine And.intro (fun _ => ?_) (fun w => absurd rfl w)
    have en2 : nxD 0 D i = none := by
      unfold nxD
      rw [if_neg]
      intro hc
      exact q ⟨by omega, by omega, by rw [Int.toNat_natCast]; exact hc.2⟩
    have eb : behS i T (D.2.1 i 12) (nxD 0 D i) b s = (3, s) := by unfold behS; rw [if_neg (by omega), if_pos z, en2]
    rw [eb] at h
    exact And.intro trivial (h m hC)
  have z2 : i + 1 < D.1 ∧ D.2.1 (i + 1) 0 = 1 := ⟨by omega, by have := q.2.2; rwa [Int.toNat_natCast] at this⟩
  have hno := hD.2.1 (i + 1) z2.1
  have hp := hno.pit z2.2
  have hlt := (hno.2.2.2.2.2.2.2.2.2.2.2 z2.2).1.1
  have hst := nStep_lo hlt
  have en2 : nxD 0 D i = some (0, D.2.1 (i + 1) 3, nStep (D.2.1 (i + 1))) := by unfold nxD; rw [if_pos z2]
  have eb : behS i T (D.2.1 i 12) (nxD 0 D i) b s = (if ltL s < 2 * T then (3, s) else (1, plN i 5 (D.2.1 (i + 1) 3, nStep (D.2.1 (i + 1))) T (shN T s))) := by unfold behS; rw [if_neg (by omega), if_pos z, en2]
  rw [eb] at h
  refine And.intro (fun w => absurd w (by decide)) (fun _ => ?_)
  refine And.intro hin ?_
  rw [r45, e1, c1, htl.2.1]
  refine And.intro (fun w => ?_) (fun w => ?_)
  rotate_left
  · rw [L2, iZ_mul, iZ_le (by constructor <;> omega) (by constructor <;> omega)] at w
    rw [if_pos (by omega)] at h
    exact And.intro trivial (h m hC)
  rw [L2, iZ_mul, iZ_le (by constructor <;> omega) (by constructor <;> omega)] at w
  rw [if_neg (by omega)] at h
  refine And.intro hin ?_
  refine And.intro hin ?_
  refine And.intro trivial ?_
  rw [r45, e1, c1, htl.2.1, iZ_sub, show 3 * ltL s - 3 * T = 3 * (ltL s - T) by omega]
  refine wp1_ok (by decide) OK_212 (cc := cd_212) rfl (stops := [110]) (f := 40) ?_
  refine And.intro trivial ?_
  have q50 : gI (sI m 40 248 (s.1.length - 1) (iZ (3 * (ltL s - T)))) 23 231 50 - gI (sI m 40 248 (s.1.length - 1) (iZ (3 * (ltL s - T)))) 23 231 45 = iZ (3 * (s.2.2 - T)) := by
    rw [gI_s, if_neg (by omega), gI_s, if_neg (by omega), r45, hC.1.2.2.2, iZ_sub]
    congr 1; omega
  rw [q50]
  have C2 := hC.sh (d := T) (by omega)
  generalize sI (sI m 40 248 (s.1.length - 1) (iZ (3 * (ltL s - T)))) 23 231 50 (iZ (3 * (s.2.2 - T))) = m2 at C2 ⊢
  have E2 := MC.e3 hE C2
  have en' : gI m2 23 231 44 + 1 = iZ ((i + 1 : Nat) : Int) := by rw [rn hE C2, L1, iZ_add]; congr 1
  have r45' : gI m2 23 231 45 = iZ (3 * T) := by rw [C2.rd (by omega), ← hC.rd (k := 45) (by omega)]; exact r45
  refine wp1_ok (by decide) OK_212 (cc := cd_212) rfl (stops := []) (f := 60) ?_
  refine And.intro trivial (M_of (i := i + 1) (w := 1) en' rfl hD E2.2.2 z2.1 (by decide) ?_)
  rw [mw_id (by decide) (by decide)]
  refine And.intro trivial (M_of (i := i + 1) (w := 2) en' rfl hD E2.2.2 z2.1 (by decide) ?_)
  rw [mw_id (by decide) (by decide)]
  refine And.intro trivial (M_of (i := i + 1) (w := 3) en' rfl hD E2.2.2 z2.1 (by decide) ?_)
  rw [mw_id (by decide) (by decide)]
  refine And.intro trivial (M_putsAs (kd := 5) (p := (D.2.1 (i + 1) 3, nStep (D.2.1 (i + 1)))) (l := T) rfl (by rw [← hst.1]) (by rw [← hst.2]) rfl r45' hE C2 (by unfold okP; simp only; omega) (by omega) (by rw [shN_len]; omega) (fun m3 C3 => ?_))
  exact And.intro trivial (h m3 C3)
end MBEH
