/-! THE MODEL: a note -/
section MNOTE
variable {m0 m : Mem} {K : Option SV → Mem → Prop} {D : Dt} {tm : Nat → Int} {i : Nat} {s : WS} {lf a T : Int} {b : Bool} {P : Int → Int × Int}
theorem M_body (hE : ME m0 i tm D) (rl : 8 ≤ lf ∧ lf ≤ 1000000 ∧ lf % 8 = 0) (hC : MC m0 m i s lf a false) (hlen : s.1.length + 70 ≤ 3600)
    (h : ∀ m' lf', ((wB tm (tm 5) (D.2.1 i) (nxD 0 D i) s lf).1 = 3 ∨ (wB tm (tm 5) (D.2.1 i) (nxD 0 D i) s lf).1 = 0 → lf' = lf) → MC m0 m' i (apN i (wB tm (tm 5) (D.2.1 i) (nxD 0 D i) s lf).2.1 s) lf' a (wB tm (tm 5) (D.2.1 i) (nxD 0 D i) s lf).2.2 → K (some (vI (iZ (wB tm (tm 5) (D.2.1 i) (nxD 0 D i) s lf).1))) m') : smC true 197 [vR (some (23, 231))] m K := by
  obtain ⟨he, ⟨htm, hD, hi, hn1⟩, e44, _⟩ := id hE
  have E := MC.e3 hE hC
  have hbd := (hD.2.1 i hi).2.2.2.2.2.2.2.1
  unfold wB at h
  generalize eT : wT tm (tm 5) (D.2.1 i) = T at h
  generalize eP : Pk (tm 3) (D.2.1 i) = P at h
  generalize ebu : decide (buP P s (tm 6)) = bu at h
  generalize eaf : afB P (D.2.1 i 12) (tm 4) (nxD 0 D i) = af at h
  generalize esty : decide (tm 6 = 1) = sty at h
  generalize eq4 : decide (qk (tm 0) (D.2.1 i 9) (tm 5) (lf / 4)) = q4 at h
  generalize eq8 : decide (qk (tm 0) (D.2.1 i 9) (tm 5) (lf / 8)) = q8 at h
  have hbu : bu = true ↔ buP P s (tm 6) := by rw [← ebu]; simp
  have hsty : sty = true ↔ tm 6 = 1 := by rw [← esty]; simp
  have hq4 : q4 = true ↔ qk (tm 0) (D.2.1 i 9) (tm 5) (lf / 4) := by rw [← eq4]; simp
  have hq8 : q8 = true ↔ qk (tm 0) (D.2.1 i 9) (tm 5) (lf / 8) := by rw [← eq8]; simp
  clear ebu esty eq4 eq8
  generalize ebd : D.2.1 i 10 = bd at h hbd
  have c1 : bd = 1 → smE true 197 56 [some (vR (some (23, 231)))] [] m K := by
    intro e
    have eb : bodS P T lf bu af sty q4 q8 bd = (if (tsS P T lf bu af).1 = 1 then tsS P T lf bu af else (lessN (prS P T lf bu).1, (prS P T lf bu).2, false)) := by unfold bodS; rw [if_pos e]
    rw [eb] at h
    refine wp_ok (by decide) OK_197 (cc := cd_197) rfl (stops := []) 60 _ _ _ _ ?_
    refine And.intro trivial (M_trill hE eT eP hbu eaf.symm (by omega) hC (by omega) (fun m1 l1 q C1 => ?_) (fun m1 q C1 => ?_))
    · rw [if_pos q, q] at h
      exact And.intro trivial (h m1 l1 (fun z => by omega) C1)
    · rw [if_neg q] at h
      exact And.intro trivial (h m1 lf (fun _ => rfl) C1)
  have c2 : bd = 2 → smE true 197 61 [some (vR (some (23, 231)))] [] m K := by
    intro e
    have eb : bodS P T lf bu af sty q4 q8 bd = (if 3 * T ≤ lf then (1, shQ P 0 T lf, false) else (3, [], false)) := by unfold bodS; rw [if_neg (by omega), if_pos e]
    rw [eb] at h
    refine wp_ok (by decide) OK_197 (cc := cd_197) rfl (stops := []) 60 _ _ _ _ ?_
    refine And.intro trivial (M_mordent hE eT eP (by omega) hC (by omega) (fun q => ?_) (fun m1 q C1 => ?_))
    · rw [if_neg q] at h
      exact And.intro trivial (h m lf (fun _ => rfl) hC)
    · rw [if_pos q] at h
      exact And.intro trivial (h m1 lf (fun _ => rfl) C1)
  have c3 : bd = 3 → smE true 197 66 [some (vR (some (23, 231)))] [] m K := by
    intro e
    have eb : bodS P T lf bu af sty q4 q8 bd = ((prS P T lf bu).1, (prS P T lf bu).2, false) := by unfold bodS; rw [if_neg (by omega), if_neg (by omega), if_pos e]
    rw [eb] at h
    refine wp_ok (by decide) OK_197 (cc := cd_197) rfl (stops := []) 60 _ _ _ _ ?_
    refine And.intro trivial (M_prall hE eT eP hbu (by omega) hC (by omega) (fun m1 C1 => ?_))
    exact And.intro trivial (h m1 lf (fun _ => rfl) C1)
  have c4 : bd = 4 → smE true 197 71 [some (vR (some (23, 231)))] [] m K := by
    intro e
    have eb : bodS P T lf bu af sty q4 q8 bd = ((tuS P T lf q4 1).1, (tuS P T lf q4 1).2, false) := by unfold bodS; rw [if_neg (by omega), if_neg (by omega), if_neg (by omega), if_pos e]
    rw [eb] at h
    refine wp_ok (by decide) OK_197 (cc := cd_197) rfl (stops := []) 60 _ _ _ _ ?_
    refine And.intro trivial (M_turn (c := 1) (o1 := 1) (o2 := 2) rfl rfl (by omega) hE eT eP hq4 rl hC (by omega) (fun m1 C1 => ?_))
    exact And.intro trivial (h m1 lf (fun _ => rfl) C1)
  have c5 : bd = 5 → smE true 197 78 [some (vR (some (23, 231)))] [] m K := by
    intro e
    have eb : bodS P T lf bu af sty q4 q8 bd = (if q8 then (lessN (tuS P T lf q4 1).1, (tuS P T lf q4 1).2, false) else (1, (0, P 0, 4 * (lf / 8)) :: shQ P 1 (lf / 8) (lf - 4 * (lf / 8)), false)) := by unfold bodS; rw [if_neg (by omega), if_neg (by omega), if_neg (by omega), if_neg (by omega), if_pos e]
    rw [eb] at h
    refine wp_ok (by decide) OK_197 (cc := cd_197) rfl (stops := []) 60 _ _ _ _ ?_
    refine And.intro trivial (M_late hE eT eP hq4 hq8 rl hC (by omega) (fun m1 q C1 => ?_) (fun m1 q C1 => ?_))
    · rw [if_pos q] at h
      exact And.intro trivial (h m1 lf (fun _ => rfl) C1)
    · rw [if_neg q] at h
      exact And.intro trivial (h m1 lf (fun _ => rfl) C1)
  have c6 : bd = 6 → smE true 197 83 [some (vR (some (23, 231)))] [] m K := by
    intro e
    have eb : bodS P T lf bu af sty q4 q8 bd = ((tuS P T lf q4 2).1, (tuS P T lf q4 2).2, false) := by unfold bodS; rw [if_neg (by omega), if_neg (by omega), if_neg (by omega), if_neg (by omega), if_neg (by omega), if_pos e]
    rw [eb] at h
    refine wp_ok (by decide) OK_197 (cc := cd_197) rfl (stops := []) 60 _ _ _ _ ?_
    refine And.intro trivial (M_turn (c := 2) (o1 := 2) (o2 := 1) rfl rfl (by omega) hE eT eP hq4 rl hC (by omega) (fun m1 C1 => ?_))
    exact And.intro trivial (h m1 lf (fun _ => rfl) C1)
  have c7 : bd = 7 → smE true 197 90 [some (vR (some (23, 231)))] [] m K := by
    intro e
    have eb : bodS P T lf bu af sty q4 q8 bd = (if 5 * T ≤ lf then (1, shQ P 3 T lf, false) else if 3 * T ≤ lf then (2, shQ P 0 T lf, false) else (3, [], false)) := by unfold bodS; rw [if_neg (by omega), if_neg (by omega), if_neg (by omega), if_neg (by omega), if_neg (by omega), if_neg (by omega), if_pos e]
    rw [eb] at h
    refine wp_ok (by decide) OK_197 (cc := cd_197) rfl (stops := []) 60 _ _ _ _ ?_
    refine And.intro trivial (M_longMo hE eT eP (by omega) hC (by omega) (fun m1 q C1 => ?_) (fun m1 q q2 C1 => ?_) (fun q q2 => ?_))
    · rw [if_pos q] at h
      exact And.intro trivial (h m1 lf (fun _ => rfl) C1)
    · rw [if_neg q, if_pos q2] at h
      exact And.intro trivial (h m1 lf (fun _ => rfl) C1)
    · rw [if_neg q, if_neg q2] at h
      exact And.intro trivial (h m lf (fun _ => rfl) hC)
  have c8 : bd = 8 → smE true 197 95 [some (vR (some (23, 231)))] [] m K := by
    intro e
    have eb : bodS P T lf bu af sty q4 q8 bd = (if fitN T (lf - 2 * T) sty ≠ 0 then (1, (2, P 2, T) :: (0, P 0, T) :: (tsS P T (lf - 2 * T) sty af).2.1, (tsS P T (lf - 2 * T) sty af).2.2) else if (tsS P T lf bu af).1 = 1 then (2, (tsS P T lf bu af).2) else (lessN (prS P T lf bu).1, (prS P T lf bu).2, false)) := by unfold bodS; rw [if_neg (by omega), if_neg (by omega), if_neg (by omega), if_neg (by omega), if_neg (by omega), if_neg (by omega), if_neg (by omega), if_pos e]
    rw [eb] at h
    refine wp_ok (by decide) OK_197 (cc := cd_197) rfl (stops := []) 60 _ _ _ _ ?_
    refine And.intro trivial (M_below hE eT eP hbu hsty eaf.symm (by omega) hC (by omega) (fun m1 l1 q C1 => ?_) (fun m1 l1 q q2 C1 => ?_) (fun m1 q q2 C1 => ?_))
    · rw [if_pos q] at h
      exact And.intro trivial (h m1 l1 (fun z => by simp at z) C1)
    · rw [if_neg q, if_pos q2] at h
      exact And.intro trivial (h m1 l1 (fun z => by simp at z) C1)
    · rw [if_neg q, if_neg q2] at h
      exact And.intro trivial (h m1 lf (fun _ => rfl) C1)
  have c0 : bd = 0 → smE true 197 100 [some (vR (some (23, 231)))] [] m K := by
    intro e
    have eb : bodS P T lf bu af sty q4 q8 bd = (0, [], false) := by unfold bodS; rw [if_neg (by omega), if_neg (by omega), if_neg (by omega), if_neg (by omega), if_neg (by omega), if_neg (by omega), if_neg (by omega), if_neg (by omega)]
    rw [eb] at h
    refine wp_ok (by decide) OK_197 (cc := cd_197) rfl (stops := []) 60 _ _ _ _ ?_
    exact And.intro trivial (h m lf (fun _ => rfl) hC)
  refine smC_wp [some (vR (some (23, 231)))] cd_197 [56, 61, 66, 71, 78, 83, 90, 95, 100] 40 OK_197 (by decide) rfl rfl (Nat.le_of_ble_eq_true rfl) ?_
  refine And.intro trivial (M_of (i := i) (w := 10) (rn hE hC) rfl hD E.2.2 hi (by decide) ?_)
  rw [mw_id (by decide) (by decide), ebd]
  refine And.intro (fun q => And.intro trivial (c1 ?_)) ?_
  · rw [L1, iZ_eq (by constructor <;> omega) (by decide)] at q; exact q
  refine And.intro (fun q => And.intro trivial (c2 ?_)) ?_
  · rw [L2, iZ_eq (by constructor <;> omega) (by decide)] at q; exact q
  refine And.intro (fun q => And.intro trivial (c3 ?_)) ?_
  · rw [L3, iZ_eq (by constructor <;> omega) (by decide)] at q; exact q
  refine And.intro (fun q => And.intro trivial (c4 ?_)) ?_
  · rw [L4, iZ_eq (by constructor <;> omega) (by decide)] at q; exact q
  refine And.intro (fun q => And.intro trivial (c5 ?_)) ?_
  · rw [L5, iZ_eq (by constructor <;> omega) (by decide)] at q; exact q
  refine And.intro (fun q => And.intro trivial (c6 ?_)) ?_
  · rw [L6, iZ_eq (by constructor <;> omega) (by decide)] at q; exact q
  refine And.intro (fun q => And.intro trivial (c7 ?_)) ?_
  · rw [L7, iZ_eq (by constructor <;> omega) (by decide)] at q; exact q
  refine And.intro (fun q => And.intro trivial (c8 ?_)) ?_
  · rw [L8, iZ_eq (by constructor <;> omega) (by decide)] at q; exact q
  refine fun q => And.intro trivial (c0 ?_)
  rw [iZ_toInt (by constructor <;> omega)] at q
  omega
end MNOTE
