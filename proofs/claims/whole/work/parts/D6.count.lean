/-! count: both -/
section OPSE
variable {m m' : Mem} {K : Option SV → Mem → Prop} {tp : Nat → Int} {td : Nat} {fl : Int × Int} {tm : Nat → Int} {D : Dt} {a sa sb j : Nat} {st : Bool} {f f' : NF} {i : Int}
theorem qCt_7 {w : Int} (h : w = 7 ∨ w = 8) : qCt tm td D w = qPt D.2.2.2.2 (w - 7) := by
  unfold qCt; rw [if_neg (by omega), if_neg (by omega), if_neg (by omega), if_neg (by omega), if_neg (by omega), if_neg (by omega), if_neg (by omega), if_pos h]
theorem qCt_10 {w : Int} (h : 10 ≤ w ∧ w ≤ 16) : qCt tm td D w = tm (w - 10).toNat := by
  unfold qCt; rw [if_neg (by omega), if_neg (by omega), if_neg (by omega), if_neg (by omega), if_neg (by omega), if_neg (by omega), if_neg (by omega), if_neg (by omega), if_pos h]
theorem qCt_n {w : Int} (h1 : ¬ (10 ≤ w ∧ w ≤ 16)) (h2 : w < 0 ∨ 8 < w) : qCt tm td D w = -1 := by
  unfold qCt; rw [if_neg (by omega), if_neg (by omega), if_neg (by omega), if_neg (by omega), if_neg (by omega), if_neg (by omega), if_neg (by omega), if_neg (by omega), if_neg h1]
theorem C_count {w : Int} {x : Int32} (hx : x = iZ w) (rw' : R32 w) (hS : SI tp td tm D) (h : CJ m tp td fl tm D a sa sb j st)
    (hk : ∀ m', CI m' tp td fl tm D a → FC m m' → K (some (vL (iL (qCt tm td D w)))) m') : smC true 131 [vR (some (0, 0)), vI x] m K := by
  subst hx
  have en := hS.en
  have h48 := hS.dok.1
  have h800 := hS.2.1
  have hk0 := hk m ⟨sa, sb, j, st, h⟩ (FC.rf _)
  refine smC_wp [some (vR (some (0, 0))), some (vI (iZ w))] cd_131 [136, 151] 60 OK_131 (by decide) rfl rfl (Nat.le_of_ble_eq_true rfl) ?_
  have w7 : w = 7 ∨ w = 8 → smE true 131 136 [some (vR (some (0, 0))), some (vI (iZ w))] [] m K := by
    intro u
    rw [qCt_7 u] at hk0
    refine wp_ok (by decide) OK_131 (cc := cd_131) rfl (stops := []) 30 _ _ _ _ ?_
    refine Exists.intro _ (And.intro h.1.2.1 ?_)
    refine And.intro trivial (c_partOf (t := D.2.2.2.2) (w := w - 7) h.srep.1.2.2 (by rw [L7, iZ_sub]) (by omega) (by constructor <;> omega) ?_)
    exact And.intro trivial hk0
  refine And.intro (fun u => ?_) ?_
  · have u := swk (k := 0) rw' (by decide) rfl u
    subst u
    refine Exists.intro _ (And.intro h.1.2.1 ?_)
    refine And.intro trivial ?_
    rw [h.srep.1.1, iZ_iL (by constructor <;> omega)]
    exact hk0
  refine And.intro (fun u => ?_) ?_
  · have u := swk (k := 1) rw' (by decide) rfl u
    subst u
    refine Exists.intro _ (And.intro h.1.2.1 ?_)
    refine And.intro trivial (h.written (fun m1 j1 h1 FC1 => ?_))
    refine And.intro trivial ?_
    have hl := hS.len hS.t5
    rw [h1.scr.len, iZ_iL (by constructor <;> omega)]
    exact hk m1 ⟨sa, sb, j1, false, h1⟩ FC1
  refine And.intro (fun u => ?_) ?_
  · have u := swk (k := 2) rw' (by decide) rfl u
    subst u
    refine Exists.intro _ (And.intro h.1.2.1 ?_)
    refine And.intro trivial ?_
    rw [h.srep.1.2.1, iZ_iL (by constructor <;> omega)]
    exact hk0
  refine And.intro (fun u => ?_) ?_
  · have u := swk (k := 3) rw' (by decide) rfl u
    subst u
    refine And.intro trivial ?_
    rw [h.2.2.1.2, iZ_iL (by constructor <;> omega)]
    exact hk0
  refine And.intro (fun u => ?_) ?_
  · have u := swk (k := 4) rw' (by decide) rfl u
    subst u
    refine Exists.intro _ (And.intro h.1.2.1 ?_)
    refine And.intro trivial (h.written (fun m1 j1 h1 FC1 => ?_))
    refine And.intro trivial ?_
    have hl := wS_rng (x := 2) (tm := tm) (pc := tm 5) (D := D) D.1
    rw [h1.scr.2.2.2.1, iZ_iL (by constructor <;> omega)]
    exact hk m1 ⟨sa, sb, j1, false, h1⟩ FC1
  refine And.intro (fun u => ?_) ?_
  · have u := swk (k := 5) rw' (by decide) rfl u
    subst u
    refine Exists.intro _ (And.intro h.1.2.1 ?_)
    refine And.intro trivial (h.written (fun m1 j1 h1 FC1 => ?_))
    refine And.intro trivial ?_
    have hl := wS_rng (x := 3) (tm := tm) (pc := tm 5) (D := D) D.1
    rw [h1.scr.2.2.2.2, iZ_iL (by constructor <;> omega)]
    exact hk m1 ⟨sa, sb, j1, false, h1⟩ FC1
  refine And.intro (fun u => ?_) ?_
  · have u := swk (k := 6) rw' (by decide) rfl u
    subst u
    refine Exists.intro _ (And.intro h.1.2.1 ?_)
    refine And.intro trivial (c_plainNotes hS.dok h.srep ?_)
    refine And.intro trivial ?_
    have hl := plC_rng (D := D) D.1
    rw [iZ_iL (by constructor <;> omega)]
    exact hk0
  refine And.intro (fun u => And.intro trivial (w7 (Or.inl (swk (k := 7) rw' (by decide) rfl u)))) ?_
  refine And.intro (fun u => And.intro trivial (w7 (Or.inr (swk (k := 8) rw' (by decide) rfl u)))) ?_
  intro u
  rw [iZ_toInt rw'] at u
  refine And.intro trivial ?_
  have e17 : (10 : Int32) + nI 7 = iZ 17 := by decide
  refine wp1_ok (by decide) OK_131 (cc := cd_131) rfl (stops := []) (f := 60) ?_
  refine And.intro (fun z => ?_) (fun z => ?_)
  · rw [L10, iZ_lt rw' (by decide)] at z
    rw [qCt_n (by omega) (by omega)] at hk0
    exact And.intro trivial hk0
  rw [L10, iZ_lt rw' (by decide)] at z
  refine And.intro (fun y => ?_) (fun y => ?_)
  · have y : (10 : Int32) + nI 7 ≤ iZ w := y
    rw [e17, iZ_le (by decide) rw'] at y
    rw [qCt_n (by omega) (by omega)] at hk0
    exact And.intro trivial hk0
  have y : ¬ (10 : Int32) + nI 7 ≤ iZ w := y
  rw [e17, iZ_le (by decide) rw'] at y
  rw [qCt_10 (by omega)] at hk0
  have ew : iZ w - 10 = iZ (w - 10) := by rw [L10, iZ_sub]
  have hr := tms_rng hS.2.2.1 (w - 10).toNat (by omega)
  refine And.intro (by rw [ew]; exact (iZ_in (by constructor <;> omega)).mpr (by omega)) ?_
  refine And.intro trivial ?_
  rw [ew, iZ_clamp (by constructor <;> omega), h.tms _ (by omega), iZ_iL (by constructor <;> omega)]
  exact hk0
theorem M_plainOnes (hD : DOK D) (hM : MD m D) (h : K (some (vI (iZ (plC D D.1)))) m) : smC true 243 [vR (some (23, 231))] m K := by
  have h48 := hD.1
  have g0 : gI m 29 237 (0 : Int32).toNatClampNeg = iZ D.1 := hM.1.1
  have loop : ∀ (s k : Nat), k + s = D.1 → smE true 243 4 [some (vR (some (23, 231))), some (vI (iZ (plC D k))), some (vI (iZ (k : Nat)))] [] m K := by
    intro s
    induction s with
    | zero =>
      intro k ek
      refine wp1_ok (by decide) OK_243 (cc := cd_243) rfl (stops := [4]) (f := 60) ?_
      refine And.intro (by rw [L0, iZ_in (by decide)]; decide) ?_
      rw [g0]
      refine And.intro (fun _ => ?_) (fun z => ?_)
      · have : k = D.1 := by omega
        subst this
        exact And.intro trivial h
      · rw [iZ_le (by constructor <;> omega) (by constructor <;> omega)] at z; omega
    | succ s ih =>
      intro k ek
      have hf := hD.2.1 k (by omega)
      have r10 := hf.2.2.2.2.2.2.2.1
      have r11 := hf.2.2.2.2.2.2.2.2.1
      have r12 := hf.2.2.2.2.2.2.2.2.2.1
      have nx : ∀ (v : Int), v = plC D (k + 1) → smE true 243 4 [some (vR (some (23, 231))), some (vI (iZ v)), some (vI (iZ ((k : Int) + 1)))] [] m K := fun v e => by subst e; exact ih (k + 1) (by omega)
      have no : ¬ (D.2.1 k 0 = 1 ∧ D.2.1 k 11 = 0 ∧ D.2.1 k 10 = 0 ∧ D.2.1 k 12 ≠ 2) → smE true 243 4 [some (vR (some (23, 231))), some (vI (iZ (plC D k) + 0)), some (vI (iZ (k : Int) + 1))] [] m K := fun c => by
        rw [L0, iZ_add, L1, iZ_add]
        exact nx _ (by rw [plC, if_neg c])
      refine wp1_ok (by decide) OK_243 (cc := cd_243) rfl (stops := [4]) (f := 60) ?_
      refine And.intro (by rw [L0, iZ_in (by decide)]; decide) ?_
      rw [g0]
      refine And.intro (fun z => ?_) (fun z => ?_)
      · rw [iZ_le (by constructor <;> omega) (by constructor <;> omega)] at z; omega
      refine And.intro trivial (M_isNote (i := (k : Int)) rfl (by constructor <;> omega) hD hM (fun q => ?_) (fun q => ?_))
      rotate_left
      · refine And.intro (fun _ => ?_) (fun w => absurd rfl w)
        exact And.intro trivial (no (fun c => q ⟨by omega, by omega, c.1⟩))
      have h0 : D.2.1 k 0 = 1 := q.2.2
      refine And.intro (fun w => absurd w (by decide)) (fun _ => ?_)
      refine And.intro trivial (M_of (i := k) (w := 11) rfl rfl hD hM (by omega) (by decide) ?_)
      refine And.intro (fun y => ?_) (fun y => ?_)
      · have y : ¬ iZ (D.2.1 k 11) = 0 := y
        rw [L0, iZ_eq (by constructor <;> omega) (by decide)] at y
        exact And.intro trivial (no (fun c => y c.2.1))
      have y : iZ (D.2.1 k 11) = 0 := y
      rw [L0, iZ_eq (by constructor <;> omega) (by decide)] at y
      refine And.intro trivial (M_of (i := k) (w := 10) rfl rfl hD hM (by omega) (by decide) ?_)
      refine And.intro (fun u => ?_) (fun u => ?_)
      · have u : ¬ iZ (D.2.1 k 10) = 0 := u
        rw [L0, iZ_eq (by constructor <;> omega) (by decide)] at u
        exact And.intro trivial (no (fun c => u c.2.2.1))
      have u : iZ (D.2.1 k 10) = 0 := u
      rw [L0, iZ_eq (by constructor <;> omega) (by decide)] at u
      refine And.intro trivial (M_of (i := k) (w := 12) rfl rfl hD hM (by omega) (by decide) ?_)
      refine And.intro (fun v => ?_) (fun v => ?_)
      · have v : iZ (D.2.1 k 12) = 2 := v
        rw [L2, iZ_eq (by constructor <;> omega) (by decide)] at v
        exact And.intro trivial (no (fun c => c.2.2.2 v))
      · have v : ¬ iZ (D.2.1 k 12) = 2 := v
        rw [L2, iZ_eq (by constructor <;> omega) (by decide)] at v
        refine And.intro trivial ?_
        rw [L1, iZ_add, iZ_add]
        exact nx _ (by rw [plC, if_pos ⟨h0, y, u, v⟩])
  refine smC_wp [some (vR (some (23, 231))), none, none] cd_243 [4] 60 OK_243 (by decide) rfl rfl (Nat.le_of_ble_eq_true rfl) ?_
  exact And.intro trivial (loop D.1 0 (Nat.zero_add _))
theorem Q_count {w : Int} {x : Int32} (hx : x = iZ w) (rw' : R32 w) (hS : SI tp td tm D) (h : MI m tp td fl tm D)
    (hk : ∀ m', MI m' tp td fl tm D → Fr AMa m m' → K (some (vL (iL (qCt tm td D w)))) m') : smC true 242 [vR (some (23, 231)), vI x] m K := by
  subst hx
  have en := hS.en
  have h48 := hS.dok.1
  have h800 := hS.2.1
  refine smC_wp [some (vR (some (23, 231))), some (vI (iZ w))] cd_242 [5] 60 OK_242 (by decide) rfl rfl (Nat.le_of_ble_eq_true rfl) ?_
  refine And.intro trivial ?_
  obtain ⟨h0, F0⟩ := h.b0
  generalize sI m 23 231 0 0 = m0 at *
  refine wp1_ok (by decide) OK_242 (cc := cd_242) rfl (stops := [34]) (f := 60) ?_
  refine And.intro trivial (MI.writes hS h0 (fun m1 h1 S1 F1 => ?_))
  have hk := hk m1 h1 (F0.qa.tr F1.qa)
  have hM := h1.2.2.1
  have hV : MVd m1 tm (tm 5) D := S1.vd hS.2.2.1 hS.dok hS.t5
  refine And.intro trivial (M_in (v := w) (lo := 10) (hi := 16) rfl rw' (by decide) (by decide) rfl rfl (fun q => ?_) (fun q => ?_))
  · rw [qCt_10 q] at hk
    refine And.intro (fun w => absurd w (by decide)) (fun _ => ?_)
    have ew : iZ w - 10 = iZ (w - 10) := by rw [L10, iZ_sub]
    have hr := tms_rng hS.2.2.1 (w - 10).toNat (by omega)
    refine And.intro (by rw [ew]; exact (iZ_in (by constructor <;> omega)).mpr (by omega)) ?_
    refine And.intro trivial ?_
    rw [ew, iZ_clamp (by constructor <;> omega), h1.2.1 _ (by omega), iZ_iL (by constructor <;> omega)]
    exact hk
  refine And.intro (fun _ => ?_) (fun w => absurd rfl w)
  refine And.intro trivial ?_
  have w4 : w = 4 ∨ w = 5 → smE true 242 112 [some (vR (some (23, 231))), some (vI (iZ w))] [] m1 K := by
    intro u
    refine wp_ok (by decide) OK_242 (cc := cd_242) rfl (stops := []) 30 _ _ _ _ ?_
    refine And.intro trivial (M_verdicts (v := w - 2) (pc := tm 5) (tm := tm) (by rw [L2, iZ_sub]) (by constructor <;> omega) hS.dok hM hV ?_)
    refine And.intro trivial ?_
    have hl := wS_rng (x := w - 2) (tm := tm) (pc := tm 5) (D := D) D.1
    rw [iZ_iL (by constructor <;> omega)]
    rcases u with rfl | rfl
    · exact hk
    · exact hk
  have w7 : w = 7 ∨ w = 8 → smE true 242 127 [some (vR (some (23, 231))), some (vI (iZ w))] [] m1 K := by
    intro u
    rw [qCt_7 u] at hk
    refine wp_ok (by decide) OK_242 (cc := cd_242) rfl (stops := []) 30 _ _ _ _ ?_
    refine And.intro (by rw [L2, iZ_in (by decide)]; decide) ?_
    refine And.intro trivial (M_partL (t := D.2.2.2.2) (w := w - 7) hM.1.2.2 (by rw [L7, iZ_sub]) (by omega) (by omega) (fun v hv => ?_))
    refine And.intro trivial ?_
    rw [hv]; exact hk
  refine wp1_ok (by decide) OK_242 (cc := cd_242) rfl (stops := [112, 127]) (f := 60) ?_
  refine And.intro (fun u => ?_) ?_
  · have u := swk (k := 0) rw' (by decide) rfl u
    subst u
    refine And.intro (by rw [L0, iZ_in (by decide)]; decide) ?_
    refine And.intro trivial ?_
    have g0 : gI m1 29 237 (0 : Int32).toNatClampNeg = iZ D.1 := hM.1.1
    rw [g0, iZ_iL (by constructor <;> omega)]
    exact hk
  refine And.intro (fun u => ?_) ?_
  · have u := swk (k := 1) rw' (by decide) rfl u
    subst u
    refine And.intro trivial ?_
    have hl := hS.len hS.t5
    rw [S1.len, iZ_iL (by constructor <;> omega)]
    exact hk
  refine And.intro (fun u => ?_) ?_
  · have u := swk (k := 2) rw' (by decide) rfl u
    subst u
    refine And.intro (by rw [L1, iZ_in (by decide)]; decide) ?_
    refine And.intro trivial ?_
    have g0 : gI m1 29 237 (1 : Int32).toNatClampNeg = iZ D.2.2.1 := hM.1.2.1
    rw [g0, iZ_iL (by constructor <;> omega)]
    exact hk
  refine And.intro (fun u => ?_) ?_
  · have u := swk (k := 3) rw' (by decide) rfl u
    subst u
    refine And.intro trivial ?_
    rw [h1.2.2.2.1.2, iZ_iL (by constructor <;> omega)]
    exact hk
  refine And.intro (fun u => And.intro trivial (w4 (Or.inl (swk (k := 4) rw' (by decide) rfl u)))) ?_
  refine And.intro (fun u => And.intro trivial (w4 (Or.inr (swk (k := 5) rw' (by decide) rfl u)))) ?_
  refine And.intro (fun u => ?_) ?_
  · have u := swk (k := 6) rw' (by decide) rfl u
    subst u
    refine And.intro trivial (M_plainOnes hS.dok hM ?_)
    refine And.intro trivial ?_
    have hl := plC_rng (D := D) D.1
    rw [iZ_iL (by constructor <;> omega)]
    exact hk
  refine And.intro (fun u => And.intro trivial (w7 (Or.inl (swk (k := 7) rw' (by decide) rfl u)))) ?_
  refine And.intro (fun u => And.intro trivial (w7 (Or.inr (swk (k := 8) rw' (by decide) rfl u)))) ?_
  intro u
  rw [iZ_toInt rw'] at u
  rw [qCt_n q (by omega)] at hk
  exact And.intro trivial hk
end OPSE
