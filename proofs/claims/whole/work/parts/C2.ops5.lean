/-! note, begin, length, borrowed, tone, milliseconds: the Model -/
theorem AMW_q {t n k : Nat} (h : AMW t n k) : AMq t n k := by unfold AMW at h; unfold AMq; omega
section OPS5
variable {m m' : Mem} {K : Option SV → Mem → Prop} {tp : Nat → Int} {td : Nat} {fl : Int × Int} {tm : Nat → Int} {D : Dt} {f f' : NF} {i : Int}
theorem MI.writes (hS : SI tp td tm D) (h : MI m tp td fl tm D) (hk : ∀ m', MI m' tp td fl tm D → MSR m' tm (tm 5) D D.1 → Fr AMq m m' → K none m') : smC true 175 [vR (some (23, 231))] m K :=
  M_writes ⟨h.1.1, h.2.1, h.2.2.1⟩ hS.2.2.1 hS.dok hS.bok (fun m' h1 F => hk m' (h.fq (F.mono (fun t n k z => AMW_q z))) h1 (F.mono (fun t n k z => AMW_q z)))
theorem Fr.qa {a b : Mem} (F : Fr AMq a b) : Fr AMa a b := F.mono (fun t n k z => AMq_a z)
theorem Q_note {w : Int} {x y : Int32} (hx : x = iZ i) (hy : y = iZ w) (ri : R32 i) (rw' : R32 w) (hS : SI tp td tm D) (h : MI m tp td fl tm D)
    (hk : ∀ m', MI m' tp td fl tm D → Fr AMa m m' → K (some (vI (iZ (qNt tm D i w)))) m') : smC true 174 [vR (some (23, 231)), vI x, vI y] m K := by
  subst hx; subst hy
  have h48 := hS.dok.1
  unfold qNt at hk
  refine smC_wp [some (vR (some (23, 231))), some (vI (iZ i)), some (vI (iZ w)), none] cd_174 [5] 60 OK_174 (by decide) rfl rfl (Nat.le_of_ble_eq_true rfl) ?_
  refine And.intro trivial ?_
  obtain ⟨h0, F0⟩ := h.b0
  generalize sI m 23 231 0 0 = m0 at *
  refine wp1_ok (by decide) OK_174 (cc := cd_174) rfl (stops := [41]) (f := 60) ?_
  refine And.intro trivial (M_isThere rfl ri hS.dok h0.2.2.1 (fun q => ?_) (fun q => ?_))
  rotate_left
  · rw [if_neg q] at hk
    refine And.intro (fun z => absurd rfl z) (fun _ => ?_)
    exact And.intro trivial (hk m0 h0 F0.qa)
  rw [if_pos q] at hk
  have hi : i.toNat < D.1 := by omega
  have hf := hS.dok.2.1 _ hi
  have ei : iZ i = iZ (i.toNat : Int) := by rw [Int.toNat_of_nonneg q.1]
  have eci : (iZ i).toNatClampNeg = i.toNat := iZ_clamp ri
  refine And.intro (fun _ => ?_) (fun z => absurd z (by decide))
  refine And.intro trivial (M_in (v := w) (lo := 0) (hi := 15) rfl rw' (by decide) (by decide) rfl rfl (fun hw => ?_) (fun hw => ?_))
  rotate_left
  · have : qN tm D i.toNat w = -100 := by
      unfold qN
      rw [if_neg (by omega), if_neg (by omega), if_neg (by omega), if_neg (by omega), if_neg (by omega), if_neg (by omega), if_neg (by omega), if_neg (by omega), if_neg (by omega), if_neg (by omega), if_neg (by omega), if_neg (by omega), if_neg (by omega), if_neg (by omega), if_neg (by omega), if_neg (by omega)]
    rw [this] at hk
    refine And.intro (fun z => absurd rfl z) (fun _ => ?_)
    exact And.intro trivial (hk m0 h0 F0.qa)
  refine And.intro (fun _ => ?_) (fun z => absurd z (by decide))
  refine And.intro trivial (MI.writes hS h0 (fun m1 h1 S1 F1 => ?_))
  have hk1 := hk m1 h1 (F0.qa.tr F1.qa)
  clear hk
  have hm := S1.2 i.toNat hi
  have hB := h1.1.1
  have hT := h1.2.1
  have hM := h1.2.2.1
  have r3 : R32 (tm 3) := by have := hS.2.2.1.2.2.2.1; constructor <;> omega
  have k8 := hf.2.2.2.2.2.1
  have sw : ∀ b : Bool, (b = true ↔ D.2.1 i.toNat 0 = 1) → smE true 174 41 [some (vR (some (23, 231))), some (vI (iZ i)), some (vI (iZ w)), some (vI (if b then 1 else 0))] [] m1 K := by
    intro b hb
    have vrd : w = 11 ∨ w = 12 ∨ w = 13 → smE true 174 243 [some (vR (some (23, 231))), some (vI (iZ i)), some (vI (iZ w)), some (vI (if b then 1 else 0))] [] m1 K := by
      intro hw
      have ex : (3 : Int32) * iZ i + iZ w - 11 = iZ ((3 * i.toNat + (w - 11).toNat : Nat) : Int) := by
        rw [L3, L11, iZ_mul, iZ_add, iZ_sub]; congr 1; omega
      refine wp_ok (by decide) OK_174 (cc := cd_174) rfl (stops := []) 40 _ _ _ _ ?_
      refine And.intro (by rw [ex]; exact (iZ_in (by constructor <;> omega)).mpr (by omega)) ?_
      refine And.intro trivial ?_
      rw [ex, iZ_clamp (by constructor <;> omega)]
      rcases hw with rfl | rfl | rfl
      · rw [show ((3 * i.toNat + ((11 : Int) - 11).toNat : Nat) : Int).toNat = 3 * i.toNat by omega, hm.2.2.1.1]; exact hk1
      · rw [show ((3 * i.toNat + ((12 : Int) - 11).toNat : Nat) : Int).toNat = 3 * i.toNat + 1 by omega, hm.2.2.1.2.1]; exact hk1
      · rw [show ((3 * i.toNat + ((13 : Int) - 11).toNat : Nat) : Int).toNat = 3 * i.toNat + 2 by omega, hm.2.2.1.2.2]; exact hk1
    refine wp1_ok (by decide) OK_174 (cc := cd_174) rfl (stops := [243]) (f := 60) ?_
    refine And.intro (fun u => ?_) ?_
    · have u := swk (k := 0) rw' (by decide) rfl u
      subst u
      cases b with
      | true =>
        have e0 := hb.mp rfl
        refine And.intro (fun z => absurd z (by decide)) (fun _ => ?_)
        refine And.intro trivial (M_of (i := i.toNat) (w := 3) ei rfl hS.dok hM hi (by decide) ?_)
        refine And.intro trivial ?_
        have : qN tm D i.toNat 0 = D.2.1 i.toNat 3 := by show (if D.2.1 i.toNat 0 = 1 then _ else _) = _; rw [if_pos e0]
        rw [this] at hk1; exact hk1
      | false =>
        have e0 : ¬ D.2.1 i.toNat 0 = 1 := fun e => absurd (hb.mpr e) (by decide)
        refine And.intro (fun _ => ?_) (fun z => absurd rfl z)
        refine And.intro trivial ?_
        have : qN tm D i.toNat 0 = -1 := by show (if D.2.1 i.toNat 0 = 1 then _ else _) = _; rw [if_neg e0]
        rw [this] at hk1; exact hk1
    refine And.intro (fun u => ?_) ?_
    · have u := swk (k := 1) rw' (by decide) rfl u
      subst u
      refine And.intro trivial (M_of (i := i.toNat) (w := 6) ei rfl hS.dok hM hi (by decide) ?_)
      exact And.intro trivial hk1
    refine And.intro (fun u => ?_) ?_
    · have u := swk (k := 2) rw' (by decide) rfl u
      subst u
      refine And.intro trivial (M_of (i := i.toNat) (w := 10) ei rfl hS.dok hM hi (by decide) ?_)
      exact And.intro trivial hk1
    refine And.intro (fun u => ?_) ?_
    · have u := swk (k := 3) rw' (by decide) rfl u
      subst u
      refine And.intro trivial (M_of (i := i.toNat) (w := 11) ei rfl hS.dok hM hi (by decide) ?_)
      exact And.intro trivial hk1
    refine And.intro (fun u => ?_) ?_
    · have u := swk (k := 4) rw' (by decide) rfl u
      subst u
      refine And.intro trivial (M_of (i := i.toNat) (w := 12) ei rfl hS.dok hM hi (by decide) ?_)
      exact And.intro trivial hk1
    refine And.intro (fun u => ?_) ?_
    · have u := swk (k := 5) rw' (by decide) rfl u
      subst u
      refine And.intro trivial (M_of (i := i.toNat) (w := 7) ei rfl hS.dok hM hi (by decide) ?_)
      exact And.intro trivial hk1
    refine And.intro (fun u => ?_) ?_
    · have u := swk (k := 6) rw' (by decide) rfl u
      subst u
      refine And.intro trivial (M_of (i := i.toNat) (w := 8) ei rfl hS.dok hM hi (by decide) ?_)
      exact And.intro trivial hk1
    refine And.intro (fun u => ?_) ?_
    · have u := swk (k := 7) rw' (by decide) rfl u
      subst u
      refine And.intro trivial (M_of (i := i.toNat) (w := 9) ei rfl hS.dok hM hi (by decide) ?_)
      exact And.intro trivial hk1
    refine And.intro (fun u => ?_) ?_
    · have u := swk (k := 8) rw' (by decide) rfl u
      subst u
      cases b with
      | true =>
        have e0 := hb.mp rfl
        refine And.intro (fun z => absurd z (by decide)) (fun _ => ?_)
        refine And.intro trivial (M_of (i := i.toNat) (w := 8) ei rfl hS.dok hM hi (by decide) ?_)
        refine And.intro trivial (M_upper (i := i.toNat) ei rfl k8 hB hT r3 hS.dok hM hi e0 ?_)
        refine And.intro trivial ?_
        have : qN tm D i.toNat 8 = (Pk (tm 3) (D.2.1 i.toNat) 1).1 := by show (if D.2.1 i.toNat 0 = 1 then _ else _) = _; rw [if_pos e0]
        rw [this] at hk1; exact hk1
      | false =>
        have e0 : ¬ D.2.1 i.toNat 0 = 1 := fun e => absurd (hb.mpr e) (by decide)
        refine And.intro (fun _ => ?_) (fun z => absurd rfl z)
        refine And.intro trivial ?_
        have : qN tm D i.toNat 8 = -1 := by show (if D.2.1 i.toNat 0 = 1 then _ else _) = _; rw [if_neg e0]
        rw [this] at hk1; exact hk1
    refine And.intro (fun u => ?_) ?_
    · have u := swk (k := 9) rw' (by decide) rfl u
      subst u
      cases b with
      | true =>
        have e0 := hb.mp rfl
        refine And.intro (fun z => absurd z (by decide)) (fun _ => ?_)
        refine And.intro trivial (M_of (i := i.toNat) (w := 8) ei rfl hS.dok hM hi (by decide) ?_)
        refine And.intro trivial (M_lower (i := i.toNat) ei rfl k8 hB hT r3 hS.dok hM hi e0 ?_)
        refine And.intro trivial ?_
        have : qN tm D i.toNat 9 = (Pk (tm 3) (D.2.1 i.toNat) 2).1 := by show (if D.2.1 i.toNat 0 = 1 then _ else _) = _; rw [if_pos e0]
        rw [this] at hk1; exact hk1
      | false =>
        have e0 : ¬ D.2.1 i.toNat 0 = 1 := fun e => absurd (hb.mpr e) (by decide)
        refine And.intro (fun _ => ?_) (fun z => absurd rfl z)
        refine And.intro trivial ?_
        have : qN tm D i.toNat 9 = -1 := by show (if D.2.1 i.toNat 0 = 1 then _ else _) = _; rw [if_neg e0]
        rw [this] at hk1; exact hk1
    refine And.intro (fun u => ?_) ?_
    · have u := swk (k := 10) rw' (by decide) rfl u
      subst u
      cases b with
      | true =>
        have e0 := hb.mp rfl
        refine And.intro (fun z => absurd z (by decide)) (fun _ => ?_)
        refine And.intro trivial (M_lowest (i := i.toNat) ei hB hT r3 hS.dok hM hi e0 ?_)
        refine And.intro trivial ?_
        have : qN tm D i.toNat 10 = (Pk (tm 3) (D.2.1 i.toNat) 4).1 := by show (if D.2.1 i.toNat 0 = 1 then _ else _) = _; rw [if_pos e0]
        rw [this] at hk1; exact hk1
      | false =>
        have e0 : ¬ D.2.1 i.toNat 0 = 1 := fun e => absurd (hb.mpr e) (by decide)
        refine And.intro (fun _ => ?_) (fun z => absurd rfl z)
        refine And.intro trivial ?_
        have : qN tm D i.toNat 10 = -1 := by show (if D.2.1 i.toNat 0 = 1 then _ else _) = _; rw [if_neg e0]
        rw [this] at hk1; exact hk1
    refine And.intro (fun u => And.intro trivial (vrd (Or.inl (swk (k := 11) rw' (by decide) rfl u)))) ?_
    refine And.intro (fun u => And.intro trivial (vrd (Or.inr (Or.inl (swk (k := 12) rw' (by decide) rfl u))))) ?_
    refine And.intro (fun u => And.intro trivial (vrd (Or.inr (Or.inr (swk (k := 13) rw' (by decide) rfl u))))) ?_
    refine And.intro (fun u => ?_) ?_
    · have u := swk (k := 14) rw' (by decide) rfl u
      subst u
      refine And.intro ((iZ_in ri).mpr (by omega)) ?_
      refine And.intro trivial ?_
      rw [eci, hm.1]; exact hk1
    intro u
    rw [iZ_toInt rw'] at u
    have e15 : w = 15 := by omega
    subst e15
    refine And.intro ((iZ_in ri).mpr (by omega)) ?_
    refine And.intro trivial ?_
    rw [eci, hm.2.1]; exact hk1
  refine And.intro trivial (M_isNote rfl ri hS.dok hM (fun z => ?_) (fun z => ?_))
  · exact And.intro trivial (sw true ⟨fun _ => z.2.2, fun _ => rfl⟩)
  · exact And.intro trivial (sw false ⟨fun e => absurd e (by decide), fun e => absurd ⟨q.1, q.2, e⟩ z⟩)
theorem M_isAsked {w : Int} {x y : Int32} (hx : x = iZ i) (hy : y = iZ w) (ri : R32 i) (rw' : R32 w) (hD : DOK D) (hM : MD m D) (h1 : (0 ≤ i ∧ i < D.1) ∧ (0 ≤ w ∧ w ≤ 1) → K (some (vI 1)) m) (h0 : ¬ ((0 ≤ i ∧ i < D.1) ∧ (0 ≤ w ∧ w ≤ 1)) → K (some (vI 0)) m) : smC true 214 [vR (some (23, 231)), vI x, vI y] m K := by
  subst hx; subst hy
  refine smC_wp [some (vR (some (23, 231))), some (vI (iZ i)), some (vI (iZ w))] cd_214 [] 40 OK_214 (by decide) rfl rfl (Nat.le_of_ble_eq_true rfl) ?_
  refine And.intro trivial (M_isThere rfl ri hD hM (fun q => ?_) (fun q => ?_))
  rotate_left
  · refine And.intro (fun _ => ?_) (fun z => absurd rfl z)
    exact And.intro (Or.inl rfl) (h0 (fun z => q z.1))
  refine And.intro (fun z => absurd z (by decide)) (fun _ => ?_)
  refine And.intro trivial (M_in (v := w) (lo := 0) (hi := 1) rfl rw' (by decide) (by decide) rfl rfl (fun z => ?_) (fun z => ?_))
  · refine And.intro (fun z => absurd z (by decide)) (fun _ => ?_)
    exact And.intro (Or.inr rfl) (h1 ⟨q, z⟩)
  · refine And.intro (fun _ => ?_) (fun z => absurd rfl z)
    exact And.intro (Or.inl rfl) (h0 (fun y => z y.2))
theorem qPt_2 {t w : Int} (h : ¬ (0 ≤ w ∧ w ≤ 1)) : qPt t w = -2 := by unfold qPt; rw [if_neg (by omega), if_neg (by omega)]
theorem qPt_in {t w : Int} (h : 0 ≤ w ∧ w ≤ 1) : qPt t w = if w = 0 then unN t else lnN t := by
  unfold qPt
  by_cases e : w = 0
  · rw [if_pos e, if_pos e]
  · rw [if_neg e, if_neg e, if_pos (by omega)]
/-- a part, as a long -/
theorem M_partL {t w : Int} {x y : Int32} (hx : x = iZ (3 * t)) (hy : y = iZ w) (ht : 0 ≤ t ∧ t ≤ 600000000) (hw : 0 ≤ w ∧ w ≤ 1) (h : ∀ v : Int32, v.toInt64 = iL (qPt t w) → K (some (vI v)) m) : smC true 188 [vI x, vI y] m K := by
  have u1 := unN_rng ht.1
  have u2 := lnN_rng t
  refine M_part hx hy ht (by constructor <;> omega) (h _ ?_)
  rw [qPt_in hw]
  split
  · exact iZ_iL (by constructor <;> omega)
  · exact iZ_iL (by constructor <;> omega)
theorem Q_begin {w : Int} {x y : Int32} (hx : x = iZ i) (hy : y = iZ w) (ri : R32 i) (rw' : R32 w) (hS : SI tp td tm D) (h : MI m tp td fl tm D)
    (hk : ∀ m', MI m' tp td fl tm D → Fr AMa m m' → K (some (vL (iL (qBg D i w 4)))) m') : smC true 213 [vR (some (23, 231)), vI x, vI y] m K := by
  subst hx; subst hy
  unfold qBg at hk
  refine smC_wp [some (vR (some (23, 231))), some (vI (iZ i)), some (vI (iZ w))] cd_213 [5] 60 OK_213 (by decide) rfl rfl (Nat.le_of_ble_eq_true rfl) ?_
  refine And.intro trivial ?_
  obtain ⟨h0, F0⟩ := h.b0
  generalize sI m 23 231 0 0 = m0 at *
  have hk := hk m0 h0 F0.qa
  refine wp1_ok (by decide) OK_213 (cc := cd_213) rfl (stops := []) (f := 60) ?_
  refine And.intro trivial (M_isAsked rfl rfl ri rw' hS.dok h0.2.2.1 (fun q => ?_) (fun q => ?_))
  rotate_left
  · refine And.intro (fun _ => ?_) (fun z => absurd rfl z)
    refine And.intro trivial ?_
    by_cases e : 0 ≤ i ∧ i < D.1
    · rw [if_pos e, qPt_2 (fun z => q ⟨e, z⟩)] at hk; exact hk
    · rw [if_neg e] at hk; exact hk
  rw [if_pos q.1] at hk
  have hi : i.toNat < D.1 := by omega
  have hf := hS.dok.2.1 _ hi
  have r4 := hf.2.1
  have ei : iZ i = iZ (i.toNat : Int) := by rw [Int.toNat_of_nonneg q.1.1]
  refine And.intro (fun z => absurd z (by decide)) (fun _ => ?_)
  refine And.intro trivial (M_of (i := i.toNat) (w := 4) ei rfl hS.dok h0.2.2.1 hi (by decide) ?_)
  refine And.intro trivial (M_partL (t := D.2.1 i.toNat 4) rfl rfl (by omega) q.2 (fun v hv => ?_))
  refine And.intro trivial ?_
  rw [hv]; exact hk
theorem Q_length {w : Int} {x y : Int32} (hx : x = iZ i) (hy : y = iZ w) (ri : R32 i) (rw' : R32 w) (hS : SI tp td tm D) (h : MI m tp td fl tm D)
    (hk : ∀ m', MI m' tp td fl tm D → Fr AMa m m' → K (some (vL (iL (qBg D i w 5)))) m') : smC true 215 [vR (some (23, 231)), vI x, vI y] m K := by
  subst hx; subst hy
  unfold qBg at hk
  refine smC_wp [some (vR (some (23, 231))), some (vI (iZ i)), some (vI (iZ w))] cd_215 [5] 60 OK_215 (by decide) rfl rfl (Nat.le_of_ble_eq_true rfl) ?_
  refine And.intro trivial ?_
  obtain ⟨h0, F0⟩ := h.b0
  generalize sI m 23 231 0 0 = m0 at *
  have hk := hk m0 h0 F0.qa
  refine wp1_ok (by decide) OK_215 (cc := cd_215) rfl (stops := []) (f := 60) ?_
  refine And.intro trivial (M_isAsked rfl rfl ri rw' hS.dok h0.2.2.1 (fun q => ?_) (fun q => ?_))
  rotate_left
  · refine And.intro (fun _ => ?_) (fun z => absurd rfl z)
    refine And.intro trivial ?_
    by_cases e : 0 ≤ i ∧ i < D.1
    · rw [if_pos e, qPt_2 (fun z => q ⟨e, z⟩)] at hk; exact hk
    · rw [if_neg e] at hk; exact hk
  rw [if_pos q.1] at hk
  have hi : i.toNat < D.1 := by omega
  have hf := hS.dok.2.1 _ hi
  have r5 := hf.2.2.1
  have ei : iZ i = iZ (i.toNat : Int) := by rw [Int.toNat_of_nonneg q.1.1]
  refine And.intro (fun z => absurd z (by decide)) (fun _ => ?_)
  refine And.intro trivial (M_of (i := i.toNat) (w := 5) ei rfl hS.dok h0.2.2.1 hi (by decide) ?_)
  refine And.intro trivial (M_partL (t := D.2.1 i.toNat 5) rfl rfl (by omega) q.2 (fun v hv => ?_))
  refine And.intro trivial ?_
  rw [hv]; exact hk
theorem Q_tone {w : Int} {x y : Int32} (hx : x = iZ i) (hy : y = iZ w) (ri : R32 i) (rw' : R32 w) (hS : SI tp td tm D) (h : MI m tp td fl tm D)
    (hk : ∀ m', MI m' tp td fl tm D → Fr AMa m m' → K (some (vL (iL (qTn tm D i w)))) m') : smC true 217 [vR (some (23, 231)), vI x, vI y] m K := by
  subst hx; subst hy
  unfold qTn at hk
  refine smC_wp [some (vR (some (23, 231))), some (vI (iZ i)), some (vI (iZ w))] cd_217 [5] 60 OK_217 (by decide) rfl rfl (Nat.le_of_ble_eq_true rfl) ?_
  refine And.intro trivial ?_
  obtain ⟨h0, F0⟩ := h.b0
  generalize sI m 23 231 0 0 = m0 at *
  have hk := hk m0 h0 F0.qa
  refine wp1_ok (by decide) OK_217 (cc := cd_217) rfl (stops := []) (f := 60) ?_
  refine And.intro trivial (M_isAsked rfl rfl ri rw' hS.dok h0.2.2.1 (fun q => ?_) (fun q => ?_))
  rotate_left
  · refine And.intro (fun _ => ?_) (fun z => absurd rfl z)
    refine And.intro trivial ?_
    by_cases e : 0 ≤ i ∧ i < D.1
    · rw [if_pos e, qPt_2 (fun z => q ⟨e, z⟩)] at hk; exact hk
    · rw [if_neg e] at hk; exact hk
  rw [if_pos q.1] at hk
  have hi : i.toNat < D.1 := by omega
  have hf := hS.dok.2.1 _ hi
  have rT := wT_rng hS.2.2.1 hf hS.t5
  have ei : iZ i = iZ (i.toNat : Int) := by rw [Int.toNat_of_nonneg q.1.1]
  refine And.intro (fun z => absurd z (by decide)) (fun _ => ?_)
  refine And.intro trivial (M_toneOf (i := i.toNat) ei h0.2.1 hS.2.2.1 hS.t5 hS.dok h0.2.2.1 hi ?_)
  refine And.intro trivial (M_partL (t := wT tm (tm 5) (D.2.1 i.toNat)) rfl rfl (by omega) q.2 (fun v hv => ?_))
  refine And.intro trivial ?_
  rw [hv]; exact hk
theorem Q_borrowed {fr w : Int} {x y z : Int32} (hx : x = iZ i) (hy : y = iZ fr) (hz : z = iZ w) (ri : R32 i) (rf : R32 fr) (rw' : R32 w) (hS : SI tp td tm D) (h : MI m tp td fl tm D)
    (hk : ∀ m', MI m' tp td fl tm D → Fr AMa m m' → K (some (vL (iL (qBr tm D i fr w)))) m') : smC true 216 [vR (some (23, 231)), vI x, vI y, vI z] m K := by
  subst hx; subst hy; subst hz
  have h48 := hS.dok.1
  unfold qBr at hk
  refine smC_wp [some (vR (some (23, 231))), some (vI (iZ i)), some (vI (iZ fr)), some (vI (iZ w)), none] cd_216 [5] 60 OK_216 (by decide) rfl rfl (Nat.le_of_ble_eq_true rfl) ?_
  refine And.intro trivial ?_
  obtain ⟨h0, F0⟩ := h.b0
  generalize sI m 23 231 0 0 = m0 at *
  have bad : ¬ (((0 ≤ i ∧ i < D.1) ∧ 0 ≤ w ∧ w ≤ 1) ∧ 0 ≤ fr ∧ fr ≤ 2) → smE true 216 26 [some (vR (some (23, 231))), some (vI (iZ i)), some (vI (iZ fr)), some (vI (iZ w)), none] [] m0 K := by
    intro z
    have hk := hk m0 h0 F0.qa
    refine wp_ok (by decide) OK_216 (cc := cd_216) rfl (stops := []) 20 _ _ _ _ ?_
    refine And.intro trivial ?_
    by_cases e : (0 ≤ i ∧ i < D.1) ∧ 0 ≤ fr ∧ fr ≤ 2
    · rw [if_pos e, qPt_2 (fun y => z ⟨⟨e.1, y⟩, e.2⟩)] at hk; exact hk
    · rw [if_neg e] at hk; exact hk
  refine wp1_ok (by decide) OK_216 (cc := cd_216) rfl (stops := [26, 30]) (f := 60) ?_
  refine And.intro trivial (M_isAsked rfl rfl ri rw' hS.dok h0.2.2.1 (fun q => ?_) (fun q => ?_))
  rotate_left
  · refine And.intro (fun _ => ?_) (fun z => absurd rfl z)
    exact And.intro trivial (bad (fun z => q z.1))
  refine And.intro (fun z => absurd z (by decide)) (fun _ => ?_)
  refine And.intro trivial (M_in (v := fr) (lo := 0) (hi := 2) rfl rf (by decide) (by decide) rfl rfl (fun z => ?_) (fun z => ?_))
  rotate_left
  · refine And.intro (fun z => absurd rfl z) (fun _ => ?_)
    exact And.intro trivial (bad (fun y => z y.2))
  refine And.intro (fun _ => ?_) (fun z => absurd z (by decide))
  rw [if_pos ⟨q.1, z⟩] at hk
  have hi : i.toNat < D.1 := by omega
  have rb := qBo_rng (fr := fr) hS q.1
  have ei : iZ i = iZ (i.toNat : Int) := by rw [Int.toNat_of_nonneg q.1.1]
  have eci : (iZ i).toNatClampNeg = i.toNat := iZ_clamp ri
  refine And.intro trivial ?_
  refine wp1_ok (by decide) OK_216 (cc := cd_216) rfl (stops := [58, 89]) (f := 60) ?_
  refine And.intro trivial (MI.writes hS h0 (fun m1 h1 S1 F1 => ?_))
  have hk1 := hk m1 h1 (F0.qa.tr F1.qa)
  clear hk
  have hres := S1.2
  have e0 : gI m1 29 237 (0 : Int32).toNatClampNeg = iZ D.1 := h1.2.2.1.1.1
  have e1 : iZ i + 1 = iZ (i + 1) := by rw [L1, iZ_add]
  have fin : ∀ {x4 : Int32} (v : Int32), v = iZ (3 * qBo tm D i fr) → smE true 216 89 [some (vR (some (23, 231))), some (vI (iZ i)), some (vI (iZ fr)), some (vI (iZ w)), some (vI x4)] [vI v] m1 K := by
    intro x4 v hv
    refine wp_ok (by decide) OK_216 (cc := cd_216) rfl (stops := []) 20 _ _ _ _ ?_
    refine And.intro trivial (M_partL hv rfl (by omega) q.2 (fun u hu => ?_))
    refine And.intro trivial ?_
    rw [hu]; exact hk1
  have sel : ∀ (v : Int32), v = iZ (3 * (if i + 1 < D.1 then (wq tm (tm 5) D (i.toNat + 1)).2.2.2 else 0)) → smE true 216 58 [some (vR (some (23, 231))), some (vI (iZ i)), some (vI (iZ fr)), some (vI (iZ w)), none] [vI v] m1 K := by
    intro v hv
    refine wp_ok (by decide) OK_216 (cc := cd_216) rfl (stops := [89]) 40 _ _ _ _ ?_
    refine And.intro (fun u => ?_) (fun u => ?_)
    rotate_left
    · rw [L0, iZ_eq rf (by decide)] at u
      refine And.intro ((iZ_in ri).mpr (by omega)) ?_
      exact And.intro trivial (fin _ (by rw [eci, (hres _ hi).2.2.2.1]; unfold qBo; rw [if_pos u]))
    rw [L0, iZ_eq rf (by decide)] at u
    refine And.intro (fun o => ?_) (fun o => ?_)
    · rw [L1, iZ_eq rf (by decide)] at o
      exact And.intro trivial (fin _ (by rw [hv]; unfold qBo; rw [if_neg u, if_neg o]))
    · rw [L1, iZ_eq rf (by decide)] at o
      refine And.intro ((iZ_in ri).mpr (by omega)) ?_
      exact And.intro trivial (fin _ (by rw [eci, (hres _ hi).2.2.2.2]; unfold qBo; rw [if_neg u, if_pos o]))
  refine And.intro (by rw [L0, iZ_in (by decide)]; decide) ?_
  refine And.intro (fun u => ?_) (fun u => ?_)
  · rw [e0, e1, iZ_le (by constructor <;> omega) (by constructor <;> omega)] at u
    exact And.intro trivial (sel 0 (by rw [if_neg (by omega)]; rfl))
  · rw [e0, e1, iZ_le (by constructor <;> omega) (by constructor <;> omega)] at u
    refine And.intro (by rw [e1]; exact (iZ_in (by constructor <;> omega)).mpr (by omega)) ?_
    exact And.intro trivial (sel _ (by rw [e1, iZ_clamp (by constructor <;> omega), show (i + 1).toNat = i.toNat + 1 by omega, (hres _ (by omega)).2.2.2.2, if_pos (by omega)]))
theorem Q_ms {x : Int32} (hx : x = iZ i) (ri : R32 i) (hS : SI tp td tm D) (h : MI m tp td fl tm D)
    (hk : ∀ m', MI m' tp td fl tm D → Fr AMa m m' → K (some (vI (iZ (qMs tm D i)))) m') : smC true 218 [vR (some (23, 231)), vI x] m K := by
  subst hx
  unfold qMs at hk
  refine smC_wp [some (vR (some (23, 231))), some (vI (iZ i))] cd_218 [5] 60 OK_218 (by decide) rfl rfl (Nat.le_of_ble_eq_true rfl) ?_
  refine And.intro trivial ?_
  obtain ⟨h0, F0⟩ := h.b0
  generalize sI m 23 231 0 0 = m0 at *
  have hk := hk m0 h0 F0.qa
  refine wp1_ok (by decide) OK_218 (cc := cd_218) rfl (stops := []) (f := 60) ?_
  refine And.intro trivial (M_isThere rfl ri hS.dok h0.2.2.1 (fun q => ?_) (fun q => ?_))
  rotate_left
  · rw [if_neg q] at hk
    refine And.intro (fun z => absurd rfl z) (fun _ => ?_)
    exact And.intro trivial hk
  rw [if_pos q] at hk
  refine And.intro (fun _ => ?_) (fun z => absurd z (by decide))
  have hi : i.toNat < D.1 := by omega
  have hf := hS.dok.2.1 _ hi
  have ht := hS.2.2.1
  have r9 := hf.2.2.2.2.2.2.1
  have r5 := hf.2.2.1
  have t5 := ht.2.2.2.2.2.1
  have ei : iZ i = iZ (i.toNat : Int) := by rw [Int.toNat_of_nonneg q.1]
  have p2 := mulB (show 0 ≤ D.2.1 i.toNat 9 ∧ D.2.1 i.toNat 9 ≤ 400 by omega) (show 0 ≤ tm 5 ∧ tm 5 ≤ 400 by omega)
  have l2 : 20 * 25 ≤ D.2.1 i.toNat 9 * tm 5 := Int.mul_le_mul r9.1 t5.1 (by decide) (by omega)
  have e5 : gI m0 24 232 (5 : Int32).toNatClampNeg = iZ (tm 5) := h0.2.1 5 (by decide)
  have q9 := iZ_iL (z := D.2.1 i.toNat 9) (by constructor <;> omega)
  have q5 := iZ_iL (z := 3 * D.2.1 i.toNat 5) (by constructor <;> omega)
  have qt := iZ_iL (z := tm 5) (by constructor <;> omega)
  refine And.intro trivial (M_of (i := i.toNat) (w := 5) ei rfl hS.dok h0.2.2.1 hi (by decide) ?_)
  refine And.intro trivial (M_of (i := i.toNat) (w := 9) ei rfl hS.dok h0.2.2.1 hi (by decide) ?_)
  refine And.intro (by rw [L5, iZ_in (by decide)]; decide) ?_
  have g5 : iZ (mw 5 (D.2.1 i.toNat 5)) = iZ (3 * D.2.1 i.toNat 5) := rfl
  have g9 : iZ (mw 9 (D.2.1 i.toNat 9)) = iZ (D.2.1 i.toNat 9) := rfl
  refine And.intro (fun y => ?_) ?_
  · rw [g9, e5, q9, qt, show (1536 : Int64) = iL 1536 from rfl, show (0 : Int64) = iL 0 from rfl, iL_mul, iL_mul, iL_eq (by constructor <;> omega) (by decide)] at y
    omega
  refine And.intro trivial ?_
  rw [g5, g9, e5, q9, q5, qt, show (1536 : Int64) = iL 1536 from rfl, show (24000000 : Int64) = iL 24000000 from rfl, iL_mul, iL_mul, iL_mul, iL_div (by constructor <;> omega) (by constructor <;> omega) (by omega) (by omega)]
  have ed : 24000000 * (3 * D.2.1 i.toNat 5) / (D.2.1 i.toNat 9 * tm 5 * 1536) = D.2.1 i.toNat 5 * 24000000 / (512 * D.2.1 i.toNat 9 * tm 5) := by
    have x1 : 24000000 * (3 * D.2.1 i.toNat 5) = 3 * (D.2.1 i.toNat 5 * 24000000) := by omega
    have x2 : D.2.1 i.toNat 9 * tm 5 * 1536 = 3 * (512 * D.2.1 i.toNat 9 * tm 5) := by rw [Int.mul_assoc 512]; omega
    rw [x1, x2]
    exact Int.mul_ediv_mul_of_pos _ _ (by decide)
  rw [ed]
  have x3 : 512 * D.2.1 i.toNat 9 * tm 5 = 512 * (D.2.1 i.toNat 9 * tm 5) := Int.mul_assoc _ _ _
  have d0 : 0 ≤ D.2.1 i.toNat 5 * 24000000 / (512 * D.2.1 i.toNat 9 * tm 5) := Int.ediv_nonneg (by omega) (by omega)
  have d1 : D.2.1 i.toNat 5 * 24000000 / (512 * D.2.1 i.toNat 9 * tm 5) ≤ 100000000 := Int.ediv_le_of_le_mul (by omega) (by omega)
  rw [iL_iZ (by constructor <;> omega)]
  exact hk
end OPS5
