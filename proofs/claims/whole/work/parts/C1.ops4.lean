/-! note, begin, length, borrowed, tone, milliseconds: the class -/
theorem swk {w k : Int} {x : Int32} (rw' : R32 w) (rk : R32 k) (hx : x = iZ k) (u : iZ w = x) : w = k := by
  rw [hx, iZ_eq rw' rk] at u; exact u
/-- what a note answers -/
def qN (tm : Nat → Int) (D : Dt) (i : Nat) (w : Int) : Int :=
  if w = 0 then (if D.2.1 i 0 = 1 then D.2.1 i 3 else -1) else if w = 1 then D.2.1 i 6 else if w = 2 then D.2.1 i 10 else if w = 3 then D.2.1 i 11 else if w = 4 then D.2.1 i 12 else if w = 5 then D.2.1 i 7 else if w = 6 then D.2.1 i 8 else if w = 7 then D.2.1 i 9
  else if w = 8 then (if D.2.1 i 0 = 1 then (Pk (tm 3) (D.2.1 i) 1).1 else -1) else if w = 9 then (if D.2.1 i 0 = 1 then (Pk (tm 3) (D.2.1 i) 2).1 else -1) else if w = 10 then (if D.2.1 i 0 = 1 then (Pk (tm 3) (D.2.1 i) 4).1 else -1)
  else if w = 11 then (wq tm (tm 5) D i).2.1.1 else if w = 12 then (wq tm (tm 5) D i).2.1.2.1 else if w = 13 then (wq tm (tm 5) D i).2.1.2.2 else if w = 14 then (if D.2.1 i 0 = 1 then ((wr tm (tm 5) D i).1.length : Int) else -1) else if w = 15 then ((wr tm (tm 5) D (i + 1)).1.length : Int) - (wr tm (tm 5) D i).1.length else -100
def qNt (tm : Nat → Int) (D : Dt) (i w : Int) : Int := if 0 ≤ i ∧ i < D.1 then qN tm D i.toNat w else -2
def qPt (t w : Int) : Int := if w = 0 then unN t else if w = 1 then lnN t else -2
section OPS4
variable {m m' : Mem} {K : Option SV → Mem → Prop} {tp : Nat → Int} {td : Nat} {fl : Int × Int} {tm : Nat → Int} {D : Dt} {a sa sb j : Nat} {st : Bool} {f f' : NF} {i : Int}
theorem CJ.tms (h : CJ m tp td fl tm D a sa sb j st) : ∀ k, k < 7 → gI m 5 5 k = iZ (tm k) := h.2.2.2.2.1.2.2.1
theorem CJ.scr (h : CJ m tp td fl tm D a sa sb j false) : ScR m 6 true tm (tm 5) D D.1 := h.2.2.2.2.2.2.2 rfl
theorem c_nbr {n : Nat} {w : Int} {x : Int32} (hx : x = iZ w) (hw : w = 8 ∨ w = 9 ∨ w = 10) (hN : NRep m n f) (hf : NOK f) (h1 : f 0 = 1) (ht : tmOK tm) (h3 : gI m 5 5 3 = iZ (tm 3)) (hk : K (some (vI (iZ (if w = 8 then (Pk (tm 3) f 1).1 else if w = 9 then (Pk (tm 3) f 2).1 else (Pk (tm 3) f 4).1)))) m) : smC true 107 [vR (some (0, 0)), vR (some (8, n)), vI x] m K := by
  subst hx
  have hp := hf.pit h1
  have hP := (Pk_ok (hold := tm 3) hf h1).1
  obtain ⟨hg1, ⟨b10, b11, b13, b14, b15⟩, _⟩ := hf.2.2.2.2.2.2.2.2.2.2.2 h1
  obtain ⟨⟨r10, r11, r13, r14, r15⟩, _⟩ := hN.2 h1
  have k8 := hf.2.2.2.2.2.1
  have t3 := ht.2.2.2.1
  have e0 : gI m 8 n 0 = iZ (pit (f 3) (nStep f)) := by rw [hN.1.1]; unfold nPit; rw [if_pos h1]
  have e4 := hN.1.2.2.2.2.1
  refine smC_wp [some (vR (some (0, 0))), some (vR (some (8, n))), some (vI (iZ w)), none, none] cd_107 [10] 60 OK_107 (by decide) rfl rfl (Nat.le_of_ble_eq_true rfl) ?_
  refine And.intro (by rw [L3, iZ_in (by decide)]; decide) ?_
  refine And.intro trivial ?_
  have e3 : gI m 5 5 (3 : Int32).toNatClampNeg = iZ (tm 3) := h3
  rw [e3]
  refine wp1_ok (by decide) OK_107 (cc := cd_107) rfl (stops := []) (f := 60) ?_
  refine And.intro (fun z => ?_) (fun z => ?_)
  rotate_left
  · have z := swk (k := 8) (by constructor <;> omega) (by decide) rfl z
    rw [if_pos z] at hk
    refine And.intro trivial (c_upperIn e4 rfl (by omega) hp.1 b10 b13 k8 (by constructor <;> omega) e0 r10 r13 ?_)
    have := hP.2.1
    refine And.intro trivial (c_num rfl (by omega) (by have := this.1; unfold Pk at this; simp at this; omega) ?_)
    exact And.intro trivial hk
  have z8 : ¬ w = 8 := fun e => by subst e; exact z rfl
  rw [if_neg z8] at hk
  refine And.intro trivial (c_lowerIn e4 rfl (by omega) hp.1 b11 b14 k8 (by constructor <;> omega) e0 r11 r14 ?_)
  have h2 : okP (dnN (f 3) (nStep f) (f 14) (f 16) (f 8) (tm 3), nStep f - 1) := hP.2.2.1
  refine And.intro (fun y => ?_) (fun y => ?_)
  rotate_left
  · have y := swk (k := 9) (by constructor <;> omega) (by decide) rfl y
    rw [if_pos y] at hk
    refine And.intro trivial (c_num rfl (by omega) (by have := h2.1; simp at this; omega) ?_)
    exact And.intro trivial hk
  have y9 : ¬ w = 9 := fun e => by subst e; exact y rfl
  rw [if_neg y9] at hk
  refine And.intro trivial (c_lowIn rfl rfl (by omega) (by have := h2.1; simp at this; omega) hp.1 b15 k8 (by constructor <;> omega) e0 e4 r15 ?_)
  have h4 : okP (loN (dnN (f 3) (nStep f) (f 14) (f 16) (f 8) (tm 3)) (nStep f) (f 17) (f 8) (tm 3), nStep f - 2) := hP.2.2.2
  refine And.intro trivial (c_num rfl (by omega) (by have := h4.1; simp at this; omega) ?_)
  exact And.intro trivial hk
theorem C_note {w : Int} {x y : Int32} (hx : x = iZ i) (hy : y = iZ w) (ri : R32 i) (rw' : R32 w) (hS : SI tp td tm D) (h : CJ m tp td fl tm D a sa sb j st)
    (hk : ∀ m', CI m' tp td fl tm D a → FC m m' → K (some (vI (iZ (qNt tm D i w)))) m') : smC true 105 [vR (some (0, 0)), vI x, vI y] m K := by
  subst hx; subst hy
  have h48 := hS.dok.1
  unfold qNt at hk
  refine smC_wp [some (vR (some (0, 0))), some (vI (iZ i)), some (vI (iZ w)), none] cd_105 [150, 168] 60 OK_105 (by decide) rfl rfl (Nat.le_of_ble_eq_true rfl) ?_
  refine Exists.intro _ (And.intro h.1.2.1 ?_)
  refine And.intro trivial (c_anyNote rfl ri hS.dok h.srep (fun q => ?_) (fun q => ?_))
  rotate_left
  · rw [if_neg q] at hk
    exact And.intro trivial (hk m ⟨sa, sb, j, st, h⟩ (FC.rf _))
  rw [if_pos q] at hk
  have hi : i.toNat < D.1 := by omega
  have hf := hS.dok.2.1 _ hi
  have hR := h.note hi
  have hk0 := hk m ⟨sa, sb, j, st, h⟩ (FC.rf _)
  have hp := nPit_R hf
  have hN0 : ∀ {z : Prop}, nPit (D.2.1 i.toNat) < 0 → (D.2.1 i.toNat 0 = 1 → z) := fun e e1 => by have := hp.2.mp e; omega
  have hN1 : 0 ≤ nPit (D.2.1 i.toNat) → D.2.1 i.toNat 0 = 1 := fun e => by
    rcases hf.1 with e' | e'
    · have := hp.2.mpr e'; omega
    · exact e'
  have ei : iZ i = iZ (i.toNat : Int) := by rw [Int.toNat_of_nonneg q.1]
  have eci : (iZ i).toNatClampNeg = i.toNat := iZ_clamp ri
  have nbr : w = 8 ∨ w = 9 ∨ w = 10 → smE true 105 150 [some (vR (some (0, 0))), some (vI (iZ i)), some (vI (iZ w)), some (vR (some (8, sa + 1 + 2 + 2 * i.toNat)))] [] m K := by
    intro hw
    refine wp_ok (by decide) OK_105 (cc := cd_105) rfl (stops := []) 40 _ _ _ _ ?_
    refine And.intro trivial (c_isRest hp.1 hR.1.1 (fun z => ?_) (fun z => ?_))
    · refine And.intro (fun u => absurd u (by decide)) (fun _ => ?_)
      refine And.intro trivial ?_
      have e0 : ¬ D.2.1 i.toNat 0 = 1 := fun e => hN0 z e
      rcases hw with rfl | rfl | rfl
      · have : qN tm D i.toNat 8 = -1 := by show (if D.2.1 i.toNat 0 = 1 then _ else _) = _; rw [if_neg e0]
        rw [this] at hk0; exact hk0
      · have : qN tm D i.toNat 9 = -1 := by show (if D.2.1 i.toNat 0 = 1 then _ else _) = _; rw [if_neg e0]
        rw [this] at hk0; exact hk0
      · have : qN tm D i.toNat 10 = -1 := by show (if D.2.1 i.toNat 0 = 1 then _ else _) = _; rw [if_neg e0]
        rw [this] at hk0; exact hk0
    · refine And.intro (fun _ => ?_) (fun u => absurd rfl u)
      have e0 := hN1 z
      refine And.intro trivial (c_nbr rfl hw hR hf e0 hS.2.2.1 (h.tms 3 (by decide)) ?_)
      refine And.intro trivial ?_
      rcases hw with rfl | rfl | rfl
      · have : qN tm D i.toNat 8 = (Pk (tm 3) (D.2.1 i.toNat) 1).1 := by show (if D.2.1 i.toNat 0 = 1 then _ else _) = _; rw [if_pos e0]
        rw [this] at hk0; exact hk0
      · have : qN tm D i.toNat 9 = (Pk (tm 3) (D.2.1 i.toNat) 2).1 := by show (if D.2.1 i.toNat 0 = 1 then _ else _) = _; rw [if_pos e0]
        rw [this] at hk0; exact hk0
      · have : qN tm D i.toNat 10 = (Pk (tm 3) (D.2.1 i.toNat) 4).1 := by show (if D.2.1 i.toNat 0 = 1 then _ else _) = _; rw [if_pos e0]
        rw [this] at hk0; exact hk0
  have vrd : w = 11 ∨ w = 12 ∨ w = 13 → smE true 105 168 [some (vR (some (0, 0))), some (vI (iZ i)), some (vI (iZ w)), some (vR (some (8, sa + 1 + 2 + 2 * i.toNat)))] [] m K := by
    intro hw
    have ex : (3 : Int32) * iZ i + iZ w - 11 = iZ ((3 * i.toNat + (w - 11).toNat : Nat) : Int) := by
      rw [L3, L11, iZ_mul, iZ_add, iZ_sub]; congr 1; omega
    refine wp_ok (by decide) OK_105 (cc := cd_105) rfl (stops := []) 40 _ _ _ _ ?_
    refine Exists.intro _ (And.intro h.1.2.1 ?_)
    refine And.intro trivial (h.written (fun m1 j1 h1 FC1 => ?_))
    refine And.intro (by rw [ex]; exact (iZ_in (by constructor <;> omega)).mpr (by omega)) ?_
    refine And.intro trivial ?_
    have hk1 := hk m1 ⟨sa, sb, j1, false, h1⟩ FC1
    have hr := (h1.scr.2.2.1 i.toNat hi).2.2.1
    rw [ex, iZ_clamp (by constructor <;> omega)]
    rcases hw with rfl | rfl | rfl
    · rw [show ((3 * i.toNat + ((11 : Int) - 11).toNat : Nat) : Int).toNat = 3 * i.toNat by omega, hr.1]; exact hk1
    · rw [show ((3 * i.toNat + ((12 : Int) - 11).toNat : Nat) : Int).toNat = 3 * i.toNat + 1 by omega, hr.2.1]; exact hk1
    · rw [show ((3 * i.toNat + ((13 : Int) - 11).toNat : Nat) : Int).toNat = 3 * i.toNat + 2 by omega, hr.2.2]; exact hk1
  refine And.intro (fun u => ?_) ?_
  · have u := swk (k := 0) rw' (by decide) rfl u
    subst u
    refine And.intro trivial (c_isRest hp.1 hR.1.1 (fun z => ?_) (fun z => ?_))
    · refine And.intro (fun u => absurd u (by decide)) (fun _ => ?_)
      refine And.intro trivial ?_
      have e0 : ¬ D.2.1 i.toNat 0 = 1 := fun e => hN0 z e
      have : qN tm D i.toNat 0 = -1 := by show (if D.2.1 i.toNat 0 = 1 then _ else _) = _; rw [if_neg e0]
      rw [this] at hk0; exact hk0
    · refine And.intro (fun _ => ?_) (fun u => absurd rfl u)
      have e0 := hN1 z
      have hpp := hf.pit e0
      refine And.intro trivial (c_num (num := D.2.1 i.toNat 3) (s := nStep (D.2.1 i.toNat)) (by rw [hR.1.1]; unfold nPit; rw [if_pos e0]) (by omega) (by omega) ?_)
      refine And.intro trivial ?_
      have : qN tm D i.toNat 0 = D.2.1 i.toNat 3 := by show (if D.2.1 i.toNat 0 = 1 then _ else _) = _; rw [if_pos e0]
      rw [this] at hk0; exact hk0
  refine And.intro (fun u => ?_) ?_
  · have u := swk (k := 1) rw' (by decide) rfl u
    subst u
    refine And.intro trivial ?_
    rw [hR.1.2.2.2.1]; exact hk0
  refine And.intro (fun u => ?_) ?_
  · have u := swk (k := 2) rw' (by decide) rfl u
    subst u
    refine And.intro trivial ?_
    rw [hR.1.2.2.2.2.2.2.2.2.1]; exact hk0
  refine And.intro (fun u => ?_) ?_
  · have u := swk (k := 3) rw' (by decide) rfl u
    subst u
    refine And.intro trivial ?_
    rw [hR.1.2.2.2.2.2.2.2.1]; exact hk0
  refine And.intro (fun u => ?_) ?_
  · have u := swk (k := 4) rw' (by decide) rfl u
    subst u
    refine And.intro trivial ?_
    rw [hR.1.2.2.2.2.2.2.2.2.2]; exact hk0
  refine And.intro (fun u => ?_) ?_
  · have u := swk (k := 5) rw' (by decide) rfl u
    subst u
    refine And.intro trivial ?_
    rw [hR.1.2.2.2.2.2.2.1]; exact hk0
  refine And.intro (fun u => ?_) ?_
  · have u := swk (k := 6) rw' (by decide) rfl u
    subst u
    refine And.intro trivial ?_
    rw [hR.1.2.2.2.2.1]; exact hk0
  refine And.intro (fun u => ?_) ?_
  · have u := swk (k := 7) rw' (by decide) rfl u
    subst u
    refine And.intro trivial ?_
    rw [hR.1.2.2.2.2.2.1]; exact hk0
  refine And.intro (fun u => And.intro trivial (nbr (Or.inl (swk (k := 8) rw' (by decide) rfl u)))) ?_
  refine And.intro (fun u => And.intro trivial (nbr (Or.inr (Or.inl (swk (k := 9) rw' (by decide) rfl u))))) ?_
  refine And.intro (fun u => And.intro trivial (nbr (Or.inr (Or.inr (swk (k := 10) rw' (by decide) rfl u))))) ?_
  refine And.intro (fun u => And.intro trivial (vrd (Or.inl (swk (k := 11) rw' (by decide) rfl u)))) ?_
  refine And.intro (fun u => And.intro trivial (vrd (Or.inr (Or.inl (swk (k := 12) rw' (by decide) rfl u))))) ?_
  refine And.intro (fun u => And.intro trivial (vrd (Or.inr (Or.inr (swk (k := 13) rw' (by decide) rfl u))))) ?_
  refine And.intro (fun u => ?_) ?_
  · have u := swk (k := 14) rw' (by decide) rfl u
    subst u
    refine And.intro trivial (c_isRest hp.1 hR.1.1 (fun z => ?_) (fun z => ?_))
    · refine And.intro (fun u => absurd u (by decide)) (fun _ => ?_)
      refine And.intro trivial ?_
      have e0 : ¬ D.2.1 i.toNat 0 = 1 := fun e => hN0 z e
      have : qN tm D i.toNat 14 = -1 := by show (if D.2.1 i.toNat 0 = 1 then _ else _) = _; rw [if_neg e0]
      rw [this] at hk0; exact hk0
    · refine And.intro (fun _ => ?_) (fun u => absurd rfl u)
      have e0 := hN1 z
      refine Exists.intro _ (And.intro h.1.2.1 ?_)
      refine And.intro trivial (h.written (fun m1 j1 h1 FC1 => ?_))
      refine And.intro ((iZ_in ri).mpr (by omega)) ?_
      refine And.intro trivial ?_
      have hk1 := hk m1 ⟨sa, sb, j1, false, h1⟩ FC1
      have hr := (h1.scr.2.2.1 i.toNat hi).1
      rw [eci, hr]
      have : qN tm D i.toNat 14 = ((wr tm (tm 5) D i.toNat).1.length : Int) := by show (if D.2.1 i.toNat 0 = 1 then _ else _) = _; rw [if_pos e0]
      rw [this] at hk1; exact hk1
  refine And.intro (fun u => ?_) ?_
  · have u := swk (k := 15) rw' (by decide) rfl u
    subst u
    refine Exists.intro _ (And.intro h.1.2.1 ?_)
    refine And.intro trivial (h.written (fun m1 j1 h1 FC1 => ?_))
    refine And.intro ((iZ_in ri).mpr (by omega)) ?_
    refine And.intro trivial ?_
    have hk1 := hk m1 ⟨sa, sb, j1, false, h1⟩ FC1
    have hr := (h1.scr.2.2.1 i.toNat hi).2.1
    rw [eci, hr]; exact hk1
  intro u
  rw [iZ_toInt rw'] at u
  have : qN tm D i.toNat w = -100 := by
    unfold qN
    rw [if_neg (by omega), if_neg (by omega), if_neg (by omega), if_neg (by omega), if_neg (by omega), if_neg (by omega), if_neg (by omega), if_neg (by omega), if_neg (by omega), if_neg (by omega), if_neg (by omega), if_neg (by omega), if_neg (by omega), if_neg (by omega), if_neg (by omega), if_neg (by omega)]
  rw [this] at hk0
  exact And.intro trivial hk0
/-- a part of a time -/
theorem c_partOf {t w : Int} {x y : Int32} (hx : x = iZ t) (hy : y = iZ w) (rt : 0 ≤ t ∧ t < 2147483648) (rw' : R32 w) (hk : K (some (vL (iL (qPt t w)))) m) : smC true 111 [vI x, vI y] m K := by
  subst hx; subst hy
  unfold qPt at hk
  have u1 := unN_rng rt.1
  have u2 := lnN_rng t
  refine smC_wp [some (vI (iZ t)), some (vI (iZ w))] cd_111 [] 40 OK_111 (by decide) rfl rfl (Nat.le_of_ble_eq_true rfl) ?_
  refine And.intro (fun z => ?_) (fun z => ?_)
  rotate_left
  · rw [L0, iZ_eq rw' (by decide)] at z
    rw [if_pos z] at hk
    refine And.intro trivial (c_upper rfl rt ?_)
    refine And.intro trivial ?_
    rw [iZ_iL (by constructor <;> omega)]; exact hk
  rw [L0, iZ_eq rw' (by decide)] at z
  rw [if_neg z] at hk
  refine And.intro (fun y => ?_) (fun y => ?_)
  · rw [L1, iZ_eq rw' (by decide)] at y
    rw [if_neg y] at hk
    exact And.intro trivial hk
  · rw [L1, iZ_eq rw' (by decide)] at y
    rw [if_pos y] at hk
    refine And.intro trivial (c_lower rfl rt ?_)
    refine And.intro trivial ?_
    rw [iZ_iL (by constructor <;> omega)]; exact hk
def qBg (D : Dt) (i w : Int) (k : Nat) : Int := if 0 ≤ i ∧ i < D.1 then qPt (D.2.1 i.toNat k) w else -2
theorem C_begin {w : Int} {x y : Int32} (hx : x = iZ i) (hy : y = iZ w) (ri : R32 i) (rw' : R32 w) (hS : SI tp td tm D) (h : CJ m tp td fl tm D a sa sb j st)
    (hk : K (some (vL (iL (qBg D i w 4)))) m) : smC true 110 [vR (some (0, 0)), vI x, vI y] m K := by
  subst hx; subst hy
  unfold qBg at hk
  refine smC_wp [some (vR (some (0, 0))), some (vI (iZ i)), some (vI (iZ w)), none] cd_110 [] 60 OK_110 (by decide) rfl rfl (Nat.le_of_ble_eq_true rfl) ?_
  refine Exists.intro _ (And.intro h.1.2.1 ?_)
  refine And.intro trivial (c_anyNote rfl ri hS.dok h.srep (fun q => ?_) (fun q => ?_))
  rotate_left
  · rw [if_neg q] at hk
    exact And.intro trivial hk
  rw [if_pos q] at hk
  have hi : i.toNat < D.1 := by omega
  have hf := hS.dok.2.1 _ hi
  have hR := h.note hi
  have r4 := hf.2.1
  refine And.intro trivial (c_partOf hR.1.2.1 rfl (by omega) rw' ?_)
  exact And.intro trivial hk
theorem C_length {w : Int} {x y : Int32} (hx : x = iZ i) (hy : y = iZ w) (ri : R32 i) (rw' : R32 w) (hS : SI tp td tm D) (h : CJ m tp td fl tm D a sa sb j st)
    (hk : K (some (vL (iL (qBg D i w 5)))) m) : smC true 112 [vR (some (0, 0)), vI x, vI y] m K := by
  subst hx; subst hy
  unfold qBg at hk
  refine smC_wp [some (vR (some (0, 0))), some (vI (iZ i)), some (vI (iZ w)), none] cd_112 [] 60 OK_112 (by decide) rfl rfl (Nat.le_of_ble_eq_true rfl) ?_
  refine Exists.intro _ (And.intro h.1.2.1 ?_)
  refine And.intro trivial (c_anyNote rfl ri hS.dok h.srep (fun q => ?_) (fun q => ?_))
  rotate_left
  · rw [if_neg q] at hk
    exact And.intro trivial hk
  rw [if_pos q] at hk
  have hi : i.toNat < D.1 := by omega
  have hf := hS.dok.2.1 _ hi
  have hR := h.note hi
  have r5 := hf.2.2.1
  refine And.intro trivial (c_partOf hR.1.2.2.1 rfl (by omega) rw' ?_)
  exact And.intro trivial hk
theorem preS_a {i : Nat} {P : Int → Int × Int} {g : Nat → Int × Int} {T L ah pf : Int} {qa : Bool} {s : WS} (hT : 8 ≤ T ∧ T ≤ 2000) (hp : 0 ≤ pf ∧ pf ≤ 6) : 0 ≤ (preS i P g T L ah qa pf s).2.2.2 ∧ (preS i P g T L ah qa pf s).2.2.2 ≤ 8000 := by
  unfold preS
  split
  · exact ⟨Int.le_refl _, by show (0 : Int) ≤ 8000; decide⟩
  split
  · split <;> exact ⟨Int.le_refl _, by show (0 : Int) ≤ 8000; decide⟩
  split
  · split
    · exact ⟨Int.le_refl _, by show (0 : Int) ≤ 8000; decide⟩
    · split <;> exact ⟨Int.le_refl _, by show (0 : Int) ≤ 8000; decide⟩
  split
  · show 0 ≤ pf * T ∧ pf * T ≤ 8000
    have hc : pf = 1 ∨ pf = 2 ∨ pf = 3 ∨ pf = 4 := by omega
    rcases hc with rfl | rfl | rfl | rfl <;> omega
  · exact ⟨Int.le_refl _, by show (0 : Int) ≤ 8000; decide⟩
theorem wq_oa {k : Nat} {pc : Int} (ht : tmOK tm) (hp : 0 ≤ pc ∧ pc ≤ 400) (hf : NOK (D.2.1 k)) : (0 ≤ (wq tm pc D k).2.2.1 ∧ (wq tm pc D k).2.2.1 ≤ 1000000) ∧ 0 ≤ (wq tm pc D k).2.2.2 ∧ (wq tm pc D k).2.2.2 ≤ 8000 := by
  have hT := wT_rng ht hf hp
  unfold wq wN
  split
  · have h1 := preS_ok (i := k) (P := Pk (tm 3) (D.2.1 k)) (g := nGr (D.2.1 k)) (ah := tm 2) (qa := decide (qk (tm 0) (D.2.1 k 9) pc (apL (D.2.1 k 5)))) (s := wr tm pc D k) hT hf.2.2.1 hf.2.2.2.2.2.2.2.2.1
    have h2 := preS_a (i := k) (P := Pk (tm 3) (D.2.1 k)) (g := nGr (D.2.1 k)) (L := D.2.1 k 5) (ah := tm 2) (qa := decide (qk (tm 0) (D.2.1 k 9) pc (apL (D.2.1 k 5)))) (s := wr tm pc D k) hT hf.2.2.2.2.2.2.2.2.1
    have h5 := hf.2.2.1
    refine ⟨⟨h1.2.2.1, ?_⟩, h2⟩
    show (preS k (Pk (tm 3) (D.2.1 k)) (nGr (D.2.1 k)) (wT tm pc (D.2.1 k)) (D.2.1 k 5) (tm 2) (decide (qk (tm 0) (D.2.1 k 9) pc (apL (D.2.1 k 5)))) (D.2.1 k 11) (wr tm pc D k)).2.2.1 ≤ 1000000
    have := h1.2.2.2
    omega
  · exact ⟨⟨Int.le_refl _, by show (0 : Int) ≤ 1000000; decide⟩, Int.le_refl _, by show (0 : Int) ≤ 8000; decide⟩
/-- time borrowed: from itself, ahead, by the next -/
def qBo (tm : Nat → Int) (D : Dt) (i fr : Int) : Int := if fr = 0 then (wq tm (tm 5) D i.toNat).2.2.1 else if fr = 1 then (wq tm (tm 5) D i.toNat).2.2.2 else if i + 1 < D.1 then (wq tm (tm 5) D (i.toNat + 1)).2.2.2 else 0
def qBr (tm : Nat → Int) (D : Dt) (i fr w : Int) : Int := if (0 ≤ i ∧ i < D.1) ∧ 0 ≤ fr ∧ fr ≤ 2 then qPt (qBo tm D i fr) w else -2
theorem SI.t5 (h : SI tp td tm D) : 0 ≤ tm 5 ∧ tm 5 ≤ 400 := by have := h.2.2.1.2.2.2.2.2.1; omega
theorem qBo_rng {fr : Int} (hS : SI tp td tm D) (hi : 0 ≤ i ∧ i < D.1) : 0 ≤ qBo tm D i fr ∧ qBo tm D i fr ≤ 1000000 := by
  have e1 := wq_oa (k := i.toNat) hS.2.2.1 hS.t5 (hS.dok.2.1 _ (by omega))
  unfold qBo
  split
  · exact e1.1
  split
  · omega
  split
  · have := wq_oa (k := i.toNat + 1) hS.2.2.1 hS.t5 (hS.dok.2.1 _ (by omega))
    omega
  · omega
theorem C_borrowed {fr w : Int} {x y z : Int32} (hx : x = iZ i) (hy : y = iZ fr) (hz : z = iZ w) (ri : R32 i) (rf : R32 fr) (rw' : R32 w) (hS : SI tp td tm D) (h : CJ m tp td fl tm D a sa sb j st)
    (hk : ∀ m', CI m' tp td fl tm D a → FC m m' → K (some (vL (iL (qBr tm D i fr w)))) m') : smC true 113 [vR (some (0, 0)), vI x, vI y, vI z] m K := by
  subst hx; subst hy; subst hz
  have h48 := hS.dok.1
  unfold qBr at hk
  refine smC_wp [some (vR (some (0, 0))), some (vI (iZ i)), some (vI (iZ fr)), some (vI (iZ w)), none, none] cd_113 [20] 60 OK_113 (by decide) rfl rfl (Nat.le_of_ble_eq_true rfl) ?_
  refine Exists.intro _ (And.intro h.1.2.1 ?_)
  have bad : ¬ ((0 ≤ i ∧ i < D.1) ∧ 0 ≤ fr ∧ fr ≤ 2) → smE true 113 20 [some (vR (some (0, 0))), some (vI (iZ i)), some (vI (iZ fr)), some (vI (iZ w)), none, none] [] m K := by
    intro z
    rw [if_neg z] at hk
    refine wp_ok (by decide) OK_113 (cc := cd_113) rfl (stops := []) 20 _ _ _ _ ?_
    exact And.intro trivial (hk m ⟨sa, sb, j, st, h⟩ (FC.rf _))
  refine And.intro trivial (c_anyNote rfl ri hS.dok h.srep (fun q => ?_) (fun q => ?_))
  rotate_left
  · exact And.intro trivial (bad (fun z => q z.1))
  refine And.intro (fun z => ?_) (fun z => ?_)
  · rw [L0, iZ_lt rf (by decide)] at z
    exact And.intro trivial (bad (by omega))
  rw [L0, iZ_lt rf (by decide)] at z
  refine And.intro (fun y => ?_) (fun y => ?_)
  rotate_left
  · rw [L2, iZ_le rf (by decide)] at y
    exact And.intro trivial (bad (by omega))
  rw [L2, iZ_le rf (by decide)] at y
  have hr : (0 ≤ i ∧ i < D.1) ∧ 0 ≤ fr ∧ fr ≤ 2 := by omega
  rw [if_pos hr] at hk
  have hi : i.toNat < D.1 := by omega
  have rb := qBo_rng (fr := fr) hS q
  refine Exists.intro _ (And.intro h.1.2.1 ?_)
  refine And.intro trivial (h.written (fun m1 j1 h1 FC1 => ?_))
  have hk1 := hk m1 ⟨sa, sb, j1, false, h1⟩ FC1
  have hres := h1.scr.2.2.1
  have eci : (iZ i).toNatClampNeg = i.toNat := iZ_clamp ri
  unfold qBo at rb hk1
  refine And.intro (fun u => ?_) (fun u => ?_)
  rotate_left
  · rw [L0, iZ_eq rf (by decide)] at u
    rw [if_pos u] at rb hk1
    refine And.intro ((iZ_in ri).mpr (by omega)) ?_
    refine And.intro trivial (c_partOf (by rw [eci]; exact (hres _ hi).2.2.2.1) rfl (by omega) rw' ?_)
    exact And.intro trivial hk1
  rw [L0, iZ_eq rf (by decide)] at u
  rw [if_neg u] at rb hk1
  refine And.intro (fun v => ?_) (fun v => ?_)
  rotate_left
  · rw [L1, iZ_eq rf (by decide)] at v
    rw [if_pos v] at rb hk1
    refine Exists.intro _ (And.intro h1.1.2.1 ?_)
    refine And.intro (fun o => ?_) (fun o => ?_)
    · rw [h1.srep.1.1, iZ_le (by constructor <;> omega) ri] at o; omega
    refine And.intro ((iZ_in ri).mpr (by omega)) ?_
    refine And.intro trivial (c_partOf (by rw [eci]; exact (hres _ hi).2.2.2.2) rfl (by omega) rw' ?_)
    exact And.intro trivial hk1
  rw [L1, iZ_eq rf (by decide)] at v
  rw [if_neg v] at rb hk1
  have e1 : iZ i + 1 = iZ (i + 1) := by rw [L1, iZ_add]
  refine Exists.intro _ (And.intro h1.1.2.1 ?_)
  refine And.intro (fun o => ?_) (fun o => ?_)
  · rw [h1.srep.1.1, e1, iZ_le (by constructor <;> omega) (by constructor <;> omega)] at o
    rw [if_neg (by omega)] at rb hk1
    refine And.intro trivial (c_partOf (t := 0) rfl rfl (by omega) rw' ?_)
    exact And.intro trivial hk1
  · rw [h1.srep.1.1, e1, iZ_le (by constructor <;> omega) (by constructor <;> omega)] at o
    rw [if_pos (by omega)] at rb hk1
    refine And.intro (by rw [e1]; exact (iZ_in (by constructor <;> omega)).mpr (by omega)) ?_
    refine And.intro trivial (c_partOf (by rw [e1, iZ_clamp (by constructor <;> omega), show (i + 1).toNat = i.toNat + 1 by omega]; exact (hres _ (by omega)).2.2.2.2) rfl (by omega) rw' ?_)
    exact And.intro trivial hk1
def qTn (tm : Nat → Int) (D : Dt) (i w : Int) : Int := if 0 ≤ i ∧ i < D.1 then qPt (wT tm (tm 5) (D.2.1 i.toNat)) w else -2
theorem C_tone {w : Int} {x y : Int32} (hx : x = iZ i) (hy : y = iZ w) (ri : R32 i) (rw' : R32 w) (hS : SI tp td tm D) (h : CJ m tp td fl tm D a sa sb j st)
    (hk : K (some (vL (iL (qTn tm D i w)))) m) : smC true 114 [vR (some (0, 0)), vI x, vI y] m K := by
  subst hx; subst hy
  unfold qTn at hk
  refine smC_wp [some (vR (some (0, 0))), some (vI (iZ i)), some (vI (iZ w)), none] cd_114 [] 60 OK_114 (by decide) rfl rfl (Nat.le_of_ble_eq_true rfl) ?_
  refine Exists.intro _ (And.intro h.1.2.1 ?_)
  refine And.intro trivial (c_anyNote rfl ri hS.dok h.srep (fun q => ?_) (fun q => ?_))
  rotate_left
  · rw [if_neg q] at hk
    exact And.intro trivial hk
  rw [if_pos q] at hk
  have hi : i.toNat < D.1 := by omega
  have hf := hS.dok.2.1 _ hi
  have hR := h.note hi
  have ht := hS.2.2.1
  have r9 := hf.2.2.2.2.2.2.1
  have rT := wT_rng ht hf hS.t5
  refine And.intro (by rw [L5, iZ_in (by decide)]; decide) ?_
  refine And.intro trivial (c_toneAt (lim := tm 0) (tone := tm 1) (sp := D.2.1 i.toNat 9) (pc := tm 5) hR.1.2.2.2.2.2.1 (h.tms 5 (by decide)) (h.tms 0 (by decide)) (h.tms 1 (by decide)) ht.2.1 (by have := ht.1; omega) (by omega) hS.t5 ?_)
  refine And.intro trivial (c_partOf (t := wT tm (tm 5) (D.2.1 i.toNat)) rfl rfl (by omega) rw' ?_)
  exact And.intro trivial hk
def qMs (tm : Nat → Int) (D : Dt) (i : Int) : Int := if 0 ≤ i ∧ i < D.1 then D.2.1 i.toNat 5 * 24000000 / (512 * D.2.1 i.toNat 9 * tm 5) else -2
theorem C_ms {x : Int32} (hx : x = iZ i) (ri : R32 i) (hS : SI tp td tm D) (h : CJ m tp td fl tm D a sa sb j st)
    (hk : K (some (vI (iZ (qMs tm D i)))) m) : smC true 115 [vR (some (0, 0)), vI x] m K := by
  subst hx
  unfold qMs at hk
  refine smC_wp [some (vR (some (0, 0))), some (vI (iZ i)), none, none, none] cd_115 [] 60 OK_115 (by decide) rfl rfl (Nat.le_of_ble_eq_true rfl) ?_
  refine Exists.intro _ (And.intro h.1.2.1 ?_)
  refine And.intro trivial (c_anyNote rfl ri hS.dok h.srep (fun q => ?_) (fun q => ?_))
  rotate_left
  · rw [if_neg q] at hk
    exact And.intro trivial hk
  rw [if_pos q] at hk
  have hi : i.toNat < D.1 := by omega
  have hf := hS.dok.2.1 _ hi
  have hR := h.note hi
  have ht := hS.2.2.1
  have r9 := hf.2.2.2.2.2.2.1
  have r5 := hf.2.2.1
  have t5 := ht.2.2.2.2.2.1
  have p1 := mulB (show (0 : Int) ≤ 512 ∧ (512 : Int) ≤ 512 by decide) (show 0 ≤ D.2.1 i.toNat 9 ∧ D.2.1 i.toNat 9 ≤ 400 by omega)
  have p2 := mulB p1 (show 0 ≤ tm 5 ∧ tm 5 ≤ 400 by omega)
  have p3 := mulB (show 0 ≤ D.2.1 i.toNat 5 ∧ D.2.1 i.toNat 5 ≤ 1000000 by omega) (show (0 : Int) ≤ 24000000 ∧ (24000000 : Int) ≤ 24000000 by decide)
  have l1 : 512 * 20 ≤ 512 * D.2.1 i.toNat 9 := by omega
  have l2 : 512 * 20 * 25 ≤ 512 * D.2.1 i.toNat 9 * tm 5 := Int.mul_le_mul l1 t5.1 (by decide) (by omega)
  have e5 : gI m 5 5 (5 : Int32).toNatClampNeg = iZ (tm 5) := h.tms 5 (by decide)
  have q9 := iZ_iL (z := D.2.1 i.toNat 9) (by constructor <;> omega)
  have q5 := iZ_iL (z := D.2.1 i.toNat 5) (by constructor <;> omega)
  have qt := iZ_iL (z := tm 5) (by constructor <;> omega)
  refine And.intro (by rw [L5, iZ_in (by decide)]; decide) ?_
  refine And.intro (fun z => ?_) (fun z => ?_)
  · refine And.intro (fun y => ?_) ?_
    · rw [hR.1.2.2.2.2.2.1, e5, q9, qt, show (512 : Int64) = iL 512 from rfl, show (0 : Int64) = iL 0 from rfl, iL_mul, iL_mul, iL_eq (by constructor <;> omega) (by decide)] at y
      omega
    refine And.intro trivial ?_
    rw [hR.1.2.2.2.2.2.1, hR.1.2.2.1, e5, q9, q5, qt, show (512 : Int64) = iL 512 from rfl, show (24000000 : Int64) = iL 24000000 from rfl, iL_mul, iL_mul, iL_mul, iL_div (by constructor <;> omega) (by constructor <;> omega) (by omega) (by omega)]
    have d0 : 0 ≤ D.2.1 i.toNat 5 * 24000000 / (512 * D.2.1 i.toNat 9 * tm 5) := Int.ediv_nonneg (by omega) (by omega)
    have d1 : D.2.1 i.toNat 5 * 24000000 / (512 * D.2.1 i.toNat 9 * tm 5) ≤ 100000000 := Int.ediv_le_of_le_mul (by omega) (by omega)
    rw [iL_iZ (by constructor <;> omega)]
    exact hk
  · rw [lg_gt, hR.1.2.2.2.2.2.1, e5, q9, qt, show (512 : Int64) = iL 512 from rfl, show (0 : Int64) = iL 0 from rfl, iL_mul, iL_mul, iL_lt (by decide) (by constructor <;> omega)] at z
    omega
end OPS4
