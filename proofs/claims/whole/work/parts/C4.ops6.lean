/-! sounds, when, inKey: the class -/
/-- the bar of a time: the last that begins by then -/
def barN (D : Dt) (t : Int) : Nat → Nat
  | 0 => 0
  | k + 1 => if D.2.2.2.1 (k + 1) ≤ t then k + 1 else barN D t k
def barD (D : Dt) (t : Int) : Int := (barN D t (D.2.2.1 - 1) : Int)
def qS (D : Dt) (t : Tn) (w : Int) : Int :=
  if w = 0 then t.2.1 else if w = 1 then t.1 else if w = 2 then t.2.2.2.1 else if w = 3 then t.2.2.1 % 7 else if w = 4 then t.2.2.1 / 7 else if w = 5 then t.2.1 - natN t.2.2.1 else if w = 6 then barD D t.2.2.2.2.1 else -100
def qSo (tm : Nat → Int) (D : Dt) (k w : Int) : Int := if 0 ≤ k ∧ k < ((wr tm (tm 5) D D.1).1.length : Int) then qS D (tAt (wr tm (tm 5) D D.1).1 k.toNat) w else -100
def qWh (tm : Nat → Int) (D : Dt) (k c w : Int) : Int := if (0 ≤ k ∧ k < ((wr tm (tm 5) D D.1).1.length : Int)) ∧ 0 ≤ c ∧ c ≤ 1 then qPt (if c = 0 then (tAt (wr tm (tm 5) D D.1).1 k.toNat).2.2.2.2.1 else (tAt (wr tm (tm 5) D D.1).1 k.toNat).2.2.2.2.2) w else -2
def qIK (tm : Nat → Int) (D : Dt) (i up key : Int) : Int := if isN D i then (if (0 ≤ up ∧ up ≤ 1) ∧ (-7 ≤ key ∧ key ≤ 7) then (if up = 1 then upN (D.2.1 i.toNat 3) (nStep (D.2.1 i.toNat)) (D.2.1 i.toNat 13) (D.2.1 i.toNat 15) key (tm 3) else dnN (D.2.1 i.toNat 3) (nStep (D.2.1 i.toNat)) (D.2.1 i.toNat 14) (D.2.1 i.toNat 16) key (tm 3)) else -3) else -2
theorem brk {tp : Nat → Int} {td : Nat} {tm : Nat → Int} {D : Dt} (h : SI tp td tm D) : (∀ k l, k < l → l < D.2.2.1 → D.2.2.2.1 k < D.2.2.2.1 l) ∧ (∀ k, k < D.2.2.1 → 0 ≤ D.2.2.2.1 k ∧ D.2.2.2.1 k ≤ D.2.2.2.2) ∧ (0 < D.2.2.1 → D.2.2.2.1 0 = 0) ∧ (D.2.2.1 = 0 → D.1 = 0) := by
  obtain ⟨be, s1, s2, s3, s4, s5, s6, ⟨b1, b2, b3, b4⟩, s8⟩ := h.2.2.2
  refine ⟨fun k l hkl => ?_, b3, b1, b4⟩
  induction l with
  | zero => omega
  | succ l ih =>
    intro hl
    by_cases e : k = l
    · subst e; exact b2 k hl
    · have := ih (by omega) (by omega)
      have := b2 l hl
      omega
section OPS6
variable {m m' : Mem} {K : Option SV → Mem → Prop} {tp : Nat → Int} {td : Nat} {fl : Int × Int} {tm : Nat → Int} {D : Dt} {a sa sb j : Nat} {st : Bool} {f f' : NF} {i : Int}
theorem CJ.rows (h : CJ m tp td fl tm D a sa sb j false) : ∃ a1 a2 a3 a4 r, (gP m 6 6 2 = some (20, a1) ∧ gP m 6 6 3 = some (20, a2) ∧ gP m 6 6 4 = some (20, a3) ∧ gP m 6 6 5 = some (20, a4)) ∧ (gL m 20 a1 = r ∧ gL m 20 a2 = r ∧ gL m 20 a3 = r ∧ gL m 20 a4 = r) ∧ ((wr tm (tm 5) D D.1).1.length ≤ r ∧ r ≤ 3504) ∧ RV m a1 a2 a3 a4 (wr tm (tm 5) D D.1).1 ∧ gI m 6 6 1 = iZ (wr tm (tm 5) D D.1).1.length ∧ WOK (wr tm (tm 5) D D.1) := by
  obtain ⟨⟨cap, ⟨⟨r0, r1, r6, rr, rl, rc⟩, r7, r8⟩⟩, hW, hres, hl, ha⟩ := h.scr
  obtain ⟨a1, a2, a3, a4, r, ⟨hp, hg, ne, h3⟩, hc, hv⟩ := rr rfl
  exact ⟨a1, a2, a3, a4, r, hp, hg, ⟨by omega, h3⟩, hv, r1, hW⟩
theorem c_hasTone {k : Int} {x : Int32} {n a1 r : Nat} (hx : x = iZ k) (rk : R32 k) (h1 : gI m 6 6 1 = iZ n) (hp : gP m 6 6 2 = some (20, a1)) (hg : gL m 20 a1 = r) (hn : n ≤ r ∧ r ≤ 3504) (k1 : 0 ≤ k ∧ k < n → K (some (vI 1)) m) (k0 : ¬ (0 ≤ k ∧ k < n) → K (some (vI 0)) m) : smC true 47 [vR (some (6, 6)), vI x] m K := by
  subst hx
  refine smC_wp [some (vR (some (6, 6))), some (vI (iZ k))] cd_47 [] 30 OK_47 (by decide) rfl rfl (Nat.le_of_ble_eq_true rfl) ?_
  refine And.intro (fun z => ?_) (fun z => ?_)
  · rw [L0, iZ_lt rk (by decide)] at z
    exact And.intro (Or.inl rfl) (k0 (by omega))
  rw [L0, iZ_lt rk (by decide)] at z
  refine And.intro (fun y => ?_) (fun y => ?_)
  · rw [h1, iZ_le (by constructor <;> omega) rk] at y
    exact And.intro (Or.inl rfl) (k0 (by omega))
  rw [h1, iZ_le (by constructor <;> omega) rk] at y
  refine Exists.intro _ (And.intro hp ?_)
  refine And.intro (fun u => ?_) (fun u => ?_)
  · rw [hg, iZ_nI, iZ_le (by constructor <;> omega) rk] at u
    omega
  · exact And.intro (Or.inr rfl) (k1 (by omega))
theorem c_barAt {t : Int} {x : Int32} (hx : x = iZ t) (rt : 0 ≤ t ∧ t ≤ 1000000) (hS : SI tp td tm D) (hR : SRep m sa D) (hb : 0 < D.2.2.1) (hk : K (some (vI (iZ (barD D t)))) m) : smC true 56 [vR (some (10, sa)), vI x] m K := by
  subst hx
  obtain ⟨b1, b2, b3, b4⟩ := brk hS
  have en := hS.en
  -- the last by then, found from the front
  have key : ∀ n k, k ≤ n → n < D.2.2.1 → D.2.2.2.1 k ≤ t → (∀ l, k < l → l ≤ n → ¬ D.2.2.2.1 l ≤ t) → barN D t n = k := by
    intro n
    induction n with
    | zero => intro k h1 h2 h3 h4; unfold barN; omega
    | succ n ih =>
      intro k h1 h2 h3 h4
      unfold barN
      by_cases e : D.2.2.2.1 (n + 1) ≤ t
      · rw [if_pos e]
        by_cases e2 : k = n + 1
        · omega
        · exact absurd e (h4 (n + 1) (by omega) (Nat.le_refl _))
      · rw [if_neg e]
        have : k ≠ n + 1 := fun z => e (z ▸ h3)
        exact ih k (by omega) (by omega) h3 (fun l u v => h4 l u (by omega))
  have fin : ∀ k, k < D.2.2.1 → D.2.2.2.1 k ≤ t → (k + 1 < D.2.2.1 → ¬ D.2.2.2.1 (k + 1) ≤ t) → barD D t = k := by
    intro k h1 h2 h3
    unfold barD
    rw [key (D.2.2.1 - 1) k (by omega) (by omega) h2 (fun l u v w => ?_)]
    by_cases e : l = k + 1
    · exact h3 (by omega) (e ▸ w)
    · exact h3 (by omega) (by have := b1 (k + 1) l (by omega) (by omega); omega)
  have loop : ∀ s k, k + 1 + s = D.2.2.1 → D.2.2.2.1 k ≤ t → smE true 56 4 [some (vR (some (10, sa))), some (vI (iZ t)), some (vI (iZ (k : Nat))), some (vI (iZ ((k + 1 : Nat) : Int)))] [] m K := by
    intro s
    induction s with
    | zero =>
      intro k e hkt
      refine wp1_ok (by decide) OK_56 (cc := cd_56) rfl (stops := [4]) (f := 30) ?_
      refine And.intro (fun _ => ?_) (fun z => ?_)
      · refine And.intro trivial ?_
        rw [fin k (by omega) hkt (fun u => by omega)] at hk
        exact hk
      · rw [hR.1.2.1, iZ_le (by constructor <;> omega) (by constructor <;> omega)] at z; omega
    | succ s ih =>
      intro k e hkt
      have ec : (iZ ((k + 1 : Nat) : Int)).toNatClampNeg = k + 1 := by rw [iZ_clamp (by constructor <;> omega)]; omega
      have eb := hR.2.2 (k + 1) (by omega)
      have rb := b2 (k + 1) (by omega)
      refine wp1_ok (by decide) OK_56 (cc := cd_56) rfl (stops := [4]) (f := 30) ?_
      refine And.intro (fun z => ?_) (fun z => ?_)
      · rw [hR.1.2.1, iZ_le (by constructor <;> omega) (by constructor <;> omega)] at z; omega
      refine And.intro ((iZ_in (by constructor <;> omega)).mpr (by omega)) ?_
      refine And.intro (fun y => ?_) (fun y => ?_)
      · rw [ec, eb, iZ_lt (by constructor <;> omega) (by constructor <;> omega)] at y
        refine And.intro trivial ?_
        rw [fin k (by omega) hkt (fun _ => by omega)] at hk
        exact hk
      · rw [ec, eb, iZ_lt (by constructor <;> omega) (by constructor <;> omega)] at y
        refine And.intro trivial ?_
        rw [L1, iZ_add]
        exact ih (k + 1) (by omega) (by omega)
  refine smC_wp [some (vR (some (10, sa))), some (vI (iZ t)), none, none] cd_56 [4] 30 OK_56 (by decide) rfl rfl (Nat.le_of_ble_eq_true rfl) ?_
  refine And.intro trivial ?_
  exact loop (D.2.2.1 - 1) 0 (by omega) (by rw [b3 hb]; exact rt.1)
theorem bars_pos {k : Nat} {pc : Int} (hS : SI tp td tm D) (hk : k < (wr tm pc D D.1).1.length) : 0 < D.2.2.1 := by
  have b4 := (brk hS).2.2.2
  by_cases e : D.2.2.1 = 0
  · have := b4 e
    rw [this] at hk
    exact absurd hk (by show ¬ k < 0; omega)
  · omega
theorem C_sounds {k w : Int} {x y : Int32} (hx : x = iZ k) (hy : y = iZ w) (rk : R32 k) (rw' : R32 w) (hS : SI tp td tm D) (h : CJ m tp td fl tm D a sa sb j st)
    (hk : ∀ m', CI m' tp td fl tm D a → FC m m' → K (some (vI (iZ (qSo tm D k w)))) m') : smC true 116 [vR (some (0, 0)), vI x, vI y] m K := by
  subst hx; subst hy
  unfold qSo at hk
  refine smC_wp [some (vR (some (0, 0))), some (vI (iZ k)), some (vI (iZ w)), none, none] cd_116 [] 60 OK_116 (by decide) rfl rfl (Nat.le_of_ble_eq_true rfl) ?_
  refine Exists.intro _ (And.intro h.1.2.1 ?_)
  refine And.intro trivial (h.written (fun m1 j1 h1 FC1 => ?_))
  have hk := hk m1 ⟨sa, sb, j1, false, h1⟩ FC1
  obtain ⟨a1, a2, a3, a4, r, ⟨p1, p2, p3, p4⟩, ⟨l1, l2, l3, l4⟩, hn, hv, e1, hW⟩ := h1.rows
  refine And.intro trivial (c_hasTone rfl rk e1 p1 l1 hn (fun q => ?_) (fun q => ?_))
  rotate_left
  · rw [if_neg q] at hk
    refine And.intro (fun z => absurd rfl z) (fun _ => ?_)
    exact And.intro trivial hk
  rw [if_pos q] at hk
  have hkn : k.toNat < (wr tm (tm 5) D D.1).1.length := by omega
  obtain ⟨⟨t1, t2, t3⟩, t4, t5, t6⟩ := tone_ok hS hS.t5 hkn
  have tp' := hW.2 _ (tAt_mem hkn)
  obtain ⟨v1, v2, v3, v4⟩ := hv.at hkn
  have hbp := bars_pos hS hkn
  have en := hS.en
  have h48 := hS.dok.1
  have ec : (iZ k).toNatClampNeg = k.toNat := iZ_clamp rk
  have hin : ∀ {r' : Nat}, r' = r → vp_in (iZ k) r' := fun e => (iZ_in rk).mpr (by omega)
  generalize tAt (wr tm (tm 5) D D.1).1 k.toNat = t at *
  obtain ⟨pn, ps⟩ := tp'.1
  have s1 : -8 ≤ t.2.2.1 ∧ t.2.2.1 < 120 := by have := ps.1; have := ps.2; omega
  have s2 : -2 ≤ t.2.2.1 ∧ t.2.2.1 < 68 := ps
  have s3 : 0 ≤ t.2.1 ∧ t.2.1 < 1000 := by have := pn.1; have := pn.2; omega
  refine And.intro (fun _ => ?_) (fun z => absurd z (by decide))
  refine Exists.intro _ (And.intro p1 ?_)
  refine And.intro (hin l1) ?_
  refine And.intro trivial (c_step (by rw [ec]; exact v1) s1 s3 ?_)
  refine And.intro (fun u => ?_) ?_
  · have u := swk (k := 0) rw' (by decide) rfl u
    subst u
    refine Exists.intro _ (And.intro p1 ?_)
    refine And.intro (hin l1) ?_
    refine And.intro trivial (c_num (by rw [ec]; exact v1) s1 s3 ?_)
    exact And.intro trivial hk
  refine And.intro (fun u => ?_) ?_
  · have u := swk (k := 1) rw' (by decide) rfl u
    subst u
    refine Exists.intro _ (And.intro p2 ?_)
    refine And.intro (hin l2) ?_
    refine And.intro (by decide) ?_
    refine And.intro trivial ?_
    rw [ec, v2, L8, iZ_rem (by constructor <;> omega) (by decide) (by omega) (by decide), show (8 * t.2.2.2.1 + t.1) % 8 = t.1 by omega]
    exact hk
  refine And.intro (fun u => ?_) ?_
  · have u := swk (k := 2) rw' (by decide) rfl u
    subst u
    refine Exists.intro _ (And.intro p2 ?_)
    refine And.intro (hin l2) ?_
    refine And.intro (by decide) ?_
    refine And.intro trivial ?_
    rw [ec, v2, L8, iZ_div (by constructor <;> omega) (by decide) (by omega) (by decide), show (8 * t.2.2.2.1 + t.1) / 8 = t.2.2.2.1 by omega]
    exact hk
  refine And.intro (fun u => ?_) ?_
  · have u := swk (k := 3) rw' (by decide) rfl u
    subst u
    refine And.intro trivial (c_letterOf s2 ?_)
    exact And.intro trivial hk
  refine And.intro (fun u => ?_) ?_
  · have u := swk (k := 4) rw' (by decide) rfl u
    subst u
    refine And.intro trivial (c_octaveOf s2 ?_)
    exact And.intro trivial hk
  refine And.intro (fun u => ?_) ?_
  · have u := swk (k := 5) rw' (by decide) rfl u
    subst u
    refine Exists.intro _ (And.intro p1 ?_)
    refine And.intro (hin l1) ?_
    refine And.intro trivial (c_num (by rw [ec]; exact v1) s1 s3 ?_)
    refine And.intro trivial (c_natural s2 ?_)
    refine And.intro trivial ?_
    rw [iZ_sub]
    exact hk
  refine And.intro (fun u => ?_) ?_
  · have u := swk (k := 6) rw' (by decide) rfl u
    subst u
    refine Exists.intro _ (And.intro h1.1.2.1 ?_)
    refine Exists.intro _ (And.intro p3 ?_)
    refine And.intro (hin l3) ?_
    refine And.intro trivial (c_barAt (by rw [ec]; exact v3) (by omega) hS h1.srep hbp ?_)
    exact And.intro trivial hk
  intro u
  rw [iZ_toInt rw'] at u
  have : qS D t w = -100 := by
    unfold qS
    rw [if_neg (by omega), if_neg (by omega), if_neg (by omega), if_neg (by omega), if_neg (by omega), if_neg (by omega), if_neg (by omega)]
  rw [this] at hk
  exact And.intro trivial hk
theorem C_when {k c w : Int} {x y z : Int32} (hx : x = iZ k) (hy : y = iZ c) (hz : z = iZ w) (rk : R32 k) (rc : R32 c) (rw' : R32 w) (hS : SI tp td tm D) (h : CJ m tp td fl tm D a sa sb j st)
    (hk : ∀ m', CI m' tp td fl tm D a → FC m m' → K (some (vL (iL (qWh tm D k c w)))) m') : smC true 119 [vR (some (0, 0)), vI x, vI y, vI z] m K := by
  subst hx; subst hy; subst hz
  unfold qWh at hk
  refine smC_wp [some (vR (some (0, 0))), some (vI (iZ k)), some (vI (iZ c)), some (vI (iZ w)), none] cd_119 [13] 60 OK_119 (by decide) rfl rfl (Nat.le_of_ble_eq_true rfl) ?_
  refine Exists.intro _ (And.intro h.1.2.1 ?_)
  refine And.intro trivial (h.written (fun m1 j1 h1 FC1 => ?_))
  have hk := hk m1 ⟨sa, sb, j1, false, h1⟩ FC1
  obtain ⟨a1, a2, a3, a4, r, ⟨p1, p2, p3, p4⟩, ⟨l1, l2, l3, l4⟩, hn, hv, e1, hW⟩ := h1.rows
  refine And.intro trivial ?_
  have bad : ¬ ((0 ≤ k ∧ k < ((wr tm (tm 5) D D.1).1.length : Int)) ∧ 0 ≤ c ∧ c ≤ 1) → smE true 119 31 [some (vR (some (0, 0))), some (vI (iZ k)), some (vI (iZ c)), some (vI (iZ w)), some (vR (some (6, 6)))] [] m1 K := by
    intro z
    rw [if_neg z] at hk
    refine wp_ok (by decide) OK_119 (cc := cd_119) rfl (stops := []) 20 _ _ _ _ ?_
    exact And.intro trivial hk
  refine wp1_ok (by decide) OK_119 (cc := cd_119) rfl (stops := [31]) (f := 60) ?_
  refine And.intro trivial (c_hasTone rfl rk e1 p1 l1 hn (fun q => ?_) (fun q => ?_))
  rotate_left
  · refine And.intro (fun _ => ?_) (fun z => absurd rfl z)
    exact And.intro trivial (bad (fun z => q z.1))
  refine And.intro (fun z => absurd z (by decide)) (fun _ => ?_)
  refine And.intro (fun z => ?_) (fun z => ?_)
  · rw [L0, iZ_lt rc (by decide)] at z
    exact And.intro trivial (bad (fun y => by omega))
  rw [L0, iZ_lt rc (by decide)] at z
  refine And.intro (fun y => ?_) (fun y => ?_)
  rotate_left
  · rw [L1, iZ_le rc (by decide)] at y
    exact And.intro trivial (bad (fun u => by omega))
  rw [L1, iZ_le rc (by decide)] at y
  rw [if_pos ⟨q, by omega, by omega⟩] at hk
  have hkn : k.toNat < (wr tm (tm 5) D D.1).1.length := by omega
  obtain ⟨_, t4, t5, t6⟩ := tone_ok hS hS.t5 hkn
  obtain ⟨v1, v2, v3, v4⟩ := hv.at hkn
  have en := hS.en
  have ec : (iZ k).toNatClampNeg = k.toNat := iZ_clamp rk
  have hin : ∀ {r' : Nat}, r' = r → vp_in (iZ k) r' := fun e => (iZ_in rk).mpr (by omega)
  refine And.intro (fun u => ?_) (fun u => ?_)
  · rw [L0, iZ_eq rc (by decide)] at u
    rw [if_neg u] at hk
    refine Exists.intro _ (And.intro p4 ?_)
    refine And.intro (hin l4) ?_
    refine And.intro trivial (c_partOf (by rw [ec]; exact v4) rfl (by omega) rw' ?_)
    exact And.intro trivial hk
  · rw [L0, iZ_eq rc (by decide)] at u
    rw [if_pos u] at hk
    refine Exists.intro _ (And.intro p3 ?_)
    refine And.intro (hin l3) ?_
    refine And.intro trivial (c_partOf (by rw [ec]; exact v3) rfl (by omega) rw' ?_)
    exact And.intro trivial hk
theorem C_inKey {up key : Int} {x y z : Int32} (hx : x = iZ i) (hy : y = iZ up) (hz : z = iZ key) (ri : R32 i) (ru : R32 up) (rk : R32 key) (hS : SI tp td tm D) (h : CJ m tp td fl tm D a sa sb j st)
    (hk : K (some (vI (iZ (qIK tm D i up key)))) m) : smC true 123 [vR (some (0, 0)), vI x, vI y, vI z] m K := by
  subst hx; subst hy; subst hz
  unfold qIK at hk
  refine smC_wp [some (vR (some (0, 0))), some (vI (iZ i)), some (vI (iZ up)), some (vI (iZ key)), none, none] cd_123 [18] 60 OK_123 (by decide) rfl rfl (Nat.le_of_ble_eq_true rfl) ?_
  refine Exists.intro _ (And.intro h.1.2.1 ?_)
  refine And.intro trivial (c_playedNote rfl ri hS.dok h.srep (fun q1 q2 => ?_) (fun q => ?_))
  rotate_left
  · rw [if_neg q] at hk
    exact And.intro trivial hk
  have hN : isN D i := ⟨q1.1, q1.2, q2⟩
  rw [if_pos hN] at hk
  have hn := hS.nok hN
  have hR := h.note hn.2
  have hf := hn.1
  have hp := hf.pit q2
  obtain ⟨hg1, ⟨b10, b11, b13, b14, b15⟩, _⟩ := hf.2.2.2.2.2.2.2.2.2.2.2 q2
  obtain ⟨⟨r10, r11, r13, r14, r15⟩, _⟩ := hR.2 q2
  have t3 := hS.2.2.1.2.2.2.1
  have e0 : gI m 8 (sa + 1 + 2 + 2 * i.toNat) 0 = iZ (pit (D.2.1 i.toNat 3) (nStep (D.2.1 i.toNat))) := by rw [hR.1.1]; unfold nPit; rw [if_pos q2]
  refine And.intro trivial ?_
  have cant : ¬ ((0 ≤ up ∧ up ≤ 1) ∧ (-7 ≤ key ∧ key ≤ 7)) → smE true 123 39 [some (vR (some (0, 0))), some (vI (iZ i)), some (vI (iZ up)), some (vI (iZ key)), some (vR (some (8, sa + 1 + 2 + 2 * i.toNat))), none] [] m K := by
    intro z
    rw [if_neg z] at hk
    refine wp_ok (by decide) OK_123 (cc := cd_123) rfl (stops := []) 20 _ _ _ _ ?_
    exact And.intro trivial hk
  refine wp1_ok (by decide) OK_123 (cc := cd_123) rfl (stops := [39, 53]) (f := 60) ?_
  refine And.intro (fun z => ?_) (fun z => ?_)
  · rw [L0, iZ_lt ru (by decide)] at z
    exact And.intro trivial (cant (by omega))
  rw [L0, iZ_lt ru (by decide)] at z
  refine And.intro (fun y => ?_) (fun y => ?_)
  · rw [L1, iZ_lt (by decide) ru] at y
    exact And.intro trivial (cant (by omega))
  rw [L1, iZ_lt (by decide) ru] at y
  refine And.intro (fun u => ?_) (fun u => ?_)
  · rw [LM7, iZ_lt rk (by decide)] at u
    exact And.intro trivial (cant (by omega))
  rw [LM7, iZ_lt rk (by decide)] at u
  refine And.intro (fun v => ?_) (fun v => ?_)
  rotate_left
  · rw [L7, iZ_le rk (by decide)] at v
    exact And.intro trivial (cant (by omega))
  rw [L7, iZ_le rk (by decide)] at v
  have hr : (0 ≤ up ∧ up ≤ 1) ∧ (-7 ≤ key ∧ key ≤ 7) := by omega
  rw [if_pos hr] at hk
  refine And.intro (by rw [L3, iZ_in (by decide)]; decide) ?_
  refine And.intro trivial ?_
  have e3 : gI m 5 5 (3 : Int32).toNatClampNeg = iZ (tm 3) := h.tms 3 (by decide)
  rw [e3]
  refine wp1_ok (by decide) OK_123 (cc := cd_123) rfl (stops := []) (f := 60) ?_
  refine And.intro (fun o => ?_) (fun o => ?_)
  · rw [L1, iZ_eq ru (by decide)] at o
    rw [if_neg o] at hk
    refine And.intro trivial (c_lowerIn rfl rfl (by omega) hp.1 b11 b14 hr.2 (by constructor <;> omega) e0 r11 r14 ?_)
    have b1 : 8 ≤ byN (nStep (D.2.1 i.toNat) - 1) (toldN (D.2.1 i.toNat 14) (tm 3) (D.2.1 i.toNat 16)) key ∧ byN (nStep (D.2.1 i.toNat) - 1) (toldN (D.2.1 i.toNat 14) (tm 3) (D.2.1 i.toNat 16)) key ≤ 133 := byN_lo (by omega) (by unfold toldN; split <;> (try split) <;> omega)
    refine And.intro trivial (c_num rfl (by omega) (by unfold dnN; omega) ?_)
    exact And.intro trivial hk
  · rw [L1, iZ_eq ru (by decide)] at o
    rw [if_pos o] at hk
    refine And.intro trivial (c_upperIn rfl rfl (by omega) hp.1 b10 b13 hr.2 (by constructor <;> omega) e0 r10 r13 ?_)
    have b1 : 8 ≤ byN (nStep (D.2.1 i.toNat) + 1) (toldN (D.2.1 i.toNat 13) (tm 3) (D.2.1 i.toNat 15)) key ∧ byN (nStep (D.2.1 i.toNat) + 1) (toldN (D.2.1 i.toNat 13) (tm 3) (D.2.1 i.toNat 15)) key ≤ 133 := byN_lo (by omega) (by unfold toldN; split <;> (try split) <;> omega)
    refine And.intro trivial (c_num rfl (by omega) (by unfold upN; omega) ?_)
    exact And.intro trivial hk
end OPS6
