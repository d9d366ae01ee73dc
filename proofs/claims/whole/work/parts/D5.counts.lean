/-! quick, greediest, count: both -/
def qkC (tm : Nat → Int) (D : Dt) (ts : List Tn) : Nat → Int
  | 0 => 0
  | n + 1 => qkC tm D ts n + (if qk (tm 0) (D.2.1 (tAt ts n).2.2.2.1.toNat 9) (tm 5) (tAt ts n).2.2.2.2.2 then 1 else 0)
def qQu (tm : Nat → Int) (D : Dt) : Int := qkC tm D (wr tm (tm 5) D D.1).1 (wr tm (tm 5) D D.1).1.length
def grN (tm : Nat → Int) (D : Dt) : Nat → Int × Int
  | 0 => (-1, 0)
  | n + 1 => if (grN tm D n).2 < (wq tm (tm 5) D n).2.2.1 + (wq tm (tm 5) D n).2.2.2 then ((n : Int), (wq tm (tm 5) D n).2.2.1 + (wq tm (tm 5) D n).2.2.2) else grN tm D n
def qGr (tm : Nat → Int) (D : Dt) : Int := (grN tm D D.1).1
def plC (D : Dt) : Nat → Int
  | 0 => 0
  | n + 1 => plC D n + (if D.2.1 n 0 = 1 ∧ D.2.1 n 11 = 0 ∧ D.2.1 n 10 = 0 ∧ D.2.1 n 12 ≠ 2 then 1 else 0)
def qCt (tm : Nat → Int) (td : Nat) (D : Dt) (w : Int) : Int :=
  if w = 0 then (D.1 : Int) else if w = 1 then ((wr tm (tm 5) D D.1).1.length : Int) else if w = 2 then (D.2.2.1 : Int) else if w = 3 then (td : Int)
  else if w = 4 then wS 2 tm (tm 5) D D.1 else if w = 5 then wS 3 tm (tm 5) D D.1 else if w = 6 then plC D D.1
  else if w = 7 ∨ w = 8 then qPt D.2.2.2.2 (w - 7) else if 10 ≤ w ∧ w ≤ 16 then tm (w - 10).toNat else -1
theorem plC_rng {D : Dt} : ∀ n, 0 ≤ plC D n ∧ plC D n ≤ n
  | 0 => ⟨Int.le_refl _, Int.le_refl _⟩
  | n + 1 => by
    have := plC_rng (D := D) n
    unfold plC
    split <;> omega
theorem vcN_rng (x v : Int) : 0 ≤ vcN x v ∧ vcN x v ≤ 1 := by unfold vcN; split <;> omega
theorem wS_rng {x : Int} {tm : Nat → Int} {pc : Int} {D : Dt} : ∀ n, 0 ≤ wS x tm pc D n ∧ wS x tm pc D n ≤ 3 * n
  | 0 => ⟨Int.le_refl _, Int.le_refl _⟩
  | n + 1 => by
    have h := wS_rng (x := x) (tm := tm) (pc := pc) (D := D) n
    have a1 := vcN_rng x (wq tm pc D n).2.1.1
    have a2 := vcN_rng x (wq tm pc D n).2.1.2.1
    have a3 := vcN_rng x (wq tm pc D n).2.1.2.2
    unfold wS v3
    omega
theorem grN_rng {tp : Nat → Int} {td : Nat} {tm : Nat → Int} {D : Dt} (hS : SI tp td tm D) : ∀ n, n ≤ D.1 → (-1 ≤ (grN tm D n).1 ∧ (grN tm D n).1 ≤ n) ∧ 0 ≤ (grN tm D n).2 ∧ (grN tm D n).2 ≤ 1008000
  | 0, _ => by show ((-1 : Int) ≤ -1 ∧ (-1 : Int) ≤ 0) ∧ (0 : Int) ≤ 0 ∧ (0 : Int) ≤ 1008000; decide
  | n + 1, h => by
    have ih := grN_rng hS n (by omega)
    have hq := wq_oa (D := D) (k := n) hS.2.2.1 hS.t5 (hS.dok.2.1 n (by omega))
    unfold grN
    split
    · exact ⟨⟨by show (-1 : Int) ≤ (n : Int); omega, by show (n : Int) ≤ ((n + 1 : Nat) : Int); omega⟩, by show (0 : Int) ≤ (wq tm (tm 5) D n).2.2.1 + (wq tm (tm 5) D n).2.2.2; omega, by show (wq tm (tm 5) D n).2.2.1 + (wq tm (tm 5) D n).2.2.2 ≤ (1008000 : Int); omega⟩
    · omega
theorem tms_rng {tm : Nat → Int} (h : tmOK tm) : ∀ k : Nat, k < 7 → 0 ≤ tm k ∧ tm k ≤ 1000 := by
  intro k hk
  obtain ⟨h0, h1, h2, h3, h4, h5, h6⟩ := h
  have hc : k = 0 ∨ k = 1 ∨ k = 2 ∨ k = 3 ∨ k = 4 ∨ k = 5 ∨ k = 6 := by omega
  rcases hc with rfl | rfl | rfl | rfl | rfl | rfl | rfl <;> omega
section OPSD
variable {m m' : Mem} {K : Option SV → Mem → Prop} {tp : Nat → Int} {td : Nat} {fl : Int × Int} {tm : Nat → Int} {D : Dt} {a sa sb j : Nat} {st : Bool} {f f' : NF} {i : Int}
theorem C_quick (hS : SI tp td tm D) (h : CJ m tp td fl tm D a sa sb j st)
    (hk : ∀ m', CI m' tp td fl tm D a → FC m m' → K (some (vI (iZ (qQu tm D)))) m') : smC true 129 [vR (some (0, 0))] m K := by
  unfold qQu at hk
  refine smC_wp [some (vR (some (0, 0))), none, none, none, none] cd_129 [16] 60 OK_129 (by decide) rfl rfl (Nat.le_of_ble_eq_true rfl) ?_
  refine Exists.intro _ (And.intro h.1.2.1 ?_)
  refine And.intro trivial (h.written (fun m1 j1 h1 FC1 => ?_))
  have hk := hk m1 ⟨sa, sb, j1, false, h1⟩ FC1
  obtain ⟨a1, a2, a3, a4, r, ⟨p1, p2, p3, p4⟩, ⟨l1, l2, l3, l4⟩, hn', hv, e1, hW⟩ := h1.rows
  have en := hS.en
  have h48 := hS.dok.1
  have loop : ∀ (s k : Nat) (x4 : Option SV), k + s = (wr tm (tm 5) D D.1).1.length → smE true 129 16 [some (vR (some (0, 0))), some (vR (some (6, 6))), some (vI (iZ (qkC tm D (wr tm (tm 5) D D.1).1 k))), some (vI (iZ (k : Nat))), x4] [] m1 K := by
    intro s
    induction s with
    | zero =>
      intro k x4 ek
      refine wp1_ok (by decide) OK_129 (cc := cd_129) rfl (stops := [16]) (f := 60) ?_
      refine And.intro (fun _ => ?_) (fun z => ?_)
      · have : k = (wr tm (tm 5) D D.1).1.length := by omega
        subst this
        exact And.intro trivial hk
      · rw [e1, iZ_le (by constructor <;> omega) (by constructor <;> omega)] at z; omega
    | succ s ih =>
      intro k x4 ek
      have hkn : k < (wr tm (tm 5) D D.1).1.length := by omega
      obtain ⟨⟨t1, t2, t3⟩, t4, t5, t6⟩ := tone_ok hS hS.t5 hkn
      obtain ⟨v1, v2, v3, v4⟩ := hv.at hkn
      have ec : (iZ (k : Int)).toNatClampNeg = k := by rw [iZ_clamp (by constructor <;> omega)]; omega
      have hin : ∀ {r' : Nat}, r' = r → vp_in (iZ (k : Int)) r' := fun e => (iZ_in (by constructor <;> omega)).mpr (by omega)
      have nx : ∀ (v : Int) (y : Option SV), v = qkC tm D (wr tm (tm 5) D D.1).1 (k + 1) → smE true 129 16 [some (vR (some (0, 0))), some (vR (some (6, 6))), some (vI (iZ v)), some (vI (iZ ((k : Int) + 1))), y] [] m1 K := fun v y e => by subst e; exact ih (k + 1) y (by omega)
      have eq1 : qkC tm D (wr tm (tm 5) D D.1).1 (k + 1) = qkC tm D (wr tm (tm 5) D D.1).1 k + (if qk (tm 0) (D.2.1 (tAt (wr tm (tm 5) D D.1).1 k).2.2.2.1.toNat 9) (tm 5) (tAt (wr tm (tm 5) D D.1).1 k).2.2.2.2.2 then 1 else 0) := rfl
      rw [eq1] at nx
      clear eq1
      generalize tAt (wr tm (tm 5) D D.1).1 k = t at *
      have hf := hS.dok.2.1 t.2.2.2.1.toNat (by omega)
      have r9 := hf.2.2.2.2.2.2.1
      have e9 := (h1.note (i := t.2.2.2.1.toNat) (by omega)).1.2.2.2.2.2.1
      have t0 := hS.2.2.1.1
      refine wp1_ok (by decide) OK_129 (cc := cd_129) rfl (stops := [16]) (f := 60) ?_
      refine And.intro (fun z => ?_) (fun z => ?_)
      · rw [e1, iZ_le (by constructor <;> omega) (by constructor <;> omega)] at z; omega
      refine Exists.intro _ (And.intro h1.1.2.1 ?_)
      refine Exists.intro _ (And.intro p2 ?_)
      refine And.intro (hin l2) ?_
      refine And.intro (by decide) ?_
      refine And.intro trivial (c_anyNote (i := t.2.2.2.1) (by rw [ec, v2, L8, iZ_div (by constructor <;> omega) (by decide) (by omega) (by decide)]; congr 1; omega) (by constructor <;> omega) hS.dok h1.srep (fun q => ?_) (fun q => absurd ⟨t2, t3⟩ q))
      refine Exists.intro _ (And.intro p4 ?_)
      refine And.intro (hin l4) ?_
      refine And.intro vp5 ?_
      refine And.intro trivial (c_isQuick (t := t.2.2.2.2.2) (sp := D.2.1 t.2.2.2.1.toNat 9) (pc := tm 5) (lim := tm 0) (by rw [ec]; exact v4) e9 (h1.tms 5 (by decide)) (h1.tms 0 (by decide)) (by omega) (by omega) hS.t5 (by omega) (fun z => ?_) (fun z => ?_))
      · refine And.intro (fun z => absurd z (by decide)) (fun _ => ?_)
        refine And.intro trivial ?_
        rw [L1, iZ_add, iZ_add]
        exact nx _ _ (by rw [if_pos z])
      · refine And.intro (fun _ => ?_) (fun z => absurd rfl z)
        refine And.intro trivial ?_
        rw [L1, iZ_add]
        exact nx _ _ (by rw [if_neg z, Int.add_zero])
  exact And.intro trivial (loop _ 0 none (Nat.zero_add _))
theorem Q_quick (hS : SI tp td tm D) (h : MI m tp td fl tm D)
    (hk : ∀ m', MI m' tp td fl tm D → Fr AMa m m' → K (some (vI (iZ (qQu tm D)))) m') : smC true 240 [vR (some (23, 231))] m K := by
  unfold qQu at hk
  refine smC_wp [some (vR (some (23, 231))), none, none] cd_240 [5] 60 OK_240 (by decide) rfl rfl (Nat.le_of_ble_eq_true rfl) ?_
  refine And.intro trivial ?_
  obtain ⟨h0, F0⟩ := h.b0
  generalize sI m 23 231 0 0 = m0 at *
  refine wp1_ok (by decide) OK_240 (cc := cd_240) rfl (stops := [13]) (f := 60) ?_
  refine And.intro trivial (MI.writes hS h0 (fun m1 h1 S1 F1 => ?_))
  have hk := hk m1 h1 (F0.qa.tr F1.qa)
  have hl := hS.len hS.t5
  have en := hS.en
  have e1 := S1.len
  have loop : ∀ (s k : Nat), k + s = (wr tm (tm 5) D D.1).1.length → smE true 240 13 [some (vR (some (23, 231))), some (vI (iZ (qkC tm D (wr tm (tm 5) D D.1).1 k))), some (vI (iZ (k : Nat)))] [] m1 K := by
    intro s
    induction s with
    | zero =>
      intro k ek
      refine wp1_ok (by decide) OK_240 (cc := cd_240) rfl (stops := [13]) (f := 60) ?_
      refine And.intro (fun _ => ?_) (fun z => ?_)
      · have : k = (wr tm (tm 5) D D.1).1.length := by omega
        subst this
        exact And.intro trivial hk
      · rw [e1, iZ_le (by constructor <;> omega) (by constructor <;> omega)] at z; omega
    | succ s ih =>
      intro k ek
      have hkn : k < (wr tm (tm 5) D D.1).1.length := by omega
      obtain ⟨⟨t1, t2, t3⟩, t4, t5, t6⟩ := tone_ok hS hS.t5 hkn
      obtain ⟨r1, r2, r3, r4, r5, r6, r7⟩ := S1.1.1.1.at hkn
      have ec : (iZ (k : Int)).toNatClampNeg = k := by rw [iZ_clamp (by constructor <;> omega)]; omega
      have hin : vp_in (iZ (k : Int)) 3600 := (iZ_in (by constructor <;> omega)).mpr (by omega)
      have nx : ∀ (v : Int), v = qkC tm D (wr tm (tm 5) D D.1).1 (k + 1) → smE true 240 13 [some (vR (some (23, 231))), some (vI (iZ v)), some (vI (iZ ((k : Int) + 1)))] [] m1 K := fun v e => by subst e; exact ih (k + 1) (by omega)
      have eq1 : qkC tm D (wr tm (tm 5) D D.1).1 (k + 1) = qkC tm D (wr tm (tm 5) D D.1).1 k + (if qk (tm 0) (D.2.1 (tAt (wr tm (tm 5) D D.1).1 k).2.2.2.1.toNat 9) (tm 5) (tAt (wr tm (tm 5) D D.1).1 k).2.2.2.2.2 then 1 else 0) := rfl
      rw [eq1] at nx
      clear eq1
      generalize tAt (wr tm (tm 5) D D.1).1 k = t at *
      have hf := hS.dok.2.1 t.2.2.2.1.toNat (by omega)
      have r9 := hf.2.2.2.2.2.2.1
      have t0 := hS.2.2.1.1
      refine wp1_ok (by decide) OK_240 (cc := cd_240) rfl (stops := [13]) (f := 60) ?_
      refine And.intro (fun z => ?_) (fun z => ?_)
      · rw [e1, iZ_le (by constructor <;> omega) (by constructor <;> omega)] at z; omega
      refine And.intro hin ?_
      refine And.intro hin ?_
      refine And.intro trivial (M_of (i := t.2.2.2.1.toNat) (w := 9) (by rw [ec, r5, Int.toNat_of_nonneg t2]) rfl hS.dok h1.2.2.1 (by omega) (by decide) ?_)
      refine And.intro trivial (M_isQuick (tm := tm) (t := t.2.2.2.2.2) (sp := D.2.1 t.2.2.2.1.toNat 9) (by rw [ec]; exact r7) rfl h1.2.1 (by omega) hS.t5 (by omega) (by omega) (fun z => ?_) (fun z => ?_))
      · refine And.intro (fun z => absurd z (by decide)) (fun _ => ?_)
        refine And.intro trivial ?_
        rw [L1, iZ_add, iZ_add]
        exact nx _ (by rw [if_pos z])
      · refine And.intro (fun _ => ?_) (fun z => absurd rfl z)
        refine And.intro trivial ?_
        rw [L0, iZ_add, L1, iZ_add]
        exact nx _ (by rw [if_neg z])
  exact And.intro trivial (loop _ 0 (Nat.zero_add _))
theorem C_greediest (hS : SI tp td tm D) (h : CJ m tp td fl tm D a sa sb j st)
    (hk : ∀ m', CI m' tp td fl tm D a → FC m m' → K (some (vI (iZ (qGr tm D)))) m') : smC true 130 [vR (some (0, 0))] m K := by
  unfold qGr at hk
  refine smC_wp [some (vR (some (0, 0))), none, none, none, none, none] cd_130 [19] 60 OK_130 (by decide) rfl rfl (Nat.le_of_ble_eq_true rfl) ?_
  refine Exists.intro _ (And.intro h.1.2.1 ?_)
  refine And.intro trivial (h.written (fun m1 j1 h1 FC1 => ?_))
  have hk := hk m1 ⟨sa, sb, j1, false, h1⟩ FC1
  have h48 := hS.dok.1
  have eN := h1.srep.1.1
  have loop : ∀ (s k : Nat) (x5 : Option SV), k + s = D.1 → smE true 130 19 [some (vR (some (0, 0))), some (vR (some (6, 6))), some (vI (iZ (grN tm D k).1)), some (vI (iZ (grN tm D k).2)), some (vI (iZ (k : Nat))), x5] [] m1 K := by
    intro s
    induction s with
    | zero =>
      intro k x5 ek
      refine wp1_ok (by decide) OK_130 (cc := cd_130) rfl (stops := [19]) (f := 60) ?_
      refine Exists.intro _ (And.intro h1.1.2.1 ?_)
      refine And.intro (fun _ => ?_) (fun z => ?_)
      · have : k = D.1 := by omega
        subst this
        exact And.intro trivial hk
      · rw [eN, iZ_le (by constructor <;> omega) (by constructor <;> omega)] at z; omega
    | succ s ih =>
      intro k x5 ek
      have hr := h1.scr.2.2.1 k (by omega)
      have eo : gI m1 15 10 k = iZ (wq tm (tm 5) D k).2.2.1 := hr.2.2.2.1
      have ea : gI m1 16 11 k = iZ (wq tm (tm 5) D k).2.2.2 := hr.2.2.2.2
      have rq := wq_oa (D := D) (k := k) hS.2.2.1 hS.t5 (hS.dok.2.1 k (by omega))
      have rg := grN_rng hS k (by omega)
      have ec : (iZ (k : Int)).toNatClampNeg = k := by rw [iZ_clamp (by constructor <;> omega)]; omega
      have hin : vp_in (iZ (k : Int)) 48 := (iZ_in (by constructor <;> omega)).mpr (by omega)
      have es : gI m1 15 10 (iZ (k : Int)).toNatClampNeg + gI m1 16 11 (iZ (k : Int)).toNatClampNeg = iZ ((wq tm (tm 5) D k).2.2.1 + (wq tm (tm 5) D k).2.2.2) := by rw [ec, eo, ea, iZ_add]
      have nx : ∀ (b v : Int) (y : Option SV), (b, v) = grN tm D (k + 1) → smE true 130 19 [some (vR (some (0, 0))), some (vR (some (6, 6))), some (vI (iZ b)), some (vI (iZ v)), some (vI (iZ ((k : Int) + 1))), y] [] m1 K := fun b v y e => by
        have := ih (k + 1) y (by omega)
        rw [← e] at this
        exact this
      refine wp1_ok (by decide) OK_130 (cc := cd_130) rfl (stops := [19]) (f := 60) ?_
      refine Exists.intro _ (And.intro h1.1.2.1 ?_)
      refine And.intro (fun z => ?_) (fun z => ?_)
      · rw [eN, iZ_le (by constructor <;> omega) (by constructor <;> omega)] at z; omega
      refine And.intro hin ?_
      refine And.intro hin ?_
      refine And.intro (fun u => ?_) (fun u => ?_)
      · rw [es, iZ_le (by constructor <;> omega) (by constructor <;> omega)] at u
        refine And.intro trivial ?_
        rw [L1, iZ_add]
        exact nx _ _ _ (by rw [grN, if_neg (by omega)])
      · rw [es, iZ_le (by constructor <;> omega) (by constructor <;> omega)] at u
        refine And.intro trivial ?_
        rw [es, L1, iZ_add]
        exact nx _ _ _ (by rw [grN, if_pos (by omega)])
  exact And.intro trivial (loop D.1 0 none (Nat.zero_add _))
theorem Q_greediest (hS : SI tp td tm D) (h : MI m tp td fl tm D)
    (hk : ∀ m', MI m' tp td fl tm D → Fr AMa m m' → K (some (vI (iZ (qGr tm D)))) m') : smC true 241 [vR (some (23, 231))] m K := by
  unfold qGr at hk
  refine smC_wp [some (vR (some (23, 231))), none, none, none] cd_241 [5] 60 OK_241 (by decide) rfl rfl (Nat.le_of_ble_eq_true rfl) ?_
  refine And.intro trivial ?_
  obtain ⟨h0, F0⟩ := h.b0
  generalize sI m 23 231 0 0 = m0 at *
  refine wp1_ok (by decide) OK_241 (cc := cd_241) rfl (stops := [15]) (f := 60) ?_
  refine And.intro trivial (MI.writes hS h0 (fun m1 h1 S1 F1 => ?_))
  have hk := hk m1 h1 (F0.qa.tr F1.qa)
  have h48 := hS.dok.1
  have g0 : gI m1 29 237 (0 : Int32).toNatClampNeg = iZ D.1 := h1.2.2.1.1.1
  have loop : ∀ (s k : Nat), k + s = D.1 → smE true 241 15 [some (vR (some (23, 231))), some (vI (iZ (grN tm D k).1)), some (vI (iZ (3 * (grN tm D k).2))), some (vI (iZ (k : Nat)))] [] m1 K := by
    intro s
    induction s with
    | zero =>
      intro k ek
      refine wp1_ok (by decide) OK_241 (cc := cd_241) rfl (stops := [15]) (f := 60) ?_
      refine And.intro (by rw [L0, iZ_in (by decide)]; decide) ?_
      rw [g0]
      refine And.intro (fun _ => ?_) (fun z => ?_)
      · have : k = D.1 := by omega
        subst this
        exact And.intro trivial hk
      · rw [iZ_le (by constructor <;> omega) (by constructor <;> omega)] at z; omega
    | succ s ih =>
      intro k ek
      have hr := S1.2 k (by omega)
      have rq := wq_oa (D := D) (k := k) hS.2.2.1 hS.t5 (hS.dok.2.1 k (by omega))
      have rg := grN_rng hS k (by omega)
      have ec : (iZ (k : Int)).toNatClampNeg = k := by rw [iZ_clamp (by constructor <;> omega)]; omega
      have hin : vp_in (iZ (k : Int)) 48 := (iZ_in (by constructor <;> omega)).mpr (by omega)
      have es : gI m1 44 252 (iZ (k : Int)).toNatClampNeg + gI m1 45 253 (iZ (k : Int)).toNatClampNeg = iZ (3 * ((wq tm (tm 5) D k).2.2.1 + (wq tm (tm 5) D k).2.2.2)) := by
        rw [ec, hr.2.2.2.1, hr.2.2.2.2, iZ_add]; congr 1; omega
      have nx : ∀ (b v : Int), (b, v) = grN tm D (k + 1) → smE true 241 15 [some (vR (some (23, 231))), some (vI (iZ b)), some (vI (iZ (3 * v))), some (vI (iZ ((k : Int) + 1)))] [] m1 K := fun b v e => by
        have := ih (k + 1) (by omega)
        rw [← e] at this
        exact this
      refine wp1_ok (by decide) OK_241 (cc := cd_241) rfl (stops := [15]) (f := 60) ?_
      refine And.intro (by rw [L0, iZ_in (by decide)]; decide) ?_
      rw [g0]
      refine And.intro (fun z => ?_) (fun z => ?_)
      · rw [iZ_le (by constructor <;> omega) (by constructor <;> omega)] at z; omega
      refine And.intro hin ?_
      refine And.intro hin ?_
      refine And.intro (fun u => ?_) (fun u => ?_)
      · rw [es, iZ_lt (by constructor <;> omega) (by constructor <;> omega)] at u
        refine And.intro hin ?_
        refine And.intro hin ?_
        refine And.intro trivial ?_
        rw [es, L1, iZ_add]
        exact nx _ _ (by rw [grN, if_pos (by omega)])
      · rw [es, iZ_lt (by constructor <;> omega) (by constructor <;> omega)] at u
        refine And.intro trivial ?_
        rw [L1, iZ_add]
        exact nx _ _ (by rw [grN, if_neg (by omega)])
  exact And.intro trivial (loop D.1 0 (Nat.zero_add _))
theorem c_plainNotes (hD : DOK D) (hR : SRep m sa D) (h : K (some (vI (iZ (plC D D.1)))) m) : smC true 59 [vR (some (10, sa))] m K := by
  have h48 := hD.1
  have loop : ∀ (s k : Nat) (x3 : Option SV), k + s = D.1 → smE true 59 4 [some (vR (some (10, sa))), some (vI (iZ (plC D k))), some (vI (iZ (k : Nat))), x3] [] m K := by
    intro s
    induction s with
    | zero =>
      intro k x3 ek
      refine wp1_ok (by decide) OK_59 (cc := cd_59) rfl (stops := [4]) (f := 60) ?_
      refine And.intro (fun _ => ?_) (fun z => ?_)
      · have : k = D.1 := by omega
        subst this
        exact And.intro trivial h
      · rw [hR.1.1, iZ_le (by constructor <;> omega) (by constructor <;> omega)] at z; omega
    | succ s ih =>
      intro k x3 ek
      have hf := hD.2.1 k (by omega)
      have hp := nPit_R hf
      have hN := (hR.2.1 k (by omega)).1
      have r10 := hf.2.2.2.2.2.2.2.1
      have r11 := hf.2.2.2.2.2.2.2.2.1
      have r12 := hf.2.2.2.2.2.2.2.2.2.1
      have ec : (iZ (k : Int)).toNatClampNeg = k := by rw [iZ_clamp (by constructor <;> omega)]; omega
      have nx : ∀ (v : Int) (y : Option SV), v = plC D (k + 1) → smE true 59 4 [some (vR (some (10, sa))), some (vI (iZ v)), some (vI (iZ ((k : Int) + 1))), y] [] m K := fun v y e => by subst e; exact ih (k + 1) y (by omega)
      have no : ∀ (y : Option SV), ¬ (D.2.1 k 0 = 1 ∧ D.2.1 k 11 = 0 ∧ D.2.1 k 10 = 0 ∧ D.2.1 k 12 ≠ 2) → smE true 59 4 [some (vR (some (10, sa))), some (vI (iZ (plC D k))), some (vI (iZ (k : Int) + 1)), y] [] m K := fun y c => by
        rw [L1, iZ_add]
        exact nx _ _ (by rw [plC, if_neg c, Int.add_zero])
      refine wp1_ok (by decide) OK_59 (cc := cd_59) rfl (stops := [4]) (f := 60) ?_
      refine And.intro (fun z => ?_) (fun z => ?_)
      · rw [hR.1.1, iZ_le (by constructor <;> omega) (by constructor <;> omega)] at z; omega
      refine And.intro ((iZ_in (by constructor <;> omega)).mpr (by omega)) ?_
      rw [ec]
      refine And.intro trivial (c_isRest hp.1 hN.1 (fun z => ?_) (fun z => ?_))
      · refine And.intro (fun _ => ?_) (fun w => absurd w (by decide))
        exact And.intro trivial (no _ (fun c => by have := hp.2.mp z; omega))
      refine And.intro (fun w => absurd rfl w) (fun _ => ?_)
      have h0 : D.2.1 k 0 = 1 := by
        rcases hf.1 with w | w
        · have := hp.2.mpr w; omega
        · exact w
      refine And.intro (fun y => ?_) (fun y => ?_)
      · rw [hN.2.2.2.2.2.2.2.1, L0, iZ_eq (by constructor <;> omega) (by decide)] at y
        exact And.intro trivial (no _ (fun c => y c.2.1))
      rw [hN.2.2.2.2.2.2.2.1, L0, iZ_eq (by constructor <;> omega) (by decide)] at y
      refine And.intro (fun u => ?_) (fun u => ?_)
      · rw [hN.2.2.2.2.2.2.2.2.1, L0, iZ_eq (by constructor <;> omega) (by decide)] at u
        exact And.intro trivial (no _ (fun c => u c.2.2.1))
      rw [hN.2.2.2.2.2.2.2.2.1, L0, iZ_eq (by constructor <;> omega) (by decide)] at u
      refine And.intro (fun v => ?_) (fun v => ?_)
      · rw [hN.2.2.2.2.2.2.2.2.2, L2, iZ_eq (by constructor <;> omega) (by decide)] at v
        exact And.intro trivial (no _ (fun c => c.2.2.2 v))
      · rw [hN.2.2.2.2.2.2.2.2.2, L2, iZ_eq (by constructor <;> omega) (by decide)] at v
        refine And.intro trivial ?_
        rw [L1, iZ_add, iZ_add]
        exact nx _ _ (by rw [plC, if_pos ⟨h0, y, u, v⟩])
  refine smC_wp [some (vR (some (10, sa))), none, none, none] cd_59 [4] 60 OK_59 (by decide) rfl rfl (Nat.le_of_ble_eq_true rfl) ?_
  exact And.intro trivial (loop D.1 0 none (Nat.zero_add _))
end OPSD
