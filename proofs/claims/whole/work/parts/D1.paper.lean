/-! would, fastest, bears: both -/
theorem up5 {tm : Nat → Int} {p : Int} {k : Nat} (h : k ≠ 5) : upq tm 5 p k = tm k := upq_n h
theorem up5_back {tm : Nat → Int} {p : Int} : upq (upq tm 5 p) 5 (tm 5) = tm := by
  funext k
  by_cases e : k = 5
  · subst e; rw [upq_s]
  · rw [upq_n e, upq_n e]
theorem up5_twice {tm : Nat → Int} {p q : Int} : upq (upq tm 5 p) 5 q = upq tm 5 q := by
  funext k
  by_cases e : k = 5
  · subst e; rw [upq_s, upq_s]
  · rw [upq_n e, upq_n e, upq_n e]
theorem wN_t5 {tm : Nat → Int} {p pc : Int} {f : NF} {nx : NX} {i : Nat} {s : WS} : wN (upq tm 5 p) pc f nx i s = wN tm pc f nx i s := by
  have e0 : upq tm 5 p 0 = tm 0 := up5 (by decide)
  have e1 : upq tm 5 p 1 = tm 1 := up5 (by decide)
  have e2 : upq tm 5 p 2 = tm 2 := up5 (by decide)
  have e3 : upq tm 5 p 3 = tm 3 := up5 (by decide)
  have e4 : upq tm 5 p 4 = tm 4 := up5 (by decide)
  have e6 : upq tm 5 p 6 = tm 6 := up5 (by decide)
  have t1 : wT (upq tm 5 p) pc f = wT tm pc f := rfl
  have t2 : wP (upq tm 5 p) pc f i s = wP tm pc f i s := rfl
  have t3 : ∀ q l, wB (upq tm 5 p) pc f nx q l = wB tm pc f nx q l := fun _ _ => rfl
  unfold wN
  by_cases h : f 0 = 1
  · rw [if_pos h, if_pos h]
    simp only [t1, t2, t3, e3]
  · rw [if_neg h, if_neg h]
theorem wr_t5 {tm : Nat → Int} {p pc : Int} {D : Dt} : ∀ n, wr (upq tm 5 p) pc D n = wr tm pc D n
  | 0 => rfl
  | n + 1 => by
    show (wN (upq tm 5 p) pc (D.2.1 n) (nxD 0 D n) n (wr (upq tm 5 p) pc D n)).1 = (wN tm pc (D.2.1 n) (nxD 0 D n) n (wr tm pc D n)).1
    rw [wr_t5 n, wN_t5]
theorem wq_t5 {tm : Nat → Int} {p pc : Int} {D : Dt} {n : Nat} : wq (upq tm 5 p) pc D n = wq tm pc D n := by
  unfold wq; rw [wr_t5, wN_t5]
/-- whether all is as told, of note i, or of all -/
abbrev atN3 (v : Int × Int × Int) : Prop := v.1 ≤ 1 ∧ v.2.1 ≤ 1 ∧ v.2.2 ≤ 1
def atW (tm : Nat → Int) (pc : Int) (D : Dt) (i : Int) : Nat → Bool
  | 0 => true
  | n + 1 => atW tm pc D i n && (if i = -1 ∨ i = (n : Int) then decide (atN3 (wq tm pc D n).2.1) else true)
def fsB (ok : Int → Bool) : Nat → Int
  | 0 => -1
  | s + 1 => if ok (25 + (s : Int)) = true then 25 + (s : Int) else fsB ok s
def qWl (tm : Nat → Int) (D : Dt) (i : Int) : Int := fsB (fun p => atW tm p D i D.1) 376
def qBe (tm : Nat → Int) (D : Dt) (i : Int) : Int := if 0 ≤ i ∧ i < D.1 then qWl tm D i else -2
def qWo (tm : Nat → Int) (D : Dt) (pc w : Int) : Int := if 0 ≤ w ∧ w ≤ 2 then (if 25 ≤ pc ∧ pc ≤ 400 then (if w = 0 then ((wr tm pc D D.1).1.length : Int) else if w = 1 then wS 2 tm pc D D.1 else wS 3 tm pc D D.1) else -3) else -2
theorem atW_iff {tm : Nat → Int} {pc : Int} {D : Dt} {i : Int} : ∀ n, atW tm pc D i n = true ↔ ∀ k, k < n → (i = -1 ∨ i = (k : Int)) → atN (wq tm pc D k).2.1
  | 0 => ⟨fun _ k h => by omega, fun _ => rfl⟩
  | n + 1 => by
    have ih := atW_iff (tm := tm) (pc := pc) (D := D) (i := i) n
    unfold atW
    rw [Bool.and_eq_true, ih]
    constructor
    · rintro ⟨h1, h2⟩ k hk hi
      by_cases e : k = n
      · subst e
        rw [if_pos hi] at h2
        have h3 : atN3 (wq tm pc D k).2.1 := of_decide_eq_true h2
        exact h3
      · exact h1 k (by omega) hi
    · intro h
      refine ⟨fun k hk hi => h k (by omega) hi, ?_⟩
      by_cases e : i = -1 ∨ i = (n : Int)
      · rw [if_pos e]; exact decide_eq_true (p := atN3 (wq tm pc D n).2.1) (h n (by omega) e)
      · rw [if_neg e]
section OPS9
variable {m m' : Mem} {K : Option SV → Mem → Prop} {tp : Nat → Int} {td : Nat} {fl : Int × Int} {tm : Nat → Int} {D : Dt} {a sa sb j : Nat} {st : Bool} {f f' : NF} {i : Int}
theorem s9_5 : stT 60 9 (5 : Int32).toNatClampNeg = iZ 25 := st9 5 (by decide)
theorem s10_5 : stT 60 10 (5 : Int32).toNatClampNeg = iZ 400 := st10 5 (by decide)
theorem WL.scr {m0 : Mem} {sc sn n j0 : Nat} {kp : Bool} {pc : Int} (h : WL m0 m sc sn kp tm pc D j0 n) : ScR m sc kp tm pc D n := by
  obtain ⟨j, hj, hE, hS, hP, hF, q⟩ := h
  exact hS
theorem ScR.len {sc n : Nat} {kp : Bool} {pc : Int} (h : ScR m sc kp tm pc D n) : gI m 6 sc 1 = iZ (wr tm pc D n).1.length := by
  obtain ⟨⟨cap, ⟨⟨r0, r1, r6, rr, rl⟩, r7, r8⟩⟩, hW, hres, hl, ha⟩ := h
  exact r1
theorem C_would {pc w : Int} {x y : Int32} (hx : x = iZ pc) (hy : y = iZ w) (rp : R32 pc) (rw' : R32 w) (hS : SI tp td tm D) (h : CJ m tp td fl tm D a sa sb j st)
    (hk : ∀ m', CI m' tp td fl tm D a → FC m m' → K (some (vI (iZ (qWo tm D pc w)))) m') : smC true 124 [vR (some (0, 0)), vI x, vI y] m K := by
  subst hx; subst hy
  unfold qWo at hk
  refine smC_wp [some (vR (some (0, 0))), some (vI (iZ pc)), some (vI (iZ w)), none] cd_124 [9, 12] 60 OK_124 (by decide) rfl rfl (Nat.le_of_ble_eq_true rfl) ?_
  have bad : ¬ (0 ≤ w ∧ w ≤ 2) → smE true 124 9 [some (vR (some (0, 0))), some (vI (iZ pc)), some (vI (iZ w)), none] [] m K := by
    intro z
    rw [if_neg z] at hk
    refine wp_ok (by decide) OK_124 (cc := cd_124) rfl (stops := []) 20 _ _ _ _ ?_
    exact And.intro trivial (hk m ⟨sa, sb, j, st, h⟩ (FC.rf _))
  refine And.intro (fun z => ?_) (fun z => ?_)
  · rw [L0, iZ_lt rw' (by decide)] at z
    exact And.intro trivial (bad (by omega))
  rw [L0, iZ_lt rw' (by decide)] at z
  refine And.intro (fun y => ?_) (fun y => ?_)
  rotate_left
  · rw [L2, iZ_le rw' (by decide)] at y
    exact And.intro trivial (bad (by omega))
  rw [L2, iZ_le rw' (by decide)] at y
  rw [if_pos (by omega)] at hk
  refine And.intro trivial ?_
  have cant : ¬ (25 ≤ pc ∧ pc ≤ 400) → smE true 124 30 [some (vR (some (0, 0))), some (vI (iZ pc)), some (vI (iZ w)), none] [] m K := by
    intro z
    rw [if_neg z] at hk
    refine wp_ok (by decide) OK_124 (cc := cd_124) rfl (stops := []) 20 _ _ _ _ ?_
    exact And.intro trivial (hk m ⟨sa, sb, j, st, h⟩ (FC.rf _))
  refine wp1_ok (by decide) OK_124 (cc := cd_124) rfl (stops := [30, 33]) (f := 60) ?_
  refine And.intro (by rw [L5, iZ_in (by decide)]; decide) ?_
  rw [s9_5]
  refine And.intro (fun u => ?_) (fun u => ?_)
  · rw [iZ_lt rp (by decide)] at u
    exact And.intro trivial (cant (by omega))
  rw [iZ_lt rp (by decide)] at u
  refine And.intro (by rw [L5, iZ_in (by decide)]; decide) ?_
  rw [s10_5]
  refine And.intro (fun v => ?_) (fun v => ?_)
  rotate_left
  · rw [iZ_le rp (by decide)] at v
    exact And.intro trivial (cant (by omega))
  rw [iZ_le rp (by decide)] at v
  rw [if_pos (by omega)] at hk
  refine And.intro trivial ?_
  have h48 := hS.dok.1
  refine wp1_ok (by decide) OK_124 (cc := cd_124) rfl (stops := []) (f := 60) ?_
  refine Exists.intro _ (And.intro h.1.2.1 ?_)
  refine Exists.intro _ (And.intro h.1.2.1 ?_)
  refine And.intro trivial (c_onPaper (pc := pc) (many := (D.1 : Int)) rfl h.srep.1.1 (by constructor <;> omega) (by omega) h.pw16 (fun m1 hW => ?_))
  rw [show min ((D.1 : Int).toNat) D.1 = D.1 by omega] at hW
  obtain ⟨h1, FC1⟩ := h.paper hW
  have hk := hk m1 ⟨sa, sb, j, st, h1⟩ FC1
  have s1 := hW.scr
  refine And.intro (fun o => ?_) (fun o => ?_)
  rotate_left
  · rw [L0, iZ_eq rw' (by decide)] at o
    rw [if_pos o] at hk
    refine And.intro trivial ?_
    rw [s1.len]; exact hk
  rw [L0, iZ_eq rw' (by decide)] at o
  rw [if_neg o] at hk
  refine And.intro (fun o2 => ?_) (fun o2 => ?_)
  · rw [L1, iZ_eq rw' (by decide)] at o2
    rw [if_neg o2] at hk
    refine And.intro trivial ?_
    rw [s1.2.2.2.2]; exact hk
  · rw [L1, iZ_eq rw' (by decide)] at o2
    rw [if_pos o2] at hk
    refine And.intro trivial ?_
    rw [s1.2.2.2.1]; exact hk
theorem C_fastest (hS : SI tp td tm D) (h : CJ m tp td fl tm D a sa sb j st)
    (hk : ∀ m', CI m' tp td fl tm D a → FC m m' → K (some (vI (iZ (qWl tm D (-1))))) m') : smC true 125 [vR (some (0, 0))] m K := by
  unfold qWl at hk
  have loop : ∀ s, s ≤ 376 → ∀ m1, CJ m1 tp td fl tm D a sa sb j st → FC m m1 → fsB (fun p => atW tm p D (-1) D.1) 376 = fsB (fun p => atW tm p D (-1) D.1) s → smE true 125 6 [some (vR (some (0, 0))), some (vI (iZ (24 + (s : Int))))] [] m1 K := by
    intro s
    induction s with
    | zero =>
      intro hs m1 h1 F1 e
      refine wp1_ok (by decide) OK_125 (cc := cd_125) rfl (stops := [6]) (f := 40) ?_
      refine And.intro (by rw [L5, iZ_in (by decide)]; decide) ?_
      rw [s9_5]
      refine And.intro (fun _ => ?_) (fun u => ?_)
      · refine And.intro trivial ?_
        have hk := hk m1 ⟨sa, sb, j, st, h1⟩ F1
        rw [e] at hk
        exact hk
      · exact absurd (by decide) u
    | succ s ih =>
      intro hs m1 h1 F1 e
      have rp : R32 (24 + ((s + 1 : Nat) : Int)) := by constructor <;> omega
      refine wp1_ok (by decide) OK_125 (cc := cd_125) rfl (stops := [6]) (f := 40) ?_
      refine And.intro (by rw [L5, iZ_in (by decide)]; decide) ?_
      rw [s9_5]
      refine And.intro (fun u => ?_) (fun _ => ?_)
      · rw [iZ_lt rp (by decide)] at u
        omega
      refine Exists.intro _ (And.intro h1.1.2.1 ?_)
      refine And.intro trivial (c_isAllAsTold (pc := 25 + (s : Int)) (by congr 1; omega) (by omega) h1.pw16 (fun m2 n ha hW => ?_) (fun m2 n ha hW => ?_))
      · obtain ⟨h2, F2⟩ := h1.paper hW
        refine And.intro (fun z => absurd z (by decide)) (fun _ => ?_)
        refine And.intro trivial ?_
        have hk := hk m2 ⟨sa, sb, j, st, h2⟩ (F1.tr F2)
        have ok : atW tm (25 + (s : Int)) D (-1) D.1 = true := (atW_iff D.1).mpr (fun k hk _ => ha k hk)
        rw [e, fsB, if_pos ok] at hk
        rw [show (24 + ((s + 1 : Nat) : Int)) = 25 + (s : Int) by omega]
        exact hk
      · obtain ⟨h2, F2⟩ := h1.paper hW
        refine And.intro (fun _ => ?_) (fun z => absurd rfl z)
        refine And.intro trivial ?_
        have ok : ¬ atW tm (25 + (s : Int)) D (-1) D.1 = true := fun z => ha (fun k hk => (atW_iff D.1).mp z k hk (Or.inl rfl))
        have e' : fsB (fun p => atW tm p D (-1) D.1) (s + 1) = fsB (fun p => atW tm p D (-1) D.1) s := by rw [fsB, if_neg ok]
        rw [LM1, iZ_add, show (24 + ((s + 1 : Nat) : Int) + -1) = 24 + (s : Int) by omega]
        exact ih (by omega) m2 h2 (F1.tr F2) (e.trans e')
  refine smC_wp [some (vR (some (0, 0))), none] cd_125 [6] 40 OK_125 (by decide) rfl rfl (Nat.le_of_ble_eq_true rfl) ?_
  refine And.intro (by rw [L5, iZ_in (by decide)]; decide) ?_
  refine And.intro trivial ?_
  rw [s10_5]
  exact loop 376 (Nat.le_refl _) m h (FC.rf _) rfl
theorem C_bears {x : Int32} (hx : x = iZ i) (ri : R32 i) (hS : SI tp td tm D) (h : CJ m tp td fl tm D a sa sb j st)
    (hk : ∀ m', CI m' tp td fl tm D a → FC m m' → K (some (vI (iZ (qBe tm D i)))) m') : smC true 126 [vR (some (0, 0)), vI x] m K := by
  subst hx
  unfold qBe at hk
  have h48 := hS.dok.1
  refine smC_wp [some (vR (some (0, 0))), some (vI (iZ i)), none] cd_126 [20] 60 OK_126 (by decide) rfl rfl (Nat.le_of_ble_eq_true rfl) ?_
  refine Exists.intro _ (And.intro h.1.2.1 ?_)
  refine And.intro trivial (c_anyNote rfl ri hS.dok h.srep (fun q => ?_) (fun q => ?_))
  rotate_left
  · rw [if_neg q] at hk
    exact And.intro trivial (hk m ⟨sa, sb, j, st, h⟩ (FC.rf _))
  rw [if_pos q] at hk
  unfold qWl at hk
  obtain ⟨n, rfl⟩ : ∃ n : Nat, i = (n : Int) := ⟨i.toNat, by omega⟩
  have hn : n < D.1 := by omega
  have ok : ∀ p, atW tm p D (n : Int) D.1 = true ↔ atN (wq tm p D n).2.1 := fun p =>
    ⟨fun z => (atW_iff D.1).mp z n hn (Or.inr rfl), fun z => (atW_iff D.1).mpr (fun k hk e => by
      have : k = n := by omega
      rw [this]; exact z)⟩
  have loop : ∀ s, s ≤ 376 → ∀ m1, CJ m1 tp td fl tm D a sa sb j st → FC m m1 → fsB (fun p => atW tm p D (n : Int) D.1) 376 = fsB (fun p => atW tm p D (n : Int) D.1) s → smE true 126 20 [some (vR (some (0, 0))), some (vI (iZ (n : Int))), some (vI (iZ (24 + (s : Int))))] [] m1 K := by
    intro s
    induction s with
    | zero =>
      intro hs m1 h1 F1 e
      refine wp1_ok (by decide) OK_126 (cc := cd_126) rfl (stops := [20]) (f := 40) ?_
      refine And.intro (by rw [L5, iZ_in (by decide)]; decide) ?_
      rw [s9_5]
      refine And.intro (fun _ => ?_) (fun u => ?_)
      · refine And.intro trivial ?_
        have hk := hk m1 ⟨sa, sb, j, st, h1⟩ F1
        rw [e] at hk
        exact hk
      · exact absurd (by decide) u
    | succ s ih =>
      intro hs m1 h1 F1 e
      have rp : R32 (24 + ((s + 1 : Nat) : Int)) := by constructor <;> omega
      refine wp1_ok (by decide) OK_126 (cc := cd_126) rfl (stops := [20]) (f := 40) ?_
      refine And.intro (by rw [L5, iZ_in (by decide)]; decide) ?_
      rw [s9_5]
      refine And.intro (fun u => ?_) (fun _ => ?_)
      · rw [iZ_lt rp (by decide)] at u
        omega
      refine Exists.intro _ (And.intro h1.1.2.1 ?_)
      refine And.intro trivial (c_onPaper (pc := 25 + (s : Int)) (many := (n : Int) + 1) (by congr 1; omega) (by rw [L1, iZ_add]) (by constructor <;> omega) (by omega) h1.pw16 (fun m2 hW => ?_))
      rw [show min (((n : Int) + 1).toNat) D.1 = n + 1 by omega] at hW
      obtain ⟨h2, F2⟩ := h1.paper hW
      have hr := hW.scr.2.2.1 n (by omega)
      have hf := hS.dok.2.1 n hn
      refine And.intro trivial (c_isAsTold rfl (by omega) hr (wN_v hf (wT_rng hS.2.2.1 hf (by omega))) (fun z => ?_) (fun z => ?_))
      · refine And.intro (fun z => absurd z (by decide)) (fun _ => ?_)
        refine And.intro trivial ?_
        have hk := hk m2 ⟨sa, sb, j, st, h2⟩ (F1.tr F2)
        rw [e, fsB, if_pos ((ok _).mpr z)] at hk
        rw [show (24 + ((s + 1 : Nat) : Int)) = 25 + (s : Int) by omega]
        exact hk
      · refine And.intro (fun _ => ?_) (fun z => absurd rfl z)
        refine And.intro trivial ?_
        have e' : fsB (fun p => atW tm p D (n : Int) D.1) (s + 1) = fsB (fun p => atW tm p D (n : Int) D.1) s := by rw [fsB, if_neg (fun y => z ((ok _).mp y))]
        rw [LM1, iZ_add, show (24 + ((s + 1 : Nat) : Int) + -1) = 24 + (s : Int) by omega]
        exact ih (by omega) m2 h2 (F1.tr F2) (e.trans e')
  refine And.intro (by rw [L5, iZ_in (by decide)]; decide) ?_
  refine And.intro trivial ?_
  rw [s10_5]
  exact loop 376 (Nat.le_refl _) m h (FC.rf _) rfl
/-- the Model: another percent -/
theorem SI.t5s {p : Int} (h : SI tp td tm D) (hp : 25 ≤ p ∧ p ≤ 400) : SI tp td (upq tm 5 p) D := ⟨h.1, h.2.1, tmOK_up (w := 5) (v := p) h.2.2.1 (by decide) ⟨hp.1, hp.2, fun e => absurd e (by decide)⟩, h.2.2.2⟩
theorem MI.t5 {p : Int} {x : Int32} (hx : x = iZ p) (h : MI m tp td fl tm D) : MI (sI m 24 232 5 x) tp td fl (upq tm 5 p) D ∧ Fr AMa m (sI m 24 232 5 x) := by
  subst hx
  have F : Fr (fun t n k => t = 24 ∧ n = 232 ∧ k = 5) m (sI m 24 232 5 (iZ p)) := Fr.st ⟨rfl, rfl, rfl⟩
  have e5 : ∀ k, k < 7 → gI (sI m 24 232 5 (iZ p)) 24 232 k = iZ (upq tm 5 p k) := by
    intro k hk
    rw [gI_s]
    by_cases e : k = 5
    · rw [if_pos ⟨e, rfl, rfl⟩, e, upq_s]
    · rw [if_neg (by omega), upq_n e]; exact h.2.1 k hk
  generalize sI m 24 232 5 (iZ p) = m1 at *
  obtain ⟨⟨⟨b1, b2⟩, hw', hl⟩, ht, ⟨⟨d1, d2, d3⟩, d4, d5⟩, ⟨p1, p2⟩, f1, f2⟩ := h
  have g : ∀ {t n k : Nat}, t ≠ 24 → gI m1 t n k = gI m t n k := fun u => F.2 _ _ _ (by omega)
  refine ⟨⟨⟨⟨fun k hk => (g (by omega)).trans (b1 k hk), ?_⟩, fun k hk => (g (by omega)).trans (hw' k hk), fun k hk => ⟨(g (by omega)).trans (hl k hk).1, (g (by omega)).trans (hl k hk).2⟩⟩, e5, ⟨⟨(g (by omega)).trans d1, (g (by omega)).trans d2, (g (by omega)).trans d3⟩, fun i w hi hw => (g (by omega)).trans (d4 i w hi hw), fun k hk => (g (by omega)).trans (d5 k hk)⟩, ⟨fun k hk => (g (by omega)).trans (p1 k hk), (g (by omega)).trans p2⟩, (g (by omega)).trans f1, (g (by omega)).trans f2⟩, F.mono (fun t n k z => by unfold AMa; omega)⟩
  obtain ⟨c0, c1, c2, c3, c4, c5, c6⟩ := b2
  exact ⟨(g (by omega)).trans c0, (g (by omega)).trans c1, (g (by omega)).trans c2, (g (by omega)).trans c3, (g (by omega)).trans c4, (g (by omega)).trans c5, (g (by omega)).trans c6⟩
/-- the verdicts as the Model has them -/
def MVd (m : Mem) (tm : Nat → Int) (pc : Int) (D : Dt) : Prop := ∀ i, i < D.1 → (gI m 43 251 (3 * i) = iZ (wq tm pc D i).2.1.1 ∧ gI m 43 251 (3 * i + 1) = iZ (wq tm pc D i).2.1.2.1 ∧ gI m 43 251 (3 * i + 2) = iZ (wq tm pc D i).2.1.2.2) ∧ (0 ≤ (wq tm pc D i).2.1.1 ∧ (wq tm pc D i).2.1.1 ≤ 3) ∧ (0 ≤ (wq tm pc D i).2.1.2.1 ∧ (wq tm pc D i).2.1.2.1 ≤ 3) ∧ 0 ≤ (wq tm pc D i).2.1.2.2 ∧ (wq tm pc D i).2.1.2.2 ≤ 3
theorem MSR.vd {pc : Int} (h : MSR m tm pc D D.1) (ht : tmOK tm) (hD : DOK D) (hp : 0 ≤ pc ∧ pc ≤ 400) : MVd m tm pc D := fun i hi => ⟨(h.2 i hi).2.2.1, wN_v (hD.2.1 i hi) (wT_rng ht (hD.2.1 i hi) hp)⟩
theorem MVd.t5 {p pc : Int} (h : MVd m (upq tm 5 p) pc D) : MVd m tm pc D := fun i hi => by
  have := h i hi
  rw [wq_t5] at this
  exact this
theorem M_verdicts {pc v : Int} {x : Int32} (hx : x = iZ v) (rv : R32 v) (hD : DOK D) (hM : MD m D) (hV : MVd m tm pc D) (hk : K (some (vI (iZ (wS v tm pc D D.1)))) m) : smC true 233 [vR (some (23, 231)), vI x] m K := by
  subst hx
  have h48 := hD.1
  have g0 : gI m 29 237 (0 : Int32).toNatClampNeg = iZ D.1 := hM.1.1
  have e3 : (3 : Int32) * iZ (D.1 : Int) = iZ ((3 * D.1 : Nat) : Int) := by rw [L3, iZ_mul]; congr 1
  have step : ∀ (c q : Int) (k : Nat), k < 3 * D.1 → gI m 43 251 k = iZ q → (0 ≤ q ∧ q ≤ 3) → smE true 233 4 [some (vR (some (23, 231))), some (vI (iZ v)), some (vI (iZ (c + vcN v q))), some (vI (iZ ((k + 1 : Nat) : Int)))] [] m K → smE true 233 4 [some (vR (some (23, 231))), some (vI (iZ v)), some (vI (iZ c)), some (vI (iZ (k : Int)))] [] m K := by
    intro c q k hk' hq rq hE
    have ec : (iZ (k : Int)).toNatClampNeg = k := by rw [iZ_clamp (by constructor <;> omega)]; omega
    refine wp1_ok (by decide) OK_233 (cc := cd_233) rfl (stops := [4]) (f := 40) ?_
    refine And.intro (by rw [L0, iZ_in (by decide)]; decide) ?_
    rw [g0]
    refine And.intro (fun z => ?_) (fun _ => ?_)
    · rw [e3, iZ_le (by constructor <;> omega) (by constructor <;> omega)] at z; omega
    refine And.intro ((iZ_in (by constructor <;> omega)).mpr (by omega)) ?_
    rw [ec, hq]
    unfold vcN at hE
    refine And.intro (fun y => ?_) (fun y => ?_)
    · rw [iZ_eq (by constructor <;> omega) rv] at y
      rw [if_neg y] at hE
      refine And.intro trivial ?_
      rw [L0, iZ_add, L1, iZ_add]
      exact hE
    · rw [iZ_eq (by constructor <;> omega) rv] at y
      rw [if_pos y] at hE
      refine And.intro trivial ?_
      rw [L1, iZ_add, iZ_add]
      exact hE
  have loop : ∀ s i, i + s = D.1 → smE true 233 4 [some (vR (some (23, 231))), some (vI (iZ v)), some (vI (iZ (wS v tm pc D i))), some (vI (iZ ((3 * i : Nat) : Int)))] [] m K := by
    intro s
    induction s with
    | zero =>
      intro i ei
      have : i = D.1 := by omega
      subst this
      refine wp1_ok (by decide) OK_233 (cc := cd_233) rfl (stops := [4]) (f := 40) ?_
      refine And.intro (by rw [L0, iZ_in (by decide)]; decide) ?_
      rw [g0]
      refine And.intro (fun _ => And.intro trivial hk) (fun z => ?_)
      rw [e3, iZ_le (by constructor <;> omega) (by constructor <;> omega)] at z; omega
    | succ s ih =>
      intro i ei
      obtain ⟨⟨u1, u2, u3⟩, r1, r2, r3⟩ := hV i (by omega)
      refine step _ _ (3 * i) (by omega) u1 r1 ?_
      refine step _ _ (3 * i + 1) (by omega) u2 r2 ?_
      refine step _ _ (3 * i + 2) (by omega) u3 r3 ?_
      have := ih (i + 1) (by omega)
      rw [wS, v3, ← Int.add_assoc, ← Int.add_assoc] at this
      exact this
  refine smC_wp [some (vR (some (23, 231))), some (vI (iZ v)), none, none] cd_233 [4] 40 OK_233 (by decide) rfl rfl (Nat.le_of_ble_eq_true rfl) ?_
  exact And.intro trivial (loop D.1 0 (by omega))
theorem wS_t5 {x p pc : Int} : ∀ n, wS x (upq tm 5 p) pc D n = wS x tm pc D n
  | 0 => rfl
  | n + 1 => by rw [wS, wS, wS_t5 n, wq_t5]
theorem Q_would {pc w : Int} {x y : Int32} (hx : x = iZ pc) (hy : y = iZ w) (rp : R32 pc) (rw' : R32 w) (hS : SI tp td tm D) (h : MI m tp td fl tm D)
    (hk : ∀ m', MI m' tp td fl tm D → Fr AMa m m' → K (some (vI (iZ (qWo tm D pc w)))) m') : smC true 232 [vR (some (23, 231)), vI x, vI y] m K := by
  subst hx; subst hy
  unfold qWo at hk
  refine smC_wp [some (vR (some (23, 231))), some (vI (iZ pc)), some (vI (iZ w)), none] cd_232 [5] 60 OK_232 (by decide) rfl rfl (Nat.le_of_ble_eq_true rfl) ?_
  refine And.intro trivial ?_
  obtain ⟨h0, F0⟩ := h.b0
  generalize sI m 23 231 0 0 = m0 at *
  refine wp1_ok (by decide) OK_232 (cc := cd_232) rfl (stops := [37]) (f := 60) ?_
  refine And.intro trivial (M_in (v := w) (lo := 0) (hi := 2) rfl rw' (by decide) (by decide) rfl rfl (fun hw => ?_) (fun hw => ?_))
  rotate_left
  · rw [if_neg hw] at hk
    refine And.intro (fun z => absurd rfl z) (fun _ => ?_)
    exact And.intro trivial (hk m0 h0 F0.qa)
  rw [if_pos hw] at hk
  refine And.intro (fun _ => ?_) (fun z => absurd z (by decide))
  refine And.intro trivial (M_in (v := pc) (lo := 25) (hi := 400) rfl rp (by decide) (by decide) rfl rfl (fun hp => ?_) (fun hp => ?_))
  rotate_left
  · rw [if_neg hp] at hk
    refine And.intro (fun z => absurd rfl z) (fun _ => ?_)
    exact And.intro trivial (hk m0 h0 F0.qa)
  rw [if_pos hp] at hk
  refine And.intro (fun _ => ?_) (fun z => absurd z (by decide))
  refine And.intro trivial ?_
  have in5 : vp_in (5 : Int32) 7 := by rw [L5, iZ_in (by decide)]; decide
  have e5 : gI m0 24 232 (5 : Int32).toNatClampNeg = iZ (tm 5) := h0.2.1 5 (by decide)
  obtain ⟨h1, F1⟩ := h0.t5 (p := pc) rfl
  have S1 := hS.t5s hp
  refine wp1_ok (by decide) OK_232 (cc := cd_232) rfl (stops := [51]) (f := 60) ?_
  refine And.intro in5 ?_
  refine And.intro in5 ?_
  refine And.intro trivial ?_
  rw [e5]
  have h1' : MI (sI m0 24 232 (5 : Int32).toNatClampNeg (iZ pc)) tp td fl (upq tm 5 pc) D := h1
  have F1' : Fr AMa m0 (sI m0 24 232 (5 : Int32).toNatClampNeg (iZ pc)) := F1
  clear h1 F1
  generalize sI m0 24 232 (5 : Int32).toNatClampNeg (iZ pc) = m1 at *
  refine wp1_ok (by decide) OK_232 (cc := cd_232) rfl (stops := [62]) (f := 60) ?_
  refine And.intro trivial (MI.writes S1 h1' (fun m2 h2 R2 F2 => ?_))
  refine And.intro in5 ?_
  refine And.intro trivial ?_
  obtain ⟨h3, F3⟩ := h2.t5 (p := tm 5) rfl
  rw [up5_back] at h3
  rw [upq_s] at R2
  have V2 : MVd m2 tm pc D := (R2.vd S1.2.2.1 hS.dok (by omega)).t5
  have l2 : gI m2 23 231 43 = iZ (wr tm pc D D.1).1.length := by rw [R2.len, wr_t5]
  have h3' : MI (sI m2 24 232 (5 : Int32).toNatClampNeg (iZ (tm 5))) tp td fl tm D := h3
  have F3' : Fr AMa m2 (sI m2 24 232 (5 : Int32).toNatClampNeg (iZ (tm 5))) := F3
  have V3 : MVd (sI m2 24 232 (5 : Int32).toNatClampNeg (iZ (tm 5))) tm pc D := fun i hi => by
    simp only [gI_s]
    simp
    exact V2 i hi
  have l3 : gI (sI m2 24 232 (5 : Int32).toNatClampNeg (iZ (tm 5))) 23 231 43 = iZ (wr tm pc D D.1).1.length := by
    rw [gI_s, if_neg (by omega)]; exact l2
  clear h3 F3 l2 V2 R2
  generalize sI m2 24 232 (5 : Int32).toNatClampNeg (iZ (tm 5)) = m3 at *
  have hk := hk m3 h3' (((F0.qa.tr F1').tr F2.qa).tr F3')
  refine wp1_ok (by decide) OK_232 (cc := cd_232) rfl (stops := []) (f := 60) ?_
  refine And.intro (fun o => ?_) (fun o => ?_)
  · rw [L0, iZ_eq rw' (by decide)] at o
    rw [if_neg o] at hk
    refine And.intro trivial (M_verdicts (v := w + 1) (pc := pc) (tm := tm) (by rw [L1, iZ_add]) (by constructor <;> omega) hS.dok h3'.2.2.1 V3 ?_)
    refine And.intro trivial ?_
    by_cases o2 : w = 1
    · rw [if_pos o2] at hk
      rw [o2]; exact hk
    · rw [if_neg o2] at hk
      have : w = 2 := by omega
      rw [this]; exact hk
  · rw [L0, iZ_eq rw' (by decide)] at o
    rw [if_pos o] at hk
    refine And.intro trivial ?_
    rw [l3]; exact hk
end OPS9
