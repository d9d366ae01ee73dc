/-! bar: both -/
def barE (D : Dt) (k : Nat) : Int := if k + 1 < D.2.2.1 then D.2.2.2.1 (k + 1) else D.2.2.2.2
def tnC (ts : List Tn) (b e : Int) : Nat → Int
  | 0 => 0
  | n + 1 => tnC ts b e n + (if b ≤ (tAt ts n).2.2.2.2.1 ∧ (tAt ts n).2.2.2.2.1 < e then 1 else 0)
def snC (ts : List Tn) (b e : Int) : Nat → Int
  | 0 => 0
  | n + 1 => snC ts b e n + max 0 (min e ((tAt ts n).2.2.2.2.1 + (tAt ts n).2.2.2.2.2) - max b (tAt ts n).2.2.2.2.1)
def ntC (D : Dt) (k : Int) : Nat → Int
  | 0 => 0
  | n + 1 => ntC D k n + (if D.2.1 n 6 = k then 1 else 0)
def qBx (tm : Nat → Int) (D : Dt) (k : Nat) (w : Int) : Int :=
  if w = 0 then tnC (wr tm (tm 5) D D.1).1 (D.2.2.2.1 k) (barE D k) (wr tm (tm 5) D D.1).1.length
  else if w = 1 then ntC D k D.1
  else if w = 2 ∨ w = 3 then qPt (barE D k - D.2.2.2.1 k) (w - 2)
  else if w = 4 ∨ w = 5 then qPt (snC (wr tm (tm 5) D D.1).1 (D.2.2.2.1 k) (barE D k) (wr tm (tm 5) D D.1).1.length) (w - 4)
  else -2
def qBar (tm : Nat → Int) (D : Dt) (k w : Int) : Int := if 0 ≤ k ∧ k < D.2.2.1 then qBx tm D k.toNat w else -2
theorem tnC_rng {ts : List Tn} {b e : Int} : ∀ n, 0 ≤ tnC ts b e n ∧ tnC ts b e n ≤ n
  | 0 => ⟨Int.le_refl _, Int.le_refl _⟩
  | n + 1 => by
    have := tnC_rng (ts := ts) (b := b) (e := e) n
    unfold tnC
    split <;> omega
theorem ntC_rng {D : Dt} {k : Int} : ∀ n, 0 ≤ ntC D k n ∧ ntC D k n ≤ n
  | 0 => ⟨Int.le_refl _, Int.le_refl _⟩
  | n + 1 => by
    have := ntC_rng (D := D) (k := k) n
    unfold ntC
    split <;> omega
theorem snC_nn {ts : List Tn} {b e : Int} : ∀ n, 0 ≤ snC ts b e n
  | 0 => Int.le_refl _
  | n + 1 => by
    have := snC_nn (ts := ts) (b := b) (e := e) n
    unfold snC
    omega
theorem tAt_cons {t : Tn} {ts : List Tn} {k : Nat} (h : k < ts.length) : tAt (t :: ts) k = tAt ts k := by
  show (if k = ts.length then t else tAt ts k) = tAt ts k
  rw [if_neg (by omega)]
theorem tAt_last {t : Tn} {ts : List Tn} : tAt (t :: ts) ts.length = t := by
  show (if ts.length = ts.length then t else tAt ts ts.length) = t
  rw [if_pos rfl]
theorem snC_cons {t : Tn} {ts : List Tn} {b e : Int} : ∀ n, n ≤ ts.length → snC (t :: ts) b e n = snC ts b e n
  | 0, _ => rfl
  | n + 1, h => by
    have := snC_cons (t := t) (ts := ts) (b := b) (e := e) n (by omega)
    unfold snC
    rw [this, tAt_cons (by omega)]
theorem snC_le {b e : Int} : ∀ {ts : List Tn} {c : Int}, CH ts c → snC ts b e ts.length ≤ c
  | [], c, h => h
  | t :: ts, c, h => by
    have h1 := snC_le (b := b) (e := e) h.2.2
    have h2 := h.1
    have h3 := h.2.1
    show snC (t :: ts) b e (ts.length + 1) ≤ c
    unfold snC
    rw [snC_cons _ (Nat.le_refl _), tAt_last]
    omega
theorem barD_iff {tp : Nat → Int} {td : Nat} {tm : Nat → Int} {D : Dt} {t : Int} {k : Nat} (hS : SI tp td tm D) (hk : k < D.2.2.1) (ht : 0 ≤ t ∧ t < D.2.2.2.2) : barD D t = (k : Int) ↔ D.2.2.2.1 k ≤ t ∧ t < barE D k := by
  obtain ⟨b1, b2, b3, b4⟩ := brk hS
  have p := barN_prop (D := D) (t := t) (by rw [b3 (by omega)]; exact ht.1) (D.2.2.1 - 1)
  unfold barD barE
  generalize barN D t (D.2.2.1 - 1) = q at *
  obtain ⟨p1, p2, p3⟩ := p
  constructor
  · intro e
    have e : q = k := by omega
    rw [e] at p1 p3
    refine ⟨p1, ?_⟩
    split
    · have := p3 (k + 1) (by omega) (by omega)
      omega
    · exact ht.2
  · rintro ⟨c1, c2⟩
    have : q = k := by
      rcases Nat.lt_trichotomy q k with z | z | z
      · exact absurd c1 (p3 k z (by omega))
      · exact z
      · rw [if_pos (by omega)] at c2
        by_cases e : k + 1 = q
        · rw [e] at c2; omega
        · have := b1 (k + 1) q (by omega) (by omega)
          omega
    omega
theorem barD_rng {tp : Nat → Int} {td : Nat} {tm : Nat → Int} {D : Dt} {t : Int} (hS : SI tp td tm D) (hb : 0 < D.2.2.1) (ht : 0 ≤ t) : 0 ≤ barD D t ∧ barD D t < D.2.2.1 := by
  have p := barN_prop (D := D) (t := t) (by rw [(brk hS).2.2.1 hb]; exact ht) (D.2.2.1 - 1)
  unfold barD
  omega
theorem barE_rng {tp : Nat → Int} {td : Nat} {tm : Nat → Int} {D : Dt} {k : Nat} (hS : SI tp td tm D) (hk : k < D.2.2.1) : (0 ≤ D.2.2.2.1 k ∧ D.2.2.2.1 k ≤ 1000000) ∧ D.2.2.2.1 k ≤ barE D k ∧ barE D k ≤ 1000000 := by
  obtain ⟨b1, b2, b3, b4⟩ := brk hS
  have en := hS.en
  have h1 := b2 k hk
  unfold barE
  split
  · rename_i z
    have h2 := b2 (k + 1) z
    have h3 := b1 k (k + 1) (by omega) z
    omega
  · omega
section OPS8
variable {m m' : Mem} {K : Option SV → Mem → Prop} {tp : Nat → Int} {td : Nat} {fl : Int × Int} {tm : Nat → Int} {D : Dt} {a sa sb j : Nat} {st : Bool} {f f' : NF} {i : Int}
theorem c_minZ {md : Bool} {p q : Int} {x y : Int32} (hx : x = iZ p) (hy : y = iZ q) (rp : R32 p) (rq : R32 q) (h : K (some (vI (iZ (min p q)))) m) : smC md 245 [vI x, vI y] m K := by
  refine c_min ?_
  rw [hx, hy, iZ_toInt rp, iZ_toInt rq]; exact h
theorem c_maxZ {md : Bool} {p q : Int} {x y : Int32} (hx : x = iZ p) (hy : y = iZ q) (rp : R32 p) (rq : R32 q) (h : K (some (vI (iZ (max p q)))) m) : smC md 246 [vI x, vI y] m K := by
  refine c_max ?_
  rw [hx, hy, iZ_toInt rp, iZ_toInt rq]; exact h
theorem M_lesser {p q : Int} {x y : Int32} (hx : x = iZ p) (hy : y = iZ q) (rp : R32 p) (rq : R32 q) (h : K (some (vI (iZ (min p q)))) m) : smC true 229 [vI x, vI y] m K := by
  subst hx; subst hy
  refine smC_wp [some (vI (iZ p)), some (vI (iZ q))] cd_229 [] 20 OK_229 (by decide) rfl rfl (Nat.le_of_ble_eq_true rfl) ?_
  refine And.intro (fun z => ?_) (fun z => ?_)
  · rw [iZ_le rq rp] at z
    rw [show min p q = q by omega] at h; exact And.intro trivial h
  · rw [iZ_le rq rp] at z
    rw [show min p q = p by omega] at h; exact And.intro trivial h
theorem M_greater {p q : Int} {x y : Int32} (hx : x = iZ p) (hy : y = iZ q) (rp : R32 p) (rq : R32 q) (h : K (some (vI (iZ (max p q)))) m) : smC true 230 [vI x, vI y] m K := by
  subst hx; subst hy
  refine smC_wp [some (vI (iZ p)), some (vI (iZ q))] cd_230 [] 20 OK_230 (by decide) rfl rfl (Nat.le_of_ble_eq_true rfl) ?_
  refine And.intro (fun z => ?_) (fun z => ?_)
  · rw [iZ_le rp rq] at z
    rw [show max p q = q by omega] at h; exact And.intro trivial h
  · rw [iZ_le rp rq] at z
    rw [show max p q = p by omega] at h; exact And.intro trivial h
theorem c_barEnd {k : Nat} {x : Int32} (hx : x = iZ k) (hk : k < D.2.2.1) (hD : DOK D) (hR : SRep m sa D) (h : K (some (vI (iZ (barE D k)))) m) : smC true 57 [vR (some (10, sa)), vI x] m K := by
  subst hx
  have h120 := hD.2.2
  unfold barE at h
  have e1 : iZ (k : Int) + 1 = iZ ((k + 1 : Nat) : Int) := by rw [L1, iZ_add]; congr 1
  have ec : (iZ ((k + 1 : Nat) : Int)).toNatClampNeg = k + 1 := by rw [iZ_clamp (by constructor <;> omega)]; omega
  refine smC_wp [some (vR (some (10, sa))), some (vI (iZ k))] cd_57 [] 30 OK_57 (by decide) rfl rfl (Nat.le_of_ble_eq_true rfl) ?_
  refine And.intro (fun z => ?_) (fun z => ?_)
  · rw [e1, hR.1.2.1, iZ_le (by constructor <;> omega) (by constructor <;> omega)] at z
    rw [if_neg (by omega)] at h
    refine And.intro trivial ?_
    rw [hR.1.2.2]; exact h
  · rw [e1, hR.1.2.1, iZ_le (by constructor <;> omega) (by constructor <;> omega)] at z
    rw [if_pos (by omega)] at h
    refine And.intro (by rw [e1]; exact (iZ_in (by constructor <;> omega)).mpr (by omega)) ?_
    refine And.intro trivial ?_
    rw [e1, ec, hR.2.2 (k + 1) (by omega)]; exact h
theorem c_notesInBar {k : Nat} {x : Int32} (hx : x = iZ k) (hk : k < D.2.2.1) (hD : DOK D) (hR : SRep m sa D) (h : K (some (vI (iZ (ntC D k D.1)))) m) : smC true 58 [vR (some (10, sa)), vI x] m K := by
  subst hx
  have h120 := hD.2.2
  have h48 := hD.1
  have loop : ∀ s i, i + s = D.1 → smE true 58 4 [some (vR (some (10, sa))), some (vI (iZ k)), some (vI (iZ (ntC D k i))), some (vI (iZ (i : Nat)))] [] m K := by
    intro s
    induction s with
    | zero =>
      intro i ei
      refine wp1_ok (by decide) OK_58 (cc := cd_58) rfl (stops := [4]) (f := 40) ?_
      refine And.intro (fun _ => ?_) (fun z => ?_)
      · have : i = D.1 := by omega
        subst this
        exact And.intro trivial h
      · rw [hR.1.1, iZ_le (by constructor <;> omega) (by constructor <;> omega)] at z; omega
    | succ s ih =>
      intro i ei
      have ec : (iZ (i : Int)).toNatClampNeg = i := by rw [iZ_clamp (by constructor <;> omega)]; omega
      have e6 := (hR.2.1 i (by omega)).1.2.2.2.1
      have r6 := (hD.2.1 i (by omega)).2.2.2.1
      have nx : ∀ v : Int, v = ntC D k (i + 1) → smE true 58 4 [some (vR (some (10, sa))), some (vI (iZ k)), some (vI (iZ v)), some (vI (iZ ((i : Int) + 1)))] [] m K := fun v hv => by subst hv; exact ih (i + 1) (by omega)
      refine wp1_ok (by decide) OK_58 (cc := cd_58) rfl (stops := [4]) (f := 40) ?_
      refine And.intro (fun z => ?_) (fun z => ?_)
      · rw [hR.1.1, iZ_le (by constructor <;> omega) (by constructor <;> omega)] at z; omega
      refine And.intro ((iZ_in (by constructor <;> omega)).mpr (by omega)) ?_
      refine And.intro (fun y => ?_) (fun y => ?_)
      · rw [ec, e6, iZ_eq (by constructor <;> omega) (by constructor <;> omega)] at y
        refine And.intro trivial ?_
        rw [L1, iZ_add]
        exact nx _ (by rw [ntC, if_neg y, Int.add_zero])
      · rw [ec, e6, iZ_eq (by constructor <;> omega) (by constructor <;> omega)] at y
        refine And.intro trivial ?_
        rw [L1, iZ_add, iZ_add]
        exact nx _ (by rw [ntC, if_pos y])
  refine smC_wp [some (vR (some (10, sa))), some (vI (iZ k)), none, none] cd_58 [4] 30 OK_58 (by decide) rfl rfl (Nat.le_of_ble_eq_true rfl) ?_
  exact And.intro trivial (loop D.1 0 (by omega))
theorem c_tonesBetween {b e : Int} {x y : Int32} {a3 r : Nat} {ts : List Tn} (hx : x = iZ b) (hy : y = iZ e) (rb : 0 ≤ b ∧ b ≤ 1000000) (re : 0 ≤ e ∧ e ≤ 1000000) (h1 : gI m 6 6 1 = iZ ts.length) (hp : gP m 6 6 4 = some (20, a3)) (hg : gL m 20 a3 = r) (hn : ts.length ≤ r ∧ r ≤ 3504) (hv : ∀ k, k < ts.length → gI m 20 a3 k = iZ (tAt ts k).2.2.2.2.1 ∧ 0 ≤ (tAt ts k).2.2.2.2.1 ∧ (tAt ts k).2.2.2.2.1 ≤ 1000000) (hk : K (some (vI (iZ (tnC ts b e ts.length)))) m) : smC true 48 [vR (some (6, 6)), vI x, vI y] m K := by
  subst hx; subst hy
  have loop : ∀ s k, k + s = ts.length → smE true 48 5 [some (vR (some (6, 6))), some (vI (iZ b)), some (vI (iZ e)), some (vI (iZ (tnC ts b e k))), some (vI (iZ (k : Nat)))] [] m K := by
    intro s
    induction s with
    | zero =>
      intro k ek
      refine wp1_ok (by decide) OK_48 (cc := cd_48) rfl (stops := [5]) (f := 40) ?_
      refine And.intro (fun _ => ?_) (fun z => ?_)
      · have : k = ts.length := by omega
        subst this
        exact And.intro trivial hk
      · rw [h1, iZ_le (by constructor <;> omega) (by constructor <;> omega)] at z; omega
    | succ s ih =>
      intro k ek
      obtain ⟨v1, v2, v3⟩ := hv k (by omega)
      have ec : (iZ (k : Int)).toNatClampNeg = k := by rw [iZ_clamp (by constructor <;> omega)]; omega
      have hin : vp_in (iZ (k : Int)) (gL m 20 a3) := (iZ_in (by constructor <;> omega)).mpr (by omega)
      have nx : ∀ v : Int, v = tnC ts b e (k + 1) → smE true 48 5 [some (vR (some (6, 6))), some (vI (iZ b)), some (vI (iZ e)), some (vI (iZ v)), some (vI (iZ ((k : Int) + 1)))] [] m K := fun v hv => by subst hv; exact ih (k + 1) (by omega)
      refine wp1_ok (by decide) OK_48 (cc := cd_48) rfl (stops := [5]) (f := 40) ?_
      refine And.intro (fun z => ?_) (fun z => ?_)
      · rw [h1, iZ_le (by constructor <;> omega) (by constructor <;> omega)] at z; omega
      refine Exists.intro _ (And.intro hp ?_)
      refine And.intro hin ?_
      refine And.intro (fun y => ?_) (fun y => ?_)
      · rw [ec, v1, iZ_lt (by constructor <;> omega) (by constructor <;> omega)] at y
        refine And.intro trivial ?_
        rw [L1, iZ_add]
        exact nx _ (by rw [tnC, if_neg (by omega), Int.add_zero])
      rw [ec, v1, iZ_lt (by constructor <;> omega) (by constructor <;> omega)] at y
      refine Exists.intro _ (And.intro hp ?_)
      refine And.intro hin ?_
      refine And.intro (fun u => ?_) (fun u => ?_)
      · rw [ec, v1, iZ_le (by constructor <;> omega) (by constructor <;> omega)] at u
        refine And.intro trivial ?_
        rw [L1, iZ_add]
        exact nx _ (by rw [tnC, if_neg (by omega), Int.add_zero])
      · rw [ec, v1, iZ_le (by constructor <;> omega) (by constructor <;> omega)] at u
        refine And.intro trivial ?_
        rw [L1, iZ_add, iZ_add]
        exact nx _ (by rw [tnC, if_pos (by omega)])
  refine smC_wp [some (vR (some (6, 6))), some (vI (iZ b)), some (vI (iZ e)), none, none] cd_48 [5] 30 OK_48 (by decide) rfl rfl (Nat.le_of_ble_eq_true rfl) ?_
  exact And.intro trivial (loop ts.length 0 (by omega))
theorem c_sounding {b e : Int} {x y : Int32} {a3 a4 r : Nat} {ts : List Tn} (hx : x = iZ b) (hy : y = iZ e) (rb : 0 ≤ b ∧ b ≤ 1000000) (re : 0 ≤ e ∧ e ≤ 1000000) (h1 : gI m 6 6 1 = iZ ts.length) (hp : gP m 6 6 4 = some (20, a3)) (hp4 : gP m 6 6 5 = some (20, a4)) (hg : gL m 20 a3 = r) (hg4 : gL m 20 a4 = r) (hn : ts.length ≤ r ∧ r ≤ 3504) (hv : ∀ k, k < ts.length → gI m 20 a3 k = iZ (tAt ts k).2.2.2.2.1 ∧ gI m 20 a4 k = iZ (tAt ts k).2.2.2.2.2 ∧ 0 ≤ (tAt ts k).2.2.2.2.1 ∧ 0 ≤ (tAt ts k).2.2.2.2.2 ∧ (tAt ts k).2.2.2.2.1 + (tAt ts k).2.2.2.2.2 ≤ 1000000) (hk : K (some (vI (iZ (snC ts b e ts.length)))) m) : smC true 49 [vR (some (6, 6)), vI x, vI y] m K := by
  subst hx; subst hy
  have loop : ∀ s k, k + s = ts.length → smE true 49 5 [some (vR (some (6, 6))), some (vI (iZ b)), some (vI (iZ e)), some (vI (iZ (snC ts b e k))), some (vI (iZ (k : Nat)))] [] m K := by
    intro s
    induction s with
    | zero =>
      intro k ek
      refine wp1_ok (by decide) OK_49 (cc := cd_49) rfl (stops := [5]) (f := 40) ?_
      refine And.intro (fun _ => ?_) (fun z => ?_)
      · have : k = ts.length := by omega
        subst this
        exact And.intro trivial hk
      · rw [h1, iZ_le (by constructor <;> omega) (by constructor <;> omega)] at z; omega
    | succ s ih =>
      intro k ek
      obtain ⟨v1, v2, v3, v4, v5⟩ := hv k (by omega)
      have ec : (iZ (k : Int)).toNatClampNeg = k := by rw [iZ_clamp (by constructor <;> omega)]; omega
      have hin : ∀ {r' : Nat}, r' = r → vp_in (iZ (k : Int)) r' := fun e => (iZ_in (by constructor <;> omega)).mpr (by omega)
      have nx : ∀ v : Int, v = snC ts b e (k + 1) → smE true 49 5 [some (vR (some (6, 6))), some (vI (iZ b)), some (vI (iZ e)), some (vI (iZ v)), some (vI (iZ ((k : Int) + 1)))] [] m K := fun v hv => by subst hv; exact ih (k + 1) (by omega)
      unfold snC at nx
      generalize hts : tAt ts k = t at *
      refine wp1_ok (by decide) OK_49 (cc := cd_49) rfl (stops := [5]) (f := 40) ?_
      refine And.intro (fun z => ?_) (fun z => ?_)
      · rw [h1, iZ_le (by constructor <;> omega) (by constructor <;> omega)] at z; omega
      refine Exists.intro _ (And.intro hp ?_)
      refine And.intro (hin hg) ?_
      refine Exists.intro _ (And.intro hp4 ?_)
      refine And.intro (hin hg4) ?_
      refine And.intro trivial (c_minZ (p := e) (q := t.2.2.2.2.1 + t.2.2.2.2.2) rfl (by rw [ec, v1, v2, iZ_add]) (by constructor <;> omega) (by constructor <;> omega) ?_)
      refine Exists.intro _ (And.intro hp ?_)
      refine And.intro (hin hg) ?_
      refine And.intro trivial (c_maxZ (p := b) (q := t.2.2.2.2.1) rfl (by rw [ec, v1]) (by constructor <;> omega) (by constructor <;> omega) ?_)
      refine And.intro trivial (c_maxZ (p := 0) (q := min e (t.2.2.2.2.1 + t.2.2.2.2.2) - max b t.2.2.2.2.1) L0 (by rw [iZ_sub]) (by decide) (by constructor <;> omega) ?_)
      refine And.intro trivial ?_
      rw [iZ_add, L1, iZ_add]
      exact nx _ rfl
  refine smC_wp [some (vR (some (6, 6))), some (vI (iZ b)), some (vI (iZ e)), none, none] cd_49 [5] 30 OK_49 (by decide) rfl rfl (Nat.le_of_ble_eq_true rfl) ?_
  exact And.intro trivial (loop ts.length 0 (by omega))
theorem snC_rng {b e : Int} (hS : SI tp td tm D) : 0 ≤ snC (wr tm (tm 5) D D.1).1 b e (wr tm (tm 5) D D.1).1.length ∧ snC (wr tm (tm 5) D D.1).1 b e (wr tm (tm 5) D D.1).1.length ≤ 1000000 := by
  have h := wr_w hS.2.2.1 hS.t5 hS.dok D.1 (Nat.le_refl _)
  have h2 := snC_le (b := b) (e := e) h.1
  rw [wr_end hS.2.2.1 hS.t5 hS.dok hS.bok] at h2
  have en := hS.en
  exact ⟨snC_nn _, by omega⟩
theorem qBx_2 {k : Nat} {w : Int} (h : w = 2 ∨ w = 3) : qBx tm D k w = qPt (barE D k - D.2.2.2.1 k) (w - 2) := by
  unfold qBx; rw [if_neg (by omega), if_neg (by omega), if_pos h]
theorem qBx_4 {k : Nat} {w : Int} (h : w = 4 ∨ w = 5) : qBx tm D k w = qPt (snC (wr tm (tm 5) D D.1).1 (D.2.2.2.1 k) (barE D k) (wr tm (tm 5) D D.1).1.length) (w - 4) := by
  unfold qBx; rw [if_neg (by omega), if_neg (by omega), if_neg (by omega), if_pos h]
theorem qBx_n {k : Nat} {w : Int} (h : ¬ (0 ≤ w ∧ w ≤ 5)) : qBx tm D k w = -2 := by
  unfold qBx; rw [if_neg (by omega), if_neg (by omega), if_neg (by omega), if_neg (by omega)]
theorem C_bar {k w : Int} {x y : Int32} (hx : x = iZ k) (hy : y = iZ w) (rk : R32 k) (rw' : R32 w) (hS : SI tp td tm D) (h : CJ m tp td fl tm D a sa sb j st)
    (hk : ∀ m', CI m' tp td fl tm D a → FC m m' → K (some (vL (iL (qBar tm D k w)))) m') : smC true 122 [vR (some (0, 0)), vI x, vI y] m K := by
  subst hx; subst hy
  unfold qBar at hk
  have en := hS.en
  have hR := h.srep
  refine smC_wp [some (vR (some (0, 0))), some (vI (iZ k)), some (vI (iZ w)), none, none] cd_122 [15, 19] 60 OK_122 (by decide) rfl rfl (Nat.le_of_ble_eq_true rfl) ?_
  have bad : ¬ (0 ≤ k ∧ k < D.2.2.1) → smE true 122 15 [some (vR (some (0, 0))), some (vI (iZ k)), some (vI (iZ w)), none, none] [] m K := by
    intro z
    rw [if_neg z] at hk
    refine wp_ok (by decide) OK_122 (cc := cd_122) rfl (stops := []) 20 _ _ _ _ ?_
    exact And.intro trivial (hk m ⟨sa, sb, j, st, h⟩ (FC.rf _))
  refine And.intro (fun z => ?_) (fun z => ?_)
  · rw [L0, iZ_lt rk (by decide)] at z
    exact And.intro trivial (bad (by omega))
  rw [L0, iZ_lt rk (by decide)] at z
  refine Exists.intro _ (And.intro h.1.2.1 ?_)
  refine And.intro (fun y => ?_) (fun y => ?_)
  rotate_left
  · rw [hR.1.2.1, iZ_lt rk (by constructor <;> omega)] at y
    exact And.intro trivial (bad (by omega))
  rw [hR.1.2.1, iZ_lt rk (by constructor <;> omega)] at y
  rw [if_pos (by omega)] at hk
  refine And.intro trivial ?_
  obtain ⟨n, rfl⟩ : ∃ n : Nat, k = (n : Int) := ⟨k.toNat, by omega⟩
  have hn : n < D.2.2.1 := by omega
  rw [show ((n : Nat) : Int).toNat = n by omega] at hk
  have ec : (iZ (n : Int)).toNatClampNeg = n := by rw [iZ_clamp (by constructor <;> omega)]; omega
  obtain ⟨rb, re1, re2⟩ := barE_rng hS hn
  have eb := hR.2.2 n hn
  refine wp1_ok (by decide) OK_122 (cc := cd_122) rfl (stops := [39]) (f := 60) ?_
  refine Exists.intro _ (And.intro h.1.2.1 ?_)
  refine And.intro ((iZ_in (by constructor <;> omega)).mpr (by omega)) ?_
  refine Exists.intro _ (And.intro h.1.2.1 ?_)
  refine And.intro trivial (c_barEnd rfl hn hS.dok hR ?_)
  refine And.intro trivial ?_
  rw [ec, eb]
  refine wp1_ok (by decide) OK_122 (cc := cd_122) rfl (stops := [109, 120]) (f := 60) ?_
  refine And.intro (fun u => ?_) ?_
  · have u := swk (k := 0) rw' (by decide) rfl u
    subst u
    refine Exists.intro _ (And.intro h.1.2.1 ?_)
    refine And.intro trivial (h.written (fun m1 j1 h1 FC1 => ?_))
    have hk := hk m1 ⟨sa, sb, j1, false, h1⟩ FC1
    obtain ⟨a1, a2, a3, a4, r, ⟨p1, p2, p3, p4⟩, ⟨l1, l2, l3, l4⟩, hn', hv, e1, hW⟩ := h1.rows
    refine And.intro trivial (c_tonesBetween rfl rfl rb (by omega) e1 p3 l3 hn' (fun q hq => ?_) ?_)
    · obtain ⟨_, t4, t5, t6⟩ := tone_ok hS hS.t5 hq
      exact ⟨(hv.at hq).2.2.1, t4, by omega⟩
    refine And.intro trivial ?_
    have r1 := tnC_rng (ts := (wr tm (tm 5) D D.1).1) (b := D.2.2.2.1 n) (e := barE D n) (wr tm (tm 5) D D.1).1.length
    rw [iZ_iL (by constructor <;> omega)]
    exact hk
  refine And.intro (fun u => ?_) ?_
  · have u := swk (k := 1) rw' (by decide) rfl u
    subst u
    refine Exists.intro _ (And.intro h.1.2.1 ?_)
    refine And.intro trivial (c_notesInBar rfl hn hS.dok hR ?_)
    refine And.intro trivial ?_
    have r1 := ntC_rng (D := D) (k := n) D.1
    have h48 := hS.dok.1
    rw [iZ_iL (by constructor <;> omega)]
    exact hk m ⟨sa, sb, j, st, h⟩ (FC.rf _)
  have two : w = 2 ∨ w = 3 → smE true 122 109 [some (vR (some (0, 0))), some (vI (iZ (n : Int))), some (vI (iZ w)), some (vI (iZ (D.2.2.2.1 n))), some (vI (iZ (barE D n)))] [] m K := by
    intro u
    rw [qBx_2 u] at hk
    refine wp_ok (by decide) OK_122 (cc := cd_122) rfl (stops := []) 20 _ _ _ _ ?_
    refine And.intro trivial (c_partOf (t := barE D n - D.2.2.2.1 n) (w := w - 2) (by rw [iZ_sub]) (by rw [L2, iZ_sub]) (by omega) (by constructor <;> omega) ?_)
    exact And.intro trivial (hk m ⟨sa, sb, j, st, h⟩ (FC.rf _))
  have four : w = 4 ∨ w = 5 → smE true 122 120 [some (vR (some (0, 0))), some (vI (iZ (n : Int))), some (vI (iZ w)), some (vI (iZ (D.2.2.2.1 n))), some (vI (iZ (barE D n)))] [] m K := by
    intro u
    rw [qBx_4 u] at hk
    refine wp_ok (by decide) OK_122 (cc := cd_122) rfl (stops := []) 20 _ _ _ _ ?_
    refine Exists.intro _ (And.intro h.1.2.1 ?_)
    refine And.intro trivial (h.written (fun m1 j1 h1 FC1 => ?_))
    have hk := hk m1 ⟨sa, sb, j1, false, h1⟩ FC1
    obtain ⟨a1, a2, a3, a4, r, ⟨p1, p2, p3, p4⟩, ⟨l1, l2, l3, l4⟩, hn', hv, e1, hW⟩ := h1.rows
    have rs := snC_rng (b := D.2.2.2.1 n) (e := barE D n) hS
    refine And.intro trivial (c_sounding rfl rfl rb (by omega) e1 p3 p4 l3 l4 hn' (fun q hq => ?_) ?_)
    · obtain ⟨_, t4, t5, t6⟩ := tone_ok hS hS.t5 hq
      exact ⟨(hv.at hq).2.2.1, (hv.at hq).2.2.2, t4, by omega, by omega⟩
    refine And.intro trivial (c_partOf (w := w - 4) rfl (by rw [L4, iZ_sub]) (by omega) (by constructor <;> omega) ?_)
    exact And.intro trivial hk
  refine And.intro (fun u => And.intro trivial (two (Or.inl (swk (k := 2) rw' (by decide) rfl u)))) ?_
  refine And.intro (fun u => And.intro trivial (two (Or.inr (swk (k := 3) rw' (by decide) rfl u)))) ?_
  refine And.intro (fun u => And.intro trivial (four (Or.inl (swk (k := 4) rw' (by decide) rfl u)))) ?_
  refine And.intro (fun u => And.intro trivial (four (Or.inr (swk (k := 5) rw' (by decide) rfl u)))) ?_
  intro u
  rw [iZ_toInt rw'] at u
  rw [qBx_n (by omega)] at hk
  exact And.intro trivial (hk m ⟨sa, sb, j, st, h⟩ (FC.rf _))
theorem Q_bar {k w : Int} {x y : Int32} (hx : x = iZ k) (hy : y = iZ w) (rk : R32 k) (rw' : R32 w) (hS : SI tp td tm D) (h : MI m tp td fl tm D)
    (hk : ∀ m', MI m' tp td fl tm D → Fr AMa m m' → K (some (vL (iL (qBar tm D k w)))) m') : smC true 228 [vR (some (23, 231)), vI x, vI y] m K := by
  subst hx; subst hy
  unfold qBar at hk
  have en := hS.en
  refine smC_wp [some (vR (some (23, 231))), some (vI (iZ k)), some (vI (iZ w)), none, none, none, none] cd_228 [5] 60 OK_228 (by decide) rfl rfl (Nat.le_of_ble_eq_true rfl) ?_
  refine And.intro trivial ?_
  obtain ⟨h0, F0⟩ := h.b0
  generalize sI m 23 231 0 0 = m0 at *
  have bad : ¬ ((0 ≤ k ∧ k < D.2.2.1) ∧ 0 ≤ w ∧ w ≤ 5) → smE true 228 35 [some (vR (some (23, 231))), some (vI (iZ k)), some (vI (iZ w)), none, none, none, none] [] m0 K := by
    intro z
    refine wp_ok (by decide) OK_228 (cc := cd_228) rfl (stops := []) 20 _ _ _ _ ?_
    have hk := hk m0 h0 F0.qa
    refine And.intro trivial ?_
    by_cases e : 0 ≤ k ∧ k < D.2.2.1
    · rw [if_pos e, qBx_n (fun y => z ⟨e, y⟩)] at hk; exact hk
    · rw [if_neg e] at hk; exact hk
  refine wp1_ok (by decide) OK_228 (cc := cd_228) rfl (stops := [35, 39]) (f := 60) ?_
  refine And.intro (by rw [L1, iZ_in (by decide)]; decide) ?_
  have e1 : gI m0 29 237 (1 : Int32).toNatClampNeg = iZ D.2.2.1 := h0.2.2.1.1.2.1
  have e2 : (gI m0 29 237 (1 : Int32).toNatClampNeg - 1).toInt64 = iL ((D.2.2.1 : Int) - 1) := by rw [e1, L1, iZ_sub]; exact iZ_iL (by constructor <;> omega)
  refine And.intro trivial (M_isIn (v := k) (lo := 0) (hi := (D.2.2.1 : Int) - 1) (iZ_iL rk) rfl e2 (by obtain ⟨u, v⟩ := rk; constructor <;> omega) (by decide) (by constructor <;> omega) (fun q => ?_) (fun q => ?_))
  rotate_left
  · refine And.intro (fun _ => ?_) (fun z => absurd rfl z)
    exact And.intro trivial (bad (fun z => by omega))
  refine And.intro (fun z => absurd z (by decide)) (fun _ => ?_)
  refine And.intro trivial (M_in (v := w) (lo := 0) (hi := 5) rfl rw' (by decide) (by decide) rfl rfl (fun z => ?_) (fun z => ?_))
  rotate_left
  · refine And.intro (fun z => absurd rfl z) (fun _ => ?_)
    exact And.intro trivial (bad (fun y => z y.2))
  refine And.intro (fun _ => ?_) (fun z => absurd z (by decide))
  rw [if_pos (by omega)] at hk
  refine And.intro trivial ?_
  obtain ⟨n, rfl⟩ : ∃ n : Nat, k = (n : Int) := ⟨k.toNat, by omega⟩
  have hn : n < D.2.2.1 := by omega
  rw [show ((n : Nat) : Int).toNat = n by omega] at hk
  obtain ⟨rb, re1, re2⟩ := barE_rng hS hn
  refine wp1_ok (by decide) OK_228 (cc := cd_228) rfl (stops := [87]) (f := 60) ?_
  refine And.intro trivial (MI.writes hS h0 (fun m1 h1 S1 F1 => ?_))
  have hk := hk m1 h1 (F0.qa.tr F1.qa)
  have hM := h1.2.2.1
  have hl := hS.len hS.t5
  have hlen := S1.len
  have ex : (1444 : Int32) + iZ (n : Int) = iZ ((1444 + n : Nat) : Int) := by rw [L1444, iZ_add]; congr 1
  have ex1 : (1444 : Int32) + iZ (n : Int) + 1 = iZ ((1444 + (n + 1) : Nat) : Int) := by rw [ex, L1, iZ_add]; congr 1
  have cx : (iZ ((1444 + n : Nat) : Int)).toNatClampNeg = 1444 + n := by rw [iZ_clamp (by constructor <;> omega)]; omega
  have cx1 : (iZ ((1444 + (n + 1) : Nat) : Int)).toNatClampNeg = 1444 + (n + 1) := by rw [iZ_clamp (by constructor <;> omega)]; omega
  have g1 : gI m1 29 237 (1 : Int32).toNatClampNeg = iZ D.2.2.1 := hM.1.2.1
  have g2 : gI m1 29 237 (2 : Int32).toNatClampNeg = iZ (3 * D.2.2.2.2) := hM.1.2.2
  have sw : smE true 228 87 [some (vR (some (23, 231))), some (vI (iZ (n : Int))), some (vI (iZ w)), some (vI (iZ (3 * D.2.2.2.1 n))), none, none, none] [vI (iZ (3 * barE D n))] m1 K := by
    have zero : w = 0 → ∀ s i, i + s = (wr tm (tm 5) D D.1).1.length → smE true 228 127 [some (vR (some (23, 231))), some (vI (iZ (n : Int))), some (vI (iZ w)), some (vI (iZ (3 * D.2.2.2.1 n))), some (vI (iZ (3 * barE D n))), some (vI (iZ (tnC (wr tm (tm 5) D D.1).1 (D.2.2.2.1 n) (barE D n) i))), some (vI (iZ (i : Nat)))] [] m1 K := by
      intro w0 s
      subst w0
      induction s with
      | zero =>
        intro i ei
        refine wp1_ok (by decide) OK_228 (cc := cd_228) rfl (stops := [127]) (f := 40) ?_
        refine And.intro (fun _ => ?_) (fun z => ?_)
        · have : i = (wr tm (tm 5) D D.1).1.length := by omega
          subst this
          refine And.intro trivial ?_
          have r1 := tnC_rng (ts := (wr tm (tm 5) D D.1).1) (b := D.2.2.2.1 n) (e := barE D n) (wr tm (tm 5) D D.1).1.length
          rw [iZ_iL (by constructor <;> omega)]
          exact hk
        · rw [hlen, iZ_le (by constructor <;> omega) (by constructor <;> omega)] at z; omega
      | succ s ih =>
        intro i ei
        have hi : i < (wr tm (tm 5) D D.1).1.length := by omega
        obtain ⟨_, t4, t5, t6⟩ := tone_ok hS hS.t5 hi
        have r6 := (S1.1.1.1.at hi).2.2.2.2.2.1
        have ec : (iZ (i : Int)).toNatClampNeg = i := by rw [iZ_clamp (by constructor <;> omega)]; omega
        have nx : ∀ v : Int, v = tnC (wr tm (tm 5) D D.1).1 (D.2.2.2.1 n) (barE D n) (i + 1) → smE true 228 127 [some (vR (some (23, 231))), some (vI (iZ (n : Int))), some (vI (iZ 0)), some (vI (iZ (3 * D.2.2.2.1 n))), some (vI (iZ (3 * barE D n))), some (vI (iZ v)), some (vI (iZ ((i : Int) + 1)))] [] m1 K := fun v hv => by subst hv; exact ih (i + 1) (by omega)
        unfold tnC at nx
        have hb := bars_pos hS hi
        generalize tAt (wr tm (tm 5) D D.1).1 i = t at *
        have hiff := barD_iff (t := t.2.2.2.2.1) hS hn (by omega)
        have hr := barD_rng (t := t.2.2.2.2.1) hS hb t4
        refine wp1_ok (by decide) OK_228 (cc := cd_228) rfl (stops := [127]) (f := 40) ?_
        refine And.intro (fun z => ?_) (fun z => ?_)
        · rw [hlen, iZ_le (by constructor <;> omega) (by constructor <;> omega)] at z; omega
        refine And.intro ((iZ_in (by constructor <;> omega)).mpr (by omega)) ?_
        refine And.intro trivial (M_barAt (t := t.2.2.2.2.1) (by rw [ec]; exact r6) (by omega) hS hM hb ?_)
        refine And.intro (fun y => ?_) (fun y => ?_)
        · rw [iZ_eq (by constructor <;> omega) (by constructor <;> omega), hiff] at y
          refine And.intro trivial ?_
          rw [L0, iZ_add, L1, iZ_add]
          exact nx _ (by rw [if_neg y])
        · rw [iZ_eq (by constructor <;> omega) (by constructor <;> omega), hiff] at y
          refine And.intro trivial ?_
          rw [L1, iZ_add, iZ_add]
          exact nx _ (by rw [if_pos y])
    have one : w = 1 → ∀ s i, i + s = D.1 → smE true 228 174 [some (vR (some (23, 231))), some (vI (iZ (n : Int))), some (vI (iZ w)), some (vI (iZ (3 * D.2.2.2.1 n))), some (vI (iZ (3 * barE D n))), some (vI (iZ (ntC D n i))), some (vI (iZ (i : Nat)))] [] m1 K := by
      intro w0 s
      subst w0
      have h48 := hS.dok.1
      have g0 : gI m1 29 237 (0 : Int32).toNatClampNeg = iZ D.1 := hM.1.1
      induction s with
      | zero =>
        intro i ei
        refine wp1_ok (by decide) OK_228 (cc := cd_228) rfl (stops := [174]) (f := 40) ?_
        refine And.intro (by rw [L0, iZ_in (by decide)]; decide) ?_
        refine And.intro (fun _ => ?_) (fun z => ?_)
        · have : i = D.1 := by omega
          subst this
          refine And.intro trivial ?_
          have r1 := ntC_rng (D := D) (k := n) D.1
          rw [iZ_iL (by constructor <;> omega)]
          exact hk
        · rw [g0, iZ_le (by constructor <;> omega) (by constructor <;> omega)] at z; omega
      | succ s ih =>
        intro i ei
        have hi : i < D.1 := by omega
        have r6 := (hS.dok.2.1 i hi).2.2.2.1
        have nx : ∀ v : Int, v = ntC D n (i + 1) → smE true 228 174 [some (vR (some (23, 231))), some (vI (iZ (n : Int))), some (vI (iZ 1)), some (vI (iZ (3 * D.2.2.2.1 n))), some (vI (iZ (3 * barE D n))), some (vI (iZ v)), some (vI (iZ ((i : Int) + 1)))] [] m1 K := fun v hv => by subst hv; exact ih (i + 1) (by omega)
        unfold ntC at nx
        refine wp1_ok (by decide) OK_228 (cc := cd_228) rfl (stops := [174]) (f := 40) ?_
        refine And.intro (by rw [L0, iZ_in (by decide)]; decide) ?_
        refine And.intro (fun z => ?_) (fun z => ?_)
        · rw [g0, iZ_le (by constructor <;> omega) (by constructor <;> omega)] at z; omega
        refine And.intro trivial (M_of (i := i) (w := 6) rfl rfl hS.dok hM hi (by decide) ?_)
        have e6 : mw 6 (D.2.1 i 6) = D.2.1 i 6 := rfl
        rw [e6]
        refine And.intro (fun y => ?_) (fun y => ?_)
        · rw [iZ_eq (by constructor <;> omega) (by constructor <;> omega)] at y
          refine And.intro trivial ?_
          rw [L0, iZ_add, L1, iZ_add]
          exact nx _ (by rw [if_neg y])
        · rw [iZ_eq (by constructor <;> omega) (by constructor <;> omega)] at y
          refine And.intro trivial ?_
          rw [L1, iZ_add, iZ_add]
          exact nx _ (by rw [if_pos y])
    have four : w = 4 ∨ w = 5 → ∀ s i, i + s = (wr tm (tm 5) D D.1).1.length → smE true 228 232 [some (vR (some (23, 231))), some (vI (iZ (n : Int))), some (vI (iZ w)), some (vI (iZ (3 * D.2.2.2.1 n))), some (vI (iZ (3 * barE D n))), some (vI (iZ (3 * snC (wr tm (tm 5) D D.1).1 (D.2.2.2.1 n) (barE D n) i))), some (vI (iZ (i : Nat)))] [] m1 K := by
      intro w4 s
      rw [qBx_4 w4] at hk
      induction s with
      | zero =>
        intro i ei
        have rs := snC_rng (b := D.2.2.2.1 n) (e := barE D n) hS
        refine wp1_ok (by decide) OK_228 (cc := cd_228) rfl (stops := [232]) (f := 40) ?_
        refine And.intro (fun _ => ?_) (fun z => ?_)
        · have : i = (wr tm (tm 5) D D.1).1.length := by omega
          subst this
          refine And.intro trivial (M_partL (w := w - 4) rfl (by rw [L4, iZ_sub]) (by omega) (by omega) (fun v hv => ?_))
          refine And.intro trivial ?_
          rw [hv]; exact hk
        · rw [hlen, iZ_le (by constructor <;> omega) (by constructor <;> omega)] at z; omega
      | succ s ih =>
        intro i ei
        have hi : i < (wr tm (tm 5) D D.1).1.length := by omega
        obtain ⟨_, t4, t5, t6⟩ := tone_ok hS hS.t5 hi
        obtain ⟨_, _, _, _, _, r6, r7⟩ := S1.1.1.1.at hi
        have ec : (iZ (i : Int)).toNatClampNeg = i := by rw [iZ_clamp (by constructor <;> omega)]; omega
        have hin : vp_in (iZ (i : Int)) 3600 := (iZ_in (by constructor <;> omega)).mpr (by omega)
        have nx : ∀ v : Int, v = 3 * snC (wr tm (tm 5) D D.1).1 (D.2.2.2.1 n) (barE D n) (i + 1) → smE true 228 232 [some (vR (some (23, 231))), some (vI (iZ (n : Int))), some (vI (iZ w)), some (vI (iZ (3 * D.2.2.2.1 n))), some (vI (iZ (3 * barE D n))), some (vI (iZ v)), some (vI (iZ ((i : Int) + 1)))] [] m1 K := fun v hv => by subst hv; exact ih (i + 1) (by omega)
        unfold snC at nx
        generalize tAt (wr tm (tm 5) D D.1).1 i = t at *
        refine wp1_ok (by decide) OK_228 (cc := cd_228) rfl (stops := [232]) (f := 40) ?_
        refine And.intro (fun z => ?_) (fun z => ?_)
        · rw [hlen, iZ_le (by constructor <;> omega) (by constructor <;> omega)] at z; omega
        refine And.intro hin ?_
        refine And.intro hin ?_
        refine And.intro trivial (M_lesser (p := 3 * barE D n) (q := 3 * t.2.2.2.2.1 + 3 * t.2.2.2.2.2) rfl (by rw [ec, r6, r7, iZ_add]) (by constructor <;> omega) (by constructor <;> omega) ?_)
        refine And.intro hin ?_
        refine And.intro trivial (M_greater (p := 3 * D.2.2.2.1 n) (q := 3 * t.2.2.2.2.1) rfl (by rw [ec, r6]) (by constructor <;> omega) (by constructor <;> omega) ?_)
        refine And.intro trivial (M_greater (p := 0) (q := min (3 * barE D n) (3 * t.2.2.2.2.1 + 3 * t.2.2.2.2.2) - max (3 * D.2.2.2.1 n) (3 * t.2.2.2.2.1)) L0 (by rw [iZ_sub]) (by decide) (by constructor <;> omega) ?_)
        refine And.intro trivial ?_
        rw [iZ_add, L1, iZ_add]
        exact nx _ (by omega)
    refine wp1_ok (by decide) OK_228 (cc := cd_228) rfl (stops := [127, 174, 217, 232]) (f := 60) ?_
    have two : w = 2 ∨ w = 3 → smE true 228 217 [some (vR (some (23, 231))), some (vI (iZ (n : Int))), some (vI (iZ w)), some (vI (iZ (3 * D.2.2.2.1 n))), some (vI (iZ (3 * barE D n))), some (vI 0), none] [] m1 K := by
      intro u
      rw [qBx_2 u] at hk
      refine wp_ok (by decide) OK_228 (cc := cd_228) rfl (stops := []) 20 _ _ _ _ ?_
      refine And.intro trivial (M_partL (t := barE D n - D.2.2.2.1 n) (w := w - 2) (by rw [iZ_sub]; congr 1; omega) (by rw [L2, iZ_sub]) (by omega) (by omega) (fun v hv => ?_))
      refine And.intro trivial ?_
      rw [hv]; exact hk
    refine And.intro (fun u => ?_) ?_
    · have u := swk (k := 0) rw' (by decide) rfl u
      exact And.intro trivial (zero u (wr tm (tm 5) D D.1).1.length 0 (by omega))
    refine And.intro (fun u => ?_) ?_
    · have u := swk (k := 1) rw' (by decide) rfl u
      exact And.intro trivial (one u D.1 0 (by omega))
    refine And.intro (fun u => And.intro trivial (two (Or.inl (swk (k := 2) rw' (by decide) rfl u)))) ?_
    refine And.intro (fun u => And.intro trivial (two (Or.inr (swk (k := 3) rw' (by decide) rfl u)))) ?_
    intro u
    rw [iZ_toInt rw'] at u
    exact And.intro trivial (four (by omega) (wr tm (tm 5) D D.1).1.length 0 (by omega))
  refine And.intro (by rw [ex]; exact (iZ_in (by constructor <;> omega)).mpr (by omega)) ?_
  refine And.intro (by rw [L1, iZ_in (by decide)]; decide) ?_
  rw [ex, cx, hM.2.2 n hn]
  have en1 : iZ (n : Int) + 1 = iZ ((n + 1 : Nat) : Int) := by rw [L1, iZ_add]; congr 1
  refine And.intro (fun y => ?_) (fun y => ?_)
  · rw [g1, en1, iZ_le (by constructor <;> omega) (by constructor <;> omega)] at y
    refine And.intro (by rw [L2, iZ_in (by decide)]; decide) ?_
    refine And.intro trivial ?_
    unfold barE at sw
    rw [if_neg (by omega)] at sw
    rw [g2]; exact sw
  · rw [g1, en1, iZ_le (by constructor <;> omega) (by constructor <;> omega)] at y
    refine And.intro (by rw [ex1]; exact (iZ_in (by constructor <;> omega)).mpr (by omega)) ?_
    refine And.intro trivial ?_
    unfold barE at sw
    rw [if_pos (by omega)] at sw
    rw [ex1, cx1, hM.2.2 (n + 1) (by omega)]; exact sw
end OPS8
