/-! richest, both; tries, instead of the Model -/
def moN (c : Int → Int) (n : Nat) : Int := if n = 0 then -1 else (rcN c n).2
theorem rc_step {c : Int → Int} {n : Nat} (hc : 0 ≤ c n) : (c n ≤ moN c n → (rcN c (n + 1)).1 = (rcN c n).1 ∧ moN c (n + 1) = moN c n) ∧ (¬ c n ≤ moN c n → (rcN c (n + 1)).1 = n ∧ moN c (n + 1) = c n) := by
  have e1 : moN c (n + 1) = (rcN c (n + 1)).2 := by unfold moN; rw [if_neg (by omega)]
  have e2 : rcN c (n + 1) = if (rcN c n).2 < c n then ((n : Int), c n) else rcN c n := rfl
  rw [e1, e2]
  unfold moN
  by_cases hn : n = 0
  · subst hn
    rw [if_pos rfl]
    have e0 : rcN c 0 = (0, 0) := rfl
    rw [e0]
    refine ⟨fun z => by omega, fun _ => ?_⟩
    by_cases h : ((0 : Int), (0 : Int)).2 < c ((0 : Nat) : Int)
    · rw [if_pos h]; exact ⟨rfl, rfl⟩
    · rw [if_neg h]
      have h : ¬ (0 : Int) < c ((0 : Nat) : Int) := h
      exact ⟨rfl, by show (0 : Int) = c ((0 : Nat) : Int); omega⟩
  · rw [if_neg hn]
    refine ⟨fun z => ?_, fun z => ?_⟩
    · rw [if_neg (by omega)]; exact ⟨rfl, rfl⟩
    · rw [if_pos (by omega)]; exact ⟨rfl, rfl⟩
section OPSC
variable {m m' m2 m3 m4 : Mem} {K : Option SV → Mem → Prop} {tp : Nat → Int} {td : Nat} {fl : Int × Int} {tm : Nat → Int} {D D' : Dt} {a sa sb j : Nat} {st : Bool} {f f' : NF} {i : Int}
theorem C_richest {x : Int32} (hx : x = iZ i) (ri : R32 i) (hS : SI tp td tm D) (h : CJ m tp td fl tm D a sa sb j st)
    (hk : ∀ m', CI m' tp td fl tm D a → FC m m' → K (some (vI (iZ (qRi tm D i)))) m') : smC true 128 [vR (some (0, 0)), vI x] m K := by
  subst hx
  unfold qRi at hk
  refine smC_wp [some (vR (some (0, 0))), some (vI (iZ i)), none, none, none, none, none] cd_128 [32] 90 OK_128 (by decide) rfl rfl (Nat.le_of_ble_eq_true rfl) ?_
  refine Exists.intro _ (And.intro h.1.2.1 ?_)
  refine And.intro trivial (c_playedNote rfl ri hS.dok h.srep (fun q1 q2 => ?_) (fun q => ?_))
  rotate_left
  · rw [if_neg q] at hk
    exact And.intro trivial (hk m ⟨sa, sb, j, st, h⟩ (FC.rf _))
  have hN : isN D i := ⟨q1.1, q1.2, q2⟩
  rw [if_pos hN] at hk
  have hn := (hS.nok hN).2
  have h48 := hS.dok.1
  have hsa := h.1.1
  have eci : (iZ i).toNatClampNeg = i.toNat := iZ_clamp ri
  have hc : ∀ k : Nat, k < 9 → 0 ≤ cR tm D i.toNat (k : Int) ∧ cR tm D i.toNat (k : Int) ≤ 73 := fun k hk => cR_rng hS hn q2 (by omega)
  refine And.intro trivial (c_takeBodyOf (by omega) (fun m1 a9 a10 a11 a12 F1 => ?_))
  obtain ⟨h1, FC1⟩ := h.aside hS F1
  have g1 : ∀ k, gI m1 8 (sa + 1 + 2 + 2 * i.toNat) k = gI m 8 (sa + 1 + 2 + 2 * i.toNat) k := fun k => F1.2 _ _ _ (by unfold AB; omega)
  have as1 : gI m1 8 229 9 = gI m1 8 (sa + 1 + 2 + 2 * i.toNat) 9 ∧ gI m1 8 229 10 = gI m1 8 (sa + 1 + 2 + 2 * i.toNat) 10 ∧ gI m1 8 229 11 = gI m1 8 (sa + 1 + 2 + 2 * i.toNat) 11 ∧ gI m1 8 229 12 = gI m1 8 (sa + 1 + 2 + 2 * i.toNat) 12 := ⟨by rw [a9, g1], by rw [a10, g1], by rw [a11, g1], by rw [a12, g1]⟩
  have loop : ∀ s n, n + s = 9 → ∀ (m1 : Mem) (x6 : Option SV), CJ m1 tp td fl tm D a sa sb j st → (gI m1 8 229 9 = gI m1 8 (sa + 1 + 2 + 2 * i.toNat) 9 ∧ gI m1 8 229 10 = gI m1 8 (sa + 1 + 2 + 2 * i.toNat) 10 ∧ gI m1 8 229 11 = gI m1 8 (sa + 1 + 2 + 2 * i.toNat) 11 ∧ gI m1 8 229 12 = gI m1 8 (sa + 1 + 2 + 2 * i.toNat) 12) → FC m m1 → smE true 128 32 [some (vR (some (0, 0))), some (vI (iZ i)), some (vR (some (8, sa + 1 + 2 + 2 * i.toNat))), some (vI (iZ (rcN (cR tm D i.toNat) n).1)), some (vI (iZ (moN (cR tm D i.toNat) n))), some (vI (iZ (n : Nat))), x6] [] m1 K := by
    intro s
    induction s with
    | zero =>
      intro n en m1 x6 h1 as1 FC1
      have : n = 9 := by omega
      subst this
      refine wp1_ok (by decide) OK_128 (cc := cd_128) rfl (stops := [32]) (f := 90) ?_
      refine And.intro (fun _ => ?_) (fun z => ?_)
      · exact And.intro trivial (hk m1 ⟨sa, sb, j, st, h1⟩ FC1)
      · exact absurd (by decide) z
    | succ s ih =>
      intro n en m1 x6 h1 as1 FC1
      have rr := rcN_rng hc n (by omega)
      have hcn := hc n (by omega)
      have z : 0 ≤ (n : Int) ∧ (n : Int) ≤ 8 := by omega
      have hst := rc_step (c := cR tm D i.toNat) (n := n) hcn.1
      have rm : R32 (moN (cR tm D i.toNat) n) := by unfold moN; split <;> constructor <;> omega
      have hR := h1.note hn
      have r12 := (hS.nok hN).1.2.2.2.2.2.2.2.2.2.1
      refine wp1_ok (by decide) OK_128 (cc := cd_128) rfl (stops := [32]) (f := 90) ?_
      refine And.intro (fun z => ?_) (fun _ => ?_)
      · rw [L8, iZ_lt (by decide) (by constructor <;> omega)] at z; omega
      refine And.intro trivial (c_putBody (kd := (n : Int)) (bh := D.2.1 i.toNat 12) rfl (by constructor <;> omega) (by constructor <;> omega) hR.1.2.2.2.2.2.2.2.2.2 (fun m2 y9 y10 y11 y12 F2 => ?_))
      have P2 := h1.pwt hS hn q2 z y9 y10 y11 y12 F2
      have hT := hS.try hn q2 z
      refine Exists.intro _ (And.intro ((Fr_gP F2 _ _ _).trans h1.1.2.1) ?_)
      refine And.intro vp5 ?_
      refine And.intro trivial (c_onPaper (pc := tm 5) (many := i + 1) (P2.2.2.1 5 (by decide)) (by rw [L1, iZ_add]) (by constructor <;> omega) hS.t5 P2 (fun m3 hW => ?_))
      rw [show min ((i + 1).toNat) (tryD D i.toNat (n : Int)).1 = i.toNat + 1 from by show min ((i + 1).toNat) D.1 = i.toNat + 1; omega] at hW
      have x2 : 229 < nX m2 := by
        have e : nX m2 = nX m1 := by unfold nX; rw [F2.1]
        have := h1.2.1.1
        omega
      have w3 := fun k : Nat => WL_aside (k := k) hW x2
      have ecn : gI m3 14 19 (iZ i).toNatClampNeg = iZ (cR tm D i.toNat (n : Int)) := by rw [eci]; exact (hW.scr.2.2.1 i.toNat (by omega)).2.1
      refine And.intro ((iZ_in ri).mpr (by omega)) ?_
      refine And.intro trivial (c_takeBodyOf (by omega) (fun m4 b9 b10 b11 b12 F4 => ?_))
      have g2 : ∀ k, gI m2 8 229 k = gI m1 8 229 k := fun k => F2.2 _ _ _ (by omega)
      have c9 : gI m4 8 (sa + 1 + 2 + 2 * i.toNat) 9 = gI m1 8 (sa + 1 + 2 + 2 * i.toNat) 9 := by rw [b9, w3, g2, as1.1]
      have c10 : gI m4 8 (sa + 1 + 2 + 2 * i.toNat) 10 = gI m1 8 (sa + 1 + 2 + 2 * i.toNat) 10 := by rw [b10, w3, g2, as1.2.1]
      have c11 : gI m4 8 (sa + 1 + 2 + 2 * i.toNat) 11 = gI m1 8 (sa + 1 + 2 + 2 * i.toNat) 11 := by rw [b11, w3, g2, as1.2.2.1]
      have c12 : gI m4 8 (sa + 1 + 2 + 2 * i.toNat) 12 = gI m1 8 (sa + 1 + 2 + 2 * i.toNat) 12 := by rw [b12, w3, g2, as1.2.2.2]
      obtain ⟨h4, FC4, F5⟩ := h1.back (by omega) F2 hW F4 c9 c10 c11 c12
      have d : ∀ k, gI m4 8 229 k = gI m1 8 229 k := fun k => F5.2.1 _ _ _ (by have := h1.2.1.1; omega) (nAV (by omega))
      have as4 : gI m4 8 229 9 = gI m4 8 (sa + 1 + 2 + 2 * i.toNat) 9 ∧ gI m4 8 229 10 = gI m4 8 (sa + 1 + 2 + 2 * i.toNat) 10 ∧ gI m4 8 229 11 = gI m4 8 (sa + 1 + 2 + 2 * i.toNat) 11 ∧ gI m4 8 229 12 = gI m4 8 (sa + 1 + 2 + 2 * i.toNat) 12 := ⟨by rw [d, c9, as1.1], by rw [d, c10, as1.2.1], by rw [d, c11, as1.2.2.1], by rw [d, c12, as1.2.2.2]⟩
      have nx : ∀ (b q : Int) (y : Option SV), b = (rcN (cR tm D i.toNat) (n + 1)).1 → q = moN (cR tm D i.toNat) (n + 1) → smE true 128 32 [some (vR (some (0, 0))), some (vI (iZ i)), some (vR (some (8, sa + 1 + 2 + 2 * i.toNat))), some (vI (iZ b)), some (vI (iZ q)), some (vI (iZ ((n : Int) + 1))), y] [] m4 K := fun b q y e1 e2 => by
        subst e1; subst e2
        exact ih (n + 1) (by omega) m4 y h4 as4 (FC1.tr FC4)
      refine And.intro (fun u => ?_) (fun u => ?_)
      · rw [ecn, iZ_le (by constructor <;> omega) rm] at u
        refine And.intro trivial ?_
        rw [L1, iZ_add]
        exact nx _ _ _ (hst.1 u).1.symm (hst.1 u).2.symm
      · rw [ecn, iZ_le (by constructor <;> omega) rm] at u
        refine And.intro trivial ?_
        rw [ecn, L1, iZ_add]
        exact nx _ _ _ (hst.2 u).1.symm (hst.2 u).2.symm
  exact And.intro trivial (loop 9 0 rfl m1 none h1 as1 FC1)
theorem MSR.fr {n : Nat} {pc : Int} {A : Nat → Nat → Nat → Prop} (h : MSR m tm pc D n) (F : Fr A m m') (hA : ∀ t n k, 34 ≤ t → ¬ A t n k) (h23 : ∀ n k, ¬ A 23 n k) : MSR m' tm pc D n :=
  ⟨h.1.fr F (fun t n k z => hA t n k z.1) (h23 _ _) (h23 _ _), fun i hi => (h.2 i hi).fr F (hA _ _ _ (by decide)) (hA _ _ _ (by decide)) (fun k _ => hA _ _ _ (by decide)) (hA _ _ _ (by decide)) (hA _ _ _ (by decide))⟩
theorem M_tries {n : Nat} {kd : Int} {x y : Int32} (hx : x = iZ n) (hy : y = iZ kd) (hn : n < D.1) (h1 : D.2.1 n 0 = 1) (hd : 0 ≤ kd ∧ kd ≤ 8) (hS : SI tp td tm D) (h : MI m tp td fl tm D)
    (hk : ∀ m', MI m' tp td fl tm D → MSR m' tm (tm 5) (tryD D n kd) D.1 → Fr AMa m m' → K none m') : smC true 238 [vR (some (23, 231)), vI x, vI y] m K := by
  subst hx; subst hy
  have h48 := hS.dok.1
  have hT := hS.try hn h1 hd
  have rk : R32 kd := by constructor <;> omega
  have r12 := (hS.dok.2.1 n hn).2.2.2.2.2.2.2.2.2.1
  have tail : ∀ m1, MI m1 tp td fl tm D → (∀ w, w < 30 → gI m1 47 255 w = iZ (mw w (D.2.1 n w))) → Fr AMa m m1 → smE true 238 26 [some (vR (some (23, 231))), some (vI (iZ n)), some (vI (iZ kd)), some (vI (iZ ((30 : Nat) : Int)))] [] m1 K := by
    intro m1 M1 A1 F1
    refine wp_ok (by decide) OK_238 (cc := cd_238) rfl (stops := [38]) 40 _ _ _ _ ?_
    refine And.intro trivial (M_becomes (f := D.2.1 n) rfl rfl (by omega) rk (by constructor <;> omega) (M1.row hn) (fun m2 W2 F2 => ?_))
    have M2 : MI m2 tp td fl tm (tryD D n kd) := M1.ed hS.dok hn (F2.mono (fun t n k z => ARo_e z)) W2
    refine And.intro trivial (M_writes ⟨M2.1.1, M2.2.1, M2.2.2.1⟩ hT.2.2.1 hT.dok hT.bok (fun m3 R3 F3 => ?_))
    have M3 : MI m3 tp td fl tm (tryD D n kd) := M2.fq (F3.mono (fun t n k z => AMW_q z))
    have A3 : ∀ w, w < 30 → gI m3 47 255 w = iZ (mw w (D.2.1 n w)) := fun w hw => ((F3.2 _ _ _ (by unfold AMW; omega)).trans (F2.2 _ _ _ (by unfold ARo; omega))).trans (A1 w hw)
    have G3 : Fr AMa m m3 := (F1.tr (F2.mono (fun t n k z => by unfold ARo at z; unfold AMa; omega))).tr (F3.mono (fun t n k z => AMq_a (AMW_q z)))
    have loop : ∀ s k, k + s = 30 → ∀ (m4 : Mem) (g : Nat → Int32), MRo m4 n g → (∀ w, w < k → g w = iZ (mw w (D.2.1 n w))) → Fr (ARo n) m3 m4 → smE true 238 38 [some (vR (some (23, 231))), some (vI (iZ n)), some (vI (iZ kd)), some (vI (iZ (k : Nat)))] [] m4 K := by
      intro s
      induction s with
      | zero =>
        intro k ek m4 g W4 gg F4
        have : k = 30 := by omega
        subst this
        refine wp1_ok (by decide) OK_238 (cc := cd_238) rfl (stops := [38]) (f := 40) ?_
        refine And.intro (fun _ => ?_) (fun z => absurd (by decide) z)
        have M4 : MI m4 tp td fl tm (edD (tryD D n kd) n (D.2.1 n)) := M3.ed hT.dok hn (F4.mono (fun t n k z => ARo_e z)) (fun w hw => (W4 w hw).trans (gg w hw))
        rw [tryD, edD_back] at M4
        exact And.intro trivial (hk m4 M4 (R3.fr F4 (fun t n k z => by unfold ARo; omega) (fun n k => by unfold ARo; omega)) (G3.tr (F4.mono (fun t n k z => by unfold ARo at z; unfold AMa; omega))))
      | succ s ih =>
        intro k ek m4 g W4 gg F4
        have ec : (iZ (k : Int)).toNatClampNeg = k := by rw [iZ_clamp (by constructor <;> omega)]; omega
        refine wp1_ok (by decide) OK_238 (cc := cd_238) rfl (stops := [38]) (f := 40) ?_
        refine And.intro (fun z => ?_) (fun _ => ?_)
        · rw [L30, iZ_le (by decide) (by constructor <;> omega)] at z; omega
        refine And.intro ((iZ_in (by constructor <;> omega)).mpr (by omega)) ?_
        have ea : gI m4 47 255 (iZ (k : Int)).toNatClampNeg = iZ (mw k (D.2.1 n k)) := by rw [ec, F4.2 _ _ _ (by unfold ARo; omega)]; exact A3 k (by omega)
        rw [ea]
        refine And.intro trivial (M_lays (w := k) rfl rfl (by omega) (by omega) W4 (fun m5 W5 F5 => ?_))
        refine And.intro trivial ?_
        rw [L1, iZ_add]
        refine ih (k + 1) (by omega) m5 _ W5 (fun w hw => ?_) (F4.tr F5)
        by_cases e : w = k
        · subst e; rw [u_s]
        · rw [u_n e]; exact gg w (by omega)
    exact And.intro trivial (loop 30 0 rfl m3 _ (M3.row hn) (fun w hw => by omega) (Fr.rf _ _))
  have loop : ∀ s k, k + s = 30 → ∀ m1, MI m1 tp td fl tm D → (∀ w, w < k → gI m1 47 255 w = iZ (mw w (D.2.1 n w))) → Fr AMa m m1 → smE true 238 2 [some (vR (some (23, 231))), some (vI (iZ n)), some (vI (iZ kd)), some (vI (iZ (k : Nat)))] [] m1 K := by
    intro s
    induction s with
    | zero =>
      intro k ek m1 M1 A1 F1
      have : k = 30 := by omega
      subst this
      refine wp1_ok (by decide) OK_238 (cc := cd_238) rfl (stops := [26]) (f := 40) ?_
      refine And.intro (fun _ => And.intro trivial (tail m1 M1 A1 F1)) (fun z => absurd (by decide) z)
    | succ s ih =>
      intro k ek m1 M1 A1 F1
      have ec : (iZ (k : Int)).toNatClampNeg = k := by rw [iZ_clamp (by constructor <;> omega)]; omega
      refine wp1_ok (by decide) OK_238 (cc := cd_238) rfl (stops := [2]) (f := 40) ?_
      refine And.intro (fun z => ?_) (fun _ => ?_)
      · rw [L30, iZ_le (by decide) (by constructor <;> omega)] at z; omega
      refine And.intro trivial (M_of (i := n) (w := k) rfl rfl hS.dok M1.2.2.1 hn (by omega) ?_)
      refine And.intro ((iZ_in (by constructor <;> omega)).mpr (by omega)) ?_
      refine And.intro trivial ?_
      rw [ec, L1, iZ_add]
      have F2 : Fr AMq m1 (sI m1 47 255 k (iZ (mw k (D.2.1 n k)))) := Fr.st (Or.inr (by omega))
      refine ih (k + 1) (by omega) _ (M1.fq F2) (fun w hw => ?_) (F1.tr F2.qa)
      rw [gI_s]
      by_cases e : w = k
      · subst e; rw [if_pos ⟨rfl, rfl, rfl⟩]
      · rw [if_neg (by omega)]; exact A1 w (by omega)
  refine smC_wp [some (vR (some (23, 231))), some (vI (iZ n)), some (vI (iZ kd)), none] cd_238 [2] 40 OK_238 (by decide) rfl rfl (Nat.le_of_ble_eq_true rfl) ?_
  exact And.intro trivial (loop 30 0 rfl m h (fun w hw => by omega) (Fr.rf _ _))
theorem Q_instead {kd : Int} {x y : Int32} (hx : x = iZ i) (hy : y = iZ kd) (ri : R32 i) (rk : R32 kd) (hS : SI tp td tm D) (h : MI m tp td fl tm D)
    (hk : ∀ m', MI m' tp td fl tm D → Fr AMa m m' → K (some (vI (iZ (qIn tm D i kd)))) m') : smC true 237 [vR (some (23, 231)), vI x, vI y] m K := by
  subst hx; subst hy
  unfold qIn at hk
  refine smC_wp [some (vR (some (23, 231))), some (vI (iZ i)), some (vI (iZ kd))] cd_237 [5] 60 OK_237 (by decide) rfl rfl (Nat.le_of_ble_eq_true rfl) ?_
  refine And.intro trivial ?_
  obtain ⟨h0, F0⟩ := h.b0
  generalize sI m 23 231 0 0 = m0 at *
  refine wp1_ok (by decide) OK_237 (cc := cd_237) rfl (stops := []) (f := 60) ?_
  refine And.intro trivial (M_isNote rfl ri hS.dok h0.2.2.1 (fun q => ?_) (fun q => ?_))
  rotate_left
  · rw [if_neg q] at hk
    refine And.intro (fun z => absurd rfl z) (fun _ => ?_)
    exact And.intro trivial (hk m0 h0 F0.qa)
  rw [if_pos q] at hk
  have hn := (hS.nok q).2
  have ei : iZ i = iZ (i.toNat : Int) := by rw [Int.toNat_of_nonneg q.1]
  refine And.intro (fun _ => ?_) (fun z => absurd z (by decide))
  refine And.intro trivial (M_in (v := kd) (lo := 0) (hi := 8) rfl rk (by decide) (by decide) rfl rfl (fun z => ?_) (fun z => ?_))
  rotate_left
  · rw [if_neg z] at hk
    refine And.intro (fun z => absurd rfl z) (fun _ => ?_)
    exact And.intro trivial (hk m0 h0 F0.qa)
  rw [if_pos z] at hk
  refine And.intro (fun _ => ?_) (fun z => absurd z (by decide))
  refine And.intro trivial (M_tries ei rfl hn q.2.2 z hS h0 (fun m1 h1 R1 F1 => ?_))
  refine And.intro trivial ?_
  rw [R1.len]
  exact hk m1 h1 (F0.qa.tr F1)
theorem Q_richest {x : Int32} (hx : x = iZ i) (ri : R32 i) (hS : SI tp td tm D) (h : MI m tp td fl tm D)
    (hk : ∀ m', MI m' tp td fl tm D → Fr AMa m m' → K (some (vI (iZ (qRi tm D i)))) m') : smC true 239 [vR (some (23, 231)), vI x] m K := by
  subst hx
  unfold qRi at hk
  refine smC_wp [some (vR (some (23, 231))), some (vI (iZ i)), none, none, none] cd_239 [5] 60 OK_239 (by decide) rfl rfl (Nat.le_of_ble_eq_true rfl) ?_
  refine And.intro trivial ?_
  obtain ⟨h0, F0⟩ := h.b0
  generalize sI m 23 231 0 0 = m0 at *
  refine wp1_ok (by decide) OK_239 (cc := cd_239) rfl (stops := [23]) (f := 60) ?_
  refine And.intro trivial (M_isNote rfl ri hS.dok h0.2.2.1 (fun q => ?_) (fun q => ?_))
  rotate_left
  · rw [if_neg q] at hk
    refine And.intro (fun z => absurd rfl z) (fun _ => ?_)
    exact And.intro trivial (hk m0 h0 F0.qa)
  rw [if_pos q] at hk
  have hn := (hS.nok q).2
  have h48 := hS.dok.1
  have ei : iZ i = iZ (i.toNat : Int) := by rw [Int.toNat_of_nonneg q.1]
  have eci : (iZ i).toNatClampNeg = i.toNat := iZ_clamp ri
  have hin : vp_in (iZ i) 48 := (iZ_in ri).mpr (by omega)
  have hc : ∀ k : Nat, k < 9 → 0 ≤ cR tm D i.toNat (k : Int) ∧ cR tm D i.toNat (k : Int) ≤ 73 := fun k hk => cR_rng hS hn q.2.2 (by omega)
  refine And.intro (fun _ => ?_) (fun z => absurd z (by decide))
  have loop : ∀ s n, n + s = 9 → ∀ m1, MI m1 tp td fl tm D → Fr AMa m m1 → smE true 239 23 [some (vR (some (23, 231))), some (vI (iZ i)), some (vI (iZ (rcN (cR tm D i.toNat) n).1)), some (vI (iZ (rcN (cR tm D i.toNat) n).2)), some (vI (iZ (n : Nat)))] [] m1 K := by
    intro s
    induction s with
    | zero =>
      intro n en m1 h1 F1
      have : n = 9 := by omega
      subst this
      refine wp1_ok (by decide) OK_239 (cc := cd_239) rfl (stops := [23]) (f := 60) ?_
      refine And.intro (fun _ => ?_) (fun z => absurd (by decide) z)
      exact And.intro trivial (hk m1 h1 F1)
    | succ s ih =>
      intro n en m1 h1 F1
      have rr := rcN_rng hc n (by omega)
      have hcn := hc n (by omega)
      refine wp1_ok (by decide) OK_239 (cc := cd_239) rfl (stops := [23]) (f := 60) ?_
      refine And.intro (fun z => ?_) (fun _ => ?_)
      · rw [L8, iZ_lt (by decide) (by constructor <;> omega)] at z; omega
      refine And.intro trivial (M_tries (kd := (n : Int)) ei rfl hn q.2.2 (by omega) hS h1 (fun m2 h2 R2 F2 => ?_))
      have ecn : gI m2 42 250 (iZ i).toNatClampNeg = iZ (cR tm D i.toNat (n : Int)) := by rw [eci]; exact (R2.2 i.toNat hn).2.1
      have nx : ∀ b v : Int, (b, v) = rcN (cR tm D i.toNat) (n + 1) → smE true 239 23 [some (vR (some (23, 231))), some (vI (iZ i)), some (vI (iZ b)), some (vI (iZ v)), some (vI (iZ ((n : Int) + 1)))] [] m2 K := fun b v e => by
        have := ih (n + 1) (by omega) m2 h2 (F1.tr F2)
        rw [← e] at this
        exact this
      refine And.intro hin ?_
      refine And.intro (fun u => ?_) (fun u => ?_)
      · rw [ecn, iZ_lt (by constructor <;> omega) (by constructor <;> omega)] at u
        refine And.intro hin ?_
        refine And.intro trivial ?_
        rw [ecn, L1, iZ_add]
        exact nx _ _ (by rw [rcN, if_pos u])
      · rw [ecn, iZ_lt (by constructor <;> omega) (by constructor <;> omega)] at u
        refine And.intro trivial ?_
        rw [L1, iZ_add]
        exact nx _ _ (by rw [rcN, if_neg u])
  exact And.intro trivial (loop 9 0 rfl m0 h0 F0.qa)
end OPSC
