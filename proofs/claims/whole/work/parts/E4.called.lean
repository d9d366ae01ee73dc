/-! called: both -/
def sgC (a : Int) : Int := if 0 < a then 43 else 45
/-- a tone's name -/
def nameT (t : Tn) : List Int :=
  [97 + (t.2.2.1 % 7 + 2) % 7] ++ List.replicate (t.2.1 - natN t.2.2.1).natAbs (sgC (t.2.1 - natN t.2.2.1)) ++ sgs (decide (t.2.2.1 / 7 < 0)) (t.2.2.1 / 7).natAbs ++ [32] ++ dg (unN t.2.2.2.2.2).toNat ++ [47] ++ dg (lnN t.2.2.2.2.2).toNat
def qCa (tm : Nat → Int) (D : Dt) (k i : Int) : Int := if 0 ≤ k ∧ k < ((wr tm (tm 5) D D.1).1.length : Int) then (if i < 0 then -3 else if i < ((nameT (tAt (wr tm (tm 5) D D.1).1 k.toNat)).length : Int) then (nameT (tAt (wr tm (tm 5) D D.1).1 k.toNat)).getD i.toNat 0 else -1) else -2
theorem sB15 : ∀ j : Nat, j < 7 → sB 15 j = 97 + ((j : Int) + 2) % 7 ∧ j < (stS 15).length := by decide +kernel
theorem rep_ch {n : Nat} {c : Int} (h : 32 ≤ c ∧ c ≤ 122) : chS (List.replicate n c) := fun x hx => by rw [List.eq_of_mem_replicate hx]; exact h
theorem sgC_rng (a : Int) : 32 ≤ sgC a ∧ sgC a ≤ 122 := by unfold sgC; split <;> omega
theorem nameT_ch (t : Tn) : chS (nameT t) := by
  unfold nameT
  exact ((((((chS.one (by omega)).app (rep_ch (sgC_rng _))).app (sgs_ch _ _)).app (chS.one (by decide))).app (dg_ch _)).app (chS.one (by decide))).app (dg_ch _)
theorem oct_len {o : Int} (h : -1 ≤ o ∧ o ≤ 9) : (sgs (decide (o < 0)) o.natAbs).length ≤ 2 := by
  unfold sgs
  rw [List.length_append, dg_lt (by omega)]
  have := preM_len (decide (o < 0))
  show (preM (decide (o < 0))).length + 1 ≤ 2
  omega
theorem un_len {t : Int} (h : 0 ≤ t ∧ t ≤ 933888) : (dg (unN t).toNat).length ≤ 6 := by
  have := unN_rng h.1
  have e : pwT (5 + 1) = 1000000 := rfl
  exact dg_le 5 _ (by omega)
theorem ln_len (t : Int) : (dg (lnN t).toNat).length ≤ 3 := by
  have := lnN_rng t
  have e : pwT (2 + 1) = 1000 := rfl
  exact dg_le 2 _ (by omega)
section CALLED
variable {m m' : Mem} {K : Option SV → Mem → Prop} {tp : Nat → Int} {td : Nat} {fl : Int × Int} {tm : Nat → Int} {D : Dt} {a sa sb j : Nat} {st : Bool} {f f' : NF} {i : Int}
theorem c_abs {z : Int} {x : Int32} (hx : x = iZ z) (rz : -1000 ≤ z ∧ z ≤ 1000) (h : K (some (vI (iZ (z.natAbs : Int)))) m) : smC true 249 [vI x] m K := by
  subst hx
  refine smC_wp [some (vI (iZ z))] cd_249 [] 20 OK_249 (by decide) rfl rfl (Nat.le_of_ble_eq_true rfl) ?_
  refine And.intro (fun y => ?_) (fun y => ?_)
  · rw [L0, iZ_le (by decide) (by constructor <;> omega)] at y
    refine And.intro trivial ?_
    rw [show (z.natAbs : Int) = z by omega] at h
    exact h
  · rw [L0, iZ_le (by decide) (by constructor <;> omega)] at y
    refine And.intro trivial ?_
    rw [iZ_neg, show -z = (z.natAbs : Int) by omega]
    exact h
theorem C_called {k : Int} {x y : Int32} (hx : x = iZ k) (hy : y = iZ i) (rk : R32 k) (ri : R32 i) (hS : SI tp td tm D) (h : CJ m tp td fl tm D a sa sb j st)
    (hk : ∀ m', CI m' tp td fl tm D (a + 1) → FC m m' → K (some (vI (iZ (qCa tm D k i)))) m') : smC true 120 [vR (some (0, 0)), vI x, vI y] m K := by
  subst hx; subst hy
  unfold qCa at hk
  refine smC_wp [some (vR (some (0, 0))), some (vI (iZ k)), some (vI (iZ i)), none, none, none, none, none] cd_120 [58] 90 OK_120 (by decide) rfl rfl (Nat.le_of_ble_eq_true rfl) ?_
  refine Exists.intro _ (And.intro h.1.2.1 ?_)
  refine And.intro trivial (h.written (fun m1 j1 h1 FC1 => ?_))
  obtain ⟨a1, a2, a3, a4, r, ⟨p1, p2, p3, p4⟩, ⟨l1, l2, l3, l4⟩, hn, hv, e1, hW⟩ := h1.rows
  refine And.intro trivial (c_hasTone rfl rk e1 p1 l1 hn (fun q => ?_) (fun q => ?_))
  rotate_left
  · rw [if_neg q] at hk
    refine And.intro (fun z => absurd rfl z) (fun _ => ?_)
    exact And.intro trivial (hk m1 ⟨sa, sb, j1, false, h1.one⟩ FC1)
  rw [if_pos q] at hk
  refine And.intro (fun _ => ?_) (fun z => absurd z (by decide))
  refine And.intro (fun i0 => ?_) (fun i0 => ?_)
  rotate_left
  · rw [L0, iZ_le (by decide) ri] at i0
    rw [if_pos (by omega)] at hk
    exact And.intro trivial (hk m1 ⟨sa, sb, j1, false, h1.one⟩ FC1)
  rw [L0, iZ_le (by decide) ri] at i0
  rw [if_neg (by omega)] at hk
  have hkn : k.toNat < (wr tm (tm 5) D D.1).1.length := by omega
  obtain ⟨_, t4, t5, t6⟩ := tone_ok hS hS.t5 hkn
  have e6 := hS.end6
  have tp' := hW.2 _ (tAt_mem hkn)
  have ta := wr_t (tm := tm) (pc := tm 5) hS.dok D.1 (Nat.le_refl _) _ (tAt_mem hkn)
  obtain ⟨v1, v2, v3, v4⟩ := hv.at hkn
  have ec : (iZ k).toNatClampNeg = k.toNat := iZ_clamp rk
  have hin : ∀ {r' : Nat}, r' = r → vp_in (iZ k) r' := fun e => (iZ_in rk).mpr (by omega)
  generalize tAt (wr tm (tm 5) D D.1).1 k.toNat = t at *
  obtain ⟨pn, ps⟩ := tp'.1
  have s1 : -8 ≤ t.2.2.1 ∧ t.2.2.1 < 120 := by have := ps.1; have := ps.2; omega
  have s2 : -2 ≤ t.2.2.1 ∧ t.2.2.1 < 68 := ps
  have s3 : 0 ≤ t.2.1 ∧ t.2.1 < 1000 := by have := pn.1; have := pn.2; omega
  have s4 : natN t.2.2.1 - 1 ≤ t.2.1 ∧ t.2.1 ≤ natN t.2.2.1 + 1 := ta
  refine Exists.intro _ (And.intro p1 ?_)
  refine And.intro (hin l1) ?_
  refine And.intro trivial (c_step (by rw [ec]; exact v1) s1 s3 ?_)
  refine Exists.intro _ (And.intro p1 ?_)
  refine And.intro (hin l1) ?_
  refine And.intro trivial (c_num (by rw [ec]; exact v1) s1 s3 ?_)
  refine And.intro trivial (c_natural s2 ?_)
  refine And.intro trivial ?_
  rw [iZ_sub]
  -- a new StringBuilder
  have hx1 := h1.2.1
  have F0 : FX AS AS m1 (al m1 22 4) := FX.al
  have z3 : gI (al m1 22 4) 22 (nX m1) 3 = 0 := by
    show (if nX m1 = nX m1 then (if 22 < 60 then 0 else gI m1 22 (nX m1) 3) else gI m1 22 (nX m1) 3) = 0
    rw [if_pos rfl, if_pos (by decide)]
  have x0 : nX (al m1 22 4) = nX m1 + 1 := rfl
  have y0 : nS (al m1 22 4) = nS m1 + 4 := rfl
  refine wp1_ok (by decide) OK_120 (cc := cd_120) rfl (stops := [86]) (f := 90) ?_
  refine And.intro trivial (c_sbInit (Nat.lt_succ_self (nX m1)) z3 (fun m2 B2 F2 x2 y2 => ?_))
  have x2 : nX m2 = nX m1 + 1 + 1 := x2
  have y2 : nS m2 = nS m1 + 4 + 16 := y2
  have F2 : FX AS AS m1 m2 := F0.tr F2
  have g2 : ∀ {t' n' k' : Nat}, n' < nX m1 → t' ≠ 21 → t' ≠ 22 → gI m2 t' n' k' = gI m1 t' n' k' := fun h1 h2 h3 => F2.2.1 _ _ _ h1 (by unfold AS; omega)
  have hj := sB15 (t.2.2.1 % 7).toNat (by omega)
  rw [Int.toNat_of_nonneg (by omega)] at hj
  refine And.intro trivial (c_letterOf s2 ?_)
  refine And.intro trivial (c_charAt (c := 15) (j := (t.2.2.1 % 7).toNat) (by rw [Int.toNat_of_nonneg (by omega)]) (by decide) hj.2 ?_)
  rw [hj.1]
  refine And.intro trivial (c_appC rfl (by omega) (by show (0 : Nat) < 16; decide) B2 (fun m3 B3 F3 => ?_))
  have w3 : nX m3 = nX m2 ∧ nS m3 = nS m2 := ⟨by unfold nX; rw [F3.1], by unfold nS; rw [F3.1]⟩
  have F3 : FX AS AS m1 m3 := F2.tr F3.fx
  refine And.intro trivial ?_
  -- behind the signs
  have fin : ∀ m4, SBR m4 (nX m1) (nX (al m1 22 4)) ([97 + (t.2.2.1 % 7 + 2) % 7] ++ List.replicate (t.2.1 - natN t.2.2.1).natAbs (sgC (t.2.1 - natN t.2.2.1))) → FX AS AS m1 m4 → nX m4 = nX m1 + 2 → nS m4 = nS m1 + 20 → ∀ x7 : Int32,
      smE true 120 120 [some (vR (some (0, 0))), some (vI (iZ k)), some (vI (iZ i)), some (vR (some (6, 6))), some (vI (iZ t.2.2.1)), some (vI (iZ (t.2.1 - natN t.2.2.1))), some (vR (some (22, nX m1))), some (vI x7)] [] m4 K := by
    intro m4 B4 F4 x4 y4 x7
    have rb : (List.replicate (t.2.1 - natN t.2.2.1).natAbs (sgC (t.2.1 - natN t.2.2.1))).length ≤ 1 := by rw [List.length_replicate]; omega
    have ro := oct_len (o := t.2.2.1 / 7) (by omega)
    have ru := un_len (t := t.2.2.2.2.2) (by omega)
    have rl := ln_len t.2.2.2.2.2
    have un := unN_rng (t := t.2.2.2.2.2) (by omega)
    have lnr := lnN_rng t.2.2.2.2.2
    have lf : ∀ {m' : Mem}, FX AS AS m1 m' → gP m' 6 6 5 = some (20, a4) ∧ gL m' 20 a4 = r ∧ gI m' 20 a4 (iZ k).toNatClampNeg = iZ t.2.2.2.2.2 := by
      intro m' F'
      have hG := h1.2.2.2.2.1.2.2.2.2.2 rfl
      obtain ⟨b1, b2, b3, b4, ⟨⟨_, _, _, q4⟩, _⟩, hb, _⟩ := hG
      have e4 : a4 = b4 := by have := p4.symm.trans q4; injection this with this; injection this
      subst e4
      exact ⟨(F'.2.2.1 _ _ _ (by omega) (by unfold AS; omega)).trans p4, (F'.2.2.2 _ _ (by omega)).trans l4, by rw [ec, F'.2.1 _ _ _ (by omega) (by unfold AS; omega)]; exact v4⟩
    have fx2 : ∀ {m' m'' : Mem}, FX AS AS m1 m' → (nX m' = nX m1 + 2 ∧ nS m' = nS m1 + 20) → Fr AS m' m'' → FX AS AS m1 m'' ∧ (nX m'' = nX m1 + 2 ∧ nS m'' = nS m1 + 20) := fun F1 q F2 => ⟨F1.tr F2.fx, by
      have e1 : nX _ = nX _ := congrArg (fun z : (Nat → Nat → Nat → Option Rf) × (Nat → Nat) × (Nat → Nat → Nat) × Nat × Nat => z.2.2.2.1) F2.1
      have e2 : nS _ = nS _ := congrArg (fun z : (Nat → Nat → Nat → Option Rf) × (Nat → Nat) × (Nat → Nat → Nat) × Nat × Nat => z.2.2.2.2) F2.1
      exact ⟨e1.trans q.1, e2.trans q.2⟩⟩
    refine wp_ok (by decide) OK_120 (cc := cd_120) rfl (stops := []) 90 _ _ _ _ ?_
    refine And.intro trivial (c_octaveOf s2 ?_)
    refine And.intro trivial (c_appI (neg := decide (t.2.2.1 / 7 < 0)) (v := (t.2.2.1 / 7).natAbs) ?_ (by omega) (fun e => by have := of_decide_eq_true e; omega) (by rw [List.length_append]; show 1 + _ + _ ≤ 16; omega) B4 (fun m5 B5 F5 => ?_))
    · by_cases c : t.2.2.1 / 7 < 0
      · rw [decide_eq_true c, if_pos rfl]; congr 1; omega
      · rw [decide_eq_false c, if_neg (by decide)]; congr 1; omega
    obtain ⟨G5, N5⟩ := fx2 F4 ⟨x4, y4⟩ F5
    refine And.intro trivial (c_appC (c := 32) rfl (by decide) (by rw [List.length_append, List.length_append]; show 1 + _ + _ < 16; omega) B5 (fun m6 B6 F6 => ?_))
    obtain ⟨G6, N6⟩ := fx2 G5 N5 F6
    obtain ⟨u1, u2, u3⟩ := lf G6
    refine Exists.intro _ (And.intro u1 ?_)
    refine And.intro (hin u2) ?_
    refine And.intro trivial (c_upper u3 (by omega) ?_)
    refine And.intro trivial (c_appI (neg := false) (v := (unN t.2.2.2.2.2).toNat) (by show iZ (unN t.2.2.2.2.2) = iZ (((unN t.2.2.2.2.2).toNat : Nat) : Int); rw [Int.toNat_of_nonneg un.1]) (by omega) (fun e => by cases e) (by rw [List.length_append, List.length_append, List.length_append]; show 1 + _ + _ + 1 + (dg _).length ≤ 16; omega) B6 (fun m7 B7 F7 => ?_))
    obtain ⟨G7, N7⟩ := fx2 G6 N6 F7
    refine And.intro trivial (c_appC (c := 47) rfl (by decide) (by rw [List.length_append, List.length_append, List.length_append, List.length_append]; show 1 + _ + _ + 1 + (dg _).length < 16; omega) B7 (fun m8 B8 F8 => ?_))
    obtain ⟨G8, N8⟩ := fx2 G7 N7 F8
    obtain ⟨w1, w2, w3⟩ := lf G8
    refine Exists.intro _ (And.intro w1 ?_)
    refine And.intro (hin w2) ?_
    refine And.intro trivial (c_lower w3 (by omega) ?_)
    refine And.intro trivial (c_appI (neg := false) (v := (lnN t.2.2.2.2.2).toNat) (by show iZ (lnN t.2.2.2.2.2) = iZ (((lnN t.2.2.2.2.2).toNat : Nat) : Int); rw [Int.toNat_of_nonneg (by omega)]) (by omega) (fun e => by cases e) (by rw [List.length_append, List.length_append, List.length_append, List.length_append, List.length_append]; show 1 + _ + _ + 1 + (dg _).length + 1 + (dg _).length ≤ 16; omega) B8 (fun m9 B9 F9 => ?_))
    obtain ⟨G9, N9⟩ := fx2 G8 N8 F9
    have B9 : SBR m9 (nX m1) (nX (al m1 22 4)) (nameT t) := B9
    have hlen : (nameT t).length ≤ 15 := by
      unfold nameT
      rw [List.length_append, List.length_append, List.length_append, List.length_append, List.length_append, List.length_append]
      show 1 + _ + _ + 1 + (dg _).length + 1 + (dg _).length ≤ 15
      omega
    have hC : CJ m9 tp td fl tm D (a + 1) sa sb j1 false := h1.fx G9 ⟨by omega, by omega⟩ (G9.2.1 _ _ _ (by omega) (by unfold AS; omega)) (fun t n k z => Or.inl (by unfold AS at z; omega)) (fun t n k z => Or.inr (Or.inr (by unfold AS at z; omega)))
    have hk := hk m9 ⟨sa, sb, j1, false, hC⟩ (FC1.tr (FC.of G9 hx1.1 (fun t n k u _ => by unfold AS; omega)))
    refine And.intro trivial (c_sbLen B9 ?_)
    refine And.intro (fun z => ?_) (fun z => ?_)
    · rw [iZ_le (by constructor <;> omega) ri] at z
      rw [if_neg (by omega)] at hk
      exact And.intro trivial hk
    · rw [iZ_le (by constructor <;> omega) ri] at z
      rw [if_pos (by omega)] at hk
      refine And.intro trivial (c_sbAt (k := i.toNat) (by rw [Int.toNat_of_nonneg i0]) (by omega) (by omega) (nameT_ch t) B9 ?_)
      exact And.intro trivial hk
  have loop : ∀ r' q : Nat, q + r' = (t.2.1 - natN t.2.2.1).natAbs → ∀ m4, SBR m4 (nX m1) (nX (al m1 22 4)) ([97 + (t.2.2.1 % 7 + 2) % 7] ++ List.replicate q (sgC (t.2.1 - natN t.2.2.1))) → FX AS AS m1 m4 → nX m4 = nX m1 + 2 → nS m4 = nS m1 + 20 →
      smE true 120 86 [some (vR (some (0, 0))), some (vI (iZ k)), some (vI (iZ i)), some (vR (some (6, 6))), some (vI (iZ t.2.2.1)), some (vI (iZ (t.2.1 - natN t.2.2.1))), some (vR (some (22, nX m1))), some (vI (iZ (q : Int)))] [] m4 K := by
    intro r'
    induction r' with
    | zero =>
      intro q eq m4 B4 F4 x4 y4
      refine wp1_ok (by decide) OK_120 (cc := cd_120) rfl (stops := [120]) (f := 60) ?_
      refine And.intro trivial (c_abs rfl (by omega) ?_)
      refine And.intro (fun _ => ?_) (fun z => ?_)
      · have e : q = (t.2.1 - natN t.2.2.1).natAbs := by omega
        rw [e] at B4
        exact And.intro trivial (fin m4 B4 F4 x4 y4 _)
      · rw [iZ_le (by constructor <;> omega) (by constructor <;> omega)] at z; omega
    | succ r' ih =>
      intro q eq m4 B4 F4 x4 y4
      have aft : ∀ m5, SBR m5 (nX m1) (nX (al m1 22 4)) ([97 + (t.2.2.1 % 7 + 2) % 7] ++ List.replicate q (sgC (t.2.1 - natN t.2.2.1)) ++ [sgC (t.2.1 - natN t.2.2.1)]) → Fr AS m4 m5 → smE true 120 86 [some (vR (some (0, 0))), some (vI (iZ k)), some (vI (iZ i)), some (vR (some (6, 6))), some (vI (iZ t.2.2.1)), some (vI (iZ (t.2.1 - natN t.2.2.1))), some (vR (some (22, nX m1))), some (vI (iZ (q : Int) + 1))] [] m5 K := by
        intro m5 B5 F5
        rw [L1, iZ_add]
        refine ih (q + 1) (by omega) m5 ?_ (F4.tr F5.fx) ?_ ?_
        · rw [List.replicate_succ', ← List.append_assoc]; exact B5
        · have e1 : nX m5 = nX m4 := by unfold nX; rw [F5.1]
          omega
        · have e1 : nS m5 = nS m4 := by unfold nS; rw [F5.1]
          omega
      have hl16 : ([97 + (t.2.2.1 % 7 + 2) % 7] ++ List.replicate q (sgC (t.2.1 - natN t.2.2.1))).length < 16 := by rw [List.length_append, List.length_replicate]; show 1 + q < 16; omega
      have go : smE true 120 96 [some (vR (some (0, 0))), some (vI (iZ k)), some (vI (iZ i)), some (vR (some (6, 6))), some (vI (iZ t.2.2.1)), some (vI (iZ (t.2.1 - natN t.2.2.1))), some (vR (some (22, nX m1))), some (vI (iZ (q : Int)))] [] m4 K := by
        refine wp_ok (by decide) OK_120 (cc := cd_120) rfl (stops := [86]) 55 _ _ _ _ ?_
        refine And.intro (fun z => ?_) (fun z => ?_)
        · rw [L0, iZ_le (by constructor <;> omega) (by decide)] at z
          refine And.intro trivial (c_appC (c := sgC (t.2.1 - natN t.2.2.1)) (by unfold sgC; rw [if_neg (by omega)]; rfl) (sgC_rng _) hl16 B4 (fun m5 B5 F5 => ?_))
          exact And.intro trivial (aft m5 B5 F5)
        · rw [L0, iZ_le (by constructor <;> omega) (by decide)] at z
          refine And.intro trivial (c_appC (c := sgC (t.2.1 - natN t.2.2.1)) (by unfold sgC; rw [if_pos (by omega)]; rfl) (sgC_rng _) hl16 B4 (fun m5 B5 F5 => ?_))
          exact And.intro trivial (aft m5 B5 F5)
      refine wp1_ok (by decide) OK_120 (cc := cd_120) rfl (stops := [96]) (f := 60) ?_
      refine And.intro trivial (c_abs rfl (by omega) ?_)
      refine And.intro (fun z => ?_) (fun z => ?_)
      · rw [iZ_le (by constructor <;> omega) (by constructor <;> omega)] at z; omega
      · exact And.intro trivial go
  exact loop (t.2.1 - natN t.2.2.1).natAbs 0 (Nat.zero_add _) m3 B3 F3 (by omega) (by omega)
end CALLED
