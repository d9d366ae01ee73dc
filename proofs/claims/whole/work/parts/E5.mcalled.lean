/-! called: the Model -/
def tpD (v : Nat) : Nat → List Int
  | 0 => [48 + ((v % 10 : Nat) : Int)]
  | q + 1 => (48 + ((v / pwT (q + 1) % 10 : Nat) : Int)) :: tpD v q
theorem tpD_snoc : ∀ (q v : Nat), tpD v (q + 1) = tpD (v / 10) q ++ [48 + ((v % 10 : Nat) : Int)]
  | 0, v => rfl
  | q + 1, v => by
    have ih := tpD_snoc q v
    have e : v / pwT (q + 1 + 1) = v / 10 / pwT (q + 1) := by rw [Nat.div_div_eq_div_mul]; rfl
    show (48 + ((v / pwT (q + 1 + 1) % 10 : Nat) : Int)) :: tpD v (q + 1) = ((48 + ((v / 10 / pwT (q + 1) % 10 : Nat) : Int)) :: tpD (v / 10) q) ++ [48 + ((v % 10 : Nat) : Int)]
    rw [ih, e]
    rfl
theorem dg_tp : ∀ (q v : Nat), v < pwT (q + 1) → (q = 0 ∨ pwT q ≤ v) → dg v = tpD v q
  | 0, v, h, _ => by
    have h : v < 10 := h
    rw [dg_lt h]
    show [48 + (v : Int)] = [48 + ((v % 10 : Nat) : Int)]
    rw [Nat.mod_eq_of_lt h]
  | q + 1, v, h, h2 => by
    have e1 : pwT (q + 1 + 1) = 10 * pwT (q + 1) := rfl
    have e2 : pwT (q + 1) = 10 * pwT q := rfl
    have hp := pwT_pos q
    have h3 : pwT (q + 1) ≤ v := by omega
    rw [dg_ge (by omega), dg_tp q (v / 10) (by omega) (by omega), tpD_snoc]
theorem tpD_len (v : Nat) : ∀ q, (tpD v q).length = q + 1
  | 0 => rfl
  | q + 1 => by show (tpD v q).length + 1 = q + 1 + 1; rw [tpD_len v q]
/-- what the Model has called so far -/
def MCR (m : Mem) (s : List Int) : Prop := gI m 23 231 54 = iZ s.length ∧ ∀ k, k < s.length → gI m 46 254 k = iZ (s.getD k 0)
def ACl : Nat → Nat → Nat → Prop := fun t n k => (t = 23 ∧ n = 231 ∧ k = 54) ∨ (t = 46 ∧ n = 254)
theorem ACl_q {t n k : Nat} (h : ACl t n k) : AMq t n k := by unfold ACl at h; unfold AMq; omega
section MCALLED
variable {m m' : Mem} {K : Option SV → Mem → Prop} {tp : Nat → Int} {td : Nat} {fl : Int × Int} {tm : Nat → Int} {D : Dt} {s : List Int} {i : Int}
theorem M_calls {c : Int} {x : Int32} (hx : x = iZ c) (hs : s.length < 60) (hR : MCR m s) (h : ∀ m', MCR m' (s ++ [c]) → Fr ACl m m' → K none m') : smC true 225 [vR (some (23, 231)), vI x] m K := by
  subst hx
  have ec : (iZ (s.length : Int)).toNatClampNeg = s.length := by rw [iZ_clamp (by constructor <;> omega)]; omega
  refine smC_wp [some (vR (some (23, 231))), some (vI (iZ c))] cd_225 [] 40 OK_225 (by decide) rfl rfl (Nat.le_of_ble_eq_true rfl) ?_
  refine And.intro (by rw [hR.1]; exact (iZ_in (by constructor <;> omega)).mpr (by omega)) ?_
  refine And.intro trivial ?_
  rw [hR.1, ec]
  have e54 : gI (sI m 46 254 s.length (iZ c)) 23 231 54 = iZ s.length := by rw [gI_s, if_neg (by omega)]; exact hR.1
  rw [e54, L1, iZ_add]
  refine h _ ⟨?_, fun k hk => ?_⟩ ((Fr.st (Or.inr ⟨rfl, rfl⟩)).tr (Fr.st (Or.inl ⟨rfl, rfl, rfl⟩)))
  · rw [gI_s, if_pos ⟨rfl, rfl, rfl⟩, List.length_append]; rfl
  · rw [List.length_append] at hk
    have hk : k < s.length + 1 := hk
    rw [gI_s, if_neg (by omega), gI_s]
    by_cases e : k = s.length
    · subst e
      rw [if_pos ⟨rfl, rfl, rfl⟩, gd_r (Nat.le_refl _), Nat.sub_self]
      rfl
    · rw [if_neg (by omega), gd_l (by omega)]
      exact hR.2 k (by omega)
theorem M_callsN {v : Nat} {x : Int32} (hx : x = iZ v) (hv : v < 10000000) (hs : s.length + (dg v).length ≤ 60) (hR : MCR m s) (h : ∀ m', MCR m' (s ++ dg v) → Fr ACl m m' → K none m') : smC true 226 [vR (some (23, 231)), vI x] m K := by
  subst hx
  have bnd : ∀ q, (q = 0 ∨ pwT q ≤ v) → 1 ≤ pwT q ∧ pwT q ≤ 10000000 := by
    intro q hq
    have := pwT_pos q
    rcases hq with e | e
    · subst e; decide
    · omega
  have second : ∀ (q : Nat), pwT q ≤ 10000000 → ∀ (s : List Int) (m1 : Mem), s.length + (q + 1) ≤ 60 → MCR m1 s → Fr ACl m m1 → (∀ m', MCR m' (s ++ tpD v q) → Fr ACl m m' → K none m') → smE true 226 18 [some (vR (some (23, 231))), some (vI (iZ v)), some (vI (iZ (pwT q : Int)))] [] m1 K := by
    intro q
    induction q with
    | zero =>
      intro hb s m1 hs R1 F1 hK
      have p0 : pwT 0 = 1 := rfl
      refine wp1_ok (by decide) OK_226 (cc := cd_226) rfl (stops := [18]) (f := 40) ?_
      refine And.intro (fun z => ?_) (fun _ => ?_)
      · rw [p0, L0, iZ_le (by decide) (by decide)] at z; omega
      refine And.intro (by rw [p0]; decide) ?_
      refine And.intro (by decide) ?_
      have ed : iZ (v : Int) / iZ (pwT 0 : Int) = iZ (v : Int) := by
        rw [p0, iZ_div (by constructor <;> omega) (by decide) (by omega) (by decide)]; congr 1; omega
      refine And.intro trivial (M_calls (c := 48 + ((v % 10 : Nat) : Int)) ?_ (by omega) R1 (fun m2 R2 F2 => ?_))
      · rw [ed, L10, iZ_rem (by constructor <;> omega) (by decide) (by omega) (by decide), L48, iZ_add]; congr 1
      refine And.intro (by decide) ?_
      refine And.intro trivial ?_
      have e0 : iZ (pwT 0 : Int) / 10 = iZ 0 := by decide
      rw [e0]
      refine wp1_ok (by decide) OK_226 (cc := cd_226) rfl (stops := []) (f := 40) ?_
      refine And.intro (fun _ => ?_) (fun z => absurd (by decide) z)
      exact And.intro trivial (hK m2 R2 (F1.tr F2))
    | succ q ih =>
      intro hb s m1 hs R1 F1 hK
      have e1 : pwT (q + 1) = 10 * pwT q := rfl
      have hp := pwT_pos q
      refine wp1_ok (by decide) OK_226 (cc := cd_226) rfl (stops := [18]) (f := 40) ?_
      refine And.intro (fun z => ?_) (fun _ => ?_)
      · rw [L0, iZ_le (by constructor <;> omega) (by decide)] at z; omega
      refine And.intro (by rw [L0, iZ_eq (by constructor <;> omega) (by decide)]; omega) ?_
      refine And.intro (by decide) ?_
      have ed : iZ (v : Int) / iZ (pwT (q + 1) : Int) = iZ ((v / pwT (q + 1) : Nat) : Int) := by
        rw [iZ_div (by constructor <;> omega) (by constructor <;> omega) (by omega) (by omega)]; congr 1
      have hle : v / pwT (q + 1) ≤ v := Nat.div_le_self _ _
      have rd : R32 ((v / pwT (q + 1) : Nat) : Int) ∧ (0 : Int) ≤ ((v / pwT (q + 1) : Nat) : Int) := by
        generalize v / pwT (q + 1) = d at hle
        exact ⟨by constructor <;> omega, by omega⟩
      refine And.intro trivial (M_calls (c := 48 + ((v / pwT (q + 1) % 10 : Nat) : Int)) ?_ (by omega) R1 (fun m2 R2 F2 => ?_))
      · rw [ed, L10, iZ_rem rd.1 (by decide) rd.2 (by decide), L48, iZ_add]; congr 1
      refine And.intro (by decide) ?_
      refine And.intro trivial ?_
      have e0 : iZ (pwT (q + 1) : Int) / 10 = iZ (pwT q : Int) := by
        rw [L10, iZ_div (by constructor <;> omega) (by decide) (by omega) (by decide)]; congr 1; omega
      rw [e0]
      refine ih (by omega) _ m2 (by rw [List.length_append]; show s.length + 1 + (q + 1) ≤ 60; omega) R2 (F1.tr F2) (fun m3 R3 F3 => hK m3 ?_ F3)
      have : s ++ tpD v (q + 1) = s ++ [48 + ((v / pwT (q + 1) % 10 : Nat) : Int)] ++ tpD v q := by
        rw [List.append_assoc]; rfl
      rw [this]
      exact R3
  have first : ∀ f q : Nat, q + f = 8 → (q = 0 ∨ pwT q ≤ v) → smE true 226 2 [some (vR (some (23, 231))), some (vI (iZ v)), some (vI (iZ (pwT q : Int)))] [] m K := by
    intro f
    induction f with
    | zero =>
      intro q eq hq
      have : q = 8 := by omega
      subst this
      have e8 : pwT 8 = 100000000 := rfl
      omega
    | succ f ih =>
      intro q eq hq
      obtain ⟨b1, b2⟩ := bnd q hq
      have e1 : pwT (q + 1) = 10 * pwT q := rfl
      have ed : iZ (v : Int) / iZ (pwT q : Int) = iZ ((v / pwT q : Nat) : Int) := by
        rw [iZ_div (by constructor <;> omega) (by constructor <;> omega) (by omega) (by omega)]; congr 1
      have hle : v / pwT q ≤ v := Nat.div_le_self _ _
      have rd : R32 ((v / pwT q : Nat) : Int) ∧ ((((v / pwT q : Nat) : Int) ≤ 9) ↔ v / pwT q < 10) := by
        generalize v / pwT q = d at hle
        exact ⟨by constructor <;> omega, by omega⟩
      have hdl : v / pwT q < 10 ↔ v < 10 * pwT q := Nat.div_lt_iff_lt_mul (by omega)
      refine wp1_ok (by decide) OK_226 (cc := cd_226) rfl (stops := [2, 18]) (f := 40) ?_
      refine And.intro (by rw [L0, iZ_eq (by constructor <;> omega) (by decide)]; omega) ?_
      rw [ed]
      refine And.intro (fun z => ?_) (fun z => ?_)
      · rw [L9, iZ_le rd.1 (by decide), rd.2] at z
        have hlt : v < pwT (q + 1) := by rw [e1]; exact hdl.mp z
        have ht := dg_tp q v hlt hq
        rw [ht] at hs h
        rw [tpD_len] at hs
        exact And.intro trivial (second q b2 s m hs hR (Fr.rf _ _) h)
      · rw [L9, iZ_le rd.1 (by decide), rd.2] at z
        have hge : ¬ v < 10 * pwT q := fun y => z (hdl.mpr y)
        refine And.intro trivial ?_
        have em : iZ (pwT q : Int) * 10 = iZ (pwT (q + 1) : Int) := by rw [L10, iZ_mul, e1]; congr 1; omega
        rw [em]
        exact ih (q + 1) (by omega) (Or.inr (by omega))
  refine smC_wp [some (vR (some (23, 231))), some (vI (iZ v)), none] cd_226 [2] 40 OK_226 (by decide) rfl rfl (Nat.le_of_ble_eq_true rfl) ?_
  exact And.intro trivial (first 8 0 rfl (Or.inl rfl))
theorem RowM.fr {A : Nat → Nat → Nat → Prop} {k : Nat} {t : Tn} (h : RowM m k t) (F : Fr A m m') (hA : ∀ t n k, 34 ≤ t → t ≤ 40 → ¬ A t n k) : RowM m' k t := by
  obtain ⟨r1, r2, r3, r4, r5, r6, r7⟩ := h
  exact ⟨(F.2 _ _ _ (hA _ _ _ (by decide) (by decide))).trans r1, (F.2 _ _ _ (hA _ _ _ (by decide) (by decide))).trans r2, (F.2 _ _ _ (hA _ _ _ (by decide) (by decide))).trans r3, (F.2 _ _ _ (hA _ _ _ (by decide) (by decide))).trans r4, (F.2 _ _ _ (hA _ _ _ (by decide) (by decide))).trans r5, (F.2 _ _ _ (hA _ _ _ (by decide) (by decide))).trans r6, (F.2 _ _ _ (hA _ _ _ (by decide) (by decide))).trans r7⟩
theorem Q_called {k : Int} {x y : Int32} (hx : x = iZ k) (hy : y = iZ i) (rk : R32 k) (ri : R32 i) (hS : SI tp td tm D) (h : MI m tp td fl tm D)
    (hk : ∀ m', MI m' tp td fl tm D → Fr AMa m m' → K (some (vI (iZ (qCa tm D k i)))) m') : smC true 224 [vR (some (23, 231)), vI x, vI y] m K := by
  subst hx; subst hy
  unfold qCa at hk
  refine smC_wp [some (vR (some (23, 231))), some (vI (iZ k)), some (vI (iZ i)), none, none] cd_224 [5] 60 OK_224 (by decide) rfl rfl (Nat.le_of_ble_eq_true rfl) ?_
  refine And.intro trivial ?_
  obtain ⟨h0, F0⟩ := h.b0
  generalize sI m 23 231 0 0 = m0 at *
  refine wp1_ok (by decide) OK_224 (cc := cd_224) rfl (stops := [32]) (f := 60) ?_
  refine And.intro trivial (MI.writes hS h0 (fun m1 h1 S1 F1 => ?_))
  have G1 : Fr AMa m m1 := F0.qa.tr F1.qa
  have hl := hS.len hS.t5
  refine And.intro trivial (M_isTone rfl rk S1.len (by omega) (fun q => ?_) (fun q => ?_))
  rotate_left
  · rw [if_neg q] at hk
    refine And.intro (fun z => absurd rfl z) (fun _ => ?_)
    exact And.intro trivial (hk m1 h1 G1)
  rw [if_pos q] at hk
  refine And.intro (fun _ => ?_) (fun z => absurd z (by decide))
  refine And.intro (fun i0 => ?_) (fun i0 => ?_)
  rotate_left
  · rw [L0, iZ_le (by decide) ri] at i0
    rw [if_pos (by omega)] at hk
    exact And.intro trivial (hk m1 h1 G1)
  rw [L0, iZ_le (by decide) ri] at i0
  rw [if_neg (by omega)] at hk
  have hkn : k.toNat < (wr tm (tm 5) D D.1).1.length := by omega
  obtain ⟨_, t4, t5, t6⟩ := tone_ok hS hS.t5 hkn
  have e6 := hS.end6
  have tp' := S1.1.2.2 _ (tAt_mem hkn)
  have ta := wr_t (tm := tm) (pc := tm 5) hS.dok D.1 (Nat.le_refl _) _ (tAt_mem hkn)
  have hr := S1.1.1.1.at hkn
  have ec : (iZ k).toNatClampNeg = k.toNat := iZ_clamp rk
  have ei : iZ k = iZ (k.toNat : Int) := by rw [Int.toNat_of_nonneg q.1]
  have hin : vp_in (iZ k) 3600 := (iZ_in rk).mpr (by omega)
  generalize tAt (wr tm (tm 5) D D.1).1 k.toNat = t at *
  obtain ⟨pn, ps⟩ := tp'.1
  have s2 : -2 ≤ t.2.2.1 ∧ t.2.2.1 < 68 := ps
  have s4 : natN t.2.2.1 - 1 ≤ t.2.1 ∧ t.2.1 ≤ natN t.2.2.1 + 1 := ta
  have un := unN_rng (t := t.2.2.2.2.2) (by omega)
  have lnr := lnN_rng t.2.2.2.2.2
  have rb : (List.replicate (t.2.1 - natN t.2.2.1).natAbs (sgC (t.2.1 - natN t.2.2.1))).length ≤ 1 := by rw [List.length_replicate]; omega
  have ro := oct_len (o := t.2.2.1 / 7) (by omega)
  have ru := un_len (t := t.2.2.2.2.2) (by omega)
  have rl := ln_len t.2.2.2.2.2
  have nA : ∀ t n k, 34 ≤ t → t ≤ 40 → ¬ ACl t n k := fun t n k a b => by unfold ACl; omega
  refine And.intro trivial ?_
  have Fz : Fr ACl m1 (sI m1 23 231 54 0) := Fr.st (Or.inl ⟨rfl, rfl, rfl⟩)
  have Rz : MCR (sI m1 23 231 54 0) [] := ⟨by rw [gI_s, if_pos ⟨rfl, rfl, rfl⟩]; rfl, fun k hk => absurd hk (Nat.not_lt_zero _)⟩
  have hz := h1.fq (Fz.mono (fun t n k z => ACl_q z))
  have rz := hr.fr Fz nA
  have Gz : Fr AMa m (sI m1 23 231 54 0) := G1.tr (Fz.mono (fun t n k z => AMq_a (ACl_q z)))
  clear hr h1 S1 F1 G1 Fz
  generalize sI m1 23 231 54 0 = m2 at *
  -- what stays behind every call
  have keep : ∀ {m' m'' : Mem}, (MI m' tp td fl tm D ∧ RowM m' k.toNat t ∧ Fr AMa m m') → Fr ACl m' m'' → MI m'' tp td fl tm D ∧ RowM m'' k.toNat t ∧ Fr AMa m m'' := fun q F => ⟨q.1.fq (F.mono (fun t n k z => ACl_q z)), q.2.1.fr F nA, q.2.2.tr (F.mono (fun t n k z => AMq_a (ACl_q z)))⟩
  have Z2 : MI m2 tp td fl tm D ∧ RowM m2 k.toNat t ∧ Fr AMa m m2 := ⟨hz, rz, Gz⟩
  refine wp1_ok (by decide) OK_224 (cc := cd_224) rfl (stops := [59]) (f := 60) ?_
  refine And.intro hin ?_
  refine And.intro (by decide) ?_
  refine And.intro trivial (M_calls (c := 97 + (t.2.2.1 % 7 + 2) % 7) ?_ (by show (0 : Nat) < 60; decide) Rz (fun m3 R3 F3 => ?_))
  · rw [ec, rz.2.2.1, L2, iZ_add, L7, iZ_rem (by constructor <;> omega) (by decide) (by omega) (by decide), L97, iZ_add]
  have Z3 := keep Z2 F3
  refine And.intro trivial (M_alterOf (k := k.toNat) ei (by omega) Z3.1.1.1 Z3.2.1 s2 ?_)
  refine And.intro trivial ?_
  have fin : ∀ m4, MCR m4 ([97 + (t.2.2.1 % 7 + 2) % 7] ++ List.replicate (t.2.1 - natN t.2.2.1).natAbs (sgC (t.2.1 - natN t.2.2.1))) → (MI m4 tp td fl tm D ∧ RowM m4 k.toNat t ∧ Fr AMa m m4) → ∀ x4 : Int32,
      smE true 224 95 [some (vR (some (23, 231))), some (vI (iZ k)), some (vI (iZ i)), some (vI (iZ (t.2.1 - natN t.2.2.1))), some (vI x4)] [] m4 K := by
    intro m4 R4 Z4 x4
    have l4 : ([97 + (t.2.2.1 % 7 + 2) % 7] ++ List.replicate (t.2.1 - natN t.2.2.1).natAbs (sgC (t.2.1 - natN t.2.2.1))).length ≤ 2 := by rw [List.length_append]; show 1 + _ ≤ 2; omega
    have rest : ∀ m5, MCR m5 ([97 + (t.2.2.1 % 7 + 2) % 7] ++ List.replicate (t.2.1 - natN t.2.2.1).natAbs (sgC (t.2.1 - natN t.2.2.1)) ++ preM (decide (t.2.2.1 / 7 < 0))) → (MI m5 tp td fl tm D ∧ RowM m5 k.toNat t ∧ Fr AMa m m5) →
        smE true 224 110 [some (vR (some (23, 231))), some (vI (iZ k)), some (vI (iZ i)), some (vI (iZ (t.2.1 - natN t.2.2.1))), some (vI x4)] [] m5 K := by
      intro m5 R5 Z5
      have pl := preM_len (decide (t.2.2.1 / 7 < 0))
      have o4 : gI m5 38 246 (iZ k).toNatClampNeg = iZ (t.2.2.1 / 7) := by rw [ec]; exact Z5.2.1.2.2.2.1
      have l7 : ∀ {m' : Mem}, RowM m' k.toNat t → gI m' 40 248 (iZ k).toNatClampNeg = iZ (3 * t.2.2.2.2.2) := fun r => by rw [ec]; exact r.2.2.2.2.2.2
      have dgo : (dg (t.2.2.1 / 7).natAbs).length = 1 := by rw [dg_lt (by omega)]; rfl
      have num : ∀ (y : Int32), y = iZ (((t.2.2.1 / 7).natAbs : Nat) : Int) → smE true 224 136 [some (vR (some (23, 231))), some (vI (iZ k)), some (vI (iZ i)), some (vI (iZ (t.2.1 - natN t.2.2.1))), some (vI x4)] [vI y, vR (some (23, 231))] m5 K := by
        intro y hy
        refine wp_ok (by decide) OK_224 (cc := cd_224) rfl (stops := []) 60 _ _ _ _ ?_
        refine And.intro trivial (M_callsN hy (by omega) (by rw [List.length_append]; omega) R5 (fun m6 R6 F6 => ?_))
        have Z6 := keep Z5 F6
        have R6 : MCR m6 ([97 + (t.2.2.1 % 7 + 2) % 7] ++ List.replicate (t.2.1 - natN t.2.2.1).natAbs (sgC (t.2.1 - natN t.2.2.1)) ++ sgs (decide (t.2.2.1 / 7 < 0)) (t.2.2.1 / 7).natAbs) := by
          unfold sgs; rw [← List.append_assoc]; exact R6
        refine And.intro trivial (M_calls (c := 32) rfl (by rw [List.length_append]; omega) R6 (fun m7 R7 F7 => ?_))
        have Z7 := keep Z6 F7
        refine And.intro hin ?_
        refine And.intro trivial (M_part (t := t.2.2.2.2.2) (w := 0) (l7 Z7.2.1) L0 (by omega) (by decide) ?_)
        rw [if_pos rfl]
        refine And.intro trivial (M_callsN (v := (unN t.2.2.2.2.2).toNat) (by rw [Int.toNat_of_nonneg un.1]) (by omega) (by rw [List.length_append, List.length_append]; show _ + _ + 1 + _ ≤ 60; omega) R7 (fun m8 R8 F8 => ?_))
        have Z8 := keep Z7 F8
        refine And.intro trivial (M_calls (c := 47) rfl (by rw [List.length_append, List.length_append, List.length_append]; show _ + _ + 1 + _ < 60; omega) R8 (fun m9 R9 F9 => ?_))
        have Z9 := keep Z8 F9
        refine And.intro hin ?_
        refine And.intro trivial (M_part (t := t.2.2.2.2.2) (w := 1) (l7 Z9.2.1) L1 (by omega) (by decide) ?_)
        rw [if_neg (by decide)]
        refine And.intro trivial (M_callsN (v := (lnN t.2.2.2.2.2).toNat) (by rw [Int.toNat_of_nonneg (by omega)]) (by omega) (by rw [List.length_append, List.length_append, List.length_append, List.length_append]; show _ + _ + 1 + _ + 1 + _ ≤ 60; omega) R9 (fun ma Ra Fa => ?_))
        have Za := keep Z9 Fa
        have Ra : MCR ma (nameT t) := Ra
        have hlen : (nameT t).length ≤ 15 := by
          unfold nameT
          rw [List.length_append, List.length_append, List.length_append, List.length_append, List.length_append, List.length_append]
          show 1 + _ + _ + 1 + (dg _).length + 1 + (dg _).length ≤ 15
          omega
        have hk := hk ma Za.1 Za.2.2
        refine And.intro (fun z => ?_) (fun z => ?_)
        · rw [Ra.1, iZ_le (by constructor <;> omega) ri] at z
          rw [if_neg (by omega)] at hk
          exact And.intro trivial hk
        · rw [Ra.1, iZ_le (by constructor <;> omega) ri] at z
          rw [if_pos (by omega)] at hk
          refine And.intro ((iZ_in ri).mpr (by omega)) ?_
          refine And.intro trivial ?_
          rw [iZ_clamp ri, Ra.2 i.toNat (by omega)]
          exact hk
      refine wp_ok (by decide) OK_224 (cc := cd_224) rfl (stops := [136]) 40 _ _ _ _ ?_
      refine And.intro hin ?_
      refine And.intro (fun z => ?_) (fun z => ?_)
      · rw [o4, L0, iZ_le (by decide) (by constructor <;> omega)] at z
        refine And.intro hin ?_
        exact And.intro trivial (num _ (by rw [o4]; congr 1; omega))
      · rw [o4, L0, iZ_le (by decide) (by constructor <;> omega)] at z
        refine And.intro hin ?_
        exact And.intro trivial (num _ (by rw [o4, iZ_neg]; congr 1; omega))
    have o4 : gI m4 38 246 (iZ k).toNatClampNeg = iZ (t.2.2.1 / 7) := by rw [ec]; exact Z4.2.1.2.2.2.1
    refine wp_ok (by decide) OK_224 (cc := cd_224) rfl (stops := [110]) 40 _ _ _ _ ?_
    refine And.intro hin ?_
    refine And.intro (fun z => ?_) (fun z => ?_)
    · rw [o4, L0, iZ_le (by decide) (by constructor <;> omega)] at z
      refine And.intro trivial (rest m4 ?_ Z4)
      rw [decide_eq_false (by omega)]
      show MCR m4 (_ ++ [])
      rw [List.append_nil]; exact R4
    · rw [o4, L0, iZ_le (by decide) (by constructor <;> omega)] at z
      refine And.intro trivial (M_calls (c := 45) rfl (by omega) R4 (fun m5 R5 F5 => ?_))
      refine And.intro trivial (rest m5 ?_ (keep Z4 F5))
      rw [decide_eq_true (by omega)]
      exact R5
  have loop : ∀ r' q : Nat, q + r' = (t.2.1 - natN t.2.2.1).natAbs → ∀ m4, MCR m4 ([97 + (t.2.2.1 % 7 + 2) % 7] ++ List.replicate q (sgC (t.2.1 - natN t.2.2.1))) → (MI m4 tp td fl tm D ∧ RowM m4 k.toNat t ∧ Fr AMa m m4) →
      smE true 224 59 [some (vR (some (23, 231))), some (vI (iZ k)), some (vI (iZ i)), some (vI (iZ (t.2.1 - natN t.2.2.1))), some (vI (iZ (q : Int)))] [] m4 K := by
    intro r' q eq m4 R4 Z4
    -- the length asked
    have ask : ∀ (m4 : Mem) (q : Nat), q ≤ 1 → (¬ q < (t.2.1 - natN t.2.2.1).natAbs → smE true 224 95 [some (vR (some (23, 231))), some (vI (iZ k)), some (vI (iZ i)), some (vI (iZ (t.2.1 - natN t.2.2.1))), some (vI (iZ (q : Int)))] [] m4 K) → (q < (t.2.1 - natN t.2.2.1).natAbs → smE true 224 74 [some (vR (some (23, 231))), some (vI (iZ k)), some (vI (iZ i)), some (vI (iZ (t.2.1 - natN t.2.2.1))), some (vI (iZ (q : Int)))] [] m4 K) →
        smE true 224 59 [some (vR (some (23, 231))), some (vI (iZ k)), some (vI (iZ i)), some (vI (iZ (t.2.1 - natN t.2.2.1))), some (vI (iZ (q : Int)))] [] m4 K := by
      intro m4 q hq e95 e74
      refine wp1_ok (by decide) OK_224 (cc := cd_224) rfl (stops := [74, 95]) (f := 60) ?_
      refine And.intro (fun z => ?_) (fun z => ?_)
      · rw [L0, iZ_le (by decide) (by constructor <;> omega)] at z
        refine And.intro (fun y => ?_) (fun y => ?_)
        · rw [iZ_le (by constructor <;> omega) (by constructor <;> omega)] at y
          exact And.intro trivial (e95 (by omega))
        · rw [iZ_le (by constructor <;> omega) (by constructor <;> omega)] at y
          exact And.intro trivial (e74 (by omega))
      · rw [L0, iZ_le (by decide) (by constructor <;> omega)] at z
        refine And.intro (fun y => ?_) (fun y => ?_)
        · rw [iZ_neg, iZ_le (by constructor <;> omega) (by constructor <;> omega)] at y
          exact And.intro trivial (e95 (by omega))
        · rw [iZ_neg, iZ_le (by constructor <;> omega) (by constructor <;> omega)] at y
          exact And.intro trivial (e74 (by omega))
    induction r' generalizing q m4 with
    | zero =>
      refine ask m4 q (by omega) (fun _ => ?_) (fun z => by omega)
      have e : q = (t.2.1 - natN t.2.2.1).natAbs := by omega
      rw [e] at R4
      exact fin m4 R4 Z4 _
    | succ r' ih =>
      refine ask m4 q (by omega) (fun z => by omega) (fun _ => ?_)
      have hl60 : ([97 + (t.2.2.1 % 7 + 2) % 7] ++ List.replicate q (sgC (t.2.1 - natN t.2.2.1))).length < 60 := by rw [List.length_append, List.length_replicate]; show 1 + q < 60; omega
      have aft : ∀ m5, MCR m5 ([97 + (t.2.2.1 % 7 + 2) % 7] ++ List.replicate q (sgC (t.2.1 - natN t.2.2.1)) ++ [sgC (t.2.1 - natN t.2.2.1)]) → Fr ACl m4 m5 → smE true 224 59 [some (vR (some (23, 231))), some (vI (iZ k)), some (vI (iZ i)), some (vI (iZ (t.2.1 - natN t.2.2.1))), some (vI (iZ (q : Int) + 1))] [] m5 K := by
        intro m5 R5 F5
        rw [L1, iZ_add]
        refine ih (q + 1) (by omega) m5 ?_ (keep Z4 F5)
        rw [List.replicate_succ', ← List.append_assoc]; exact R5
      refine wp_ok (by decide) OK_224 (cc := cd_224) rfl (stops := [59]) 40 _ _ _ _ ?_
      refine And.intro (fun z => ?_) (fun z => ?_)
      · rw [L0, iZ_le (by decide) (by constructor <;> omega)] at z
        refine And.intro trivial (M_calls (c := sgC (t.2.1 - natN t.2.2.1)) (by unfold sgC; rw [if_pos (by omega)]; rfl) hl60 R4 (fun m5 R5 F5 => ?_))
        exact And.intro trivial (aft m5 R5 F5)
      · rw [L0, iZ_le (by decide) (by constructor <;> omega)] at z
        refine And.intro trivial (M_calls (c := sgC (t.2.1 - natN t.2.2.1)) (by unfold sgC; rw [if_neg (by omega)]; rfl) hl60 R4 (fun m5 R5 F5 => ?_))
        exact And.intro trivial (aft m5 R5 F5)
  exact loop _ 0 (Nat.zero_add _) m3 R3 Z3
end MCALLED
