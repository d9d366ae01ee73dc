/-! GROWTH: frames that allow new cells; Arrays.copyOf; openNote -/
def FX (A B : Nat → Nat → Nat → Prop) (m m' : Mem) : Prop :=
  nX m ≤ nX m' ∧ (∀ t n k, n < nX m → ¬ A t n k → gI m' t n k = gI m t n k) ∧ (∀ t n k, n < nX m → ¬ B t n k → gP m' t n k = gP m t n k) ∧ ∀ t n, n < nX m → gL m' t n = gL m t n
abbrev N3 : Nat → Nat → Nat → Prop := fun _ _ _ => False
theorem FX.rf (A B : Nat → Nat → Nat → Prop) (m : Mem) : FX A B m m := ⟨Nat.le_refl _, fun _ _ _ _ _ => rfl, fun _ _ _ _ _ => rfl, fun _ _ _ => rfl⟩
theorem FX.tr {A B : Nat → Nat → Nat → Prop} {a b c : Mem} (h : FX A B a b) (h2 : FX A B b c) : FX A B a c :=
  ⟨Nat.le_trans h.1 h2.1, fun t n k z y => (h2.2.1 t n k (Nat.lt_of_lt_of_le z h.1) y).trans (h.2.1 t n k z y), fun t n k z y => (h2.2.2.1 t n k (Nat.lt_of_lt_of_le z h.1) y).trans (h.2.2.1 t n k z y), fun t n z => (h2.2.2.2 t n (Nat.lt_of_lt_of_le z h.1)).trans (h.2.2.2 t n z)⟩
theorem FX.mono {A B A' B' : Nat → Nat → Nat → Prop} {a b : Mem} (h : FX A B a b) (ha : ∀ t n k, A t n k → A' t n k) (hb : ∀ t n k, B t n k → B' t n k) : FX A' B' a b :=
  ⟨h.1, fun t n k z y => h.2.1 t n k z (fun q => y (ha t n k q)), fun t n k z y => h.2.2.1 t n k z (fun q => y (hb t n k q)), h.2.2.2⟩
theorem Fr.fx {A B : Nat → Nat → Nat → Prop} {a b : Mem} (h : Fr A a b) : FX A B a b :=
  ⟨by unfold nX; rw [h.1]; exact Nat.le_refl _, fun t n k _ y => h.2 t n k y, fun t n k _ _ => Fr_gP h t n k, fun t n _ => Fr_gL h t n⟩
theorem FX.stI {A B : Nat → Nat → Nat → Prop} {m : Mem} {t n k : Nat} {v : Int32} (h : A t n k) : FX A B m (sI m t n k v) := Fr.fx (Fr.st h)
theorem FX.stP {A B : Nat → Nat → Nat → Prop} {m : Mem} {t n k : Nat} {v : Option Rf} (h : B t n k) : FX A B m (sP m t n k v) := by
  refine ⟨Nat.le_refl _, fun _ _ _ _ _ => rfl, fun t' n' k' _ z => ?_, fun _ _ _ => rfl⟩
  show (if k' = k then (if n' = n then (if t' = t then v else gP m t' n' k') else gP m t' n' k') else gP m t' n' k') = _
  by_cases h1 : k' = k
  · by_cases h2 : n' = n
    · by_cases h3 : t' = t
      · subst h1; subst h2; subst h3; exact absurd h z
      · simp [h1, h2, h3]
    · simp [h1, h2]
  · simp [h1]
theorem gP_s (m : Mem) (t n k : Nat) (v : Option Rf) (t' n' k' : Nat) : gP (sP m t n k v) t' n' k' = if k' = k ∧ n' = n ∧ t' = t then v else gP m t' n' k' := by
  show (if k' = k then (if n' = n then (if t' = t then v else gP m t' n' k') else gP m t' n' k') else gP m t' n' k') = _
  by_cases h1 : k' = k <;> by_cases h2 : n' = n <;> by_cases h3 : t' = t <;> simp [h1, h2, h3]
theorem FX.al {A B : Nat → Nat → Nat → Prop} {m : Mem} {t z : Nat} : FX A B m (al m t z) := by
  refine ⟨Nat.le_succ _, fun t' n' k' h _ => ?_, fun t' n' k' h _ => ?_, fun t' n' h => ?_⟩
  · show (if n' = nX m then (if t' < 60 then 0 else gI m t' n' k') else gI m t' n' k') = _
    rw [if_neg (by omega)]
  · show (if n' = nX m then none else gP m t' n' k') = _
    rw [if_neg (by omega)]
  · show (if n' = nX m then (if t' < 60 then z else gL m t' n') else gL m t' n') = _
    rw [if_neg (by omega)]
section OPEN
variable {m : Mem} {K : Option SV → Mem → Prop} {sc cap i : Nat} {kp lk : Bool} {ts : List Tn} {cur : Int}
theorem c_copyOf {a r z : Nat} {x : Int32} (hx : x = iZ z) (ha : a < nX m) (hr : gL m 20 a = r) (hz : r < z ∧ z ≤ 100000)
    (h : ∀ m', FX N3 N3 m m' → nX m' = nX m + 1 → nS m' = nS m + z → gL m' 20 (nX m) = z → (∀ k, k < r → gI m' 20 (nX m) k = gI m 20 a k) → K (some (vR (some (20, nX m)))) m') : smC true 251 [vR (some (20, a)), vI x] m K := by
  subst hx
  have ez : (iZ (z : Int)).toNatClampNeg = z := by rw [iZ_clamp (by constructor <;> omega)]; omega
  refine smC_wp [some (vR (some (20, a))), some (vI (iZ z)), none] cd_251 [14] 40 OK_251 (by decide) rfl rfl (Nat.le_of_ble_eq_true rfl) ?_
  have ln2 : ln m 20 a = r := hr
  refine And.intro (fun _ => ?_) (fun q => ?_)
  rotate_left
  · have q : iZ (z : Int) = nI (gL m 20 a) := q
    rw [hr, iZ_nI, iZ_eq (by constructor <;> omega) (by constructor <;> omega)] at q
    omega
  refine And.intro trivial ?_
  refine wp1_ok (by decide) OK_251 (cc := cd_251) rfl (stops := []) (f := 40) ?_
  refine And.intro ⟨by rw [L0, iZ_lt (by constructor <;> omega) (by decide)]; omega, by rw [ez]; omega⟩ ?_
  rw [ez]
  have eg : gL (al m 20 z) 20 a = r := ((FX.al (A := N3) (B := N3)).2.2.2 20 a ha).trans hr
  refine And.intro trivial (c_min ?_)
  rw [eg, iZ_nI, iZ_toInt (by constructor <;> omega), iZ_toInt (by constructor <;> omega), show min (r : Int) (z : Int) = (r : Int) by omega]
  have er : (iZ (r : Int)).toNatClampNeg = r := by rw [iZ_clamp (by constructor <;> omega)]; omega
  have e0 : (0 : Int32).toNatClampNeg = 0 := rfl
  have ezn : ln (al m 20 z) 20 (nX m) = z := ln_new (by decide) (Or.inr rfl)
  refine And.intro ⟨?_, by decide, by decide, by rw [L0, iZ_lt (by constructor <;> omega) (by decide)]; omega, ?_, ?_, fun q => absurd q (by decide)⟩ ?_
  · intro q
    have := congrArg Prod.snd q
    simp only at this
    omega
  · rw [er, e0]; show 0 + r ≤ gL (al m 20 z) 20 a; rw [eg]; omega
  · rw [er, e0, ezn]; omega
  refine And.intro trivial ?_
  rw [er, e0]
  refine h _ ?_ rfl rfl ?_ (fun k hk => ?_)
  · have f := FX.al (A := N3) (B := N3) (m := m) (t := 20) (z := z)
    refine ⟨f.1, fun t n k hn y => ?_, f.2.2.1, f.2.2.2⟩
    rw [gI_sA, if_neg (by omega)]
    exact f.2.1 t n k hn y
  · exact ezn
  · rw [gI_sA, if_pos ⟨rfl, rfl⟩, pk_cpy_in (by omega) (by omega)]
    rw [Nat.sub_zero, Nat.zero_add]
    exact (FX.al (A := N3) (B := N3)).2.1 20 a k ha (fun q => q)
def gw : Nat → Nat
  | 0 => 146
  | 1 => 365
  | 2 => 803
  | 3 => 1679
  | 4 => 3431
  | _ => 3504
theorem gw_step : ∀ j, j < 5 → gw (j + 1) = min (2 * gw j + 73) 3504 ∧ gw j < 3504 ∧ 146 ≤ gw j ∧ gw (j + 1) ≤ 3504 := by decide
def RowsG (m : Mem) (sc j : Nat) : Prop := ∃ a1 a2 a3 a4, RowsOK m sc a1 a2 a3 a4 (gw j) ∧ (a1 < nX m ∧ a2 < nX m ∧ a3 < nX m ∧ a4 < nX m) ∧ j ≤ 5
def AO (sc i : Nat) : Nat → Nat → Nat → Prop := fun t n k => (t = 13 ∧ n = sc + 2 ∧ k = i) ∨ (t = 15 ∧ n = sc + 4 ∧ k = i) ∨ (t = 16 ∧ n = sc + 5 ∧ k = i)
def BO (sc : Nat) : Nat → Nat → Nat → Prop := fun t n k => t = 6 ∧ n = sc ∧ (k = 2 ∨ k = 3 ∨ k = 4 ∨ k = 5)
/-- the end of openNote -/
theorem open_end {x2 : Option SV} (hi : i < 48) (hn : gI m 6 sc 1 = iZ ts.length) (h : K none (sI (sI (sI m 13 (sc + 2) i (iZ ts.length)) 15 (sc + 4) i 0) 16 (sc + 5) i 0)) :
    smE true 40 87 [some (vR (some (6, sc))), some (vI (iZ i)), x2] [] m K := by
  have ei : (iZ (i : Int)).toNatClampNeg = i := by rw [iZ_clamp (by constructor <;> omega)]; omega
  have hin : vp_in (iZ (i : Int)) 48 := (iZ_in (by constructor <;> omega)).mpr (by omega)
  refine wp_ok (by decide) OK_40 (cc := cd_40) rfl (stops := []) 40 _ _ _ _ ?_
  refine And.intro hin ?_
  refine And.intro hin ?_
  refine And.intro hin ?_
  refine And.intro trivial ?_
  rw [ei, hn]
  exact h
theorem RepS.keep {m' : Mem} {cap' : Nat} (h : RepS m sc kp cap ts lk cur) (h6 : ∀ k, gI m' 6 sc k = gI m 6 sc k) (hc : ts.length ≤ cap' ∧ cap' ≤ 3504)
    (hr : kp = true → ∃ a1 a2 a3 a4 r, RowsOK m' sc a1 a2 a3 a4 r ∧ cap' ≤ r ∧ RV m' a1 a2 a3 a4 ts) : RepS m' sc kp cap' ts lk cur := by
  obtain ⟨⟨r0, r1, r2, r3, r4⟩, r5, r6⟩ := h
  exact ⟨⟨(h6 0).trans r0, (h6 1).trans r1, (h6 6).trans r2, hr, hc⟩, (h6 7).trans r5, fun t ht => ⟨(h6 8).trans (r6 t ht).1, (h6 9).trans (r6 t ht).2⟩⟩
theorem c_openPaper {x : Int32} (hx : x = iZ i) (hi : i < 48) (hR : RepS m sc false cap ts lk cur) (hl : ts.length + 73 ≤ 3504)
    (h : ∀ m', RepS m' sc false (ts.length + 73) ts lk cur → Fr (AO sc i) m m' → gI m' 13 (sc + 2) i = iZ ts.length → gI m' 15 (sc + 4) i = 0 → gI m' 16 (sc + 5) i = 0 → K none m') : smC true 40 [vR (some (6, sc)), vI x] m K := by
  subst hx
  refine smC_wp [some (vR (some (6, sc))), some (vI (iZ i)), none] cd_40 [87] 40 OK_40 (by decide) rfl rfl (Nat.le_of_ble_eq_true rfl) ?_
  refine And.intro (fun _ => ?_) (fun q => absurd hR.1.1 q)
  refine And.intro trivial (open_end hi hR.1.2.1 (h _ ?_ ?_ ?_ ?_ ?_))
  · exact hR.keep (fun k => by simp [gI_s]) (by omega) (fun q => by cases q)
  · exact (Fr.st (by unfold AO; omega)).tr ((Fr.st (by unfold AO; omega)).tr (Fr.st (by unfold AO; omega)))
  · simp [gI_s]
  · simp [gI_s]
  · simp [gI_s]
theorem RV_copy {m m' : Mem} {a1 a2 a3 a4 c1 c2 c3 c4 : Nat} : ∀ {ts : List Tn}, (∀ k, k < ts.length → gI m' 20 c1 k = gI m 20 a1 k ∧ gI m' 20 c2 k = gI m 20 a2 k ∧ gI m' 20 c3 k = gI m 20 a3 k ∧ gI m' 20 c4 k = gI m 20 a4 k) → RV m a1 a2 a3 a4 ts → RV m' c1 c2 c3 c4 ts
  | [], _, _ => trivial
  | t :: ts, h, hr => by
    have hl := h ts.length (Nat.lt_succ_self _)
    exact ⟨⟨hl.1.trans hr.1.1, hl.2.1.trans hr.1.2.1, hl.2.2.1.trans hr.1.2.2.1, hl.2.2.2.trans hr.1.2.2.2⟩, RV_copy (fun k hk => h k (Nat.lt_succ_of_lt hk)) hr.2⟩
theorem c_openKept {j : Nat} {x : Int32} (hx : x = iZ i) (hi : i < 48) (hG : RowsG m sc j) (hR : RepS m sc true cap ts lk cur) (hl : ts.length + 73 ≤ 3504) (hsc : sc + 5 < nX m)
    (h : ∀ m' j', j ≤ j' → RowsG m' sc j' → RepS m' sc true (ts.length + 73) ts lk cur → FX (AO sc i) (BO sc) m m' → nX m' + 4 * j = nX m + 4 * j' → nS m' + 14016 * j ≤ nS m + 14016 * j' → gI m' 13 (sc + 2) i = iZ ts.length → gI m' 15 (sc + 4) i = 0 → gI m' 16 (sc + 5) i = 0 → K none m') : smC true 40 [vR (some (6, sc)), vI x] m K := by
  subst hx
  obtain ⟨a1, a2, a3, a4, hO, hlt, hj⟩ := id hG
  obtain ⟨⟨p1, p2, p3, p4⟩, ⟨g1, g2, g3, g4⟩, ⟨d1, d2, d3, d4, d5, d6⟩, hr35⟩ := id hO
  have e0 := hR.1.1
  have e1 := hR.1.2.1
  have hV : RV m a1 a2 a3 a4 ts ∧ ts.length ≤ gw j := by
    obtain ⟨b1, b2, b3, b4, r, q1, q2, q3⟩ := hR.1.2.2.2.1 rfl
    obtain ⟨⟨u1, u2, u3, u4⟩, ⟨v1, _⟩, _⟩ := q1
    rw [p1] at u1; rw [p2] at u2; rw [p3] at u3; rw [p4] at u4
    cases u1; cases u2; cases u3; cases u4
    exact ⟨q3, by have := hR.1.2.2.2.2.1; omega⟩
  refine smC_wp [some (vR (some (6, sc))), some (vI (iZ i)), none] cd_40 [51, 63, 75, 87] 60 OK_40 (by decide) rfl rfl (Nat.le_of_ble_eq_true rfl) ?_
  refine And.intro (fun q => absurd (e0.symm.trans q) (by decide)) (fun _ => ?_)
  refine Exists.intro _ (And.intro p1 ?_)
  have g1' : ln m 20 a1 = gw j := g1
  refine And.intro (fun q => ?_) (fun q => ?_)
  · have q : gI m 6 sc 1 + 73 ≤ nI (gL m 20 a1) := q
    rw [e1, g1, L73, iZ_add, iZ_nI, iZ_le (by constructor <;> omega) (by constructor <;> omega)] at q
    refine And.intro trivial (open_end hi e1 (h _ j (Nat.le_refl _) ?_ ?_ ?_ ?_ ?_ ?_ ?_ ?_))
    · exact ⟨a1, a2, a3, a4, RowsOK.kept rfl hO, hlt, hj⟩
    · exact hR.keep (fun k => by simp [gI_s]) (by omega) (fun _ => ⟨a1, a2, a3, a4, gw j, RowsOK.kept rfl hO, by omega, RV_keep (fun a k _ => by simp [gI_s]) hV.1⟩)
    · exact (FX.stI (by unfold AO; omega)).tr ((FX.stI (by unfold AO; omega)).tr (FX.stI (by unfold AO; omega)))
    · rfl
    · exact Nat.le_refl _
    · simp [gI_s]
    · simp [gI_s]
    · simp [gI_s]
  have q : ¬ gI m 6 sc 1 + 73 ≤ nI (gL m 20 a1) := q
  rw [e1, g1, L73, iZ_add, iZ_nI, iZ_le (by constructor <;> omega) (by constructor <;> omega)] at q
  have hj5 : j < 5 := by
    rcases Nat.lt_or_ge j 5 with q' | q'
    · exact q'
    · exfalso
      have : j = 5 := by omega
      subst this
      simp only [gw] at q
      omega
  have hs := gw_step j hj5
  refine Exists.intro _ (And.intro p1 ?_)
  refine And.intro trivial (c_min ?_)
  have ez : iZ (min (2 * nI (gL m 20 a1) + 73).toInt (3504 : Int32).toInt) = iZ ((gw (j + 1) : Nat) : Int) := by
    rw [g1, iZ_nI, L2, L73, iZ_mul, iZ_add, iZ_toInt (by constructor <;> omega), show (3504 : Int32).toInt = 3504 from rfl]
    rw [show min (2 * (gw j : Int) + 73) 3504 = ((gw (j + 1) : Nat) : Int) by omega]
  have ez' : iZ (min (2 * nI (ln m 20 a1) + 73).toInt (3504 : Int32).toInt) = iZ ((gw (j + 1) : Nat) : Int) := ez
  refine Exists.intro _ (And.intro p1 ?_)
  refine And.intro trivial (c_copyOf (z := gw (j + 1)) (r := gw j) ez hlt.1 g1 (by omega) (fun m1 F1 n1 s1 l1 k1 => ?_))
  have hB : ∀ t n k, N3 t n k → BO sc t n k := fun _ _ _ q => q.elim
  have hA : ∀ t n k, N3 t n k → N3 t n k := fun _ _ _ q => q
  have G1 : FX N3 (BO sc) m (sP m1 6 sc 2 (some (20, nX m))) := (F1.mono hA hB).tr (FX.stP (by unfold BO; omega))
  refine And.intro trivial ?_
  generalize eM1 : sP m1 6 sc 2 (some (20, nX m)) = M1 at G1 ⊢
  have n1 : nX M1 = nX m + 1 := by rw [← eM1]; exact n1
  have s1 : nS M1 = nS m + gw (j + 1) := by rw [← eM1]; exact s1
  have l1 : gL M1 20 (nX m) = gw (j + 1) := by rw [← eM1]; exact l1
  have k1 : ∀ k, k < gw j → gI M1 20 (nX m) k = gI m 20 a1 k := by rw [← eM1]; exact k1
  have t1 : gP M1 6 sc 2 = some (20, nX m) := by rw [← eM1, gP_s, if_pos ⟨rfl, rfl, rfl⟩]
  have q2 : gP M1 6 sc 3 = some (20, a2) := by rw [← eM1, gP_s, if_neg (by omega)]; exact (F1.2.2.1 6 sc 3 (by omega) (fun q => q)).trans p2
  have q3 : gP M1 6 sc 4 = some (20, a3) := by rw [← eM1, gP_s, if_neg (by omega)]; exact (F1.2.2.1 6 sc 4 (by omega) (fun q => q)).trans p3
  have q4 : gP M1 6 sc 5 = some (20, a4) := by rw [← eM1, gP_s, if_neg (by omega)]; exact (F1.2.2.1 6 sc 5 (by omega) (fun q => q)).trans p4
  clear eM1
  refine wp1_ok (by decide) OK_40 (cc := cd_40) rfl (stops := [51, 63, 75, 87]) (f := 30) ?_
  refine Exists.intro _ (And.intro q2 ?_)
  refine And.intro trivial (c_copyOf (z := gw (j + 1)) (r := gw j) ez (by omega) ((G1.2.2.2 20 a2 (by omega)).trans g2) (by omega) (fun m2 F2 n2 s2 l2 k2 => ?_))
  have G2 : FX N3 (BO sc) M1 (sP m2 6 sc 3 (some (20, nX M1))) := (F2.mono hA hB).tr (FX.stP (by unfold BO; omega))
  refine And.intro trivial ?_
  generalize eM2 : sP m2 6 sc 3 (some (20, nX M1)) = M2 at G2 ⊢
  have n2 : nX M2 = nX M1 + 1 := by rw [← eM2]; exact n2
  have s2 : nS M2 = nS M1 + gw (j + 1) := by rw [← eM2]; exact s2
  have l2 : gL M2 20 (nX M1) = gw (j + 1) := by rw [← eM2]; exact l2
  have k2 : ∀ k, k < gw j → gI M2 20 (nX M1) k = gI M1 20 a2 k := by rw [← eM2]; exact k2
  have t1 : gP M2 6 sc 2 = some (20, nX m) := by rw [← eM2, gP_s, if_neg (by omega)]; exact (F2.2.2.1 6 sc 2 (by omega) (fun q => q)).trans t1
  have t2 : gP M2 6 sc 3 = some (20, nX M1) := by rw [← eM2, gP_s, if_pos ⟨rfl, rfl, rfl⟩]
  have q3 : gP M2 6 sc 4 = some (20, a3) := by rw [← eM2, gP_s, if_neg (by omega)]; exact (F2.2.2.1 6 sc 4 (by omega) (fun q => q)).trans q3
  have q4 : gP M2 6 sc 5 = some (20, a4) := by rw [← eM2, gP_s, if_neg (by omega)]; exact (F2.2.2.1 6 sc 5 (by omega) (fun q => q)).trans q4
  clear eM2
  refine wp1_ok (by decide) OK_40 (cc := cd_40) rfl (stops := [51, 63, 75, 87]) (f := 30) ?_
  refine Exists.intro _ (And.intro q3 ?_)
  refine And.intro trivial (c_copyOf (z := gw (j + 1)) (r := gw j) ez (by omega) (((G1.tr G2).2.2.2 20 a3 (by omega)).trans g3) (by omega) (fun m3 F3 n3 s3 l3 k3 => ?_))
  have G3 : FX N3 (BO sc) M2 (sP m3 6 sc 4 (some (20, nX M2))) := (F3.mono hA hB).tr (FX.stP (by unfold BO; omega))
  refine And.intro trivial ?_
  generalize eM3 : sP m3 6 sc 4 (some (20, nX M2)) = M3 at G3 ⊢
  have n3 : nX M3 = nX M2 + 1 := by rw [← eM3]; exact n3
  have s3 : nS M3 = nS M2 + gw (j + 1) := by rw [← eM3]; exact s3
  have l3 : gL M3 20 (nX M2) = gw (j + 1) := by rw [← eM3]; exact l3
  have k3 : ∀ k, k < gw j → gI M3 20 (nX M2) k = gI M2 20 a3 k := by rw [← eM3]; exact k3
  have t1 : gP M3 6 sc 2 = some (20, nX m) := by rw [← eM3, gP_s, if_neg (by omega)]; exact (F3.2.2.1 6 sc 2 (by omega) (fun q => q)).trans t1
  have t2 : gP M3 6 sc 3 = some (20, nX M1) := by rw [← eM3, gP_s, if_neg (by omega)]; exact (F3.2.2.1 6 sc 3 (by omega) (fun q => q)).trans t2
  have t3 : gP M3 6 sc 4 = some (20, nX M2) := by rw [← eM3, gP_s, if_pos ⟨rfl, rfl, rfl⟩]
  have q4 : gP M3 6 sc 5 = some (20, a4) := by rw [← eM3, gP_s, if_neg (by omega)]; exact (F3.2.2.1 6 sc 5 (by omega) (fun q => q)).trans q4
  clear eM3
  refine wp1_ok (by decide) OK_40 (cc := cd_40) rfl (stops := [51, 63, 75, 87]) (f := 30) ?_
  refine Exists.intro _ (And.intro q4 ?_)
  refine And.intro trivial (c_copyOf (z := gw (j + 1)) (r := gw j) ez (by omega) ((((G1.tr G2).tr G3).2.2.2 20 a4 (by omega)).trans g4) (by omega) (fun m4 F4 n4 s4 l4 k4 => ?_))
  have G4 : FX N3 (BO sc) M3 (sP m4 6 sc 5 (some (20, nX M3))) := (F4.mono hA hB).tr (FX.stP (by unfold BO; omega))
  refine And.intro trivial ?_
  generalize eM4 : sP m4 6 sc 5 (some (20, nX M3)) = M4 at G4 ⊢
  have n4 : nX M4 = nX M3 + 1 := by rw [← eM4]; exact n4
  have s4 : nS M4 = nS M3 + gw (j + 1) := by rw [← eM4]; exact s4
  have l4 : gL M4 20 (nX M3) = gw (j + 1) := by rw [← eM4]; exact l4
  have k4 : ∀ k, k < gw j → gI M4 20 (nX M3) k = gI M3 20 a4 k := by rw [← eM4]; exact k4
  have t1 : gP M4 6 sc 2 = some (20, nX m) := by rw [← eM4, gP_s, if_neg (by omega)]; exact (F4.2.2.1 6 sc 2 (by omega) (fun q => q)).trans t1
  have t2 : gP M4 6 sc 3 = some (20, nX M1) := by rw [← eM4, gP_s, if_neg (by omega)]; exact (F4.2.2.1 6 sc 3 (by omega) (fun q => q)).trans t2
  have t3 : gP M4 6 sc 4 = some (20, nX M2) := by rw [← eM4, gP_s, if_neg (by omega)]; exact (F4.2.2.1 6 sc 4 (by omega) (fun q => q)).trans t3
  have t4 : gP M4 6 sc 5 = some (20, nX M3) := by rw [← eM4, gP_s, if_pos ⟨rfl, rfl, rfl⟩]
  clear eM4
  have H2 := G1.tr G2
  have H3 := H2.tr G3
  have H4 := H3.tr G4
  have I2 := G2.tr (G3.tr G4)
  have hOK : RowsOK M4 sc (nX m) (nX M1) (nX M2) (nX M3) (gw (j + 1)) := by
    refine ⟨⟨t1, t2, t3, t4⟩, ⟨(I2.2.2.2 20 (nX m) (by omega)).trans l1, ((G3.tr G4).2.2.2 20 (nX M1) (by omega)).trans l2, (G4.2.2.2 20 (nX M2) (by omega)).trans l3, l4⟩, ⟨?_, ?_, ?_, ?_, ?_, ?_⟩, hs.2.2.2⟩ <;> omega
  have hV4 : RV M4 (nX m) (nX M1) (nX M2) (nX M3) ts := by
    refine RV_copy (fun k hk => ⟨?_, ?_, ?_, ?_⟩) hV.1
    · exact (I2.2.1 20 (nX m) k (by omega) (fun q => q)).trans (k1 k (by omega))
    · exact ((G3.tr G4).2.1 20 (nX M1) k (by omega) (fun q => q)).trans ((k2 k (by omega)).trans (G1.2.1 20 a2 k (by omega) (fun q => q)))
    · exact (G4.2.1 20 (nX M2) k (by omega) (fun q => q)).trans ((k3 k (by omega)).trans (H2.2.1 20 a3 k (by omega) (fun q => q)))
    · exact (k4 k (by omega)).trans (H3.2.1 20 a4 k (by omega) (fun q => q))
  have h6 : ∀ k, gI M4 6 sc k = gI m 6 sc k := fun k => H4.2.1 6 sc k (by omega) (fun q => q)
  refine open_end hi ((h6 1).trans e1) (h _ (j + 1) (Nat.le_succ _) ?_ ?_ ?_ ?_ ?_ ?_ ?_ ?_)
  · exact ⟨nX m, nX M1, nX M2, nX M3, RowsOK.kept rfl hOK, ⟨by show nX m < nX M4; omega, by show nX M1 < nX M4; omega, by show nX M2 < nX M4; omega, by show nX M3 < nX M4; omega⟩, by omega⟩
  · exact hR.keep (fun k => by simp [gI_s, h6]) (by omega) (fun _ => ⟨nX m, nX M1, nX M2, nX M3, gw (j + 1), RowsOK.kept rfl hOK, by omega, RV_keep (fun a k _ => by simp [gI_s]) hV4⟩)
  · refine (H4.mono (fun _ _ _ q => q.elim) (fun _ _ _ q => q)).tr ((FX.stI (by unfold AO; omega)).tr ((FX.stI (by unfold AO; omega)).tr (FX.stI (by unfold AO; omega))))
  · show nX M4 + 4 * j = _; omega
  · show nS M4 + 14016 * j ≤ _; omega
  · simp [gI_s]
  · simp [gI_s]
  · simp [gI_s]
end OPEN
