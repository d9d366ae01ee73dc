/-! GROWTH: frames that allow new cells; Arrays.copyOf; openNote -/
def FX (A B : Nat → Nat → Nat → Prop) (m m' : Mem) : Prop :=
  nX m ≤ nX m' ∧ (∀ t n k, n < nX m → ¬ A t n k → gI m' t n k = gI m t n k) ∧ (∀ t n k, n < nX m → ¬ B t n k → gP m' t n k = gP m t n k) ∧ ∀ t n, n < nX m → gL m' t n = gL m t n
abbrev N3 : Nat → Nat → Nat → Prop := fun _ _ _ => False
theorem FX.rf (A B : Nat → Nat → Nat → Prop) (m : Mem) : FX A B m m := ⟨Nat.le_refl _, fun _ _ _ _ _ => rfl, fun _ _ _ _ _ => rfl, fun _ _ _ => rfl⟩
theorem FX.tr {A B : Nat → Nat → Nat → Prop} {a b c : Mem} (h : FX A B a b) (h2 : FX A B b c) : FX A B a c :=
  ⟨Nat.le_trans h.1 h2.1, fun t n k z y => (h2.2.1 t n k (Nat.lt_of_lt_of_le z h.1) y).trans (h.2.1 t n k z y), fun t n k z y => (h2.2.2.1 t n k (Nat.lt_of_lt_of_le z h.1) y).trans (h.2.2.1 t n k z y), fun t n z => (h2.2.2.2 t n (Nat.lt_of_lt_of_le z h.1)).trans (h.2.2.2 t n z)⟩
theorem FX.mono {A B A' B' : Nat → Nat → Nat → Prop} {a b : Mem} (h : FX A B a b) (ha : ∀ t n k, A t n k → A' t n k) (hb : ∀ t n k, B t n k → B' t n k) : FX A' B' a b :=
  ⟨h.1, fun t n k z y => h.2.1 t n k z (fun q => y (ha t n k q)), fun t n k z y => h.2.2.1 t n k z (fun q => y (hb t n k q)), h.2.2.2⟩
theorem Fr.fx {A B : Nat → Nat → Nat → Prop} {a b : Mem} (h : Fr A a b) : FX A B a b :=
  ⟨by unfold nX; rw [h.1]; exact Nat.le_refl _, fun t n k _ y => h.2 t n k y, fun t n k _ _ => Fr_gP h t n k, fun t n _ => Fr_gL h t n⟩
theorem FX.stI {A B : Nat → Nat → Nat → Prop} {m : Mem} {t n k : Nat} {v : Int32} (h : A t n k) : FX A B m (sI m t n k v) := Fr.fx (Fr.st h)
theorem FX.stP {A B : Nat → Nat → Nat → Prop} {m : Mem} {t n k : Nat} {v : Option Rf} (h : B t n k) : FX A B m (sP m t n k v) := by
  refine ⟨Nat.le_refl _, fun _ _ _ _ _ => rfl, fun t' n' k' _ z => ?_, fun _ _ _ => rfl⟩
  show (if k' = k then (if n' = n then (if t' = t then v else gP m t' n' k') else gP m t' n' k') else gP m t' n' k') = _
  by_cases h1 : k' = k
  · by_cases h2 : n' = n
    · by_cases h3 : t' = t
      · subst h1; subst h2; subst h3; exact absurd h z
      · simp [h1, h2, h3]
    · simp [h1, h2]
  · simp [h1]
theorem gP_s (m : Mem) (t n k : Nat) (v : Option Rf) (t' n' k' : Nat) : gP (sP m t n k v) t' n' k' = if k' = k ∧ n' = n ∧ t' = t then v else gP m t' n' k' := by
  show (if k' = k then (if n' = n then (if t' = t then v else gP m t' n' k') else gP m t' n' k') else gP m t' n' k') = _
  by_cases h1 : k' = k <;> by_cases h2 : n' = n <;> by_cases h3 : t' = t <;> simp [h1, h2, h3]
theorem FX.al {A B : Nat → Nat → Nat → Prop} {m : Mem} {t z : Nat} : FX A B m (al m t z) := by
  refine ⟨Nat.le_succ _, fun t' n' k' h _ => ?_, fun t' n' k' h _ => ?_, fun t' n' h => ?_⟩
  · show (if n' = nX m then (if t' < 60 then 0 else gI m t' n' k') else gI m t' n' k') = _
    rw [if_neg (by omega)]
  · show (if n' = nX m then none else gP m t' n' k') = _
    rw [if_neg (by omega)]
  · show (if n' = nX m then (if t' < 60 then z else gL m t' n') else gL m t' n') = _
    rw [if_neg (by omega)]
section OPEN
variable {m : Mem} {K : Option SV → Mem → Prop} {sc cap i : Nat} {kp lk : Bool} {ts : List Tn} {cur : Int}
theorem c_copyOf {a r z : Nat} {x : Int32} (hx : x = iZ z) (ha : a < nX m) (hr : gL m 20 a = r) (hz : r < z ∧ z ≤ 100000)
    (h : ∀ m', FX N3 N3 m m' → nX m' = nX m + 1 → nS m' = nS m + z → gL m' 20 (nX m) = z → (∀ k, k < r → gI m' 20 (nX m) k = gI m 20 a k) → K (some (vR (some (20, nX m)))) m') : smC true 251 [vR (some (20, a)), vI x] m K := by
  subst hx
  have ez : (iZ (z : Int)).toNatClampNeg = z := by rw [iZ_clamp (by constructor <;> omega)]; omega
  refine smC_wp [some (vR (some (20, a))), some (vI (iZ z)), none] cd_251 [14] 40 OK_251 (by decide) rfl rfl (Nat.le_of_ble_eq_true rfl) ?_
  have ln2 : ln m 20 a = r := hr
  refine And.intro (fun _ => ?_) (fun q => ?_)
  rotate_left
  · have q : iZ (z : Int) = nI (gL m 20 a) := q
    rw [hr, iZ_nI, iZ_eq (by constructor <;> omega) (by constructor <;> omega)] at q
    omega
  refine And.intro trivial ?_
  refine wp1_ok (by decide) OK_251 (cc := cd_251) rfl (stops := []) (f := 40) ?_
  refine And.intro ⟨by rw [L0, iZ_lt (by constructor <;> omega) (by decide)]; omega, by rw [ez]; omega⟩ ?_
  rw [ez]
  have eg : gL (al m 20 z) 20 a = r := ((FX.al (A := N3) (B := N3)).2.2.2 20 a ha).trans hr
  refine And.intro trivial (c_min ?_)
  rw [eg, iZ_nI, iZ_toInt (by constructor <;> omega), iZ_toInt (by constructor <;> omega), show min (r : Int) (z : Int) = (r : Int) by omega]
  have er : (iZ (r : Int)).toNatClampNeg = r := by rw [iZ_clamp (by constructor <;> omega)]; omega
  have e0 : (0 : Int32).toNatClampNeg = 0 := rfl
  have ezn : ln (al m 20 z) 20 (nX m) = z := ln_new (by decide) (Or.inr rfl)
  refine And.intro ⟨?_, by decide, by decide, by rw [L0, iZ_lt (by constructor <;> omega) (by decide)]; omega, ?_, ?_, fun q => absurd q (by decide)⟩ ?_
  · intro q
    have := congrArg Prod.snd q
    simp only at this
    omega
  · rw [er, e0]; show 0 + r ≤ gL (al m 20 z) 20 a; rw [eg]; omega
  · rw [er, e0, ezn]; omega
  refine And.intro trivial ?_
  rw [er, e0]
  refine h _ ?_ rfl rfl ?_ (fun k hk => ?_)
  · have f := FX.al (A := N3) (B := N3) (m := m) (t := 20) (z := z)
    refine ⟨f.1, fun t n k hn y => ?_, f.2.2.1, f.2.2.2⟩
    rw [gI_sA, if_neg (by omega)]
    exact f.2.1 t n k hn y
  · exact ezn
  · rw [gI_sA, if_pos ⟨rfl, rfl⟩, pk_cpy_in (by omega) (by omega)]
    rw [Nat.sub_zero, Nat.zero_add]
    exact (FX.al (A := N3) (B := N3)).2.1 20 a k ha (fun q => q)
def gw : Nat → Nat
  | 0 => 146
  | 1 => 365
  | 2 => 803
  | 3 => 1679
  | 4 => 3431
  | _ => 3504
theorem gw_step : ∀ j, j < 5 → gw (j + 1) = min (2 * gw j + 73) 3504 ∧ gw j < 3504 ∧ 146 ≤ gw j ∧ gw (j + 1) ≤ 3504 := by decide
def RowsG (m : Mem) (sc j : Nat) : Prop := ∃ a1 a2 a3 a4, RowsOK m sc a1 a2 a3 a4 (gw j) ∧ (a1 < nX m ∧ a2 < nX m ∧ a3 < nX m ∧ a4 < nX m) ∧ j ≤ 5
def AO (sc i : Nat) : Nat → Nat → Nat → Prop := fun t n k => (t = 13 ∧ n = sc + 2 ∧ k = i) ∨ (t = 15 ∧ n = sc + 4 ∧ k = i) ∨ (t = 16 ∧ n = sc + 5 ∧ k = i)
def BO (sc : Nat) : Nat → Nat → Nat → Prop := fun t n k => t = 6 ∧ n = sc ∧ (k = 2 ∨ k = 3 ∨ k = 4 ∨ k = 5)
/-- the end of openNote -/
theorem open_end {x2 : Option SV} (hi : i < 48) (hn : gI m 6 sc 1 = iZ ts.length) (h : K none (sI (sI (sI m 13 (sc + 2) i (iZ ts.length)) 15 (sc + 4) i 0) 16 (sc + 5) i 0)) :
    smE true 40 87 [some (vR (some (6, sc))), some (vI (iZ i)), x2] [] m K := by
  have ei : (iZ (i : Int)).toNatClampNeg = i := by rw [iZ_clamp (by constructor <;> omega)]; omega
  have hin : vp_in (iZ (i : Int)) 48 := (iZ_in (by constructor <;> omega)).mpr (by omega)
  refine wp_ok (by decide) OK_40 (cc := cd_40) rfl (stops := []) 40 _ _ _ _ ?_
  refine And.intro hin ?_
  refine And.intro hin ?_
  refine And.intro hin ?_
  refine And.intro trivial ?_
  rw [ei, hn]
  exact h
theorem RepS.keep {m' : Mem} {cap' : Nat} (h : RepS m sc kp cap ts lk cur) (h6 : ∀ k, gI m' 6 sc k = gI m 6 sc k) (hc : ts.length ≤ cap' ∧ cap' ≤ 3504)
    (hr : kp = true → ∃ a1 a2 a3 a4 r, RowsOK m' sc a1 a2 a3 a4 r ∧ cap' ≤ r ∧ RV m' a1 a2 a3 a4 ts) : RepS m' sc kp cap' ts lk cur := by
  obtain ⟨⟨r0, r1, r2, r3, r4⟩, r5, r6⟩ := h
  exact ⟨⟨(h6 0).trans r0, (h6 1).trans r1, (h6 6).trans r2, hr, hc⟩, (h6 7).trans r5, fun t ht => ⟨(h6 8).trans (r6 t ht).1, (h6 9).trans (r6 t ht).2⟩⟩
theorem c_openPaper {x : Int32} (hx : x = iZ i) (hi : i < 48) (hR : RepS m sc false cap ts lk cur) (hl : ts.length + 73 ≤ 3504)
    (h : ∀ m', RepS m' sc false (ts.length + 73) ts lk cur → Fr (AO sc i) m m' → gI m' 13 (sc + 2) i = iZ ts.length → gI m' 15 (sc + 4) i = 0 → gI m' 16 (sc + 5) i = 0 → K none m') : smC true 40 [vR (some (6, sc)), vI x] m K := by
  subst hx
  refine smC_wp [some (vR (some (6, sc))), some (vI (iZ i)), none] cd_40 [87] 40 OK_40 (by decide) rfl rfl (Nat.le_of_ble_eq_true rfl) ?_
  refine And.intro (fun _ => ?_) (fun q => absurd hR.1.1 q)
  refine And.intro trivial (open_end hi hR.1.2.1 (h _ ?_ ?_ ?_ ?_ ?_))
  · exact hR.keep (fun k => by simp [gI_s]) (by omega) (fun q => by cases q)
  · exact (Fr.st (by unfold AO; omega)).tr ((Fr.st (by unfold AO; omega)).tr (Fr.st (by unfold AO; omega)))
  · simp [gI_s]
  · simp [gI_s]
  · simp [gI_s]
end OPEN
